def RX0 : String := "SlotChip$Arrivals"
def TX0 : u_T := fun k => match k with
  | 0 => ("SlotChip$Arrivals", "many", "I", false)
  | 1 => ("SlotChip$Arrivals", "delays", "I", false)
  | _ => ("SlotChip$Arrivals", "greatest", "I", false)
def tyX0 : Nat → FieldType := fun k => match k with
  | 0 => .int
  | 1 => .int
  | _ => .int
theorem nmX0 : ∀ a, a < 3 → ∀ b, b < 3 → a ≠ b → (TX0 a).2.1 ≠ (TX0 b).2.1 := by decide +kernel
theorem tyX0_ok : ∀ k, k < 3 → parseFieldDescriptor (TX0 k).2.2.1 = some (tyX0 k) := by decide +kernel
abbrev cX0_init : ByteArray := prog_2_method_1_code
def yX0_init : MethodName := ⟨RX0, "<init>", "()V"⟩
abbrev cX0_clear : ByteArray := prog_2_method_2_code
def yX0_clear : MethodName := ⟨RX0, "clear", "()V"⟩
abbrev cX0_add : ByteArray := prog_2_method_3_code
def yX0_add : MethodName := ⟨RX0, "add", "(I)V"⟩
abbrev cX0_tell : ByteArray := prog_2_method_4_code
def yX0_tell : MethodName := ⟨RX0, "tell", "(I)I"⟩
abbrev cX0_compareWith : ByteArray := prog_2_method_5_code
def yX0_compareWith : MethodName := ⟨RX0, "compareWith", "(LSlotChip$Arrivals;)I"⟩
def RX1 : String := "SlotChip$Board"
def TX1 : u_T := fun k => match k with
  | 0 => ("SlotChip$Board", "grid", "LSlotChip$Grid;", true)
  | 1 => ("SlotChip$Board", "slots", "I", false)
  | 2 => ("SlotChip$Board", "time", "I", false)
  | 3 => ("SlotChip$Board", "broken", "[Z", true)
  | 4 => ("SlotChip$Board", "uses", "[I", true)
  | _ => ("SlotChip$Board", "owners", "[I", true)
def tyX1 : Nat → FieldType := fun k => match k with
  | 0 => .object "SlotChip$Grid"
  | 1 => .int
  | 2 => .int
  | 3 => .array .boolean
  | 4 => .array .int
  | _ => .array .int
theorem nmX1 : ∀ a, a < 6 → ∀ b, b < 6 → a ≠ b → (TX1 a).2.1 ≠ (TX1 b).2.1 := by decide +kernel
theorem tyX1_ok : ∀ k, k < 6 → parseFieldDescriptor (TX1 k).2.2.1 = some (tyX1 k) := by decide +kernel
abbrev cX1_init : ByteArray := prog_3_method_1_code
def yX1_init : MethodName := ⟨RX1, "<init>", "()V"⟩
abbrev cX1_set : ByteArray := prog_3_method_2_code
def yX1_set : MethodName := ⟨RX1, "set", "(LSlotChip$Page;)V"⟩
abbrev cX1_isThere : ByteArray := prog_3_method_3_code
def yX1_isThere : MethodName := ⟨RX1, "isThere", "()Z"⟩
abbrev cX1_slotNow : ByteArray := prog_3_method_4_code
def yX1_slotNow : MethodName := ⟨RX1, "slotNow", "()I"⟩
abbrev cX1_isBroken : ByteArray := prog_3_method_5_code
def yX1_isBroken : MethodName := ⟨RX1, "isBroken", "(I)Z"⟩
abbrev cX1_setBroken : ByteArray := prog_3_method_6_code
def yX1_setBroken : MethodName := ⟨RX1, "setBroken", "(IZ)V"⟩
abbrev cX1_use : ByteArray := prog_3_method_7_code
def yX1_use : MethodName := ⟨RX1, "use", "(I)V"⟩
abbrev cX1_ownerOf : ByteArray := prog_3_method_8_code
def yX1_ownerOf : MethodName := ⟨RX1, "ownerOf", "(II)I"⟩
abbrev cX1_mark : ByteArray := prog_3_method_9_code
def yX1_mark : MethodName := ⟨RX1, "mark", "(LSlotChip$Circuit;I)V"⟩
abbrev cX1_freeStarts : ByteArray := prog_3_method_10_code
def yX1_freeStarts : MethodName := ⟨RX1, "freeStarts", "(II)I"⟩
abbrev cX1_slotsHad : ByteArray := prog_3_method_11_code
def yX1_slotsHad : MethodName := ⟨RX1, "slotsHad", "(I)I"⟩
abbrev cX1_brokenLinks : ByteArray := prog_3_method_12_code
def yX1_brokenLinks : MethodName := ⟨RX1, "brokenLinks", "()I"⟩
abbrev cX1_tell : ByteArray := prog_3_method_13_code
def yX1_tell : MethodName := ⟨RX1, "tell", "(I)I"⟩
abbrev cX1_tellLink : ByteArray := prog_3_method_14_code
def yX1_tellLink : MethodName := ⟨RX1, "tellLink", "(II)I"⟩
abbrev cX1_slotOf : ByteArray := prog_3_method_15_code
def yX1_slotOf : MethodName := ⟨RX1, "slotOf", "(II)I"⟩
abbrev cX1_setOwner : ByteArray := prog_3_method_16_code
def yX1_setOwner : MethodName := ⟨RX1, "setOwner", "(III)V"⟩
abbrev cX1_links : ByteArray := prog_3_method_17_code
def yX1_links : MethodName := ⟨RX1, "links", "()I"⟩
abbrev cX1_allSlotsHad : ByteArray := prog_3_method_18_code
def yX1_allSlotsHad : MethodName := ⟨RX1, "allSlotsHad", "()I"⟩
abbrev cX1_mostUsed : ByteArray := prog_3_method_19_code
def yX1_mostUsed : MethodName := ⟨RX1, "mostUsed", "()I"⟩
def RX2 : String := "SlotChip$Circuit"
def TX2 : u_T := fun k => match k with
  | 0 => ("SlotChip$Circuit", "number", "I", true)
  | 1 => ("SlotChip$Circuit", "live", "Z", false)
  | 2 => ("SlotChip$Circuit", "kind", "I", false)
  | 3 => ("SlotChip$Circuit", "from", "I", false)
  | 4 => ("SlotChip$Circuit", "to", "I", false)
  | 5 => ("SlotChip$Circuit", "n", "I", false)
  | 6 => ("SlotChip$Circuit", "hops", "I", false)
  | 7 => ("SlotChip$Circuit", "back", "I", false)
  | 8 => ("SlotChip$Circuit", "queue", "I", false)
  | 9 => ("SlotChip$Circuit", "come", "I", false)
  | 10 => ("SlotChip$Circuit", "owed", "I", false)
  | 11 => ("SlotChip$Circuit", "credits", "I", false)
  | 12 => ("SlotChip$Circuit", "done", "I", false)
  | 13 => ("SlotChip$Circuit", "window", "I", false)
  | 14 => ("SlotChip$Circuit", "opened", "I", false)
  | 15 => ("SlotChip$Circuit", "starts", "I", false)
  | 16 => ("SlotChip$Circuit", "links", "[I", true)
  | _ => ("SlotChip$Circuit", "letters", "[I", true)
def tyX2 : Nat → FieldType := fun k => match k with
  | 0 => .int
  | 1 => .boolean
  | 2 => .int
  | 3 => .int
  | 4 => .int
  | 5 => .int
  | 6 => .int
  | 7 => .int
  | 8 => .int
  | 9 => .int
  | 10 => .int
  | 11 => .int
  | 12 => .int
  | 13 => .int
  | 14 => .int
  | 15 => .int
  | 16 => .array .int
  | _ => .array .int
theorem nmX2 : ∀ a, a < 18 → ∀ b, b < 18 → a ≠ b → (TX2 a).2.1 ≠ (TX2 b).2.1 := by decide +kernel
theorem tyX2_ok : ∀ k, k < 18 → parseFieldDescriptor (TX2 k).2.2.1 = some (tyX2 k) := by decide +kernel
abbrev cX2_init : ByteArray := prog_4_method_1_code
def yX2_init : MethodName := ⟨RX2, "<init>", "(I)V"⟩
abbrev cX2_set : ByteArray := prog_4_method_2_code
def yX2_set : MethodName := ⟨RX2, "set", "(IIIIII)V"⟩
abbrev cX2_setRoute : ByteArray := prog_4_method_3_code
def yX2_setRoute : MethodName := ⟨RX2, "setRoute", "([III)V"⟩
abbrev cX2_places : ByteArray := prog_4_method_4_code
def yX2_places : MethodName := ⟨RX2, "places", "()I"⟩
abbrev cX2_linkAt : ByteArray := prog_4_method_5_code
def yX2_linkAt : MethodName := ⟨RX2, "linkAt", "(I)I"⟩
abbrev cX2_hasStart : ByteArray := prog_4_method_6_code
def yX2_hasStart : MethodName := ⟨RX2, "hasStart", "(I)Z"⟩
abbrev cX2_startAt : ByteArray := prog_4_method_7_code
def yX2_startAt : MethodName := ⟨RX2, "startAt", "(I)I"⟩
abbrev cX2_isOf : ByteArray := prog_4_method_8_code
def yX2_isOf : MethodName := ⟨RX2, "isOf", "(I)Z"⟩
abbrev cX2_isReverseOf : ByteArray := prog_4_method_9_code
def yX2_isReverseOf : MethodName := ⟨RX2, "isReverseOf", "(LSlotChip$Circuit;)Z"⟩
abbrev cX2_isFasterThan : ByteArray := prog_4_method_10_code
def yX2_isFasterThan : MethodName := ⟨RX2, "isFasterThan", "(LSlotChip$Circuit;I)Z"⟩
abbrev cX2_lettersUnderWay : ByteArray := prog_4_method_11_code
def yX2_lettersUnderWay : MethodName := ⟨RX2, "lettersUnderWay", "()I"⟩
abbrev cX2_letterAt : ByteArray := prog_4_method_12_code
def yX2_letterAt : MethodName := ⟨RX2, "letterAt", "(I)I"⟩
abbrev cX2_hasLetterOn : ByteArray := prog_4_method_13_code
def yX2_hasLetterOn : MethodName := ⟨RX2, "hasLetterOn", "(I)Z"⟩
abbrev cX2_send : ByteArray := prog_4_method_14_code
def yX2_send : MethodName := ⟨RX2, "send", "(LSlotChip$Circuit;)V"⟩
abbrev cX2_useLinks : ByteArray := prog_4_method_15_code
def yX2_useLinks : MethodName := ⟨RX2, "useLinks", "(LSlotChip$Board;)V"⟩
abbrev cX2_advance : ByteArray := prog_4_method_16_code
def yX2_advance : MethodName := ⟨RX2, "advance", "(LSlotChip$Circuit;)I"⟩
abbrev cX2_deliver : ByteArray := prog_4_method_17_code
def yX2_deliver : MethodName := ⟨RX2, "deliver", "(ILSlotChip$Circuit;)I"⟩
abbrev cX2_letterOf : ByteArray := prog_4_method_18_code
def yX2_letterOf : MethodName := ⟨RX2, "letterOf", "(II)I"⟩
abbrev cX2_goodsOf : ByteArray := prog_4_method_19_code
def yX2_goodsOf : MethodName := ⟨RX2, "goodsOf", "(I)I"⟩
abbrev cX2_toldOf : ByteArray := prog_4_method_20_code
def yX2_toldOf : MethodName := ⟨RX2, "toldOf", "(I)I"⟩
abbrev cX2_tellMade : ByteArray := prog_4_method_21_code
def yX2_tellMade : MethodName := ⟨RX2, "tellMade", "(II)I"⟩
abbrev cX2_tellMoving : ByteArray := prog_4_method_22_code
def yX2_tellMoving : MethodName := ⟨RX2, "tellMoving", "(I)I"⟩
abbrev cX2_shareOf : ByteArray := prog_4_method_23_code
def yX2_shareOf : MethodName := ⟨RX2, "shareOf", "(I)I"⟩
def RX3 : String := "SlotChip$Circuits"
def TX3 : u_T := fun k => match k with
  | _ => ("SlotChip$Circuits", "all", "[LSlotChip$Circuit;", true)
def tyX3 : Nat → FieldType := fun k => match k with
  | _ => .array (.object "SlotChip$Circuit")
theorem nmX3 : ∀ a, a < 1 → ∀ b, b < 1 → a ≠ b → (TX3 a).2.1 ≠ (TX3 b).2.1 := by decide +kernel
theorem tyX3_ok : ∀ k, k < 1 → parseFieldDescriptor (TX3 k).2.2.1 = some (tyX3 k) := by decide +kernel
abbrev cX3_init : ByteArray := prog_5_method_1_code
def yX3_init : MethodName := ⟨RX3, "<init>", "()V"⟩
abbrev cX3_clear : ByteArray := prog_5_method_2_code
def yX3_clear : MethodName := ⟨RX3, "clear", "()V"⟩
abbrev cX3_find : ByteArray := prog_5_method_3_code
def yX3_find : MethodName := ⟨RX3, "find", "(I)LSlotChip$Circuit;"⟩
abbrev cX3_firstUnused : ByteArray := prog_5_method_4_code
def yX3_firstUnused : MethodName := ⟨RX3, "firstUnused", "()LSlotChip$Circuit;"⟩
abbrev cX3_fastestAt : ByteArray := prog_5_method_5_code
def yX3_fastestAt : MethodName := ⟨RX3, "fastestAt", "(I)I"⟩
abbrev cX3_sumOf : ByteArray := prog_5_method_6_code
def yX3_sumOf : MethodName := ⟨RX3, "sumOf", "(I)I"⟩
def RX4 : String := "SlotChip$Grid"
def TX4 : u_T := fun k => match k with
  | 0 => ("SlotChip$Grid", "width", "I", false)
  | 1 => ("SlotChip$Grid", "height", "I", false)
  | _ => ("SlotChip$Grid", "ends", "[I", true)
def tyX4 : Nat → FieldType := fun k => match k with
  | 0 => .int
  | 1 => .int
  | _ => .array .int
theorem nmX4 : ∀ a, a < 3 → ∀ b, b < 3 → a ≠ b → (TX4 a).2.1 ≠ (TX4 b).2.1 := by decide +kernel
theorem tyX4_ok : ∀ k, k < 3 → parseFieldDescriptor (TX4 k).2.2.1 = some (tyX4 k) := by decide +kernel
abbrev cX4_init : ByteArray := prog_6_method_1_code
def yX4_init : MethodName := ⟨RX4, "<init>", "()V"⟩
abbrev cX4_set : ByteArray := prog_6_method_2_code
def yX4_set : MethodName := ⟨RX4, "set", "(II)V"⟩
abbrev cX4_routers : ByteArray := prog_6_method_3_code
def yX4_routers : MethodName := ⟨RX4, "routers", "()I"⟩
abbrev cX4_hasRouter : ByteArray := prog_6_method_4_code
def yX4_hasRouter : MethodName := ⟨RX4, "hasRouter", "(I)Z"⟩
abbrev cX4_column : ByteArray := prog_6_method_5_code
def yX4_column : MethodName := ⟨RX4, "column", "(I)I"⟩
abbrev cX4_row : ByteArray := prog_6_method_6_code
def yX4_row : MethodName := ⟨RX4, "row", "(I)I"⟩
abbrev cX4_hasLink : ByteArray := prog_6_method_7_code
def yX4_hasLink : MethodName := ⟨RX4, "hasLink", "(I)Z"⟩
abbrev cX4_hasInnerLink : ByteArray := prog_6_method_8_code
def yX4_hasInnerLink : MethodName := ⟨RX4, "hasInnerLink", "(I)Z"⟩
abbrev cX4_endOf : ByteArray := prog_6_method_9_code
def yX4_endOf : MethodName := ⟨RX4, "endOf", "(I)I"⟩
abbrev cX4_endBeside : ByteArray := prog_6_method_10_code
def yX4_endBeside : MethodName := ⟨RX4, "endBeside", "(II)I"⟩
def RX5 : String := "SlotChip$Page"
def TX5 : u_T := fun k => match k with
  | 0 => ("SlotChip$Page", "length", "I", false)
  | 1 => ("SlotChip$Page", "width", "I", false)
  | 2 => ("SlotChip$Page", "height", "I", false)
  | 3 => ("SlotChip$Page", "slots", "I", false)
  | 4 => ("SlotChip$Page", "isChip", "Z", false)
  | 5 => ("SlotChip$Page", "codes", "[I", true)
  | 6 => ("SlotChip$Page", "grid", "LSlotChip$Grid;", true)
  | 7 => ("SlotChip$Page", "nameable", "[Z", true)
  | _ => ("SlotChip$Page", "router", "I", false)
def tyX5 : Nat → FieldType := fun k => match k with
  | 0 => .int
  | 1 => .int
  | 2 => .int
  | 3 => .int
  | 4 => .boolean
  | 5 => .array .int
  | 6 => .object "SlotChip$Grid"
  | 7 => .array .boolean
  | _ => .int
theorem nmX5 : ∀ a, a < 9 → ∀ b, b < 9 → a ≠ b → (TX5 a).2.1 ≠ (TX5 b).2.1 := by decide +kernel
theorem tyX5_ok : ∀ k, k < 9 → parseFieldDescriptor (TX5 k).2.2.1 = some (tyX5 k) := by decide +kernel
abbrev cX5_init : ByteArray := prog_7_method_1_code
def yX5_init : MethodName := ⟨RX5, "<init>", "()V"⟩
abbrev cX5_add : ByteArray := prog_7_method_2_code
def yX5_add : MethodName := ⟨RX5, "add", "(I)Z"⟩
abbrev cX5_codeAt : ByteArray := prog_7_method_3_code
def yX5_codeAt : MethodName := ⟨RX5, "codeAt", "(I)I"⟩
abbrev cX5_read : ByteArray := prog_7_method_4_code
def yX5_read : MethodName := ⟨RX5, "read", "()I"⟩
abbrev cX5_namesBroken : ByteArray := prog_7_method_5_code
def yX5_namesBroken : MethodName := ⟨RX5, "namesBroken", "(I)Z"⟩
abbrev cX5_takes : ByteArray := prog_7_method_6_code
def yX5_takes : MethodName := ⟨RX5, "takes", "(II)Z"⟩
abbrev cX5_layGrid : ByteArray := prog_7_method_7_code
def yX5_layGrid : MethodName := ⟨RX5, "layGrid", "()V"⟩
abbrev cX5_takesZero : ByteArray := prog_7_method_8_code
def yX5_takesZero : MethodName := ⟨RX5, "takesZero", "(I)Z"⟩
abbrev cX5_partOfBreak : ByteArray := prog_7_method_9_code
def yX5_partOfBreak : MethodName := ⟨RX5, "partOfBreak", "(I)I"⟩
abbrev cX5_takesBreak : ByteArray := prog_7_method_10_code
def yX5_takesBreak : MethodName := ⟨RX5, "takesBreak", "(II)Z"⟩
abbrev cX5_anyNameable : ByteArray := prog_7_method_11_code
def yX5_anyNameable : MethodName := ⟨RX5, "anyNameable", "(II)Z"⟩
abbrev cX5_takesPort : ByteArray := prog_7_method_12_code
def yX5_takesPort : MethodName := ⟨RX5, "takesPort", "(I)Z"⟩
abbrev cX5_portOf : ByteArray := prog_7_method_13_code
def yX5_portOf : MethodName := ⟨RX5, "portOf", "(I)I"⟩
def RX6 : String := "SlotChip$Search"
def TX6 : u_T := fun k => match k with
  | 0 => ("SlotChip$Search", "board", "LSlotChip$Board;", true)
  | 1 => ("SlotChip$Search", "way", "[I", true)
  | 2 => ("SlotChip$Search", "passed", "[Z", true)
  | 3 => ("SlotChip$Search", "kind", "I", false)
  | 4 => ("SlotChip$Search", "goal", "I", false)
  | 5 => ("SlotChip$Search", "n", "I", false)
  | 6 => ("SlotChip$Search", "length", "I", false)
  | 7 => ("SlotChip$Search", "starts", "I", false)
  | _ => ("SlotChip$Search", "reached", "Z", false)
def tyX6 : Nat → FieldType := fun k => match k with
  | 0 => .object "SlotChip$Board"
  | 1 => .array .int
  | 2 => .array .boolean
  | 3 => .int
  | 4 => .int
  | 5 => .int
  | 6 => .int
  | 7 => .int
  | _ => .boolean
theorem nmX6 : ∀ a, a < 9 → ∀ b, b < 9 → a ≠ b → (TX6 a).2.1 ≠ (TX6 b).2.1 := by decide +kernel
theorem tyX6_ok : ∀ k, k < 9 → parseFieldDescriptor (TX6 k).2.2.1 = some (tyX6 k) := by decide +kernel
abbrev cX6_init : ByteArray := prog_8_method_1_code
def yX6_init : MethodName := ⟨RX6, "<init>", "(LSlotChip$Board;)V"⟩
abbrev cX6_find : ByteArray := prog_8_method_2_code
def yX6_find : MethodName := ⟨RX6, "find", "(IIII)Z"⟩
abbrev cX6_giveTo : ByteArray := prog_8_method_3_code
def yX6_giveTo : MethodName := ⟨RX6, "giveTo", "(LSlotChip$Circuit;)V"⟩
abbrev cX6_walk : ByteArray := prog_8_method_4_code
def yX6_walk : MethodName := ⟨RX6, "walk", "(III)V"⟩
abbrev cX6_hop : ByteArray := prog_8_method_5_code
def yX6_hop : MethodName := ⟨RX6, "hop", "(III)V"⟩
abbrev cX6_end : ByteArray := prog_8_method_6_code
def yX6_end : MethodName := ⟨RX6, "end", "(III)V"⟩
def RX7 : String := "SlotChip$Starts"
def TX7 : u_T := fun k => match k with
  | _ => ("", "", "", false)
def tyX7 : Nat → FieldType := fun k => match k with
  | _ => .int
theorem nmX7 : ∀ a, a < 0 → ∀ b, b < 0 → a ≠ b → (TX7 a).2.1 ≠ (TX7 b).2.1 := by decide +kernel
theorem tyX7_ok : ∀ k, k < 0 → parseFieldDescriptor (TX7 k).2.2.1 = some (tyX7 k) := by decide +kernel
abbrev cX7_choose : ByteArray := prog_9_method_2_code
def yX7_choose : MethodName := ⟨RX7, "choose", "(IIII)I"⟩
abbrev cX7_gapOf : ByteArray := prog_9_method_3_code
def yX7_gapOf : MethodName := ⟨RX7, "gapOf", "(II)I"⟩
abbrev cX7_least : ByteArray := prog_9_method_4_code
def yX7_least : MethodName := ⟨RX7, "least", "(II)I"⟩
abbrev cX7_firstRun : ByteArray := prog_9_method_5_code
def yX7_firstRun : MethodName := ⟨RX7, "firstRun", "(III)I"⟩
abbrev cX7_burstFrom : ByteArray := prog_9_method_6_code
def yX7_burstFrom : MethodName := ⟨RX7, "burstFrom", "(III)I"⟩
abbrev cX7_evenest : ByteArray := prog_9_method_7_code
def yX7_evenest : MethodName := ⟨RX7, "evenest", "(III)I"⟩
abbrev cX7_comesAhead : ByteArray := prog_9_method_8_code
def yX7_comesAhead : MethodName := ⟨RX7, "comesAhead", "(II)Z"⟩
def RX8 : String := "SlotChip$Stray"
def TX8 : u_T := fun k => match k with
  | 0 => ("SlotChip$Stray", "urgent", "Z", false)
  | 1 => ("SlotChip$Stray", "isOut", "Z", false)
  | 2 => ("SlotChip$Stray", "nextLink", "I", false)
  | 3 => ("SlotChip$Stray", "from", "I", false)
  | 4 => ("SlotChip$Stray", "to", "I", false)
  | 5 => ("SlotChip$Stray", "at", "I", false)
  | _ => ("SlotChip$Stray", "came", "I", false)
def tyX8 : Nat → FieldType := fun k => match k with
  | 0 => .boolean
  | 1 => .boolean
  | 2 => .int
  | 3 => .int
  | 4 => .int
  | 5 => .int
  | _ => .int
theorem nmX8 : ∀ a, a < 7 → ∀ b, b < 7 → a ≠ b → (TX8 a).2.1 ≠ (TX8 b).2.1 := by decide +kernel
theorem tyX8_ok : ∀ k, k < 7 → parseFieldDescriptor (TX8 k).2.2.1 = some (tyX8 k) := by decide +kernel
abbrev cX8_init : ByteArray := prog_10_method_1_code
def yX8_init : MethodName := ⟨RX8, "<init>", "()V"⟩
abbrev cX8_set : ByteArray := prog_10_method_2_code
def yX8_set : MethodName := ⟨RX8, "set", "(IIZI)V"⟩
abbrev cX8_tell : ByteArray := prog_10_method_3_code
def yX8_tell : MethodName := ⟨RX8, "tell", "(ILSlotChip$Board;)I"⟩
abbrev cX8_age : ByteArray := prog_10_method_4_code
def yX8_age : MethodName := ⟨RX8, "age", "(I)I"⟩
abbrev cX8_linkAhead : ByteArray := prog_10_method_5_code
def yX8_linkAhead : MethodName := ⟨RX8, "linkAhead", "(LSlotChip$Grid;)I"⟩
abbrev cX8_portAhead : ByteArray := prog_10_method_6_code
def yX8_portAhead : MethodName := ⟨RX8, "portAhead", "(LSlotChip$Grid;)I"⟩
abbrev cX8_goOn : ByteArray := prog_10_method_7_code
def yX8_goOn : MethodName := ⟨RX8, "goOn", "(LSlotChip$Grid;)V"⟩
def RX9 : String := "SlotChip$Strays"
def TX9 : u_T := fun k => match k with
  | 0 => ("SlotChip$Strays", "many", "I", false)
  | 1 => ("SlotChip$Strays", "board", "LSlotChip$Board;", true)
  | 2 => ("SlotChip$Strays", "line", "[LSlotChip$Stray;", true)
  | 3 => ("SlotChip$Strays", "urgentOnes", "LSlotChip$Arrivals;", true)
  | 4 => ("SlotChip$Strays", "others", "LSlotChip$Arrivals;", true)
  | _ => ("SlotChip$Strays", "seed", "I", false)
def tyX9 : Nat → FieldType := fun k => match k with
  | 0 => .int
  | 1 => .object "SlotChip$Board"
  | 2 => .array (.object "SlotChip$Stray")
  | 3 => .object "SlotChip$Arrivals"
  | 4 => .object "SlotChip$Arrivals"
  | _ => .int
theorem nmX9 : ∀ a, a < 6 → ∀ b, b < 6 → a ≠ b → (TX9 a).2.1 ≠ (TX9 b).2.1 := by decide +kernel
theorem tyX9_ok : ∀ k, k < 6 → parseFieldDescriptor (TX9 k).2.2.1 = some (tyX9 k) := by decide +kernel
abbrev cX9_init : ByteArray := prog_11_method_1_code
def yX9_init : MethodName := ⟨RX9, "<init>", "(LSlotChip$Board;)V"⟩
abbrev cX9_clear : ByteArray := prog_11_method_2_code
def yX9_clear : MethodName := ⟨RX9, "clear", "()V"⟩
abbrev cX9_find : ByteArray := prog_11_method_3_code
def yX9_find : MethodName := ⟨RX9, "find", "(I)LSlotChip$Stray;"⟩
abbrev cX9_arrivals : ByteArray := prog_11_method_4_code
def yX9_arrivals : MethodName := ⟨RX9, "arrivals", "(Z)LSlotChip$Arrivals;"⟩
abbrev cX9_add : ByteArray := prog_11_method_5_code
def yX9_add : MethodName := ⟨RX9, "add", "(IIZ)Z"⟩
abbrev cX9_addDrawn : ByteArray := prog_11_method_6_code
def yX9_addDrawn : MethodName := ⟨RX9, "addDrawn", "(II)I"⟩
abbrev cX9_draw : ByteArray := prog_11_method_7_code
def yX9_draw : MethodName := ⟨RX9, "draw", "(I)I"⟩
abbrev cX9_lookAhead : ByteArray := prog_11_method_8_code
def yX9_lookAhead : MethodName := ⟨RX9, "lookAhead", "()V"⟩
abbrev cX9_isFirst : ByteArray := prog_11_method_9_code
def yX9_isFirst : MethodName := ⟨RX9, "isFirst", "(I)Z"⟩
abbrev cX9_letOut : ByteArray := prog_11_method_10_code
def yX9_letOut : MethodName := ⟨RX9, "letOut", "()I"⟩
def RX10 : String := "SlotChip$Traffic"
def TX10 : u_T := fun k => match k with
  | 0 => ("SlotChip$Traffic", "board", "LSlotChip$Board;", true)
  | 1 => ("SlotChip$Traffic", "circuits", "LSlotChip$Circuits;", true)
  | _ => ("SlotChip$Traffic", "strays", "LSlotChip$Strays;", true)
def tyX10 : Nat → FieldType := fun k => match k with
  | 0 => .object "SlotChip$Board"
  | 1 => .object "SlotChip$Circuits"
  | _ => .object "SlotChip$Strays"
theorem nmX10 : ∀ a, a < 3 → ∀ b, b < 3 → a ≠ b → (TX10 a).2.1 ≠ (TX10 b).2.1 := by decide +kernel
theorem tyX10_ok : ∀ k, k < 3 → parseFieldDescriptor (TX10 k).2.2.1 = some (tyX10 k) := by decide +kernel
abbrev cX10_init : ByteArray := prog_12_method_1_code
def yX10_init : MethodName := ⟨RX10, "<init>", "(LSlotChip$Board;LSlotChip$Circuits;LSlotChip$Strays;)V"⟩
abbrev cX10_goOn : ByteArray := prog_12_method_2_code
def yX10_goOn : MethodName := ⟨RX10, "goOn", "()I"⟩
abbrev cX10_sendLetters : ByteArray := prog_12_method_3_code
def yX10_sendLetters : MethodName := ⟨RX10, "sendLetters", "()V"⟩
abbrev cX10_moveStrays : ByteArray := prog_12_method_4_code
def yX10_moveStrays : MethodName := ⟨RX10, "moveStrays", "()V"⟩
abbrev cX10_isFree : ByteArray := prog_12_method_5_code
def yX10_isFree : MethodName := ⟨RX10, "isFree", "(I)Z"⟩
abbrev cX10_moveLetters : ByteArray := prog_12_method_6_code
def yX10_moveLetters : MethodName := ⟨RX10, "moveLetters", "()I"⟩
def RX11 : String := "SlotChip"
def TX11 : u_T := fun k => match k with
  | 0 => ("SlotChip", "page", "LSlotChip$Page;", true)
  | 1 => ("SlotChip", "board", "LSlotChip$Board;", true)
  | 2 => ("SlotChip", "circuits", "LSlotChip$Circuits;", true)
  | 3 => ("SlotChip", "search", "LSlotChip$Search;", true)
  | 4 => ("SlotChip", "strays", "LSlotChip$Strays;", true)
  | 5 => ("SlotChip", "traffic", "LSlotChip$Traffic;", true)
  | _ => ("SlotChip", "chipsRead", "I", false)
def tyX11 : Nat → FieldType := fun k => match k with
  | 0 => .object "SlotChip$Page"
  | 1 => .object "SlotChip$Board"
  | 2 => .object "SlotChip$Circuits"
  | 3 => .object "SlotChip$Search"
  | 4 => .object "SlotChip$Strays"
  | 5 => .object "SlotChip$Traffic"
  | _ => .int
theorem nmX11 : ∀ a, a < 7 → ∀ b, b < 7 → a ≠ b → (TX11 a).2.1 ≠ (TX11 b).2.1 := by decide +kernel
theorem tyX11_ok : ∀ k, k < 7 → parseFieldDescriptor (TX11 k).2.2.1 = some (tyX11 k) := by decide +kernel
abbrev cX11_init : ByteArray := prog_1_method_1_code
def yX11_init : MethodName := ⟨RX11, "<init>", "()V"⟩
abbrev cX11_letter : ByteArray := prog_1_method_2_code
def yX11_letter : MethodName := ⟨RX11, "letter", "(I)I"⟩
abbrev cX11_blank : ByteArray := prog_1_method_3_code
def yX11_blank : MethodName := ⟨RX11, "blank", "()I"⟩
abbrev cX11_fault : ByteArray := prog_1_method_4_code
def yX11_fault : MethodName := ⟨RX11, "fault", "()I"⟩
abbrev cX11_chip : ByteArray := prog_1_method_5_code
def yX11_chip : MethodName := ⟨RX11, "chip", "()I"⟩
abbrev cX11_about : ByteArray := prog_1_method_6_code
def yX11_about : MethodName := ⟨RX11, "about", "(I)I"⟩
abbrev cX11_link : ByteArray := prog_1_method_7_code
def yX11_link : MethodName := ⟨RX11, "link", "(II)I"⟩
abbrev cX11_slot : ByteArray := prog_1_method_8_code
def yX11_slot : MethodName := ⟨RX11, "slot", "(II)I"⟩
abbrev cX11_cut : ByteArray := prog_1_method_9_code
def yX11_cut : MethodName := ⟨RX11, "cut", "(IZ)I"⟩
abbrev cX11_open : ByteArray := prog_1_method_10_code
def yX11_open : MethodName := ⟨RX11, "open", "(IIIII)I"⟩
abbrev cX11_as : ByteArray := prog_1_method_11_code
def yX11_as : MethodName := ⟨RX11, "as", "(II)I"⟩
abbrev cX11_circuit : ByteArray := prog_1_method_12_code
def yX11_circuit : MethodName := ⟨RX11, "circuit", "(II)I"⟩
abbrev cX11_route : ByteArray := prog_1_method_13_code
def yX11_route : MethodName := ⟨RX11, "route", "(II)I"⟩
abbrev cX11_start : ByteArray := prog_1_method_14_code
def yX11_start : MethodName := ⟨RX11, "start", "(II)I"⟩
abbrev cX11_pair : ByteArray := prog_1_method_15_code
def yX11_pair : MethodName := ⟨RX11, "pair", "(II)I"⟩
abbrev cX11_move : ByteArray := prog_1_method_16_code
def yX11_move : MethodName := ⟨RX11, "move", "(I)I"⟩
abbrev cX11_close : ByteArray := prog_1_method_17_code
def yX11_close : MethodName := ⟨RX11, "close", "(I)I"⟩
abbrev cX11_feed : ByteArray := prog_1_method_18_code
def yX11_feed : MethodName := ⟨RX11, "feed", "(II)I"⟩
abbrev cX11_take : ByteArray := prog_1_method_19_code
def yX11_take : MethodName := ⟨RX11, "take", "(II)I"⟩
abbrev cX11_fastest : ByteArray := prog_1_method_20_code
def yX11_fastest : MethodName := ⟨RX11, "fastest", "()I"⟩
abbrev cX11_stray : ByteArray := prog_1_method_21_code
def yX11_stray : MethodName := ⟨RX11, "stray", "(IIZ)I"⟩
abbrev cX11_straying : ByteArray := prog_1_method_22_code
def yX11_straying : MethodName := ⟨RX11, "straying", "(II)I"⟩
abbrev cX11_arrived : ByteArray := prog_1_method_23_code
def yX11_arrived : MethodName := ⟨RX11, "arrived", "(ZI)I"⟩
abbrev cX11_faster : ByteArray := prog_1_method_24_code
def yX11_faster : MethodName := ⟨RX11, "faster", "()I"⟩
abbrev cX11_run : ByteArray := prog_1_method_25_code
def yX11_run : MethodName := ⟨RX11, "run", "(I)I"⟩
abbrev cX11_storm : ByteArray := prog_1_method_26_code
def yX11_storm : MethodName := ⟨RX11, "storm", "(II)I"⟩
abbrev cX11_count : ByteArray := prog_1_method_27_code
def yX11_count : MethodName := ⟨RX11, "count", "(I)I"⟩
abbrev cX11_digest : ByteArray := prog_1_method_28_code
def yX11_digest : MethodName := ⟨RX11, "digest", "()J"⟩
abbrev cX11_mix : ByteArray := prog_1_method_29_code
def yX11_mix : MethodName := ⟨RX11, "mix", "(JI)J"⟩
abbrev cX11_mixBoard : ByteArray := prog_1_method_30_code
def yX11_mixBoard : MethodName := ⟨RX11, "mixBoard", "(J)J"⟩
abbrev cX11_mixCircuit : ByteArray := prog_1_method_31_code
def yX11_mixCircuit : MethodName := ⟨RX11, "mixCircuit", "(JLSlotChip$Circuit;)J"⟩
abbrev cX11_mixStrays : ByteArray := prog_1_method_32_code
def yX11_mixStrays : MethodName := ⟨RX11, "mixStrays", "(J)J"⟩
abbrev cX11_isKind : ByteArray := prog_1_method_33_code
def yX11_isKind : MethodName := ⟨RX11, "isKind", "(I)Z"⟩
abbrev cX11_isLinkNumber : ByteArray := prog_1_method_34_code
def yX11_isLinkNumber : MethodName := ⟨RX11, "isLinkNumber", "(I)Z"⟩
abbrev cX11_linkOf : ByteArray := prog_1_method_35_code
def yX11_linkOf : MethodName := ⟨RX11, "linkOf", "(II)I"⟩
def RX12 : String := "SlotChipModel"
def TX12 : u_T := fun k => match k with
  | 0 => ("SlotChipModel", "wide", "I", false)
  | 1 => ("SlotChipModel", "high", "I", false)
  | 2 => ("SlotChipModel", "slots", "I", false)
  | 3 => ("SlotChipModel", "time", "I", false)
  | 4 => ("SlotChipModel", "chips", "I", false)
  | 5 => ("SlotChipModel", "isBroken", "[Z", true)
  | 6 => ("SlotChipModel", "uses", "[I", true)
  | 7 => ("SlotChipModel", "pageLength", "I", false)
  | 8 => ("SlotChipModel", "page", "[I", true)
  | 9 => ("SlotChipModel", "isOpen", "[Z", true)
  | 10 => ("SlotChipModel", "kind", "[I", true)
  | 11 => ("SlotChipModel", "from", "[I", true)
  | 12 => ("SlotChipModel", "to", "[I", true)
  | 13 => ("SlotChipModel", "many", "[I", true)
  | 14 => ("SlotChipModel", "window", "[I", true)
  | 15 => ("SlotChipModel", "hops", "[I", true)
  | 16 => ("SlotChipModel", "route", "[I", true)
  | 17 => ("SlotChipModel", "starts", "[I", true)
  | 18 => ("SlotChipModel", "queue", "[I", true)
  | 19 => ("SlotChipModel", "credits", "[I", true)
  | 20 => ("SlotChipModel", "come", "[I", true)
  | 21 => ("SlotChipModel", "owed", "[I", true)
  | 22 => ("SlotChipModel", "done", "[I", true)
  | 23 => ("SlotChipModel", "back", "[I", true)
  | 24 => ("SlotChipModel", "opened", "[I", true)
  | 25 => ("SlotChipModel", "letters", "I", false)
  | 26 => ("SlotChipModel", "letterOf", "[I", true)
  | 27 => ("SlotChipModel", "left", "[I", true)
  | 28 => ("SlotChipModel", "load", "[I", true)
  | 29 => ("SlotChipModel", "told", "[I", true)
  | 30 => ("SlotChipModel", "strays", "I", false)
  | 31 => ("SlotChipModel", "strayFrom", "[I", true)
  | 32 => ("SlotChipModel", "strayTo", "[I", true)
  | 33 => ("SlotChipModel", "strayUrgent", "[Z", true)
  | 34 => ("SlotChipModel", "strayAt", "[I", true)
  | 35 => ("SlotChipModel", "strayCame", "[I", true)
  | 36 => ("SlotChipModel", "arrivedMany", "[I", true)
  | 37 => ("SlotChipModel", "arrivedDelay", "[I", true)
  | 38 => ("SlotChipModel", "arrivedMost", "[I", true)
  | 39 => ("SlotChipModel", "stage", "I", false)
  | 40 => ("SlotChipModel", "newWide", "I", false)
  | 41 => ("SlotChipModel", "newHigh", "I", false)
  | 42 => ("SlotChipModel", "newSlots", "I", false)
  | 43 => ("SlotChipModel", "newRouter", "I", false)
  | 44 => ("SlotChipModel", "newBroken", "[Z", true)
  | 45 => ("SlotChipModel", "newHops", "I", false)
  | 46 => ("SlotChipModel", "newRoute", "[I", true)
  | 47 => ("SlotChipModel", "isSeen", "[Z", true)
  | 48 => ("SlotChipModel", "nextOf", "[I", true)
  | 49 => ("SlotChipModel", "isMoved", "[Z", true)
  | 50 => ("SlotChipModel", "cameNow", "I", false)
  | 51 => ("SlotChipModel", "seedNow", "J", false)
  | _ => ("SlotChipModel", "h", "J", false)
def tyX12 : Nat → FieldType := fun k => match k with
  | 0 => .int
  | 1 => .int
  | 2 => .int
  | 3 => .int
  | 4 => .int
  | 5 => .array .boolean
  | 6 => .array .int
  | 7 => .int
  | 8 => .array .int
  | 9 => .array .boolean
  | 10 => .array .int
  | 11 => .array .int
  | 12 => .array .int
  | 13 => .array .int
  | 14 => .array .int
  | 15 => .array .int
  | 16 => .array .int
  | 17 => .array .int
  | 18 => .array .int
  | 19 => .array .int
  | 20 => .array .int
  | 21 => .array .int
  | 22 => .array .int
  | 23 => .array .int
  | 24 => .array .int
  | 25 => .int
  | 26 => .array .int
  | 27 => .array .int
  | 28 => .array .int
  | 29 => .array .int
  | 30 => .int
  | 31 => .array .int
  | 32 => .array .int
  | 33 => .array .boolean
  | 34 => .array .int
  | 35 => .array .int
  | 36 => .array .int
  | 37 => .array .int
  | 38 => .array .int
  | 39 => .int
  | 40 => .int
  | 41 => .int
  | 42 => .int
  | 43 => .int
  | 44 => .array .boolean
  | 45 => .int
  | 46 => .array .int
  | 47 => .array .boolean
  | 48 => .array .int
  | 49 => .array .boolean
  | 50 => .int
  | 51 => .long
  | _ => .long
theorem nmX12 : ∀ a, a < 53 → ∀ b, b < 53 → a ≠ b → (TX12 a).2.1 ≠ (TX12 b).2.1 := by decide +kernel
theorem tyX12_ok : ∀ k, k < 53 → parseFieldDescriptor (TX12 k).2.2.1 = some (tyX12 k) := by decide +kernel
abbrev cX12_init : ByteArray := prog_14_method_1_code
def yX12_init : MethodName := ⟨RX12, "<init>", "()V"⟩
abbrev cX12_within : ByteArray := prog_14_method_3_code
def yX12_within : MethodName := ⟨RX12, "within", "(III)Z"⟩
abbrev cX12_isBit : ByteArray := prog_14_method_4_code
def yX12_isBit : MethodName := ⟨RX12, "isBit", "(II)Z"⟩
abbrev cX12_size : ByteArray := prog_14_method_5_code
def yX12_size : MethodName := ⟨RX12, "size", "(I)I"⟩
abbrev cX12_leadsTo : ByteArray := prog_14_method_6_code
def yX12_leadsTo : MethodName := ⟨RX12, "leadsTo", "(IIII)I"⟩
abbrev cX12_routers : ByteArray := prog_14_method_7_code
def yX12_routers : MethodName := ⟨RX12, "routers", "()I"⟩
abbrev cX12_isRouter : ByteArray := prog_14_method_8_code
def yX12_isRouter : MethodName := ⟨RX12, "isRouter", "(I)Z"⟩
abbrev cX12_isLink : ByteArray := prog_14_method_9_code
def yX12_isLink : MethodName := ⟨RX12, "isLink", "(I)Z"⟩
abbrev cX12_letter : ByteArray := prog_14_method_10_code
def yX12_letter : MethodName := ⟨RX12, "letter", "(I)I"⟩
abbrev cX12_blank : ByteArray := prog_14_method_11_code
def yX12_blank : MethodName := ⟨RX12, "blank", "()I"⟩
abbrev cX12_isLeft : ByteArray := prog_14_method_12_code
def yX12_isLeft : MethodName := ⟨RX12, "isLeft", "(II)Z"⟩
abbrev cX12_isRouterLeft : ByteArray := prog_14_method_13_code
def yX12_isRouterLeft : MethodName := ⟨RX12, "isRouterLeft", "(I)Z"⟩
abbrev cX12_isAnyLeft : ByteArray := prog_14_method_14_code
def yX12_isAnyLeft : MethodName := ⟨RX12, "isAnyLeft", "()Z"⟩
abbrev cX12_goes : ByteArray := prog_14_method_15_code
def yX12_goes : MethodName := ⟨RX12, "goes", "(ZI)Z"⟩
abbrev cX12_portBy : ByteArray := prog_14_method_16_code
def yX12_portBy : MethodName := ⟨RX12, "portBy", "(I)I"⟩
abbrev cX12_takesPort : ByteArray := prog_14_method_17_code
def yX12_takesPort : MethodName := ⟨RX12, "takesPort", "(I)Z"⟩
abbrev cX12_takes : ByteArray := prog_14_method_18_code
def yX12_takes : MethodName := ⟨RX12, "takes", "(I)Z"⟩
abbrev cX12_read : ByteArray := prog_14_method_19_code
def yX12_read : MethodName := ⟨RX12, "read", "()I"⟩
abbrev cX12_fault : ByteArray := prog_14_method_20_code
def yX12_fault : MethodName := ⟨RX12, "fault", "()I"⟩
abbrev cX12_chip : ByteArray := prog_14_method_21_code
def yX12_chip : MethodName := ⟨RX12, "chip", "()I"⟩
abbrev cX12_isChip : ByteArray := prog_14_method_22_code
def yX12_isChip : MethodName := ⟨RX12, "isChip", "()Z"⟩
abbrev cX12_hasSlot : ByteArray := prog_14_method_23_code
def yX12_hasSlot : MethodName := ⟨RX12, "hasSlot", "(III)Z"⟩
abbrev cX12_ownerOf : ByteArray := prog_14_method_24_code
def yX12_ownerOf : MethodName := ⟨RX12, "ownerOf", "(III)I"⟩
abbrev cX12_hadOf : ByteArray := prog_14_method_25_code
def yX12_hadOf : MethodName := ⟨RX12, "hadOf", "(I)I"⟩
abbrev cX12_ways : ByteArray := prog_14_method_26_code
def yX12_ways : MethodName := ⟨RX12, "ways", "(I)I"⟩
abbrev cX12_isWay : ByteArray := prog_14_method_27_code
def yX12_isWay : MethodName := ⟨RX12, "isWay", "(IIII)Z"⟩
abbrev cX12_freeStarts : ByteArray := prog_14_method_28_code
def yX12_freeStarts : MethodName := ⟨RX12, "freeStarts", "(I)I"⟩
abbrev cX12_gapOf : ByteArray := prog_14_method_29_code
def yX12_gapOf : MethodName := ⟨RX12, "gapOf", "(I)I"⟩
abbrev cX12_isLesser : ByteArray := prog_14_method_30_code
def yX12_isLesser : MethodName := ⟨RX12, "isLesser", "(II)Z"⟩
abbrev cX12_plainStarts : ByteArray := prog_14_method_31_code
def yX12_plainStarts : MethodName := ⟨RX12, "plainStarts", "(II)I"⟩
abbrev cX12_spreadStarts : ByteArray := prog_14_method_32_code
def yX12_spreadStarts : MethodName := ⟨RX12, "spreadStarts", "(II)I"⟩
abbrev cX12_burstStarts : ByteArray := prog_14_method_33_code
def yX12_burstStarts : MethodName := ⟨RX12, "burstStarts", "(II)I"⟩
abbrev cX12_startsFor : ByteArray := prog_14_method_34_code
def yX12_startsFor : MethodName := ⟨RX12, "startsFor", "(III)I"⟩
abbrev cX12_findWay : ByteArray := prog_14_method_35_code
def yX12_findWay : MethodName := ⟨RX12, "findWay", "(IIIII)I"⟩
abbrev cX12_layWay : ByteArray := prog_14_method_36_code
def yX12_layWay : MethodName := ⟨RX12, "layWay", "(II)V"⟩
abbrev cX12_linksMany : ByteArray := prog_14_method_37_code
def yX12_linksMany : MethodName := ⟨RX12, "linksMany", "()I"⟩
abbrev cX12_brokenMany : ByteArray := prog_14_method_38_code
def yX12_brokenMany : MethodName := ⟨RX12, "brokenMany", "()I"⟩
abbrev cX12_allHad : ByteArray := prog_14_method_39_code
def yX12_allHad : MethodName := ⟨RX12, "allHad", "()I"⟩
abbrev cX12_busiest : ByteArray := prog_14_method_40_code
def yX12_busiest : MethodName := ⟨RX12, "busiest", "()I"⟩
abbrev cX12_aboutNow : ByteArray := prog_14_method_41_code
def yX12_aboutNow : MethodName := ⟨RX12, "aboutNow", "(I)I"⟩
abbrev cX12_about : ByteArray := prog_14_method_42_code
def yX12_about : MethodName := ⟨RX12, "about", "(I)I"⟩
abbrev cX12_linkNow : ByteArray := prog_14_method_43_code
def yX12_linkNow : MethodName := ⟨RX12, "linkNow", "(II)I"⟩
abbrev cX12_link : ByteArray := prog_14_method_44_code
def yX12_link : MethodName := ⟨RX12, "link", "(II)I"⟩
abbrev cX12_slot : ByteArray := prog_14_method_45_code
def yX12_slot : MethodName := ⟨RX12, "slot", "(II)I"⟩
abbrev cX12_cut : ByteArray := prog_14_method_46_code
def yX12_cut : MethodName := ⟨RX12, "cut", "(IZ)I"⟩
abbrev cX12_leastFree : ByteArray := prog_14_method_47_code
def yX12_leastFree : MethodName := ⟨RX12, "leastFree", "()I"⟩
abbrev cX12_open : ByteArray := prog_14_method_48_code
def yX12_open : MethodName := ⟨RX12, "open", "(IIIII)I"⟩
abbrev cX12_begin : ByteArray := prog_14_method_49_code
def yX12_begin : MethodName := ⟨RX12, "begin", "(I)V"⟩
abbrev cX12_isCircuit : ByteArray := prog_14_method_50_code
def yX12_isCircuit : MethodName := ⟨RX12, "isCircuit", "(I)Z"⟩
abbrev cX12_as : ByteArray := prog_14_method_51_code
def yX12_as : MethodName := ⟨RX12, "as", "(II)I"⟩
abbrev cX12_underWay : ByteArray := prog_14_method_52_code
def yX12_underWay : MethodName := ⟨RX12, "underWay", "(I)I"⟩
abbrev cX12_circuitNow : ByteArray := prog_14_method_53_code
def yX12_circuitNow : MethodName := ⟨RX12, "circuitNow", "(II)I"⟩
abbrev cX12_circuitMore : ByteArray := prog_14_method_54_code
def yX12_circuitMore : MethodName := ⟨RX12, "circuitMore", "(II)I"⟩
abbrev cX12_circuit : ByteArray := prog_14_method_55_code
def yX12_circuit : MethodName := ⟨RX12, "circuit", "(II)I"⟩
abbrev cX12_route : ByteArray := prog_14_method_56_code
def yX12_route : MethodName := ⟨RX12, "route", "(II)I"⟩
abbrev cX12_startAt : ByteArray := prog_14_method_57_code
def yX12_startAt : MethodName := ⟨RX12, "startAt", "(II)I"⟩
abbrev cX12_start : ByteArray := prog_14_method_58_code
def yX12_start : MethodName := ⟨RX12, "start", "(II)I"⟩
abbrev cX12_pair : ByteArray := prog_14_method_59_code
def yX12_pair : MethodName := ⟨RX12, "pair", "(II)I"⟩
abbrev cX12_move : ByteArray := prog_14_method_60_code
def yX12_move : MethodName := ⟨RX12, "move", "(I)I"⟩
abbrev cX12_close : ByteArray := prog_14_method_61_code
def yX12_close : MethodName := ⟨RX12, "close", "(I)I"⟩
abbrev cX12_feed : ByteArray := prog_14_method_62_code
def yX12_feed : MethodName := ⟨RX12, "feed", "(II)I"⟩
abbrev cX12_take : ByteArray := prog_14_method_63_code
def yX12_take : MethodName := ⟨RX12, "take", "(II)I"⟩
abbrev cX12_isFaster : ByteArray := prog_14_method_64_code
def yX12_isFaster : MethodName := ⟨RX12, "isFaster", "(II)Z"⟩
abbrev cX12_fastestNow : ByteArray := prog_14_method_65_code
def yX12_fastestNow : MethodName := ⟨RX12, "fastestNow", "()I"⟩
abbrev cX12_fastest : ByteArray := prog_14_method_66_code
def yX12_fastest : MethodName := ⟨RX12, "fastest", "()I"⟩
abbrev cX12_comes : ByteArray := prog_14_method_67_code
def yX12_comes : MethodName := ⟨RX12, "comes", "(IIZ)V"⟩
abbrev cX12_stray : ByteArray := prog_14_method_68_code
def yX12_stray : MethodName := ⟨RX12, "stray", "(IIZ)I"⟩
abbrev cX12_nextLink : ByteArray := prog_14_method_69_code
def yX12_nextLink : MethodName := ⟨RX12, "nextLink", "(I)I"⟩
abbrev cX12_strayNow : ByteArray := prog_14_method_70_code
def yX12_strayNow : MethodName := ⟨RX12, "strayNow", "(II)I"⟩
abbrev cX12_straying : ByteArray := prog_14_method_71_code
def yX12_straying : MethodName := ⟨RX12, "straying", "(II)I"⟩
abbrev cX12_arrivedNow : ByteArray := prog_14_method_72_code
def yX12_arrivedNow : MethodName := ⟨RX12, "arrivedNow", "(II)I"⟩
abbrev cX12_arrived : ByteArray := prog_14_method_73_code
def yX12_arrived : MethodName := ⟨RX12, "arrived", "(ZI)I"⟩
abbrev cX12_fasterNow : ByteArray := prog_14_method_74_code
def yX12_fasterNow : MethodName := ⟨RX12, "fasterNow", "()I"⟩
abbrev cX12_faster : ByteArray := prog_14_method_75_code
def yX12_faster : MethodName := ⟨RX12, "faster", "()I"⟩
abbrev cX12_leave : ByteArray := prog_14_method_76_code
def yX12_leave : MethodName := ⟨RX12, "leave", "(I)V"⟩
abbrev cX12_linkOf : ByteArray := prog_14_method_77_code
def yX12_linkOf : MethodName := ⟨RX12, "linkOf", "(I)I"⟩
abbrev cX12_isLetterOn : ByteArray := prog_14_method_78_code
def yX12_isLetterOn : MethodName := ⟨RX12, "isLetterOn", "(I)Z"⟩
abbrev cX12_isShut : ByteArray := prog_14_method_79_code
def yX12_isShut : MethodName := ⟨RX12, "isShut", "(I)Z"⟩
abbrev cX12_goesOn : ByteArray := prog_14_method_80_code
def yX12_goesOn : MethodName := ⟨RX12, "goesOn", "(I)I"⟩
abbrev cX12_moveStrays : ByteArray := prog_14_method_81_code
def yX12_moveStrays : MethodName := ⟨RX12, "moveStrays", "()V"⟩
abbrev cX12_arrives : ByteArray := prog_14_method_82_code
def yX12_arrives : MethodName := ⟨RX12, "arrives", "(I)V"⟩
abbrev cX12_setStrays : ByteArray := prog_14_method_83_code
def yX12_setStrays : MethodName := ⟨RX12, "setStrays", "()V"⟩
abbrev cX12_arriveLetter : ByteArray := prog_14_method_84_code
def yX12_arriveLetter : MethodName := ⟨RX12, "arriveLetter", "(I)V"⟩
abbrev cX12_setLetters : ByteArray := prog_14_method_85_code
def yX12_setLetters : MethodName := ⟨RX12, "setLetters", "()V"⟩
abbrev cX12_cycle : ByteArray := prog_14_method_86_code
def yX12_cycle : MethodName := ⟨RX12, "cycle", "()V"⟩
abbrev cX12_run : ByteArray := prog_14_method_87_code
def yX12_run : MethodName := ⟨RX12, "run", "(I)I"⟩
abbrev cX12_drawOf : ByteArray := prog_14_method_88_code
def yX12_drawOf : MethodName := ⟨RX12, "drawOf", "(I)I"⟩
abbrev cX12_storm : ByteArray := prog_14_method_89_code
def yX12_storm : MethodName := ⟨RX12, "storm", "(II)I"⟩
abbrev cX12_sumOf : ByteArray := prog_14_method_90_code
def yX12_sumOf : MethodName := ⟨RX12, "sumOf", "(I)I"⟩
abbrev cX12_howMany : ByteArray := prog_14_method_91_code
def yX12_howMany : MethodName := ⟨RX12, "howMany", "(I)I"⟩
abbrev cX12_count : ByteArray := prog_14_method_92_code
def yX12_count : MethodName := ⟨RX12, "count", "(I)I"⟩
abbrev cX12_mix : ByteArray := prog_14_method_93_code
def yX12_mix : MethodName := ⟨RX12, "mix", "(J)V"⟩
abbrev cX12_mixChip : ByteArray := prog_14_method_94_code
def yX12_mixChip : MethodName := ⟨RX12, "mixChip", "()V"⟩
abbrev cX12_mixCircuit : ByteArray := prog_14_method_95_code
def yX12_mixCircuit : MethodName := ⟨RX12, "mixCircuit", "(I)V"⟩
abbrev cX12_digest : ByteArray := prog_14_method_96_code
def yX12_digest : MethodName := ⟨RX12, "digest", "()J"⟩
def RJ6 : String := "java/lang/Integer"
abbrev cJ6_bitCount_0f7a4 : ByteArray := prog_15_method_49_code
def yJ6_bitCount_0f7a4 : MethodName := ⟨RJ6, "bitCount", "(I)I"⟩
def RJ9 : String := "java/lang/Math"
abbrev cJ9_floorMod_7cf53 : ByteArray := prog_16_method_50_code
def yJ9_floorMod_7cf53 : MethodName := ⟨RJ9, "floorMod", "(II)I"⟩
abbrev cJ9_max_7cf53 : ByteArray := prog_16_method_65_code
def yJ9_max_7cf53 : MethodName := ⟨RJ9, "max", "(II)I"⟩
abbrev cJ9_min_7cf53 : ByteArray := prog_16_method_69_code
def yJ9_min_7cf53 : MethodName := ⟨RJ9, "min", "(II)I"⟩
def RL : String := "SlotChipLaw"
abbrev cL_law : ByteArray := code
def yL_law : MethodName := ⟨RL, "law", "([I)Z"⟩
theorem dX0_init_0 : decode cX0_init 0 = .ok (.aload_n 0, 1) := by decide +kernel
theorem dX0_init_1 : decode cX0_init 1 = .ok (.invokespecial 1, 3) := by decide +kernel
theorem dX0_init_4 : decode cX0_init 4 = .ok (.return_, 1) := by decide +kernel
theorem dX0_clear_0 : decode cX0_clear 0 = .ok (.aload_n 0, 1) := by decide +kernel
theorem dX0_clear_1 : decode cX0_clear 1 = .ok (.iconst 0, 1) := by decide +kernel
theorem dX0_clear_2 : decode cX0_clear 2 = .ok (.putfield 7, 3) := by decide +kernel
theorem dX0_clear_5 : decode cX0_clear 5 = .ok (.aload_n 0, 1) := by decide +kernel
theorem dX0_clear_6 : decode cX0_clear 6 = .ok (.iconst 0, 1) := by decide +kernel
theorem dX0_clear_7 : decode cX0_clear 7 = .ok (.putfield 13, 3) := by decide +kernel
theorem dX0_clear_10 : decode cX0_clear 10 = .ok (.aload_n 0, 1) := by decide +kernel
theorem dX0_clear_11 : decode cX0_clear 11 = .ok (.iconst 0, 1) := by decide +kernel
theorem dX0_clear_12 : decode cX0_clear 12 = .ok (.putfield 16, 3) := by decide +kernel
theorem dX0_clear_15 : decode cX0_clear 15 = .ok (.return_, 1) := by decide +kernel
theorem dX0_add_0 : decode cX0_add 0 = .ok (.aload_n 0, 1) := by decide +kernel
theorem dX0_add_1 : decode cX0_add 1 = .ok (.dup, 1) := by decide +kernel
theorem dX0_add_2 : decode cX0_add 2 = .ok (.getfield 7, 3) := by decide +kernel
theorem dX0_add_5 : decode cX0_add 5 = .ok (.iconst 1, 1) := by decide +kernel
theorem dX0_add_6 : decode cX0_add 6 = .ok (.iadd, 1) := by decide +kernel
theorem dX0_add_7 : decode cX0_add 7 = .ok (.putfield 7, 3) := by decide +kernel
theorem dX0_add_10 : decode cX0_add 10 = .ok (.aload_n 0, 1) := by decide +kernel
theorem dX0_add_11 : decode cX0_add 11 = .ok (.dup, 1) := by decide +kernel
theorem dX0_add_12 : decode cX0_add 12 = .ok (.getfield 13, 3) := by decide +kernel
theorem dX0_add_15 : decode cX0_add 15 = .ok (.iload_n 1, 1) := by decide +kernel
theorem dX0_add_16 : decode cX0_add 16 = .ok (.iadd, 1) := by decide +kernel
theorem dX0_add_17 : decode cX0_add 17 = .ok (.putfield 13, 3) := by decide +kernel
theorem dX0_add_20 : decode cX0_add 20 = .ok (.aload_n 0, 1) := by decide +kernel
theorem dX0_add_21 : decode cX0_add 21 = .ok (.aload_n 0, 1) := by decide +kernel
theorem dX0_add_22 : decode cX0_add 22 = .ok (.getfield 16, 3) := by decide +kernel
theorem dX0_add_25 : decode cX0_add 25 = .ok (.iload_n 1, 1) := by decide +kernel
theorem dX0_add_26 : decode cX0_add 26 = .ok (.invokestatic 19, 3) := by decide +kernel
theorem dX0_add_29 : decode cX0_add 29 = .ok (.putfield 16, 3) := by decide +kernel
theorem dX0_add_32 : decode cX0_add 32 = .ok (.return_, 1) := by decide +kernel
theorem dX0_tell_0 : decode cX0_tell 0 = .ok (.iload_n 1, 1) := by decide +kernel
theorem dX0_tell_1 : decode cX0_tell 1 = .ok (.lookupswitch 37 #[(0, 27), (1, 32)], 27) := by decide +kernel
theorem dX0_tell_28 : decode cX0_tell 28 = .ok (.aload_n 0, 1) := by decide +kernel
theorem dX0_tell_29 : decode cX0_tell 29 = .ok (.getfield 7, 3) := by decide +kernel
theorem dX0_tell_32 : decode cX0_tell 32 = .ok (.ireturn, 1) := by decide +kernel
theorem dX0_tell_33 : decode cX0_tell 33 = .ok (.aload_n 0, 1) := by decide +kernel
theorem dX0_tell_34 : decode cX0_tell 34 = .ok (.getfield 13, 3) := by decide +kernel
theorem dX0_tell_37 : decode cX0_tell 37 = .ok (.ireturn, 1) := by decide +kernel
theorem dX0_tell_38 : decode cX0_tell 38 = .ok (.aload_n 0, 1) := by decide +kernel
theorem dX0_tell_39 : decode cX0_tell 39 = .ok (.getfield 16, 3) := by decide +kernel
theorem dX0_tell_42 : decode cX0_tell 42 = .ok (.ireturn, 1) := by decide +kernel
theorem dX0_compareWith_0 : decode cX0_compareWith 0 = .ok (.aload_n 0, 1) := by decide +kernel
theorem dX0_compareWith_1 : decode cX0_compareWith 1 = .ok (.getfield 7, 3) := by decide +kernel
theorem dX0_compareWith_4 : decode cX0_compareWith 4 = .ok (.ifCond .eq 10, 3) := by decide +kernel
theorem dX0_compareWith_7 : decode cX0_compareWith 7 = .ok (.aload_n 1, 1) := by decide +kernel
theorem dX0_compareWith_8 : decode cX0_compareWith 8 = .ok (.getfield 7, 3) := by decide +kernel
theorem dX0_compareWith_11 : decode cX0_compareWith 11 = .ok (.ifCond .ne 6, 3) := by decide +kernel
theorem dX0_compareWith_14 : decode cX0_compareWith 14 = .ok (.bipush (-2), 2) := by decide +kernel
theorem dX0_compareWith_16 : decode cX0_compareWith 16 = .ok (.ireturn, 1) := by decide +kernel
theorem dX0_compareWith_17 : decode cX0_compareWith 17 = .ok (.aload_n 0, 1) := by decide +kernel
theorem dX0_compareWith_18 : decode cX0_compareWith 18 = .ok (.getfield 13, 3) := by decide +kernel
theorem dX0_compareWith_21 : decode cX0_compareWith 21 = .ok (.i2l, 1) := by decide +kernel
theorem dX0_compareWith_22 : decode cX0_compareWith 22 = .ok (.aload_n 1, 1) := by decide +kernel
theorem dX0_compareWith_23 : decode cX0_compareWith 23 = .ok (.getfield 7, 3) := by decide +kernel
theorem dX0_compareWith_26 : decode cX0_compareWith 26 = .ok (.i2l, 1) := by decide +kernel
theorem dX0_compareWith_27 : decode cX0_compareWith 27 = .ok (.lmul, 1) := by decide +kernel
theorem dX0_compareWith_28 : decode cX0_compareWith 28 = .ok (.lstore_n 2, 1) := by decide +kernel
theorem dX0_compareWith_29 : decode cX0_compareWith 29 = .ok (.aload_n 1, 1) := by decide +kernel
theorem dX0_compareWith_30 : decode cX0_compareWith 30 = .ok (.getfield 13, 3) := by decide +kernel
theorem dX0_compareWith_33 : decode cX0_compareWith 33 = .ok (.i2l, 1) := by decide +kernel
theorem dX0_compareWith_34 : decode cX0_compareWith 34 = .ok (.aload_n 0, 1) := by decide +kernel
theorem dX0_compareWith_35 : decode cX0_compareWith 35 = .ok (.getfield 7, 3) := by decide +kernel
theorem dX0_compareWith_38 : decode cX0_compareWith 38 = .ok (.i2l, 1) := by decide +kernel
theorem dX0_compareWith_39 : decode cX0_compareWith 39 = .ok (.lmul, 1) := by decide +kernel
theorem dX0_compareWith_40 : decode cX0_compareWith 40 = .ok (.lstore 4, 2) := by decide +kernel
theorem dX0_compareWith_42 : decode cX0_compareWith 42 = .ok (.lload_n 2, 1) := by decide +kernel
theorem dX0_compareWith_43 : decode cX0_compareWith 43 = .ok (.lload 4, 2) := by decide +kernel
theorem dX0_compareWith_45 : decode cX0_compareWith 45 = .ok (.lcmp, 1) := by decide +kernel
theorem dX0_compareWith_46 : decode cX0_compareWith 46 = .ok (.ifCond .ge 7, 3) := by decide +kernel
theorem dX0_compareWith_49 : decode cX0_compareWith 49 = .ok (.iconst 1, 1) := by decide +kernel
theorem dX0_compareWith_50 : decode cX0_compareWith 50 = .ok (.goto 15, 3) := by decide +kernel
theorem dX0_compareWith_53 : decode cX0_compareWith 53 = .ok (.lload_n 2, 1) := by decide +kernel
theorem dX0_compareWith_54 : decode cX0_compareWith 54 = .ok (.lload 4, 2) := by decide +kernel
theorem dX0_compareWith_56 : decode cX0_compareWith 56 = .ok (.lcmp, 1) := by decide +kernel
theorem dX0_compareWith_57 : decode cX0_compareWith 57 = .ok (.ifCond .ne 7, 3) := by decide +kernel
theorem dX0_compareWith_60 : decode cX0_compareWith 60 = .ok (.iconst 0, 1) := by decide +kernel
theorem dX0_compareWith_61 : decode cX0_compareWith 61 = .ok (.goto 4, 3) := by decide +kernel
theorem dX0_compareWith_64 : decode cX0_compareWith 64 = .ok (.iconst (-1), 1) := by decide +kernel
theorem dX0_compareWith_65 : decode cX0_compareWith 65 = .ok (.ireturn, 1) := by decide +kernel
theorem dX1_init_0 : decode cX1_init 0 = .ok (.aload_n 0, 1) := by decide +kernel
theorem dX1_init_1 : decode cX1_init 1 = .ok (.invokespecial 3, 3) := by decide +kernel
theorem dX1_init_4 : decode cX1_init 4 = .ok (.aload_n 0, 1) := by decide +kernel
theorem dX1_init_5 : decode cX1_init 5 = .ok (.new 9, 3) := by decide +kernel
theorem dX1_init_8 : decode cX1_init 8 = .ok (.dup, 1) := by decide +kernel
theorem dX1_init_9 : decode cX1_init 9 = .ok (.invokespecial 11, 3) := by decide +kernel
theorem dX1_init_12 : decode cX1_init 12 = .ok (.putfield 12, 3) := by decide +kernel
theorem dX1_init_15 : decode cX1_init 15 = .ok (.aload_n 0, 1) := by decide +kernel
theorem dX1_init_16 : decode cX1_init 16 = .ok (.bipush 54, 2) := by decide +kernel
theorem dX1_init_18 : decode cX1_init 18 = .ok (.newarray .boolean, 2) := by decide +kernel
theorem dX1_init_20 : decode cX1_init 20 = .ok (.putfield 18, 3) := by decide +kernel
theorem dX1_init_23 : decode cX1_init 23 = .ok (.aload_n 0, 1) := by decide +kernel
theorem dX1_init_24 : decode cX1_init 24 = .ok (.bipush 54, 2) := by decide +kernel
theorem dX1_init_26 : decode cX1_init 26 = .ok (.newarray .int, 2) := by decide +kernel
theorem dX1_init_28 : decode cX1_init 28 = .ok (.putfield 22, 3) := by decide +kernel
theorem dX1_init_31 : decode cX1_init 31 = .ok (.aload_n 0, 1) := by decide +kernel
theorem dX1_init_32 : decode cX1_init 32 = .ok (.sipush 540, 3) := by decide +kernel
theorem dX1_init_35 : decode cX1_init 35 = .ok (.newarray .int, 2) := by decide +kernel
theorem dX1_init_37 : decode cX1_init 37 = .ok (.putfield 26, 3) := by decide +kernel
theorem dX1_init_40 : decode cX1_init 40 = .ok (.return_, 1) := by decide +kernel
theorem dX1_set_0 : decode cX1_set 0 = .ok (.aload_n 0, 1) := by decide +kernel
theorem dX1_set_1 : decode cX1_set 1 = .ok (.getfield 12, 3) := by decide +kernel
theorem dX1_set_4 : decode cX1_set 4 = .ok (.aload_n 1, 1) := by decide +kernel
theorem dX1_set_5 : decode cX1_set 5 = .ok (.getfield 29, 3) := by decide +kernel
theorem dX1_set_8 : decode cX1_set 8 = .ok (.aload_n 1, 1) := by decide +kernel
theorem dX1_set_9 : decode cX1_set 9 = .ok (.getfield 35, 3) := by decide +kernel
theorem dX1_set_12 : decode cX1_set 12 = .ok (.invokevirtual 38, 3) := by decide +kernel
theorem dX1_set_15 : decode cX1_set 15 = .ok (.aload_n 0, 1) := by decide +kernel
theorem dX1_set_16 : decode cX1_set 16 = .ok (.aload_n 1, 1) := by decide +kernel
theorem dX1_set_17 : decode cX1_set 17 = .ok (.getfield 42, 3) := by decide +kernel
theorem dX1_set_20 : decode cX1_set 20 = .ok (.putfield 45, 3) := by decide +kernel
theorem dX1_set_23 : decode cX1_set 23 = .ok (.aload_n 0, 1) := by decide +kernel
theorem dX1_set_24 : decode cX1_set 24 = .ok (.iconst 0, 1) := by decide +kernel
theorem dX1_set_25 : decode cX1_set 25 = .ok (.putfield 46, 3) := by decide +kernel
theorem dX1_set_28 : decode cX1_set 28 = .ok (.iconst 0, 1) := by decide +kernel
theorem dX1_set_29 : decode cX1_set 29 = .ok (.istore_n 2, 1) := by decide +kernel
theorem dX1_set_30 : decode cX1_set 30 = .ok (.iload_n 2, 1) := by decide +kernel
theorem dX1_set_31 : decode cX1_set 31 = .ok (.bipush 54, 2) := by decide +kernel
theorem dX1_set_33 : decode cX1_set 33 = .ok (.if_icmp .ge 27, 3) := by decide +kernel
theorem dX1_set_36 : decode cX1_set 36 = .ok (.aload_n 0, 1) := by decide +kernel
theorem dX1_set_37 : decode cX1_set 37 = .ok (.getfield 18, 3) := by decide +kernel
theorem dX1_set_40 : decode cX1_set 40 = .ok (.iload_n 2, 1) := by decide +kernel
theorem dX1_set_41 : decode cX1_set 41 = .ok (.aload_n 1, 1) := by decide +kernel
theorem dX1_set_42 : decode cX1_set 42 = .ok (.iload_n 2, 1) := by decide +kernel
theorem dX1_set_43 : decode cX1_set 43 = .ok (.invokevirtual 49, 3) := by decide +kernel
theorem dX1_set_46 : decode cX1_set 46 = .ok (.bastore, 1) := by decide +kernel
theorem dX1_set_47 : decode cX1_set 47 = .ok (.aload_n 0, 1) := by decide +kernel
theorem dX1_set_48 : decode cX1_set 48 = .ok (.getfield 22, 3) := by decide +kernel
theorem dX1_set_51 : decode cX1_set 51 = .ok (.iload_n 2, 1) := by decide +kernel
theorem dX1_set_52 : decode cX1_set 52 = .ok (.iconst 0, 1) := by decide +kernel
theorem dX1_set_53 : decode cX1_set 53 = .ok (.iastore, 1) := by decide +kernel
theorem dX1_set_54 : decode cX1_set 54 = .ok (.iinc 2 1, 3) := by decide +kernel
theorem dX1_set_57 : decode cX1_set 57 = .ok (.goto (-27), 3) := by decide +kernel
theorem dX1_set_60 : decode cX1_set 60 = .ok (.iconst 0, 1) := by decide +kernel
theorem dX1_set_61 : decode cX1_set 61 = .ok (.istore_n 2, 1) := by decide +kernel
theorem dX1_set_62 : decode cX1_set 62 = .ok (.iload_n 2, 1) := by decide +kernel
theorem dX1_set_63 : decode cX1_set 63 = .ok (.sipush 540, 3) := by decide +kernel
theorem dX1_set_66 : decode cX1_set 66 = .ok (.if_icmp .ge 16, 3) := by decide +kernel
theorem dX1_set_69 : decode cX1_set 69 = .ok (.aload_n 0, 1) := by decide +kernel
theorem dX1_set_70 : decode cX1_set 70 = .ok (.getfield 26, 3) := by decide +kernel
theorem dX1_set_73 : decode cX1_set 73 = .ok (.iload_n 2, 1) := by decide +kernel
theorem dX1_set_74 : decode cX1_set 74 = .ok (.iconst (-1), 1) := by decide +kernel
theorem dX1_set_75 : decode cX1_set 75 = .ok (.iastore, 1) := by decide +kernel
theorem dX1_set_76 : decode cX1_set 76 = .ok (.iinc 2 1, 3) := by decide +kernel
theorem dX1_set_79 : decode cX1_set 79 = .ok (.goto (-17), 3) := by decide +kernel
theorem dX1_set_82 : decode cX1_set 82 = .ok (.return_, 1) := by decide +kernel
theorem dX1_isThere_0 : decode cX1_isThere 0 = .ok (.aload_n 0, 1) := by decide +kernel
theorem dX1_isThere_1 : decode cX1_isThere 1 = .ok (.getfield 45, 3) := by decide +kernel
theorem dX1_isThere_4 : decode cX1_isThere 4 = .ok (.ifCond .le 7, 3) := by decide +kernel
theorem dX1_isThere_7 : decode cX1_isThere 7 = .ok (.iconst 1, 1) := by decide +kernel
theorem dX1_isThere_8 : decode cX1_isThere 8 = .ok (.goto 4, 3) := by decide +kernel
theorem dX1_isThere_11 : decode cX1_isThere 11 = .ok (.iconst 0, 1) := by decide +kernel
theorem dX1_isThere_12 : decode cX1_isThere 12 = .ok (.ireturn, 1) := by decide +kernel
theorem dX1_slotNow_0 : decode cX1_slotNow 0 = .ok (.aload_n 0, 1) := by decide +kernel
theorem dX1_slotNow_1 : decode cX1_slotNow 1 = .ok (.getfield 45, 3) := by decide +kernel
theorem dX1_slotNow_4 : decode cX1_slotNow 4 = .ok (.iconst 1, 1) := by decide +kernel
theorem dX1_slotNow_5 : decode cX1_slotNow 5 = .ok (.if_icmp .ge 7, 3) := by decide +kernel
theorem dX1_slotNow_8 : decode cX1_slotNow 8 = .ok (.iconst 0, 1) := by decide +kernel
theorem dX1_slotNow_9 : decode cX1_slotNow 9 = .ok (.goto 14, 3) := by decide +kernel
theorem dX1_slotNow_12 : decode cX1_slotNow 12 = .ok (.aload_n 0, 1) := by decide +kernel
theorem dX1_slotNow_13 : decode cX1_slotNow 13 = .ok (.getfield 46, 3) := by decide +kernel
theorem dX1_slotNow_16 : decode cX1_slotNow 16 = .ok (.aload_n 0, 1) := by decide +kernel
theorem dX1_slotNow_17 : decode cX1_slotNow 17 = .ok (.getfield 45, 3) := by decide +kernel
theorem dX1_slotNow_20 : decode cX1_slotNow 20 = .ok (.invokestatic 53, 3) := by decide +kernel
theorem dX1_slotNow_23 : decode cX1_slotNow 23 = .ok (.ireturn, 1) := by decide +kernel
theorem dX1_isBroken_0 : decode cX1_isBroken 0 = .ok (.iload_n 1, 1) := by decide +kernel
theorem dX1_isBroken_1 : decode cX1_isBroken 1 = .ok (.invokestatic 59, 3) := by decide +kernel
theorem dX1_isBroken_4 : decode cX1_isBroken 4 = .ok (.ifCond .eq 16, 3) := by decide +kernel
theorem dX1_isBroken_7 : decode cX1_isBroken 7 = .ok (.aload_n 0, 1) := by decide +kernel
theorem dX1_isBroken_8 : decode cX1_isBroken 8 = .ok (.getfield 18, 3) := by decide +kernel
theorem dX1_isBroken_11 : decode cX1_isBroken 11 = .ok (.iload_n 1, 1) := by decide +kernel
theorem dX1_isBroken_12 : decode cX1_isBroken 12 = .ok (.baload, 1) := by decide +kernel
theorem dX1_isBroken_13 : decode cX1_isBroken 13 = .ok (.ifCond .eq 7, 3) := by decide +kernel
theorem dX1_isBroken_16 : decode cX1_isBroken 16 = .ok (.iconst 1, 1) := by decide +kernel
theorem dX1_isBroken_17 : decode cX1_isBroken 17 = .ok (.goto 4, 3) := by decide +kernel
theorem dX1_isBroken_20 : decode cX1_isBroken 20 = .ok (.iconst 0, 1) := by decide +kernel
theorem dX1_isBroken_21 : decode cX1_isBroken 21 = .ok (.ireturn, 1) := by decide +kernel
theorem dX1_setBroken_0 : decode cX1_setBroken 0 = .ok (.iload_n 1, 1) := by decide +kernel
theorem dX1_setBroken_1 : decode cX1_setBroken 1 = .ok (.invokestatic 59, 3) := by decide +kernel
theorem dX1_setBroken_4 : decode cX1_setBroken 4 = .ok (.ifCond .eq 10, 3) := by decide +kernel
theorem dX1_setBroken_7 : decode cX1_setBroken 7 = .ok (.aload_n 0, 1) := by decide +kernel
theorem dX1_setBroken_8 : decode cX1_setBroken 8 = .ok (.getfield 18, 3) := by decide +kernel
theorem dX1_setBroken_11 : decode cX1_setBroken 11 = .ok (.iload_n 1, 1) := by decide +kernel
theorem dX1_setBroken_12 : decode cX1_setBroken 12 = .ok (.iload_n 2, 1) := by decide +kernel
theorem dX1_setBroken_13 : decode cX1_setBroken 13 = .ok (.bastore, 1) := by decide +kernel
theorem dX1_setBroken_14 : decode cX1_setBroken 14 = .ok (.return_, 1) := by decide +kernel
theorem dX1_use_0 : decode cX1_use 0 = .ok (.iload_n 1, 1) := by decide +kernel
theorem dX1_use_1 : decode cX1_use 1 = .ok (.invokestatic 59, 3) := by decide +kernel
theorem dX1_use_4 : decode cX1_use 4 = .ok (.ifCond .eq 13, 3) := by decide +kernel
theorem dX1_use_7 : decode cX1_use 7 = .ok (.aload_n 0, 1) := by decide +kernel
theorem dX1_use_8 : decode cX1_use 8 = .ok (.getfield 22, 3) := by decide +kernel
theorem dX1_use_11 : decode cX1_use 11 = .ok (.iload_n 1, 1) := by decide +kernel
theorem dX1_use_12 : decode cX1_use 12 = .ok (.dup2, 1) := by decide +kernel
theorem dX1_use_13 : decode cX1_use 13 = .ok (.iaload, 1) := by decide +kernel
theorem dX1_use_14 : decode cX1_use 14 = .ok (.iconst 1, 1) := by decide +kernel
theorem dX1_use_15 : decode cX1_use 15 = .ok (.iadd, 1) := by decide +kernel
theorem dX1_use_16 : decode cX1_use 16 = .ok (.iastore, 1) := by decide +kernel
theorem dX1_use_17 : decode cX1_use 17 = .ok (.return_, 1) := by decide +kernel
theorem dX1_ownerOf_0 : decode cX1_ownerOf 0 = .ok (.iload_n 1, 1) := by decide +kernel
theorem dX1_ownerOf_1 : decode cX1_ownerOf 1 = .ok (.invokestatic 59, 3) := by decide +kernel
theorem dX1_ownerOf_4 : decode cX1_ownerOf 4 = .ok (.ifCond .eq 13, 3) := by decide +kernel
theorem dX1_ownerOf_7 : decode cX1_ownerOf 7 = .ok (.iload_n 2, 1) := by decide +kernel
theorem dX1_ownerOf_8 : decode cX1_ownerOf 8 = .ok (.ifCond .lt 9, 3) := by decide +kernel
theorem dX1_ownerOf_11 : decode cX1_ownerOf 11 = .ok (.iload_n 2, 1) := by decide +kernel
theorem dX1_ownerOf_12 : decode cX1_ownerOf 12 = .ok (.bipush 10, 2) := by decide +kernel
theorem dX1_ownerOf_14 : decode cX1_ownerOf 14 = .ok (.if_icmp .lt 5, 3) := by decide +kernel
theorem dX1_ownerOf_17 : decode cX1_ownerOf 17 = .ok (.iconst (-1), 1) := by decide +kernel
theorem dX1_ownerOf_18 : decode cX1_ownerOf 18 = .ok (.ireturn, 1) := by decide +kernel
theorem dX1_ownerOf_19 : decode cX1_ownerOf 19 = .ok (.aload_n 0, 1) := by decide +kernel
theorem dX1_ownerOf_20 : decode cX1_ownerOf 20 = .ok (.getfield 26, 3) := by decide +kernel
theorem dX1_ownerOf_23 : decode cX1_ownerOf 23 = .ok (.bipush 10, 2) := by decide +kernel
theorem dX1_ownerOf_25 : decode cX1_ownerOf 25 = .ok (.iload_n 1, 1) := by decide +kernel
theorem dX1_ownerOf_26 : decode cX1_ownerOf 26 = .ok (.imul, 1) := by decide +kernel
theorem dX1_ownerOf_27 : decode cX1_ownerOf 27 = .ok (.iload_n 2, 1) := by decide +kernel
theorem dX1_ownerOf_28 : decode cX1_ownerOf 28 = .ok (.iadd, 1) := by decide +kernel
theorem dX1_ownerOf_29 : decode cX1_ownerOf 29 = .ok (.iaload, 1) := by decide +kernel
theorem dX1_ownerOf_30 : decode cX1_ownerOf 30 = .ok (.ireturn, 1) := by decide +kernel
theorem dX1_mark_0 : decode cX1_mark 0 = .ok (.iconst 0, 1) := by decide +kernel
theorem dX1_mark_1 : decode cX1_mark 1 = .ok (.istore_n 3, 1) := by decide +kernel
theorem dX1_mark_2 : decode cX1_mark 2 = .ok (.iload_n 3, 1) := by decide +kernel
theorem dX1_mark_3 : decode cX1_mark 3 = .ok (.aload_n 1, 1) := by decide +kernel
theorem dX1_mark_4 : decode cX1_mark 4 = .ok (.invokevirtual 62, 3) := by decide +kernel
theorem dX1_mark_7 : decode cX1_mark 7 = .ok (.if_icmp .ge 53, 3) := by decide +kernel
theorem dX1_mark_10 : decode cX1_mark 10 = .ok (.iconst 0, 1) := by decide +kernel
theorem dX1_mark_11 : decode cX1_mark 11 = .ok (.istore 4, 2) := by decide +kernel
theorem dX1_mark_13 : decode cX1_mark 13 = .ok (.iload 4, 2) := by decide +kernel
theorem dX1_mark_15 : decode cX1_mark 15 = .ok (.aload_n 0, 1) := by decide +kernel
theorem dX1_mark_16 : decode cX1_mark 16 = .ok (.getfield 45, 3) := by decide +kernel
theorem dX1_mark_19 : decode cX1_mark 19 = .ok (.if_icmp .ge 35, 3) := by decide +kernel
theorem dX1_mark_22 : decode cX1_mark 22 = .ok (.aload_n 1, 1) := by decide +kernel
theorem dX1_mark_23 : decode cX1_mark 23 = .ok (.iload 4, 2) := by decide +kernel
theorem dX1_mark_25 : decode cX1_mark 25 = .ok (.invokevirtual 68, 3) := by decide +kernel
theorem dX1_mark_28 : decode cX1_mark 28 = .ok (.ifCond .eq 20, 3) := by decide +kernel
theorem dX1_mark_31 : decode cX1_mark 31 = .ok (.aload_n 0, 1) := by decide +kernel
theorem dX1_mark_32 : decode cX1_mark 32 = .ok (.aload_n 1, 1) := by decide +kernel
theorem dX1_mark_33 : decode cX1_mark 33 = .ok (.iload_n 3, 1) := by decide +kernel
theorem dX1_mark_34 : decode cX1_mark 34 = .ok (.invokevirtual 71, 3) := by decide +kernel
theorem dX1_mark_37 : decode cX1_mark 37 = .ok (.aload_n 0, 1) := by decide +kernel
theorem dX1_mark_38 : decode cX1_mark 38 = .ok (.iload 4, 2) := by decide +kernel
theorem dX1_mark_40 : decode cX1_mark 40 = .ok (.iload_n 3, 1) := by decide +kernel
theorem dX1_mark_41 : decode cX1_mark 41 = .ok (.invokevirtual 75, 3) := by decide +kernel
theorem dX1_mark_44 : decode cX1_mark 44 = .ok (.iload_n 2, 1) := by decide +kernel
theorem dX1_mark_45 : decode cX1_mark 45 = .ok (.invokevirtual 78, 3) := by decide +kernel
theorem dX1_mark_48 : decode cX1_mark 48 = .ok (.iinc 4 1, 3) := by decide +kernel
theorem dX1_mark_51 : decode cX1_mark 51 = .ok (.goto (-38), 3) := by decide +kernel
theorem dX1_mark_54 : decode cX1_mark 54 = .ok (.iinc 3 1, 3) := by decide +kernel
theorem dX1_mark_57 : decode cX1_mark 57 = .ok (.goto (-55), 3) := by decide +kernel
theorem dX1_mark_60 : decode cX1_mark 60 = .ok (.return_, 1) := by decide +kernel
theorem dX1_freeStarts_0 : decode cX1_freeStarts 0 = .ok (.iconst 0, 1) := by decide +kernel
theorem dX1_freeStarts_1 : decode cX1_freeStarts 1 = .ok (.istore_n 3, 1) := by decide +kernel
theorem dX1_freeStarts_2 : decode cX1_freeStarts 2 = .ok (.iconst 0, 1) := by decide +kernel
theorem dX1_freeStarts_3 : decode cX1_freeStarts 3 = .ok (.istore 4, 2) := by decide +kernel
theorem dX1_freeStarts_5 : decode cX1_freeStarts 5 = .ok (.iload 4, 2) := by decide +kernel
theorem dX1_freeStarts_7 : decode cX1_freeStarts 7 = .ok (.aload_n 0, 1) := by decide +kernel
theorem dX1_freeStarts_8 : decode cX1_freeStarts 8 = .ok (.getfield 45, 3) := by decide +kernel
theorem dX1_freeStarts_11 : decode cX1_freeStarts 11 = .ok (.if_icmp .ge 32, 3) := by decide +kernel
theorem dX1_freeStarts_14 : decode cX1_freeStarts 14 = .ok (.aload_n 0, 1) := by decide +kernel
theorem dX1_freeStarts_15 : decode cX1_freeStarts 15 = .ok (.iload_n 1, 1) := by decide +kernel
theorem dX1_freeStarts_16 : decode cX1_freeStarts 16 = .ok (.aload_n 0, 1) := by decide +kernel
theorem dX1_freeStarts_17 : decode cX1_freeStarts 17 = .ok (.iload 4, 2) := by decide +kernel
theorem dX1_freeStarts_19 : decode cX1_freeStarts 19 = .ok (.iload_n 2, 1) := by decide +kernel
theorem dX1_freeStarts_20 : decode cX1_freeStarts 20 = .ok (.invokevirtual 75, 3) := by decide +kernel
theorem dX1_freeStarts_23 : decode cX1_freeStarts 23 = .ok (.invokevirtual 82, 3) := by decide +kernel
theorem dX1_freeStarts_26 : decode cX1_freeStarts 26 = .ok (.iconst (-1), 1) := by decide +kernel
theorem dX1_freeStarts_27 : decode cX1_freeStarts 27 = .ok (.if_icmp .ne 10, 3) := by decide +kernel
theorem dX1_freeStarts_30 : decode cX1_freeStarts 30 = .ok (.iload_n 3, 1) := by decide +kernel
theorem dX1_freeStarts_31 : decode cX1_freeStarts 31 = .ok (.iconst 1, 1) := by decide +kernel
theorem dX1_freeStarts_32 : decode cX1_freeStarts 32 = .ok (.iload 4, 2) := by decide +kernel
theorem dX1_freeStarts_34 : decode cX1_freeStarts 34 = .ok (.ishl, 1) := by decide +kernel
theorem dX1_freeStarts_35 : decode cX1_freeStarts 35 = .ok (.ior, 1) := by decide +kernel
theorem dX1_freeStarts_36 : decode cX1_freeStarts 36 = .ok (.istore_n 3, 1) := by decide +kernel
theorem dX1_freeStarts_37 : decode cX1_freeStarts 37 = .ok (.iinc 4 1, 3) := by decide +kernel
theorem dX1_freeStarts_40 : decode cX1_freeStarts 40 = .ok (.goto (-35), 3) := by decide +kernel
theorem dX1_freeStarts_43 : decode cX1_freeStarts 43 = .ok (.iload_n 3, 1) := by decide +kernel
theorem dX1_freeStarts_44 : decode cX1_freeStarts 44 = .ok (.ireturn, 1) := by decide +kernel
theorem dX1_slotsHad_0 : decode cX1_slotsHad 0 = .ok (.iconst 0, 1) := by decide +kernel
theorem dX1_slotsHad_1 : decode cX1_slotsHad 1 = .ok (.istore_n 2, 1) := by decide +kernel
theorem dX1_slotsHad_2 : decode cX1_slotsHad 2 = .ok (.iconst 0, 1) := by decide +kernel
theorem dX1_slotsHad_3 : decode cX1_slotsHad 3 = .ok (.istore_n 3, 1) := by decide +kernel
theorem dX1_slotsHad_4 : decode cX1_slotsHad 4 = .ok (.iload_n 3, 1) := by decide +kernel
theorem dX1_slotsHad_5 : decode cX1_slotsHad 5 = .ok (.aload_n 0, 1) := by decide +kernel
theorem dX1_slotsHad_6 : decode cX1_slotsHad 6 = .ok (.getfield 45, 3) := by decide +kernel
theorem dX1_slotsHad_9 : decode cX1_slotsHad 9 = .ok (.if_icmp .ge 22, 3) := by decide +kernel
theorem dX1_slotsHad_12 : decode cX1_slotsHad 12 = .ok (.aload_n 0, 1) := by decide +kernel
theorem dX1_slotsHad_13 : decode cX1_slotsHad 13 = .ok (.iload_n 1, 1) := by decide +kernel
theorem dX1_slotsHad_14 : decode cX1_slotsHad 14 = .ok (.iload_n 3, 1) := by decide +kernel
theorem dX1_slotsHad_15 : decode cX1_slotsHad 15 = .ok (.invokevirtual 82, 3) := by decide +kernel
theorem dX1_slotsHad_18 : decode cX1_slotsHad 18 = .ok (.iconst (-1), 1) := by decide +kernel
theorem dX1_slotsHad_19 : decode cX1_slotsHad 19 = .ok (.if_icmp .eq 6, 3) := by decide +kernel
theorem dX1_slotsHad_22 : decode cX1_slotsHad 22 = .ok (.iinc 2 1, 3) := by decide +kernel
theorem dX1_slotsHad_25 : decode cX1_slotsHad 25 = .ok (.iinc 3 1, 3) := by decide +kernel
theorem dX1_slotsHad_28 : decode cX1_slotsHad 28 = .ok (.goto (-24), 3) := by decide +kernel
theorem dX1_slotsHad_31 : decode cX1_slotsHad 31 = .ok (.iload_n 2, 1) := by decide +kernel
theorem dX1_slotsHad_32 : decode cX1_slotsHad 32 = .ok (.ireturn, 1) := by decide +kernel
theorem dX1_brokenLinks_0 : decode cX1_brokenLinks 0 = .ok (.iconst 0, 1) := by decide +kernel
theorem dX1_brokenLinks_1 : decode cX1_brokenLinks 1 = .ok (.istore_n 1, 1) := by decide +kernel
theorem dX1_brokenLinks_2 : decode cX1_brokenLinks 2 = .ok (.iconst 0, 1) := by decide +kernel
theorem dX1_brokenLinks_3 : decode cX1_brokenLinks 3 = .ok (.istore_n 2, 1) := by decide +kernel
theorem dX1_brokenLinks_4 : decode cX1_brokenLinks 4 = .ok (.iload_n 2, 1) := by decide +kernel
theorem dX1_brokenLinks_5 : decode cX1_brokenLinks 5 = .ok (.bipush 54, 2) := by decide +kernel
theorem dX1_brokenLinks_7 : decode cX1_brokenLinks 7 = .ok (.if_icmp .ge 21, 3) := by decide +kernel
theorem dX1_brokenLinks_10 : decode cX1_brokenLinks 10 = .ok (.aload_n 0, 1) := by decide +kernel
theorem dX1_brokenLinks_11 : decode cX1_brokenLinks 11 = .ok (.getfield 18, 3) := by decide +kernel
theorem dX1_brokenLinks_14 : decode cX1_brokenLinks 14 = .ok (.iload_n 2, 1) := by decide +kernel
theorem dX1_brokenLinks_15 : decode cX1_brokenLinks 15 = .ok (.baload, 1) := by decide +kernel
theorem dX1_brokenLinks_16 : decode cX1_brokenLinks 16 = .ok (.ifCond .eq 6, 3) := by decide +kernel
theorem dX1_brokenLinks_19 : decode cX1_brokenLinks 19 = .ok (.iinc 1 1, 3) := by decide +kernel
theorem dX1_brokenLinks_22 : decode cX1_brokenLinks 22 = .ok (.iinc 2 1, 3) := by decide +kernel
theorem dX1_brokenLinks_25 : decode cX1_brokenLinks 25 = .ok (.goto (-21), 3) := by decide +kernel
theorem dX1_brokenLinks_28 : decode cX1_brokenLinks 28 = .ok (.iload_n 1, 1) := by decide +kernel
theorem dX1_brokenLinks_29 : decode cX1_brokenLinks 29 = .ok (.ireturn, 1) := by decide +kernel
theorem dX1_tell_0 : decode cX1_tell 0 = .ok (.iload_n 1, 1) := by decide +kernel
theorem dX1_tell_1 : decode cX1_tell 1 = .ok (.tableswitch 84 0 6 #[43, 51, 59, 64, 69, 74, 79], 43) := by decide +kernel
theorem dX1_tell_44 : decode cX1_tell 44 = .ok (.aload_n 0, 1) := by decide +kernel
theorem dX1_tell_45 : decode cX1_tell 45 = .ok (.getfield 12, 3) := by decide +kernel
theorem dX1_tell_48 : decode cX1_tell 48 = .ok (.getfield 85, 3) := by decide +kernel
theorem dX1_tell_51 : decode cX1_tell 51 = .ok (.ireturn, 1) := by decide +kernel
theorem dX1_tell_52 : decode cX1_tell 52 = .ok (.aload_n 0, 1) := by decide +kernel
theorem dX1_tell_53 : decode cX1_tell 53 = .ok (.getfield 12, 3) := by decide +kernel
theorem dX1_tell_56 : decode cX1_tell 56 = .ok (.getfield 86, 3) := by decide +kernel
theorem dX1_tell_59 : decode cX1_tell 59 = .ok (.ireturn, 1) := by decide +kernel
theorem dX1_tell_60 : decode cX1_tell 60 = .ok (.aload_n 0, 1) := by decide +kernel
theorem dX1_tell_61 : decode cX1_tell 61 = .ok (.getfield 45, 3) := by decide +kernel
theorem dX1_tell_64 : decode cX1_tell 64 = .ok (.ireturn, 1) := by decide +kernel
theorem dX1_tell_65 : decode cX1_tell 65 = .ok (.aload_n 0, 1) := by decide +kernel
theorem dX1_tell_66 : decode cX1_tell 66 = .ok (.invokevirtual 87, 3) := by decide +kernel
theorem dX1_tell_69 : decode cX1_tell 69 = .ok (.ireturn, 1) := by decide +kernel
theorem dX1_tell_70 : decode cX1_tell 70 = .ok (.aload_n 0, 1) := by decide +kernel
theorem dX1_tell_71 : decode cX1_tell 71 = .ok (.invokevirtual 90, 3) := by decide +kernel
theorem dX1_tell_74 : decode cX1_tell 74 = .ok (.ireturn, 1) := by decide +kernel
theorem dX1_tell_75 : decode cX1_tell 75 = .ok (.aload_n 0, 1) := by decide +kernel
theorem dX1_tell_76 : decode cX1_tell 76 = .ok (.invokevirtual 93, 3) := by decide +kernel
theorem dX1_tell_79 : decode cX1_tell 79 = .ok (.ireturn, 1) := by decide +kernel
theorem dX1_tell_80 : decode cX1_tell 80 = .ok (.aload_n 0, 1) := by decide +kernel
theorem dX1_tell_81 : decode cX1_tell 81 = .ok (.getfield 46, 3) := by decide +kernel
theorem dX1_tell_84 : decode cX1_tell 84 = .ok (.ireturn, 1) := by decide +kernel
theorem dX1_tell_85 : decode cX1_tell 85 = .ok (.aload_n 0, 1) := by decide +kernel
theorem dX1_tell_86 : decode cX1_tell 86 = .ok (.invokevirtual 96, 3) := by decide +kernel
theorem dX1_tell_89 : decode cX1_tell 89 = .ok (.ireturn, 1) := by decide +kernel
theorem dX1_tellLink_0 : decode cX1_tellLink 0 = .ok (.iload_n 2, 1) := by decide +kernel
theorem dX1_tellLink_1 : decode cX1_tellLink 1 = .ok (.tableswitch 56 0 2 #[27, 36, 50], 27) := by decide +kernel
theorem dX1_tellLink_28 : decode cX1_tellLink 28 = .ok (.aload_n 0, 1) := by decide +kernel
theorem dX1_tellLink_29 : decode cX1_tellLink 29 = .ok (.getfield 12, 3) := by decide +kernel
theorem dX1_tellLink_32 : decode cX1_tellLink 32 = .ok (.iload_n 1, 1) := by decide +kernel
theorem dX1_tellLink_33 : decode cX1_tellLink 33 = .ok (.invokevirtual 99, 3) := by decide +kernel
theorem dX1_tellLink_36 : decode cX1_tellLink 36 = .ok (.ireturn, 1) := by decide +kernel
theorem dX1_tellLink_37 : decode cX1_tellLink 37 = .ok (.aload_n 0, 1) := by decide +kernel
theorem dX1_tellLink_38 : decode cX1_tellLink 38 = .ok (.iload_n 1, 1) := by decide +kernel
theorem dX1_tellLink_39 : decode cX1_tellLink 39 = .ok (.invokevirtual 102, 3) := by decide +kernel
theorem dX1_tellLink_42 : decode cX1_tellLink 42 = .ok (.ifCond .eq 7, 3) := by decide +kernel
theorem dX1_tellLink_45 : decode cX1_tellLink 45 = .ok (.iconst 1, 1) := by decide +kernel
theorem dX1_tellLink_46 : decode cX1_tellLink 46 = .ok (.goto 4, 3) := by decide +kernel
theorem dX1_tellLink_49 : decode cX1_tellLink 49 = .ok (.iconst 0, 1) := by decide +kernel
theorem dX1_tellLink_50 : decode cX1_tellLink 50 = .ok (.ireturn, 1) := by decide +kernel
theorem dX1_tellLink_51 : decode cX1_tellLink 51 = .ok (.aload_n 0, 1) := by decide +kernel
theorem dX1_tellLink_52 : decode cX1_tellLink 52 = .ok (.iload_n 1, 1) := by decide +kernel
theorem dX1_tellLink_53 : decode cX1_tellLink 53 = .ok (.invokevirtual 105, 3) := by decide +kernel
theorem dX1_tellLink_56 : decode cX1_tellLink 56 = .ok (.ireturn, 1) := by decide +kernel
theorem dX1_tellLink_57 : decode cX1_tellLink 57 = .ok (.iload_n 1, 1) := by decide +kernel
theorem dX1_tellLink_58 : decode cX1_tellLink 58 = .ok (.invokestatic 59, 3) := by decide +kernel
theorem dX1_tellLink_61 : decode cX1_tellLink 61 = .ok (.ifCond .eq 12, 3) := by decide +kernel
theorem dX1_tellLink_64 : decode cX1_tellLink 64 = .ok (.aload_n 0, 1) := by decide +kernel
theorem dX1_tellLink_65 : decode cX1_tellLink 65 = .ok (.getfield 22, 3) := by decide +kernel
theorem dX1_tellLink_68 : decode cX1_tellLink 68 = .ok (.iload_n 1, 1) := by decide +kernel
theorem dX1_tellLink_69 : decode cX1_tellLink 69 = .ok (.iaload, 1) := by decide +kernel
theorem dX1_tellLink_70 : decode cX1_tellLink 70 = .ok (.goto 4, 3) := by decide +kernel
theorem dX1_tellLink_73 : decode cX1_tellLink 73 = .ok (.iconst 0, 1) := by decide +kernel
theorem dX1_tellLink_74 : decode cX1_tellLink 74 = .ok (.ireturn, 1) := by decide +kernel
theorem dX1_slotOf_0 : decode cX1_slotOf 0 = .ok (.aload_n 0, 1) := by decide +kernel
theorem dX1_slotOf_1 : decode cX1_slotOf 1 = .ok (.getfield 45, 3) := by decide +kernel
theorem dX1_slotOf_4 : decode cX1_slotOf 4 = .ok (.iconst 1, 1) := by decide +kernel
theorem dX1_slotOf_5 : decode cX1_slotOf 5 = .ok (.if_icmp .ge 7, 3) := by decide +kernel
theorem dX1_slotOf_8 : decode cX1_slotOf 8 = .ok (.iconst 0, 1) := by decide +kernel
theorem dX1_slotOf_9 : decode cX1_slotOf 9 = .ok (.goto 11, 3) := by decide +kernel
theorem dX1_slotOf_12 : decode cX1_slotOf 12 = .ok (.iload_n 1, 1) := by decide +kernel
theorem dX1_slotOf_13 : decode cX1_slotOf 13 = .ok (.iload_n 2, 1) := by decide +kernel
theorem dX1_slotOf_14 : decode cX1_slotOf 14 = .ok (.iadd, 1) := by decide +kernel
theorem dX1_slotOf_15 : decode cX1_slotOf 15 = .ok (.aload_n 0, 1) := by decide +kernel
theorem dX1_slotOf_16 : decode cX1_slotOf 16 = .ok (.getfield 45, 3) := by decide +kernel
theorem dX1_slotOf_19 : decode cX1_slotOf 19 = .ok (.irem, 1) := by decide +kernel
theorem dX1_slotOf_20 : decode cX1_slotOf 20 = .ok (.ireturn, 1) := by decide +kernel
theorem dX1_setOwner_0 : decode cX1_setOwner 0 = .ok (.iload_n 1, 1) := by decide +kernel
theorem dX1_setOwner_1 : decode cX1_setOwner 1 = .ok (.invokestatic 59, 3) := by decide +kernel
theorem dX1_setOwner_4 : decode cX1_setOwner 4 = .ok (.ifCond .eq 25, 3) := by decide +kernel
theorem dX1_setOwner_7 : decode cX1_setOwner 7 = .ok (.iload_n 2, 1) := by decide +kernel
theorem dX1_setOwner_8 : decode cX1_setOwner 8 = .ok (.ifCond .lt 21, 3) := by decide +kernel
theorem dX1_setOwner_11 : decode cX1_setOwner 11 = .ok (.iload_n 2, 1) := by decide +kernel
theorem dX1_setOwner_12 : decode cX1_setOwner 12 = .ok (.bipush 10, 2) := by decide +kernel
theorem dX1_setOwner_14 : decode cX1_setOwner 14 = .ok (.if_icmp .ge 15, 3) := by decide +kernel
theorem dX1_setOwner_17 : decode cX1_setOwner 17 = .ok (.aload_n 0, 1) := by decide +kernel
theorem dX1_setOwner_18 : decode cX1_setOwner 18 = .ok (.getfield 26, 3) := by decide +kernel
theorem dX1_setOwner_21 : decode cX1_setOwner 21 = .ok (.bipush 10, 2) := by decide +kernel
theorem dX1_setOwner_23 : decode cX1_setOwner 23 = .ok (.iload_n 1, 1) := by decide +kernel
theorem dX1_setOwner_24 : decode cX1_setOwner 24 = .ok (.imul, 1) := by decide +kernel
theorem dX1_setOwner_25 : decode cX1_setOwner 25 = .ok (.iload_n 2, 1) := by decide +kernel
theorem dX1_setOwner_26 : decode cX1_setOwner 26 = .ok (.iadd, 1) := by decide +kernel
theorem dX1_setOwner_27 : decode cX1_setOwner 27 = .ok (.iload_n 3, 1) := by decide +kernel
theorem dX1_setOwner_28 : decode cX1_setOwner 28 = .ok (.iastore, 1) := by decide +kernel
theorem dX1_setOwner_29 : decode cX1_setOwner 29 = .ok (.return_, 1) := by decide +kernel
theorem dX1_links_0 : decode cX1_links 0 = .ok (.iconst 0, 1) := by decide +kernel
theorem dX1_links_1 : decode cX1_links 1 = .ok (.istore_n 1, 1) := by decide +kernel
theorem dX1_links_2 : decode cX1_links 2 = .ok (.iconst 0, 1) := by decide +kernel
theorem dX1_links_3 : decode cX1_links 3 = .ok (.istore_n 2, 1) := by decide +kernel
theorem dX1_links_4 : decode cX1_links 4 = .ok (.iload_n 2, 1) := by decide +kernel
theorem dX1_links_5 : decode cX1_links 5 = .ok (.bipush 54, 2) := by decide +kernel
theorem dX1_links_7 : decode cX1_links 7 = .ok (.if_icmp .ge 23, 3) := by decide +kernel
theorem dX1_links_10 : decode cX1_links 10 = .ok (.aload_n 0, 1) := by decide +kernel
theorem dX1_links_11 : decode cX1_links 11 = .ok (.getfield 12, 3) := by decide +kernel
theorem dX1_links_14 : decode cX1_links 14 = .ok (.iload_n 2, 1) := by decide +kernel
theorem dX1_links_15 : decode cX1_links 15 = .ok (.invokevirtual 108, 3) := by decide +kernel
theorem dX1_links_18 : decode cX1_links 18 = .ok (.ifCond .eq 6, 3) := by decide +kernel
theorem dX1_links_21 : decode cX1_links 21 = .ok (.iinc 1 1, 3) := by decide +kernel
theorem dX1_links_24 : decode cX1_links 24 = .ok (.iinc 2 1, 3) := by decide +kernel
theorem dX1_links_27 : decode cX1_links 27 = .ok (.goto (-23), 3) := by decide +kernel
theorem dX1_links_30 : decode cX1_links 30 = .ok (.iload_n 1, 1) := by decide +kernel
theorem dX1_links_31 : decode cX1_links 31 = .ok (.ireturn, 1) := by decide +kernel
theorem dX1_allSlotsHad_0 : decode cX1_allSlotsHad 0 = .ok (.iconst 0, 1) := by decide +kernel
theorem dX1_allSlotsHad_1 : decode cX1_allSlotsHad 1 = .ok (.istore_n 1, 1) := by decide +kernel
theorem dX1_allSlotsHad_2 : decode cX1_allSlotsHad 2 = .ok (.iconst 0, 1) := by decide +kernel
theorem dX1_allSlotsHad_3 : decode cX1_allSlotsHad 3 = .ok (.istore_n 2, 1) := by decide +kernel
theorem dX1_allSlotsHad_4 : decode cX1_allSlotsHad 4 = .ok (.iload_n 2, 1) := by decide +kernel
theorem dX1_allSlotsHad_5 : decode cX1_allSlotsHad 5 = .ok (.sipush 540, 3) := by decide +kernel
theorem dX1_allSlotsHad_8 : decode cX1_allSlotsHad 8 = .ok (.if_icmp .ge 22, 3) := by decide +kernel
theorem dX1_allSlotsHad_11 : decode cX1_allSlotsHad 11 = .ok (.aload_n 0, 1) := by decide +kernel
theorem dX1_allSlotsHad_12 : decode cX1_allSlotsHad 12 = .ok (.getfield 26, 3) := by decide +kernel
theorem dX1_allSlotsHad_15 : decode cX1_allSlotsHad 15 = .ok (.iload_n 2, 1) := by decide +kernel
theorem dX1_allSlotsHad_16 : decode cX1_allSlotsHad 16 = .ok (.iaload, 1) := by decide +kernel
theorem dX1_allSlotsHad_17 : decode cX1_allSlotsHad 17 = .ok (.iconst (-1), 1) := by decide +kernel
theorem dX1_allSlotsHad_18 : decode cX1_allSlotsHad 18 = .ok (.if_icmp .eq 6, 3) := by decide +kernel
theorem dX1_allSlotsHad_21 : decode cX1_allSlotsHad 21 = .ok (.iinc 1 1, 3) := by decide +kernel
theorem dX1_allSlotsHad_24 : decode cX1_allSlotsHad 24 = .ok (.iinc 2 1, 3) := by decide +kernel
theorem dX1_allSlotsHad_27 : decode cX1_allSlotsHad 27 = .ok (.goto (-23), 3) := by decide +kernel
theorem dX1_allSlotsHad_30 : decode cX1_allSlotsHad 30 = .ok (.iload_n 1, 1) := by decide +kernel
theorem dX1_allSlotsHad_31 : decode cX1_allSlotsHad 31 = .ok (.ireturn, 1) := by decide +kernel
theorem dX1_mostUsed_0 : decode cX1_mostUsed 0 = .ok (.iconst 0, 1) := by decide +kernel
theorem dX1_mostUsed_1 : decode cX1_mostUsed 1 = .ok (.istore_n 1, 1) := by decide +kernel
theorem dX1_mostUsed_2 : decode cX1_mostUsed 2 = .ok (.iconst 1, 1) := by decide +kernel
theorem dX1_mostUsed_3 : decode cX1_mostUsed 3 = .ok (.istore_n 2, 1) := by decide +kernel
theorem dX1_mostUsed_4 : decode cX1_mostUsed 4 = .ok (.iload_n 2, 1) := by decide +kernel
theorem dX1_mostUsed_5 : decode cX1_mostUsed 5 = .ok (.bipush 54, 2) := by decide +kernel
theorem dX1_mostUsed_7 : decode cX1_mostUsed 7 = .ok (.if_icmp .ge 26, 3) := by decide +kernel
theorem dX1_mostUsed_10 : decode cX1_mostUsed 10 = .ok (.aload_n 0, 1) := by decide +kernel
theorem dX1_mostUsed_11 : decode cX1_mostUsed 11 = .ok (.getfield 22, 3) := by decide +kernel
theorem dX1_mostUsed_14 : decode cX1_mostUsed 14 = .ok (.iload_n 2, 1) := by decide +kernel
theorem dX1_mostUsed_15 : decode cX1_mostUsed 15 = .ok (.iaload, 1) := by decide +kernel
theorem dX1_mostUsed_16 : decode cX1_mostUsed 16 = .ok (.aload_n 0, 1) := by decide +kernel
theorem dX1_mostUsed_17 : decode cX1_mostUsed 17 = .ok (.getfield 22, 3) := by decide +kernel
theorem dX1_mostUsed_20 : decode cX1_mostUsed 20 = .ok (.iload_n 1, 1) := by decide +kernel
theorem dX1_mostUsed_21 : decode cX1_mostUsed 21 = .ok (.iaload, 1) := by decide +kernel
theorem dX1_mostUsed_22 : decode cX1_mostUsed 22 = .ok (.if_icmp .le 5, 3) := by decide +kernel
theorem dX1_mostUsed_25 : decode cX1_mostUsed 25 = .ok (.iload_n 2, 1) := by decide +kernel
theorem dX1_mostUsed_26 : decode cX1_mostUsed 26 = .ok (.istore_n 1, 1) := by decide +kernel
theorem dX1_mostUsed_27 : decode cX1_mostUsed 27 = .ok (.iinc 2 1, 3) := by decide +kernel
theorem dX1_mostUsed_30 : decode cX1_mostUsed 30 = .ok (.goto (-26), 3) := by decide +kernel
theorem dX1_mostUsed_33 : decode cX1_mostUsed 33 = .ok (.iload_n 1, 1) := by decide +kernel
theorem dX1_mostUsed_34 : decode cX1_mostUsed 34 = .ok (.ireturn, 1) := by decide +kernel
theorem dX2_init_0 : decode cX2_init 0 = .ok (.aload_n 0, 1) := by decide +kernel
theorem dX2_init_1 : decode cX2_init 1 = .ok (.invokespecial 3, 3) := by decide +kernel
theorem dX2_init_4 : decode cX2_init 4 = .ok (.aload_n 0, 1) := by decide +kernel
theorem dX2_init_5 : decode cX2_init 5 = .ok (.bipush 8, 2) := by decide +kernel
theorem dX2_init_7 : decode cX2_init 7 = .ok (.newarray .int, 2) := by decide +kernel
theorem dX2_init_9 : decode cX2_init 9 = .ok (.putfield 9, 3) := by decide +kernel
theorem dX2_init_12 : decode cX2_init 12 = .ok (.aload_n 0, 1) := by decide +kernel
theorem dX2_init_13 : decode cX2_init 13 = .ok (.bipush 8, 2) := by decide +kernel
theorem dX2_init_15 : decode cX2_init 15 = .ok (.newarray .int, 2) := by decide +kernel
theorem dX2_init_17 : decode cX2_init 17 = .ok (.putfield 15, 3) := by decide +kernel
theorem dX2_init_20 : decode cX2_init 20 = .ok (.aload_n 0, 1) := by decide +kernel
theorem dX2_init_21 : decode cX2_init 21 = .ok (.iload_n 1, 1) := by decide +kernel
theorem dX2_init_22 : decode cX2_init 22 = .ok (.putfield 18, 3) := by decide +kernel
theorem dX2_init_25 : decode cX2_init 25 = .ok (.return_, 1) := by decide +kernel
theorem dX2_set_0 : decode cX2_set 0 = .ok (.aload_n 0, 1) := by decide +kernel
theorem dX2_set_1 : decode cX2_set 1 = .ok (.iconst 1, 1) := by decide +kernel
theorem dX2_set_2 : decode cX2_set 2 = .ok (.putfield 22, 3) := by decide +kernel
theorem dX2_set_5 : decode cX2_set 5 = .ok (.aload_n 0, 1) := by decide +kernel
theorem dX2_set_6 : decode cX2_set 6 = .ok (.iload_n 1, 1) := by decide +kernel
theorem dX2_set_7 : decode cX2_set 7 = .ok (.putfield 26, 3) := by decide +kernel
theorem dX2_set_10 : decode cX2_set 10 = .ok (.aload_n 0, 1) := by decide +kernel
theorem dX2_set_11 : decode cX2_set 11 = .ok (.iload_n 2, 1) := by decide +kernel
theorem dX2_set_12 : decode cX2_set 12 = .ok (.putfield 29, 3) := by decide +kernel
theorem dX2_set_15 : decode cX2_set 15 = .ok (.aload_n 0, 1) := by decide +kernel
theorem dX2_set_16 : decode cX2_set 16 = .ok (.iload_n 3, 1) := by decide +kernel
theorem dX2_set_17 : decode cX2_set 17 = .ok (.putfield 32, 3) := by decide +kernel
theorem dX2_set_20 : decode cX2_set 20 = .ok (.aload_n 0, 1) := by decide +kernel
theorem dX2_set_21 : decode cX2_set 21 = .ok (.iload 4, 2) := by decide +kernel
theorem dX2_set_23 : decode cX2_set 23 = .ok (.putfield 35, 3) := by decide +kernel
theorem dX2_set_26 : decode cX2_set 26 = .ok (.aload_n 0, 1) := by decide +kernel
theorem dX2_set_27 : decode cX2_set 27 = .ok (.iload 5, 2) := by decide +kernel
theorem dX2_set_29 : decode cX2_set 29 = .ok (.putfield 38, 3) := by decide +kernel
theorem dX2_set_32 : decode cX2_set 32 = .ok (.aload_n 0, 1) := by decide +kernel
theorem dX2_set_33 : decode cX2_set 33 = .ok (.iload 6, 2) := by decide +kernel
theorem dX2_set_35 : decode cX2_set 35 = .ok (.putfield 41, 3) := by decide +kernel
theorem dX2_set_38 : decode cX2_set 38 = .ok (.aload_n 0, 1) := by decide +kernel
theorem dX2_set_39 : decode cX2_set 39 = .ok (.iconst (-1), 1) := by decide +kernel
theorem dX2_set_40 : decode cX2_set 40 = .ok (.putfield 44, 3) := by decide +kernel
theorem dX2_set_43 : decode cX2_set 43 = .ok (.aload_n 0, 1) := by decide +kernel
theorem dX2_set_44 : decode cX2_set 44 = .ok (.iconst 0, 1) := by decide +kernel
theorem dX2_set_45 : decode cX2_set 45 = .ok (.putfield 47, 3) := by decide +kernel
theorem dX2_set_48 : decode cX2_set 48 = .ok (.aload_n 0, 1) := by decide +kernel
theorem dX2_set_49 : decode cX2_set 49 = .ok (.iload 5, 2) := by decide +kernel
theorem dX2_set_51 : decode cX2_set 51 = .ok (.putfield 50, 3) := by decide +kernel
theorem dX2_set_54 : decode cX2_set 54 = .ok (.aload_n 0, 1) := by decide +kernel
theorem dX2_set_55 : decode cX2_set 55 = .ok (.iconst 0, 1) := by decide +kernel
theorem dX2_set_56 : decode cX2_set 56 = .ok (.putfield 53, 3) := by decide +kernel
theorem dX2_set_59 : decode cX2_set 59 = .ok (.aload_n 0, 1) := by decide +kernel
theorem dX2_set_60 : decode cX2_set 60 = .ok (.iconst 0, 1) := by decide +kernel
theorem dX2_set_61 : decode cX2_set 61 = .ok (.putfield 56, 3) := by decide +kernel
theorem dX2_set_64 : decode cX2_set 64 = .ok (.aload_n 0, 1) := by decide +kernel
theorem dX2_set_65 : decode cX2_set 65 = .ok (.iconst 0, 1) := by decide +kernel
theorem dX2_set_66 : decode cX2_set 66 = .ok (.putfield 59, 3) := by decide +kernel
theorem dX2_set_69 : decode cX2_set 69 = .ok (.iconst 0, 1) := by decide +kernel
theorem dX2_set_70 : decode cX2_set 70 = .ok (.istore 7, 2) := by decide +kernel
theorem dX2_set_72 : decode cX2_set 72 = .ok (.iload 7, 2) := by decide +kernel
theorem dX2_set_74 : decode cX2_set 74 = .ok (.bipush 8, 2) := by decide +kernel
theorem dX2_set_76 : decode cX2_set 76 = .ok (.if_icmp .ge 17, 3) := by decide +kernel
theorem dX2_set_79 : decode cX2_set 79 = .ok (.aload_n 0, 1) := by decide +kernel
theorem dX2_set_80 : decode cX2_set 80 = .ok (.getfield 15, 3) := by decide +kernel
theorem dX2_set_83 : decode cX2_set 83 = .ok (.iload 7, 2) := by decide +kernel
theorem dX2_set_85 : decode cX2_set 85 = .ok (.iconst (-1), 1) := by decide +kernel
theorem dX2_set_86 : decode cX2_set 86 = .ok (.iastore, 1) := by decide +kernel
theorem dX2_set_87 : decode cX2_set 87 = .ok (.iinc 7 1, 3) := by decide +kernel
theorem dX2_set_90 : decode cX2_set 90 = .ok (.goto (-18), 3) := by decide +kernel
theorem dX2_set_93 : decode cX2_set 93 = .ok (.return_, 1) := by decide +kernel
theorem dX2_setRoute_0 : decode cX2_setRoute 0 = .ok (.aload_n 0, 1) := by decide +kernel
theorem dX2_setRoute_1 : decode cX2_setRoute 1 = .ok (.iconst 0, 1) := by decide +kernel
theorem dX2_setRoute_2 : decode cX2_setRoute 2 = .ok (.iload_n 2, 1) := by decide +kernel
theorem dX2_setRoute_3 : decode cX2_setRoute 3 = .ok (.bipush 6, 2) := by decide +kernel
theorem dX2_setRoute_5 : decode cX2_setRoute 5 = .ok (.invokestatic 62, 3) := by decide +kernel
theorem dX2_setRoute_8 : decode cX2_setRoute 8 = .ok (.aload_n 1, 1) := by decide +kernel
theorem dX2_setRoute_9 : decode cX2_setRoute 9 = .ok (.arraylength, 1) := by decide +kernel
theorem dX2_setRoute_10 : decode cX2_setRoute 10 = .ok (.invokestatic 62, 3) := by decide +kernel
theorem dX2_setRoute_13 : decode cX2_setRoute 13 = .ok (.invokestatic 68, 3) := by decide +kernel
theorem dX2_setRoute_16 : decode cX2_setRoute 16 = .ok (.putfield 71, 3) := by decide +kernel
theorem dX2_setRoute_19 : decode cX2_setRoute 19 = .ok (.aload_n 0, 1) := by decide +kernel
theorem dX2_setRoute_20 : decode cX2_setRoute 20 = .ok (.iload_n 3, 1) := by decide +kernel
theorem dX2_setRoute_21 : decode cX2_setRoute 21 = .ok (.putfield 74, 3) := by decide +kernel
theorem dX2_setRoute_24 : decode cX2_setRoute 24 = .ok (.aload_n 0, 1) := by decide +kernel
theorem dX2_setRoute_25 : decode cX2_setRoute 25 = .ok (.getfield 9, 3) := by decide +kernel
theorem dX2_setRoute_28 : decode cX2_setRoute 28 = .ok (.iconst 0, 1) := by decide +kernel
theorem dX2_setRoute_29 : decode cX2_setRoute 29 = .ok (.aload_n 0, 1) := by decide +kernel
theorem dX2_setRoute_30 : decode cX2_setRoute 30 = .ok (.getfield 29, 3) := by decide +kernel
theorem dX2_setRoute_33 : decode cX2_setRoute 33 = .ok (.iconst 0, 1) := by decide +kernel
theorem dX2_setRoute_34 : decode cX2_setRoute 34 = .ok (.invokestatic 77, 3) := by decide +kernel
theorem dX2_setRoute_37 : decode cX2_setRoute 37 = .ok (.iastore, 1) := by decide +kernel
theorem dX2_setRoute_38 : decode cX2_setRoute 38 = .ok (.iconst 0, 1) := by decide +kernel
theorem dX2_setRoute_39 : decode cX2_setRoute 39 = .ok (.istore 4, 2) := by decide +kernel
theorem dX2_setRoute_41 : decode cX2_setRoute 41 = .ok (.iload 4, 2) := by decide +kernel
theorem dX2_setRoute_43 : decode cX2_setRoute 43 = .ok (.aload_n 0, 1) := by decide +kernel
theorem dX2_setRoute_44 : decode cX2_setRoute 44 = .ok (.getfield 71, 3) := by decide +kernel
theorem dX2_setRoute_47 : decode cX2_setRoute 47 = .ok (.if_icmp .ge 22, 3) := by decide +kernel
theorem dX2_setRoute_50 : decode cX2_setRoute 50 = .ok (.aload_n 0, 1) := by decide +kernel
theorem dX2_setRoute_51 : decode cX2_setRoute 51 = .ok (.getfield 9, 3) := by decide +kernel
theorem dX2_setRoute_54 : decode cX2_setRoute 54 = .ok (.iload 4, 2) := by decide +kernel
theorem dX2_setRoute_56 : decode cX2_setRoute 56 = .ok (.iconst 1, 1) := by decide +kernel
theorem dX2_setRoute_57 : decode cX2_setRoute 57 = .ok (.iadd, 1) := by decide +kernel
theorem dX2_setRoute_58 : decode cX2_setRoute 58 = .ok (.aload_n 1, 1) := by decide +kernel
theorem dX2_setRoute_59 : decode cX2_setRoute 59 = .ok (.iload 4, 2) := by decide +kernel
theorem dX2_setRoute_61 : decode cX2_setRoute 61 = .ok (.iaload, 1) := by decide +kernel
theorem dX2_setRoute_62 : decode cX2_setRoute 62 = .ok (.iastore, 1) := by decide +kernel
theorem dX2_setRoute_63 : decode cX2_setRoute 63 = .ok (.iinc 4 1, 3) := by decide +kernel
theorem dX2_setRoute_66 : decode cX2_setRoute 66 = .ok (.goto (-25), 3) := by decide +kernel
theorem dX2_setRoute_69 : decode cX2_setRoute 69 = .ok (.aload_n 0, 1) := by decide +kernel
theorem dX2_setRoute_70 : decode cX2_setRoute 70 = .ok (.getfield 9, 3) := by decide +kernel
theorem dX2_setRoute_73 : decode cX2_setRoute 73 = .ok (.aload_n 0, 1) := by decide +kernel
theorem dX2_setRoute_74 : decode cX2_setRoute 74 = .ok (.getfield 71, 3) := by decide +kernel
theorem dX2_setRoute_77 : decode cX2_setRoute 77 = .ok (.iconst 1, 1) := by decide +kernel
theorem dX2_setRoute_78 : decode cX2_setRoute 78 = .ok (.iadd, 1) := by decide +kernel
theorem dX2_setRoute_79 : decode cX2_setRoute 79 = .ok (.aload_n 0, 1) := by decide +kernel
theorem dX2_setRoute_80 : decode cX2_setRoute 80 = .ok (.getfield 32, 3) := by decide +kernel
theorem dX2_setRoute_83 : decode cX2_setRoute 83 = .ok (.iconst 1, 1) := by decide +kernel
theorem dX2_setRoute_84 : decode cX2_setRoute 84 = .ok (.invokestatic 77, 3) := by decide +kernel
theorem dX2_setRoute_87 : decode cX2_setRoute 87 = .ok (.iastore, 1) := by decide +kernel
theorem dX2_setRoute_88 : decode cX2_setRoute 88 = .ok (.return_, 1) := by decide +kernel
theorem dX2_places_0 : decode cX2_places 0 = .ok (.aload_n 0, 1) := by decide +kernel
theorem dX2_places_1 : decode cX2_places 1 = .ok (.getfield 71, 3) := by decide +kernel
theorem dX2_places_4 : decode cX2_places 4 = .ok (.iconst 2, 1) := by decide +kernel
theorem dX2_places_5 : decode cX2_places 5 = .ok (.iadd, 1) := by decide +kernel
theorem dX2_places_6 : decode cX2_places 6 = .ok (.bipush 8, 2) := by decide +kernel
theorem dX2_places_8 : decode cX2_places 8 = .ok (.invokestatic 62, 3) := by decide +kernel
theorem dX2_places_11 : decode cX2_places 11 = .ok (.ireturn, 1) := by decide +kernel
theorem dX2_linkAt_0 : decode cX2_linkAt 0 = .ok (.iload_n 1, 1) := by decide +kernel
theorem dX2_linkAt_1 : decode cX2_linkAt 1 = .ok (.ifCond .lt 9, 3) := by decide +kernel
theorem dX2_linkAt_4 : decode cX2_linkAt 4 = .ok (.iload_n 1, 1) := by decide +kernel
theorem dX2_linkAt_5 : decode cX2_linkAt 5 = .ok (.bipush 8, 2) := by decide +kernel
theorem dX2_linkAt_7 : decode cX2_linkAt 7 = .ok (.if_icmp .lt 7, 3) := by decide +kernel
theorem dX2_linkAt_10 : decode cX2_linkAt 10 = .ok (.iconst (-1), 1) := by decide +kernel
theorem dX2_linkAt_11 : decode cX2_linkAt 11 = .ok (.goto 9, 3) := by decide +kernel
theorem dX2_linkAt_14 : decode cX2_linkAt 14 = .ok (.aload_n 0, 1) := by decide +kernel
theorem dX2_linkAt_15 : decode cX2_linkAt 15 = .ok (.getfield 9, 3) := by decide +kernel
theorem dX2_linkAt_18 : decode cX2_linkAt 18 = .ok (.iload_n 1, 1) := by decide +kernel
theorem dX2_linkAt_19 : decode cX2_linkAt 19 = .ok (.iaload, 1) := by decide +kernel
theorem dX2_linkAt_20 : decode cX2_linkAt 20 = .ok (.ireturn, 1) := by decide +kernel
theorem dX2_hasStart_0 : decode cX2_hasStart 0 = .ok (.aload_n 0, 1) := by decide +kernel
theorem dX2_hasStart_1 : decode cX2_hasStart 1 = .ok (.getfield 74, 3) := by decide +kernel
theorem dX2_hasStart_4 : decode cX2_hasStart 4 = .ok (.iload_n 1, 1) := by decide +kernel
theorem dX2_hasStart_5 : decode cX2_hasStart 5 = .ok (.ishr, 1) := by decide +kernel
theorem dX2_hasStart_6 : decode cX2_hasStart 6 = .ok (.iconst 1, 1) := by decide +kernel
theorem dX2_hasStart_7 : decode cX2_hasStart 7 = .ok (.iand, 1) := by decide +kernel
theorem dX2_hasStart_8 : decode cX2_hasStart 8 = .ok (.iconst 1, 1) := by decide +kernel
theorem dX2_hasStart_9 : decode cX2_hasStart 9 = .ok (.if_icmp .ne 7, 3) := by decide +kernel
theorem dX2_hasStart_12 : decode cX2_hasStart 12 = .ok (.iconst 1, 1) := by decide +kernel
theorem dX2_hasStart_13 : decode cX2_hasStart 13 = .ok (.goto 4, 3) := by decide +kernel
theorem dX2_hasStart_16 : decode cX2_hasStart 16 = .ok (.iconst 0, 1) := by decide +kernel
theorem dX2_hasStart_17 : decode cX2_hasStart 17 = .ok (.ireturn, 1) := by decide +kernel
theorem dX2_startAt_0 : decode cX2_startAt 0 = .ok (.iload_n 1, 1) := by decide +kernel
theorem dX2_startAt_1 : decode cX2_startAt 1 = .ok (.istore_n 2, 1) := by decide +kernel
theorem dX2_startAt_2 : decode cX2_startAt 2 = .ok (.iconst 0, 1) := by decide +kernel
theorem dX2_startAt_3 : decode cX2_startAt 3 = .ok (.istore_n 3, 1) := by decide +kernel
theorem dX2_startAt_4 : decode cX2_startAt 4 = .ok (.iload_n 3, 1) := by decide +kernel
theorem dX2_startAt_5 : decode cX2_startAt 5 = .ok (.bipush 10, 2) := by decide +kernel
theorem dX2_startAt_7 : decode cX2_startAt 7 = .ok (.if_icmp .ge 26, 3) := by decide +kernel
theorem dX2_startAt_10 : decode cX2_startAt 10 = .ok (.aload_n 0, 1) := by decide +kernel
theorem dX2_startAt_11 : decode cX2_startAt 11 = .ok (.iload_n 3, 1) := by decide +kernel
theorem dX2_startAt_12 : decode cX2_startAt 12 = .ok (.invokevirtual 80, 3) := by decide +kernel
theorem dX2_startAt_15 : decode cX2_startAt 15 = .ok (.ifCond .eq 12, 3) := by decide +kernel
theorem dX2_startAt_18 : decode cX2_startAt 18 = .ok (.iload_n 2, 1) := by decide +kernel
theorem dX2_startAt_19 : decode cX2_startAt 19 = .ok (.ifCond .ne 5, 3) := by decide +kernel
theorem dX2_startAt_22 : decode cX2_startAt 22 = .ok (.iload_n 3, 1) := by decide +kernel
theorem dX2_startAt_23 : decode cX2_startAt 23 = .ok (.ireturn, 1) := by decide +kernel
theorem dX2_startAt_24 : decode cX2_startAt 24 = .ok (.iinc 2 (-1), 3) := by decide +kernel
theorem dX2_startAt_27 : decode cX2_startAt 27 = .ok (.iinc 3 1, 3) := by decide +kernel
theorem dX2_startAt_30 : decode cX2_startAt 30 = .ok (.goto (-26), 3) := by decide +kernel
theorem dX2_startAt_33 : decode cX2_startAt 33 = .ok (.iconst (-1), 1) := by decide +kernel
theorem dX2_startAt_34 : decode cX2_startAt 34 = .ok (.ireturn, 1) := by decide +kernel
theorem dX2_isOf_0 : decode cX2_isOf 0 = .ok (.iload_n 1, 1) := by decide +kernel
theorem dX2_isOf_1 : decode cX2_isOf 1 = .ok (.ifCond .eq 24, 3) := by decide +kernel
theorem dX2_isOf_4 : decode cX2_isOf 4 = .ok (.iload_n 1, 1) := by decide +kernel
theorem dX2_isOf_5 : decode cX2_isOf 5 = .ok (.aload_n 0, 1) := by decide +kernel
theorem dX2_isOf_6 : decode cX2_isOf 6 = .ok (.getfield 26, 3) := by decide +kernel
theorem dX2_isOf_9 : decode cX2_isOf 9 = .ok (.if_icmp .eq 16, 3) := by decide +kernel
theorem dX2_isOf_12 : decode cX2_isOf 12 = .ok (.iload_n 1, 1) := by decide +kernel
theorem dX2_isOf_13 : decode cX2_isOf 13 = .ok (.iconst 1, 1) := by decide +kernel
theorem dX2_isOf_14 : decode cX2_isOf 14 = .ok (.if_icmp .ne 15, 3) := by decide +kernel
theorem dX2_isOf_17 : decode cX2_isOf 17 = .ok (.aload_n 0, 1) := by decide +kernel
theorem dX2_isOf_18 : decode cX2_isOf 18 = .ok (.getfield 26, 3) := by decide +kernel
theorem dX2_isOf_21 : decode cX2_isOf 21 = .ok (.iconst 2, 1) := by decide +kernel
theorem dX2_isOf_22 : decode cX2_isOf 22 = .ok (.if_icmp .ne 7, 3) := by decide +kernel
theorem dX2_isOf_25 : decode cX2_isOf 25 = .ok (.iconst 1, 1) := by decide +kernel
theorem dX2_isOf_26 : decode cX2_isOf 26 = .ok (.goto 4, 3) := by decide +kernel
theorem dX2_isOf_29 : decode cX2_isOf 29 = .ok (.iconst 0, 1) := by decide +kernel
theorem dX2_isOf_30 : decode cX2_isOf 30 = .ok (.ireturn, 1) := by decide +kernel
theorem dX2_isReverseOf_0 : decode cX2_isReverseOf 0 = .ok (.aload_n 0, 1) := by decide +kernel
theorem dX2_isReverseOf_1 : decode cX2_isReverseOf 1 = .ok (.getfield 29, 3) := by decide +kernel
theorem dX2_isReverseOf_4 : decode cX2_isReverseOf 4 = .ok (.aload_n 1, 1) := by decide +kernel
theorem dX2_isReverseOf_5 : decode cX2_isReverseOf 5 = .ok (.getfield 32, 3) := by decide +kernel
theorem dX2_isReverseOf_8 : decode cX2_isReverseOf 8 = .ok (.if_icmp .ne 18, 3) := by decide +kernel
theorem dX2_isReverseOf_11 : decode cX2_isReverseOf 11 = .ok (.aload_n 0, 1) := by decide +kernel
theorem dX2_isReverseOf_12 : decode cX2_isReverseOf 12 = .ok (.getfield 32, 3) := by decide +kernel
theorem dX2_isReverseOf_15 : decode cX2_isReverseOf 15 = .ok (.aload_n 1, 1) := by decide +kernel
theorem dX2_isReverseOf_16 : decode cX2_isReverseOf 16 = .ok (.getfield 29, 3) := by decide +kernel
theorem dX2_isReverseOf_19 : decode cX2_isReverseOf 19 = .ok (.if_icmp .ne 7, 3) := by decide +kernel
theorem dX2_isReverseOf_22 : decode cX2_isReverseOf 22 = .ok (.iconst 1, 1) := by decide +kernel
theorem dX2_isReverseOf_23 : decode cX2_isReverseOf 23 = .ok (.goto 4, 3) := by decide +kernel
theorem dX2_isReverseOf_26 : decode cX2_isReverseOf 26 = .ok (.iconst 0, 1) := by decide +kernel
theorem dX2_isReverseOf_27 : decode cX2_isReverseOf 27 = .ok (.ireturn, 1) := by decide +kernel
theorem dX2_isFasterThan_0 : decode cX2_isFasterThan 0 = .ok (.iconst 1, 1) := by decide +kernel
theorem dX2_isFasterThan_1 : decode cX2_isFasterThan 1 = .ok (.iload_n 2, 1) := by decide +kernel
theorem dX2_isFasterThan_2 : decode cX2_isFasterThan 2 = .ok (.aload_n 0, 1) := by decide +kernel
theorem dX2_isFasterThan_3 : decode cX2_isFasterThan 3 = .ok (.getfield 41, 3) := by decide +kernel
theorem dX2_isFasterThan_6 : decode cX2_isFasterThan 6 = .ok (.isub, 1) := by decide +kernel
theorem dX2_isFasterThan_7 : decode cX2_isFasterThan 7 = .ok (.invokestatic 68, 3) := by decide +kernel
theorem dX2_isFasterThan_10 : decode cX2_isFasterThan 10 = .ok (.i2l, 1) := by decide +kernel
theorem dX2_isFasterThan_11 : decode cX2_isFasterThan 11 = .ok (.lstore_n 3, 1) := by decide +kernel
theorem dX2_isFasterThan_12 : decode cX2_isFasterThan 12 = .ok (.iconst 1, 1) := by decide +kernel
theorem dX2_isFasterThan_13 : decode cX2_isFasterThan 13 = .ok (.iload_n 2, 1) := by decide +kernel
theorem dX2_isFasterThan_14 : decode cX2_isFasterThan 14 = .ok (.aload_n 1, 1) := by decide +kernel
theorem dX2_isFasterThan_15 : decode cX2_isFasterThan 15 = .ok (.getfield 41, 3) := by decide +kernel
theorem dX2_isFasterThan_18 : decode cX2_isFasterThan 18 = .ok (.isub, 1) := by decide +kernel
theorem dX2_isFasterThan_19 : decode cX2_isFasterThan 19 = .ok (.invokestatic 68, 3) := by decide +kernel
theorem dX2_isFasterThan_22 : decode cX2_isFasterThan 22 = .ok (.i2l, 1) := by decide +kernel
theorem dX2_isFasterThan_23 : decode cX2_isFasterThan 23 = .ok (.lstore 5, 2) := by decide +kernel
theorem dX2_isFasterThan_25 : decode cX2_isFasterThan 25 = .ok (.aload_n 0, 1) := by decide +kernel
theorem dX2_isFasterThan_26 : decode cX2_isFasterThan 26 = .ok (.getfield 59, 3) := by decide +kernel
theorem dX2_isFasterThan_29 : decode cX2_isFasterThan 29 = .ok (.i2l, 1) := by decide +kernel
theorem dX2_isFasterThan_30 : decode cX2_isFasterThan 30 = .ok (.lload 5, 2) := by decide +kernel
theorem dX2_isFasterThan_32 : decode cX2_isFasterThan 32 = .ok (.lmul, 1) := by decide +kernel
theorem dX2_isFasterThan_33 : decode cX2_isFasterThan 33 = .ok (.aload_n 1, 1) := by decide +kernel
theorem dX2_isFasterThan_34 : decode cX2_isFasterThan 34 = .ok (.getfield 59, 3) := by decide +kernel
theorem dX2_isFasterThan_37 : decode cX2_isFasterThan 37 = .ok (.i2l, 1) := by decide +kernel
theorem dX2_isFasterThan_38 : decode cX2_isFasterThan 38 = .ok (.lload_n 3, 1) := by decide +kernel
theorem dX2_isFasterThan_39 : decode cX2_isFasterThan 39 = .ok (.lmul, 1) := by decide +kernel
theorem dX2_isFasterThan_40 : decode cX2_isFasterThan 40 = .ok (.lcmp, 1) := by decide +kernel
theorem dX2_isFasterThan_41 : decode cX2_isFasterThan 41 = .ok (.ifCond .le 7, 3) := by decide +kernel
theorem dX2_isFasterThan_44 : decode cX2_isFasterThan 44 = .ok (.iconst 1, 1) := by decide +kernel
theorem dX2_isFasterThan_45 : decode cX2_isFasterThan 45 = .ok (.goto 4, 3) := by decide +kernel
theorem dX2_isFasterThan_48 : decode cX2_isFasterThan 48 = .ok (.iconst 0, 1) := by decide +kernel
theorem dX2_isFasterThan_49 : decode cX2_isFasterThan 49 = .ok (.ireturn, 1) := by decide +kernel
theorem dX2_lettersUnderWay_0 : decode cX2_lettersUnderWay 0 = .ok (.iconst 0, 1) := by decide +kernel
theorem dX2_lettersUnderWay_1 : decode cX2_lettersUnderWay 1 = .ok (.istore_n 1, 1) := by decide +kernel
theorem dX2_lettersUnderWay_2 : decode cX2_lettersUnderWay 2 = .ok (.iconst 0, 1) := by decide +kernel
theorem dX2_lettersUnderWay_3 : decode cX2_lettersUnderWay 3 = .ok (.istore_n 2, 1) := by decide +kernel
theorem dX2_lettersUnderWay_4 : decode cX2_lettersUnderWay 4 = .ok (.iload_n 2, 1) := by decide +kernel
theorem dX2_lettersUnderWay_5 : decode cX2_lettersUnderWay 5 = .ok (.bipush 8, 2) := by decide +kernel
theorem dX2_lettersUnderWay_7 : decode cX2_lettersUnderWay 7 = .ok (.if_icmp .ge 22, 3) := by decide +kernel
theorem dX2_lettersUnderWay_10 : decode cX2_lettersUnderWay 10 = .ok (.aload_n 0, 1) := by decide +kernel
theorem dX2_lettersUnderWay_11 : decode cX2_lettersUnderWay 11 = .ok (.getfield 15, 3) := by decide +kernel
theorem dX2_lettersUnderWay_14 : decode cX2_lettersUnderWay 14 = .ok (.iload_n 2, 1) := by decide +kernel
theorem dX2_lettersUnderWay_15 : decode cX2_lettersUnderWay 15 = .ok (.iaload, 1) := by decide +kernel
theorem dX2_lettersUnderWay_16 : decode cX2_lettersUnderWay 16 = .ok (.iconst (-1), 1) := by decide +kernel
theorem dX2_lettersUnderWay_17 : decode cX2_lettersUnderWay 17 = .ok (.if_icmp .eq 6, 3) := by decide +kernel
theorem dX2_lettersUnderWay_20 : decode cX2_lettersUnderWay 20 = .ok (.iinc 1 1, 3) := by decide +kernel
theorem dX2_lettersUnderWay_23 : decode cX2_lettersUnderWay 23 = .ok (.iinc 2 1, 3) := by decide +kernel
theorem dX2_lettersUnderWay_26 : decode cX2_lettersUnderWay 26 = .ok (.goto (-22), 3) := by decide +kernel
theorem dX2_lettersUnderWay_29 : decode cX2_lettersUnderWay 29 = .ok (.iload_n 1, 1) := by decide +kernel
theorem dX2_lettersUnderWay_30 : decode cX2_lettersUnderWay 30 = .ok (.ireturn, 1) := by decide +kernel
theorem dX2_letterAt_0 : decode cX2_letterAt 0 = .ok (.iload_n 1, 1) := by decide +kernel
theorem dX2_letterAt_1 : decode cX2_letterAt 1 = .ok (.ifCond .lt 9, 3) := by decide +kernel
theorem dX2_letterAt_4 : decode cX2_letterAt 4 = .ok (.iload_n 1, 1) := by decide +kernel
theorem dX2_letterAt_5 : decode cX2_letterAt 5 = .ok (.bipush 8, 2) := by decide +kernel
theorem dX2_letterAt_7 : decode cX2_letterAt 7 = .ok (.if_icmp .lt 7, 3) := by decide +kernel
theorem dX2_letterAt_10 : decode cX2_letterAt 10 = .ok (.iconst (-1), 1) := by decide +kernel
theorem dX2_letterAt_11 : decode cX2_letterAt 11 = .ok (.goto 9, 3) := by decide +kernel
theorem dX2_letterAt_14 : decode cX2_letterAt 14 = .ok (.aload_n 0, 1) := by decide +kernel
theorem dX2_letterAt_15 : decode cX2_letterAt 15 = .ok (.getfield 15, 3) := by decide +kernel
theorem dX2_letterAt_18 : decode cX2_letterAt 18 = .ok (.iload_n 1, 1) := by decide +kernel
theorem dX2_letterAt_19 : decode cX2_letterAt 19 = .ok (.iaload, 1) := by decide +kernel
theorem dX2_letterAt_20 : decode cX2_letterAt 20 = .ok (.ireturn, 1) := by decide +kernel
theorem dX2_hasLetterOn_0 : decode cX2_hasLetterOn 0 = .ok (.iconst 0, 1) := by decide +kernel
theorem dX2_hasLetterOn_1 : decode cX2_hasLetterOn 1 = .ok (.istore_n 2, 1) := by decide +kernel
theorem dX2_hasLetterOn_2 : decode cX2_hasLetterOn 2 = .ok (.iload_n 2, 1) := by decide +kernel
theorem dX2_hasLetterOn_3 : decode cX2_hasLetterOn 3 = .ok (.aload_n 0, 1) := by decide +kernel
theorem dX2_hasLetterOn_4 : decode cX2_hasLetterOn 4 = .ok (.invokevirtual 84, 3) := by decide +kernel
theorem dX2_hasLetterOn_7 : decode cX2_hasLetterOn 7 = .ok (.if_icmp .ge 31, 3) := by decide +kernel
theorem dX2_hasLetterOn_10 : decode cX2_hasLetterOn 10 = .ok (.aload_n 0, 1) := by decide +kernel
theorem dX2_hasLetterOn_11 : decode cX2_hasLetterOn 11 = .ok (.getfield 9, 3) := by decide +kernel
theorem dX2_hasLetterOn_14 : decode cX2_hasLetterOn 14 = .ok (.iload_n 2, 1) := by decide +kernel
theorem dX2_hasLetterOn_15 : decode cX2_hasLetterOn 15 = .ok (.iaload, 1) := by decide +kernel
theorem dX2_hasLetterOn_16 : decode cX2_hasLetterOn 16 = .ok (.iload_n 1, 1) := by decide +kernel
theorem dX2_hasLetterOn_17 : decode cX2_hasLetterOn 17 = .ok (.if_icmp .ne 15, 3) := by decide +kernel
theorem dX2_hasLetterOn_20 : decode cX2_hasLetterOn 20 = .ok (.aload_n 0, 1) := by decide +kernel
theorem dX2_hasLetterOn_21 : decode cX2_hasLetterOn 21 = .ok (.getfield 15, 3) := by decide +kernel
theorem dX2_hasLetterOn_24 : decode cX2_hasLetterOn 24 = .ok (.iload_n 2, 1) := by decide +kernel
theorem dX2_hasLetterOn_25 : decode cX2_hasLetterOn 25 = .ok (.iaload, 1) := by decide +kernel
theorem dX2_hasLetterOn_26 : decode cX2_hasLetterOn 26 = .ok (.iconst (-1), 1) := by decide +kernel
theorem dX2_hasLetterOn_27 : decode cX2_hasLetterOn 27 = .ok (.if_icmp .eq 5, 3) := by decide +kernel
theorem dX2_hasLetterOn_30 : decode cX2_hasLetterOn 30 = .ok (.iconst 1, 1) := by decide +kernel
theorem dX2_hasLetterOn_31 : decode cX2_hasLetterOn 31 = .ok (.ireturn, 1) := by decide +kernel
theorem dX2_hasLetterOn_32 : decode cX2_hasLetterOn 32 = .ok (.iinc 2 1, 3) := by decide +kernel
theorem dX2_hasLetterOn_35 : decode cX2_hasLetterOn 35 = .ok (.goto (-33), 3) := by decide +kernel
theorem dX2_hasLetterOn_38 : decode cX2_hasLetterOn 38 = .ok (.iconst 0, 1) := by decide +kernel
theorem dX2_hasLetterOn_39 : decode cX2_hasLetterOn 39 = .ok (.ireturn, 1) := by decide +kernel
theorem dX2_send_0 : decode cX2_send 0 = .ok (.aload_n 0, 1) := by decide +kernel
theorem dX2_send_1 : decode cX2_send 1 = .ok (.getfield 47, 3) := by decide +kernel
theorem dX2_send_4 : decode cX2_send 4 = .ok (.ifCond .le 14, 3) := by decide +kernel
theorem dX2_send_7 : decode cX2_send 7 = .ok (.aload_n 0, 1) := by decide +kernel
theorem dX2_send_8 : decode cX2_send 8 = .ok (.getfield 50, 3) := by decide +kernel
theorem dX2_send_11 : decode cX2_send 11 = .ok (.ifCond .le 7, 3) := by decide +kernel
theorem dX2_send_14 : decode cX2_send 14 = .ok (.iconst 1, 1) := by decide +kernel
theorem dX2_send_15 : decode cX2_send 15 = .ok (.goto 4, 3) := by decide +kernel
theorem dX2_send_18 : decode cX2_send 18 = .ok (.iconst 0, 1) := by decide +kernel
theorem dX2_send_19 : decode cX2_send 19 = .ok (.istore_n 2, 1) := by decide +kernel
theorem dX2_send_20 : decode cX2_send 20 = .ok (.aload_n 1, 1) := by decide +kernel
theorem dX2_send_21 : decode cX2_send 21 = .ok (.ifnonnull 7, 3) := by decide +kernel
theorem dX2_send_24 : decode cX2_send 24 = .ok (.iconst 0, 1) := by decide +kernel
theorem dX2_send_25 : decode cX2_send 25 = .ok (.goto 11, 3) := by decide +kernel
theorem dX2_send_28 : decode cX2_send 28 = .ok (.aload_n 1, 1) := by decide +kernel
theorem dX2_send_29 : decode cX2_send 29 = .ok (.getfield 56, 3) := by decide +kernel
theorem dX2_send_32 : decode cX2_send 32 = .ok (.iconst 3, 1) := by decide +kernel
theorem dX2_send_33 : decode cX2_send 33 = .ok (.invokestatic 62, 3) := by decide +kernel
theorem dX2_send_36 : decode cX2_send 36 = .ok (.istore_n 3, 1) := by decide +kernel
theorem dX2_send_37 : decode cX2_send 37 = .ok (.iload_n 2, 1) := by decide +kernel
theorem dX2_send_38 : decode cX2_send 38 = .ok (.ifCond .ne 8, 3) := by decide +kernel
theorem dX2_send_41 : decode cX2_send 41 = .ok (.iload_n 3, 1) := by decide +kernel
theorem dX2_send_42 : decode cX2_send 42 = .ok (.ifCond .ne 4, 3) := by decide +kernel
theorem dX2_send_45 : decode cX2_send 45 = .ok (.return_, 1) := by decide +kernel
theorem dX2_send_46 : decode cX2_send 46 = .ok (.aload_n 0, 1) := by decide +kernel
theorem dX2_send_47 : decode cX2_send 47 = .ok (.dup, 1) := by decide +kernel
theorem dX2_send_48 : decode cX2_send 48 = .ok (.getfield 47, 3) := by decide +kernel
theorem dX2_send_51 : decode cX2_send 51 = .ok (.iload_n 2, 1) := by decide +kernel
theorem dX2_send_52 : decode cX2_send 52 = .ok (.isub, 1) := by decide +kernel
theorem dX2_send_53 : decode cX2_send 53 = .ok (.putfield 47, 3) := by decide +kernel
theorem dX2_send_56 : decode cX2_send 56 = .ok (.aload_n 0, 1) := by decide +kernel
theorem dX2_send_57 : decode cX2_send 57 = .ok (.dup, 1) := by decide +kernel
theorem dX2_send_58 : decode cX2_send 58 = .ok (.getfield 50, 3) := by decide +kernel
theorem dX2_send_61 : decode cX2_send 61 = .ok (.iload_n 2, 1) := by decide +kernel
theorem dX2_send_62 : decode cX2_send 62 = .ok (.isub, 1) := by decide +kernel
theorem dX2_send_63 : decode cX2_send 63 = .ok (.putfield 50, 3) := by decide +kernel
theorem dX2_send_66 : decode cX2_send 66 = .ok (.aload_n 1, 1) := by decide +kernel
theorem dX2_send_67 : decode cX2_send 67 = .ok (.ifnull 13, 3) := by decide +kernel
theorem dX2_send_70 : decode cX2_send 70 = .ok (.aload_n 1, 1) := by decide +kernel
theorem dX2_send_71 : decode cX2_send 71 = .ok (.dup, 1) := by decide +kernel
theorem dX2_send_72 : decode cX2_send 72 = .ok (.getfield 56, 3) := by decide +kernel
theorem dX2_send_75 : decode cX2_send 75 = .ok (.iload_n 3, 1) := by decide +kernel
theorem dX2_send_76 : decode cX2_send 76 = .ok (.isub, 1) := by decide +kernel
theorem dX2_send_77 : decode cX2_send 77 = .ok (.putfield 56, 3) := by decide +kernel
theorem dX2_send_80 : decode cX2_send 80 = .ok (.aload_n 0, 1) := by decide +kernel
theorem dX2_send_81 : decode cX2_send 81 = .ok (.getfield 15, 3) := by decide +kernel
theorem dX2_send_84 : decode cX2_send 84 = .ok (.iconst 0, 1) := by decide +kernel
theorem dX2_send_85 : decode cX2_send 85 = .ok (.iload_n 2, 1) := by decide +kernel
theorem dX2_send_86 : decode cX2_send 86 = .ok (.iload_n 3, 1) := by decide +kernel
theorem dX2_send_87 : decode cX2_send 87 = .ok (.invokestatic 88, 3) := by decide +kernel
theorem dX2_send_90 : decode cX2_send 90 = .ok (.iastore, 1) := by decide +kernel
theorem dX2_send_91 : decode cX2_send 91 = .ok (.return_, 1) := by decide +kernel
theorem dX2_useLinks_0 : decode cX2_useLinks 0 = .ok (.iconst 0, 1) := by decide +kernel
theorem dX2_useLinks_1 : decode cX2_useLinks 1 = .ok (.istore_n 2, 1) := by decide +kernel
theorem dX2_useLinks_2 : decode cX2_useLinks 2 = .ok (.iload_n 2, 1) := by decide +kernel
theorem dX2_useLinks_3 : decode cX2_useLinks 3 = .ok (.aload_n 0, 1) := by decide +kernel
theorem dX2_useLinks_4 : decode cX2_useLinks 4 = .ok (.invokevirtual 84, 3) := by decide +kernel
theorem dX2_useLinks_7 : decode cX2_useLinks 7 = .ok (.if_icmp .ge 29, 3) := by decide +kernel
theorem dX2_useLinks_10 : decode cX2_useLinks 10 = .ok (.aload_n 0, 1) := by decide +kernel
theorem dX2_useLinks_11 : decode cX2_useLinks 11 = .ok (.getfield 15, 3) := by decide +kernel
theorem dX2_useLinks_14 : decode cX2_useLinks 14 = .ok (.iload_n 2, 1) := by decide +kernel
theorem dX2_useLinks_15 : decode cX2_useLinks 15 = .ok (.iaload, 1) := by decide +kernel
theorem dX2_useLinks_16 : decode cX2_useLinks 16 = .ok (.iconst (-1), 1) := by decide +kernel
theorem dX2_useLinks_17 : decode cX2_useLinks 17 = .ok (.if_icmp .eq 13, 3) := by decide +kernel
theorem dX2_useLinks_20 : decode cX2_useLinks 20 = .ok (.aload_n 1, 1) := by decide +kernel
theorem dX2_useLinks_21 : decode cX2_useLinks 21 = .ok (.aload_n 0, 1) := by decide +kernel
theorem dX2_useLinks_22 : decode cX2_useLinks 22 = .ok (.getfield 9, 3) := by decide +kernel
theorem dX2_useLinks_25 : decode cX2_useLinks 25 = .ok (.iload_n 2, 1) := by decide +kernel
theorem dX2_useLinks_26 : decode cX2_useLinks 26 = .ok (.iaload, 1) := by decide +kernel
theorem dX2_useLinks_27 : decode cX2_useLinks 27 = .ok (.invokevirtual 91, 3) := by decide +kernel
theorem dX2_useLinks_30 : decode cX2_useLinks 30 = .ok (.iinc 2 1, 3) := by decide +kernel
theorem dX2_useLinks_33 : decode cX2_useLinks 33 = .ok (.goto (-31), 3) := by decide +kernel
theorem dX2_useLinks_36 : decode cX2_useLinks 36 = .ok (.return_, 1) := by decide +kernel
theorem dX2_advance_0 : decode cX2_advance 0 = .ok (.aload_n 0, 1) := by decide +kernel
theorem dX2_advance_1 : decode cX2_advance 1 = .ok (.aload_n 0, 1) := by decide +kernel
theorem dX2_advance_2 : decode cX2_advance 2 = .ok (.invokevirtual 84, 3) := by decide +kernel
theorem dX2_advance_5 : decode cX2_advance 5 = .ok (.iconst 1, 1) := by decide +kernel
theorem dX2_advance_6 : decode cX2_advance 6 = .ok (.isub, 1) := by decide +kernel
theorem dX2_advance_7 : decode cX2_advance 7 = .ok (.invokevirtual 97, 3) := by decide +kernel
theorem dX2_advance_10 : decode cX2_advance 10 = .ok (.istore_n 2, 1) := by decide +kernel
theorem dX2_advance_11 : decode cX2_advance 11 = .ok (.aload_n 0, 1) := by decide +kernel
theorem dX2_advance_12 : decode cX2_advance 12 = .ok (.invokevirtual 84, 3) := by decide +kernel
theorem dX2_advance_15 : decode cX2_advance 15 = .ok (.iconst 1, 1) := by decide +kernel
theorem dX2_advance_16 : decode cX2_advance 16 = .ok (.isub, 1) := by decide +kernel
theorem dX2_advance_17 : decode cX2_advance 17 = .ok (.istore_n 3, 1) := by decide +kernel
theorem dX2_advance_18 : decode cX2_advance 18 = .ok (.iload_n 3, 1) := by decide +kernel
theorem dX2_advance_19 : decode cX2_advance 19 = .ok (.ifCond .le 23, 3) := by decide +kernel
theorem dX2_advance_22 : decode cX2_advance 22 = .ok (.aload_n 0, 1) := by decide +kernel
theorem dX2_advance_23 : decode cX2_advance 23 = .ok (.getfield 15, 3) := by decide +kernel
theorem dX2_advance_26 : decode cX2_advance 26 = .ok (.iload_n 3, 1) := by decide +kernel
theorem dX2_advance_27 : decode cX2_advance 27 = .ok (.aload_n 0, 1) := by decide +kernel
theorem dX2_advance_28 : decode cX2_advance 28 = .ok (.getfield 15, 3) := by decide +kernel
theorem dX2_advance_31 : decode cX2_advance 31 = .ok (.iload_n 3, 1) := by decide +kernel
theorem dX2_advance_32 : decode cX2_advance 32 = .ok (.iconst 1, 1) := by decide +kernel
theorem dX2_advance_33 : decode cX2_advance 33 = .ok (.isub, 1) := by decide +kernel
theorem dX2_advance_34 : decode cX2_advance 34 = .ok (.iaload, 1) := by decide +kernel
theorem dX2_advance_35 : decode cX2_advance 35 = .ok (.iastore, 1) := by decide +kernel
theorem dX2_advance_36 : decode cX2_advance 36 = .ok (.iinc 3 (-1), 3) := by decide +kernel
theorem dX2_advance_39 : decode cX2_advance 39 = .ok (.goto (-21), 3) := by decide +kernel
theorem dX2_advance_42 : decode cX2_advance 42 = .ok (.aload_n 0, 1) := by decide +kernel
theorem dX2_advance_43 : decode cX2_advance 43 = .ok (.getfield 15, 3) := by decide +kernel
theorem dX2_advance_46 : decode cX2_advance 46 = .ok (.iconst 0, 1) := by decide +kernel
theorem dX2_advance_47 : decode cX2_advance 47 = .ok (.iconst (-1), 1) := by decide +kernel
theorem dX2_advance_48 : decode cX2_advance 48 = .ok (.iastore, 1) := by decide +kernel
theorem dX2_advance_49 : decode cX2_advance 49 = .ok (.iload_n 2, 1) := by decide +kernel
theorem dX2_advance_50 : decode cX2_advance 50 = .ok (.iconst (-1), 1) := by decide +kernel
theorem dX2_advance_51 : decode cX2_advance 51 = .ok (.if_icmp .ne 7, 3) := by decide +kernel
theorem dX2_advance_54 : decode cX2_advance 54 = .ok (.iconst 0, 1) := by decide +kernel
theorem dX2_advance_55 : decode cX2_advance 55 = .ok (.goto 9, 3) := by decide +kernel
theorem dX2_advance_58 : decode cX2_advance 58 = .ok (.aload_n 0, 1) := by decide +kernel
theorem dX2_advance_59 : decode cX2_advance 59 = .ok (.iload_n 2, 1) := by decide +kernel
theorem dX2_advance_60 : decode cX2_advance 60 = .ok (.aload_n 1, 1) := by decide +kernel
theorem dX2_advance_61 : decode cX2_advance 61 = .ok (.invokevirtual 101, 3) := by decide +kernel
theorem dX2_advance_64 : decode cX2_advance 64 = .ok (.ireturn, 1) := by decide +kernel
theorem dX2_deliver_0 : decode cX2_deliver 0 = .ok (.iload_n 1, 1) := by decide +kernel
theorem dX2_deliver_1 : decode cX2_deliver 1 = .ok (.invokestatic 105, 3) := by decide +kernel
theorem dX2_deliver_4 : decode cX2_deliver 4 = .ok (.istore_n 3, 1) := by decide +kernel
theorem dX2_deliver_5 : decode cX2_deliver 5 = .ok (.aload_n 0, 1) := by decide +kernel
theorem dX2_deliver_6 : decode cX2_deliver 6 = .ok (.dup, 1) := by decide +kernel
theorem dX2_deliver_7 : decode cX2_deliver 7 = .ok (.getfield 53, 3) := by decide +kernel
theorem dX2_deliver_10 : decode cX2_deliver 10 = .ok (.iload_n 3, 1) := by decide +kernel
theorem dX2_deliver_11 : decode cX2_deliver 11 = .ok (.iadd, 1) := by decide +kernel
theorem dX2_deliver_12 : decode cX2_deliver 12 = .ok (.putfield 53, 3) := by decide +kernel
theorem dX2_deliver_15 : decode cX2_deliver 15 = .ok (.aload_n 0, 1) := by decide +kernel
theorem dX2_deliver_16 : decode cX2_deliver 16 = .ok (.dup, 1) := by decide +kernel
theorem dX2_deliver_17 : decode cX2_deliver 17 = .ok (.getfield 59, 3) := by decide +kernel
theorem dX2_deliver_20 : decode cX2_deliver 20 = .ok (.iload_n 3, 1) := by decide +kernel
theorem dX2_deliver_21 : decode cX2_deliver 21 = .ok (.iadd, 1) := by decide +kernel
theorem dX2_deliver_22 : decode cX2_deliver 22 = .ok (.putfield 59, 3) := by decide +kernel
theorem dX2_deliver_25 : decode cX2_deliver 25 = .ok (.aload_n 2, 1) := by decide +kernel
theorem dX2_deliver_26 : decode cX2_deliver 26 = .ok (.ifnull 16, 3) := by decide +kernel
theorem dX2_deliver_29 : decode cX2_deliver 29 = .ok (.aload_n 2, 1) := by decide +kernel
theorem dX2_deliver_30 : decode cX2_deliver 30 = .ok (.dup, 1) := by decide +kernel
theorem dX2_deliver_31 : decode cX2_deliver 31 = .ok (.getfield 50, 3) := by decide +kernel
theorem dX2_deliver_34 : decode cX2_deliver 34 = .ok (.iload_n 1, 1) := by decide +kernel
theorem dX2_deliver_35 : decode cX2_deliver 35 = .ok (.invokestatic 108, 3) := by decide +kernel
theorem dX2_deliver_38 : decode cX2_deliver 38 = .ok (.iadd, 1) := by decide +kernel
theorem dX2_deliver_39 : decode cX2_deliver 39 = .ok (.putfield 50, 3) := by decide +kernel
theorem dX2_deliver_42 : decode cX2_deliver 42 = .ok (.iload_n 3, 1) := by decide +kernel
theorem dX2_deliver_43 : decode cX2_deliver 43 = .ok (.ireturn, 1) := by decide +kernel
theorem dX2_letterOf_0 : decode cX2_letterOf 0 = .ok (.iconst 2, 1) := by decide +kernel
theorem dX2_letterOf_1 : decode cX2_letterOf 1 = .ok (.iload_n 1, 1) := by decide +kernel
theorem dX2_letterOf_2 : decode cX2_letterOf 2 = .ok (.imul, 1) := by decide +kernel
theorem dX2_letterOf_3 : decode cX2_letterOf 3 = .ok (.iload_n 0, 1) := by decide +kernel
theorem dX2_letterOf_4 : decode cX2_letterOf 4 = .ok (.iadd, 1) := by decide +kernel
theorem dX2_letterOf_5 : decode cX2_letterOf 5 = .ok (.ireturn, 1) := by decide +kernel
theorem dX2_goodsOf_0 : decode cX2_goodsOf 0 = .ok (.iload_n 0, 1) := by decide +kernel
theorem dX2_goodsOf_1 : decode cX2_goodsOf 1 = .ok (.iconst 1, 1) := by decide +kernel
theorem dX2_goodsOf_2 : decode cX2_goodsOf 2 = .ok (.iand, 1) := by decide +kernel
theorem dX2_goodsOf_3 : decode cX2_goodsOf 3 = .ok (.ireturn, 1) := by decide +kernel
theorem dX2_toldOf_0 : decode cX2_toldOf 0 = .ok (.iload_n 0, 1) := by decide +kernel
theorem dX2_toldOf_1 : decode cX2_toldOf 1 = .ok (.iconst 1, 1) := by decide +kernel
theorem dX2_toldOf_2 : decode cX2_toldOf 2 = .ok (.ishr, 1) := by decide +kernel
theorem dX2_toldOf_3 : decode cX2_toldOf 3 = .ok (.ireturn, 1) := by decide +kernel
theorem dX2_tellMade_0 : decode cX2_tellMade 0 = .ok (.iload_n 1, 1) := by decide +kernel
theorem dX2_tellMade_1 : decode cX2_tellMade 1 = .ok (.tableswitch 82 0 6 #[43, 48, 53, 58, 63, 68, 73], 43) := by decide +kernel
theorem dX2_tellMade_44 : decode cX2_tellMade 44 = .ok (.aload_n 0, 1) := by decide +kernel
theorem dX2_tellMade_45 : decode cX2_tellMade 45 = .ok (.getfield 26, 3) := by decide +kernel
theorem dX2_tellMade_48 : decode cX2_tellMade 48 = .ok (.ireturn, 1) := by decide +kernel
theorem dX2_tellMade_49 : decode cX2_tellMade 49 = .ok (.aload_n 0, 1) := by decide +kernel
theorem dX2_tellMade_50 : decode cX2_tellMade 50 = .ok (.getfield 29, 3) := by decide +kernel
theorem dX2_tellMade_53 : decode cX2_tellMade 53 = .ok (.ireturn, 1) := by decide +kernel
theorem dX2_tellMade_54 : decode cX2_tellMade 54 = .ok (.aload_n 0, 1) := by decide +kernel
theorem dX2_tellMade_55 : decode cX2_tellMade 55 = .ok (.getfield 32, 3) := by decide +kernel
theorem dX2_tellMade_58 : decode cX2_tellMade 58 = .ok (.ireturn, 1) := by decide +kernel
theorem dX2_tellMade_59 : decode cX2_tellMade 59 = .ok (.aload_n 0, 1) := by decide +kernel
theorem dX2_tellMade_60 : decode cX2_tellMade 60 = .ok (.getfield 35, 3) := by decide +kernel
theorem dX2_tellMade_63 : decode cX2_tellMade 63 = .ok (.ireturn, 1) := by decide +kernel
theorem dX2_tellMade_64 : decode cX2_tellMade 64 = .ok (.aload_n 0, 1) := by decide +kernel
theorem dX2_tellMade_65 : decode cX2_tellMade 65 = .ok (.getfield 38, 3) := by decide +kernel
theorem dX2_tellMade_68 : decode cX2_tellMade 68 = .ok (.ireturn, 1) := by decide +kernel
theorem dX2_tellMade_69 : decode cX2_tellMade 69 = .ok (.aload_n 0, 1) := by decide +kernel
theorem dX2_tellMade_70 : decode cX2_tellMade 70 = .ok (.getfield 71, 3) := by decide +kernel
theorem dX2_tellMade_73 : decode cX2_tellMade 73 = .ok (.ireturn, 1) := by decide +kernel
theorem dX2_tellMade_74 : decode cX2_tellMade 74 = .ok (.aload_n 0, 1) := by decide +kernel
theorem dX2_tellMade_75 : decode cX2_tellMade 75 = .ok (.getfield 74, 3) := by decide +kernel
theorem dX2_tellMade_78 : decode cX2_tellMade 78 = .ok (.iload_n 2, 1) := by decide +kernel
theorem dX2_tellMade_79 : decode cX2_tellMade 79 = .ok (.invokestatic 111, 3) := by decide +kernel
theorem dX2_tellMade_82 : decode cX2_tellMade 82 = .ok (.ireturn, 1) := by decide +kernel
theorem dX2_tellMade_83 : decode cX2_tellMade 83 = .ok (.aload_n 0, 1) := by decide +kernel
theorem dX2_tellMade_84 : decode cX2_tellMade 84 = .ok (.getfield 44, 3) := by decide +kernel
theorem dX2_tellMade_87 : decode cX2_tellMade 87 = .ok (.ireturn, 1) := by decide +kernel
theorem dX2_tellMoving_0 : decode cX2_tellMoving 0 = .ok (.iload_n 1, 1) := by decide +kernel
theorem dX2_tellMoving_1 : decode cX2_tellMoving 1 = .ok (.tableswitch 69 8 13 #[39, 44, 49, 54, 59, 64], 39) := by decide +kernel
theorem dX2_tellMoving_40 : decode cX2_tellMoving 40 = .ok (.aload_n 0, 1) := by decide +kernel
theorem dX2_tellMoving_41 : decode cX2_tellMoving 41 = .ok (.getfield 47, 3) := by decide +kernel
theorem dX2_tellMoving_44 : decode cX2_tellMoving 44 = .ok (.ireturn, 1) := by decide +kernel
theorem dX2_tellMoving_45 : decode cX2_tellMoving 45 = .ok (.aload_n 0, 1) := by decide +kernel
theorem dX2_tellMoving_46 : decode cX2_tellMoving 46 = .ok (.getfield 50, 3) := by decide +kernel
theorem dX2_tellMoving_49 : decode cX2_tellMoving 49 = .ok (.ireturn, 1) := by decide +kernel
theorem dX2_tellMoving_50 : decode cX2_tellMoving 50 = .ok (.aload_n 0, 1) := by decide +kernel
theorem dX2_tellMoving_51 : decode cX2_tellMoving 51 = .ok (.getfield 53, 3) := by decide +kernel
theorem dX2_tellMoving_54 : decode cX2_tellMoving 54 = .ok (.ireturn, 1) := by decide +kernel
theorem dX2_tellMoving_55 : decode cX2_tellMoving 55 = .ok (.aload_n 0, 1) := by decide +kernel
theorem dX2_tellMoving_56 : decode cX2_tellMoving 56 = .ok (.getfield 56, 3) := by decide +kernel
theorem dX2_tellMoving_59 : decode cX2_tellMoving 59 = .ok (.ireturn, 1) := by decide +kernel
theorem dX2_tellMoving_60 : decode cX2_tellMoving 60 = .ok (.aload_n 0, 1) := by decide +kernel
theorem dX2_tellMoving_61 : decode cX2_tellMoving 61 = .ok (.getfield 59, 3) := by decide +kernel
theorem dX2_tellMoving_64 : decode cX2_tellMoving 64 = .ok (.ireturn, 1) := by decide +kernel
theorem dX2_tellMoving_65 : decode cX2_tellMoving 65 = .ok (.aload_n 0, 1) := by decide +kernel
theorem dX2_tellMoving_66 : decode cX2_tellMoving 66 = .ok (.invokevirtual 116, 3) := by decide +kernel
theorem dX2_tellMoving_69 : decode cX2_tellMoving 69 = .ok (.ireturn, 1) := by decide +kernel
theorem dX2_tellMoving_70 : decode cX2_tellMoving 70 = .ok (.aload_n 0, 1) := by decide +kernel
theorem dX2_tellMoving_71 : decode cX2_tellMoving 71 = .ok (.getfield 41, 3) := by decide +kernel
theorem dX2_tellMoving_74 : decode cX2_tellMoving 74 = .ok (.ireturn, 1) := by decide +kernel
theorem dX2_shareOf_0 : decode cX2_shareOf 0 = .ok (.iload_n 1, 1) := by decide +kernel
theorem dX2_shareOf_1 : decode cX2_shareOf 1 = .ok (.tableswitch 43 0 3 #[31, 33, 43, 38], 31) := by decide +kernel
theorem dX2_shareOf_32 : decode cX2_shareOf 32 = .ok (.iconst 1, 1) := by decide +kernel
theorem dX2_shareOf_33 : decode cX2_shareOf 33 = .ok (.ireturn, 1) := by decide +kernel
theorem dX2_shareOf_34 : decode cX2_shareOf 34 = .ok (.aload_n 0, 1) := by decide +kernel
theorem dX2_shareOf_35 : decode cX2_shareOf 35 = .ok (.invokevirtual 116, 3) := by decide +kernel
theorem dX2_shareOf_38 : decode cX2_shareOf 38 = .ok (.ireturn, 1) := by decide +kernel
theorem dX2_shareOf_39 : decode cX2_shareOf 39 = .ok (.aload_n 0, 1) := by decide +kernel
theorem dX2_shareOf_40 : decode cX2_shareOf 40 = .ok (.getfield 47, 3) := by decide +kernel
theorem dX2_shareOf_43 : decode cX2_shareOf 43 = .ok (.ireturn, 1) := by decide +kernel
theorem dX2_shareOf_44 : decode cX2_shareOf 44 = .ok (.aload_n 0, 1) := by decide +kernel
theorem dX2_shareOf_45 : decode cX2_shareOf 45 = .ok (.getfield 59, 3) := by decide +kernel
theorem dX2_shareOf_48 : decode cX2_shareOf 48 = .ok (.ireturn, 1) := by decide +kernel
theorem dX3_init_0 : decode cX3_init 0 = .ok (.aload_n 0, 1) := by decide +kernel
theorem dX3_init_1 : decode cX3_init 1 = .ok (.invokespecial 3, 3) := by decide +kernel
theorem dX3_init_4 : decode cX3_init 4 = .ok (.aload_n 0, 1) := by decide +kernel
theorem dX3_init_5 : decode cX3_init 5 = .ok (.bipush 8, 2) := by decide +kernel
theorem dX3_init_7 : decode cX3_init 7 = .ok (.anewarray 9, 3) := by decide +kernel
theorem dX3_init_10 : decode cX3_init 10 = .ok (.putfield 11, 3) := by decide +kernel
theorem dX3_init_13 : decode cX3_init 13 = .ok (.iconst 0, 1) := by decide +kernel
theorem dX3_init_14 : decode cX3_init 14 = .ok (.istore_n 1, 1) := by decide +kernel
theorem dX3_init_15 : decode cX3_init 15 = .ok (.iload_n 1, 1) := by decide +kernel
theorem dX3_init_16 : decode cX3_init 16 = .ok (.bipush 8, 2) := by decide +kernel
theorem dX3_init_18 : decode cX3_init 18 = .ok (.if_icmp .ge 23, 3) := by decide +kernel
theorem dX3_init_21 : decode cX3_init 21 = .ok (.aload_n 0, 1) := by decide +kernel
theorem dX3_init_22 : decode cX3_init 22 = .ok (.getfield 11, 3) := by decide +kernel
theorem dX3_init_25 : decode cX3_init 25 = .ok (.iload_n 1, 1) := by decide +kernel
theorem dX3_init_26 : decode cX3_init 26 = .ok (.new 9, 3) := by decide +kernel
theorem dX3_init_29 : decode cX3_init 29 = .ok (.dup, 1) := by decide +kernel
theorem dX3_init_30 : decode cX3_init 30 = .ok (.iload_n 1, 1) := by decide +kernel
theorem dX3_init_31 : decode cX3_init 31 = .ok (.invokespecial 17, 3) := by decide +kernel
theorem dX3_init_34 : decode cX3_init 34 = .ok (.aastore, 1) := by decide +kernel
theorem dX3_init_35 : decode cX3_init 35 = .ok (.iinc 1 1, 3) := by decide +kernel
theorem dX3_init_38 : decode cX3_init 38 = .ok (.goto (-23), 3) := by decide +kernel
theorem dX3_init_41 : decode cX3_init 41 = .ok (.return_, 1) := by decide +kernel
theorem dX3_clear_0 : decode cX3_clear 0 = .ok (.iconst 0, 1) := by decide +kernel
theorem dX3_clear_1 : decode cX3_clear 1 = .ok (.istore_n 1, 1) := by decide +kernel
theorem dX3_clear_2 : decode cX3_clear 2 = .ok (.iload_n 1, 1) := by decide +kernel
theorem dX3_clear_3 : decode cX3_clear 3 = .ok (.bipush 8, 2) := by decide +kernel
theorem dX3_clear_5 : decode cX3_clear 5 = .ok (.if_icmp .ge 19, 3) := by decide +kernel
theorem dX3_clear_8 : decode cX3_clear 8 = .ok (.aload_n 0, 1) := by decide +kernel
theorem dX3_clear_9 : decode cX3_clear 9 = .ok (.getfield 11, 3) := by decide +kernel
theorem dX3_clear_12 : decode cX3_clear 12 = .ok (.iload_n 1, 1) := by decide +kernel
theorem dX3_clear_13 : decode cX3_clear 13 = .ok (.aaload, 1) := by decide +kernel
theorem dX3_clear_14 : decode cX3_clear 14 = .ok (.iconst 0, 1) := by decide +kernel
theorem dX3_clear_15 : decode cX3_clear 15 = .ok (.putfield 20, 3) := by decide +kernel
theorem dX3_clear_18 : decode cX3_clear 18 = .ok (.iinc 1 1, 3) := by decide +kernel
theorem dX3_clear_21 : decode cX3_clear 21 = .ok (.goto (-19), 3) := by decide +kernel
theorem dX3_clear_24 : decode cX3_clear 24 = .ok (.return_, 1) := by decide +kernel
theorem dX3_find_0 : decode cX3_find 0 = .ok (.iload_n 1, 1) := by decide +kernel
theorem dX3_find_1 : decode cX3_find 1 = .ok (.ifCond .lt 9, 3) := by decide +kernel
theorem dX3_find_4 : decode cX3_find 4 = .ok (.iload_n 1, 1) := by decide +kernel
theorem dX3_find_5 : decode cX3_find 5 = .ok (.bipush 8, 2) := by decide +kernel
theorem dX3_find_7 : decode cX3_find 7 = .ok (.if_icmp .lt 5, 3) := by decide +kernel
theorem dX3_find_10 : decode cX3_find 10 = .ok (.aconst_null, 1) := by decide +kernel
theorem dX3_find_11 : decode cX3_find 11 = .ok (.areturn, 1) := by decide +kernel
theorem dX3_find_12 : decode cX3_find 12 = .ok (.aload_n 0, 1) := by decide +kernel
theorem dX3_find_13 : decode cX3_find 13 = .ok (.getfield 11, 3) := by decide +kernel
theorem dX3_find_16 : decode cX3_find 16 = .ok (.iload_n 1, 1) := by decide +kernel
theorem dX3_find_17 : decode cX3_find 17 = .ok (.aaload, 1) := by decide +kernel
theorem dX3_find_18 : decode cX3_find 18 = .ok (.getfield 20, 3) := by decide +kernel
theorem dX3_find_21 : decode cX3_find 21 = .ok (.ifCond .eq 12, 3) := by decide +kernel
theorem dX3_find_24 : decode cX3_find 24 = .ok (.aload_n 0, 1) := by decide +kernel
theorem dX3_find_25 : decode cX3_find 25 = .ok (.getfield 11, 3) := by decide +kernel
theorem dX3_find_28 : decode cX3_find 28 = .ok (.iload_n 1, 1) := by decide +kernel
theorem dX3_find_29 : decode cX3_find 29 = .ok (.aaload, 1) := by decide +kernel
theorem dX3_find_30 : decode cX3_find 30 = .ok (.goto 4, 3) := by decide +kernel
theorem dX3_find_33 : decode cX3_find 33 = .ok (.aconst_null, 1) := by decide +kernel
theorem dX3_find_34 : decode cX3_find 34 = .ok (.areturn, 1) := by decide +kernel
theorem dX3_firstUnused_0 : decode cX3_firstUnused 0 = .ok (.iconst 0, 1) := by decide +kernel
theorem dX3_firstUnused_1 : decode cX3_firstUnused 1 = .ok (.istore_n 1, 1) := by decide +kernel
theorem dX3_firstUnused_2 : decode cX3_firstUnused 2 = .ok (.iload_n 1, 1) := by decide +kernel
theorem dX3_firstUnused_3 : decode cX3_firstUnused 3 = .ok (.bipush 8, 2) := by decide +kernel
theorem dX3_firstUnused_5 : decode cX3_firstUnused 5 = .ok (.if_icmp .ge 28, 3) := by decide +kernel
theorem dX3_firstUnused_8 : decode cX3_firstUnused 8 = .ok (.aload_n 0, 1) := by decide +kernel
theorem dX3_firstUnused_9 : decode cX3_firstUnused 9 = .ok (.getfield 11, 3) := by decide +kernel
theorem dX3_firstUnused_12 : decode cX3_firstUnused 12 = .ok (.iload_n 1, 1) := by decide +kernel
theorem dX3_firstUnused_13 : decode cX3_firstUnused 13 = .ok (.aaload, 1) := by decide +kernel
theorem dX3_firstUnused_14 : decode cX3_firstUnused 14 = .ok (.getfield 20, 3) := by decide +kernel
theorem dX3_firstUnused_17 : decode cX3_firstUnused 17 = .ok (.ifCond .ne 10, 3) := by decide +kernel
theorem dX3_firstUnused_20 : decode cX3_firstUnused 20 = .ok (.aload_n 0, 1) := by decide +kernel
theorem dX3_firstUnused_21 : decode cX3_firstUnused 21 = .ok (.getfield 11, 3) := by decide +kernel
theorem dX3_firstUnused_24 : decode cX3_firstUnused 24 = .ok (.iload_n 1, 1) := by decide +kernel
theorem dX3_firstUnused_25 : decode cX3_firstUnused 25 = .ok (.aaload, 1) := by decide +kernel
theorem dX3_firstUnused_26 : decode cX3_firstUnused 26 = .ok (.areturn, 1) := by decide +kernel
theorem dX3_firstUnused_27 : decode cX3_firstUnused 27 = .ok (.iinc 1 1, 3) := by decide +kernel
theorem dX3_firstUnused_30 : decode cX3_firstUnused 30 = .ok (.goto (-28), 3) := by decide +kernel
theorem dX3_firstUnused_33 : decode cX3_firstUnused 33 = .ok (.aconst_null, 1) := by decide +kernel
theorem dX3_firstUnused_34 : decode cX3_firstUnused 34 = .ok (.areturn, 1) := by decide +kernel
theorem dX3_fastestAt_0 : decode cX3_fastestAt 0 = .ok (.aconst_null, 1) := by decide +kernel
theorem dX3_fastestAt_1 : decode cX3_fastestAt 1 = .ok (.astore_n 2, 1) := by decide +kernel
theorem dX3_fastestAt_2 : decode cX3_fastestAt 2 = .ok (.iconst 0, 1) := by decide +kernel
theorem dX3_fastestAt_3 : decode cX3_fastestAt 3 = .ok (.istore_n 3, 1) := by decide +kernel
theorem dX3_fastestAt_4 : decode cX3_fastestAt 4 = .ok (.iload_n 3, 1) := by decide +kernel
theorem dX3_fastestAt_5 : decode cX3_fastestAt 5 = .ok (.bipush 8, 2) := by decide +kernel
theorem dX3_fastestAt_7 : decode cX3_fastestAt 7 = .ok (.if_icmp .ge 38, 3) := by decide +kernel
theorem dX3_fastestAt_10 : decode cX3_fastestAt 10 = .ok (.aload_n 0, 1) := by decide +kernel
theorem dX3_fastestAt_11 : decode cX3_fastestAt 11 = .ok (.iload_n 3, 1) := by decide +kernel
theorem dX3_fastestAt_12 : decode cX3_fastestAt 12 = .ok (.invokevirtual 24, 3) := by decide +kernel
theorem dX3_fastestAt_15 : decode cX3_fastestAt 15 = .ok (.astore 4, 2) := by decide +kernel
theorem dX3_fastestAt_17 : decode cX3_fastestAt 17 = .ok (.aload 4, 2) := by decide +kernel
theorem dX3_fastestAt_19 : decode cX3_fastestAt 19 = .ok (.ifnull 20, 3) := by decide +kernel
theorem dX3_fastestAt_22 : decode cX3_fastestAt 22 = .ok (.aload_n 2, 1) := by decide +kernel
theorem dX3_fastestAt_23 : decode cX3_fastestAt 23 = .ok (.ifnull 13, 3) := by decide +kernel
theorem dX3_fastestAt_26 : decode cX3_fastestAt 26 = .ok (.aload 4, 2) := by decide +kernel
theorem dX3_fastestAt_28 : decode cX3_fastestAt 28 = .ok (.aload_n 2, 1) := by decide +kernel
theorem dX3_fastestAt_29 : decode cX3_fastestAt 29 = .ok (.iload_n 1, 1) := by decide +kernel
theorem dX3_fastestAt_30 : decode cX3_fastestAt 30 = .ok (.invokevirtual 28, 3) := by decide +kernel
theorem dX3_fastestAt_33 : decode cX3_fastestAt 33 = .ok (.ifCond .eq 6, 3) := by decide +kernel
theorem dX3_fastestAt_36 : decode cX3_fastestAt 36 = .ok (.aload 4, 2) := by decide +kernel
theorem dX3_fastestAt_38 : decode cX3_fastestAt 38 = .ok (.astore_n 2, 1) := by decide +kernel
theorem dX3_fastestAt_39 : decode cX3_fastestAt 39 = .ok (.iinc 3 1, 3) := by decide +kernel
theorem dX3_fastestAt_42 : decode cX3_fastestAt 42 = .ok (.goto (-38), 3) := by decide +kernel
theorem dX3_fastestAt_45 : decode cX3_fastestAt 45 = .ok (.aload_n 2, 1) := by decide +kernel
theorem dX3_fastestAt_46 : decode cX3_fastestAt 46 = .ok (.ifnonnull 7, 3) := by decide +kernel
theorem dX3_fastestAt_49 : decode cX3_fastestAt 49 = .ok (.iconst (-1), 1) := by decide +kernel
theorem dX3_fastestAt_50 : decode cX3_fastestAt 50 = .ok (.goto 7, 3) := by decide +kernel
theorem dX3_fastestAt_53 : decode cX3_fastestAt 53 = .ok (.aload_n 2, 1) := by decide +kernel
theorem dX3_fastestAt_54 : decode cX3_fastestAt 54 = .ok (.getfield 32, 3) := by decide +kernel
theorem dX3_fastestAt_57 : decode cX3_fastestAt 57 = .ok (.ireturn, 1) := by decide +kernel
theorem dX3_sumOf_0 : decode cX3_sumOf 0 = .ok (.iconst 0, 1) := by decide +kernel
theorem dX3_sumOf_1 : decode cX3_sumOf 1 = .ok (.istore_n 2, 1) := by decide +kernel
theorem dX3_sumOf_2 : decode cX3_sumOf 2 = .ok (.iconst 0, 1) := by decide +kernel
theorem dX3_sumOf_3 : decode cX3_sumOf 3 = .ok (.istore_n 3, 1) := by decide +kernel
theorem dX3_sumOf_4 : decode cX3_sumOf 4 = .ok (.iload_n 3, 1) := by decide +kernel
theorem dX3_sumOf_5 : decode cX3_sumOf 5 = .ok (.bipush 8, 2) := by decide +kernel
theorem dX3_sumOf_7 : decode cX3_sumOf 7 = .ok (.if_icmp .ge 34, 3) := by decide +kernel
theorem dX3_sumOf_10 : decode cX3_sumOf 10 = .ok (.aload_n 0, 1) := by decide +kernel
theorem dX3_sumOf_11 : decode cX3_sumOf 11 = .ok (.iload_n 3, 1) := by decide +kernel
theorem dX3_sumOf_12 : decode cX3_sumOf 12 = .ok (.invokevirtual 24, 3) := by decide +kernel
theorem dX3_sumOf_15 : decode cX3_sumOf 15 = .ok (.astore 4, 2) := by decide +kernel
theorem dX3_sumOf_17 : decode cX3_sumOf 17 = .ok (.iload_n 2, 1) := by decide +kernel
theorem dX3_sumOf_18 : decode cX3_sumOf 18 = .ok (.aload 4, 2) := by decide +kernel
theorem dX3_sumOf_20 : decode cX3_sumOf 20 = .ok (.ifnonnull 7, 3) := by decide +kernel
theorem dX3_sumOf_23 : decode cX3_sumOf 23 = .ok (.iconst 0, 1) := by decide +kernel
theorem dX3_sumOf_24 : decode cX3_sumOf 24 = .ok (.goto 9, 3) := by decide +kernel
theorem dX3_sumOf_27 : decode cX3_sumOf 27 = .ok (.aload 4, 2) := by decide +kernel
theorem dX3_sumOf_29 : decode cX3_sumOf 29 = .ok (.iload_n 1, 1) := by decide +kernel
theorem dX3_sumOf_30 : decode cX3_sumOf 30 = .ok (.invokevirtual 36, 3) := by decide +kernel
theorem dX3_sumOf_33 : decode cX3_sumOf 33 = .ok (.iadd, 1) := by decide +kernel
theorem dX3_sumOf_34 : decode cX3_sumOf 34 = .ok (.istore_n 2, 1) := by decide +kernel
theorem dX3_sumOf_35 : decode cX3_sumOf 35 = .ok (.iinc 3 1, 3) := by decide +kernel
theorem dX3_sumOf_38 : decode cX3_sumOf 38 = .ok (.goto (-34), 3) := by decide +kernel
theorem dX3_sumOf_41 : decode cX3_sumOf 41 = .ok (.iload_n 2, 1) := by decide +kernel
theorem dX3_sumOf_42 : decode cX3_sumOf 42 = .ok (.ireturn, 1) := by decide +kernel
theorem dX4_init_0 : decode cX4_init 0 = .ok (.aload_n 0, 1) := by decide +kernel
theorem dX4_init_1 : decode cX4_init 1 = .ok (.invokespecial 3, 3) := by decide +kernel
theorem dX4_init_4 : decode cX4_init 4 = .ok (.aload_n 0, 1) := by decide +kernel
theorem dX4_init_5 : decode cX4_init 5 = .ok (.bipush 54, 2) := by decide +kernel
theorem dX4_init_7 : decode cX4_init 7 = .ok (.newarray .int, 2) := by decide +kernel
theorem dX4_init_9 : decode cX4_init 9 = .ok (.putfield 9, 3) := by decide +kernel
theorem dX4_init_12 : decode cX4_init 12 = .ok (.iconst 0, 1) := by decide +kernel
theorem dX4_init_13 : decode cX4_init 13 = .ok (.istore_n 1, 1) := by decide +kernel
theorem dX4_init_14 : decode cX4_init 14 = .ok (.iload_n 1, 1) := by decide +kernel
theorem dX4_init_15 : decode cX4_init 15 = .ok (.bipush 54, 2) := by decide +kernel
theorem dX4_init_17 : decode cX4_init 17 = .ok (.if_icmp .ge 17, 3) := by decide +kernel
theorem dX4_init_20 : decode cX4_init 20 = .ok (.aload_n 0, 1) := by decide +kernel
theorem dX4_init_21 : decode cX4_init 21 = .ok (.getfield 9, 3) := by decide +kernel
theorem dX4_init_24 : decode cX4_init 24 = .ok (.iload_n 1, 1) := by decide +kernel
theorem dX4_init_25 : decode cX4_init 25 = .ok (.bipush (-2), 2) := by decide +kernel
theorem dX4_init_27 : decode cX4_init 27 = .ok (.iastore, 1) := by decide +kernel
theorem dX4_init_28 : decode cX4_init 28 = .ok (.iinc 1 1, 3) := by decide +kernel
theorem dX4_init_31 : decode cX4_init 31 = .ok (.goto (-17), 3) := by decide +kernel
theorem dX4_init_34 : decode cX4_init 34 = .ok (.return_, 1) := by decide +kernel
theorem dX4_set_0 : decode cX4_set 0 = .ok (.aload_n 0, 1) := by decide +kernel
theorem dX4_set_1 : decode cX4_set 1 = .ok (.iload_n 1, 1) := by decide +kernel
theorem dX4_set_2 : decode cX4_set 2 = .ok (.putfield 15, 3) := by decide +kernel
theorem dX4_set_5 : decode cX4_set 5 = .ok (.aload_n 0, 1) := by decide +kernel
theorem dX4_set_6 : decode cX4_set 6 = .ok (.iload_n 2, 1) := by decide +kernel
theorem dX4_set_7 : decode cX4_set 7 = .ok (.putfield 19, 3) := by decide +kernel
theorem dX4_set_10 : decode cX4_set 10 = .ok (.iconst 0, 1) := by decide +kernel
theorem dX4_set_11 : decode cX4_set 11 = .ok (.istore_n 3, 1) := by decide +kernel
theorem dX4_set_12 : decode cX4_set 12 = .ok (.iload_n 3, 1) := by decide +kernel
theorem dX4_set_13 : decode cX4_set 13 = .ok (.bipush 54, 2) := by decide +kernel
theorem dX4_set_15 : decode cX4_set 15 = .ok (.if_icmp .ge 45, 3) := by decide +kernel
theorem dX4_set_18 : decode cX4_set 18 = .ok (.iload_n 3, 1) := by decide +kernel
theorem dX4_set_19 : decode cX4_set 19 = .ok (.bipush 6, 2) := by decide +kernel
theorem dX4_set_21 : decode cX4_set 21 = .ok (.idiv, 1) := by decide +kernel
theorem dX4_set_22 : decode cX4_set 22 = .ok (.istore 4, 2) := by decide +kernel
theorem dX4_set_24 : decode cX4_set 24 = .ok (.aload_n 0, 1) := by decide +kernel
theorem dX4_set_25 : decode cX4_set 25 = .ok (.getfield 9, 3) := by decide +kernel
theorem dX4_set_28 : decode cX4_set 28 = .ok (.iload_n 3, 1) := by decide +kernel
theorem dX4_set_29 : decode cX4_set 29 = .ok (.aload_n 0, 1) := by decide +kernel
theorem dX4_set_30 : decode cX4_set 30 = .ok (.iload 4, 2) := by decide +kernel
theorem dX4_set_32 : decode cX4_set 32 = .ok (.invokevirtual 22, 3) := by decide +kernel
theorem dX4_set_35 : decode cX4_set 35 = .ok (.ifCond .eq 16, 3) := by decide +kernel
theorem dX4_set_38 : decode cX4_set 38 = .ok (.aload_n 0, 1) := by decide +kernel
theorem dX4_set_39 : decode cX4_set 39 = .ok (.iload 4, 2) := by decide +kernel
theorem dX4_set_41 : decode cX4_set 41 = .ok (.iload_n 3, 1) := by decide +kernel
theorem dX4_set_42 : decode cX4_set 42 = .ok (.bipush 6, 2) := by decide +kernel
theorem dX4_set_44 : decode cX4_set 44 = .ok (.irem, 1) := by decide +kernel
theorem dX4_set_45 : decode cX4_set 45 = .ok (.invokevirtual 26, 3) := by decide +kernel
theorem dX4_set_48 : decode cX4_set 48 = .ok (.goto 5, 3) := by decide +kernel
theorem dX4_set_51 : decode cX4_set 51 = .ok (.bipush (-2), 2) := by decide +kernel
theorem dX4_set_53 : decode cX4_set 53 = .ok (.iastore, 1) := by decide +kernel
theorem dX4_set_54 : decode cX4_set 54 = .ok (.iinc 3 1, 3) := by decide +kernel
theorem dX4_set_57 : decode cX4_set 57 = .ok (.goto (-45), 3) := by decide +kernel
theorem dX4_set_60 : decode cX4_set 60 = .ok (.return_, 1) := by decide +kernel
theorem dX4_routers_0 : decode cX4_routers 0 = .ok (.aload_n 0, 1) := by decide +kernel
theorem dX4_routers_1 : decode cX4_routers 1 = .ok (.getfield 15, 3) := by decide +kernel
theorem dX4_routers_4 : decode cX4_routers 4 = .ok (.aload_n 0, 1) := by decide +kernel
theorem dX4_routers_5 : decode cX4_routers 5 = .ok (.getfield 19, 3) := by decide +kernel
theorem dX4_routers_8 : decode cX4_routers 8 = .ok (.imul, 1) := by decide +kernel
theorem dX4_routers_9 : decode cX4_routers 9 = .ok (.ireturn, 1) := by decide +kernel
theorem dX4_hasRouter_0 : decode cX4_hasRouter 0 = .ok (.iload_n 1, 1) := by decide +kernel
theorem dX4_hasRouter_1 : decode cX4_hasRouter 1 = .ok (.ifCond .lt 21, 3) := by decide +kernel
theorem dX4_hasRouter_4 : decode cX4_hasRouter 4 = .ok (.iload_n 1, 1) := by decide +kernel
theorem dX4_hasRouter_5 : decode cX4_hasRouter 5 = .ok (.aload_n 0, 1) := by decide +kernel
theorem dX4_hasRouter_6 : decode cX4_hasRouter 6 = .ok (.invokevirtual 30, 3) := by decide +kernel
theorem dX4_hasRouter_9 : decode cX4_hasRouter 9 = .ok (.if_icmp .ge 13, 3) := by decide +kernel
theorem dX4_hasRouter_12 : decode cX4_hasRouter 12 = .ok (.iload_n 1, 1) := by decide +kernel
theorem dX4_hasRouter_13 : decode cX4_hasRouter 13 = .ok (.bipush 9, 2) := by decide +kernel
theorem dX4_hasRouter_15 : decode cX4_hasRouter 15 = .ok (.if_icmp .ge 7, 3) := by decide +kernel
theorem dX4_hasRouter_18 : decode cX4_hasRouter 18 = .ok (.iconst 1, 1) := by decide +kernel
theorem dX4_hasRouter_19 : decode cX4_hasRouter 19 = .ok (.goto 4, 3) := by decide +kernel
theorem dX4_hasRouter_22 : decode cX4_hasRouter 22 = .ok (.iconst 0, 1) := by decide +kernel
theorem dX4_hasRouter_23 : decode cX4_hasRouter 23 = .ok (.ireturn, 1) := by decide +kernel
theorem dX4_column_0 : decode cX4_column 0 = .ok (.aload_n 0, 1) := by decide +kernel
theorem dX4_column_1 : decode cX4_column 1 = .ok (.getfield 15, 3) := by decide +kernel
theorem dX4_column_4 : decode cX4_column 4 = .ok (.iconst 1, 1) := by decide +kernel
theorem dX4_column_5 : decode cX4_column 5 = .ok (.if_icmp .ge 7, 3) := by decide +kernel
theorem dX4_column_8 : decode cX4_column 8 = .ok (.iconst 0, 1) := by decide +kernel
theorem dX4_column_9 : decode cX4_column 9 = .ok (.goto 9, 3) := by decide +kernel
theorem dX4_column_12 : decode cX4_column 12 = .ok (.iload_n 1, 1) := by decide +kernel
theorem dX4_column_13 : decode cX4_column 13 = .ok (.aload_n 0, 1) := by decide +kernel
theorem dX4_column_14 : decode cX4_column 14 = .ok (.getfield 15, 3) := by decide +kernel
theorem dX4_column_17 : decode cX4_column 17 = .ok (.irem, 1) := by decide +kernel
theorem dX4_column_18 : decode cX4_column 18 = .ok (.ireturn, 1) := by decide +kernel
theorem dX4_row_0 : decode cX4_row 0 = .ok (.aload_n 0, 1) := by decide +kernel
theorem dX4_row_1 : decode cX4_row 1 = .ok (.getfield 15, 3) := by decide +kernel
theorem dX4_row_4 : decode cX4_row 4 = .ok (.iconst 1, 1) := by decide +kernel
theorem dX4_row_5 : decode cX4_row 5 = .ok (.if_icmp .ge 7, 3) := by decide +kernel
theorem dX4_row_8 : decode cX4_row 8 = .ok (.iconst 0, 1) := by decide +kernel
theorem dX4_row_9 : decode cX4_row 9 = .ok (.goto 9, 3) := by decide +kernel
theorem dX4_row_12 : decode cX4_row 12 = .ok (.iload_n 1, 1) := by decide +kernel
theorem dX4_row_13 : decode cX4_row 13 = .ok (.aload_n 0, 1) := by decide +kernel
theorem dX4_row_14 : decode cX4_row 14 = .ok (.getfield 15, 3) := by decide +kernel
theorem dX4_row_17 : decode cX4_row 17 = .ok (.idiv, 1) := by decide +kernel
theorem dX4_row_18 : decode cX4_row 18 = .ok (.ireturn, 1) := by decide +kernel
theorem dX4_hasLink_0 : decode cX4_hasLink 0 = .ok (.iload_n 1, 1) := by decide +kernel
theorem dX4_hasLink_1 : decode cX4_hasLink 1 = .ok (.invokestatic 34, 3) := by decide +kernel
theorem dX4_hasLink_4 : decode cX4_hasLink 4 = .ok (.ifCond .eq 18, 3) := by decide +kernel
theorem dX4_hasLink_7 : decode cX4_hasLink 7 = .ok (.aload_n 0, 1) := by decide +kernel
theorem dX4_hasLink_8 : decode cX4_hasLink 8 = .ok (.getfield 9, 3) := by decide +kernel
theorem dX4_hasLink_11 : decode cX4_hasLink 11 = .ok (.iload_n 1, 1) := by decide +kernel
theorem dX4_hasLink_12 : decode cX4_hasLink 12 = .ok (.iaload, 1) := by decide +kernel
theorem dX4_hasLink_13 : decode cX4_hasLink 13 = .ok (.bipush (-2), 2) := by decide +kernel
theorem dX4_hasLink_15 : decode cX4_hasLink 15 = .ok (.if_icmp .eq 7, 3) := by decide +kernel
theorem dX4_hasLink_18 : decode cX4_hasLink 18 = .ok (.iconst 1, 1) := by decide +kernel
theorem dX4_hasLink_19 : decode cX4_hasLink 19 = .ok (.goto 4, 3) := by decide +kernel
theorem dX4_hasLink_22 : decode cX4_hasLink 22 = .ok (.iconst 0, 1) := by decide +kernel
theorem dX4_hasLink_23 : decode cX4_hasLink 23 = .ok (.ireturn, 1) := by decide +kernel
theorem dX4_hasInnerLink_0 : decode cX4_hasInnerLink 0 = .ok (.aload_n 0, 1) := by decide +kernel
theorem dX4_hasInnerLink_1 : decode cX4_hasInnerLink 1 = .ok (.iload_n 1, 1) := by decide +kernel
theorem dX4_hasInnerLink_2 : decode cX4_hasInnerLink 2 = .ok (.invokevirtual 37, 3) := by decide +kernel
theorem dX4_hasInnerLink_5 : decode cX4_hasInnerLink 5 = .ok (.ifCond .eq 15, 3) := by decide +kernel
theorem dX4_hasInnerLink_8 : decode cX4_hasInnerLink 8 = .ok (.iload_n 1, 1) := by decide +kernel
theorem dX4_hasInnerLink_9 : decode cX4_hasInnerLink 9 = .ok (.bipush 6, 2) := by decide +kernel
theorem dX4_hasInnerLink_11 : decode cX4_hasInnerLink 11 = .ok (.irem, 1) := by decide +kernel
theorem dX4_hasInnerLink_12 : decode cX4_hasInnerLink 12 = .ok (.iconst 2, 1) := by decide +kernel
theorem dX4_hasInnerLink_13 : decode cX4_hasInnerLink 13 = .ok (.if_icmp .lt 7, 3) := by decide +kernel
theorem dX4_hasInnerLink_16 : decode cX4_hasInnerLink 16 = .ok (.iconst 1, 1) := by decide +kernel
theorem dX4_hasInnerLink_17 : decode cX4_hasInnerLink 17 = .ok (.goto 4, 3) := by decide +kernel
theorem dX4_hasInnerLink_20 : decode cX4_hasInnerLink 20 = .ok (.iconst 0, 1) := by decide +kernel
theorem dX4_hasInnerLink_21 : decode cX4_hasInnerLink 21 = .ok (.ireturn, 1) := by decide +kernel
theorem dX4_endOf_0 : decode cX4_endOf 0 = .ok (.aload_n 0, 1) := by decide +kernel
theorem dX4_endOf_1 : decode cX4_endOf 1 = .ok (.iload_n 1, 1) := by decide +kernel
theorem dX4_endOf_2 : decode cX4_endOf 2 = .ok (.invokevirtual 37, 3) := by decide +kernel
theorem dX4_endOf_5 : decode cX4_endOf 5 = .ok (.ifCond .eq 12, 3) := by decide +kernel
theorem dX4_endOf_8 : decode cX4_endOf 8 = .ok (.aload_n 0, 1) := by decide +kernel
theorem dX4_endOf_9 : decode cX4_endOf 9 = .ok (.getfield 9, 3) := by decide +kernel
theorem dX4_endOf_12 : decode cX4_endOf 12 = .ok (.iload_n 1, 1) := by decide +kernel
theorem dX4_endOf_13 : decode cX4_endOf 13 = .ok (.iaload, 1) := by decide +kernel
theorem dX4_endOf_14 : decode cX4_endOf 14 = .ok (.goto 4, 3) := by decide +kernel
theorem dX4_endOf_17 : decode cX4_endOf 17 = .ok (.iconst (-1), 1) := by decide +kernel
theorem dX4_endOf_18 : decode cX4_endOf 18 = .ok (.ireturn, 1) := by decide +kernel
theorem dX4_endBeside_0 : decode cX4_endBeside 0 = .ok (.iload_n 2, 1) := by decide +kernel
theorem dX4_endBeside_1 : decode cX4_endBeside 1 = .ok (.tableswitch 108 0 4 #[35, 37, 39, 59, 82], 35) := by decide +kernel
theorem dX4_endBeside_36 : decode cX4_endBeside 36 = .ok (.iload_n 1, 1) := by decide +kernel
theorem dX4_endBeside_37 : decode cX4_endBeside 37 = .ok (.ireturn, 1) := by decide +kernel
theorem dX4_endBeside_38 : decode cX4_endBeside 38 = .ok (.iconst (-1), 1) := by decide +kernel
theorem dX4_endBeside_39 : decode cX4_endBeside 39 = .ok (.ireturn, 1) := by decide +kernel
theorem dX4_endBeside_40 : decode cX4_endBeside 40 = .ok (.aload_n 0, 1) := by decide +kernel
theorem dX4_endBeside_41 : decode cX4_endBeside 41 = .ok (.iload_n 1, 1) := by decide +kernel
theorem dX4_endBeside_42 : decode cX4_endBeside 42 = .ok (.invokevirtual 40, 3) := by decide +kernel
theorem dX4_endBeside_45 : decode cX4_endBeside 45 = .ok (.ifCond .le 12, 3) := by decide +kernel
theorem dX4_endBeside_48 : decode cX4_endBeside 48 = .ok (.iload_n 1, 1) := by decide +kernel
theorem dX4_endBeside_49 : decode cX4_endBeside 49 = .ok (.aload_n 0, 1) := by decide +kernel
theorem dX4_endBeside_50 : decode cX4_endBeside 50 = .ok (.getfield 15, 3) := by decide +kernel
theorem dX4_endBeside_53 : decode cX4_endBeside 53 = .ok (.isub, 1) := by decide +kernel
theorem dX4_endBeside_54 : decode cX4_endBeside 54 = .ok (.goto 5, 3) := by decide +kernel
theorem dX4_endBeside_57 : decode cX4_endBeside 57 = .ok (.bipush (-2), 2) := by decide +kernel
theorem dX4_endBeside_59 : decode cX4_endBeside 59 = .ok (.ireturn, 1) := by decide +kernel
theorem dX4_endBeside_60 : decode cX4_endBeside 60 = .ok (.aload_n 0, 1) := by decide +kernel
theorem dX4_endBeside_61 : decode cX4_endBeside 61 = .ok (.iload_n 1, 1) := by decide +kernel
theorem dX4_endBeside_62 : decode cX4_endBeside 62 = .ok (.invokevirtual 44, 3) := by decide +kernel
theorem dX4_endBeside_65 : decode cX4_endBeside 65 = .ok (.aload_n 0, 1) := by decide +kernel
theorem dX4_endBeside_66 : decode cX4_endBeside 66 = .ok (.getfield 15, 3) := by decide +kernel
theorem dX4_endBeside_69 : decode cX4_endBeside 69 = .ok (.iconst 1, 1) := by decide +kernel
theorem dX4_endBeside_70 : decode cX4_endBeside 70 = .ok (.isub, 1) := by decide +kernel
theorem dX4_endBeside_71 : decode cX4_endBeside 71 = .ok (.if_icmp .ge 9, 3) := by decide +kernel
theorem dX4_endBeside_74 : decode cX4_endBeside 74 = .ok (.iload_n 1, 1) := by decide +kernel
theorem dX4_endBeside_75 : decode cX4_endBeside 75 = .ok (.iconst 1, 1) := by decide +kernel
theorem dX4_endBeside_76 : decode cX4_endBeside 76 = .ok (.iadd, 1) := by decide +kernel
theorem dX4_endBeside_77 : decode cX4_endBeside 77 = .ok (.goto 5, 3) := by decide +kernel
theorem dX4_endBeside_80 : decode cX4_endBeside 80 = .ok (.bipush (-2), 2) := by decide +kernel
theorem dX4_endBeside_82 : decode cX4_endBeside 82 = .ok (.ireturn, 1) := by decide +kernel
theorem dX4_endBeside_83 : decode cX4_endBeside 83 = .ok (.aload_n 0, 1) := by decide +kernel
theorem dX4_endBeside_84 : decode cX4_endBeside 84 = .ok (.iload_n 1, 1) := by decide +kernel
theorem dX4_endBeside_85 : decode cX4_endBeside 85 = .ok (.invokevirtual 40, 3) := by decide +kernel
theorem dX4_endBeside_88 : decode cX4_endBeside 88 = .ok (.aload_n 0, 1) := by decide +kernel
theorem dX4_endBeside_89 : decode cX4_endBeside 89 = .ok (.getfield 19, 3) := by decide +kernel
theorem dX4_endBeside_92 : decode cX4_endBeside 92 = .ok (.iconst 1, 1) := by decide +kernel
theorem dX4_endBeside_93 : decode cX4_endBeside 93 = .ok (.isub, 1) := by decide +kernel
theorem dX4_endBeside_94 : decode cX4_endBeside 94 = .ok (.if_icmp .ge 12, 3) := by decide +kernel
theorem dX4_endBeside_97 : decode cX4_endBeside 97 = .ok (.iload_n 1, 1) := by decide +kernel
theorem dX4_endBeside_98 : decode cX4_endBeside 98 = .ok (.aload_n 0, 1) := by decide +kernel
theorem dX4_endBeside_99 : decode cX4_endBeside 99 = .ok (.getfield 15, 3) := by decide +kernel
theorem dX4_endBeside_102 : decode cX4_endBeside 102 = .ok (.iadd, 1) := by decide +kernel
theorem dX4_endBeside_103 : decode cX4_endBeside 103 = .ok (.goto 5, 3) := by decide +kernel
theorem dX4_endBeside_106 : decode cX4_endBeside 106 = .ok (.bipush (-2), 2) := by decide +kernel
theorem dX4_endBeside_108 : decode cX4_endBeside 108 = .ok (.ireturn, 1) := by decide +kernel
theorem dX4_endBeside_109 : decode cX4_endBeside 109 = .ok (.aload_n 0, 1) := by decide +kernel
theorem dX4_endBeside_110 : decode cX4_endBeside 110 = .ok (.iload_n 1, 1) := by decide +kernel
theorem dX4_endBeside_111 : decode cX4_endBeside 111 = .ok (.invokevirtual 44, 3) := by decide +kernel
theorem dX4_endBeside_114 : decode cX4_endBeside 114 = .ok (.ifCond .le 9, 3) := by decide +kernel
theorem dX4_endBeside_117 : decode cX4_endBeside 117 = .ok (.iload_n 1, 1) := by decide +kernel
theorem dX4_endBeside_118 : decode cX4_endBeside 118 = .ok (.iconst 1, 1) := by decide +kernel
theorem dX4_endBeside_119 : decode cX4_endBeside 119 = .ok (.isub, 1) := by decide +kernel
theorem dX4_endBeside_120 : decode cX4_endBeside 120 = .ok (.goto 5, 3) := by decide +kernel
theorem dX4_endBeside_123 : decode cX4_endBeside 123 = .ok (.bipush (-2), 2) := by decide +kernel
theorem dX4_endBeside_125 : decode cX4_endBeside 125 = .ok (.ireturn, 1) := by decide +kernel
theorem dX5_init_0 : decode cX5_init 0 = .ok (.aload_n 0, 1) := by decide +kernel
theorem dX5_init_1 : decode cX5_init 1 = .ok (.invokespecial 3, 3) := by decide +kernel
theorem dX5_init_4 : decode cX5_init 4 = .ok (.aload_n 0, 1) := by decide +kernel
theorem dX5_init_5 : decode cX5_init 5 = .ok (.bipush 30, 2) := by decide +kernel
theorem dX5_init_7 : decode cX5_init 7 = .ok (.newarray .int, 2) := by decide +kernel
theorem dX5_init_9 : decode cX5_init 9 = .ok (.putfield 9, 3) := by decide +kernel
theorem dX5_init_12 : decode cX5_init 12 = .ok (.aload_n 0, 1) := by decide +kernel
theorem dX5_init_13 : decode cX5_init 13 = .ok (.new 15, 3) := by decide +kernel
theorem dX5_init_16 : decode cX5_init 16 = .ok (.dup, 1) := by decide +kernel
theorem dX5_init_17 : decode cX5_init 17 = .ok (.invokespecial 17, 3) := by decide +kernel
theorem dX5_init_20 : decode cX5_init 20 = .ok (.putfield 18, 3) := by decide +kernel
theorem dX5_init_23 : decode cX5_init 23 = .ok (.aload_n 0, 1) := by decide +kernel
theorem dX5_init_24 : decode cX5_init 24 = .ok (.bipush 54, 2) := by decide +kernel
theorem dX5_init_26 : decode cX5_init 26 = .ok (.newarray .boolean, 2) := by decide +kernel
theorem dX5_init_28 : decode cX5_init 28 = .ok (.putfield 22, 3) := by decide +kernel
theorem dX5_init_31 : decode cX5_init 31 = .ok (.return_, 1) := by decide +kernel
theorem dX5_add_0 : decode cX5_add 0 = .ok (.aload_n 0, 1) := by decide +kernel
theorem dX5_add_1 : decode cX5_add 1 = .ok (.getfield 26, 3) := by decide +kernel
theorem dX5_add_4 : decode cX5_add 4 = .ok (.ifCond .lt 12, 3) := by decide +kernel
theorem dX5_add_7 : decode cX5_add 7 = .ok (.aload_n 0, 1) := by decide +kernel
theorem dX5_add_8 : decode cX5_add 8 = .ok (.getfield 26, 3) := by decide +kernel
theorem dX5_add_11 : decode cX5_add 11 = .ok (.bipush 30, 2) := by decide +kernel
theorem dX5_add_13 : decode cX5_add 13 = .ok (.if_icmp .lt 5, 3) := by decide +kernel
theorem dX5_add_16 : decode cX5_add 16 = .ok (.iconst 0, 1) := by decide +kernel
theorem dX5_add_17 : decode cX5_add 17 = .ok (.ireturn, 1) := by decide +kernel
theorem dX5_add_18 : decode cX5_add 18 = .ok (.aload_n 0, 1) := by decide +kernel
theorem dX5_add_19 : decode cX5_add 19 = .ok (.getfield 9, 3) := by decide +kernel
theorem dX5_add_22 : decode cX5_add 22 = .ok (.aload_n 0, 1) := by decide +kernel
theorem dX5_add_23 : decode cX5_add 23 = .ok (.getfield 26, 3) := by decide +kernel
theorem dX5_add_26 : decode cX5_add 26 = .ok (.iload_n 1, 1) := by decide +kernel
theorem dX5_add_27 : decode cX5_add 27 = .ok (.iastore, 1) := by decide +kernel
theorem dX5_add_28 : decode cX5_add 28 = .ok (.aload_n 0, 1) := by decide +kernel
theorem dX5_add_29 : decode cX5_add 29 = .ok (.dup, 1) := by decide +kernel
theorem dX5_add_30 : decode cX5_add 30 = .ok (.getfield 26, 3) := by decide +kernel
theorem dX5_add_33 : decode cX5_add 33 = .ok (.iconst 1, 1) := by decide +kernel
theorem dX5_add_34 : decode cX5_add 34 = .ok (.iadd, 1) := by decide +kernel
theorem dX5_add_35 : decode cX5_add 35 = .ok (.putfield 26, 3) := by decide +kernel
theorem dX5_add_38 : decode cX5_add 38 = .ok (.iconst 1, 1) := by decide +kernel
theorem dX5_add_39 : decode cX5_add 39 = .ok (.ireturn, 1) := by decide +kernel
theorem dX5_codeAt_0 : decode cX5_codeAt 0 = .ok (.iload_n 1, 1) := by decide +kernel
theorem dX5_codeAt_1 : decode cX5_codeAt 1 = .ok (.ifCond .lt 9, 3) := by decide +kernel
theorem dX5_codeAt_4 : decode cX5_codeAt 4 = .ok (.iload_n 1, 1) := by decide +kernel
theorem dX5_codeAt_5 : decode cX5_codeAt 5 = .ok (.bipush 30, 2) := by decide +kernel
theorem dX5_codeAt_7 : decode cX5_codeAt 7 = .ok (.if_icmp .lt 7, 3) := by decide +kernel
theorem dX5_codeAt_10 : decode cX5_codeAt 10 = .ok (.iconst (-1), 1) := by decide +kernel
theorem dX5_codeAt_11 : decode cX5_codeAt 11 = .ok (.goto 9, 3) := by decide +kernel
theorem dX5_codeAt_14 : decode cX5_codeAt 14 = .ok (.aload_n 0, 1) := by decide +kernel
theorem dX5_codeAt_15 : decode cX5_codeAt 15 = .ok (.getfield 9, 3) := by decide +kernel
theorem dX5_codeAt_18 : decode cX5_codeAt 18 = .ok (.iload_n 1, 1) := by decide +kernel
theorem dX5_codeAt_19 : decode cX5_codeAt 19 = .ok (.iaload, 1) := by decide +kernel
theorem dX5_codeAt_20 : decode cX5_codeAt 20 = .ok (.ireturn, 1) := by decide +kernel
theorem dX5_read_0 : decode cX5_read 0 = .ok (.aload_n 0, 1) := by decide +kernel
theorem dX5_read_1 : decode cX5_read 1 = .ok (.iconst 0, 1) := by decide +kernel
theorem dX5_read_2 : decode cX5_read 2 = .ok (.putfield 30, 3) := by decide +kernel
theorem dX5_read_5 : decode cX5_read 5 = .ok (.iconst 0, 1) := by decide +kernel
theorem dX5_read_6 : decode cX5_read 6 = .ok (.istore_n 1, 1) := by decide +kernel
theorem dX5_read_7 : decode cX5_read 7 = .ok (.iload_n 1, 1) := by decide +kernel
theorem dX5_read_8 : decode cX5_read 8 = .ok (.aload_n 0, 1) := by decide +kernel
theorem dX5_read_9 : decode cX5_read 9 = .ok (.getfield 26, 3) := by decide +kernel
theorem dX5_read_12 : decode cX5_read 12 = .ok (.if_icmp .ge 22, 3) := by decide +kernel
theorem dX5_read_15 : decode cX5_read 15 = .ok (.aload_n 0, 1) := by decide +kernel
theorem dX5_read_16 : decode cX5_read 16 = .ok (.iload_n 1, 1) := by decide +kernel
theorem dX5_read_17 : decode cX5_read 17 = .ok (.aload_n 0, 1) := by decide +kernel
theorem dX5_read_18 : decode cX5_read 18 = .ok (.iload_n 1, 1) := by decide +kernel
theorem dX5_read_19 : decode cX5_read 19 = .ok (.invokevirtual 33, 3) := by decide +kernel
theorem dX5_read_22 : decode cX5_read 22 = .ok (.invokevirtual 37, 3) := by decide +kernel
theorem dX5_read_25 : decode cX5_read 25 = .ok (.ifCond .eq 9, 3) := by decide +kernel
theorem dX5_read_28 : decode cX5_read 28 = .ok (.iinc 1 1, 3) := by decide +kernel
theorem dX5_read_31 : decode cX5_read 31 = .ok (.goto (-24), 3) := by decide +kernel
theorem dX5_read_34 : decode cX5_read 34 = .ok (.aload_n 0, 1) := by decide +kernel
theorem dX5_read_35 : decode cX5_read 35 = .ok (.iload_n 1, 1) := by decide +kernel
theorem dX5_read_36 : decode cX5_read 36 = .ok (.aload_n 0, 1) := by decide +kernel
theorem dX5_read_37 : decode cX5_read 37 = .ok (.getfield 26, 3) := by decide +kernel
theorem dX5_read_40 : decode cX5_read 40 = .ok (.if_icmp .ne 23, 3) := by decide +kernel
theorem dX5_read_43 : decode cX5_read 43 = .ok (.aload_n 0, 1) := by decide +kernel
theorem dX5_read_44 : decode cX5_read 44 = .ok (.getfield 30, 3) := by decide +kernel
theorem dX5_read_47 : decode cX5_read 47 = .ok (.iconst 4, 1) := by decide +kernel
theorem dX5_read_48 : decode cX5_read 48 = .ok (.if_icmp .lt 15, 3) := by decide +kernel
theorem dX5_read_51 : decode cX5_read 51 = .ok (.aload_n 0, 1) := by decide +kernel
theorem dX5_read_52 : decode cX5_read 52 = .ok (.iload_n 1, 1) := by decide +kernel
theorem dX5_read_53 : decode cX5_read 53 = .ok (.invokevirtual 41, 3) := by decide +kernel
theorem dX5_read_56 : decode cX5_read 56 = .ok (.ifCond .ne 7, 3) := by decide +kernel
theorem dX5_read_59 : decode cX5_read 59 = .ok (.iconst 1, 1) := by decide +kernel
theorem dX5_read_60 : decode cX5_read 60 = .ok (.goto 4, 3) := by decide +kernel
theorem dX5_read_63 : decode cX5_read 63 = .ok (.iconst 0, 1) := by decide +kernel
theorem dX5_read_64 : decode cX5_read 64 = .ok (.putfield 44, 3) := by decide +kernel
theorem dX5_read_67 : decode cX5_read 67 = .ok (.iload_n 1, 1) := by decide +kernel
theorem dX5_read_68 : decode cX5_read 68 = .ok (.ireturn, 1) := by decide +kernel
theorem dX5_namesBroken_0 : decode cX5_namesBroken 0 = .ok (.aload_n 0, 1) := by decide +kernel
theorem dX5_namesBroken_1 : decode cX5_namesBroken 1 = .ok (.getfield 18, 3) := by decide +kernel
theorem dX5_namesBroken_4 : decode cX5_namesBroken 4 = .ok (.iload_n 1, 1) := by decide +kernel
theorem dX5_namesBroken_5 : decode cX5_namesBroken 5 = .ok (.invokevirtual 48, 3) := by decide +kernel
theorem dX5_namesBroken_8 : decode cX5_namesBroken 8 = .ok (.ifCond .eq 23, 3) := by decide +kernel
theorem dX5_namesBroken_11 : decode cX5_namesBroken 11 = .ok (.iload_n 1, 1) := by decide +kernel
theorem dX5_namesBroken_12 : decode cX5_namesBroken 12 = .ok (.invokestatic 52, 3) := by decide +kernel
theorem dX5_namesBroken_15 : decode cX5_namesBroken 15 = .ok (.ifCond .eq 16, 3) := by decide +kernel
theorem dX5_namesBroken_18 : decode cX5_namesBroken 18 = .ok (.aload_n 0, 1) := by decide +kernel
theorem dX5_namesBroken_19 : decode cX5_namesBroken 19 = .ok (.getfield 22, 3) := by decide +kernel
theorem dX5_namesBroken_22 : decode cX5_namesBroken 22 = .ok (.iload_n 1, 1) := by decide +kernel
theorem dX5_namesBroken_23 : decode cX5_namesBroken 23 = .ok (.baload, 1) := by decide +kernel
theorem dX5_namesBroken_24 : decode cX5_namesBroken 24 = .ok (.ifCond .ne 7, 3) := by decide +kernel
theorem dX5_namesBroken_27 : decode cX5_namesBroken 27 = .ok (.iconst 1, 1) := by decide +kernel
theorem dX5_namesBroken_28 : decode cX5_namesBroken 28 = .ok (.goto 4, 3) := by decide +kernel
theorem dX5_namesBroken_31 : decode cX5_namesBroken 31 = .ok (.iconst 0, 1) := by decide +kernel
theorem dX5_namesBroken_32 : decode cX5_namesBroken 32 = .ok (.ireturn, 1) := by decide +kernel
theorem dX5_takes_0 : decode cX5_takes 0 = .ok (.iload_n 1, 1) := by decide +kernel
theorem dX5_takes_1 : decode cX5_takes 1 = .ok (.tableswitch 162 0 4 #[35, 65, 77, 107, 123], 35) := by decide +kernel
theorem dX5_takes_36 : decode cX5_takes 36 = .ok (.aload_n 0, 1) := by decide +kernel
theorem dX5_takes_37 : decode cX5_takes 37 = .ok (.iload_n 2, 1) := by decide +kernel
theorem dX5_takes_38 : decode cX5_takes 38 = .ok (.bipush 48, 2) := by decide +kernel
theorem dX5_takes_40 : decode cX5_takes 40 = .ok (.isub, 1) := by decide +kernel
theorem dX5_takes_41 : decode cX5_takes 41 = .ok (.putfield 55, 3) := by decide +kernel
theorem dX5_takes_44 : decode cX5_takes 44 = .ok (.aload_n 0, 1) := by decide +kernel
theorem dX5_takes_45 : decode cX5_takes 45 = .ok (.getfield 55, 3) := by decide +kernel
theorem dX5_takes_48 : decode cX5_takes 48 = .ok (.iconst 2, 1) := by decide +kernel
theorem dX5_takes_49 : decode cX5_takes 49 = .ok (.if_icmp .eq 11, 3) := by decide +kernel
theorem dX5_takes_52 : decode cX5_takes 52 = .ok (.aload_n 0, 1) := by decide +kernel
theorem dX5_takes_53 : decode cX5_takes 53 = .ok (.getfield 55, 3) := by decide +kernel
theorem dX5_takes_56 : decode cX5_takes 56 = .ok (.iconst 3, 1) := by decide +kernel
theorem dX5_takes_57 : decode cX5_takes 57 = .ok (.if_icmp .ne 7, 3) := by decide +kernel
theorem dX5_takes_60 : decode cX5_takes 60 = .ok (.iconst 1, 1) := by decide +kernel
theorem dX5_takes_61 : decode cX5_takes 61 = .ok (.goto 4, 3) := by decide +kernel
theorem dX5_takes_64 : decode cX5_takes 64 = .ok (.iconst 0, 1) := by decide +kernel
theorem dX5_takes_65 : decode cX5_takes 65 = .ok (.ireturn, 1) := by decide +kernel
theorem dX5_takes_66 : decode cX5_takes 66 = .ok (.iload_n 2, 1) := by decide +kernel
theorem dX5_takes_67 : decode cX5_takes 67 = .ok (.bipush 120, 2) := by decide +kernel
theorem dX5_takes_69 : decode cX5_takes 69 = .ok (.if_icmp .ne 7, 3) := by decide +kernel
theorem dX5_takes_72 : decode cX5_takes 72 = .ok (.iconst 1, 1) := by decide +kernel
theorem dX5_takes_73 : decode cX5_takes 73 = .ok (.goto 4, 3) := by decide +kernel
theorem dX5_takes_76 : decode cX5_takes 76 = .ok (.iconst 0, 1) := by decide +kernel
theorem dX5_takes_77 : decode cX5_takes 77 = .ok (.ireturn, 1) := by decide +kernel
theorem dX5_takes_78 : decode cX5_takes 78 = .ok (.aload_n 0, 1) := by decide +kernel
theorem dX5_takes_79 : decode cX5_takes 79 = .ok (.iload_n 2, 1) := by decide +kernel
theorem dX5_takes_80 : decode cX5_takes 80 = .ok (.bipush 48, 2) := by decide +kernel
theorem dX5_takes_82 : decode cX5_takes 82 = .ok (.isub, 1) := by decide +kernel
theorem dX5_takes_83 : decode cX5_takes 83 = .ok (.putfield 58, 3) := by decide +kernel
theorem dX5_takes_86 : decode cX5_takes 86 = .ok (.aload_n 0, 1) := by decide +kernel
theorem dX5_takes_87 : decode cX5_takes 87 = .ok (.getfield 58, 3) := by decide +kernel
theorem dX5_takes_90 : decode cX5_takes 90 = .ok (.iconst 2, 1) := by decide +kernel
theorem dX5_takes_91 : decode cX5_takes 91 = .ok (.if_icmp .eq 11, 3) := by decide +kernel
theorem dX5_takes_94 : decode cX5_takes 94 = .ok (.aload_n 0, 1) := by decide +kernel
theorem dX5_takes_95 : decode cX5_takes 95 = .ok (.getfield 58, 3) := by decide +kernel
theorem dX5_takes_98 : decode cX5_takes 98 = .ok (.iconst 3, 1) := by decide +kernel
theorem dX5_takes_99 : decode cX5_takes 99 = .ok (.if_icmp .ne 7, 3) := by decide +kernel
theorem dX5_takes_102 : decode cX5_takes 102 = .ok (.iconst 1, 1) := by decide +kernel
theorem dX5_takes_103 : decode cX5_takes 103 = .ok (.goto 4, 3) := by decide +kernel
theorem dX5_takes_106 : decode cX5_takes 106 = .ok (.iconst 0, 1) := by decide +kernel
theorem dX5_takes_107 : decode cX5_takes 107 = .ok (.ireturn, 1) := by decide +kernel
theorem dX5_takes_108 : decode cX5_takes 108 = .ok (.aload_n 0, 1) := by decide +kernel
theorem dX5_takes_109 : decode cX5_takes 109 = .ok (.invokevirtual 61, 3) := by decide +kernel
theorem dX5_takes_112 : decode cX5_takes 112 = .ok (.iload_n 2, 1) := by decide +kernel
theorem dX5_takes_113 : decode cX5_takes 113 = .ok (.bipush 58, 2) := by decide +kernel
theorem dX5_takes_115 : decode cX5_takes 115 = .ok (.if_icmp .ne 7, 3) := by decide +kernel
theorem dX5_takes_118 : decode cX5_takes 118 = .ok (.iconst 1, 1) := by decide +kernel
theorem dX5_takes_119 : decode cX5_takes 119 = .ok (.goto 4, 3) := by decide +kernel
theorem dX5_takes_122 : decode cX5_takes 122 = .ok (.iconst 0, 1) := by decide +kernel
theorem dX5_takes_123 : decode cX5_takes 123 = .ok (.ireturn, 1) := by decide +kernel
theorem dX5_takes_124 : decode cX5_takes 124 = .ok (.aload_n 0, 1) := by decide +kernel
theorem dX5_takes_125 : decode cX5_takes 125 = .ok (.iload_n 2, 1) := by decide +kernel
theorem dX5_takes_126 : decode cX5_takes 126 = .ok (.bipush 48, 2) := by decide +kernel
theorem dX5_takes_128 : decode cX5_takes 128 = .ok (.isub, 1) := by decide +kernel
theorem dX5_takes_129 : decode cX5_takes 129 = .ok (.putfield 30, 3) := by decide +kernel
theorem dX5_takes_132 : decode cX5_takes 132 = .ok (.aload_n 0, 1) := by decide +kernel
theorem dX5_takes_133 : decode cX5_takes 133 = .ok (.getfield 30, 3) := by decide +kernel
theorem dX5_takes_136 : decode cX5_takes 136 = .ok (.iconst 1, 1) := by decide +kernel
theorem dX5_takes_137 : decode cX5_takes 137 = .ok (.if_icmp .eq 20, 3) := by decide +kernel
theorem dX5_takes_140 : decode cX5_takes 140 = .ok (.aload_n 0, 1) := by decide +kernel
theorem dX5_takes_141 : decode cX5_takes 141 = .ok (.getfield 30, 3) := by decide +kernel
theorem dX5_takes_144 : decode cX5_takes 144 = .ok (.iconst 4, 1) := by decide +kernel
theorem dX5_takes_145 : decode cX5_takes 145 = .ok (.if_icmp .lt 16, 3) := by decide +kernel
theorem dX5_takes_148 : decode cX5_takes 148 = .ok (.aload_n 0, 1) := by decide +kernel
theorem dX5_takes_149 : decode cX5_takes 149 = .ok (.getfield 30, 3) := by decide +kernel
theorem dX5_takes_152 : decode cX5_takes 152 = .ok (.bipush 9, 2) := by decide +kernel
theorem dX5_takes_154 : decode cX5_takes 154 = .ok (.if_icmp .gt 7, 3) := by decide +kernel
theorem dX5_takes_157 : decode cX5_takes 157 = .ok (.iconst 1, 1) := by decide +kernel
theorem dX5_takes_158 : decode cX5_takes 158 = .ok (.goto 4, 3) := by decide +kernel
theorem dX5_takes_161 : decode cX5_takes 161 = .ok (.iconst 0, 1) := by decide +kernel
theorem dX5_takes_162 : decode cX5_takes 162 = .ok (.ireturn, 1) := by decide +kernel
theorem dX5_takes_163 : decode cX5_takes 163 = .ok (.aload_n 0, 1) := by decide +kernel
theorem dX5_takes_164 : decode cX5_takes 164 = .ok (.getfield 30, 3) := by decide +kernel
theorem dX5_takes_167 : decode cX5_takes 167 = .ok (.iconst 1, 1) := by decide +kernel
theorem dX5_takes_168 : decode cX5_takes 168 = .ok (.if_icmp .ne 11, 3) := by decide +kernel
theorem dX5_takes_171 : decode cX5_takes 171 = .ok (.aload_n 0, 1) := by decide +kernel
theorem dX5_takes_172 : decode cX5_takes 172 = .ok (.iload_n 2, 1) := by decide +kernel
theorem dX5_takes_173 : decode cX5_takes 173 = .ok (.invokevirtual 64, 3) := by decide +kernel
theorem dX5_takes_176 : decode cX5_takes 176 = .ok (.goto 9, 3) := by decide +kernel
theorem dX5_takes_179 : decode cX5_takes 179 = .ok (.aload_n 0, 1) := by decide +kernel
theorem dX5_takes_180 : decode cX5_takes 180 = .ok (.iload_n 1, 1) := by decide +kernel
theorem dX5_takes_181 : decode cX5_takes 181 = .ok (.iload_n 2, 1) := by decide +kernel
theorem dX5_takes_182 : decode cX5_takes 182 = .ok (.invokevirtual 67, 3) := by decide +kernel
theorem dX5_takes_185 : decode cX5_takes 185 = .ok (.ireturn, 1) := by decide +kernel
theorem dX5_layGrid_0 : decode cX5_layGrid 0 = .ok (.aload_n 0, 1) := by decide +kernel
theorem dX5_layGrid_1 : decode cX5_layGrid 1 = .ok (.getfield 18, 3) := by decide +kernel
theorem dX5_layGrid_4 : decode cX5_layGrid 4 = .ok (.aload_n 0, 1) := by decide +kernel
theorem dX5_layGrid_5 : decode cX5_layGrid 5 = .ok (.getfield 55, 3) := by decide +kernel
theorem dX5_layGrid_8 : decode cX5_layGrid 8 = .ok (.aload_n 0, 1) := by decide +kernel
theorem dX5_layGrid_9 : decode cX5_layGrid 9 = .ok (.getfield 58, 3) := by decide +kernel
theorem dX5_layGrid_12 : decode cX5_layGrid 12 = .ok (.invokevirtual 70, 3) := by decide +kernel
theorem dX5_layGrid_15 : decode cX5_layGrid 15 = .ok (.iconst 0, 1) := by decide +kernel
theorem dX5_layGrid_16 : decode cX5_layGrid 16 = .ok (.istore_n 1, 1) := by decide +kernel
theorem dX5_layGrid_17 : decode cX5_layGrid 17 = .ok (.iload_n 1, 1) := by decide +kernel
theorem dX5_layGrid_18 : decode cX5_layGrid 18 = .ok (.bipush 54, 2) := by decide +kernel
theorem dX5_layGrid_20 : decode cX5_layGrid 20 = .ok (.if_icmp .ge 23, 3) := by decide +kernel
theorem dX5_layGrid_23 : decode cX5_layGrid 23 = .ok (.aload_n 0, 1) := by decide +kernel
theorem dX5_layGrid_24 : decode cX5_layGrid 24 = .ok (.getfield 22, 3) := by decide +kernel
theorem dX5_layGrid_27 : decode cX5_layGrid 27 = .ok (.iload_n 1, 1) := by decide +kernel
theorem dX5_layGrid_28 : decode cX5_layGrid 28 = .ok (.aload_n 0, 1) := by decide +kernel
theorem dX5_layGrid_29 : decode cX5_layGrid 29 = .ok (.getfield 18, 3) := by decide +kernel
theorem dX5_layGrid_32 : decode cX5_layGrid 32 = .ok (.iload_n 1, 1) := by decide +kernel
theorem dX5_layGrid_33 : decode cX5_layGrid 33 = .ok (.invokevirtual 48, 3) := by decide +kernel
theorem dX5_layGrid_36 : decode cX5_layGrid 36 = .ok (.bastore, 1) := by decide +kernel
theorem dX5_layGrid_37 : decode cX5_layGrid 37 = .ok (.iinc 1 1, 3) := by decide +kernel
theorem dX5_layGrid_40 : decode cX5_layGrid 40 = .ok (.goto (-23), 3) := by decide +kernel
theorem dX5_layGrid_43 : decode cX5_layGrid 43 = .ok (.return_, 1) := by decide +kernel
theorem dX5_takesZero_0 : decode cX5_takesZero 0 = .ok (.iload_n 1, 1) := by decide +kernel
theorem dX5_takesZero_1 : decode cX5_takesZero 1 = .ok (.bipush 48, 2) := by decide +kernel
theorem dX5_takesZero_3 : decode cX5_takesZero 3 = .ok (.if_icmp .eq 5, 3) := by decide +kernel
theorem dX5_takesZero_6 : decode cX5_takesZero 6 = .ok (.iconst 0, 1) := by decide +kernel
theorem dX5_takesZero_7 : decode cX5_takesZero 7 = .ok (.ireturn, 1) := by decide +kernel
theorem dX5_takesZero_8 : decode cX5_takesZero 8 = .ok (.aload_n 0, 1) := by decide +kernel
theorem dX5_takesZero_9 : decode cX5_takesZero 9 = .ok (.bipush 10, 2) := by decide +kernel
theorem dX5_takesZero_11 : decode cX5_takesZero 11 = .ok (.putfield 30, 3) := by decide +kernel
theorem dX5_takesZero_14 : decode cX5_takesZero 14 = .ok (.iconst 1, 1) := by decide +kernel
theorem dX5_takesZero_15 : decode cX5_takesZero 15 = .ok (.ireturn, 1) := by decide +kernel
theorem dX5_partOfBreak_0 : decode cX5_partOfBreak 0 = .ok (.iload_n 1, 1) := by decide +kernel
theorem dX5_partOfBreak_1 : decode cX5_partOfBreak 1 = .ok (.aload_n 0, 1) := by decide +kernel
theorem dX5_partOfBreak_2 : decode cX5_partOfBreak 2 = .ok (.getfield 30, 3) := by decide +kernel
theorem dX5_partOfBreak_5 : decode cX5_partOfBreak 5 = .ok (.bipush 10, 2) := by decide +kernel
theorem dX5_partOfBreak_7 : decode cX5_partOfBreak 7 = .ok (.if_icmp .ne 8, 3) := by decide +kernel
theorem dX5_partOfBreak_10 : decode cX5_partOfBreak 10 = .ok (.bipush 6, 2) := by decide +kernel
theorem dX5_partOfBreak_12 : decode cX5_partOfBreak 12 = .ok (.goto 4, 3) := by decide +kernel
theorem dX5_partOfBreak_15 : decode cX5_partOfBreak 15 = .ok (.iconst 5, 1) := by decide +kernel
theorem dX5_partOfBreak_16 : decode cX5_partOfBreak 16 = .ok (.isub, 1) := by decide +kernel
theorem dX5_partOfBreak_17 : decode cX5_partOfBreak 17 = .ok (.iconst 3, 1) := by decide +kernel
theorem dX5_partOfBreak_18 : decode cX5_partOfBreak 18 = .ok (.irem, 1) := by decide +kernel
theorem dX5_partOfBreak_19 : decode cX5_partOfBreak 19 = .ok (.ireturn, 1) := by decide +kernel
theorem dX5_takesBreak_0 : decode cX5_takesBreak 0 = .ok (.aload_n 0, 1) := by decide +kernel
theorem dX5_takesBreak_1 : decode cX5_takesBreak 1 = .ok (.iload_n 1, 1) := by decide +kernel
theorem dX5_takesBreak_2 : decode cX5_takesBreak 2 = .ok (.invokevirtual 41, 3) := by decide +kernel
theorem dX5_takesBreak_5 : decode cX5_takesBreak 5 = .ok (.lookupswitch 101 #[(0, 27), (1, 49)], 27) := by decide +kernel
theorem dX5_takesBreak_32 : decode cX5_takesBreak 32 = .ok (.iload_n 2, 1) := by decide +kernel
theorem dX5_takesBreak_33 : decode cX5_takesBreak 33 = .ok (.bipush 45, 2) := by decide +kernel
theorem dX5_takesBreak_35 : decode cX5_takesBreak 35 = .ok (.if_icmp .ne 17, 3) := by decide +kernel
theorem dX5_takesBreak_38 : decode cX5_takesBreak 38 = .ok (.aload_n 0, 1) := by decide +kernel
theorem dX5_takesBreak_39 : decode cX5_takesBreak 39 = .ok (.iconst 0, 1) := by decide +kernel
theorem dX5_takesBreak_40 : decode cX5_takesBreak 40 = .ok (.bipush 54, 2) := by decide +kernel
theorem dX5_takesBreak_42 : decode cX5_takesBreak 42 = .ok (.invokevirtual 74, 3) := by decide +kernel
theorem dX5_takesBreak_45 : decode cX5_takesBreak 45 = .ok (.ifCond .eq 7, 3) := by decide +kernel
theorem dX5_takesBreak_48 : decode cX5_takesBreak 48 = .ok (.iconst 1, 1) := by decide +kernel
theorem dX5_takesBreak_49 : decode cX5_takesBreak 49 = .ok (.goto 4, 3) := by decide +kernel
theorem dX5_takesBreak_52 : decode cX5_takesBreak 52 = .ok (.iconst 0, 1) := by decide +kernel
theorem dX5_takesBreak_53 : decode cX5_takesBreak 53 = .ok (.ireturn, 1) := by decide +kernel
theorem dX5_takesBreak_54 : decode cX5_takesBreak 54 = .ok (.aload_n 0, 1) := by decide +kernel
theorem dX5_takesBreak_55 : decode cX5_takesBreak 55 = .ok (.iload_n 2, 1) := by decide +kernel
theorem dX5_takesBreak_56 : decode cX5_takesBreak 56 = .ok (.bipush 48, 2) := by decide +kernel
theorem dX5_takesBreak_58 : decode cX5_takesBreak 58 = .ok (.isub, 1) := by decide +kernel
theorem dX5_takesBreak_59 : decode cX5_takesBreak 59 = .ok (.putfield 77, 3) := by decide +kernel
theorem dX5_takesBreak_62 : decode cX5_takesBreak 62 = .ok (.aload_n 0, 1) := by decide +kernel
theorem dX5_takesBreak_63 : decode cX5_takesBreak 63 = .ok (.getfield 18, 3) := by decide +kernel
theorem dX5_takesBreak_66 : decode cX5_takesBreak 66 = .ok (.aload_n 0, 1) := by decide +kernel
theorem dX5_takesBreak_67 : decode cX5_takesBreak 67 = .ok (.getfield 77, 3) := by decide +kernel
theorem dX5_takesBreak_70 : decode cX5_takesBreak 70 = .ok (.invokevirtual 80, 3) := by decide +kernel
theorem dX5_takesBreak_73 : decode cX5_takesBreak 73 = .ok (.ifCond .eq 31, 3) := by decide +kernel
theorem dX5_takesBreak_76 : decode cX5_takesBreak 76 = .ok (.aload_n 0, 1) := by decide +kernel
theorem dX5_takesBreak_77 : decode cX5_takesBreak 77 = .ok (.aload_n 0, 1) := by decide +kernel
theorem dX5_takesBreak_78 : decode cX5_takesBreak 78 = .ok (.getfield 77, 3) := by decide +kernel
theorem dX5_takesBreak_81 : decode cX5_takesBreak 81 = .ok (.iconst 0, 1) := by decide +kernel
theorem dX5_takesBreak_82 : decode cX5_takesBreak 82 = .ok (.invokestatic 83, 3) := by decide +kernel
theorem dX5_takesBreak_85 : decode cX5_takesBreak 85 = .ok (.aload_n 0, 1) := by decide +kernel
theorem dX5_takesBreak_86 : decode cX5_takesBreak 86 = .ok (.getfield 77, 3) := by decide +kernel
theorem dX5_takesBreak_89 : decode cX5_takesBreak 89 = .ok (.bipush 6, 2) := by decide +kernel
theorem dX5_takesBreak_91 : decode cX5_takesBreak 91 = .ok (.invokestatic 83, 3) := by decide +kernel
theorem dX5_takesBreak_94 : decode cX5_takesBreak 94 = .ok (.invokevirtual 74, 3) := by decide +kernel
theorem dX5_takesBreak_97 : decode cX5_takesBreak 97 = .ok (.ifCond .eq 7, 3) := by decide +kernel
theorem dX5_takesBreak_100 : decode cX5_takesBreak 100 = .ok (.iconst 1, 1) := by decide +kernel
theorem dX5_takesBreak_101 : decode cX5_takesBreak 101 = .ok (.goto 4, 3) := by decide +kernel
theorem dX5_takesBreak_104 : decode cX5_takesBreak 104 = .ok (.iconst 0, 1) := by decide +kernel
theorem dX5_takesBreak_105 : decode cX5_takesBreak 105 = .ok (.ireturn, 1) := by decide +kernel
theorem dX5_takesBreak_106 : decode cX5_takesBreak 106 = .ok (.aload_n 0, 1) := by decide +kernel
theorem dX5_takesBreak_107 : decode cX5_takesBreak 107 = .ok (.iload_n 2, 1) := by decide +kernel
theorem dX5_takesBreak_108 : decode cX5_takesBreak 108 = .ok (.invokestatic 87, 3) := by decide +kernel
theorem dX5_takesBreak_111 : decode cX5_takesBreak 111 = .ok (.invokevirtual 90, 3) := by decide +kernel
theorem dX5_takesBreak_114 : decode cX5_takesBreak 114 = .ok (.ireturn, 1) := by decide +kernel
theorem dX5_anyNameable_0 : decode cX5_anyNameable 0 = .ok (.iconst 0, 1) := by decide +kernel
theorem dX5_anyNameable_1 : decode cX5_anyNameable 1 = .ok (.iload_n 1, 1) := by decide +kernel
theorem dX5_anyNameable_2 : decode cX5_anyNameable 2 = .ok (.invokestatic 93, 3) := by decide +kernel
theorem dX5_anyNameable_5 : decode cX5_anyNameable 5 = .ok (.istore_n 3, 1) := by decide +kernel
theorem dX5_anyNameable_6 : decode cX5_anyNameable 6 = .ok (.iload_n 3, 1) := by decide +kernel
theorem dX5_anyNameable_7 : decode cX5_anyNameable 7 = .ok (.iload_n 2, 1) := by decide +kernel
theorem dX5_anyNameable_8 : decode cX5_anyNameable 8 = .ok (.if_icmp .ge 26, 3) := by decide +kernel
theorem dX5_anyNameable_11 : decode cX5_anyNameable 11 = .ok (.iload_n 3, 1) := by decide +kernel
theorem dX5_anyNameable_12 : decode cX5_anyNameable 12 = .ok (.bipush 54, 2) := by decide +kernel
theorem dX5_anyNameable_14 : decode cX5_anyNameable 14 = .ok (.if_icmp .ge 20, 3) := by decide +kernel
theorem dX5_anyNameable_17 : decode cX5_anyNameable 17 = .ok (.aload_n 0, 1) := by decide +kernel
theorem dX5_anyNameable_18 : decode cX5_anyNameable 18 = .ok (.getfield 22, 3) := by decide +kernel
theorem dX5_anyNameable_21 : decode cX5_anyNameable 21 = .ok (.iload_n 3, 1) := by decide +kernel
theorem dX5_anyNameable_22 : decode cX5_anyNameable 22 = .ok (.baload, 1) := by decide +kernel
theorem dX5_anyNameable_23 : decode cX5_anyNameable 23 = .ok (.ifCond .eq 5, 3) := by decide +kernel
theorem dX5_anyNameable_26 : decode cX5_anyNameable 26 = .ok (.iconst 1, 1) := by decide +kernel
theorem dX5_anyNameable_27 : decode cX5_anyNameable 27 = .ok (.ireturn, 1) := by decide +kernel
theorem dX5_anyNameable_28 : decode cX5_anyNameable 28 = .ok (.iinc 3 1, 3) := by decide +kernel
theorem dX5_anyNameable_31 : decode cX5_anyNameable 31 = .ok (.goto (-25), 3) := by decide +kernel
theorem dX5_anyNameable_34 : decode cX5_anyNameable 34 = .ok (.iconst 0, 1) := by decide +kernel
theorem dX5_anyNameable_35 : decode cX5_anyNameable 35 = .ok (.ireturn, 1) := by decide +kernel
theorem dX5_takesPort_0 : decode cX5_takesPort 0 = .ok (.aload_n 0, 1) := by decide +kernel
theorem dX5_takesPort_1 : decode cX5_takesPort 1 = .ok (.getfield 77, 3) := by decide +kernel
theorem dX5_takesPort_4 : decode cX5_takesPort 4 = .ok (.iload_n 1, 1) := by decide +kernel
theorem dX5_takesPort_5 : decode cX5_takesPort 5 = .ok (.invokestatic 83, 3) := by decide +kernel
theorem dX5_takesPort_8 : decode cX5_takesPort 8 = .ok (.istore_n 2, 1) := by decide +kernel
theorem dX5_takesPort_9 : decode cX5_takesPort 9 = .ok (.iload_n 1, 1) := by decide +kernel
theorem dX5_takesPort_10 : decode cX5_takesPort 10 = .ok (.iconst (-1), 1) := by decide +kernel
theorem dX5_takesPort_11 : decode cX5_takesPort 11 = .ok (.if_icmp .eq 19, 3) := by decide +kernel
theorem dX5_takesPort_14 : decode cX5_takesPort 14 = .ok (.iload_n 2, 1) := by decide +kernel
theorem dX5_takesPort_15 : decode cX5_takesPort 15 = .ok (.invokestatic 52, 3) := by decide +kernel
theorem dX5_takesPort_18 : decode cX5_takesPort 18 = .ok (.ifCond .eq 12, 3) := by decide +kernel
theorem dX5_takesPort_21 : decode cX5_takesPort 21 = .ok (.aload_n 0, 1) := by decide +kernel
theorem dX5_takesPort_22 : decode cX5_takesPort 22 = .ok (.getfield 22, 3) := by decide +kernel
theorem dX5_takesPort_25 : decode cX5_takesPort 25 = .ok (.iload_n 2, 1) := by decide +kernel
theorem dX5_takesPort_26 : decode cX5_takesPort 26 = .ok (.baload, 1) := by decide +kernel
theorem dX5_takesPort_27 : decode cX5_takesPort 27 = .ok (.ifCond .ne 5, 3) := by decide +kernel
theorem dX5_takesPort_30 : decode cX5_takesPort 30 = .ok (.iconst 0, 1) := by decide +kernel
theorem dX5_takesPort_31 : decode cX5_takesPort 31 = .ok (.ireturn, 1) := by decide +kernel
theorem dX5_takesPort_32 : decode cX5_takesPort 32 = .ok (.aload_n 0, 1) := by decide +kernel
theorem dX5_takesPort_33 : decode cX5_takesPort 33 = .ok (.getfield 22, 3) := by decide +kernel
theorem dX5_takesPort_36 : decode cX5_takesPort 36 = .ok (.iload_n 2, 1) := by decide +kernel
theorem dX5_takesPort_37 : decode cX5_takesPort 37 = .ok (.iconst 0, 1) := by decide +kernel
theorem dX5_takesPort_38 : decode cX5_takesPort 38 = .ok (.bastore, 1) := by decide +kernel
theorem dX5_takesPort_39 : decode cX5_takesPort 39 = .ok (.iconst 1, 1) := by decide +kernel
theorem dX5_takesPort_40 : decode cX5_takesPort 40 = .ok (.ireturn, 1) := by decide +kernel
theorem dX5_portOf_0 : decode cX5_portOf 0 = .ok (.iload_n 0, 1) := by decide +kernel
theorem dX5_portOf_1 : decode cX5_portOf 1 = .ok (.lookupswitch 51 #[(101, 45), (110, 43), (115, 47), (119, 49)], 43) := by decide +kernel
theorem dX5_portOf_44 : decode cX5_portOf 44 = .ok (.iconst 2, 1) := by decide +kernel
theorem dX5_portOf_45 : decode cX5_portOf 45 = .ok (.ireturn, 1) := by decide +kernel
theorem dX5_portOf_46 : decode cX5_portOf 46 = .ok (.iconst 3, 1) := by decide +kernel
theorem dX5_portOf_47 : decode cX5_portOf 47 = .ok (.ireturn, 1) := by decide +kernel
theorem dX5_portOf_48 : decode cX5_portOf 48 = .ok (.iconst 4, 1) := by decide +kernel
theorem dX5_portOf_49 : decode cX5_portOf 49 = .ok (.ireturn, 1) := by decide +kernel
theorem dX5_portOf_50 : decode cX5_portOf 50 = .ok (.iconst 5, 1) := by decide +kernel
theorem dX5_portOf_51 : decode cX5_portOf 51 = .ok (.ireturn, 1) := by decide +kernel
theorem dX5_portOf_52 : decode cX5_portOf 52 = .ok (.iconst (-1), 1) := by decide +kernel
theorem dX5_portOf_53 : decode cX5_portOf 53 = .ok (.ireturn, 1) := by decide +kernel
theorem dX6_init_0 : decode cX6_init 0 = .ok (.aload_n 0, 1) := by decide +kernel
theorem dX6_init_1 : decode cX6_init 1 = .ok (.invokespecial 3, 3) := by decide +kernel
theorem dX6_init_4 : decode cX6_init 4 = .ok (.aload_n 0, 1) := by decide +kernel
theorem dX6_init_5 : decode cX6_init 5 = .ok (.bipush 6, 2) := by decide +kernel
theorem dX6_init_7 : decode cX6_init 7 = .ok (.newarray .int, 2) := by decide +kernel
theorem dX6_init_9 : decode cX6_init 9 = .ok (.putfield 9, 3) := by decide +kernel
theorem dX6_init_12 : decode cX6_init 12 = .ok (.aload_n 0, 1) := by decide +kernel
theorem dX6_init_13 : decode cX6_init 13 = .ok (.bipush 9, 2) := by decide +kernel
theorem dX6_init_15 : decode cX6_init 15 = .ok (.newarray .boolean, 2) := by decide +kernel
theorem dX6_init_17 : decode cX6_init 17 = .ok (.putfield 15, 3) := by decide +kernel
theorem dX6_init_20 : decode cX6_init 20 = .ok (.aload_n 0, 1) := by decide +kernel
theorem dX6_init_21 : decode cX6_init 21 = .ok (.aload_n 1, 1) := by decide +kernel
theorem dX6_init_22 : decode cX6_init 22 = .ok (.putfield 19, 3) := by decide +kernel
theorem dX6_init_25 : decode cX6_init 25 = .ok (.return_, 1) := by decide +kernel
theorem dX6_find_0 : decode cX6_find 0 = .ok (.aload_n 0, 1) := by decide +kernel
theorem dX6_find_1 : decode cX6_find 1 = .ok (.iload_n 1, 1) := by decide +kernel
theorem dX6_find_2 : decode cX6_find 2 = .ok (.putfield 23, 3) := by decide +kernel
theorem dX6_find_5 : decode cX6_find 5 = .ok (.aload_n 0, 1) := by decide +kernel
theorem dX6_find_6 : decode cX6_find 6 = .ok (.iload_n 3, 1) := by decide +kernel
theorem dX6_find_7 : decode cX6_find 7 = .ok (.putfield 27, 3) := by decide +kernel
theorem dX6_find_10 : decode cX6_find 10 = .ok (.aload_n 0, 1) := by decide +kernel
theorem dX6_find_11 : decode cX6_find 11 = .ok (.iload 4, 2) := by decide +kernel
theorem dX6_find_13 : decode cX6_find 13 = .ok (.putfield 30, 3) := by decide +kernel
theorem dX6_find_16 : decode cX6_find 16 = .ok (.aload_n 0, 1) := by decide +kernel
theorem dX6_find_17 : decode cX6_find 17 = .ok (.iconst 0, 1) := by decide +kernel
theorem dX6_find_18 : decode cX6_find 18 = .ok (.putfield 33, 3) := by decide +kernel
theorem dX6_find_21 : decode cX6_find 21 = .ok (.aload_n 0, 1) := by decide +kernel
theorem dX6_find_22 : decode cX6_find 22 = .ok (.iconst 0, 1) := by decide +kernel
theorem dX6_find_23 : decode cX6_find 23 = .ok (.putfield 36, 3) := by decide +kernel
theorem dX6_find_26 : decode cX6_find 26 = .ok (.iload_n 2, 1) := by decide +kernel
theorem dX6_find_27 : decode cX6_find 27 = .ok (.ifCond .lt 9, 3) := by decide +kernel
theorem dX6_find_30 : decode cX6_find 30 = .ok (.iload_n 2, 1) := by decide +kernel
theorem dX6_find_31 : decode cX6_find 31 = .ok (.bipush 9, 2) := by decide +kernel
theorem dX6_find_33 : decode cX6_find 33 = .ok (.if_icmp .lt 5, 3) := by decide +kernel
theorem dX6_find_36 : decode cX6_find 36 = .ok (.iconst 0, 1) := by decide +kernel
theorem dX6_find_37 : decode cX6_find 37 = .ok (.ireturn, 1) := by decide +kernel
theorem dX6_find_38 : decode cX6_find 38 = .ok (.aload_n 0, 1) := by decide +kernel
theorem dX6_find_39 : decode cX6_find 39 = .ok (.getfield 15, 3) := by decide +kernel
theorem dX6_find_42 : decode cX6_find 42 = .ok (.iload_n 2, 1) := by decide +kernel
theorem dX6_find_43 : decode cX6_find 43 = .ok (.iconst 1, 1) := by decide +kernel
theorem dX6_find_44 : decode cX6_find 44 = .ok (.bastore, 1) := by decide +kernel
theorem dX6_find_45 : decode cX6_find 45 = .ok (.iconst 1, 1) := by decide +kernel
theorem dX6_find_46 : decode cX6_find 46 = .ok (.istore 5, 2) := by decide +kernel
theorem dX6_find_48 : decode cX6_find 48 = .ok (.iload 5, 2) := by decide +kernel
theorem dX6_find_50 : decode cX6_find 50 = .ok (.bipush 6, 2) := by decide +kernel
theorem dX6_find_52 : decode cX6_find 52 = .ok (.if_icmp .gt 56, 3) := by decide +kernel
theorem dX6_find_55 : decode cX6_find 55 = .ok (.aload_n 0, 1) := by decide +kernel
theorem dX6_find_56 : decode cX6_find 56 = .ok (.getfield 33, 3) := by decide +kernel
theorem dX6_find_59 : decode cX6_find 59 = .ok (.ifCond .ne 49, 3) := by decide +kernel
theorem dX6_find_62 : decode cX6_find 62 = .ok (.aload_n 0, 1) := by decide +kernel
theorem dX6_find_63 : decode cX6_find 63 = .ok (.getfield 23, 3) := by decide +kernel
theorem dX6_find_66 : decode cX6_find 66 = .ok (.iconst 2, 1) := by decide +kernel
theorem dX6_find_67 : decode cX6_find 67 = .ok (.if_icmp .eq 10, 3) := by decide +kernel
theorem dX6_find_70 : decode cX6_find 70 = .ok (.aload_n 0, 1) := by decide +kernel
theorem dX6_find_71 : decode cX6_find 71 = .ok (.getfield 36, 3) := by decide +kernel
theorem dX6_find_74 : decode cX6_find 74 = .ok (.ifCond .ne 34, 3) := by decide +kernel
theorem dX6_find_77 : decode cX6_find 77 = .ok (.aload_n 0, 1) := by decide +kernel
theorem dX6_find_78 : decode cX6_find 78 = .ok (.iload 5, 2) := by decide +kernel
theorem dX6_find_80 : decode cX6_find 80 = .ok (.putfield 40, 3) := by decide +kernel
theorem dX6_find_83 : decode cX6_find 83 = .ok (.aload_n 0, 1) := by decide +kernel
theorem dX6_find_84 : decode cX6_find 84 = .ok (.iload_n 2, 1) := by decide +kernel
theorem dX6_find_85 : decode cX6_find 85 = .ok (.iconst 0, 1) := by decide +kernel
theorem dX6_find_86 : decode cX6_find 86 = .ok (.aload_n 0, 1) := by decide +kernel
theorem dX6_find_87 : decode cX6_find 87 = .ok (.getfield 19, 3) := by decide +kernel
theorem dX6_find_90 : decode cX6_find 90 = .ok (.iload_n 2, 1) := by decide +kernel
theorem dX6_find_91 : decode cX6_find 91 = .ok (.iconst 0, 1) := by decide +kernel
theorem dX6_find_92 : decode cX6_find 92 = .ok (.invokestatic 43, 3) := by decide +kernel
theorem dX6_find_95 : decode cX6_find 95 = .ok (.iconst 0, 1) := by decide +kernel
theorem dX6_find_96 : decode cX6_find 96 = .ok (.invokevirtual 47, 3) := by decide +kernel
theorem dX6_find_99 : decode cX6_find 99 = .ok (.invokevirtual 52, 3) := by decide +kernel
theorem dX6_find_102 : decode cX6_find 102 = .ok (.iinc 5 1, 3) := by decide +kernel
theorem dX6_find_105 : decode cX6_find 105 = .ok (.goto (-57), 3) := by decide +kernel
theorem dX6_find_108 : decode cX6_find 108 = .ok (.aload_n 0, 1) := by decide +kernel
theorem dX6_find_109 : decode cX6_find 109 = .ok (.getfield 15, 3) := by decide +kernel
theorem dX6_find_112 : decode cX6_find 112 = .ok (.iload_n 2, 1) := by decide +kernel
theorem dX6_find_113 : decode cX6_find 113 = .ok (.iconst 0, 1) := by decide +kernel
theorem dX6_find_114 : decode cX6_find 114 = .ok (.bastore, 1) := by decide +kernel
theorem dX6_find_115 : decode cX6_find 115 = .ok (.aload_n 0, 1) := by decide +kernel
theorem dX6_find_116 : decode cX6_find 116 = .ok (.getfield 33, 3) := by decide +kernel
theorem dX6_find_119 : decode cX6_find 119 = .ok (.ifCond .eq 7, 3) := by decide +kernel
theorem dX6_find_122 : decode cX6_find 122 = .ok (.iconst 1, 1) := by decide +kernel
theorem dX6_find_123 : decode cX6_find 123 = .ok (.goto 4, 3) := by decide +kernel
theorem dX6_find_126 : decode cX6_find 126 = .ok (.iconst 0, 1) := by decide +kernel
theorem dX6_find_127 : decode cX6_find 127 = .ok (.ireturn, 1) := by decide +kernel
theorem dX6_giveTo_0 : decode cX6_giveTo 0 = .ok (.aload_n 1, 1) := by decide +kernel
theorem dX6_giveTo_1 : decode cX6_giveTo 1 = .ok (.aload_n 0, 1) := by decide +kernel
theorem dX6_giveTo_2 : decode cX6_giveTo 2 = .ok (.getfield 9, 3) := by decide +kernel
theorem dX6_giveTo_5 : decode cX6_giveTo 5 = .ok (.aload_n 0, 1) := by decide +kernel
theorem dX6_giveTo_6 : decode cX6_giveTo 6 = .ok (.getfield 40, 3) := by decide +kernel
theorem dX6_giveTo_9 : decode cX6_giveTo 9 = .ok (.aload_n 0, 1) := by decide +kernel
theorem dX6_giveTo_10 : decode cX6_giveTo 10 = .ok (.getfield 33, 3) := by decide +kernel
theorem dX6_giveTo_13 : decode cX6_giveTo 13 = .ok (.invokevirtual 56, 3) := by decide +kernel
theorem dX6_giveTo_16 : decode cX6_giveTo 16 = .ok (.aload_n 0, 1) := by decide +kernel
theorem dX6_giveTo_17 : decode cX6_giveTo 17 = .ok (.getfield 19, 3) := by decide +kernel
theorem dX6_giveTo_20 : decode cX6_giveTo 20 = .ok (.aload_n 1, 1) := by decide +kernel
theorem dX6_giveTo_21 : decode cX6_giveTo 21 = .ok (.aload_n 1, 1) := by decide +kernel
theorem dX6_giveTo_22 : decode cX6_giveTo 22 = .ok (.getfield 62, 3) := by decide +kernel
theorem dX6_giveTo_25 : decode cX6_giveTo 25 = .ok (.invokevirtual 65, 3) := by decide +kernel
theorem dX6_giveTo_28 : decode cX6_giveTo 28 = .ok (.return_, 1) := by decide +kernel
theorem dX6_walk_0 : decode cX6_walk 0 = .ok (.iload_n 1, 1) := by decide +kernel
theorem dX6_walk_1 : decode cX6_walk 1 = .ok (.aload_n 0, 1) := by decide +kernel
theorem dX6_walk_2 : decode cX6_walk 2 = .ok (.getfield 27, 3) := by decide +kernel
theorem dX6_walk_5 : decode cX6_walk 5 = .ok (.if_icmp .eq 11, 3) := by decide +kernel
theorem dX6_walk_8 : decode cX6_walk 8 = .ok (.iload_n 2, 1) := by decide +kernel
theorem dX6_walk_9 : decode cX6_walk 9 = .ok (.aload_n 0, 1) := by decide +kernel
theorem dX6_walk_10 : decode cX6_walk 10 = .ok (.getfield 40, 3) := by decide +kernel
theorem dX6_walk_13 : decode cX6_walk 13 = .ok (.if_icmp .lt 11, 3) := by decide +kernel
theorem dX6_walk_16 : decode cX6_walk 16 = .ok (.aload_n 0, 1) := by decide +kernel
theorem dX6_walk_17 : decode cX6_walk 17 = .ok (.iload_n 1, 1) := by decide +kernel
theorem dX6_walk_18 : decode cX6_walk 18 = .ok (.iload_n 2, 1) := by decide +kernel
theorem dX6_walk_19 : decode cX6_walk 19 = .ok (.iload_n 3, 1) := by decide +kernel
theorem dX6_walk_20 : decode cX6_walk 20 = .ok (.invokevirtual 69, 3) := by decide +kernel
theorem dX6_walk_23 : decode cX6_walk 23 = .ok (.return_, 1) := by decide +kernel
theorem dX6_walk_24 : decode cX6_walk 24 = .ok (.iconst 2, 1) := by decide +kernel
theorem dX6_walk_25 : decode cX6_walk 25 = .ok (.istore 4, 2) := by decide +kernel
theorem dX6_walk_27 : decode cX6_walk 27 = .ok (.iload 4, 2) := by decide +kernel
theorem dX6_walk_29 : decode cX6_walk 29 = .ok (.iconst 5, 1) := by decide +kernel
theorem dX6_walk_30 : decode cX6_walk 30 = .ok (.if_icmp .gt 28, 3) := by decide +kernel
theorem dX6_walk_33 : decode cX6_walk 33 = .ok (.aload_n 0, 1) := by decide +kernel
theorem dX6_walk_34 : decode cX6_walk 34 = .ok (.getfield 33, 3) := by decide +kernel
theorem dX6_walk_37 : decode cX6_walk 37 = .ok (.ifCond .ne 21, 3) := by decide +kernel
theorem dX6_walk_40 : decode cX6_walk 40 = .ok (.aload_n 0, 1) := by decide +kernel
theorem dX6_walk_41 : decode cX6_walk 41 = .ok (.iload_n 1, 1) := by decide +kernel
theorem dX6_walk_42 : decode cX6_walk 42 = .ok (.iload 4, 2) := by decide +kernel
theorem dX6_walk_44 : decode cX6_walk 44 = .ok (.invokestatic 43, 3) := by decide +kernel
theorem dX6_walk_47 : decode cX6_walk 47 = .ok (.iload_n 2, 1) := by decide +kernel
theorem dX6_walk_48 : decode cX6_walk 48 = .ok (.iload_n 3, 1) := by decide +kernel
theorem dX6_walk_49 : decode cX6_walk 49 = .ok (.invokevirtual 72, 3) := by decide +kernel
theorem dX6_walk_52 : decode cX6_walk 52 = .ok (.iinc 4 1, 3) := by decide +kernel
theorem dX6_walk_55 : decode cX6_walk 55 = .ok (.goto (-28), 3) := by decide +kernel
theorem dX6_walk_58 : decode cX6_walk 58 = .ok (.return_, 1) := by decide +kernel
theorem dX6_hop_0 : decode cX6_hop 0 = .ok (.aload_n 0, 1) := by decide +kernel
theorem dX6_hop_1 : decode cX6_hop 1 = .ok (.getfield 19, 3) := by decide +kernel
theorem dX6_hop_4 : decode cX6_hop 4 = .ok (.iload_n 1, 1) := by decide +kernel
theorem dX6_hop_5 : decode cX6_hop 5 = .ok (.invokevirtual 75, 3) := by decide +kernel
theorem dX6_hop_8 : decode cX6_hop 8 = .ok (.ifCond .eq 7, 3) := by decide +kernel
theorem dX6_hop_11 : decode cX6_hop 11 = .ok (.iconst (-1), 1) := by decide +kernel
theorem dX6_hop_12 : decode cX6_hop 12 = .ok (.goto 14, 3) := by decide +kernel
theorem dX6_hop_15 : decode cX6_hop 15 = .ok (.aload_n 0, 1) := by decide +kernel
theorem dX6_hop_16 : decode cX6_hop 16 = .ok (.getfield 19, 3) := by decide +kernel
theorem dX6_hop_19 : decode cX6_hop 19 = .ok (.getfield 79, 3) := by decide +kernel
theorem dX6_hop_22 : decode cX6_hop 22 = .ok (.iload_n 1, 1) := by decide +kernel
theorem dX6_hop_23 : decode cX6_hop 23 = .ok (.invokevirtual 83, 3) := by decide +kernel
theorem dX6_hop_26 : decode cX6_hop 26 = .ok (.istore 4, 2) := by decide +kernel
theorem dX6_hop_28 : decode cX6_hop 28 = .ok (.iload 4, 2) := by decide +kernel
theorem dX6_hop_30 : decode cX6_hop 30 = .ok (.ifCond .lt 30, 3) := by decide +kernel
theorem dX6_hop_33 : decode cX6_hop 33 = .ok (.iload 4, 2) := by decide +kernel
theorem dX6_hop_35 : decode cX6_hop 35 = .ok (.bipush 9, 2) := by decide +kernel
theorem dX6_hop_37 : decode cX6_hop 37 = .ok (.if_icmp .ge 23, 3) := by decide +kernel
theorem dX6_hop_40 : decode cX6_hop 40 = .ok (.aload_n 0, 1) := by decide +kernel
theorem dX6_hop_41 : decode cX6_hop 41 = .ok (.getfield 15, 3) := by decide +kernel
theorem dX6_hop_44 : decode cX6_hop 44 = .ok (.iload 4, 2) := by decide +kernel
theorem dX6_hop_46 : decode cX6_hop 46 = .ok (.baload, 1) := by decide +kernel
theorem dX6_hop_47 : decode cX6_hop 47 = .ok (.ifCond .ne 13, 3) := by decide +kernel
theorem dX6_hop_50 : decode cX6_hop 50 = .ok (.iload_n 2, 1) := by decide +kernel
theorem dX6_hop_51 : decode cX6_hop 51 = .ok (.ifCond .lt 9, 3) := by decide +kernel
theorem dX6_hop_54 : decode cX6_hop 54 = .ok (.iload_n 2, 1) := by decide +kernel
theorem dX6_hop_55 : decode cX6_hop 55 = .ok (.bipush 6, 2) := by decide +kernel
theorem dX6_hop_57 : decode cX6_hop 57 = .ok (.if_icmp .lt 4, 3) := by decide +kernel
theorem dX6_hop_60 : decode cX6_hop 60 = .ok (.return_, 1) := by decide +kernel
theorem dX6_hop_61 : decode cX6_hop 61 = .ok (.aload_n 0, 1) := by decide +kernel
theorem dX6_hop_62 : decode cX6_hop 62 = .ok (.getfield 9, 3) := by decide +kernel
theorem dX6_hop_65 : decode cX6_hop 65 = .ok (.iload_n 2, 1) := by decide +kernel
theorem dX6_hop_66 : decode cX6_hop 66 = .ok (.iload_n 1, 1) := by decide +kernel
theorem dX6_hop_67 : decode cX6_hop 67 = .ok (.iastore, 1) := by decide +kernel
theorem dX6_hop_68 : decode cX6_hop 68 = .ok (.aload_n 0, 1) := by decide +kernel
theorem dX6_hop_69 : decode cX6_hop 69 = .ok (.getfield 15, 3) := by decide +kernel
theorem dX6_hop_72 : decode cX6_hop 72 = .ok (.iload 4, 2) := by decide +kernel
theorem dX6_hop_74 : decode cX6_hop 74 = .ok (.iconst 1, 1) := by decide +kernel
theorem dX6_hop_75 : decode cX6_hop 75 = .ok (.bastore, 1) := by decide +kernel
theorem dX6_hop_76 : decode cX6_hop 76 = .ok (.aload_n 0, 1) := by decide +kernel
theorem dX6_hop_77 : decode cX6_hop 77 = .ok (.iload 4, 2) := by decide +kernel
theorem dX6_hop_79 : decode cX6_hop 79 = .ok (.iload_n 2, 1) := by decide +kernel
theorem dX6_hop_80 : decode cX6_hop 80 = .ok (.iconst 1, 1) := by decide +kernel
theorem dX6_hop_81 : decode cX6_hop 81 = .ok (.iadd, 1) := by decide +kernel
theorem dX6_hop_82 : decode cX6_hop 82 = .ok (.iload_n 3, 1) := by decide +kernel
theorem dX6_hop_83 : decode cX6_hop 83 = .ok (.aload_n 0, 1) := by decide +kernel
theorem dX6_hop_84 : decode cX6_hop 84 = .ok (.getfield 19, 3) := by decide +kernel
theorem dX6_hop_87 : decode cX6_hop 87 = .ok (.iload_n 1, 1) := by decide +kernel
theorem dX6_hop_88 : decode cX6_hop 88 = .ok (.iload_n 2, 1) := by decide +kernel
theorem dX6_hop_89 : decode cX6_hop 89 = .ok (.iconst 1, 1) := by decide +kernel
theorem dX6_hop_90 : decode cX6_hop 90 = .ok (.iadd, 1) := by decide +kernel
theorem dX6_hop_91 : decode cX6_hop 91 = .ok (.invokevirtual 47, 3) := by decide +kernel
theorem dX6_hop_94 : decode cX6_hop 94 = .ok (.iand, 1) := by decide +kernel
theorem dX6_hop_95 : decode cX6_hop 95 = .ok (.invokevirtual 52, 3) := by decide +kernel
theorem dX6_hop_98 : decode cX6_hop 98 = .ok (.aload_n 0, 1) := by decide +kernel
theorem dX6_hop_99 : decode cX6_hop 99 = .ok (.getfield 15, 3) := by decide +kernel
theorem dX6_hop_102 : decode cX6_hop 102 = .ok (.iload 4, 2) := by decide +kernel
theorem dX6_hop_104 : decode cX6_hop 104 = .ok (.iconst 0, 1) := by decide +kernel
theorem dX6_hop_105 : decode cX6_hop 105 = .ok (.bastore, 1) := by decide +kernel
theorem dX6_hop_106 : decode cX6_hop 106 = .ok (.return_, 1) := by decide +kernel
theorem dX6_end_0 : decode cX6_end 0 = .ok (.iload_n 1, 1) := by decide +kernel
theorem dX6_end_1 : decode cX6_end 1 = .ok (.aload_n 0, 1) := by decide +kernel
theorem dX6_end_2 : decode cX6_end 2 = .ok (.getfield 27, 3) := by decide +kernel
theorem dX6_end_5 : decode cX6_end 5 = .ok (.if_icmp .ne 59, 3) := by decide +kernel
theorem dX6_end_8 : decode cX6_end 8 = .ok (.iload_n 2, 1) := by decide +kernel
theorem dX6_end_9 : decode cX6_end 9 = .ok (.aload_n 0, 1) := by decide +kernel
theorem dX6_end_10 : decode cX6_end 10 = .ok (.getfield 40, 3) := by decide +kernel
theorem dX6_end_13 : decode cX6_end 13 = .ok (.if_icmp .ne 51, 3) := by decide +kernel
theorem dX6_end_16 : decode cX6_end 16 = .ok (.aload_n 0, 1) := by decide +kernel
theorem dX6_end_17 : decode cX6_end 17 = .ok (.iconst 1, 1) := by decide +kernel
theorem dX6_end_18 : decode cX6_end 18 = .ok (.putfield 36, 3) := by decide +kernel
theorem dX6_end_21 : decode cX6_end 21 = .ok (.aload_n 0, 1) := by decide +kernel
theorem dX6_end_22 : decode cX6_end 22 = .ok (.getfield 19, 3) := by decide +kernel
theorem dX6_end_25 : decode cX6_end 25 = .ok (.iload_n 1, 1) := by decide +kernel
theorem dX6_end_26 : decode cX6_end 26 = .ok (.iconst 1, 1) := by decide +kernel
theorem dX6_end_27 : decode cX6_end 27 = .ok (.invokestatic 43, 3) := by decide +kernel
theorem dX6_end_30 : decode cX6_end 30 = .ok (.iload_n 2, 1) := by decide +kernel
theorem dX6_end_31 : decode cX6_end 31 = .ok (.iconst 1, 1) := by decide +kernel
theorem dX6_end_32 : decode cX6_end 32 = .ok (.iadd, 1) := by decide +kernel
theorem dX6_end_33 : decode cX6_end 33 = .ok (.invokevirtual 47, 3) := by decide +kernel
theorem dX6_end_36 : decode cX6_end 36 = .ok (.istore 4, 2) := by decide +kernel
theorem dX6_end_38 : decode cX6_end 38 = .ok (.aload_n 0, 1) := by decide +kernel
theorem dX6_end_39 : decode cX6_end 39 = .ok (.aload_n 0, 1) := by decide +kernel
theorem dX6_end_40 : decode cX6_end 40 = .ok (.getfield 23, 3) := by decide +kernel
theorem dX6_end_43 : decode cX6_end 43 = .ok (.iload_n 3, 1) := by decide +kernel
theorem dX6_end_44 : decode cX6_end 44 = .ok (.iload 4, 2) := by decide +kernel
theorem dX6_end_46 : decode cX6_end 46 = .ok (.iand, 1) := by decide +kernel
theorem dX6_end_47 : decode cX6_end 47 = .ok (.aload_n 0, 1) := by decide +kernel
theorem dX6_end_48 : decode cX6_end 48 = .ok (.getfield 30, 3) := by decide +kernel
theorem dX6_end_51 : decode cX6_end 51 = .ok (.aload_n 0, 1) := by decide +kernel
theorem dX6_end_52 : decode cX6_end 52 = .ok (.getfield 19, 3) := by decide +kernel
theorem dX6_end_55 : decode cX6_end 55 = .ok (.getfield 89, 3) := by decide +kernel
theorem dX6_end_58 : decode cX6_end 58 = .ok (.invokestatic 92, 3) := by decide +kernel
theorem dX6_end_61 : decode cX6_end 61 = .ok (.putfield 33, 3) := by decide +kernel
theorem dX6_end_64 : decode cX6_end 64 = .ok (.return_, 1) := by decide +kernel
theorem dX7_choose_0 : decode cX7_choose 0 = .ok (.iload_n 2, 1) := by decide +kernel
theorem dX7_choose_1 : decode cX7_choose 1 = .ok (.iconst 1, 1) := by decide +kernel
theorem dX7_choose_2 : decode cX7_choose 2 = .ok (.if_icmp .lt 11, 3) := by decide +kernel
theorem dX7_choose_5 : decode cX7_choose 5 = .ok (.iload_n 1, 1) := by decide +kernel
theorem dX7_choose_6 : decode cX7_choose 6 = .ok (.invokestatic 9, 3) := by decide +kernel
theorem dX7_choose_9 : decode cX7_choose 9 = .ok (.iload_n 2, 1) := by decide +kernel
theorem dX7_choose_10 : decode cX7_choose 10 = .ok (.if_icmp .ge 5, 3) := by decide +kernel
theorem dX7_choose_13 : decode cX7_choose 13 = .ok (.iconst 0, 1) := by decide +kernel
theorem dX7_choose_14 : decode cX7_choose 14 = .ok (.ireturn, 1) := by decide +kernel
theorem dX7_choose_15 : decode cX7_choose 15 = .ok (.iload_n 0, 1) := by decide +kernel
theorem dX7_choose_16 : decode cX7_choose 16 = .ok (.tableswitch 42 1 3 #[28, 28, 35], 28) := by decide +kernel
theorem dX7_choose_44 : decode cX7_choose 44 = .ok (.iload_n 1, 1) := by decide +kernel
theorem dX7_choose_45 : decode cX7_choose 45 = .ok (.iload_n 2, 1) := by decide +kernel
theorem dX7_choose_46 : decode cX7_choose 46 = .ok (.iload_n 3, 1) := by decide +kernel
theorem dX7_choose_47 : decode cX7_choose 47 = .ok (.invokestatic 15, 3) := by decide +kernel
theorem dX7_choose_50 : decode cX7_choose 50 = .ok (.ireturn, 1) := by decide +kernel
theorem dX7_choose_51 : decode cX7_choose 51 = .ok (.iload_n 1, 1) := by decide +kernel
theorem dX7_choose_52 : decode cX7_choose 52 = .ok (.iload_n 2, 1) := by decide +kernel
theorem dX7_choose_53 : decode cX7_choose 53 = .ok (.iload_n 3, 1) := by decide +kernel
theorem dX7_choose_54 : decode cX7_choose 54 = .ok (.invokestatic 21, 3) := by decide +kernel
theorem dX7_choose_57 : decode cX7_choose 57 = .ok (.ireturn, 1) := by decide +kernel
theorem dX7_choose_58 : decode cX7_choose 58 = .ok (.iload_n 1, 1) := by decide +kernel
theorem dX7_choose_59 : decode cX7_choose 59 = .ok (.iload_n 2, 1) := by decide +kernel
theorem dX7_choose_60 : decode cX7_choose 60 = .ok (.invokestatic 24, 3) := by decide +kernel
theorem dX7_choose_63 : decode cX7_choose 63 = .ok (.ireturn, 1) := by decide +kernel
theorem dX7_gapOf_0 : decode cX7_gapOf 0 = .ok (.iconst 0, 1) := by decide +kernel
theorem dX7_gapOf_1 : decode cX7_gapOf 1 = .ok (.istore_n 2, 1) := by decide +kernel
theorem dX7_gapOf_2 : decode cX7_gapOf 2 = .ok (.iconst (-1), 1) := by decide +kernel
theorem dX7_gapOf_3 : decode cX7_gapOf 3 = .ok (.istore_n 3, 1) := by decide +kernel
theorem dX7_gapOf_4 : decode cX7_gapOf 4 = .ok (.iconst 0, 1) := by decide +kernel
theorem dX7_gapOf_5 : decode cX7_gapOf 5 = .ok (.istore 4, 2) := by decide +kernel
theorem dX7_gapOf_7 : decode cX7_gapOf 7 = .ok (.iload 4, 2) := by decide +kernel
theorem dX7_gapOf_9 : decode cX7_gapOf 9 = .ok (.iconst 2, 1) := by decide +kernel
theorem dX7_gapOf_10 : decode cX7_gapOf 10 = .ok (.iload_n 1, 1) := by decide +kernel
theorem dX7_gapOf_11 : decode cX7_gapOf 11 = .ok (.imul, 1) := by decide +kernel
theorem dX7_gapOf_12 : decode cX7_gapOf 12 = .ok (.if_icmp .ge 57, 3) := by decide +kernel
theorem dX7_gapOf_15 : decode cX7_gapOf 15 = .ok (.iload 4, 2) := by decide +kernel
theorem dX7_gapOf_17 : decode cX7_gapOf 17 = .ok (.iload_n 1, 1) := by decide +kernel
theorem dX7_gapOf_18 : decode cX7_gapOf 18 = .ok (.if_icmp .ge 8, 3) := by decide +kernel
theorem dX7_gapOf_21 : decode cX7_gapOf 21 = .ok (.iload 4, 2) := by decide +kernel
theorem dX7_gapOf_23 : decode cX7_gapOf 23 = .ok (.goto 7, 3) := by decide +kernel
theorem dX7_gapOf_26 : decode cX7_gapOf 26 = .ok (.iload 4, 2) := by decide +kernel
theorem dX7_gapOf_28 : decode cX7_gapOf 28 = .ok (.iload_n 1, 1) := by decide +kernel
theorem dX7_gapOf_29 : decode cX7_gapOf 29 = .ok (.isub, 1) := by decide +kernel
theorem dX7_gapOf_30 : decode cX7_gapOf 30 = .ok (.istore 5, 2) := by decide +kernel
theorem dX7_gapOf_32 : decode cX7_gapOf 32 = .ok (.iload_n 0, 1) := by decide +kernel
theorem dX7_gapOf_33 : decode cX7_gapOf 33 = .ok (.iload 5, 2) := by decide +kernel
theorem dX7_gapOf_35 : decode cX7_gapOf 35 = .ok (.ishr, 1) := by decide +kernel
theorem dX7_gapOf_36 : decode cX7_gapOf 36 = .ok (.iconst 1, 1) := by decide +kernel
theorem dX7_gapOf_37 : decode cX7_gapOf 37 = .ok (.iand, 1) := by decide +kernel
theorem dX7_gapOf_38 : decode cX7_gapOf 38 = .ok (.iconst 1, 1) := by decide +kernel
theorem dX7_gapOf_39 : decode cX7_gapOf 39 = .ok (.if_icmp .ne 24, 3) := by decide +kernel
theorem dX7_gapOf_42 : decode cX7_gapOf 42 = .ok (.iload_n 3, 1) := by decide +kernel
theorem dX7_gapOf_43 : decode cX7_gapOf 43 = .ok (.iconst (-1), 1) := by decide +kernel
theorem dX7_gapOf_44 : decode cX7_gapOf 44 = .ok (.if_icmp .ne 7, 3) := by decide +kernel
theorem dX7_gapOf_47 : decode cX7_gapOf 47 = .ok (.iload_n 2, 1) := by decide +kernel
theorem dX7_gapOf_48 : decode cX7_gapOf 48 = .ok (.goto 11, 3) := by decide +kernel
theorem dX7_gapOf_51 : decode cX7_gapOf 51 = .ok (.iload_n 2, 1) := by decide +kernel
theorem dX7_gapOf_52 : decode cX7_gapOf 52 = .ok (.iload 4, 2) := by decide +kernel
theorem dX7_gapOf_54 : decode cX7_gapOf 54 = .ok (.iload_n 3, 1) := by decide +kernel
theorem dX7_gapOf_55 : decode cX7_gapOf 55 = .ok (.isub, 1) := by decide +kernel
theorem dX7_gapOf_56 : decode cX7_gapOf 56 = .ok (.invokestatic 28, 3) := by decide +kernel
theorem dX7_gapOf_59 : decode cX7_gapOf 59 = .ok (.istore_n 2, 1) := by decide +kernel
theorem dX7_gapOf_60 : decode cX7_gapOf 60 = .ok (.iload 4, 2) := by decide +kernel
theorem dX7_gapOf_62 : decode cX7_gapOf 62 = .ok (.istore_n 3, 1) := by decide +kernel
theorem dX7_gapOf_63 : decode cX7_gapOf 63 = .ok (.iinc 4 1, 3) := by decide +kernel
theorem dX7_gapOf_66 : decode cX7_gapOf 66 = .ok (.goto (-59), 3) := by decide +kernel
theorem dX7_gapOf_69 : decode cX7_gapOf 69 = .ok (.iload_n 2, 1) := by decide +kernel
theorem dX7_gapOf_70 : decode cX7_gapOf 70 = .ok (.ireturn, 1) := by decide +kernel
theorem dX7_least_0 : decode cX7_least 0 = .ok (.iload_n 0, 1) := by decide +kernel
theorem dX7_least_1 : decode cX7_least 1 = .ok (.istore_n 2, 1) := by decide +kernel
theorem dX7_least_2 : decode cX7_least 2 = .ok (.iconst 0, 1) := by decide +kernel
theorem dX7_least_3 : decode cX7_least 3 = .ok (.istore_n 3, 1) := by decide +kernel
theorem dX7_least_4 : decode cX7_least 4 = .ok (.iload_n 3, 1) := by decide +kernel
theorem dX7_least_5 : decode cX7_least 5 = .ok (.iload_n 1, 1) := by decide +kernel
theorem dX7_least_6 : decode cX7_least 6 = .ok (.if_icmp .ge 15, 3) := by decide +kernel
theorem dX7_least_9 : decode cX7_least 9 = .ok (.iload_n 2, 1) := by decide +kernel
theorem dX7_least_10 : decode cX7_least 10 = .ok (.iload_n 2, 1) := by decide +kernel
theorem dX7_least_11 : decode cX7_least 11 = .ok (.iconst 1, 1) := by decide +kernel
theorem dX7_least_12 : decode cX7_least 12 = .ok (.isub, 1) := by decide +kernel
theorem dX7_least_13 : decode cX7_least 13 = .ok (.iand, 1) := by decide +kernel
theorem dX7_least_14 : decode cX7_least 14 = .ok (.istore_n 2, 1) := by decide +kernel
theorem dX7_least_15 : decode cX7_least 15 = .ok (.iinc 3 1, 3) := by decide +kernel
theorem dX7_least_18 : decode cX7_least 18 = .ok (.goto (-14), 3) := by decide +kernel
theorem dX7_least_21 : decode cX7_least 21 = .ok (.iload_n 0, 1) := by decide +kernel
theorem dX7_least_22 : decode cX7_least 22 = .ok (.iload_n 2, 1) := by decide +kernel
theorem dX7_least_23 : decode cX7_least 23 = .ok (.iconst (-1), 1) := by decide +kernel
theorem dX7_least_24 : decode cX7_least 24 = .ok (.ixor, 1) := by decide +kernel
theorem dX7_least_25 : decode cX7_least 25 = .ok (.iand, 1) := by decide +kernel
theorem dX7_least_26 : decode cX7_least 26 = .ok (.ireturn, 1) := by decide +kernel
theorem dX7_firstRun_0 : decode cX7_firstRun 0 = .ok (.iconst 0, 1) := by decide +kernel
theorem dX7_firstRun_1 : decode cX7_firstRun 1 = .ok (.istore_n 3, 1) := by decide +kernel
theorem dX7_firstRun_2 : decode cX7_firstRun 2 = .ok (.iload_n 3, 1) := by decide +kernel
theorem dX7_firstRun_3 : decode cX7_firstRun 3 = .ok (.iload_n 2, 1) := by decide +kernel
theorem dX7_firstRun_4 : decode cX7_firstRun 4 = .ok (.if_icmp .ge 29, 3) := by decide +kernel
theorem dX7_firstRun_7 : decode cX7_firstRun 7 = .ok (.iload_n 3, 1) := by decide +kernel
theorem dX7_firstRun_8 : decode cX7_firstRun 8 = .ok (.iload_n 1, 1) := by decide +kernel
theorem dX7_firstRun_9 : decode cX7_firstRun 9 = .ok (.iload_n 2, 1) := by decide +kernel
theorem dX7_firstRun_10 : decode cX7_firstRun 10 = .ok (.invokestatic 33, 3) := by decide +kernel
theorem dX7_firstRun_13 : decode cX7_firstRun 13 = .ok (.istore 4, 2) := by decide +kernel
theorem dX7_firstRun_15 : decode cX7_firstRun 15 = .ok (.iload 4, 2) := by decide +kernel
theorem dX7_firstRun_17 : decode cX7_firstRun 17 = .ok (.iload_n 0, 1) := by decide +kernel
theorem dX7_firstRun_18 : decode cX7_firstRun 18 = .ok (.iand, 1) := by decide +kernel
theorem dX7_firstRun_19 : decode cX7_firstRun 19 = .ok (.iload 4, 2) := by decide +kernel
theorem dX7_firstRun_21 : decode cX7_firstRun 21 = .ok (.if_icmp .ne 6, 3) := by decide +kernel
theorem dX7_firstRun_24 : decode cX7_firstRun 24 = .ok (.iload 4, 2) := by decide +kernel
theorem dX7_firstRun_26 : decode cX7_firstRun 26 = .ok (.ireturn, 1) := by decide +kernel
theorem dX7_firstRun_27 : decode cX7_firstRun 27 = .ok (.iinc 3 1, 3) := by decide +kernel
theorem dX7_firstRun_30 : decode cX7_firstRun 30 = .ok (.goto (-28), 3) := by decide +kernel
theorem dX7_firstRun_33 : decode cX7_firstRun 33 = .ok (.iconst 0, 1) := by decide +kernel
theorem dX7_firstRun_34 : decode cX7_firstRun 34 = .ok (.ireturn, 1) := by decide +kernel
theorem dX7_burstFrom_0 : decode cX7_burstFrom 0 = .ok (.iconst 0, 1) := by decide +kernel
theorem dX7_burstFrom_1 : decode cX7_burstFrom 1 = .ok (.istore_n 3, 1) := by decide +kernel
theorem dX7_burstFrom_2 : decode cX7_burstFrom 2 = .ok (.iload_n 0, 1) := by decide +kernel
theorem dX7_burstFrom_3 : decode cX7_burstFrom 3 = .ok (.istore 4, 2) := by decide +kernel
theorem dX7_burstFrom_5 : decode cX7_burstFrom 5 = .ok (.iload 4, 2) := by decide +kernel
theorem dX7_burstFrom_7 : decode cX7_burstFrom 7 = .ok (.iload_n 0, 1) := by decide +kernel
theorem dX7_burstFrom_8 : decode cX7_burstFrom 8 = .ok (.iload_n 1, 1) := by decide +kernel
theorem dX7_burstFrom_9 : decode cX7_burstFrom 9 = .ok (.iadd, 1) := by decide +kernel
theorem dX7_burstFrom_10 : decode cX7_burstFrom 10 = .ok (.if_icmp .ge 29, 3) := by decide +kernel
theorem dX7_burstFrom_13 : decode cX7_burstFrom 13 = .ok (.iload_n 3, 1) := by decide +kernel
theorem dX7_burstFrom_14 : decode cX7_burstFrom 14 = .ok (.iconst 1, 1) := by decide +kernel
theorem dX7_burstFrom_15 : decode cX7_burstFrom 15 = .ok (.iload 4, 2) := by decide +kernel
theorem dX7_burstFrom_17 : decode cX7_burstFrom 17 = .ok (.iload_n 2, 1) := by decide +kernel
theorem dX7_burstFrom_18 : decode cX7_burstFrom 18 = .ok (.if_icmp .ge 8, 3) := by decide +kernel
theorem dX7_burstFrom_21 : decode cX7_burstFrom 21 = .ok (.iload 4, 2) := by decide +kernel
theorem dX7_burstFrom_23 : decode cX7_burstFrom 23 = .ok (.goto 7, 3) := by decide +kernel
theorem dX7_burstFrom_26 : decode cX7_burstFrom 26 = .ok (.iload 4, 2) := by decide +kernel
theorem dX7_burstFrom_28 : decode cX7_burstFrom 28 = .ok (.iload_n 2, 1) := by decide +kernel
theorem dX7_burstFrom_29 : decode cX7_burstFrom 29 = .ok (.isub, 1) := by decide +kernel
theorem dX7_burstFrom_30 : decode cX7_burstFrom 30 = .ok (.ishl, 1) := by decide +kernel
theorem dX7_burstFrom_31 : decode cX7_burstFrom 31 = .ok (.ior, 1) := by decide +kernel
theorem dX7_burstFrom_32 : decode cX7_burstFrom 32 = .ok (.istore_n 3, 1) := by decide +kernel
theorem dX7_burstFrom_33 : decode cX7_burstFrom 33 = .ok (.iinc 4 1, 3) := by decide +kernel
theorem dX7_burstFrom_36 : decode cX7_burstFrom 36 = .ok (.goto (-31), 3) := by decide +kernel
theorem dX7_burstFrom_39 : decode cX7_burstFrom 39 = .ok (.iload_n 3, 1) := by decide +kernel
theorem dX7_burstFrom_40 : decode cX7_burstFrom 40 = .ok (.ireturn, 1) := by decide +kernel
theorem dX7_evenest_0 : decode cX7_evenest 0 = .ok (.iconst 0, 1) := by decide +kernel
theorem dX7_evenest_1 : decode cX7_evenest 1 = .ok (.istore_n 3, 1) := by decide +kernel
theorem dX7_evenest_2 : decode cX7_evenest 2 = .ok (.iload_n 2, 1) := by decide +kernel
theorem dX7_evenest_3 : decode cX7_evenest 3 = .ok (.iconst 1, 1) := by decide +kernel
theorem dX7_evenest_4 : decode cX7_evenest 4 = .ok (.iadd, 1) := by decide +kernel
theorem dX7_evenest_5 : decode cX7_evenest 5 = .ok (.istore 4, 2) := by decide +kernel
theorem dX7_evenest_7 : decode cX7_evenest 7 = .ok (.iconst 1, 1) := by decide +kernel
theorem dX7_evenest_8 : decode cX7_evenest 8 = .ok (.istore 5, 2) := by decide +kernel
theorem dX7_evenest_10 : decode cX7_evenest 10 = .ok (.iload 5, 2) := by decide +kernel
theorem dX7_evenest_12 : decode cX7_evenest 12 = .ok (.iload_n 0, 1) := by decide +kernel
theorem dX7_evenest_13 : decode cX7_evenest 13 = .ok (.if_icmp .gt 65, 3) := by decide +kernel
theorem dX7_evenest_16 : decode cX7_evenest 16 = .ok (.iload 5, 2) := by decide +kernel
theorem dX7_evenest_18 : decode cX7_evenest 18 = .ok (.iload_n 0, 1) := by decide +kernel
theorem dX7_evenest_19 : decode cX7_evenest 19 = .ok (.iand, 1) := by decide +kernel
theorem dX7_evenest_20 : decode cX7_evenest 20 = .ok (.iload 5, 2) := by decide +kernel
theorem dX7_evenest_22 : decode cX7_evenest 22 = .ok (.if_icmp .ne 50, 3) := by decide +kernel
theorem dX7_evenest_25 : decode cX7_evenest 25 = .ok (.iload 5, 2) := by decide +kernel
theorem dX7_evenest_27 : decode cX7_evenest 27 = .ok (.invokestatic 9, 3) := by decide +kernel
theorem dX7_evenest_30 : decode cX7_evenest 30 = .ok (.iload_n 1, 1) := by decide +kernel
theorem dX7_evenest_31 : decode cX7_evenest 31 = .ok (.if_icmp .ne 41, 3) := by decide +kernel
theorem dX7_evenest_34 : decode cX7_evenest 34 = .ok (.iload 5, 2) := by decide +kernel
theorem dX7_evenest_36 : decode cX7_evenest 36 = .ok (.iload_n 2, 1) := by decide +kernel
theorem dX7_evenest_37 : decode cX7_evenest 37 = .ok (.invokestatic 36, 3) := by decide +kernel
theorem dX7_evenest_40 : decode cX7_evenest 40 = .ok (.istore 6, 2) := by decide +kernel
theorem dX7_evenest_42 : decode cX7_evenest 42 = .ok (.iload 6, 2) := by decide +kernel
theorem dX7_evenest_44 : decode cX7_evenest 44 = .ok (.iload 4, 2) := by decide +kernel
theorem dX7_evenest_46 : decode cX7_evenest 46 = .ok (.if_icmp .lt 19, 3) := by decide +kernel
theorem dX7_evenest_49 : decode cX7_evenest 49 = .ok (.iload 6, 2) := by decide +kernel
theorem dX7_evenest_51 : decode cX7_evenest 51 = .ok (.iload 4, 2) := by decide +kernel
theorem dX7_evenest_53 : decode cX7_evenest 53 = .ok (.if_icmp .ne 19, 3) := by decide +kernel
theorem dX7_evenest_56 : decode cX7_evenest 56 = .ok (.iload 5, 2) := by decide +kernel
theorem dX7_evenest_58 : decode cX7_evenest 58 = .ok (.iload_n 3, 1) := by decide +kernel
theorem dX7_evenest_59 : decode cX7_evenest 59 = .ok (.invokestatic 39, 3) := by decide +kernel
theorem dX7_evenest_62 : decode cX7_evenest 62 = .ok (.ifCond .eq 10, 3) := by decide +kernel
theorem dX7_evenest_65 : decode cX7_evenest 65 = .ok (.iload 5, 2) := by decide +kernel
theorem dX7_evenest_67 : decode cX7_evenest 67 = .ok (.istore_n 3, 1) := by decide +kernel
theorem dX7_evenest_68 : decode cX7_evenest 68 = .ok (.iload 6, 2) := by decide +kernel
theorem dX7_evenest_70 : decode cX7_evenest 70 = .ok (.istore 4, 2) := by decide +kernel
theorem dX7_evenest_72 : decode cX7_evenest 72 = .ok (.iinc 5 1, 3) := by decide +kernel
theorem dX7_evenest_75 : decode cX7_evenest 75 = .ok (.goto (-65), 3) := by decide +kernel
theorem dX7_evenest_78 : decode cX7_evenest 78 = .ok (.iload_n 3, 1) := by decide +kernel
theorem dX7_evenest_79 : decode cX7_evenest 79 = .ok (.ireturn, 1) := by decide +kernel
theorem dX7_comesAhead_0 : decode cX7_comesAhead 0 = .ok (.iload_n 0, 1) := by decide +kernel
theorem dX7_comesAhead_1 : decode cX7_comesAhead 1 = .ok (.iload_n 1, 1) := by decide +kernel
theorem dX7_comesAhead_2 : decode cX7_comesAhead 2 = .ok (.ixor, 1) := by decide +kernel
theorem dX7_comesAhead_3 : decode cX7_comesAhead 3 = .ok (.istore_n 2, 1) := by decide +kernel
theorem dX7_comesAhead_4 : decode cX7_comesAhead 4 = .ok (.iload_n 0, 1) := by decide +kernel
theorem dX7_comesAhead_5 : decode cX7_comesAhead 5 = .ok (.iload_n 2, 1) := by decide +kernel
theorem dX7_comesAhead_6 : decode cX7_comesAhead 6 = .ok (.iand, 1) := by decide +kernel
theorem dX7_comesAhead_7 : decode cX7_comesAhead 7 = .ok (.iload_n 2, 1) := by decide +kernel
theorem dX7_comesAhead_8 : decode cX7_comesAhead 8 = .ok (.ineg, 1) := by decide +kernel
theorem dX7_comesAhead_9 : decode cX7_comesAhead 9 = .ok (.iand, 1) := by decide +kernel
theorem dX7_comesAhead_10 : decode cX7_comesAhead 10 = .ok (.ifCond .eq 7, 3) := by decide +kernel
theorem dX7_comesAhead_13 : decode cX7_comesAhead 13 = .ok (.iconst 1, 1) := by decide +kernel
theorem dX7_comesAhead_14 : decode cX7_comesAhead 14 = .ok (.goto 4, 3) := by decide +kernel
theorem dX7_comesAhead_17 : decode cX7_comesAhead 17 = .ok (.iconst 0, 1) := by decide +kernel
theorem dX7_comesAhead_18 : decode cX7_comesAhead 18 = .ok (.ireturn, 1) := by decide +kernel
theorem dX8_init_0 : decode cX8_init 0 = .ok (.aload_n 0, 1) := by decide +kernel
theorem dX8_init_1 : decode cX8_init 1 = .ok (.invokespecial 3, 3) := by decide +kernel
theorem dX8_init_4 : decode cX8_init 4 = .ok (.return_, 1) := by decide +kernel
theorem dX8_set_0 : decode cX8_set 0 = .ok (.aload_n 0, 1) := by decide +kernel
theorem dX8_set_1 : decode cX8_set 1 = .ok (.iload_n 1, 1) := by decide +kernel
theorem dX8_set_2 : decode cX8_set 2 = .ok (.putfield 9, 3) := by decide +kernel
theorem dX8_set_5 : decode cX8_set 5 = .ok (.aload_n 0, 1) := by decide +kernel
theorem dX8_set_6 : decode cX8_set 6 = .ok (.iload_n 2, 1) := by decide +kernel
theorem dX8_set_7 : decode cX8_set 7 = .ok (.putfield 15, 3) := by decide +kernel
theorem dX8_set_10 : decode cX8_set 10 = .ok (.aload_n 0, 1) := by decide +kernel
theorem dX8_set_11 : decode cX8_set 11 = .ok (.iload_n 3, 1) := by decide +kernel
theorem dX8_set_12 : decode cX8_set 12 = .ok (.putfield 18, 3) := by decide +kernel
theorem dX8_set_15 : decode cX8_set 15 = .ok (.aload_n 0, 1) := by decide +kernel
theorem dX8_set_16 : decode cX8_set 16 = .ok (.iconst 0, 1) := by decide +kernel
theorem dX8_set_17 : decode cX8_set 17 = .ok (.putfield 22, 3) := by decide +kernel
theorem dX8_set_20 : decode cX8_set 20 = .ok (.aload_n 0, 1) := by decide +kernel
theorem dX8_set_21 : decode cX8_set 21 = .ok (.iconst (-1), 1) := by decide +kernel
theorem dX8_set_22 : decode cX8_set 22 = .ok (.putfield 25, 3) := by decide +kernel
theorem dX8_set_25 : decode cX8_set 25 = .ok (.aload_n 0, 1) := by decide +kernel
theorem dX8_set_26 : decode cX8_set 26 = .ok (.iload 4, 2) := by decide +kernel
theorem dX8_set_28 : decode cX8_set 28 = .ok (.putfield 28, 3) := by decide +kernel
theorem dX8_set_31 : decode cX8_set 31 = .ok (.return_, 1) := by decide +kernel
theorem dX8_tell_0 : decode cX8_tell 0 = .ok (.iload_n 1, 1) := by decide +kernel
theorem dX8_tell_1 : decode cX8_tell 1 = .ok (.tableswitch 63 0 3 #[31, 36, 49, 54], 31) := by decide +kernel
theorem dX8_tell_32 : decode cX8_tell 32 = .ok (.aload_n 0, 1) := by decide +kernel
theorem dX8_tell_33 : decode cX8_tell 33 = .ok (.getfield 15, 3) := by decide +kernel
theorem dX8_tell_36 : decode cX8_tell 36 = .ok (.ireturn, 1) := by decide +kernel
theorem dX8_tell_37 : decode cX8_tell 37 = .ok (.aload_n 0, 1) := by decide +kernel
theorem dX8_tell_38 : decode cX8_tell 38 = .ok (.getfield 18, 3) := by decide +kernel
theorem dX8_tell_41 : decode cX8_tell 41 = .ok (.ifCond .eq 7, 3) := by decide +kernel
theorem dX8_tell_44 : decode cX8_tell 44 = .ok (.iconst 1, 1) := by decide +kernel
theorem dX8_tell_45 : decode cX8_tell 45 = .ok (.goto 4, 3) := by decide +kernel
theorem dX8_tell_48 : decode cX8_tell 48 = .ok (.iconst 0, 1) := by decide +kernel
theorem dX8_tell_49 : decode cX8_tell 49 = .ok (.ireturn, 1) := by decide +kernel
theorem dX8_tell_50 : decode cX8_tell 50 = .ok (.aload_n 0, 1) := by decide +kernel
theorem dX8_tell_51 : decode cX8_tell 51 = .ok (.getfield 25, 3) := by decide +kernel
theorem dX8_tell_54 : decode cX8_tell 54 = .ok (.ireturn, 1) := by decide +kernel
theorem dX8_tell_55 : decode cX8_tell 55 = .ok (.aload_n 0, 1) := by decide +kernel
theorem dX8_tell_56 : decode cX8_tell 56 = .ok (.aload_n 2, 1) := by decide +kernel
theorem dX8_tell_57 : decode cX8_tell 57 = .ok (.getfield 31, 3) := by decide +kernel
theorem dX8_tell_60 : decode cX8_tell 60 = .ok (.invokevirtual 36, 3) := by decide +kernel
theorem dX8_tell_63 : decode cX8_tell 63 = .ok (.ireturn, 1) := by decide +kernel
theorem dX8_tell_64 : decode cX8_tell 64 = .ok (.aload_n 0, 1) := by decide +kernel
theorem dX8_tell_65 : decode cX8_tell 65 = .ok (.aload_n 2, 1) := by decide +kernel
theorem dX8_tell_66 : decode cX8_tell 66 = .ok (.getfield 40, 3) := by decide +kernel
theorem dX8_tell_69 : decode cX8_tell 69 = .ok (.invokevirtual 44, 3) := by decide +kernel
theorem dX8_tell_72 : decode cX8_tell 72 = .ok (.ireturn, 1) := by decide +kernel
theorem dX8_age_0 : decode cX8_age 0 = .ok (.iload_n 1, 1) := by decide +kernel
theorem dX8_age_1 : decode cX8_age 1 = .ok (.aload_n 0, 1) := by decide +kernel
theorem dX8_age_2 : decode cX8_age 2 = .ok (.getfield 28, 3) := by decide +kernel
theorem dX8_age_5 : decode cX8_age 5 = .ok (.isub, 1) := by decide +kernel
theorem dX8_age_6 : decode cX8_age 6 = .ok (.ireturn, 1) := by decide +kernel
theorem dX8_linkAhead_0 : decode cX8_linkAhead 0 = .ok (.aload_n 0, 1) := by decide +kernel
theorem dX8_linkAhead_1 : decode cX8_linkAhead 1 = .ok (.getfield 25, 3) := by decide +kernel
theorem dX8_linkAhead_4 : decode cX8_linkAhead 4 = .ok (.iconst (-1), 1) := by decide +kernel
theorem dX8_linkAhead_5 : decode cX8_linkAhead 5 = .ok (.if_icmp .ne 12, 3) := by decide +kernel
theorem dX8_linkAhead_8 : decode cX8_linkAhead 8 = .ok (.aload_n 0, 1) := by decide +kernel
theorem dX8_linkAhead_9 : decode cX8_linkAhead 9 = .ok (.getfield 9, 3) := by decide +kernel
theorem dX8_linkAhead_12 : decode cX8_linkAhead 12 = .ok (.iconst 0, 1) := by decide +kernel
theorem dX8_linkAhead_13 : decode cX8_linkAhead 13 = .ok (.invokestatic 48, 3) := by decide +kernel
theorem dX8_linkAhead_16 : decode cX8_linkAhead 16 = .ok (.ireturn, 1) := by decide +kernel
theorem dX8_linkAhead_17 : decode cX8_linkAhead 17 = .ok (.aload_n 0, 1) := by decide +kernel
theorem dX8_linkAhead_18 : decode cX8_linkAhead 18 = .ok (.getfield 25, 3) := by decide +kernel
theorem dX8_linkAhead_21 : decode cX8_linkAhead 21 = .ok (.aload_n 0, 1) := by decide +kernel
theorem dX8_linkAhead_22 : decode cX8_linkAhead 22 = .ok (.getfield 25, 3) := by decide +kernel
theorem dX8_linkAhead_25 : decode cX8_linkAhead 25 = .ok (.aload_n 0, 1) := by decide +kernel
theorem dX8_linkAhead_26 : decode cX8_linkAhead 26 = .ok (.getfield 15, 3) := by decide +kernel
theorem dX8_linkAhead_29 : decode cX8_linkAhead 29 = .ok (.if_icmp .ne 7, 3) := by decide +kernel
theorem dX8_linkAhead_32 : decode cX8_linkAhead 32 = .ok (.iconst 1, 1) := by decide +kernel
theorem dX8_linkAhead_33 : decode cX8_linkAhead 33 = .ok (.goto 8, 3) := by decide +kernel
theorem dX8_linkAhead_36 : decode cX8_linkAhead 36 = .ok (.aload_n 0, 1) := by decide +kernel
theorem dX8_linkAhead_37 : decode cX8_linkAhead 37 = .ok (.aload_n 1, 1) := by decide +kernel
theorem dX8_linkAhead_38 : decode cX8_linkAhead 38 = .ok (.invokevirtual 52, 3) := by decide +kernel
theorem dX8_linkAhead_41 : decode cX8_linkAhead 41 = .ok (.invokestatic 48, 3) := by decide +kernel
theorem dX8_linkAhead_44 : decode cX8_linkAhead 44 = .ok (.ireturn, 1) := by decide +kernel
theorem dX8_portAhead_0 : decode cX8_portAhead 0 = .ok (.aload_n 1, 1) := by decide +kernel
theorem dX8_portAhead_1 : decode cX8_portAhead 1 = .ok (.aload_n 0, 1) := by decide +kernel
theorem dX8_portAhead_2 : decode cX8_portAhead 2 = .ok (.getfield 15, 3) := by decide +kernel
theorem dX8_portAhead_5 : decode cX8_portAhead 5 = .ok (.invokevirtual 55, 3) := by decide +kernel
theorem dX8_portAhead_8 : decode cX8_portAhead 8 = .ok (.aload_n 1, 1) := by decide +kernel
theorem dX8_portAhead_9 : decode cX8_portAhead 9 = .ok (.aload_n 0, 1) := by decide +kernel
theorem dX8_portAhead_10 : decode cX8_portAhead 10 = .ok (.getfield 25, 3) := by decide +kernel
theorem dX8_portAhead_13 : decode cX8_portAhead 13 = .ok (.invokevirtual 55, 3) := by decide +kernel
theorem dX8_portAhead_16 : decode cX8_portAhead 16 = .ok (.isub, 1) := by decide +kernel
theorem dX8_portAhead_17 : decode cX8_portAhead 17 = .ok (.istore_n 2, 1) := by decide +kernel
theorem dX8_portAhead_18 : decode cX8_portAhead 18 = .ok (.iload_n 2, 1) := by decide +kernel
theorem dX8_portAhead_19 : decode cX8_portAhead 19 = .ok (.ifCond .eq 13, 3) := by decide +kernel
theorem dX8_portAhead_22 : decode cX8_portAhead 22 = .ok (.iload_n 2, 1) := by decide +kernel
theorem dX8_portAhead_23 : decode cX8_portAhead 23 = .ok (.ifCond .le 7, 3) := by decide +kernel
theorem dX8_portAhead_26 : decode cX8_portAhead 26 = .ok (.iconst 3, 1) := by decide +kernel
theorem dX8_portAhead_27 : decode cX8_portAhead 27 = .ok (.goto 4, 3) := by decide +kernel
theorem dX8_portAhead_30 : decode cX8_portAhead 30 = .ok (.iconst 5, 1) := by decide +kernel
theorem dX8_portAhead_31 : decode cX8_portAhead 31 = .ok (.ireturn, 1) := by decide +kernel
theorem dX8_portAhead_32 : decode cX8_portAhead 32 = .ok (.aload_n 1, 1) := by decide +kernel
theorem dX8_portAhead_33 : decode cX8_portAhead 33 = .ok (.aload_n 0, 1) := by decide +kernel
theorem dX8_portAhead_34 : decode cX8_portAhead 34 = .ok (.getfield 15, 3) := by decide +kernel
theorem dX8_portAhead_37 : decode cX8_portAhead 37 = .ok (.invokevirtual 60, 3) := by decide +kernel
theorem dX8_portAhead_40 : decode cX8_portAhead 40 = .ok (.aload_n 1, 1) := by decide +kernel
theorem dX8_portAhead_41 : decode cX8_portAhead 41 = .ok (.aload_n 0, 1) := by decide +kernel
theorem dX8_portAhead_42 : decode cX8_portAhead 42 = .ok (.getfield 25, 3) := by decide +kernel
theorem dX8_portAhead_45 : decode cX8_portAhead 45 = .ok (.invokevirtual 60, 3) := by decide +kernel
theorem dX8_portAhead_48 : decode cX8_portAhead 48 = .ok (.if_icmp .le 7, 3) := by decide +kernel
theorem dX8_portAhead_51 : decode cX8_portAhead 51 = .ok (.iconst 4, 1) := by decide +kernel
theorem dX8_portAhead_52 : decode cX8_portAhead 52 = .ok (.goto 4, 3) := by decide +kernel
theorem dX8_portAhead_55 : decode cX8_portAhead 55 = .ok (.iconst 2, 1) := by decide +kernel
theorem dX8_portAhead_56 : decode cX8_portAhead 56 = .ok (.ireturn, 1) := by decide +kernel
theorem dX8_goOn_0 : decode cX8_goOn 0 = .ok (.aload_n 0, 1) := by decide +kernel
theorem dX8_goOn_1 : decode cX8_goOn 1 = .ok (.aload_n 1, 1) := by decide +kernel
theorem dX8_goOn_2 : decode cX8_goOn 2 = .ok (.aload_n 0, 1) := by decide +kernel
theorem dX8_goOn_3 : decode cX8_goOn 3 = .ok (.getfield 63, 3) := by decide +kernel
theorem dX8_goOn_6 : decode cX8_goOn 6 = .ok (.invokevirtual 66, 3) := by decide +kernel
theorem dX8_goOn_9 : decode cX8_goOn 9 = .ok (.putfield 25, 3) := by decide +kernel
theorem dX8_goOn_12 : decode cX8_goOn 12 = .ok (.aload_n 0, 1) := by decide +kernel
theorem dX8_goOn_13 : decode cX8_goOn 13 = .ok (.aload_n 0, 1) := by decide +kernel
theorem dX8_goOn_14 : decode cX8_goOn 14 = .ok (.getfield 25, 3) := by decide +kernel
theorem dX8_goOn_17 : decode cX8_goOn 17 = .ok (.iconst (-1), 1) := by decide +kernel
theorem dX8_goOn_18 : decode cX8_goOn 18 = .ok (.if_icmp .ne 7, 3) := by decide +kernel
theorem dX8_goOn_21 : decode cX8_goOn 21 = .ok (.iconst 1, 1) := by decide +kernel
theorem dX8_goOn_22 : decode cX8_goOn 22 = .ok (.goto 4, 3) := by decide +kernel
theorem dX8_goOn_25 : decode cX8_goOn 25 = .ok (.iconst 0, 1) := by decide +kernel
theorem dX8_goOn_26 : decode cX8_goOn 26 = .ok (.putfield 22, 3) := by decide +kernel
theorem dX8_goOn_29 : decode cX8_goOn 29 = .ok (.return_, 1) := by decide +kernel
theorem dX9_init_0 : decode cX9_init 0 = .ok (.aload_n 0, 1) := by decide +kernel
theorem dX9_init_1 : decode cX9_init 1 = .ok (.invokespecial 3, 3) := by decide +kernel
theorem dX9_init_4 : decode cX9_init 4 = .ok (.aload_n 0, 1) := by decide +kernel
theorem dX9_init_5 : decode cX9_init 5 = .ok (.bipush 12, 2) := by decide +kernel
theorem dX9_init_7 : decode cX9_init 7 = .ok (.anewarray 9, 3) := by decide +kernel
theorem dX9_init_10 : decode cX9_init 10 = .ok (.putfield 11, 3) := by decide +kernel
theorem dX9_init_13 : decode cX9_init 13 = .ok (.aload_n 0, 1) := by decide +kernel
theorem dX9_init_14 : decode cX9_init 14 = .ok (.new 17, 3) := by decide +kernel
theorem dX9_init_17 : decode cX9_init 17 = .ok (.dup, 1) := by decide +kernel
theorem dX9_init_18 : decode cX9_init 18 = .ok (.invokespecial 19, 3) := by decide +kernel
theorem dX9_init_21 : decode cX9_init 21 = .ok (.putfield 20, 3) := by decide +kernel
theorem dX9_init_24 : decode cX9_init 24 = .ok (.aload_n 0, 1) := by decide +kernel
theorem dX9_init_25 : decode cX9_init 25 = .ok (.new 17, 3) := by decide +kernel
theorem dX9_init_28 : decode cX9_init 28 = .ok (.dup, 1) := by decide +kernel
theorem dX9_init_29 : decode cX9_init 29 = .ok (.invokespecial 19, 3) := by decide +kernel
theorem dX9_init_32 : decode cX9_init 32 = .ok (.putfield 24, 3) := by decide +kernel
theorem dX9_init_35 : decode cX9_init 35 = .ok (.aload_n 0, 1) := by decide +kernel
theorem dX9_init_36 : decode cX9_init 36 = .ok (.aload_n 1, 1) := by decide +kernel
theorem dX9_init_37 : decode cX9_init 37 = .ok (.putfield 27, 3) := by decide +kernel
theorem dX9_init_40 : decode cX9_init 40 = .ok (.iconst 0, 1) := by decide +kernel
theorem dX9_init_41 : decode cX9_init 41 = .ok (.istore_n 2, 1) := by decide +kernel
theorem dX9_init_42 : decode cX9_init 42 = .ok (.iload_n 2, 1) := by decide +kernel
theorem dX9_init_43 : decode cX9_init 43 = .ok (.bipush 12, 2) := by decide +kernel
theorem dX9_init_45 : decode cX9_init 45 = .ok (.if_icmp .ge 22, 3) := by decide +kernel
theorem dX9_init_48 : decode cX9_init 48 = .ok (.aload_n 0, 1) := by decide +kernel
theorem dX9_init_49 : decode cX9_init 49 = .ok (.getfield 11, 3) := by decide +kernel
theorem dX9_init_52 : decode cX9_init 52 = .ok (.iload_n 2, 1) := by decide +kernel
theorem dX9_init_53 : decode cX9_init 53 = .ok (.new 9, 3) := by decide +kernel
theorem dX9_init_56 : decode cX9_init 56 = .ok (.dup, 1) := by decide +kernel
theorem dX9_init_57 : decode cX9_init 57 = .ok (.invokespecial 31, 3) := by decide +kernel
theorem dX9_init_60 : decode cX9_init 60 = .ok (.aastore, 1) := by decide +kernel
theorem dX9_init_61 : decode cX9_init 61 = .ok (.iinc 2 1, 3) := by decide +kernel
theorem dX9_init_64 : decode cX9_init 64 = .ok (.goto (-22), 3) := by decide +kernel
theorem dX9_init_67 : decode cX9_init 67 = .ok (.return_, 1) := by decide +kernel
theorem dX9_clear_0 : decode cX9_clear 0 = .ok (.aload_n 0, 1) := by decide +kernel
theorem dX9_clear_1 : decode cX9_clear 1 = .ok (.iconst 0, 1) := by decide +kernel
theorem dX9_clear_2 : decode cX9_clear 2 = .ok (.putfield 32, 3) := by decide +kernel
theorem dX9_clear_5 : decode cX9_clear 5 = .ok (.aload_n 0, 1) := by decide +kernel
theorem dX9_clear_6 : decode cX9_clear 6 = .ok (.getfield 20, 3) := by decide +kernel
theorem dX9_clear_9 : decode cX9_clear 9 = .ok (.invokevirtual 36, 3) := by decide +kernel
theorem dX9_clear_12 : decode cX9_clear 12 = .ok (.aload_n 0, 1) := by decide +kernel
theorem dX9_clear_13 : decode cX9_clear 13 = .ok (.getfield 24, 3) := by decide +kernel
theorem dX9_clear_16 : decode cX9_clear 16 = .ok (.invokevirtual 36, 3) := by decide +kernel
theorem dX9_clear_19 : decode cX9_clear 19 = .ok (.return_, 1) := by decide +kernel
theorem dX9_find_0 : decode cX9_find 0 = .ok (.iload_n 1, 1) := by decide +kernel
theorem dX9_find_1 : decode cX9_find 1 = .ok (.ifCond .lt 17, 3) := by decide +kernel
theorem dX9_find_4 : decode cX9_find 4 = .ok (.iload_n 1, 1) := by decide +kernel
theorem dX9_find_5 : decode cX9_find 5 = .ok (.aload_n 0, 1) := by decide +kernel
theorem dX9_find_6 : decode cX9_find 6 = .ok (.getfield 32, 3) := by decide +kernel
theorem dX9_find_9 : decode cX9_find 9 = .ok (.if_icmp .ge 9, 3) := by decide +kernel
theorem dX9_find_12 : decode cX9_find 12 = .ok (.iload_n 1, 1) := by decide +kernel
theorem dX9_find_13 : decode cX9_find 13 = .ok (.bipush 12, 2) := by decide +kernel
theorem dX9_find_15 : decode cX9_find 15 = .ok (.if_icmp .lt 7, 3) := by decide +kernel
theorem dX9_find_18 : decode cX9_find 18 = .ok (.aconst_null, 1) := by decide +kernel
theorem dX9_find_19 : decode cX9_find 19 = .ok (.goto 9, 3) := by decide +kernel
theorem dX9_find_22 : decode cX9_find 22 = .ok (.aload_n 0, 1) := by decide +kernel
theorem dX9_find_23 : decode cX9_find 23 = .ok (.getfield 11, 3) := by decide +kernel
theorem dX9_find_26 : decode cX9_find 26 = .ok (.iload_n 1, 1) := by decide +kernel
theorem dX9_find_27 : decode cX9_find 27 = .ok (.aaload, 1) := by decide +kernel
theorem dX9_find_28 : decode cX9_find 28 = .ok (.areturn, 1) := by decide +kernel
theorem dX9_arrivals_0 : decode cX9_arrivals 0 = .ok (.iload_n 1, 1) := by decide +kernel
theorem dX9_arrivals_1 : decode cX9_arrivals 1 = .ok (.ifCond .eq 10, 3) := by decide +kernel
theorem dX9_arrivals_4 : decode cX9_arrivals 4 = .ok (.aload_n 0, 1) := by decide +kernel
theorem dX9_arrivals_5 : decode cX9_arrivals 5 = .ok (.getfield 20, 3) := by decide +kernel
theorem dX9_arrivals_8 : decode cX9_arrivals 8 = .ok (.goto 7, 3) := by decide +kernel
theorem dX9_arrivals_11 : decode cX9_arrivals 11 = .ok (.aload_n 0, 1) := by decide +kernel
theorem dX9_arrivals_12 : decode cX9_arrivals 12 = .ok (.getfield 24, 3) := by decide +kernel
theorem dX9_arrivals_15 : decode cX9_arrivals 15 = .ok (.areturn, 1) := by decide +kernel
theorem dX9_add_0 : decode cX9_add 0 = .ok (.aload_n 0, 1) := by decide +kernel
theorem dX9_add_1 : decode cX9_add 1 = .ok (.getfield 32, 3) := by decide +kernel
theorem dX9_add_4 : decode cX9_add 4 = .ok (.ifCond .lt 12, 3) := by decide +kernel
theorem dX9_add_7 : decode cX9_add 7 = .ok (.aload_n 0, 1) := by decide +kernel
theorem dX9_add_8 : decode cX9_add 8 = .ok (.getfield 32, 3) := by decide +kernel
theorem dX9_add_11 : decode cX9_add 11 = .ok (.bipush 12, 2) := by decide +kernel
theorem dX9_add_13 : decode cX9_add 13 = .ok (.if_icmp .lt 5, 3) := by decide +kernel
theorem dX9_add_16 : decode cX9_add 16 = .ok (.iconst 0, 1) := by decide +kernel
theorem dX9_add_17 : decode cX9_add 17 = .ok (.ireturn, 1) := by decide +kernel
theorem dX9_add_18 : decode cX9_add 18 = .ok (.aload_n 0, 1) := by decide +kernel
theorem dX9_add_19 : decode cX9_add 19 = .ok (.getfield 11, 3) := by decide +kernel
theorem dX9_add_22 : decode cX9_add 22 = .ok (.aload_n 0, 1) := by decide +kernel
theorem dX9_add_23 : decode cX9_add 23 = .ok (.getfield 32, 3) := by decide +kernel
theorem dX9_add_26 : decode cX9_add 26 = .ok (.aaload, 1) := by decide +kernel
theorem dX9_add_27 : decode cX9_add 27 = .ok (.iload_n 1, 1) := by decide +kernel
theorem dX9_add_28 : decode cX9_add 28 = .ok (.iload_n 2, 1) := by decide +kernel
theorem dX9_add_29 : decode cX9_add 29 = .ok (.iload_n 3, 1) := by decide +kernel
theorem dX9_add_30 : decode cX9_add 30 = .ok (.aload_n 0, 1) := by decide +kernel
theorem dX9_add_31 : decode cX9_add 31 = .ok (.getfield 27, 3) := by decide +kernel
theorem dX9_add_34 : decode cX9_add 34 = .ok (.getfield 39, 3) := by decide +kernel
theorem dX9_add_37 : decode cX9_add 37 = .ok (.invokevirtual 44, 3) := by decide +kernel
theorem dX9_add_40 : decode cX9_add 40 = .ok (.aload_n 0, 1) := by decide +kernel
theorem dX9_add_41 : decode cX9_add 41 = .ok (.dup, 1) := by decide +kernel
theorem dX9_add_42 : decode cX9_add 42 = .ok (.getfield 32, 3) := by decide +kernel
theorem dX9_add_45 : decode cX9_add 45 = .ok (.iconst 1, 1) := by decide +kernel
theorem dX9_add_46 : decode cX9_add 46 = .ok (.iadd, 1) := by decide +kernel
theorem dX9_add_47 : decode cX9_add 47 = .ok (.putfield 32, 3) := by decide +kernel
theorem dX9_add_50 : decode cX9_add 50 = .ok (.iconst 1, 1) := by decide +kernel
theorem dX9_add_51 : decode cX9_add 51 = .ok (.ireturn, 1) := by decide +kernel
theorem dX9_addDrawn_0 : decode cX9_addDrawn 0 = .ok (.aload_n 0, 1) := by decide +kernel
theorem dX9_addDrawn_1 : decode cX9_addDrawn 1 = .ok (.iload_n 2, 1) := by decide +kernel
theorem dX9_addDrawn_2 : decode cX9_addDrawn 2 = .ok (.putfield 48, 3) := by decide +kernel
theorem dX9_addDrawn_5 : decode cX9_addDrawn 5 = .ok (.aload_n 0, 1) := by decide +kernel
theorem dX9_addDrawn_6 : decode cX9_addDrawn 6 = .ok (.getfield 32, 3) := by decide +kernel
theorem dX9_addDrawn_9 : decode cX9_addDrawn 9 = .ok (.istore_n 3, 1) := by decide +kernel
theorem dX9_addDrawn_10 : decode cX9_addDrawn 10 = .ok (.iconst 0, 1) := by decide +kernel
theorem dX9_addDrawn_11 : decode cX9_addDrawn 11 = .ok (.istore 4, 2) := by decide +kernel
theorem dX9_addDrawn_13 : decode cX9_addDrawn 13 = .ok (.iload 4, 2) := by decide +kernel
theorem dX9_addDrawn_15 : decode cX9_addDrawn 15 = .ok (.iload_n 1, 1) := by decide +kernel
theorem dX9_addDrawn_16 : decode cX9_addDrawn 16 = .ok (.if_icmp .ge 73, 3) := by decide +kernel
theorem dX9_addDrawn_19 : decode cX9_addDrawn 19 = .ok (.aload_n 0, 1) := by decide +kernel
theorem dX9_addDrawn_20 : decode cX9_addDrawn 20 = .ok (.getfield 32, 3) := by decide +kernel
theorem dX9_addDrawn_23 : decode cX9_addDrawn 23 = .ok (.bipush 12, 2) := by decide +kernel
theorem dX9_addDrawn_25 : decode cX9_addDrawn 25 = .ok (.if_icmp .ge 64, 3) := by decide +kernel
theorem dX9_addDrawn_28 : decode cX9_addDrawn 28 = .ok (.aload_n 0, 1) := by decide +kernel
theorem dX9_addDrawn_29 : decode cX9_addDrawn 29 = .ok (.aload_n 0, 1) := by decide +kernel
theorem dX9_addDrawn_30 : decode cX9_addDrawn 30 = .ok (.getfield 27, 3) := by decide +kernel
theorem dX9_addDrawn_33 : decode cX9_addDrawn 33 = .ok (.getfield 51, 3) := by decide +kernel
theorem dX9_addDrawn_36 : decode cX9_addDrawn 36 = .ok (.invokevirtual 55, 3) := by decide +kernel
theorem dX9_addDrawn_39 : decode cX9_addDrawn 39 = .ok (.invokevirtual 61, 3) := by decide +kernel
theorem dX9_addDrawn_42 : decode cX9_addDrawn 42 = .ok (.istore 5, 2) := by decide +kernel
theorem dX9_addDrawn_44 : decode cX9_addDrawn 44 = .ok (.aload_n 0, 1) := by decide +kernel
theorem dX9_addDrawn_45 : decode cX9_addDrawn 45 = .ok (.aload_n 0, 1) := by decide +kernel
theorem dX9_addDrawn_46 : decode cX9_addDrawn 46 = .ok (.getfield 27, 3) := by decide +kernel
theorem dX9_addDrawn_49 : decode cX9_addDrawn 49 = .ok (.getfield 51, 3) := by decide +kernel
theorem dX9_addDrawn_52 : decode cX9_addDrawn 52 = .ok (.invokevirtual 55, 3) := by decide +kernel
theorem dX9_addDrawn_55 : decode cX9_addDrawn 55 = .ok (.invokevirtual 61, 3) := by decide +kernel
theorem dX9_addDrawn_58 : decode cX9_addDrawn 58 = .ok (.istore 6, 2) := by decide +kernel
theorem dX9_addDrawn_60 : decode cX9_addDrawn 60 = .ok (.aload_n 0, 1) := by decide +kernel
theorem dX9_addDrawn_61 : decode cX9_addDrawn 61 = .ok (.iload 5, 2) := by decide +kernel
theorem dX9_addDrawn_63 : decode cX9_addDrawn 63 = .ok (.iload 6, 2) := by decide +kernel
theorem dX9_addDrawn_65 : decode cX9_addDrawn 65 = .ok (.aload_n 0, 1) := by decide +kernel
theorem dX9_addDrawn_66 : decode cX9_addDrawn 66 = .ok (.iconst 2, 1) := by decide +kernel
theorem dX9_addDrawn_67 : decode cX9_addDrawn 67 = .ok (.invokevirtual 61, 3) := by decide +kernel
theorem dX9_addDrawn_70 : decode cX9_addDrawn 70 = .ok (.iconst 1, 1) := by decide +kernel
theorem dX9_addDrawn_71 : decode cX9_addDrawn 71 = .ok (.if_icmp .ne 7, 3) := by decide +kernel
theorem dX9_addDrawn_74 : decode cX9_addDrawn 74 = .ok (.iconst 1, 1) := by decide +kernel
theorem dX9_addDrawn_75 : decode cX9_addDrawn 75 = .ok (.goto 4, 3) := by decide +kernel
theorem dX9_addDrawn_78 : decode cX9_addDrawn 78 = .ok (.iconst 0, 1) := by decide +kernel
theorem dX9_addDrawn_79 : decode cX9_addDrawn 79 = .ok (.invokevirtual 65, 3) := by decide +kernel
theorem dX9_addDrawn_82 : decode cX9_addDrawn 82 = .ok (.pop, 1) := by decide +kernel
theorem dX9_addDrawn_83 : decode cX9_addDrawn 83 = .ok (.iinc 4 1, 3) := by decide +kernel
theorem dX9_addDrawn_86 : decode cX9_addDrawn 86 = .ok (.goto (-73), 3) := by decide +kernel
theorem dX9_addDrawn_89 : decode cX9_addDrawn 89 = .ok (.aload_n 0, 1) := by decide +kernel
theorem dX9_addDrawn_90 : decode cX9_addDrawn 90 = .ok (.getfield 32, 3) := by decide +kernel
theorem dX9_addDrawn_93 : decode cX9_addDrawn 93 = .ok (.iload_n 3, 1) := by decide +kernel
theorem dX9_addDrawn_94 : decode cX9_addDrawn 94 = .ok (.isub, 1) := by decide +kernel
theorem dX9_addDrawn_95 : decode cX9_addDrawn 95 = .ok (.ireturn, 1) := by decide +kernel
theorem dX9_draw_0 : decode cX9_draw 0 = .ok (.aload_n 0, 1) := by decide +kernel
theorem dX9_draw_1 : decode cX9_draw 1 = .ok (.ldc2_w 69, 3) := by decide +kernel
theorem dX9_draw_4 : decode cX9_draw 4 = .ok (.aload_n 0, 1) := by decide +kernel
theorem dX9_draw_5 : decode cX9_draw 5 = .ok (.getfield 48, 3) := by decide +kernel
theorem dX9_draw_8 : decode cX9_draw 8 = .ok (.i2l, 1) := by decide +kernel
theorem dX9_draw_9 : decode cX9_draw 9 = .ok (.lmul, 1) := by decide +kernel
theorem dX9_draw_10 : decode cX9_draw 10 = .ok (.ldc2_w 71, 3) := by decide +kernel
theorem dX9_draw_13 : decode cX9_draw 13 = .ok (.ladd, 1) := by decide +kernel
theorem dX9_draw_14 : decode cX9_draw 14 = .ok (.ldc2_w 73, 3) := by decide +kernel
theorem dX9_draw_17 : decode cX9_draw 17 = .ok (.land, 1) := by decide +kernel
theorem dX9_draw_18 : decode cX9_draw 18 = .ok (.l2i, 1) := by decide +kernel
theorem dX9_draw_19 : decode cX9_draw 19 = .ok (.putfield 48, 3) := by decide +kernel
theorem dX9_draw_22 : decode cX9_draw 22 = .ok (.iload_n 1, 1) := by decide +kernel
theorem dX9_draw_23 : decode cX9_draw 23 = .ok (.iconst 1, 1) := by decide +kernel
theorem dX9_draw_24 : decode cX9_draw 24 = .ok (.if_icmp .ge 7, 3) := by decide +kernel
theorem dX9_draw_27 : decode cX9_draw 27 = .ok (.iconst 0, 1) := by decide +kernel
theorem dX9_draw_28 : decode cX9_draw 28 = .ok (.goto 12, 3) := by decide +kernel
theorem dX9_draw_31 : decode cX9_draw 31 = .ok (.aload_n 0, 1) := by decide +kernel
theorem dX9_draw_32 : decode cX9_draw 32 = .ok (.getfield 48, 3) := by decide +kernel
theorem dX9_draw_35 : decode cX9_draw 35 = .ok (.ldc 75, 2) := by decide +kernel
theorem dX9_draw_37 : decode cX9_draw 37 = .ok (.idiv, 1) := by decide +kernel
theorem dX9_draw_38 : decode cX9_draw 38 = .ok (.iload_n 1, 1) := by decide +kernel
theorem dX9_draw_39 : decode cX9_draw 39 = .ok (.irem, 1) := by decide +kernel
theorem dX9_draw_40 : decode cX9_draw 40 = .ok (.ireturn, 1) := by decide +kernel
theorem dX9_lookAhead_0 : decode cX9_lookAhead 0 = .ok (.iconst 0, 1) := by decide +kernel
theorem dX9_lookAhead_1 : decode cX9_lookAhead 1 = .ok (.istore_n 1, 1) := by decide +kernel
theorem dX9_lookAhead_2 : decode cX9_lookAhead 2 = .ok (.iload_n 1, 1) := by decide +kernel
theorem dX9_lookAhead_3 : decode cX9_lookAhead 3 = .ok (.aload_n 0, 1) := by decide +kernel
theorem dX9_lookAhead_4 : decode cX9_lookAhead 4 = .ok (.getfield 32, 3) := by decide +kernel
theorem dX9_lookAhead_7 : decode cX9_lookAhead 7 = .ok (.if_icmp .ge 40, 3) := by decide +kernel
theorem dX9_lookAhead_10 : decode cX9_lookAhead 10 = .ok (.iload_n 1, 1) := by decide +kernel
theorem dX9_lookAhead_11 : decode cX9_lookAhead 11 = .ok (.bipush 12, 2) := by decide +kernel
theorem dX9_lookAhead_13 : decode cX9_lookAhead 13 = .ok (.if_icmp .ge 34, 3) := by decide +kernel
theorem dX9_lookAhead_16 : decode cX9_lookAhead 16 = .ok (.aload_n 0, 1) := by decide +kernel
theorem dX9_lookAhead_17 : decode cX9_lookAhead 17 = .ok (.getfield 11, 3) := by decide +kernel
theorem dX9_lookAhead_20 : decode cX9_lookAhead 20 = .ok (.iload_n 1, 1) := by decide +kernel
theorem dX9_lookAhead_21 : decode cX9_lookAhead 21 = .ok (.aaload, 1) := by decide +kernel
theorem dX9_lookAhead_22 : decode cX9_lookAhead 22 = .ok (.aload_n 0, 1) := by decide +kernel
theorem dX9_lookAhead_23 : decode cX9_lookAhead 23 = .ok (.getfield 11, 3) := by decide +kernel
theorem dX9_lookAhead_26 : decode cX9_lookAhead 26 = .ok (.iload_n 1, 1) := by decide +kernel
theorem dX9_lookAhead_27 : decode cX9_lookAhead 27 = .ok (.aaload, 1) := by decide +kernel
theorem dX9_lookAhead_28 : decode cX9_lookAhead 28 = .ok (.aload_n 0, 1) := by decide +kernel
theorem dX9_lookAhead_29 : decode cX9_lookAhead 29 = .ok (.getfield 27, 3) := by decide +kernel
theorem dX9_lookAhead_32 : decode cX9_lookAhead 32 = .ok (.getfield 51, 3) := by decide +kernel
theorem dX9_lookAhead_35 : decode cX9_lookAhead 35 = .ok (.invokevirtual 76, 3) := by decide +kernel
theorem dX9_lookAhead_38 : decode cX9_lookAhead 38 = .ok (.putfield 80, 3) := by decide +kernel
theorem dX9_lookAhead_41 : decode cX9_lookAhead 41 = .ok (.iinc 1 1, 3) := by decide +kernel
theorem dX9_lookAhead_44 : decode cX9_lookAhead 44 = .ok (.goto (-42), 3) := by decide +kernel
theorem dX9_lookAhead_47 : decode cX9_lookAhead 47 = .ok (.return_, 1) := by decide +kernel
theorem dX9_isFirst_0 : decode cX9_isFirst 0 = .ok (.aload_n 0, 1) := by decide +kernel
theorem dX9_isFirst_1 : decode cX9_isFirst 1 = .ok (.iload_n 1, 1) := by decide +kernel
theorem dX9_isFirst_2 : decode cX9_isFirst 2 = .ok (.invokevirtual 83, 3) := by decide +kernel
theorem dX9_isFirst_5 : decode cX9_isFirst 5 = .ok (.astore_n 2, 1) := by decide +kernel
theorem dX9_isFirst_6 : decode cX9_isFirst 6 = .ok (.aload_n 2, 1) := by decide +kernel
theorem dX9_isFirst_7 : decode cX9_isFirst 7 = .ok (.ifnonnull 5, 3) := by decide +kernel
theorem dX9_isFirst_10 : decode cX9_isFirst 10 = .ok (.iconst 0, 1) := by decide +kernel
theorem dX9_isFirst_11 : decode cX9_isFirst 11 = .ok (.ireturn, 1) := by decide +kernel
theorem dX9_isFirst_12 : decode cX9_isFirst 12 = .ok (.iconst 0, 1) := by decide +kernel
theorem dX9_isFirst_13 : decode cX9_isFirst 13 = .ok (.istore_n 3, 1) := by decide +kernel
theorem dX9_isFirst_14 : decode cX9_isFirst 14 = .ok (.iload_n 3, 1) := by decide +kernel
theorem dX9_isFirst_15 : decode cX9_isFirst 15 = .ok (.aload_n 0, 1) := by decide +kernel
theorem dX9_isFirst_16 : decode cX9_isFirst 16 = .ok (.getfield 32, 3) := by decide +kernel
theorem dX9_isFirst_19 : decode cX9_isFirst 19 = .ok (.if_icmp .ge 74, 3) := by decide +kernel
theorem dX9_isFirst_22 : decode cX9_isFirst 22 = .ok (.iload_n 3, 1) := by decide +kernel
theorem dX9_isFirst_23 : decode cX9_isFirst 23 = .ok (.bipush 12, 2) := by decide +kernel
theorem dX9_isFirst_25 : decode cX9_isFirst 25 = .ok (.if_icmp .ge 68, 3) := by decide +kernel
theorem dX9_isFirst_28 : decode cX9_isFirst 28 = .ok (.aload_n 0, 1) := by decide +kernel
theorem dX9_isFirst_29 : decode cX9_isFirst 29 = .ok (.getfield 11, 3) := by decide +kernel
theorem dX9_isFirst_32 : decode cX9_isFirst 32 = .ok (.iload_n 3, 1) := by decide +kernel
theorem dX9_isFirst_33 : decode cX9_isFirst 33 = .ok (.aaload, 1) := by decide +kernel
theorem dX9_isFirst_34 : decode cX9_isFirst 34 = .ok (.astore 4, 2) := by decide +kernel
theorem dX9_isFirst_36 : decode cX9_isFirst 36 = .ok (.aload 4, 2) := by decide +kernel
theorem dX9_isFirst_38 : decode cX9_isFirst 38 = .ok (.getfield 87, 3) := by decide +kernel
theorem dX9_isFirst_41 : decode cX9_isFirst 41 = .ok (.aload_n 2, 1) := by decide +kernel
theorem dX9_isFirst_42 : decode cX9_isFirst 42 = .ok (.getfield 87, 3) := by decide +kernel
theorem dX9_isFirst_45 : decode cX9_isFirst 45 = .ok (.if_icmp .ne 16, 3) := by decide +kernel
theorem dX9_isFirst_48 : decode cX9_isFirst 48 = .ok (.iload_n 3, 1) := by decide +kernel
theorem dX9_isFirst_49 : decode cX9_isFirst 49 = .ok (.iload_n 1, 1) := by decide +kernel
theorem dX9_isFirst_50 : decode cX9_isFirst 50 = .ok (.if_icmp .ge 7, 3) := by decide +kernel
theorem dX9_isFirst_53 : decode cX9_isFirst 53 = .ok (.iconst 1, 1) := by decide +kernel
theorem dX9_isFirst_54 : decode cX9_isFirst 54 = .ok (.goto 12, 3) := by decide +kernel
theorem dX9_isFirst_57 : decode cX9_isFirst 57 = .ok (.iconst 0, 1) := by decide +kernel
theorem dX9_isFirst_58 : decode cX9_isFirst 58 = .ok (.goto 8, 3) := by decide +kernel
theorem dX9_isFirst_61 : decode cX9_isFirst 61 = .ok (.aload 4, 2) := by decide +kernel
theorem dX9_isFirst_63 : decode cX9_isFirst 63 = .ok (.getfield 87, 3) := by decide +kernel
theorem dX9_isFirst_66 : decode cX9_isFirst 66 = .ok (.istore 5, 2) := by decide +kernel
theorem dX9_isFirst_68 : decode cX9_isFirst 68 = .ok (.aload 4, 2) := by decide +kernel
theorem dX9_isFirst_70 : decode cX9_isFirst 70 = .ok (.getfield 80, 3) := by decide +kernel
theorem dX9_isFirst_73 : decode cX9_isFirst 73 = .ok (.aload_n 2, 1) := by decide +kernel
theorem dX9_isFirst_74 : decode cX9_isFirst 74 = .ok (.getfield 80, 3) := by decide +kernel
theorem dX9_isFirst_77 : decode cX9_isFirst 77 = .ok (.if_icmp .ne 10, 3) := by decide +kernel
theorem dX9_isFirst_80 : decode cX9_isFirst 80 = .ok (.iload 5, 2) := by decide +kernel
theorem dX9_isFirst_82 : decode cX9_isFirst 82 = .ok (.ifCond .eq 5, 3) := by decide +kernel
theorem dX9_isFirst_85 : decode cX9_isFirst 85 = .ok (.iconst 0, 1) := by decide +kernel
theorem dX9_isFirst_86 : decode cX9_isFirst 86 = .ok (.ireturn, 1) := by decide +kernel
theorem dX9_isFirst_87 : decode cX9_isFirst 87 = .ok (.iinc 3 1, 3) := by decide +kernel
theorem dX9_isFirst_90 : decode cX9_isFirst 90 = .ok (.goto (-76), 3) := by decide +kernel
theorem dX9_isFirst_93 : decode cX9_isFirst 93 = .ok (.iconst 1, 1) := by decide +kernel
theorem dX9_isFirst_94 : decode cX9_isFirst 94 = .ok (.ireturn, 1) := by decide +kernel
theorem dX9_letOut_0 : decode cX9_letOut 0 = .ok (.aload_n 0, 1) := by decide +kernel
theorem dX9_letOut_1 : decode cX9_letOut 1 = .ok (.getfield 32, 3) := by decide +kernel
theorem dX9_letOut_4 : decode cX9_letOut 4 = .ok (.istore_n 1, 1) := by decide +kernel
theorem dX9_letOut_5 : decode cX9_letOut 5 = .ok (.iconst 0, 1) := by decide +kernel
theorem dX9_letOut_6 : decode cX9_letOut 6 = .ok (.istore_n 2, 1) := by decide +kernel
theorem dX9_letOut_7 : decode cX9_letOut 7 = .ok (.iconst 0, 1) := by decide +kernel
theorem dX9_letOut_8 : decode cX9_letOut 8 = .ok (.istore_n 3, 1) := by decide +kernel
theorem dX9_letOut_9 : decode cX9_letOut 9 = .ok (.iload_n 3, 1) := by decide +kernel
theorem dX9_letOut_10 : decode cX9_letOut 10 = .ok (.iload_n 1, 1) := by decide +kernel
theorem dX9_letOut_11 : decode cX9_letOut 11 = .ok (.if_icmp .ge 83, 3) := by decide +kernel
theorem dX9_letOut_14 : decode cX9_letOut 14 = .ok (.iload_n 3, 1) := by decide +kernel
theorem dX9_letOut_15 : decode cX9_letOut 15 = .ok (.bipush 12, 2) := by decide +kernel
theorem dX9_letOut_17 : decode cX9_letOut 17 = .ok (.if_icmp .ge 77, 3) := by decide +kernel
theorem dX9_letOut_20 : decode cX9_letOut 20 = .ok (.aload_n 0, 1) := by decide +kernel
theorem dX9_letOut_21 : decode cX9_letOut 21 = .ok (.getfield 11, 3) := by decide +kernel
theorem dX9_letOut_24 : decode cX9_letOut 24 = .ok (.iload_n 3, 1) := by decide +kernel
theorem dX9_letOut_25 : decode cX9_letOut 25 = .ok (.aaload, 1) := by decide +kernel
theorem dX9_letOut_26 : decode cX9_letOut 26 = .ok (.astore 4, 2) := by decide +kernel
theorem dX9_letOut_28 : decode cX9_letOut 28 = .ok (.aload 4, 2) := by decide +kernel
theorem dX9_letOut_30 : decode cX9_letOut 30 = .ok (.getfield 91, 3) := by decide +kernel
theorem dX9_letOut_33 : decode cX9_letOut 33 = .ok (.ifCond .eq 32, 3) := by decide +kernel
theorem dX9_letOut_36 : decode cX9_letOut 36 = .ok (.aload_n 0, 1) := by decide +kernel
theorem dX9_letOut_37 : decode cX9_letOut 37 = .ok (.aload 4, 2) := by decide +kernel
theorem dX9_letOut_39 : decode cX9_letOut 39 = .ok (.getfield 87, 3) := by decide +kernel
theorem dX9_letOut_42 : decode cX9_letOut 42 = .ok (.invokevirtual 94, 3) := by decide +kernel
theorem dX9_letOut_45 : decode cX9_letOut 45 = .ok (.aload 4, 2) := by decide +kernel
theorem dX9_letOut_47 : decode cX9_letOut 47 = .ok (.aload_n 0, 1) := by decide +kernel
theorem dX9_letOut_48 : decode cX9_letOut 48 = .ok (.getfield 27, 3) := by decide +kernel
theorem dX9_letOut_51 : decode cX9_letOut 51 = .ok (.getfield 39, 3) := by decide +kernel
theorem dX9_letOut_54 : decode cX9_letOut 54 = .ok (.invokevirtual 98, 3) := by decide +kernel
theorem dX9_letOut_57 : decode cX9_letOut 57 = .ok (.iconst 1, 1) := by decide +kernel
theorem dX9_letOut_58 : decode cX9_letOut 58 = .ok (.iadd, 1) := by decide +kernel
theorem dX9_letOut_59 : decode cX9_letOut 59 = .ok (.invokevirtual 101, 3) := by decide +kernel
theorem dX9_letOut_62 : decode cX9_letOut 62 = .ok (.goto 26, 3) := by decide +kernel
theorem dX9_letOut_65 : decode cX9_letOut 65 = .ok (.aload_n 0, 1) := by decide +kernel
theorem dX9_letOut_66 : decode cX9_letOut 66 = .ok (.getfield 11, 3) := by decide +kernel
theorem dX9_letOut_69 : decode cX9_letOut 69 = .ok (.iload_n 3, 1) := by decide +kernel
theorem dX9_letOut_70 : decode cX9_letOut 70 = .ok (.aload_n 0, 1) := by decide +kernel
theorem dX9_letOut_71 : decode cX9_letOut 71 = .ok (.getfield 11, 3) := by decide +kernel
theorem dX9_letOut_74 : decode cX9_letOut 74 = .ok (.iload_n 2, 1) := by decide +kernel
theorem dX9_letOut_75 : decode cX9_letOut 75 = .ok (.aaload, 1) := by decide +kernel
theorem dX9_letOut_76 : decode cX9_letOut 76 = .ok (.aastore, 1) := by decide +kernel
theorem dX9_letOut_77 : decode cX9_letOut 77 = .ok (.aload_n 0, 1) := by decide +kernel
theorem dX9_letOut_78 : decode cX9_letOut 78 = .ok (.getfield 11, 3) := by decide +kernel
theorem dX9_letOut_81 : decode cX9_letOut 81 = .ok (.iload_n 2, 1) := by decide +kernel
theorem dX9_letOut_82 : decode cX9_letOut 82 = .ok (.aload 4, 2) := by decide +kernel
theorem dX9_letOut_84 : decode cX9_letOut 84 = .ok (.aastore, 1) := by decide +kernel
theorem dX9_letOut_85 : decode cX9_letOut 85 = .ok (.iinc 2 1, 3) := by decide +kernel
theorem dX9_letOut_88 : decode cX9_letOut 88 = .ok (.iinc 3 1, 3) := by decide +kernel
theorem dX9_letOut_91 : decode cX9_letOut 91 = .ok (.goto (-82), 3) := by decide +kernel
theorem dX9_letOut_94 : decode cX9_letOut 94 = .ok (.aload_n 0, 1) := by decide +kernel
theorem dX9_letOut_95 : decode cX9_letOut 95 = .ok (.iload_n 2, 1) := by decide +kernel
theorem dX9_letOut_96 : decode cX9_letOut 96 = .ok (.putfield 32, 3) := by decide +kernel
theorem dX9_letOut_99 : decode cX9_letOut 99 = .ok (.iload_n 1, 1) := by decide +kernel
theorem dX9_letOut_100 : decode cX9_letOut 100 = .ok (.iload_n 2, 1) := by decide +kernel
theorem dX9_letOut_101 : decode cX9_letOut 101 = .ok (.isub, 1) := by decide +kernel
theorem dX9_letOut_102 : decode cX9_letOut 102 = .ok (.ireturn, 1) := by decide +kernel
theorem dX10_init_0 : decode cX10_init 0 = .ok (.aload_n 0, 1) := by decide +kernel
theorem dX10_init_1 : decode cX10_init 1 = .ok (.invokespecial 3, 3) := by decide +kernel
theorem dX10_init_4 : decode cX10_init 4 = .ok (.aload_n 0, 1) := by decide +kernel
theorem dX10_init_5 : decode cX10_init 5 = .ok (.aload_n 1, 1) := by decide +kernel
theorem dX10_init_6 : decode cX10_init 6 = .ok (.putfield 9, 3) := by decide +kernel
theorem dX10_init_9 : decode cX10_init 9 = .ok (.aload_n 0, 1) := by decide +kernel
theorem dX10_init_10 : decode cX10_init 10 = .ok (.aload_n 2, 1) := by decide +kernel
theorem dX10_init_11 : decode cX10_init 11 = .ok (.putfield 15, 3) := by decide +kernel
theorem dX10_init_14 : decode cX10_init 14 = .ok (.aload_n 0, 1) := by decide +kernel
theorem dX10_init_15 : decode cX10_init 15 = .ok (.aload_n 3, 1) := by decide +kernel
theorem dX10_init_16 : decode cX10_init 16 = .ok (.putfield 19, 3) := by decide +kernel
theorem dX10_init_19 : decode cX10_init 19 = .ok (.return_, 1) := by decide +kernel
theorem dX10_goOn_0 : decode cX10_goOn 0 = .ok (.aload_n 0, 1) := by decide +kernel
theorem dX10_goOn_1 : decode cX10_goOn 1 = .ok (.invokevirtual 23, 3) := by decide +kernel
theorem dX10_goOn_4 : decode cX10_goOn 4 = .ok (.aload_n 0, 1) := by decide +kernel
theorem dX10_goOn_5 : decode cX10_goOn 5 = .ok (.invokevirtual 26, 3) := by decide +kernel
theorem dX10_goOn_8 : decode cX10_goOn 8 = .ok (.aload_n 0, 1) := by decide +kernel
theorem dX10_goOn_9 : decode cX10_goOn 9 = .ok (.getfield 19, 3) := by decide +kernel
theorem dX10_goOn_12 : decode cX10_goOn 12 = .ok (.invokevirtual 29, 3) := by decide +kernel
theorem dX10_goOn_15 : decode cX10_goOn 15 = .ok (.aload_n 0, 1) := by decide +kernel
theorem dX10_goOn_16 : decode cX10_goOn 16 = .ok (.invokevirtual 35, 3) := by decide +kernel
theorem dX10_goOn_19 : decode cX10_goOn 19 = .ok (.iadd, 1) := by decide +kernel
theorem dX10_goOn_20 : decode cX10_goOn 20 = .ok (.istore_n 1, 1) := by decide +kernel
theorem dX10_goOn_21 : decode cX10_goOn 21 = .ok (.aload_n 0, 1) := by decide +kernel
theorem dX10_goOn_22 : decode cX10_goOn 22 = .ok (.getfield 9, 3) := by decide +kernel
theorem dX10_goOn_25 : decode cX10_goOn 25 = .ok (.dup, 1) := by decide +kernel
theorem dX10_goOn_26 : decode cX10_goOn 26 = .ok (.getfield 38, 3) := by decide +kernel
theorem dX10_goOn_29 : decode cX10_goOn 29 = .ok (.iconst 1, 1) := by decide +kernel
theorem dX10_goOn_30 : decode cX10_goOn 30 = .ok (.iadd, 1) := by decide +kernel
theorem dX10_goOn_31 : decode cX10_goOn 31 = .ok (.putfield 38, 3) := by decide +kernel
theorem dX10_goOn_34 : decode cX10_goOn 34 = .ok (.iload_n 1, 1) := by decide +kernel
theorem dX10_goOn_35 : decode cX10_goOn 35 = .ok (.ireturn, 1) := by decide +kernel
theorem dX10_sendLetters_0 : decode cX10_sendLetters 0 = .ok (.aload_n 0, 1) := by decide +kernel
theorem dX10_sendLetters_1 : decode cX10_sendLetters 1 = .ok (.getfield 9, 3) := by decide +kernel
theorem dX10_sendLetters_4 : decode cX10_sendLetters 4 = .ok (.invokevirtual 44, 3) := by decide +kernel
theorem dX10_sendLetters_7 : decode cX10_sendLetters 7 = .ok (.istore_n 1, 1) := by decide +kernel
theorem dX10_sendLetters_8 : decode cX10_sendLetters 8 = .ok (.iconst 0, 1) := by decide +kernel
theorem dX10_sendLetters_9 : decode cX10_sendLetters 9 = .ok (.istore_n 2, 1) := by decide +kernel
theorem dX10_sendLetters_10 : decode cX10_sendLetters 10 = .ok (.iload_n 2, 1) := by decide +kernel
theorem dX10_sendLetters_11 : decode cX10_sendLetters 11 = .ok (.bipush 8, 2) := by decide +kernel
theorem dX10_sendLetters_13 : decode cX10_sendLetters 13 = .ok (.if_icmp .ge 45, 3) := by decide +kernel
theorem dX10_sendLetters_16 : decode cX10_sendLetters 16 = .ok (.aload_n 0, 1) := by decide +kernel
theorem dX10_sendLetters_17 : decode cX10_sendLetters 17 = .ok (.getfield 15, 3) := by decide +kernel
theorem dX10_sendLetters_20 : decode cX10_sendLetters 20 = .ok (.iload_n 2, 1) := by decide +kernel
theorem dX10_sendLetters_21 : decode cX10_sendLetters 21 = .ok (.invokevirtual 47, 3) := by decide +kernel
theorem dX10_sendLetters_24 : decode cX10_sendLetters 24 = .ok (.astore_n 3, 1) := by decide +kernel
theorem dX10_sendLetters_25 : decode cX10_sendLetters 25 = .ok (.aload_n 3, 1) := by decide +kernel
theorem dX10_sendLetters_26 : decode cX10_sendLetters 26 = .ok (.ifnull 26, 3) := by decide +kernel
theorem dX10_sendLetters_29 : decode cX10_sendLetters 29 = .ok (.aload_n 3, 1) := by decide +kernel
theorem dX10_sendLetters_30 : decode cX10_sendLetters 30 = .ok (.iload_n 1, 1) := by decide +kernel
theorem dX10_sendLetters_31 : decode cX10_sendLetters 31 = .ok (.invokevirtual 53, 3) := by decide +kernel
theorem dX10_sendLetters_34 : decode cX10_sendLetters 34 = .ok (.ifCond .eq 18, 3) := by decide +kernel
theorem dX10_sendLetters_37 : decode cX10_sendLetters 37 = .ok (.aload_n 3, 1) := by decide +kernel
theorem dX10_sendLetters_38 : decode cX10_sendLetters 38 = .ok (.aload_n 0, 1) := by decide +kernel
theorem dX10_sendLetters_39 : decode cX10_sendLetters 39 = .ok (.getfield 15, 3) := by decide +kernel
theorem dX10_sendLetters_42 : decode cX10_sendLetters 42 = .ok (.aload_n 3, 1) := by decide +kernel
theorem dX10_sendLetters_43 : decode cX10_sendLetters 43 = .ok (.getfield 59, 3) := by decide +kernel
theorem dX10_sendLetters_46 : decode cX10_sendLetters 46 = .ok (.invokevirtual 47, 3) := by decide +kernel
theorem dX10_sendLetters_49 : decode cX10_sendLetters 49 = .ok (.invokevirtual 62, 3) := by decide +kernel
theorem dX10_sendLetters_52 : decode cX10_sendLetters 52 = .ok (.iinc 2 1, 3) := by decide +kernel
theorem dX10_sendLetters_55 : decode cX10_sendLetters 55 = .ok (.goto (-45), 3) := by decide +kernel
theorem dX10_sendLetters_58 : decode cX10_sendLetters 58 = .ok (.return_, 1) := by decide +kernel
theorem dX10_moveStrays_0 : decode cX10_moveStrays 0 = .ok (.aload_n 0, 1) := by decide +kernel
theorem dX10_moveStrays_1 : decode cX10_moveStrays 1 = .ok (.getfield 19, 3) := by decide +kernel
theorem dX10_moveStrays_4 : decode cX10_moveStrays 4 = .ok (.invokevirtual 66, 3) := by decide +kernel
theorem dX10_moveStrays_7 : decode cX10_moveStrays 7 = .ok (.iconst 0, 1) := by decide +kernel
theorem dX10_moveStrays_8 : decode cX10_moveStrays 8 = .ok (.istore_n 1, 1) := by decide +kernel
theorem dX10_moveStrays_9 : decode cX10_moveStrays 9 = .ok (.iload_n 1, 1) := by decide +kernel
theorem dX10_moveStrays_10 : decode cX10_moveStrays 10 = .ok (.aload_n 0, 1) := by decide +kernel
theorem dX10_moveStrays_11 : decode cX10_moveStrays 11 = .ok (.getfield 19, 3) := by decide +kernel
theorem dX10_moveStrays_14 : decode cX10_moveStrays 14 = .ok (.getfield 69, 3) := by decide +kernel
theorem dX10_moveStrays_17 : decode cX10_moveStrays 17 = .ok (.if_icmp .ge 66, 3) := by decide +kernel
theorem dX10_moveStrays_20 : decode cX10_moveStrays 20 = .ok (.aload_n 0, 1) := by decide +kernel
theorem dX10_moveStrays_21 : decode cX10_moveStrays 21 = .ok (.getfield 19, 3) := by decide +kernel
theorem dX10_moveStrays_24 : decode cX10_moveStrays 24 = .ok (.iload_n 1, 1) := by decide +kernel
theorem dX10_moveStrays_25 : decode cX10_moveStrays 25 = .ok (.invokevirtual 72, 3) := by decide +kernel
theorem dX10_moveStrays_28 : decode cX10_moveStrays 28 = .ok (.astore_n 2, 1) := by decide +kernel
theorem dX10_moveStrays_29 : decode cX10_moveStrays 29 = .ok (.aload_n 2, 1) := by decide +kernel
theorem dX10_moveStrays_30 : decode cX10_moveStrays 30 = .ok (.ifnull 47, 3) := by decide +kernel
theorem dX10_moveStrays_33 : decode cX10_moveStrays 33 = .ok (.aload_n 0, 1) := by decide +kernel
theorem dX10_moveStrays_34 : decode cX10_moveStrays 34 = .ok (.getfield 19, 3) := by decide +kernel
theorem dX10_moveStrays_37 : decode cX10_moveStrays 37 = .ok (.iload_n 1, 1) := by decide +kernel
theorem dX10_moveStrays_38 : decode cX10_moveStrays 38 = .ok (.invokevirtual 75, 3) := by decide +kernel
theorem dX10_moveStrays_41 : decode cX10_moveStrays 41 = .ok (.ifCond .eq 36, 3) := by decide +kernel
theorem dX10_moveStrays_44 : decode cX10_moveStrays 44 = .ok (.aload_n 0, 1) := by decide +kernel
theorem dX10_moveStrays_45 : decode cX10_moveStrays 45 = .ok (.aload_n 2, 1) := by decide +kernel
theorem dX10_moveStrays_46 : decode cX10_moveStrays 46 = .ok (.getfield 78, 3) := by decide +kernel
theorem dX10_moveStrays_49 : decode cX10_moveStrays 49 = .ok (.invokevirtual 83, 3) := by decide +kernel
theorem dX10_moveStrays_52 : decode cX10_moveStrays 52 = .ok (.ifCond .eq 25, 3) := by decide +kernel
theorem dX10_moveStrays_55 : decode cX10_moveStrays 55 = .ok (.aload_n 0, 1) := by decide +kernel
theorem dX10_moveStrays_56 : decode cX10_moveStrays 56 = .ok (.getfield 9, 3) := by decide +kernel
theorem dX10_moveStrays_59 : decode cX10_moveStrays 59 = .ok (.aload_n 2, 1) := by decide +kernel
theorem dX10_moveStrays_60 : decode cX10_moveStrays 60 = .ok (.getfield 78, 3) := by decide +kernel
theorem dX10_moveStrays_63 : decode cX10_moveStrays 63 = .ok (.invokevirtual 86, 3) := by decide +kernel
theorem dX10_moveStrays_66 : decode cX10_moveStrays 66 = .ok (.aload_n 2, 1) := by decide +kernel
theorem dX10_moveStrays_67 : decode cX10_moveStrays 67 = .ok (.aload_n 0, 1) := by decide +kernel
theorem dX10_moveStrays_68 : decode cX10_moveStrays 68 = .ok (.getfield 9, 3) := by decide +kernel
theorem dX10_moveStrays_71 : decode cX10_moveStrays 71 = .ok (.getfield 90, 3) := by decide +kernel
theorem dX10_moveStrays_74 : decode cX10_moveStrays 74 = .ok (.invokevirtual 94, 3) := by decide +kernel
theorem dX10_moveStrays_77 : decode cX10_moveStrays 77 = .ok (.iinc 1 1, 3) := by decide +kernel
theorem dX10_moveStrays_80 : decode cX10_moveStrays 80 = .ok (.goto (-71), 3) := by decide +kernel
theorem dX10_moveStrays_83 : decode cX10_moveStrays 83 = .ok (.return_, 1) := by decide +kernel
theorem dX10_isFree_0 : decode cX10_isFree 0 = .ok (.aload_n 0, 1) := by decide +kernel
theorem dX10_isFree_1 : decode cX10_isFree 1 = .ok (.getfield 9, 3) := by decide +kernel
theorem dX10_isFree_4 : decode cX10_isFree 4 = .ok (.iload_n 1, 1) := by decide +kernel
theorem dX10_isFree_5 : decode cX10_isFree 5 = .ok (.invokevirtual 98, 3) := by decide +kernel
theorem dX10_isFree_8 : decode cX10_isFree 8 = .ok (.ifCond .eq 5, 3) := by decide +kernel
theorem dX10_isFree_11 : decode cX10_isFree 11 = .ok (.iconst 0, 1) := by decide +kernel
theorem dX10_isFree_12 : decode cX10_isFree 12 = .ok (.ireturn, 1) := by decide +kernel
theorem dX10_isFree_13 : decode cX10_isFree 13 = .ok (.aload_n 0, 1) := by decide +kernel
theorem dX10_isFree_14 : decode cX10_isFree 14 = .ok (.getfield 15, 3) := by decide +kernel
theorem dX10_isFree_17 : decode cX10_isFree 17 = .ok (.aload_n 0, 1) := by decide +kernel
theorem dX10_isFree_18 : decode cX10_isFree 18 = .ok (.getfield 9, 3) := by decide +kernel
theorem dX10_isFree_21 : decode cX10_isFree 21 = .ok (.iload_n 1, 1) := by decide +kernel
theorem dX10_isFree_22 : decode cX10_isFree 22 = .ok (.aload_n 0, 1) := by decide +kernel
theorem dX10_isFree_23 : decode cX10_isFree 23 = .ok (.getfield 9, 3) := by decide +kernel
theorem dX10_isFree_26 : decode cX10_isFree 26 = .ok (.invokevirtual 44, 3) := by decide +kernel
theorem dX10_isFree_29 : decode cX10_isFree 29 = .ok (.invokevirtual 101, 3) := by decide +kernel
theorem dX10_isFree_32 : decode cX10_isFree 32 = .ok (.invokevirtual 47, 3) := by decide +kernel
theorem dX10_isFree_35 : decode cX10_isFree 35 = .ok (.astore_n 2, 1) := by decide +kernel
theorem dX10_isFree_36 : decode cX10_isFree 36 = .ok (.aload_n 2, 1) := by decide +kernel
theorem dX10_isFree_37 : decode cX10_isFree 37 = .ok (.ifnull 19, 3) := by decide +kernel
theorem dX10_isFree_40 : decode cX10_isFree 40 = .ok (.aload_n 2, 1) := by decide +kernel
theorem dX10_isFree_41 : decode cX10_isFree 41 = .ok (.getfield 105, 3) := by decide +kernel
theorem dX10_isFree_44 : decode cX10_isFree 44 = .ok (.iconst 4, 1) := by decide +kernel
theorem dX10_isFree_45 : decode cX10_isFree 45 = .ok (.if_icmp .eq 15, 3) := by decide +kernel
theorem dX10_isFree_48 : decode cX10_isFree 48 = .ok (.aload_n 2, 1) := by decide +kernel
theorem dX10_isFree_49 : decode cX10_isFree 49 = .ok (.iload_n 1, 1) := by decide +kernel
theorem dX10_isFree_50 : decode cX10_isFree 50 = .ok (.invokevirtual 108, 3) := by decide +kernel
theorem dX10_isFree_53 : decode cX10_isFree 53 = .ok (.ifCond .ne 7, 3) := by decide +kernel
theorem dX10_isFree_56 : decode cX10_isFree 56 = .ok (.iconst 1, 1) := by decide +kernel
theorem dX10_isFree_57 : decode cX10_isFree 57 = .ok (.goto 4, 3) := by decide +kernel
theorem dX10_isFree_60 : decode cX10_isFree 60 = .ok (.iconst 0, 1) := by decide +kernel
theorem dX10_isFree_61 : decode cX10_isFree 61 = .ok (.ireturn, 1) := by decide +kernel
theorem dX10_moveLetters_0 : decode cX10_moveLetters 0 = .ok (.iconst 0, 1) := by decide +kernel
theorem dX10_moveLetters_1 : decode cX10_moveLetters 1 = .ok (.istore_n 1, 1) := by decide +kernel
theorem dX10_moveLetters_2 : decode cX10_moveLetters 2 = .ok (.iconst 0, 1) := by decide +kernel
theorem dX10_moveLetters_3 : decode cX10_moveLetters 3 = .ok (.istore_n 2, 1) := by decide +kernel
theorem dX10_moveLetters_4 : decode cX10_moveLetters 4 = .ok (.iload_n 2, 1) := by decide +kernel
theorem dX10_moveLetters_5 : decode cX10_moveLetters 5 = .ok (.bipush 8, 2) := by decide +kernel
theorem dX10_moveLetters_7 : decode cX10_moveLetters 7 = .ok (.if_icmp .ge 48, 3) := by decide +kernel
theorem dX10_moveLetters_10 : decode cX10_moveLetters 10 = .ok (.aload_n 0, 1) := by decide +kernel
theorem dX10_moveLetters_11 : decode cX10_moveLetters 11 = .ok (.getfield 15, 3) := by decide +kernel
theorem dX10_moveLetters_14 : decode cX10_moveLetters 14 = .ok (.iload_n 2, 1) := by decide +kernel
theorem dX10_moveLetters_15 : decode cX10_moveLetters 15 = .ok (.invokevirtual 47, 3) := by decide +kernel
theorem dX10_moveLetters_18 : decode cX10_moveLetters 18 = .ok (.astore_n 3, 1) := by decide +kernel
theorem dX10_moveLetters_19 : decode cX10_moveLetters 19 = .ok (.aload_n 3, 1) := by decide +kernel
theorem dX10_moveLetters_20 : decode cX10_moveLetters 20 = .ok (.ifnull 29, 3) := by decide +kernel
theorem dX10_moveLetters_23 : decode cX10_moveLetters 23 = .ok (.aload_n 3, 1) := by decide +kernel
theorem dX10_moveLetters_24 : decode cX10_moveLetters 24 = .ok (.aload_n 0, 1) := by decide +kernel
theorem dX10_moveLetters_25 : decode cX10_moveLetters 25 = .ok (.getfield 9, 3) := by decide +kernel
theorem dX10_moveLetters_28 : decode cX10_moveLetters 28 = .ok (.invokevirtual 111, 3) := by decide +kernel
theorem dX10_moveLetters_31 : decode cX10_moveLetters 31 = .ok (.iload_n 1, 1) := by decide +kernel
theorem dX10_moveLetters_32 : decode cX10_moveLetters 32 = .ok (.aload_n 3, 1) := by decide +kernel
theorem dX10_moveLetters_33 : decode cX10_moveLetters 33 = .ok (.aload_n 0, 1) := by decide +kernel
theorem dX10_moveLetters_34 : decode cX10_moveLetters 34 = .ok (.getfield 15, 3) := by decide +kernel
theorem dX10_moveLetters_37 : decode cX10_moveLetters 37 = .ok (.aload_n 3, 1) := by decide +kernel
theorem dX10_moveLetters_38 : decode cX10_moveLetters 38 = .ok (.getfield 59, 3) := by decide +kernel
theorem dX10_moveLetters_41 : decode cX10_moveLetters 41 = .ok (.invokevirtual 47, 3) := by decide +kernel
theorem dX10_moveLetters_44 : decode cX10_moveLetters 44 = .ok (.invokevirtual 115, 3) := by decide +kernel
theorem dX10_moveLetters_47 : decode cX10_moveLetters 47 = .ok (.iadd, 1) := by decide +kernel
theorem dX10_moveLetters_48 : decode cX10_moveLetters 48 = .ok (.istore_n 1, 1) := by decide +kernel
theorem dX10_moveLetters_49 : decode cX10_moveLetters 49 = .ok (.iinc 2 1, 3) := by decide +kernel
theorem dX10_moveLetters_52 : decode cX10_moveLetters 52 = .ok (.goto (-48), 3) := by decide +kernel
theorem dX10_moveLetters_55 : decode cX10_moveLetters 55 = .ok (.iload_n 1, 1) := by decide +kernel
theorem dX10_moveLetters_56 : decode cX10_moveLetters 56 = .ok (.ireturn, 1) := by decide +kernel
theorem dX11_init_0 : decode cX11_init 0 = .ok (.aload_n 0, 1) := by decide +kernel
theorem dX11_init_1 : decode cX11_init 1 = .ok (.invokespecial 1, 3) := by decide +kernel
theorem dX11_init_4 : decode cX11_init 4 = .ok (.aload_n 0, 1) := by decide +kernel
theorem dX11_init_5 : decode cX11_init 5 = .ok (.new 7, 3) := by decide +kernel
theorem dX11_init_8 : decode cX11_init 8 = .ok (.dup, 1) := by decide +kernel
theorem dX11_init_9 : decode cX11_init 9 = .ok (.invokespecial 9, 3) := by decide +kernel
theorem dX11_init_12 : decode cX11_init 12 = .ok (.putfield 10, 3) := by decide +kernel
theorem dX11_init_15 : decode cX11_init 15 = .ok (.aload_n 0, 1) := by decide +kernel
theorem dX11_init_16 : decode cX11_init 16 = .ok (.new 16, 3) := by decide +kernel
theorem dX11_init_19 : decode cX11_init 19 = .ok (.dup, 1) := by decide +kernel
theorem dX11_init_20 : decode cX11_init 20 = .ok (.invokespecial 18, 3) := by decide +kernel
theorem dX11_init_23 : decode cX11_init 23 = .ok (.putfield 19, 3) := by decide +kernel
theorem dX11_init_26 : decode cX11_init 26 = .ok (.aload_n 0, 1) := by decide +kernel
theorem dX11_init_27 : decode cX11_init 27 = .ok (.new 23, 3) := by decide +kernel
theorem dX11_init_30 : decode cX11_init 30 = .ok (.dup, 1) := by decide +kernel
theorem dX11_init_31 : decode cX11_init 31 = .ok (.invokespecial 25, 3) := by decide +kernel
theorem dX11_init_34 : decode cX11_init 34 = .ok (.putfield 26, 3) := by decide +kernel
theorem dX11_init_37 : decode cX11_init 37 = .ok (.aload_n 0, 1) := by decide +kernel
theorem dX11_init_38 : decode cX11_init 38 = .ok (.new 30, 3) := by decide +kernel
theorem dX11_init_41 : decode cX11_init 41 = .ok (.dup, 1) := by decide +kernel
theorem dX11_init_42 : decode cX11_init 42 = .ok (.aload_n 0, 1) := by decide +kernel
theorem dX11_init_43 : decode cX11_init 43 = .ok (.getfield 19, 3) := by decide +kernel
theorem dX11_init_46 : decode cX11_init 46 = .ok (.invokespecial 32, 3) := by decide +kernel
theorem dX11_init_49 : decode cX11_init 49 = .ok (.putfield 35, 3) := by decide +kernel
theorem dX11_init_52 : decode cX11_init 52 = .ok (.aload_n 0, 1) := by decide +kernel
theorem dX11_init_53 : decode cX11_init 53 = .ok (.new 39, 3) := by decide +kernel
theorem dX11_init_56 : decode cX11_init 56 = .ok (.dup, 1) := by decide +kernel
theorem dX11_init_57 : decode cX11_init 57 = .ok (.aload_n 0, 1) := by decide +kernel
theorem dX11_init_58 : decode cX11_init 58 = .ok (.getfield 19, 3) := by decide +kernel
theorem dX11_init_61 : decode cX11_init 61 = .ok (.invokespecial 41, 3) := by decide +kernel
theorem dX11_init_64 : decode cX11_init 64 = .ok (.putfield 42, 3) := by decide +kernel
theorem dX11_init_67 : decode cX11_init 67 = .ok (.aload_n 0, 1) := by decide +kernel
theorem dX11_init_68 : decode cX11_init 68 = .ok (.new 46, 3) := by decide +kernel
theorem dX11_init_71 : decode cX11_init 71 = .ok (.dup, 1) := by decide +kernel
theorem dX11_init_72 : decode cX11_init 72 = .ok (.aload_n 0, 1) := by decide +kernel
theorem dX11_init_73 : decode cX11_init 73 = .ok (.getfield 19, 3) := by decide +kernel
theorem dX11_init_76 : decode cX11_init 76 = .ok (.aload_n 0, 1) := by decide +kernel
theorem dX11_init_77 : decode cX11_init 77 = .ok (.getfield 26, 3) := by decide +kernel
theorem dX11_init_80 : decode cX11_init 80 = .ok (.aload_n 0, 1) := by decide +kernel
theorem dX11_init_81 : decode cX11_init 81 = .ok (.getfield 42, 3) := by decide +kernel
theorem dX11_init_84 : decode cX11_init 84 = .ok (.invokespecial 48, 3) := by decide +kernel
theorem dX11_init_87 : decode cX11_init 87 = .ok (.putfield 51, 3) := by decide +kernel
theorem dX11_init_90 : decode cX11_init 90 = .ok (.aload_n 0, 1) := by decide +kernel
theorem dX11_init_91 : decode cX11_init 91 = .ok (.iconst 0, 1) := by decide +kernel
theorem dX11_init_92 : decode cX11_init 92 = .ok (.putfield 55, 3) := by decide +kernel
theorem dX11_init_95 : decode cX11_init 95 = .ok (.return_, 1) := by decide +kernel
theorem dX11_letter_0 : decode cX11_letter 0 = .ok (.iload_n 1, 1) := by decide +kernel
theorem dX11_letter_1 : decode cX11_letter 1 = .ok (.bipush 32, 2) := by decide +kernel
theorem dX11_letter_3 : decode cX11_letter 3 = .ok (.if_icmp .lt 9, 3) := by decide +kernel
theorem dX11_letter_6 : decode cX11_letter 6 = .ok (.iload_n 1, 1) := by decide +kernel
theorem dX11_letter_7 : decode cX11_letter 7 = .ok (.bipush 126, 2) := by decide +kernel
theorem dX11_letter_9 : decode cX11_letter 9 = .ok (.if_icmp .le 6, 3) := by decide +kernel
theorem dX11_letter_12 : decode cX11_letter 12 = .ok (.bipush (-102), 2) := by decide +kernel
theorem dX11_letter_14 : decode cX11_letter 14 = .ok (.ireturn, 1) := by decide +kernel
theorem dX11_letter_15 : decode cX11_letter 15 = .ok (.aload_n 0, 1) := by decide +kernel
theorem dX11_letter_16 : decode cX11_letter 16 = .ok (.getfield 10, 3) := by decide +kernel
theorem dX11_letter_19 : decode cX11_letter 19 = .ok (.iload_n 1, 1) := by decide +kernel
theorem dX11_letter_20 : decode cX11_letter 20 = .ok (.invokevirtual 59, 3) := by decide +kernel
theorem dX11_letter_23 : decode cX11_letter 23 = .ok (.ifCond .eq 13, 3) := by decide +kernel
theorem dX11_letter_26 : decode cX11_letter 26 = .ok (.aload_n 0, 1) := by decide +kernel
theorem dX11_letter_27 : decode cX11_letter 27 = .ok (.getfield 10, 3) := by decide +kernel
theorem dX11_letter_30 : decode cX11_letter 30 = .ok (.getfield 63, 3) := by decide +kernel
theorem dX11_letter_33 : decode cX11_letter 33 = .ok (.goto 5, 3) := by decide +kernel
theorem dX11_letter_36 : decode cX11_letter 36 = .ok (.bipush (-104), 2) := by decide +kernel
theorem dX11_letter_38 : decode cX11_letter 38 = .ok (.ireturn, 1) := by decide +kernel
theorem dX11_blank_0 : decode cX11_blank 0 = .ok (.aload_n 0, 1) := by decide +kernel
theorem dX11_blank_1 : decode cX11_blank 1 = .ok (.getfield 10, 3) := by decide +kernel
theorem dX11_blank_4 : decode cX11_blank 4 = .ok (.getfield 63, 3) := by decide +kernel
theorem dX11_blank_7 : decode cX11_blank 7 = .ok (.istore_n 1, 1) := by decide +kernel
theorem dX11_blank_8 : decode cX11_blank 8 = .ok (.aload_n 0, 1) := by decide +kernel
theorem dX11_blank_9 : decode cX11_blank 9 = .ok (.getfield 10, 3) := by decide +kernel
theorem dX11_blank_12 : decode cX11_blank 12 = .ok (.iconst 0, 1) := by decide +kernel
theorem dX11_blank_13 : decode cX11_blank 13 = .ok (.putfield 63, 3) := by decide +kernel
theorem dX11_blank_16 : decode cX11_blank 16 = .ok (.iload_n 1, 1) := by decide +kernel
theorem dX11_blank_17 : decode cX11_blank 17 = .ok (.ireturn, 1) := by decide +kernel
theorem dX11_fault_0 : decode cX11_fault 0 = .ok (.aload_n 0, 1) := by decide +kernel
theorem dX11_fault_1 : decode cX11_fault 1 = .ok (.getfield 10, 3) := by decide +kernel
theorem dX11_fault_4 : decode cX11_fault 4 = .ok (.invokevirtual 66, 3) := by decide +kernel
theorem dX11_fault_7 : decode cX11_fault 7 = .ok (.ireturn, 1) := by decide +kernel
theorem dX11_chip_0 : decode cX11_chip 0 = .ok (.aload_n 0, 1) := by decide +kernel
theorem dX11_chip_1 : decode cX11_chip 1 = .ok (.getfield 10, 3) := by decide +kernel
theorem dX11_chip_4 : decode cX11_chip 4 = .ok (.invokevirtual 66, 3) := by decide +kernel
theorem dX11_chip_7 : decode cX11_chip 7 = .ok (.pop, 1) := by decide +kernel
theorem dX11_chip_8 : decode cX11_chip 8 = .ok (.aload_n 0, 1) := by decide +kernel
theorem dX11_chip_9 : decode cX11_chip 9 = .ok (.getfield 10, 3) := by decide +kernel
theorem dX11_chip_12 : decode cX11_chip 12 = .ok (.getfield 70, 3) := by decide +kernel
theorem dX11_chip_15 : decode cX11_chip 15 = .ok (.ifCond .ne 6, 3) := by decide +kernel
theorem dX11_chip_18 : decode cX11_chip 18 = .ok (.bipush (-103), 2) := by decide +kernel
theorem dX11_chip_20 : decode cX11_chip 20 = .ok (.ireturn, 1) := by decide +kernel
theorem dX11_chip_21 : decode cX11_chip 21 = .ok (.aload_n 0, 1) := by decide +kernel
theorem dX11_chip_22 : decode cX11_chip 22 = .ok (.getfield 19, 3) := by decide +kernel
theorem dX11_chip_25 : decode cX11_chip 25 = .ok (.aload_n 0, 1) := by decide +kernel
theorem dX11_chip_26 : decode cX11_chip 26 = .ok (.getfield 10, 3) := by decide +kernel
theorem dX11_chip_29 : decode cX11_chip 29 = .ok (.invokevirtual 74, 3) := by decide +kernel
theorem dX11_chip_32 : decode cX11_chip 32 = .ok (.aload_n 0, 1) := by decide +kernel
theorem dX11_chip_33 : decode cX11_chip 33 = .ok (.getfield 26, 3) := by decide +kernel
theorem dX11_chip_36 : decode cX11_chip 36 = .ok (.invokevirtual 78, 3) := by decide +kernel
theorem dX11_chip_39 : decode cX11_chip 39 = .ok (.aload_n 0, 1) := by decide +kernel
theorem dX11_chip_40 : decode cX11_chip 40 = .ok (.getfield 42, 3) := by decide +kernel
theorem dX11_chip_43 : decode cX11_chip 43 = .ok (.invokevirtual 81, 3) := by decide +kernel
theorem dX11_chip_46 : decode cX11_chip 46 = .ok (.aload_n 0, 1) := by decide +kernel
theorem dX11_chip_47 : decode cX11_chip 47 = .ok (.getfield 10, 3) := by decide +kernel
theorem dX11_chip_50 : decode cX11_chip 50 = .ok (.iconst 0, 1) := by decide +kernel
theorem dX11_chip_51 : decode cX11_chip 51 = .ok (.putfield 63, 3) := by decide +kernel
theorem dX11_chip_54 : decode cX11_chip 54 = .ok (.aload_n 0, 1) := by decide +kernel
theorem dX11_chip_55 : decode cX11_chip 55 = .ok (.dup, 1) := by decide +kernel
theorem dX11_chip_56 : decode cX11_chip 56 = .ok (.getfield 55, 3) := by decide +kernel
theorem dX11_chip_59 : decode cX11_chip 59 = .ok (.iconst 1, 1) := by decide +kernel
theorem dX11_chip_60 : decode cX11_chip 60 = .ok (.iadd, 1) := by decide +kernel
theorem dX11_chip_61 : decode cX11_chip 61 = .ok (.putfield 55, 3) := by decide +kernel
theorem dX11_chip_64 : decode cX11_chip 64 = .ok (.aload_n 0, 1) := by decide +kernel
theorem dX11_chip_65 : decode cX11_chip 65 = .ok (.getfield 19, 3) := by decide +kernel
theorem dX11_chip_68 : decode cX11_chip 68 = .ok (.getfield 82, 3) := by decide +kernel
theorem dX11_chip_71 : decode cX11_chip 71 = .ok (.invokevirtual 86, 3) := by decide +kernel
theorem dX11_chip_74 : decode cX11_chip 74 = .ok (.ireturn, 1) := by decide +kernel
theorem dX11_about_0 : decode cX11_about 0 = .ok (.iload_n 1, 1) := by decide +kernel
theorem dX11_about_1 : decode cX11_about 1 = .ok (.ifCond .lt 9, 3) := by decide +kernel
theorem dX11_about_4 : decode cX11_about 4 = .ok (.iload_n 1, 1) := by decide +kernel
theorem dX11_about_5 : decode cX11_about 5 = .ok (.bipush 7, 2) := by decide +kernel
theorem dX11_about_7 : decode cX11_about 7 = .ok (.if_icmp .le 6, 3) := by decide +kernel
theorem dX11_about_10 : decode cX11_about 10 = .ok (.bipush (-102), 2) := by decide +kernel
theorem dX11_about_12 : decode cX11_about 12 = .ok (.ireturn, 1) := by decide +kernel
theorem dX11_about_13 : decode cX11_about 13 = .ok (.aload_n 0, 1) := by decide +kernel
theorem dX11_about_14 : decode cX11_about 14 = .ok (.getfield 19, 3) := by decide +kernel
theorem dX11_about_17 : decode cX11_about 17 = .ok (.invokevirtual 91, 3) := by decide +kernel
theorem dX11_about_20 : decode cX11_about 20 = .ok (.ifCond .eq 14, 3) := by decide +kernel
theorem dX11_about_23 : decode cX11_about 23 = .ok (.aload_n 0, 1) := by decide +kernel
theorem dX11_about_24 : decode cX11_about 24 = .ok (.getfield 19, 3) := by decide +kernel
theorem dX11_about_27 : decode cX11_about 27 = .ok (.iload_n 1, 1) := by decide +kernel
theorem dX11_about_28 : decode cX11_about 28 = .ok (.invokevirtual 95, 3) := by decide +kernel
theorem dX11_about_31 : decode cX11_about 31 = .ok (.goto 5, 3) := by decide +kernel
theorem dX11_about_34 : decode cX11_about 34 = .ok (.bipush (-103), 2) := by decide +kernel
theorem dX11_about_36 : decode cX11_about 36 = .ok (.ireturn, 1) := by decide +kernel
theorem dX11_link_0 : decode cX11_link 0 = .ok (.aload_n 0, 1) := by decide +kernel
theorem dX11_link_1 : decode cX11_link 1 = .ok (.getfield 19, 3) := by decide +kernel
theorem dX11_link_4 : decode cX11_link 4 = .ok (.getfield 82, 3) := by decide +kernel
theorem dX11_link_7 : decode cX11_link 7 = .ok (.iload_n 1, 1) := by decide +kernel
theorem dX11_link_8 : decode cX11_link 8 = .ok (.invokevirtual 99, 3) := by decide +kernel
theorem dX11_link_11 : decode cX11_link 11 = .ok (.ifCond .ne 6, 3) := by decide +kernel
theorem dX11_link_14 : decode cX11_link 14 = .ok (.bipush (-101), 2) := by decide +kernel
theorem dX11_link_16 : decode cX11_link 16 = .ok (.ireturn, 1) := by decide +kernel
theorem dX11_link_17 : decode cX11_link 17 = .ok (.iload_n 2, 1) := by decide +kernel
theorem dX11_link_18 : decode cX11_link 18 = .ok (.ifCond .lt 8, 3) := by decide +kernel
theorem dX11_link_21 : decode cX11_link 21 = .ok (.iload_n 2, 1) := by decide +kernel
theorem dX11_link_22 : decode cX11_link 22 = .ok (.iconst 3, 1) := by decide +kernel
theorem dX11_link_23 : decode cX11_link 23 = .ok (.if_icmp .le 8, 3) := by decide +kernel
theorem dX11_link_26 : decode cX11_link 26 = .ok (.bipush (-102), 2) := by decide +kernel
theorem dX11_link_28 : decode cX11_link 28 = .ok (.goto 12, 3) := by decide +kernel
theorem dX11_link_31 : decode cX11_link 31 = .ok (.aload_n 0, 1) := by decide +kernel
theorem dX11_link_32 : decode cX11_link 32 = .ok (.getfield 19, 3) := by decide +kernel
theorem dX11_link_35 : decode cX11_link 35 = .ok (.iload_n 1, 1) := by decide +kernel
theorem dX11_link_36 : decode cX11_link 36 = .ok (.iload_n 2, 1) := by decide +kernel
theorem dX11_link_37 : decode cX11_link 37 = .ok (.invokevirtual 102, 3) := by decide +kernel
theorem dX11_link_40 : decode cX11_link 40 = .ok (.ireturn, 1) := by decide +kernel
theorem dX11_slot_0 : decode cX11_slot 0 = .ok (.aload_n 0, 1) := by decide +kernel
theorem dX11_slot_1 : decode cX11_slot 1 = .ok (.getfield 19, 3) := by decide +kernel
theorem dX11_slot_4 : decode cX11_slot 4 = .ok (.getfield 82, 3) := by decide +kernel
theorem dX11_slot_7 : decode cX11_slot 7 = .ok (.iload_n 1, 1) := by decide +kernel
theorem dX11_slot_8 : decode cX11_slot 8 = .ok (.invokevirtual 99, 3) := by decide +kernel
theorem dX11_slot_11 : decode cX11_slot 11 = .ok (.ifCond .eq 18, 3) := by decide +kernel
theorem dX11_slot_14 : decode cX11_slot 14 = .ok (.iload_n 2, 1) := by decide +kernel
theorem dX11_slot_15 : decode cX11_slot 15 = .ok (.ifCond .lt 14, 3) := by decide +kernel
theorem dX11_slot_18 : decode cX11_slot 18 = .ok (.iload_n 2, 1) := by decide +kernel
theorem dX11_slot_19 : decode cX11_slot 19 = .ok (.aload_n 0, 1) := by decide +kernel
theorem dX11_slot_20 : decode cX11_slot 20 = .ok (.getfield 19, 3) := by decide +kernel
theorem dX11_slot_23 : decode cX11_slot 23 = .ok (.getfield 106, 3) := by decide +kernel
theorem dX11_slot_26 : decode cX11_slot 26 = .ok (.if_icmp .lt 6, 3) := by decide +kernel
theorem dX11_slot_29 : decode cX11_slot 29 = .ok (.bipush (-101), 2) := by decide +kernel
theorem dX11_slot_31 : decode cX11_slot 31 = .ok (.ireturn, 1) := by decide +kernel
theorem dX11_slot_32 : decode cX11_slot 32 = .ok (.aload_n 0, 1) := by decide +kernel
theorem dX11_slot_33 : decode cX11_slot 33 = .ok (.getfield 19, 3) := by decide +kernel
theorem dX11_slot_36 : decode cX11_slot 36 = .ok (.iload_n 1, 1) := by decide +kernel
theorem dX11_slot_37 : decode cX11_slot 37 = .ok (.iload_n 2, 1) := by decide +kernel
theorem dX11_slot_38 : decode cX11_slot 38 = .ok (.invokevirtual 109, 3) := by decide +kernel
theorem dX11_slot_41 : decode cX11_slot 41 = .ok (.ireturn, 1) := by decide +kernel
theorem dX11_cut_0 : decode cX11_cut 0 = .ok (.aload_n 0, 1) := by decide +kernel
theorem dX11_cut_1 : decode cX11_cut 1 = .ok (.getfield 19, 3) := by decide +kernel
theorem dX11_cut_4 : decode cX11_cut 4 = .ok (.getfield 82, 3) := by decide +kernel
theorem dX11_cut_7 : decode cX11_cut 7 = .ok (.iload_n 1, 1) := by decide +kernel
theorem dX11_cut_8 : decode cX11_cut 8 = .ok (.invokevirtual 112, 3) := by decide +kernel
theorem dX11_cut_11 : decode cX11_cut 11 = .ok (.ifCond .ne 6, 3) := by decide +kernel
theorem dX11_cut_14 : decode cX11_cut 14 = .ok (.bipush (-101), 2) := by decide +kernel
theorem dX11_cut_16 : decode cX11_cut 16 = .ok (.ireturn, 1) := by decide +kernel
theorem dX11_cut_17 : decode cX11_cut 17 = .ok (.aload_n 0, 1) := by decide +kernel
theorem dX11_cut_18 : decode cX11_cut 18 = .ok (.getfield 19, 3) := by decide +kernel
theorem dX11_cut_21 : decode cX11_cut 21 = .ok (.iload_n 1, 1) := by decide +kernel
theorem dX11_cut_22 : decode cX11_cut 22 = .ok (.invokevirtual 115, 3) := by decide +kernel
theorem dX11_cut_25 : decode cX11_cut 25 = .ok (.iload_n 2, 1) := by decide +kernel
theorem dX11_cut_26 : decode cX11_cut 26 = .ok (.if_icmp .eq 14, 3) := by decide +kernel
theorem dX11_cut_29 : decode cX11_cut 29 = .ok (.aload_n 0, 1) := by decide +kernel
theorem dX11_cut_30 : decode cX11_cut 30 = .ok (.getfield 19, 3) := by decide +kernel
theorem dX11_cut_33 : decode cX11_cut 33 = .ok (.iload_n 1, 1) := by decide +kernel
theorem dX11_cut_34 : decode cX11_cut 34 = .ok (.invokevirtual 118, 3) := by decide +kernel
theorem dX11_cut_37 : decode cX11_cut 37 = .ok (.ifCond .le 6, 3) := by decide +kernel
theorem dX11_cut_40 : decode cX11_cut 40 = .ok (.bipush (-103), 2) := by decide +kernel
theorem dX11_cut_42 : decode cX11_cut 42 = .ok (.ireturn, 1) := by decide +kernel
theorem dX11_cut_43 : decode cX11_cut 43 = .ok (.aload_n 0, 1) := by decide +kernel
theorem dX11_cut_44 : decode cX11_cut 44 = .ok (.getfield 19, 3) := by decide +kernel
theorem dX11_cut_47 : decode cX11_cut 47 = .ok (.iload_n 1, 1) := by decide +kernel
theorem dX11_cut_48 : decode cX11_cut 48 = .ok (.iload_n 2, 1) := by decide +kernel
theorem dX11_cut_49 : decode cX11_cut 49 = .ok (.invokevirtual 121, 3) := by decide +kernel
theorem dX11_cut_52 : decode cX11_cut 52 = .ok (.aload_n 0, 1) := by decide +kernel
theorem dX11_cut_53 : decode cX11_cut 53 = .ok (.getfield 19, 3) := by decide +kernel
theorem dX11_cut_56 : decode cX11_cut 56 = .ok (.invokevirtual 125, 3) := by decide +kernel
theorem dX11_cut_59 : decode cX11_cut 59 = .ok (.ireturn, 1) := by decide +kernel
theorem dX11_open_0 : decode cX11_open 0 = .ok (.aload_n 0, 1) := by decide +kernel
theorem dX11_open_1 : decode cX11_open 1 = .ok (.getfield 19, 3) := by decide +kernel
theorem dX11_open_4 : decode cX11_open 4 = .ok (.invokevirtual 91, 3) := by decide +kernel
theorem dX11_open_7 : decode cX11_open 7 = .ok (.ifCond .ne 6, 3) := by decide +kernel
theorem dX11_open_10 : decode cX11_open 10 = .ok (.bipush (-103), 2) := by decide +kernel
theorem dX11_open_12 : decode cX11_open 12 = .ok (.ireturn, 1) := by decide +kernel
theorem dX11_open_13 : decode cX11_open 13 = .ok (.aload_n 0, 1) := by decide +kernel
theorem dX11_open_14 : decode cX11_open 14 = .ok (.getfield 19, 3) := by decide +kernel
theorem dX11_open_17 : decode cX11_open 17 = .ok (.getfield 82, 3) := by decide +kernel
theorem dX11_open_20 : decode cX11_open 20 = .ok (.iload_n 2, 1) := by decide +kernel
theorem dX11_open_21 : decode cX11_open 21 = .ok (.invokevirtual 128, 3) := by decide +kernel
theorem dX11_open_24 : decode cX11_open 24 = .ok (.ifCond .eq 22, 3) := by decide +kernel
theorem dX11_open_27 : decode cX11_open 27 = .ok (.aload_n 0, 1) := by decide +kernel
theorem dX11_open_28 : decode cX11_open 28 = .ok (.getfield 19, 3) := by decide +kernel
theorem dX11_open_31 : decode cX11_open 31 = .ok (.getfield 82, 3) := by decide +kernel
theorem dX11_open_34 : decode cX11_open 34 = .ok (.iload_n 3, 1) := by decide +kernel
theorem dX11_open_35 : decode cX11_open 35 = .ok (.invokevirtual 128, 3) := by decide +kernel
theorem dX11_open_38 : decode cX11_open 38 = .ok (.ifCond .eq 8, 3) := by decide +kernel
theorem dX11_open_41 : decode cX11_open 41 = .ok (.iload_n 2, 1) := by decide +kernel
theorem dX11_open_42 : decode cX11_open 42 = .ok (.iload_n 3, 1) := by decide +kernel
theorem dX11_open_43 : decode cX11_open 43 = .ok (.if_icmp .ne 6, 3) := by decide +kernel
theorem dX11_open_46 : decode cX11_open 46 = .ok (.bipush (-101), 2) := by decide +kernel
theorem dX11_open_48 : decode cX11_open 48 = .ok (.ireturn, 1) := by decide +kernel
theorem dX11_open_49 : decode cX11_open 49 = .ok (.iload_n 1, 1) := by decide +kernel
theorem dX11_open_50 : decode cX11_open 50 = .ok (.invokestatic 131, 3) := by decide +kernel
theorem dX11_open_53 : decode cX11_open 53 = .ok (.ifCond .eq 28, 3) := by decide +kernel
theorem dX11_open_56 : decode cX11_open 56 = .ok (.iload 4, 2) := by decide +kernel
theorem dX11_open_58 : decode cX11_open 58 = .ok (.iconst 1, 1) := by decide +kernel
theorem dX11_open_59 : decode cX11_open 59 = .ok (.if_icmp .lt 22, 3) := by decide +kernel
theorem dX11_open_62 : decode cX11_open 62 = .ok (.iload 4, 2) := by decide +kernel
theorem dX11_open_64 : decode cX11_open 64 = .ok (.iconst 4, 1) := by decide +kernel
theorem dX11_open_65 : decode cX11_open 65 = .ok (.if_icmp .gt 16, 3) := by decide +kernel
theorem dX11_open_68 : decode cX11_open 68 = .ok (.iload 5, 2) := by decide +kernel
theorem dX11_open_70 : decode cX11_open 70 = .ok (.iconst 1, 1) := by decide +kernel
theorem dX11_open_71 : decode cX11_open 71 = .ok (.if_icmp .lt 10, 3) := by decide +kernel
theorem dX11_open_74 : decode cX11_open 74 = .ok (.iload 5, 2) := by decide +kernel
theorem dX11_open_76 : decode cX11_open 76 = .ok (.bipush 15, 2) := by decide +kernel
theorem dX11_open_78 : decode cX11_open 78 = .ok (.if_icmp .le 6, 3) := by decide +kernel
theorem dX11_open_81 : decode cX11_open 81 = .ok (.bipush (-102), 2) := by decide +kernel
theorem dX11_open_83 : decode cX11_open 83 = .ok (.ireturn, 1) := by decide +kernel
theorem dX11_open_84 : decode cX11_open 84 = .ok (.aload_n 0, 1) := by decide +kernel
theorem dX11_open_85 : decode cX11_open 85 = .ok (.getfield 26, 3) := by decide +kernel
theorem dX11_open_88 : decode cX11_open 88 = .ok (.invokevirtual 134, 3) := by decide +kernel
theorem dX11_open_91 : decode cX11_open 91 = .ok (.astore 6, 2) := by decide +kernel
theorem dX11_open_93 : decode cX11_open 93 = .ok (.aload 6, 2) := by decide +kernel
theorem dX11_open_95 : decode cX11_open 95 = .ok (.ifnonnull 6, 3) := by decide +kernel
theorem dX11_open_98 : decode cX11_open 98 = .ok (.bipush (-104), 2) := by decide +kernel
theorem dX11_open_100 : decode cX11_open 100 = .ok (.ireturn, 1) := by decide +kernel
theorem dX11_open_101 : decode cX11_open 101 = .ok (.aload_n 0, 1) := by decide +kernel
theorem dX11_open_102 : decode cX11_open 102 = .ok (.getfield 35, 3) := by decide +kernel
theorem dX11_open_105 : decode cX11_open 105 = .ok (.iload_n 1, 1) := by decide +kernel
theorem dX11_open_106 : decode cX11_open 106 = .ok (.iload_n 2, 1) := by decide +kernel
theorem dX11_open_107 : decode cX11_open 107 = .ok (.iload_n 3, 1) := by decide +kernel
theorem dX11_open_108 : decode cX11_open 108 = .ok (.iload 4, 2) := by decide +kernel
theorem dX11_open_110 : decode cX11_open 110 = .ok (.invokevirtual 138, 3) := by decide +kernel
theorem dX11_open_113 : decode cX11_open 113 = .ok (.ifCond .ne 6, 3) := by decide +kernel
theorem dX11_open_116 : decode cX11_open 116 = .ok (.bipush (-103), 2) := by decide +kernel
theorem dX11_open_118 : decode cX11_open 118 = .ok (.ireturn, 1) := by decide +kernel
theorem dX11_open_119 : decode cX11_open 119 = .ok (.aload 6, 2) := by decide +kernel
theorem dX11_open_121 : decode cX11_open 121 = .ok (.iload_n 1, 1) := by decide +kernel
theorem dX11_open_122 : decode cX11_open 122 = .ok (.iload_n 2, 1) := by decide +kernel
theorem dX11_open_123 : decode cX11_open 123 = .ok (.iload_n 3, 1) := by decide +kernel
theorem dX11_open_124 : decode cX11_open 124 = .ok (.iload 4, 2) := by decide +kernel
theorem dX11_open_126 : decode cX11_open 126 = .ok (.iload 5, 2) := by decide +kernel
theorem dX11_open_128 : decode cX11_open 128 = .ok (.aload_n 0, 1) := by decide +kernel
theorem dX11_open_129 : decode cX11_open 129 = .ok (.getfield 19, 3) := by decide +kernel
theorem dX11_open_132 : decode cX11_open 132 = .ok (.getfield 142, 3) := by decide +kernel
theorem dX11_open_135 : decode cX11_open 135 = .ok (.invokevirtual 145, 3) := by decide +kernel
theorem dX11_open_138 : decode cX11_open 138 = .ok (.aload_n 0, 1) := by decide +kernel
theorem dX11_open_139 : decode cX11_open 139 = .ok (.getfield 35, 3) := by decide +kernel
theorem dX11_open_142 : decode cX11_open 142 = .ok (.aload 6, 2) := by decide +kernel
theorem dX11_open_144 : decode cX11_open 144 = .ok (.invokevirtual 150, 3) := by decide +kernel
theorem dX11_open_147 : decode cX11_open 147 = .ok (.aload 6, 2) := by decide +kernel
theorem dX11_open_149 : decode cX11_open 149 = .ok (.getfield 154, 3) := by decide +kernel
theorem dX11_open_152 : decode cX11_open 152 = .ok (.ireturn, 1) := by decide +kernel
theorem dX11_as_0 : decode cX11_as 0 = .ok (.aload_n 0, 1) := by decide +kernel
theorem dX11_as_1 : decode cX11_as 1 = .ok (.getfield 26, 3) := by decide +kernel
theorem dX11_as_4 : decode cX11_as 4 = .ok (.iload_n 1, 1) := by decide +kernel
theorem dX11_as_5 : decode cX11_as 5 = .ok (.invokevirtual 157, 3) := by decide +kernel
theorem dX11_as_8 : decode cX11_as 8 = .ok (.astore_n 3, 1) := by decide +kernel
theorem dX11_as_9 : decode cX11_as 9 = .ok (.aload_n 3, 1) := by decide +kernel
theorem dX11_as_10 : decode cX11_as 10 = .ok (.ifnonnull 6, 3) := by decide +kernel
theorem dX11_as_13 : decode cX11_as 13 = .ok (.bipush (-101), 2) := by decide +kernel
theorem dX11_as_15 : decode cX11_as 15 = .ok (.ireturn, 1) := by decide +kernel
theorem dX11_as_16 : decode cX11_as 16 = .ok (.iload_n 2, 1) := by decide +kernel
theorem dX11_as_17 : decode cX11_as 17 = .ok (.invokestatic 131, 3) := by decide +kernel
theorem dX11_as_20 : decode cX11_as 20 = .ok (.ifCond .ne 6, 3) := by decide +kernel
theorem dX11_as_23 : decode cX11_as 23 = .ok (.bipush (-102), 2) := by decide +kernel
theorem dX11_as_25 : decode cX11_as 25 = .ok (.ireturn, 1) := by decide +kernel
theorem dX11_as_26 : decode cX11_as 26 = .ok (.aload_n 3, 1) := by decide +kernel
theorem dX11_as_27 : decode cX11_as 27 = .ok (.iload_n 2, 1) := by decide +kernel
theorem dX11_as_28 : decode cX11_as 28 = .ok (.invokevirtual 160, 3) := by decide +kernel
theorem dX11_as_31 : decode cX11_as 31 = .ok (.ifCond .eq 10, 3) := by decide +kernel
theorem dX11_as_34 : decode cX11_as 34 = .ok (.aload_n 3, 1) := by decide +kernel
theorem dX11_as_35 : decode cX11_as 35 = .ok (.getfield 154, 3) := by decide +kernel
theorem dX11_as_38 : decode cX11_as 38 = .ok (.goto 4, 3) := by decide +kernel
theorem dX11_as_41 : decode cX11_as 41 = .ok (.iconst (-1), 1) := by decide +kernel
theorem dX11_as_42 : decode cX11_as 42 = .ok (.ireturn, 1) := by decide +kernel
theorem dX11_circuit_0 : decode cX11_circuit 0 = .ok (.aload_n 0, 1) := by decide +kernel
theorem dX11_circuit_1 : decode cX11_circuit 1 = .ok (.getfield 26, 3) := by decide +kernel
theorem dX11_circuit_4 : decode cX11_circuit 4 = .ok (.iload_n 1, 1) := by decide +kernel
theorem dX11_circuit_5 : decode cX11_circuit 5 = .ok (.invokevirtual 157, 3) := by decide +kernel
theorem dX11_circuit_8 : decode cX11_circuit 8 = .ok (.astore_n 3, 1) := by decide +kernel
theorem dX11_circuit_9 : decode cX11_circuit 9 = .ok (.aload_n 3, 1) := by decide +kernel
theorem dX11_circuit_10 : decode cX11_circuit 10 = .ok (.ifnonnull 6, 3) := by decide +kernel
theorem dX11_circuit_13 : decode cX11_circuit 13 = .ok (.bipush (-101), 2) := by decide +kernel
theorem dX11_circuit_15 : decode cX11_circuit 15 = .ok (.ireturn, 1) := by decide +kernel
theorem dX11_circuit_16 : decode cX11_circuit 16 = .ok (.iload_n 2, 1) := by decide +kernel
theorem dX11_circuit_17 : decode cX11_circuit 17 = .ok (.ifCond .lt 9, 3) := by decide +kernel
theorem dX11_circuit_20 : decode cX11_circuit 20 = .ok (.iload_n 2, 1) := by decide +kernel
theorem dX11_circuit_21 : decode cX11_circuit 21 = .ok (.bipush 14, 2) := by decide +kernel
theorem dX11_circuit_23 : decode cX11_circuit 23 = .ok (.if_icmp .le 6, 3) := by decide +kernel
theorem dX11_circuit_26 : decode cX11_circuit 26 = .ok (.bipush (-102), 2) := by decide +kernel
theorem dX11_circuit_28 : decode cX11_circuit 28 = .ok (.ireturn, 1) := by decide +kernel
theorem dX11_circuit_29 : decode cX11_circuit 29 = .ok (.iload_n 2, 1) := by decide +kernel
theorem dX11_circuit_30 : decode cX11_circuit 30 = .ok (.bipush 8, 2) := by decide +kernel
theorem dX11_circuit_32 : decode cX11_circuit 32 = .ok (.if_icmp .ge 18, 3) := by decide +kernel
theorem dX11_circuit_35 : decode cX11_circuit 35 = .ok (.aload_n 3, 1) := by decide +kernel
theorem dX11_circuit_36 : decode cX11_circuit 36 = .ok (.iload_n 2, 1) := by decide +kernel
theorem dX11_circuit_37 : decode cX11_circuit 37 = .ok (.aload_n 0, 1) := by decide +kernel
theorem dX11_circuit_38 : decode cX11_circuit 38 = .ok (.getfield 19, 3) := by decide +kernel
theorem dX11_circuit_41 : decode cX11_circuit 41 = .ok (.getfield 106, 3) := by decide +kernel
theorem dX11_circuit_44 : decode cX11_circuit 44 = .ok (.invokevirtual 163, 3) := by decide +kernel
theorem dX11_circuit_47 : decode cX11_circuit 47 = .ok (.goto 8, 3) := by decide +kernel
theorem dX11_circuit_50 : decode cX11_circuit 50 = .ok (.aload_n 3, 1) := by decide +kernel
theorem dX11_circuit_51 : decode cX11_circuit 51 = .ok (.iload_n 2, 1) := by decide +kernel
theorem dX11_circuit_52 : decode cX11_circuit 52 = .ok (.invokevirtual 166, 3) := by decide +kernel
theorem dX11_circuit_55 : decode cX11_circuit 55 = .ok (.ireturn, 1) := by decide +kernel
theorem dX11_route_0 : decode cX11_route 0 = .ok (.aload_n 0, 1) := by decide +kernel
theorem dX11_route_1 : decode cX11_route 1 = .ok (.getfield 26, 3) := by decide +kernel
theorem dX11_route_4 : decode cX11_route 4 = .ok (.iload_n 1, 1) := by decide +kernel
theorem dX11_route_5 : decode cX11_route 5 = .ok (.invokevirtual 157, 3) := by decide +kernel
theorem dX11_route_8 : decode cX11_route 8 = .ok (.astore_n 3, 1) := by decide +kernel
theorem dX11_route_9 : decode cX11_route 9 = .ok (.aload_n 3, 1) := by decide +kernel
theorem dX11_route_10 : decode cX11_route 10 = .ok (.ifnull 15, 3) := by decide +kernel
theorem dX11_route_13 : decode cX11_route 13 = .ok (.iload_n 2, 1) := by decide +kernel
theorem dX11_route_14 : decode cX11_route 14 = .ok (.ifCond .lt 11, 3) := by decide +kernel
theorem dX11_route_17 : decode cX11_route 17 = .ok (.iload_n 2, 1) := by decide +kernel
theorem dX11_route_18 : decode cX11_route 18 = .ok (.aload_n 3, 1) := by decide +kernel
theorem dX11_route_19 : decode cX11_route 19 = .ok (.invokevirtual 169, 3) := by decide +kernel
theorem dX11_route_22 : decode cX11_route 22 = .ok (.if_icmp .lt 8, 3) := by decide +kernel
theorem dX11_route_25 : decode cX11_route 25 = .ok (.bipush (-101), 2) := by decide +kernel
theorem dX11_route_27 : decode cX11_route 27 = .ok (.goto 8, 3) := by decide +kernel
theorem dX11_route_30 : decode cX11_route 30 = .ok (.aload_n 3, 1) := by decide +kernel
theorem dX11_route_31 : decode cX11_route 31 = .ok (.iload_n 2, 1) := by decide +kernel
theorem dX11_route_32 : decode cX11_route 32 = .ok (.invokevirtual 172, 3) := by decide +kernel
theorem dX11_route_35 : decode cX11_route 35 = .ok (.ireturn, 1) := by decide +kernel
theorem dX11_start_0 : decode cX11_start 0 = .ok (.aload_n 0, 1) := by decide +kernel
theorem dX11_start_1 : decode cX11_start 1 = .ok (.getfield 26, 3) := by decide +kernel
theorem dX11_start_4 : decode cX11_start 4 = .ok (.iload_n 1, 1) := by decide +kernel
theorem dX11_start_5 : decode cX11_start 5 = .ok (.invokevirtual 157, 3) := by decide +kernel
theorem dX11_start_8 : decode cX11_start 8 = .ok (.astore_n 3, 1) := by decide +kernel
theorem dX11_start_9 : decode cX11_start 9 = .ok (.aload_n 3, 1) := by decide +kernel
theorem dX11_start_10 : decode cX11_start 10 = .ok (.ifnull 15, 3) := by decide +kernel
theorem dX11_start_13 : decode cX11_start 13 = .ok (.iload_n 2, 1) := by decide +kernel
theorem dX11_start_14 : decode cX11_start 14 = .ok (.ifCond .lt 11, 3) := by decide +kernel
theorem dX11_start_17 : decode cX11_start 17 = .ok (.iload_n 2, 1) := by decide +kernel
theorem dX11_start_18 : decode cX11_start 18 = .ok (.aload_n 3, 1) := by decide +kernel
theorem dX11_start_19 : decode cX11_start 19 = .ok (.getfield 175, 3) := by decide +kernel
theorem dX11_start_22 : decode cX11_start 22 = .ok (.if_icmp .lt 8, 3) := by decide +kernel
theorem dX11_start_25 : decode cX11_start 25 = .ok (.bipush (-101), 2) := by decide +kernel
theorem dX11_start_27 : decode cX11_start 27 = .ok (.goto 8, 3) := by decide +kernel
theorem dX11_start_30 : decode cX11_start 30 = .ok (.aload_n 3, 1) := by decide +kernel
theorem dX11_start_31 : decode cX11_start 31 = .ok (.iload_n 2, 1) := by decide +kernel
theorem dX11_start_32 : decode cX11_start 32 = .ok (.invokevirtual 178, 3) := by decide +kernel
theorem dX11_start_35 : decode cX11_start 35 = .ok (.ireturn, 1) := by decide +kernel
theorem dX11_pair_0 : decode cX11_pair 0 = .ok (.aload_n 0, 1) := by decide +kernel
theorem dX11_pair_1 : decode cX11_pair 1 = .ok (.getfield 26, 3) := by decide +kernel
theorem dX11_pair_4 : decode cX11_pair 4 = .ok (.iload_n 1, 1) := by decide +kernel
theorem dX11_pair_5 : decode cX11_pair 5 = .ok (.invokevirtual 157, 3) := by decide +kernel
theorem dX11_pair_8 : decode cX11_pair 8 = .ok (.astore_n 3, 1) := by decide +kernel
theorem dX11_pair_9 : decode cX11_pair 9 = .ok (.aload_n 0, 1) := by decide +kernel
theorem dX11_pair_10 : decode cX11_pair 10 = .ok (.getfield 26, 3) := by decide +kernel
theorem dX11_pair_13 : decode cX11_pair 13 = .ok (.iload_n 2, 1) := by decide +kernel
theorem dX11_pair_14 : decode cX11_pair 14 = .ok (.invokevirtual 157, 3) := by decide +kernel
theorem dX11_pair_17 : decode cX11_pair 17 = .ok (.astore 4, 2) := by decide +kernel
theorem dX11_pair_19 : decode cX11_pair 19 = .ok (.aload_n 3, 1) := by decide +kernel
theorem dX11_pair_20 : decode cX11_pair 20 = .ok (.ifnull 13, 3) := by decide +kernel
theorem dX11_pair_23 : decode cX11_pair 23 = .ok (.aload 4, 2) := by decide +kernel
theorem dX11_pair_25 : decode cX11_pair 25 = .ok (.ifnull 8, 3) := by decide +kernel
theorem dX11_pair_28 : decode cX11_pair 28 = .ok (.iload_n 1, 1) := by decide +kernel
theorem dX11_pair_29 : decode cX11_pair 29 = .ok (.iload_n 2, 1) := by decide +kernel
theorem dX11_pair_30 : decode cX11_pair 30 = .ok (.if_icmp .ne 6, 3) := by decide +kernel
theorem dX11_pair_33 : decode cX11_pair 33 = .ok (.bipush (-101), 2) := by decide +kernel
theorem dX11_pair_35 : decode cX11_pair 35 = .ok (.ireturn, 1) := by decide +kernel
theorem dX11_pair_36 : decode cX11_pair 36 = .ok (.aload_n 3, 1) := by decide +kernel
theorem dX11_pair_37 : decode cX11_pair 37 = .ok (.getfield 181, 3) := by decide +kernel
theorem dX11_pair_40 : decode cX11_pair 40 = .ok (.iconst (-1), 1) := by decide +kernel
theorem dX11_pair_41 : decode cX11_pair 41 = .ok (.if_icmp .ne 21, 3) := by decide +kernel
theorem dX11_pair_44 : decode cX11_pair 44 = .ok (.aload 4, 2) := by decide +kernel
theorem dX11_pair_46 : decode cX11_pair 46 = .ok (.getfield 181, 3) := by decide +kernel
theorem dX11_pair_49 : decode cX11_pair 49 = .ok (.iconst (-1), 1) := by decide +kernel
theorem dX11_pair_50 : decode cX11_pair 50 = .ok (.if_icmp .ne 12, 3) := by decide +kernel
theorem dX11_pair_53 : decode cX11_pair 53 = .ok (.aload_n 3, 1) := by decide +kernel
theorem dX11_pair_54 : decode cX11_pair 54 = .ok (.aload 4, 2) := by decide +kernel
theorem dX11_pair_56 : decode cX11_pair 56 = .ok (.invokevirtual 184, 3) := by decide +kernel
theorem dX11_pair_59 : decode cX11_pair 59 = .ok (.ifCond .ne 6, 3) := by decide +kernel
theorem dX11_pair_62 : decode cX11_pair 62 = .ok (.bipush (-103), 2) := by decide +kernel
theorem dX11_pair_64 : decode cX11_pair 64 = .ok (.ireturn, 1) := by decide +kernel
theorem dX11_pair_65 : decode cX11_pair 65 = .ok (.aload_n 3, 1) := by decide +kernel
theorem dX11_pair_66 : decode cX11_pair 66 = .ok (.aload 4, 2) := by decide +kernel
theorem dX11_pair_68 : decode cX11_pair 68 = .ok (.getfield 154, 3) := by decide +kernel
theorem dX11_pair_71 : decode cX11_pair 71 = .ok (.putfield 181, 3) := by decide +kernel
theorem dX11_pair_74 : decode cX11_pair 74 = .ok (.aload 4, 2) := by decide +kernel
theorem dX11_pair_76 : decode cX11_pair 76 = .ok (.aload_n 3, 1) := by decide +kernel
theorem dX11_pair_77 : decode cX11_pair 77 = .ok (.getfield 154, 3) := by decide +kernel
theorem dX11_pair_80 : decode cX11_pair 80 = .ok (.putfield 181, 3) := by decide +kernel
theorem dX11_pair_83 : decode cX11_pair 83 = .ok (.aload_n 3, 1) := by decide +kernel
theorem dX11_pair_84 : decode cX11_pair 84 = .ok (.getfield 188, 3) := by decide +kernel
theorem dX11_pair_87 : decode cX11_pair 87 = .ok (.aload 4, 2) := by decide +kernel
theorem dX11_pair_89 : decode cX11_pair 89 = .ok (.getfield 188, 3) := by decide +kernel
theorem dX11_pair_92 : decode cX11_pair 92 = .ok (.iadd, 1) := by decide +kernel
theorem dX11_pair_93 : decode cX11_pair 93 = .ok (.ireturn, 1) := by decide +kernel
theorem dX11_move_0 : decode cX11_move 0 = .ok (.aload_n 0, 1) := by decide +kernel
theorem dX11_move_1 : decode cX11_move 1 = .ok (.getfield 26, 3) := by decide +kernel
theorem dX11_move_4 : decode cX11_move 4 = .ok (.iload_n 1, 1) := by decide +kernel
theorem dX11_move_5 : decode cX11_move 5 = .ok (.invokevirtual 157, 3) := by decide +kernel
theorem dX11_move_8 : decode cX11_move 8 = .ok (.astore_n 2, 1) := by decide +kernel
theorem dX11_move_9 : decode cX11_move 9 = .ok (.aload_n 2, 1) := by decide +kernel
theorem dX11_move_10 : decode cX11_move 10 = .ok (.ifnonnull 6, 3) := by decide +kernel
theorem dX11_move_13 : decode cX11_move 13 = .ok (.bipush (-101), 2) := by decide +kernel
theorem dX11_move_15 : decode cX11_move 15 = .ok (.ireturn, 1) := by decide +kernel
theorem dX11_move_16 : decode cX11_move 16 = .ok (.aload_n 2, 1) := by decide +kernel
theorem dX11_move_17 : decode cX11_move 17 = .ok (.invokevirtual 191, 3) := by decide +kernel
theorem dX11_move_20 : decode cX11_move 20 = .ok (.ifCond .le 6, 3) := by decide +kernel
theorem dX11_move_23 : decode cX11_move 23 = .ok (.bipush (-103), 2) := by decide +kernel
theorem dX11_move_25 : decode cX11_move 25 = .ok (.ireturn, 1) := by decide +kernel
theorem dX11_move_26 : decode cX11_move 26 = .ok (.aload_n 0, 1) := by decide +kernel
theorem dX11_move_27 : decode cX11_move 27 = .ok (.getfield 19, 3) := by decide +kernel
theorem dX11_move_30 : decode cX11_move 30 = .ok (.aload_n 2, 1) := by decide +kernel
theorem dX11_move_31 : decode cX11_move 31 = .ok (.iconst (-1), 1) := by decide +kernel
theorem dX11_move_32 : decode cX11_move 32 = .ok (.invokevirtual 194, 3) := by decide +kernel
theorem dX11_move_35 : decode cX11_move 35 = .ok (.aload_n 0, 1) := by decide +kernel
theorem dX11_move_36 : decode cX11_move 36 = .ok (.getfield 35, 3) := by decide +kernel
theorem dX11_move_39 : decode cX11_move 39 = .ok (.aload_n 2, 1) := by decide +kernel
theorem dX11_move_40 : decode cX11_move 40 = .ok (.getfield 198, 3) := by decide +kernel
theorem dX11_move_43 : decode cX11_move 43 = .ok (.aload_n 2, 1) := by decide +kernel
theorem dX11_move_44 : decode cX11_move 44 = .ok (.getfield 201, 3) := by decide +kernel
theorem dX11_move_47 : decode cX11_move 47 = .ok (.aload_n 2, 1) := by decide +kernel
theorem dX11_move_48 : decode cX11_move 48 = .ok (.getfield 204, 3) := by decide +kernel
theorem dX11_move_51 : decode cX11_move 51 = .ok (.aload_n 2, 1) := by decide +kernel
theorem dX11_move_52 : decode cX11_move 52 = .ok (.getfield 175, 3) := by decide +kernel
theorem dX11_move_55 : decode cX11_move 55 = .ok (.invokevirtual 138, 3) := by decide +kernel
theorem dX11_move_58 : decode cX11_move 58 = .ok (.ifCond .ne 18, 3) := by decide +kernel
theorem dX11_move_61 : decode cX11_move 61 = .ok (.aload_n 0, 1) := by decide +kernel
theorem dX11_move_62 : decode cX11_move 62 = .ok (.getfield 19, 3) := by decide +kernel
theorem dX11_move_65 : decode cX11_move 65 = .ok (.aload_n 2, 1) := by decide +kernel
theorem dX11_move_66 : decode cX11_move 66 = .ok (.aload_n 2, 1) := by decide +kernel
theorem dX11_move_67 : decode cX11_move 67 = .ok (.getfield 154, 3) := by decide +kernel
theorem dX11_move_70 : decode cX11_move 70 = .ok (.invokevirtual 194, 3) := by decide +kernel
theorem dX11_move_73 : decode cX11_move 73 = .ok (.bipush (-103), 2) := by decide +kernel
theorem dX11_move_75 : decode cX11_move 75 = .ok (.ireturn, 1) := by decide +kernel
theorem dX11_move_76 : decode cX11_move 76 = .ok (.aload_n 0, 1) := by decide +kernel
theorem dX11_move_77 : decode cX11_move 77 = .ok (.getfield 35, 3) := by decide +kernel
theorem dX11_move_80 : decode cX11_move 80 = .ok (.aload_n 2, 1) := by decide +kernel
theorem dX11_move_81 : decode cX11_move 81 = .ok (.invokevirtual 150, 3) := by decide +kernel
theorem dX11_move_84 : decode cX11_move 84 = .ok (.aload_n 2, 1) := by decide +kernel
theorem dX11_move_85 : decode cX11_move 85 = .ok (.getfield 188, 3) := by decide +kernel
theorem dX11_move_88 : decode cX11_move 88 = .ok (.ireturn, 1) := by decide +kernel
theorem dX11_close_0 : decode cX11_close 0 = .ok (.aload_n 0, 1) := by decide +kernel
theorem dX11_close_1 : decode cX11_close 1 = .ok (.getfield 26, 3) := by decide +kernel
theorem dX11_close_4 : decode cX11_close 4 = .ok (.iload_n 1, 1) := by decide +kernel
theorem dX11_close_5 : decode cX11_close 5 = .ok (.invokevirtual 157, 3) := by decide +kernel
theorem dX11_close_8 : decode cX11_close 8 = .ok (.astore_n 2, 1) := by decide +kernel
theorem dX11_close_9 : decode cX11_close 9 = .ok (.aload_n 2, 1) := by decide +kernel
theorem dX11_close_10 : decode cX11_close 10 = .ok (.ifnonnull 6, 3) := by decide +kernel
theorem dX11_close_13 : decode cX11_close 13 = .ok (.bipush (-101), 2) := by decide +kernel
theorem dX11_close_15 : decode cX11_close 15 = .ok (.ireturn, 1) := by decide +kernel
theorem dX11_close_16 : decode cX11_close 16 = .ok (.aload_n 0, 1) := by decide +kernel
theorem dX11_close_17 : decode cX11_close 17 = .ok (.getfield 26, 3) := by decide +kernel
theorem dX11_close_20 : decode cX11_close 20 = .ok (.aload_n 2, 1) := by decide +kernel
theorem dX11_close_21 : decode cX11_close 21 = .ok (.getfield 181, 3) := by decide +kernel
theorem dX11_close_24 : decode cX11_close 24 = .ok (.invokevirtual 157, 3) := by decide +kernel
theorem dX11_close_27 : decode cX11_close 27 = .ok (.astore_n 3, 1) := by decide +kernel
theorem dX11_close_28 : decode cX11_close 28 = .ok (.aload_n 2, 1) := by decide +kernel
theorem dX11_close_29 : decode cX11_close 29 = .ok (.invokevirtual 191, 3) := by decide +kernel
theorem dX11_close_32 : decode cX11_close 32 = .ok (.ifCond .gt 14, 3) := by decide +kernel
theorem dX11_close_35 : decode cX11_close 35 = .ok (.aload_n 3, 1) := by decide +kernel
theorem dX11_close_36 : decode cX11_close 36 = .ok (.ifnull 13, 3) := by decide +kernel
theorem dX11_close_39 : decode cX11_close 39 = .ok (.aload_n 3, 1) := by decide +kernel
theorem dX11_close_40 : decode cX11_close 40 = .ok (.invokevirtual 191, 3) := by decide +kernel
theorem dX11_close_43 : decode cX11_close 43 = .ok (.ifCond .le 6, 3) := by decide +kernel
theorem dX11_close_46 : decode cX11_close 46 = .ok (.bipush (-103), 2) := by decide +kernel
theorem dX11_close_48 : decode cX11_close 48 = .ok (.ireturn, 1) := by decide +kernel
theorem dX11_close_49 : decode cX11_close 49 = .ok (.aload_n 3, 1) := by decide +kernel
theorem dX11_close_50 : decode cX11_close 50 = .ok (.ifnull 8, 3) := by decide +kernel
theorem dX11_close_53 : decode cX11_close 53 = .ok (.aload_n 3, 1) := by decide +kernel
theorem dX11_close_54 : decode cX11_close 54 = .ok (.iconst (-1), 1) := by decide +kernel
theorem dX11_close_55 : decode cX11_close 55 = .ok (.putfield 181, 3) := by decide +kernel
theorem dX11_close_58 : decode cX11_close 58 = .ok (.aload_n 0, 1) := by decide +kernel
theorem dX11_close_59 : decode cX11_close 59 = .ok (.getfield 19, 3) := by decide +kernel
theorem dX11_close_62 : decode cX11_close 62 = .ok (.aload_n 2, 1) := by decide +kernel
theorem dX11_close_63 : decode cX11_close 63 = .ok (.iconst (-1), 1) := by decide +kernel
theorem dX11_close_64 : decode cX11_close 64 = .ok (.invokevirtual 194, 3) := by decide +kernel
theorem dX11_close_67 : decode cX11_close 67 = .ok (.aload_n 2, 1) := by decide +kernel
theorem dX11_close_68 : decode cX11_close 68 = .ok (.iconst 0, 1) := by decide +kernel
theorem dX11_close_69 : decode cX11_close 69 = .ok (.putfield 207, 3) := by decide +kernel
theorem dX11_close_72 : decode cX11_close 72 = .ok (.aload_n 2, 1) := by decide +kernel
theorem dX11_close_73 : decode cX11_close 73 = .ok (.getfield 210, 3) := by decide +kernel
theorem dX11_close_76 : decode cX11_close 76 = .ok (.ireturn, 1) := by decide +kernel
theorem dX11_feed_0 : decode cX11_feed 0 = .ok (.aload_n 0, 1) := by decide +kernel
theorem dX11_feed_1 : decode cX11_feed 1 = .ok (.getfield 26, 3) := by decide +kernel
theorem dX11_feed_4 : decode cX11_feed 4 = .ok (.iload_n 1, 1) := by decide +kernel
theorem dX11_feed_5 : decode cX11_feed 5 = .ok (.invokevirtual 157, 3) := by decide +kernel
theorem dX11_feed_8 : decode cX11_feed 8 = .ok (.astore_n 3, 1) := by decide +kernel
theorem dX11_feed_9 : decode cX11_feed 9 = .ok (.aload_n 3, 1) := by decide +kernel
theorem dX11_feed_10 : decode cX11_feed 10 = .ok (.ifnonnull 6, 3) := by decide +kernel
theorem dX11_feed_13 : decode cX11_feed 13 = .ok (.bipush (-101), 2) := by decide +kernel
theorem dX11_feed_15 : decode cX11_feed 15 = .ok (.ireturn, 1) := by decide +kernel
theorem dX11_feed_16 : decode cX11_feed 16 = .ok (.iload_n 2, 1) := by decide +kernel
theorem dX11_feed_17 : decode cX11_feed 17 = .ok (.iconst 1, 1) := by decide +kernel
theorem dX11_feed_18 : decode cX11_feed 18 = .ok (.if_icmp .lt 9, 3) := by decide +kernel
theorem dX11_feed_21 : decode cX11_feed 21 = .ok (.iload_n 2, 1) := by decide +kernel
theorem dX11_feed_22 : decode cX11_feed 22 = .ok (.bipush 99, 2) := by decide +kernel
theorem dX11_feed_24 : decode cX11_feed 24 = .ok (.if_icmp .le 6, 3) := by decide +kernel
theorem dX11_feed_27 : decode cX11_feed 27 = .ok (.bipush (-102), 2) := by decide +kernel
theorem dX11_feed_29 : decode cX11_feed 29 = .ok (.ireturn, 1) := by decide +kernel
theorem dX11_feed_30 : decode cX11_feed 30 = .ok (.aload_n 3, 1) := by decide +kernel
theorem dX11_feed_31 : decode cX11_feed 31 = .ok (.getfield 210, 3) := by decide +kernel
theorem dX11_feed_34 : decode cX11_feed 34 = .ok (.iload_n 2, 1) := by decide +kernel
theorem dX11_feed_35 : decode cX11_feed 35 = .ok (.iadd, 1) := by decide +kernel
theorem dX11_feed_36 : decode cX11_feed 36 = .ok (.bipush 99, 2) := by decide +kernel
theorem dX11_feed_38 : decode cX11_feed 38 = .ok (.if_icmp .le 6, 3) := by decide +kernel
theorem dX11_feed_41 : decode cX11_feed 41 = .ok (.bipush (-104), 2) := by decide +kernel
theorem dX11_feed_43 : decode cX11_feed 43 = .ok (.ireturn, 1) := by decide +kernel
theorem dX11_feed_44 : decode cX11_feed 44 = .ok (.aload_n 3, 1) := by decide +kernel
theorem dX11_feed_45 : decode cX11_feed 45 = .ok (.dup, 1) := by decide +kernel
theorem dX11_feed_46 : decode cX11_feed 46 = .ok (.getfield 210, 3) := by decide +kernel
theorem dX11_feed_49 : decode cX11_feed 49 = .ok (.iload_n 2, 1) := by decide +kernel
theorem dX11_feed_50 : decode cX11_feed 50 = .ok (.iadd, 1) := by decide +kernel
theorem dX11_feed_51 : decode cX11_feed 51 = .ok (.putfield 210, 3) := by decide +kernel
theorem dX11_feed_54 : decode cX11_feed 54 = .ok (.aload_n 3, 1) := by decide +kernel
theorem dX11_feed_55 : decode cX11_feed 55 = .ok (.getfield 210, 3) := by decide +kernel
theorem dX11_feed_58 : decode cX11_feed 58 = .ok (.ireturn, 1) := by decide +kernel
theorem dX11_take_0 : decode cX11_take 0 = .ok (.aload_n 0, 1) := by decide +kernel
theorem dX11_take_1 : decode cX11_take 1 = .ok (.getfield 26, 3) := by decide +kernel
theorem dX11_take_4 : decode cX11_take 4 = .ok (.iload_n 1, 1) := by decide +kernel
theorem dX11_take_5 : decode cX11_take 5 = .ok (.invokevirtual 157, 3) := by decide +kernel
theorem dX11_take_8 : decode cX11_take 8 = .ok (.astore_n 3, 1) := by decide +kernel
theorem dX11_take_9 : decode cX11_take 9 = .ok (.aload_n 3, 1) := by decide +kernel
theorem dX11_take_10 : decode cX11_take 10 = .ok (.ifnonnull 6, 3) := by decide +kernel
theorem dX11_take_13 : decode cX11_take 13 = .ok (.bipush (-101), 2) := by decide +kernel
theorem dX11_take_15 : decode cX11_take 15 = .ok (.ireturn, 1) := by decide +kernel
theorem dX11_take_16 : decode cX11_take 16 = .ok (.iload_n 2, 1) := by decide +kernel
theorem dX11_take_17 : decode cX11_take 17 = .ok (.iconst 1, 1) := by decide +kernel
theorem dX11_take_18 : decode cX11_take 18 = .ok (.if_icmp .lt 9, 3) := by decide +kernel
theorem dX11_take_21 : decode cX11_take 21 = .ok (.iload_n 2, 1) := by decide +kernel
theorem dX11_take_22 : decode cX11_take 22 = .ok (.bipush 99, 2) := by decide +kernel
theorem dX11_take_24 : decode cX11_take 24 = .ok (.if_icmp .le 6, 3) := by decide +kernel
theorem dX11_take_27 : decode cX11_take 27 = .ok (.bipush (-102), 2) := by decide +kernel
theorem dX11_take_29 : decode cX11_take 29 = .ok (.ireturn, 1) := by decide +kernel
theorem dX11_take_30 : decode cX11_take 30 = .ok (.iload_n 2, 1) := by decide +kernel
theorem dX11_take_31 : decode cX11_take 31 = .ok (.aload_n 3, 1) := by decide +kernel
theorem dX11_take_32 : decode cX11_take 32 = .ok (.getfield 213, 3) := by decide +kernel
theorem dX11_take_35 : decode cX11_take 35 = .ok (.if_icmp .le 6, 3) := by decide +kernel
theorem dX11_take_38 : decode cX11_take 38 = .ok (.bipush (-103), 2) := by decide +kernel
theorem dX11_take_40 : decode cX11_take 40 = .ok (.ireturn, 1) := by decide +kernel
theorem dX11_take_41 : decode cX11_take 41 = .ok (.aload_n 3, 1) := by decide +kernel
theorem dX11_take_42 : decode cX11_take 42 = .ok (.dup, 1) := by decide +kernel
theorem dX11_take_43 : decode cX11_take 43 = .ok (.getfield 213, 3) := by decide +kernel
theorem dX11_take_46 : decode cX11_take 46 = .ok (.iload_n 2, 1) := by decide +kernel
theorem dX11_take_47 : decode cX11_take 47 = .ok (.isub, 1) := by decide +kernel
theorem dX11_take_48 : decode cX11_take 48 = .ok (.putfield 213, 3) := by decide +kernel
theorem dX11_take_51 : decode cX11_take 51 = .ok (.aload_n 3, 1) := by decide +kernel
theorem dX11_take_52 : decode cX11_take 52 = .ok (.dup, 1) := by decide +kernel
theorem dX11_take_53 : decode cX11_take 53 = .ok (.getfield 216, 3) := by decide +kernel
theorem dX11_take_56 : decode cX11_take 56 = .ok (.iload_n 2, 1) := by decide +kernel
theorem dX11_take_57 : decode cX11_take 57 = .ok (.iadd, 1) := by decide +kernel
theorem dX11_take_58 : decode cX11_take 58 = .ok (.putfield 216, 3) := by decide +kernel
theorem dX11_take_61 : decode cX11_take 61 = .ok (.aload_n 3, 1) := by decide +kernel
theorem dX11_take_62 : decode cX11_take 62 = .ok (.getfield 213, 3) := by decide +kernel
theorem dX11_take_65 : decode cX11_take 65 = .ok (.ireturn, 1) := by decide +kernel
theorem dX11_fastest_0 : decode cX11_fastest 0 = .ok (.aload_n 0, 1) := by decide +kernel
theorem dX11_fastest_1 : decode cX11_fastest 1 = .ok (.getfield 26, 3) := by decide +kernel
theorem dX11_fastest_4 : decode cX11_fastest 4 = .ok (.aload_n 0, 1) := by decide +kernel
theorem dX11_fastest_5 : decode cX11_fastest 5 = .ok (.getfield 19, 3) := by decide +kernel
theorem dX11_fastest_8 : decode cX11_fastest 8 = .ok (.getfield 142, 3) := by decide +kernel
theorem dX11_fastest_11 : decode cX11_fastest 11 = .ok (.invokevirtual 219, 3) := by decide +kernel
theorem dX11_fastest_14 : decode cX11_fastest 14 = .ok (.ireturn, 1) := by decide +kernel
theorem dX11_stray_0 : decode cX11_stray 0 = .ok (.aload_n 0, 1) := by decide +kernel
theorem dX11_stray_1 : decode cX11_stray 1 = .ok (.getfield 19, 3) := by decide +kernel
theorem dX11_stray_4 : decode cX11_stray 4 = .ok (.invokevirtual 91, 3) := by decide +kernel
theorem dX11_stray_7 : decode cX11_stray 7 = .ok (.ifCond .ne 6, 3) := by decide +kernel
theorem dX11_stray_10 : decode cX11_stray 10 = .ok (.bipush (-103), 2) := by decide +kernel
theorem dX11_stray_12 : decode cX11_stray 12 = .ok (.ireturn, 1) := by decide +kernel
theorem dX11_stray_13 : decode cX11_stray 13 = .ok (.aload_n 0, 1) := by decide +kernel
theorem dX11_stray_14 : decode cX11_stray 14 = .ok (.getfield 19, 3) := by decide +kernel
theorem dX11_stray_17 : decode cX11_stray 17 = .ok (.getfield 82, 3) := by decide +kernel
theorem dX11_stray_20 : decode cX11_stray 20 = .ok (.iload_n 1, 1) := by decide +kernel
theorem dX11_stray_21 : decode cX11_stray 21 = .ok (.invokevirtual 128, 3) := by decide +kernel
theorem dX11_stray_24 : decode cX11_stray 24 = .ok (.ifCond .eq 17, 3) := by decide +kernel
theorem dX11_stray_27 : decode cX11_stray 27 = .ok (.aload_n 0, 1) := by decide +kernel
theorem dX11_stray_28 : decode cX11_stray 28 = .ok (.getfield 19, 3) := by decide +kernel
theorem dX11_stray_31 : decode cX11_stray 31 = .ok (.getfield 82, 3) := by decide +kernel
theorem dX11_stray_34 : decode cX11_stray 34 = .ok (.iload_n 2, 1) := by decide +kernel
theorem dX11_stray_35 : decode cX11_stray 35 = .ok (.invokevirtual 128, 3) := by decide +kernel
theorem dX11_stray_38 : decode cX11_stray 38 = .ok (.ifCond .ne 6, 3) := by decide +kernel
theorem dX11_stray_41 : decode cX11_stray 41 = .ok (.bipush (-101), 2) := by decide +kernel
theorem dX11_stray_43 : decode cX11_stray 43 = .ok (.ireturn, 1) := by decide +kernel
theorem dX11_stray_44 : decode cX11_stray 44 = .ok (.aload_n 0, 1) := by decide +kernel
theorem dX11_stray_45 : decode cX11_stray 45 = .ok (.getfield 42, 3) := by decide +kernel
theorem dX11_stray_48 : decode cX11_stray 48 = .ok (.iload_n 1, 1) := by decide +kernel
theorem dX11_stray_49 : decode cX11_stray 49 = .ok (.iload_n 2, 1) := by decide +kernel
theorem dX11_stray_50 : decode cX11_stray 50 = .ok (.iload_n 3, 1) := by decide +kernel
theorem dX11_stray_51 : decode cX11_stray 51 = .ok (.invokevirtual 222, 3) := by decide +kernel
theorem dX11_stray_54 : decode cX11_stray 54 = .ok (.ifCond .eq 13, 3) := by decide +kernel
theorem dX11_stray_57 : decode cX11_stray 57 = .ok (.aload_n 0, 1) := by decide +kernel
theorem dX11_stray_58 : decode cX11_stray 58 = .ok (.getfield 42, 3) := by decide +kernel
theorem dX11_stray_61 : decode cX11_stray 61 = .ok (.getfield 225, 3) := by decide +kernel
theorem dX11_stray_64 : decode cX11_stray 64 = .ok (.goto 5, 3) := by decide +kernel
theorem dX11_stray_67 : decode cX11_stray 67 = .ok (.bipush (-104), 2) := by decide +kernel
theorem dX11_stray_69 : decode cX11_stray 69 = .ok (.ireturn, 1) := by decide +kernel
theorem dX11_straying_0 : decode cX11_straying 0 = .ok (.aload_n 0, 1) := by decide +kernel
theorem dX11_straying_1 : decode cX11_straying 1 = .ok (.getfield 42, 3) := by decide +kernel
theorem dX11_straying_4 : decode cX11_straying 4 = .ok (.iload_n 1, 1) := by decide +kernel
theorem dX11_straying_5 : decode cX11_straying 5 = .ok (.invokevirtual 228, 3) := by decide +kernel
theorem dX11_straying_8 : decode cX11_straying 8 = .ok (.astore_n 3, 1) := by decide +kernel
theorem dX11_straying_9 : decode cX11_straying 9 = .ok (.aload_n 3, 1) := by decide +kernel
theorem dX11_straying_10 : decode cX11_straying 10 = .ok (.ifnonnull 6, 3) := by decide +kernel
theorem dX11_straying_13 : decode cX11_straying 13 = .ok (.bipush (-101), 2) := by decide +kernel
theorem dX11_straying_15 : decode cX11_straying 15 = .ok (.ireturn, 1) := by decide +kernel
theorem dX11_straying_16 : decode cX11_straying 16 = .ok (.iload_n 2, 1) := by decide +kernel
theorem dX11_straying_17 : decode cX11_straying 17 = .ok (.ifCond .lt 8, 3) := by decide +kernel
theorem dX11_straying_20 : decode cX11_straying 20 = .ok (.iload_n 2, 1) := by decide +kernel
theorem dX11_straying_21 : decode cX11_straying 21 = .ok (.iconst 4, 1) := by decide +kernel
theorem dX11_straying_22 : decode cX11_straying 22 = .ok (.if_icmp .le 8, 3) := by decide +kernel
theorem dX11_straying_25 : decode cX11_straying 25 = .ok (.bipush (-102), 2) := by decide +kernel
theorem dX11_straying_27 : decode cX11_straying 27 = .ok (.goto 12, 3) := by decide +kernel
theorem dX11_straying_30 : decode cX11_straying 30 = .ok (.aload_n 3, 1) := by decide +kernel
theorem dX11_straying_31 : decode cX11_straying 31 = .ok (.iload_n 2, 1) := by decide +kernel
theorem dX11_straying_32 : decode cX11_straying 32 = .ok (.aload_n 0, 1) := by decide +kernel
theorem dX11_straying_33 : decode cX11_straying 33 = .ok (.getfield 19, 3) := by decide +kernel
theorem dX11_straying_36 : decode cX11_straying 36 = .ok (.invokevirtual 231, 3) := by decide +kernel
theorem dX11_straying_39 : decode cX11_straying 39 = .ok (.ireturn, 1) := by decide +kernel
theorem dX11_arrived_0 : decode cX11_arrived 0 = .ok (.iload_n 2, 1) := by decide +kernel
theorem dX11_arrived_1 : decode cX11_arrived 1 = .ok (.ifCond .lt 8, 3) := by decide +kernel
theorem dX11_arrived_4 : decode cX11_arrived 4 = .ok (.iload_n 2, 1) := by decide +kernel
theorem dX11_arrived_5 : decode cX11_arrived 5 = .ok (.iconst 2, 1) := by decide +kernel
theorem dX11_arrived_6 : decode cX11_arrived 6 = .ok (.if_icmp .le 8, 3) := by decide +kernel
theorem dX11_arrived_9 : decode cX11_arrived 9 = .ok (.bipush (-102), 2) := by decide +kernel
theorem dX11_arrived_11 : decode cX11_arrived 11 = .ok (.goto 15, 3) := by decide +kernel
theorem dX11_arrived_14 : decode cX11_arrived 14 = .ok (.aload_n 0, 1) := by decide +kernel
theorem dX11_arrived_15 : decode cX11_arrived 15 = .ok (.getfield 42, 3) := by decide +kernel
theorem dX11_arrived_18 : decode cX11_arrived 18 = .ok (.iload_n 1, 1) := by decide +kernel
theorem dX11_arrived_19 : decode cX11_arrived 19 = .ok (.invokevirtual 236, 3) := by decide +kernel
theorem dX11_arrived_22 : decode cX11_arrived 22 = .ok (.iload_n 2, 1) := by decide +kernel
theorem dX11_arrived_23 : decode cX11_arrived 23 = .ok (.invokevirtual 240, 3) := by decide +kernel
theorem dX11_arrived_26 : decode cX11_arrived 26 = .ok (.ireturn, 1) := by decide +kernel
theorem dX11_faster_0 : decode cX11_faster 0 = .ok (.aload_n 0, 1) := by decide +kernel
theorem dX11_faster_1 : decode cX11_faster 1 = .ok (.getfield 42, 3) := by decide +kernel
theorem dX11_faster_4 : decode cX11_faster 4 = .ok (.iconst 1, 1) := by decide +kernel
theorem dX11_faster_5 : decode cX11_faster 5 = .ok (.invokevirtual 236, 3) := by decide +kernel
theorem dX11_faster_8 : decode cX11_faster 8 = .ok (.aload_n 0, 1) := by decide +kernel
theorem dX11_faster_9 : decode cX11_faster 9 = .ok (.getfield 42, 3) := by decide +kernel
theorem dX11_faster_12 : decode cX11_faster 12 = .ok (.iconst 0, 1) := by decide +kernel
theorem dX11_faster_13 : decode cX11_faster 13 = .ok (.invokevirtual 236, 3) := by decide +kernel
theorem dX11_faster_16 : decode cX11_faster 16 = .ok (.invokevirtual 243, 3) := by decide +kernel
theorem dX11_faster_19 : decode cX11_faster 19 = .ok (.ireturn, 1) := by decide +kernel
theorem dX11_run_0 : decode cX11_run 0 = .ok (.iload_n 1, 1) := by decide +kernel
theorem dX11_run_1 : decode cX11_run 1 = .ok (.iconst 1, 1) := by decide +kernel
theorem dX11_run_2 : decode cX11_run 2 = .ok (.if_icmp .lt 9, 3) := by decide +kernel
theorem dX11_run_5 : decode cX11_run 5 = .ok (.iload_n 1, 1) := by decide +kernel
theorem dX11_run_6 : decode cX11_run 6 = .ok (.bipush 40, 2) := by decide +kernel
theorem dX11_run_8 : decode cX11_run 8 = .ok (.if_icmp .le 6, 3) := by decide +kernel
theorem dX11_run_11 : decode cX11_run 11 = .ok (.bipush (-102), 2) := by decide +kernel
theorem dX11_run_13 : decode cX11_run 13 = .ok (.ireturn, 1) := by decide +kernel
theorem dX11_run_14 : decode cX11_run 14 = .ok (.aload_n 0, 1) := by decide +kernel
theorem dX11_run_15 : decode cX11_run 15 = .ok (.getfield 19, 3) := by decide +kernel
theorem dX11_run_18 : decode cX11_run 18 = .ok (.invokevirtual 91, 3) := by decide +kernel
theorem dX11_run_21 : decode cX11_run 21 = .ok (.ifCond .ne 6, 3) := by decide +kernel
theorem dX11_run_24 : decode cX11_run 24 = .ok (.bipush (-103), 2) := by decide +kernel
theorem dX11_run_26 : decode cX11_run 26 = .ok (.ireturn, 1) := by decide +kernel
theorem dX11_run_27 : decode cX11_run 27 = .ok (.iconst 0, 1) := by decide +kernel
theorem dX11_run_28 : decode cX11_run 28 = .ok (.istore_n 2, 1) := by decide +kernel
theorem dX11_run_29 : decode cX11_run 29 = .ok (.iconst 0, 1) := by decide +kernel
theorem dX11_run_30 : decode cX11_run 30 = .ok (.istore_n 3, 1) := by decide +kernel
theorem dX11_run_31 : decode cX11_run 31 = .ok (.iload_n 3, 1) := by decide +kernel
theorem dX11_run_32 : decode cX11_run 32 = .ok (.iload_n 1, 1) := by decide +kernel
theorem dX11_run_33 : decode cX11_run 33 = .ok (.if_icmp .ge 19, 3) := by decide +kernel
theorem dX11_run_36 : decode cX11_run 36 = .ok (.iload_n 2, 1) := by decide +kernel
theorem dX11_run_37 : decode cX11_run 37 = .ok (.aload_n 0, 1) := by decide +kernel
theorem dX11_run_38 : decode cX11_run 38 = .ok (.getfield 51, 3) := by decide +kernel
theorem dX11_run_41 : decode cX11_run 41 = .ok (.invokevirtual 247, 3) := by decide +kernel
theorem dX11_run_44 : decode cX11_run 44 = .ok (.iadd, 1) := by decide +kernel
theorem dX11_run_45 : decode cX11_run 45 = .ok (.istore_n 2, 1) := by decide +kernel
theorem dX11_run_46 : decode cX11_run 46 = .ok (.iinc 3 1, 3) := by decide +kernel
theorem dX11_run_49 : decode cX11_run 49 = .ok (.goto (-18), 3) := by decide +kernel
theorem dX11_run_52 : decode cX11_run 52 = .ok (.iload_n 2, 1) := by decide +kernel
theorem dX11_run_53 : decode cX11_run 53 = .ok (.ireturn, 1) := by decide +kernel
theorem dX11_storm_0 : decode cX11_storm 0 = .ok (.aload_n 0, 1) := by decide +kernel
theorem dX11_storm_1 : decode cX11_storm 1 = .ok (.getfield 19, 3) := by decide +kernel
theorem dX11_storm_4 : decode cX11_storm 4 = .ok (.invokevirtual 91, 3) := by decide +kernel
theorem dX11_storm_7 : decode cX11_storm 7 = .ok (.ifCond .ne 6, 3) := by decide +kernel
theorem dX11_storm_10 : decode cX11_storm 10 = .ok (.bipush (-103), 2) := by decide +kernel
theorem dX11_storm_12 : decode cX11_storm 12 = .ok (.ireturn, 1) := by decide +kernel
theorem dX11_storm_13 : decode cX11_storm 13 = .ok (.iload_n 1, 1) := by decide +kernel
theorem dX11_storm_14 : decode cX11_storm 14 = .ok (.iconst 1, 1) := by decide +kernel
theorem dX11_storm_15 : decode cX11_storm 15 = .ok (.if_icmp .lt 13, 3) := by decide +kernel
theorem dX11_storm_18 : decode cX11_storm 18 = .ok (.iload_n 1, 1) := by decide +kernel
theorem dX11_storm_19 : decode cX11_storm 19 = .ok (.bipush 12, 2) := by decide +kernel
theorem dX11_storm_21 : decode cX11_storm 21 = .ok (.if_icmp .gt 7, 3) := by decide +kernel
theorem dX11_storm_24 : decode cX11_storm 24 = .ok (.iload_n 2, 1) := by decide +kernel
theorem dX11_storm_25 : decode cX11_storm 25 = .ok (.ifCond .ge 6, 3) := by decide +kernel
theorem dX11_storm_28 : decode cX11_storm 28 = .ok (.bipush (-102), 2) := by decide +kernel
theorem dX11_storm_30 : decode cX11_storm 30 = .ok (.ireturn, 1) := by decide +kernel
theorem dX11_storm_31 : decode cX11_storm 31 = .ok (.aload_n 0, 1) := by decide +kernel
theorem dX11_storm_32 : decode cX11_storm 32 = .ok (.getfield 42, 3) := by decide +kernel
theorem dX11_storm_35 : decode cX11_storm 35 = .ok (.iload_n 1, 1) := by decide +kernel
theorem dX11_storm_36 : decode cX11_storm 36 = .ok (.iload_n 2, 1) := by decide +kernel
theorem dX11_storm_37 : decode cX11_storm 37 = .ok (.invokevirtual 250, 3) := by decide +kernel
theorem dX11_storm_40 : decode cX11_storm 40 = .ok (.ireturn, 1) := by decide +kernel
theorem dX11_count_0 : decode cX11_count 0 = .ok (.iload_n 1, 1) := by decide +kernel
theorem dX11_count_1 : decode cX11_count 1 = .ok (.tableswitch 73 0 6 #[43, 43, 52, 43, 43, 60, 68], 43) := by decide +kernel
theorem dX11_count_44 : decode cX11_count 44 = .ok (.aload_n 0, 1) := by decide +kernel
theorem dX11_count_45 : decode cX11_count 45 = .ok (.getfield 26, 3) := by decide +kernel
theorem dX11_count_48 : decode cX11_count 48 = .ok (.iload_n 1, 1) := by decide +kernel
theorem dX11_count_49 : decode cX11_count 49 = .ok (.invokevirtual 253, 3) := by decide +kernel
theorem dX11_count_52 : decode cX11_count 52 = .ok (.ireturn, 1) := by decide +kernel
theorem dX11_count_53 : decode cX11_count 53 = .ok (.aload_n 0, 1) := by decide +kernel
theorem dX11_count_54 : decode cX11_count 54 = .ok (.getfield 42, 3) := by decide +kernel
theorem dX11_count_57 : decode cX11_count 57 = .ok (.getfield 225, 3) := by decide +kernel
theorem dX11_count_60 : decode cX11_count 60 = .ok (.ireturn, 1) := by decide +kernel
theorem dX11_count_61 : decode cX11_count 61 = .ok (.aload_n 0, 1) := by decide +kernel
theorem dX11_count_62 : decode cX11_count 62 = .ok (.getfield 10, 3) := by decide +kernel
theorem dX11_count_65 : decode cX11_count 65 = .ok (.getfield 63, 3) := by decide +kernel
theorem dX11_count_68 : decode cX11_count 68 = .ok (.ireturn, 1) := by decide +kernel
theorem dX11_count_69 : decode cX11_count 69 = .ok (.aload_n 0, 1) := by decide +kernel
theorem dX11_count_70 : decode cX11_count 70 = .ok (.getfield 55, 3) := by decide +kernel
theorem dX11_count_73 : decode cX11_count 73 = .ok (.ireturn, 1) := by decide +kernel
theorem dX11_count_74 : decode cX11_count 74 = .ok (.bipush (-102), 2) := by decide +kernel
theorem dX11_count_76 : decode cX11_count 76 = .ok (.ireturn, 1) := by decide +kernel
theorem dX11_digest_0 : decode cX11_digest 0 = .ok (.aload_n 0, 1) := by decide +kernel
theorem dX11_digest_1 : decode cX11_digest 1 = .ok (.getfield 19, 3) := by decide +kernel
theorem dX11_digest_4 : decode cX11_digest 4 = .ok (.invokevirtual 91, 3) := by decide +kernel
theorem dX11_digest_7 : decode cX11_digest 7 = .ok (.ifCond .eq 13, 3) := by decide +kernel
theorem dX11_digest_10 : decode cX11_digest 10 = .ok (.aload_n 0, 1) := by decide +kernel
theorem dX11_digest_11 : decode cX11_digest 11 = .ok (.ldc2_w 256, 3) := by decide +kernel
theorem dX11_digest_14 : decode cX11_digest 14 = .ok (.invokevirtual 258, 3) := by decide +kernel
theorem dX11_digest_17 : decode cX11_digest 17 = .ok (.goto 6, 3) := by decide +kernel
theorem dX11_digest_20 : decode cX11_digest 20 = .ok (.ldc2_w 256, 3) := by decide +kernel
theorem dX11_digest_23 : decode cX11_digest 23 = .ok (.lstore_n 1, 1) := by decide +kernel
theorem dX11_digest_24 : decode cX11_digest 24 = .ok (.iconst 0, 1) := by decide +kernel
theorem dX11_digest_25 : decode cX11_digest 25 = .ok (.istore_n 3, 1) := by decide +kernel
theorem dX11_digest_26 : decode cX11_digest 26 = .ok (.iload_n 3, 1) := by decide +kernel
theorem dX11_digest_27 : decode cX11_digest 27 = .ok (.bipush 8, 2) := by decide +kernel
theorem dX11_digest_29 : decode cX11_digest 29 = .ok (.if_icmp .ge 36, 3) := by decide +kernel
theorem dX11_digest_32 : decode cX11_digest 32 = .ok (.aload_n 0, 1) := by decide +kernel
theorem dX11_digest_33 : decode cX11_digest 33 = .ok (.getfield 26, 3) := by decide +kernel
theorem dX11_digest_36 : decode cX11_digest 36 = .ok (.iload_n 3, 1) := by decide +kernel
theorem dX11_digest_37 : decode cX11_digest 37 = .ok (.invokevirtual 157, 3) := by decide +kernel
theorem dX11_digest_40 : decode cX11_digest 40 = .ok (.astore 4, 2) := by decide +kernel
theorem dX11_digest_42 : decode cX11_digest 42 = .ok (.aload 4, 2) := by decide +kernel
theorem dX11_digest_44 : decode cX11_digest 44 = .ok (.ifnonnull 7, 3) := by decide +kernel
theorem dX11_digest_47 : decode cX11_digest 47 = .ok (.lload_n 1, 1) := by decide +kernel
theorem dX11_digest_48 : decode cX11_digest 48 = .ok (.goto 10, 3) := by decide +kernel
theorem dX11_digest_51 : decode cX11_digest 51 = .ok (.aload_n 0, 1) := by decide +kernel
theorem dX11_digest_52 : decode cX11_digest 52 = .ok (.lload_n 1, 1) := by decide +kernel
theorem dX11_digest_53 : decode cX11_digest 53 = .ok (.aload 4, 2) := by decide +kernel
theorem dX11_digest_55 : decode cX11_digest 55 = .ok (.invokevirtual 262, 3) := by decide +kernel
theorem dX11_digest_58 : decode cX11_digest 58 = .ok (.lstore_n 1, 1) := by decide +kernel
theorem dX11_digest_59 : decode cX11_digest 59 = .ok (.iinc 3 1, 3) := by decide +kernel
theorem dX11_digest_62 : decode cX11_digest 62 = .ok (.goto (-36), 3) := by decide +kernel
theorem dX11_digest_65 : decode cX11_digest 65 = .ok (.aload_n 0, 1) := by decide +kernel
theorem dX11_digest_66 : decode cX11_digest 66 = .ok (.lload_n 1, 1) := by decide +kernel
theorem dX11_digest_67 : decode cX11_digest 67 = .ok (.invokevirtual 266, 3) := by decide +kernel
theorem dX11_digest_70 : decode cX11_digest 70 = .ok (.lstore_n 1, 1) := by decide +kernel
theorem dX11_digest_71 : decode cX11_digest 71 = .ok (.lload_n 1, 1) := by decide +kernel
theorem dX11_digest_72 : decode cX11_digest 72 = .ok (.aload_n 0, 1) := by decide +kernel
theorem dX11_digest_73 : decode cX11_digest 73 = .ok (.invokevirtual 269, 3) := by decide +kernel
theorem dX11_digest_76 : decode cX11_digest 76 = .ok (.invokestatic 272, 3) := by decide +kernel
theorem dX11_digest_79 : decode cX11_digest 79 = .ok (.lstore_n 1, 1) := by decide +kernel
theorem dX11_digest_80 : decode cX11_digest 80 = .ok (.lload_n 1, 1) := by decide +kernel
theorem dX11_digest_81 : decode cX11_digest 81 = .ok (.aload_n 0, 1) := by decide +kernel
theorem dX11_digest_82 : decode cX11_digest 82 = .ok (.invokevirtual 276, 3) := by decide +kernel
theorem dX11_digest_85 : decode cX11_digest 85 = .ok (.invokestatic 272, 3) := by decide +kernel
theorem dX11_digest_88 : decode cX11_digest 88 = .ok (.lstore_n 1, 1) := by decide +kernel
theorem dX11_digest_89 : decode cX11_digest 89 = .ok (.iconst 0, 1) := by decide +kernel
theorem dX11_digest_90 : decode cX11_digest 90 = .ok (.istore_n 3, 1) := by decide +kernel
theorem dX11_digest_91 : decode cX11_digest 91 = .ok (.iload_n 3, 1) := by decide +kernel
theorem dX11_digest_92 : decode cX11_digest 92 = .ok (.aload_n 0, 1) := by decide +kernel
theorem dX11_digest_93 : decode cX11_digest 93 = .ok (.getfield 10, 3) := by decide +kernel
theorem dX11_digest_96 : decode cX11_digest 96 = .ok (.getfield 63, 3) := by decide +kernel
theorem dX11_digest_99 : decode cX11_digest 99 = .ok (.if_icmp .ge 22, 3) := by decide +kernel
theorem dX11_digest_102 : decode cX11_digest 102 = .ok (.lload_n 1, 1) := by decide +kernel
theorem dX11_digest_103 : decode cX11_digest 103 = .ok (.aload_n 0, 1) := by decide +kernel
theorem dX11_digest_104 : decode cX11_digest 104 = .ok (.getfield 10, 3) := by decide +kernel
theorem dX11_digest_107 : decode cX11_digest 107 = .ok (.iload_n 3, 1) := by decide +kernel
theorem dX11_digest_108 : decode cX11_digest 108 = .ok (.invokevirtual 279, 3) := by decide +kernel
theorem dX11_digest_111 : decode cX11_digest 111 = .ok (.invokestatic 272, 3) := by decide +kernel
theorem dX11_digest_114 : decode cX11_digest 114 = .ok (.lstore_n 1, 1) := by decide +kernel
theorem dX11_digest_115 : decode cX11_digest 115 = .ok (.iinc 3 1, 3) := by decide +kernel
theorem dX11_digest_118 : decode cX11_digest 118 = .ok (.goto (-27), 3) := by decide +kernel
theorem dX11_digest_121 : decode cX11_digest 121 = .ok (.iconst 0, 1) := by decide +kernel
theorem dX11_digest_122 : decode cX11_digest 122 = .ok (.istore_n 3, 1) := by decide +kernel
theorem dX11_digest_123 : decode cX11_digest 123 = .ok (.iload_n 3, 1) := by decide +kernel
theorem dX11_digest_124 : decode cX11_digest 124 = .ok (.bipush 6, 2) := by decide +kernel
theorem dX11_digest_126 : decode cX11_digest 126 = .ok (.if_icmp .gt 19, 3) := by decide +kernel
theorem dX11_digest_129 : decode cX11_digest 129 = .ok (.lload_n 1, 1) := by decide +kernel
theorem dX11_digest_130 : decode cX11_digest 130 = .ok (.aload_n 0, 1) := by decide +kernel
theorem dX11_digest_131 : decode cX11_digest 131 = .ok (.iload_n 3, 1) := by decide +kernel
theorem dX11_digest_132 : decode cX11_digest 132 = .ok (.invokevirtual 282, 3) := by decide +kernel
theorem dX11_digest_135 : decode cX11_digest 135 = .ok (.invokestatic 272, 3) := by decide +kernel
theorem dX11_digest_138 : decode cX11_digest 138 = .ok (.lstore_n 1, 1) := by decide +kernel
theorem dX11_digest_139 : decode cX11_digest 139 = .ok (.iinc 3 1, 3) := by decide +kernel
theorem dX11_digest_142 : decode cX11_digest 142 = .ok (.goto (-19), 3) := by decide +kernel
theorem dX11_digest_145 : decode cX11_digest 145 = .ok (.lload_n 1, 1) := by decide +kernel
theorem dX11_digest_146 : decode cX11_digest 146 = .ok (.lreturn, 1) := by decide +kernel
theorem dX11_mix_0 : decode cX11_mix 0 = .ok (.ldc2_w 285, 3) := by decide +kernel
theorem dX11_mix_3 : decode cX11_mix 3 = .ok (.lload_n 0, 1) := by decide +kernel
theorem dX11_mix_4 : decode cX11_mix 4 = .ok (.lmul, 1) := by decide +kernel
theorem dX11_mix_5 : decode cX11_mix 5 = .ok (.iload_n 2, 1) := by decide +kernel
theorem dX11_mix_6 : decode cX11_mix 6 = .ok (.i2l, 1) := by decide +kernel
theorem dX11_mix_7 : decode cX11_mix 7 = .ok (.ladd, 1) := by decide +kernel
theorem dX11_mix_8 : decode cX11_mix 8 = .ok (.lreturn, 1) := by decide +kernel
theorem dX11_mixBoard_0 : decode cX11_mixBoard 0 = .ok (.lload_n 1, 1) := by decide +kernel
theorem dX11_mixBoard_1 : decode cX11_mixBoard 1 = .ok (.lstore_n 3, 1) := by decide +kernel
theorem dX11_mixBoard_2 : decode cX11_mixBoard 2 = .ok (.iconst 0, 1) := by decide +kernel
theorem dX11_mixBoard_3 : decode cX11_mixBoard 3 = .ok (.istore 5, 2) := by decide +kernel
theorem dX11_mixBoard_5 : decode cX11_mixBoard 5 = .ok (.iload 5, 2) := by decide +kernel
theorem dX11_mixBoard_7 : decode cX11_mixBoard 7 = .ok (.bipush 7, 2) := by decide +kernel
theorem dX11_mixBoard_9 : decode cX11_mixBoard 9 = .ok (.if_icmp .gt 23, 3) := by decide +kernel
theorem dX11_mixBoard_12 : decode cX11_mixBoard 12 = .ok (.lload_n 3, 1) := by decide +kernel
theorem dX11_mixBoard_13 : decode cX11_mixBoard 13 = .ok (.aload_n 0, 1) := by decide +kernel
theorem dX11_mixBoard_14 : decode cX11_mixBoard 14 = .ok (.getfield 19, 3) := by decide +kernel
theorem dX11_mixBoard_17 : decode cX11_mixBoard 17 = .ok (.iload 5, 2) := by decide +kernel
theorem dX11_mixBoard_19 : decode cX11_mixBoard 19 = .ok (.invokevirtual 95, 3) := by decide +kernel
theorem dX11_mixBoard_22 : decode cX11_mixBoard 22 = .ok (.invokestatic 272, 3) := by decide +kernel
theorem dX11_mixBoard_25 : decode cX11_mixBoard 25 = .ok (.lstore_n 3, 1) := by decide +kernel
theorem dX11_mixBoard_26 : decode cX11_mixBoard 26 = .ok (.iinc 5 1, 3) := by decide +kernel
theorem dX11_mixBoard_29 : decode cX11_mixBoard 29 = .ok (.goto (-24), 3) := by decide +kernel
theorem dX11_mixBoard_32 : decode cX11_mixBoard 32 = .ok (.iconst 0, 1) := by decide +kernel
theorem dX11_mixBoard_33 : decode cX11_mixBoard 33 = .ok (.istore 5, 2) := by decide +kernel
theorem dX11_mixBoard_35 : decode cX11_mixBoard 35 = .ok (.iload 5, 2) := by decide +kernel
theorem dX11_mixBoard_37 : decode cX11_mixBoard 37 = .ok (.bipush 54, 2) := by decide +kernel
theorem dX11_mixBoard_39 : decode cX11_mixBoard 39 = .ok (.if_icmp .ge 55, 3) := by decide +kernel
theorem dX11_mixBoard_42 : decode cX11_mixBoard 42 = .ok (.iconst 0, 1) := by decide +kernel
theorem dX11_mixBoard_43 : decode cX11_mixBoard 43 = .ok (.istore 6, 2) := by decide +kernel
theorem dX11_mixBoard_45 : decode cX11_mixBoard 45 = .ok (.iload 6, 2) := by decide +kernel
theorem dX11_mixBoard_47 : decode cX11_mixBoard 47 = .ok (.iconst 3, 1) := by decide +kernel
theorem dX11_mixBoard_48 : decode cX11_mixBoard 48 = .ok (.if_icmp .gt 40, 3) := by decide +kernel
theorem dX11_mixBoard_51 : decode cX11_mixBoard 51 = .ok (.aload_n 0, 1) := by decide +kernel
theorem dX11_mixBoard_52 : decode cX11_mixBoard 52 = .ok (.getfield 19, 3) := by decide +kernel
theorem dX11_mixBoard_55 : decode cX11_mixBoard 55 = .ok (.getfield 82, 3) := by decide +kernel
theorem dX11_mixBoard_58 : decode cX11_mixBoard 58 = .ok (.iload 5, 2) := by decide +kernel
theorem dX11_mixBoard_60 : decode cX11_mixBoard 60 = .ok (.invokevirtual 99, 3) := by decide +kernel
theorem dX11_mixBoard_63 : decode cX11_mixBoard 63 = .ok (.ifCond .eq 25, 3) := by decide +kernel
theorem dX11_mixBoard_66 : decode cX11_mixBoard 66 = .ok (.lload_n 3, 1) := by decide +kernel
theorem dX11_mixBoard_67 : decode cX11_mixBoard 67 = .ok (.aload_n 0, 1) := by decide +kernel
theorem dX11_mixBoard_68 : decode cX11_mixBoard 68 = .ok (.getfield 19, 3) := by decide +kernel
theorem dX11_mixBoard_71 : decode cX11_mixBoard 71 = .ok (.iload 5, 2) := by decide +kernel
theorem dX11_mixBoard_73 : decode cX11_mixBoard 73 = .ok (.iload 6, 2) := by decide +kernel
theorem dX11_mixBoard_75 : decode cX11_mixBoard 75 = .ok (.invokevirtual 102, 3) := by decide +kernel
theorem dX11_mixBoard_78 : decode cX11_mixBoard 78 = .ok (.invokestatic 272, 3) := by decide +kernel
theorem dX11_mixBoard_81 : decode cX11_mixBoard 81 = .ok (.lstore_n 3, 1) := by decide +kernel
theorem dX11_mixBoard_82 : decode cX11_mixBoard 82 = .ok (.iinc 6 1, 3) := by decide +kernel
theorem dX11_mixBoard_85 : decode cX11_mixBoard 85 = .ok (.goto (-40), 3) := by decide +kernel
theorem dX11_mixBoard_88 : decode cX11_mixBoard 88 = .ok (.iinc 5 1, 3) := by decide +kernel
theorem dX11_mixBoard_91 : decode cX11_mixBoard 91 = .ok (.goto (-56), 3) := by decide +kernel
theorem dX11_mixBoard_94 : decode cX11_mixBoard 94 = .ok (.lload_n 3, 1) := by decide +kernel
theorem dX11_mixBoard_95 : decode cX11_mixBoard 95 = .ok (.lreturn, 1) := by decide +kernel
theorem dX11_mixCircuit_0 : decode cX11_mixCircuit 0 = .ok (.lload_n 1, 1) := by decide +kernel
theorem dX11_mixCircuit_1 : decode cX11_mixCircuit 1 = .ok (.aload_n 3, 1) := by decide +kernel
theorem dX11_mixCircuit_2 : decode cX11_mixCircuit 2 = .ok (.getfield 154, 3) := by decide +kernel
theorem dX11_mixCircuit_5 : decode cX11_mixCircuit 5 = .ok (.invokestatic 272, 3) := by decide +kernel
theorem dX11_mixCircuit_8 : decode cX11_mixCircuit 8 = .ok (.lstore 4, 2) := by decide +kernel
theorem dX11_mixCircuit_10 : decode cX11_mixCircuit 10 = .ok (.iconst 0, 1) := by decide +kernel
theorem dX11_mixCircuit_11 : decode cX11_mixCircuit 11 = .ok (.istore 6, 2) := by decide +kernel
theorem dX11_mixCircuit_13 : decode cX11_mixCircuit 13 = .ok (.iload 6, 2) := by decide +kernel
theorem dX11_mixCircuit_15 : decode cX11_mixCircuit 15 = .ok (.bipush 14, 2) := by decide +kernel
theorem dX11_mixCircuit_17 : decode cX11_mixCircuit 17 = .ok (.if_icmp .gt 26, 3) := by decide +kernel
theorem dX11_mixCircuit_20 : decode cX11_mixCircuit 20 = .ok (.lload 4, 2) := by decide +kernel
theorem dX11_mixCircuit_22 : decode cX11_mixCircuit 22 = .ok (.aload_n 0, 1) := by decide +kernel
theorem dX11_mixCircuit_23 : decode cX11_mixCircuit 23 = .ok (.aload_n 3, 1) := by decide +kernel
theorem dX11_mixCircuit_24 : decode cX11_mixCircuit 24 = .ok (.getfield 154, 3) := by decide +kernel
theorem dX11_mixCircuit_27 : decode cX11_mixCircuit 27 = .ok (.iload 6, 2) := by decide +kernel
theorem dX11_mixCircuit_29 : decode cX11_mixCircuit 29 = .ok (.invokevirtual 287, 3) := by decide +kernel
theorem dX11_mixCircuit_32 : decode cX11_mixCircuit 32 = .ok (.invokestatic 272, 3) := by decide +kernel
theorem dX11_mixCircuit_35 : decode cX11_mixCircuit 35 = .ok (.lstore 4, 2) := by decide +kernel
theorem dX11_mixCircuit_37 : decode cX11_mixCircuit 37 = .ok (.iinc 6 1, 3) := by decide +kernel
theorem dX11_mixCircuit_40 : decode cX11_mixCircuit 40 = .ok (.goto (-27), 3) := by decide +kernel
theorem dX11_mixCircuit_43 : decode cX11_mixCircuit 43 = .ok (.iconst 0, 1) := by decide +kernel
theorem dX11_mixCircuit_44 : decode cX11_mixCircuit 44 = .ok (.istore 6, 2) := by decide +kernel
theorem dX11_mixCircuit_46 : decode cX11_mixCircuit 46 = .ok (.iload 6, 2) := by decide +kernel
theorem dX11_mixCircuit_48 : decode cX11_mixCircuit 48 = .ok (.aload_n 3, 1) := by decide +kernel
theorem dX11_mixCircuit_49 : decode cX11_mixCircuit 49 = .ok (.invokevirtual 169, 3) := by decide +kernel
theorem dX11_mixCircuit_52 : decode cX11_mixCircuit 52 = .ok (.if_icmp .ge 22, 3) := by decide +kernel
theorem dX11_mixCircuit_55 : decode cX11_mixCircuit 55 = .ok (.lload 4, 2) := by decide +kernel
theorem dX11_mixCircuit_57 : decode cX11_mixCircuit 57 = .ok (.aload_n 3, 1) := by decide +kernel
theorem dX11_mixCircuit_58 : decode cX11_mixCircuit 58 = .ok (.iload 6, 2) := by decide +kernel
theorem dX11_mixCircuit_60 : decode cX11_mixCircuit 60 = .ok (.invokevirtual 172, 3) := by decide +kernel
theorem dX11_mixCircuit_63 : decode cX11_mixCircuit 63 = .ok (.invokestatic 272, 3) := by decide +kernel
theorem dX11_mixCircuit_66 : decode cX11_mixCircuit 66 = .ok (.lstore 4, 2) := by decide +kernel
theorem dX11_mixCircuit_68 : decode cX11_mixCircuit 68 = .ok (.iinc 6 1, 3) := by decide +kernel
theorem dX11_mixCircuit_71 : decode cX11_mixCircuit 71 = .ok (.goto (-25), 3) := by decide +kernel
theorem dX11_mixCircuit_74 : decode cX11_mixCircuit 74 = .ok (.iconst 0, 1) := by decide +kernel
theorem dX11_mixCircuit_75 : decode cX11_mixCircuit 75 = .ok (.istore 6, 2) := by decide +kernel
theorem dX11_mixCircuit_77 : decode cX11_mixCircuit 77 = .ok (.iload 6, 2) := by decide +kernel
theorem dX11_mixCircuit_79 : decode cX11_mixCircuit 79 = .ok (.aload_n 3, 1) := by decide +kernel
theorem dX11_mixCircuit_80 : decode cX11_mixCircuit 80 = .ok (.getfield 175, 3) := by decide +kernel
theorem dX11_mixCircuit_83 : decode cX11_mixCircuit 83 = .ok (.if_icmp .ge 22, 3) := by decide +kernel
theorem dX11_mixCircuit_86 : decode cX11_mixCircuit 86 = .ok (.lload 4, 2) := by decide +kernel
theorem dX11_mixCircuit_88 : decode cX11_mixCircuit 88 = .ok (.aload_n 3, 1) := by decide +kernel
theorem dX11_mixCircuit_89 : decode cX11_mixCircuit 89 = .ok (.iload 6, 2) := by decide +kernel
theorem dX11_mixCircuit_91 : decode cX11_mixCircuit 91 = .ok (.invokevirtual 178, 3) := by decide +kernel
theorem dX11_mixCircuit_94 : decode cX11_mixCircuit 94 = .ok (.invokestatic 272, 3) := by decide +kernel
theorem dX11_mixCircuit_97 : decode cX11_mixCircuit 97 = .ok (.lstore 4, 2) := by decide +kernel
theorem dX11_mixCircuit_99 : decode cX11_mixCircuit 99 = .ok (.iinc 6 1, 3) := by decide +kernel
theorem dX11_mixCircuit_102 : decode cX11_mixCircuit 102 = .ok (.goto (-25), 3) := by decide +kernel
theorem dX11_mixCircuit_105 : decode cX11_mixCircuit 105 = .ok (.lload 4, 2) := by decide +kernel
theorem dX11_mixCircuit_107 : decode cX11_mixCircuit 107 = .ok (.lreturn, 1) := by decide +kernel
theorem dX11_mixStrays_0 : decode cX11_mixStrays 0 = .ok (.lload_n 1, 1) := by decide +kernel
theorem dX11_mixStrays_1 : decode cX11_mixStrays 1 = .ok (.lstore_n 3, 1) := by decide +kernel
theorem dX11_mixStrays_2 : decode cX11_mixStrays 2 = .ok (.iconst 0, 1) := by decide +kernel
theorem dX11_mixStrays_3 : decode cX11_mixStrays 3 = .ok (.istore 5, 2) := by decide +kernel
theorem dX11_mixStrays_5 : decode cX11_mixStrays 5 = .ok (.iload 5, 2) := by decide +kernel
theorem dX11_mixStrays_7 : decode cX11_mixStrays 7 = .ok (.aload_n 0, 1) := by decide +kernel
theorem dX11_mixStrays_8 : decode cX11_mixStrays 8 = .ok (.getfield 42, 3) := by decide +kernel
theorem dX11_mixStrays_11 : decode cX11_mixStrays 11 = .ok (.getfield 225, 3) := by decide +kernel
theorem dX11_mixStrays_14 : decode cX11_mixStrays 14 = .ok (.if_icmp .ge 37, 3) := by decide +kernel
theorem dX11_mixStrays_17 : decode cX11_mixStrays 17 = .ok (.iconst 0, 1) := by decide +kernel
theorem dX11_mixStrays_18 : decode cX11_mixStrays 18 = .ok (.istore 6, 2) := by decide +kernel
theorem dX11_mixStrays_20 : decode cX11_mixStrays 20 = .ok (.iload 6, 2) := by decide +kernel
theorem dX11_mixStrays_22 : decode cX11_mixStrays 22 = .ok (.iconst 4, 1) := by decide +kernel
theorem dX11_mixStrays_23 : decode cX11_mixStrays 23 = .ok (.if_icmp .gt 22, 3) := by decide +kernel
theorem dX11_mixStrays_26 : decode cX11_mixStrays 26 = .ok (.lload_n 3, 1) := by decide +kernel
theorem dX11_mixStrays_27 : decode cX11_mixStrays 27 = .ok (.aload_n 0, 1) := by decide +kernel
theorem dX11_mixStrays_28 : decode cX11_mixStrays 28 = .ok (.iload 5, 2) := by decide +kernel
theorem dX11_mixStrays_30 : decode cX11_mixStrays 30 = .ok (.iload 6, 2) := by decide +kernel
theorem dX11_mixStrays_32 : decode cX11_mixStrays 32 = .ok (.invokevirtual 290, 3) := by decide +kernel
theorem dX11_mixStrays_35 : decode cX11_mixStrays 35 = .ok (.invokestatic 272, 3) := by decide +kernel
theorem dX11_mixStrays_38 : decode cX11_mixStrays 38 = .ok (.lstore_n 3, 1) := by decide +kernel
theorem dX11_mixStrays_39 : decode cX11_mixStrays 39 = .ok (.iinc 6 1, 3) := by decide +kernel
theorem dX11_mixStrays_42 : decode cX11_mixStrays 42 = .ok (.goto (-22), 3) := by decide +kernel
theorem dX11_mixStrays_45 : decode cX11_mixStrays 45 = .ok (.iinc 5 1, 3) := by decide +kernel
theorem dX11_mixStrays_48 : decode cX11_mixStrays 48 = .ok (.goto (-43), 3) := by decide +kernel
theorem dX11_mixStrays_51 : decode cX11_mixStrays 51 = .ok (.iconst 0, 1) := by decide +kernel
theorem dX11_mixStrays_52 : decode cX11_mixStrays 52 = .ok (.istore 5, 2) := by decide +kernel
theorem dX11_mixStrays_54 : decode cX11_mixStrays 54 = .ok (.iload 5, 2) := by decide +kernel
theorem dX11_mixStrays_56 : decode cX11_mixStrays 56 = .ok (.iconst 2, 1) := by decide +kernel
theorem dX11_mixStrays_57 : decode cX11_mixStrays 57 = .ok (.if_icmp .gt 21, 3) := by decide +kernel
theorem dX11_mixStrays_60 : decode cX11_mixStrays 60 = .ok (.lload_n 3, 1) := by decide +kernel
theorem dX11_mixStrays_61 : decode cX11_mixStrays 61 = .ok (.aload_n 0, 1) := by decide +kernel
theorem dX11_mixStrays_62 : decode cX11_mixStrays 62 = .ok (.iconst 1, 1) := by decide +kernel
theorem dX11_mixStrays_63 : decode cX11_mixStrays 63 = .ok (.iload 5, 2) := by decide +kernel
theorem dX11_mixStrays_65 : decode cX11_mixStrays 65 = .ok (.invokevirtual 293, 3) := by decide +kernel
theorem dX11_mixStrays_68 : decode cX11_mixStrays 68 = .ok (.invokestatic 272, 3) := by decide +kernel
theorem dX11_mixStrays_71 : decode cX11_mixStrays 71 = .ok (.lstore_n 3, 1) := by decide +kernel
theorem dX11_mixStrays_72 : decode cX11_mixStrays 72 = .ok (.iinc 5 1, 3) := by decide +kernel
theorem dX11_mixStrays_75 : decode cX11_mixStrays 75 = .ok (.goto (-21), 3) := by decide +kernel
theorem dX11_mixStrays_78 : decode cX11_mixStrays 78 = .ok (.iconst 0, 1) := by decide +kernel
theorem dX11_mixStrays_79 : decode cX11_mixStrays 79 = .ok (.istore 5, 2) := by decide +kernel
theorem dX11_mixStrays_81 : decode cX11_mixStrays 81 = .ok (.iload 5, 2) := by decide +kernel
theorem dX11_mixStrays_83 : decode cX11_mixStrays 83 = .ok (.iconst 2, 1) := by decide +kernel
theorem dX11_mixStrays_84 : decode cX11_mixStrays 84 = .ok (.if_icmp .gt 21, 3) := by decide +kernel
theorem dX11_mixStrays_87 : decode cX11_mixStrays 87 = .ok (.lload_n 3, 1) := by decide +kernel
theorem dX11_mixStrays_88 : decode cX11_mixStrays 88 = .ok (.aload_n 0, 1) := by decide +kernel
theorem dX11_mixStrays_89 : decode cX11_mixStrays 89 = .ok (.iconst 0, 1) := by decide +kernel
theorem dX11_mixStrays_90 : decode cX11_mixStrays 90 = .ok (.iload 5, 2) := by decide +kernel
theorem dX11_mixStrays_92 : decode cX11_mixStrays 92 = .ok (.invokevirtual 293, 3) := by decide +kernel
theorem dX11_mixStrays_95 : decode cX11_mixStrays 95 = .ok (.invokestatic 272, 3) := by decide +kernel
theorem dX11_mixStrays_98 : decode cX11_mixStrays 98 = .ok (.lstore_n 3, 1) := by decide +kernel
theorem dX11_mixStrays_99 : decode cX11_mixStrays 99 = .ok (.iinc 5 1, 3) := by decide +kernel
theorem dX11_mixStrays_102 : decode cX11_mixStrays 102 = .ok (.goto (-21), 3) := by decide +kernel
theorem dX11_mixStrays_105 : decode cX11_mixStrays 105 = .ok (.lload_n 3, 1) := by decide +kernel
theorem dX11_mixStrays_106 : decode cX11_mixStrays 106 = .ok (.lreturn, 1) := by decide +kernel
theorem dX11_isKind_0 : decode cX11_isKind 0 = .ok (.iload_n 0, 1) := by decide +kernel
theorem dX11_isKind_1 : decode cX11_isKind 1 = .ok (.ifCond .lt 12, 3) := by decide +kernel
theorem dX11_isKind_4 : decode cX11_isKind 4 = .ok (.iload_n 0, 1) := by decide +kernel
theorem dX11_isKind_5 : decode cX11_isKind 5 = .ok (.iconst 4, 1) := by decide +kernel
theorem dX11_isKind_6 : decode cX11_isKind 6 = .ok (.if_icmp .gt 7, 3) := by decide +kernel
theorem dX11_isKind_9 : decode cX11_isKind 9 = .ok (.iconst 1, 1) := by decide +kernel
theorem dX11_isKind_10 : decode cX11_isKind 10 = .ok (.goto 4, 3) := by decide +kernel
theorem dX11_isKind_13 : decode cX11_isKind 13 = .ok (.iconst 0, 1) := by decide +kernel
theorem dX11_isKind_14 : decode cX11_isKind 14 = .ok (.ireturn, 1) := by decide +kernel
theorem dX11_isLinkNumber_0 : decode cX11_isLinkNumber 0 = .ok (.iload_n 0, 1) := by decide +kernel
theorem dX11_isLinkNumber_1 : decode cX11_isLinkNumber 1 = .ok (.ifCond .lt 13, 3) := by decide +kernel
theorem dX11_isLinkNumber_4 : decode cX11_isLinkNumber 4 = .ok (.iload_n 0, 1) := by decide +kernel
theorem dX11_isLinkNumber_5 : decode cX11_isLinkNumber 5 = .ok (.bipush 54, 2) := by decide +kernel
theorem dX11_isLinkNumber_7 : decode cX11_isLinkNumber 7 = .ok (.if_icmp .ge 7, 3) := by decide +kernel
theorem dX11_isLinkNumber_10 : decode cX11_isLinkNumber 10 = .ok (.iconst 1, 1) := by decide +kernel
theorem dX11_isLinkNumber_11 : decode cX11_isLinkNumber 11 = .ok (.goto 4, 3) := by decide +kernel
theorem dX11_isLinkNumber_14 : decode cX11_isLinkNumber 14 = .ok (.iconst 0, 1) := by decide +kernel
theorem dX11_isLinkNumber_15 : decode cX11_isLinkNumber 15 = .ok (.ireturn, 1) := by decide +kernel
theorem dX11_linkOf_0 : decode cX11_linkOf 0 = .ok (.bipush 6, 2) := by decide +kernel
theorem dX11_linkOf_2 : decode cX11_linkOf 2 = .ok (.iload_n 0, 1) := by decide +kernel
theorem dX11_linkOf_3 : decode cX11_linkOf 3 = .ok (.imul, 1) := by decide +kernel
theorem dX11_linkOf_4 : decode cX11_linkOf 4 = .ok (.iload_n 1, 1) := by decide +kernel
theorem dX11_linkOf_5 : decode cX11_linkOf 5 = .ok (.iadd, 1) := by decide +kernel
theorem dX11_linkOf_6 : decode cX11_linkOf 6 = .ok (.ireturn, 1) := by decide +kernel
theorem dX12_init_0 : decode cX12_init 0 = .ok (.aload_n 0, 1) := by decide +kernel
theorem dX12_init_1 : decode cX12_init 1 = .ok (.invokespecial 1, 3) := by decide +kernel
theorem dX12_init_4 : decode cX12_init 4 = .ok (.aload_n 0, 1) := by decide +kernel
theorem dX12_init_5 : decode cX12_init 5 = .ok (.bipush 54, 2) := by decide +kernel
theorem dX12_init_7 : decode cX12_init 7 = .ok (.newarray .boolean, 2) := by decide +kernel
theorem dX12_init_9 : decode cX12_init 9 = .ok (.putfield 7, 3) := by decide +kernel
theorem dX12_init_12 : decode cX12_init 12 = .ok (.aload_n 0, 1) := by decide +kernel
theorem dX12_init_13 : decode cX12_init 13 = .ok (.bipush 54, 2) := by decide +kernel
theorem dX12_init_15 : decode cX12_init 15 = .ok (.newarray .int, 2) := by decide +kernel
theorem dX12_init_17 : decode cX12_init 17 = .ok (.putfield 13, 3) := by decide +kernel
theorem dX12_init_20 : decode cX12_init 20 = .ok (.aload_n 0, 1) := by decide +kernel
theorem dX12_init_21 : decode cX12_init 21 = .ok (.bipush 30, 2) := by decide +kernel
theorem dX12_init_23 : decode cX12_init 23 = .ok (.newarray .int, 2) := by decide +kernel
theorem dX12_init_25 : decode cX12_init 25 = .ok (.putfield 17, 3) := by decide +kernel
theorem dX12_init_28 : decode cX12_init 28 = .ok (.aload_n 0, 1) := by decide +kernel
theorem dX12_init_29 : decode cX12_init 29 = .ok (.bipush 8, 2) := by decide +kernel
theorem dX12_init_31 : decode cX12_init 31 = .ok (.newarray .boolean, 2) := by decide +kernel
theorem dX12_init_33 : decode cX12_init 33 = .ok (.putfield 20, 3) := by decide +kernel
theorem dX12_init_36 : decode cX12_init 36 = .ok (.aload_n 0, 1) := by decide +kernel
theorem dX12_init_37 : decode cX12_init 37 = .ok (.bipush 8, 2) := by decide +kernel
theorem dX12_init_39 : decode cX12_init 39 = .ok (.newarray .int, 2) := by decide +kernel
theorem dX12_init_41 : decode cX12_init 41 = .ok (.putfield 23, 3) := by decide +kernel
theorem dX12_init_44 : decode cX12_init 44 = .ok (.aload_n 0, 1) := by decide +kernel
theorem dX12_init_45 : decode cX12_init 45 = .ok (.bipush 8, 2) := by decide +kernel
theorem dX12_init_47 : decode cX12_init 47 = .ok (.newarray .int, 2) := by decide +kernel
theorem dX12_init_49 : decode cX12_init 49 = .ok (.putfield 26, 3) := by decide +kernel
theorem dX12_init_52 : decode cX12_init 52 = .ok (.aload_n 0, 1) := by decide +kernel
theorem dX12_init_53 : decode cX12_init 53 = .ok (.bipush 8, 2) := by decide +kernel
theorem dX12_init_55 : decode cX12_init 55 = .ok (.newarray .int, 2) := by decide +kernel
theorem dX12_init_57 : decode cX12_init 57 = .ok (.putfield 29, 3) := by decide +kernel
theorem dX12_init_60 : decode cX12_init 60 = .ok (.aload_n 0, 1) := by decide +kernel
theorem dX12_init_61 : decode cX12_init 61 = .ok (.bipush 8, 2) := by decide +kernel
theorem dX12_init_63 : decode cX12_init 63 = .ok (.newarray .int, 2) := by decide +kernel
theorem dX12_init_65 : decode cX12_init 65 = .ok (.putfield 32, 3) := by decide +kernel
theorem dX12_init_68 : decode cX12_init 68 = .ok (.aload_n 0, 1) := by decide +kernel
theorem dX12_init_69 : decode cX12_init 69 = .ok (.bipush 8, 2) := by decide +kernel
theorem dX12_init_71 : decode cX12_init 71 = .ok (.newarray .int, 2) := by decide +kernel
theorem dX12_init_73 : decode cX12_init 73 = .ok (.putfield 35, 3) := by decide +kernel
theorem dX12_init_76 : decode cX12_init 76 = .ok (.aload_n 0, 1) := by decide +kernel
theorem dX12_init_77 : decode cX12_init 77 = .ok (.bipush 8, 2) := by decide +kernel
theorem dX12_init_79 : decode cX12_init 79 = .ok (.newarray .int, 2) := by decide +kernel
theorem dX12_init_81 : decode cX12_init 81 = .ok (.putfield 38, 3) := by decide +kernel
theorem dX12_init_84 : decode cX12_init 84 = .ok (.aload_n 0, 1) := by decide +kernel
theorem dX12_init_85 : decode cX12_init 85 = .ok (.bipush 64, 2) := by decide +kernel
theorem dX12_init_87 : decode cX12_init 87 = .ok (.newarray .int, 2) := by decide +kernel
theorem dX12_init_89 : decode cX12_init 89 = .ok (.putfield 41, 3) := by decide +kernel
theorem dX12_init_92 : decode cX12_init 92 = .ok (.aload_n 0, 1) := by decide +kernel
theorem dX12_init_93 : decode cX12_init 93 = .ok (.bipush 8, 2) := by decide +kernel
theorem dX12_init_95 : decode cX12_init 95 = .ok (.newarray .int, 2) := by decide +kernel
theorem dX12_init_97 : decode cX12_init 97 = .ok (.putfield 44, 3) := by decide +kernel
theorem dX12_init_100 : decode cX12_init 100 = .ok (.aload_n 0, 1) := by decide +kernel
theorem dX12_init_101 : decode cX12_init 101 = .ok (.bipush 8, 2) := by decide +kernel
theorem dX12_init_103 : decode cX12_init 103 = .ok (.newarray .int, 2) := by decide +kernel
theorem dX12_init_105 : decode cX12_init 105 = .ok (.putfield 47, 3) := by decide +kernel
theorem dX12_init_108 : decode cX12_init 108 = .ok (.aload_n 0, 1) := by decide +kernel
theorem dX12_init_109 : decode cX12_init 109 = .ok (.bipush 8, 2) := by decide +kernel
theorem dX12_init_111 : decode cX12_init 111 = .ok (.newarray .int, 2) := by decide +kernel
theorem dX12_init_113 : decode cX12_init 113 = .ok (.putfield 50, 3) := by decide +kernel
theorem dX12_init_116 : decode cX12_init 116 = .ok (.aload_n 0, 1) := by decide +kernel
theorem dX12_init_117 : decode cX12_init 117 = .ok (.bipush 8, 2) := by decide +kernel
theorem dX12_init_119 : decode cX12_init 119 = .ok (.newarray .int, 2) := by decide +kernel
theorem dX12_init_121 : decode cX12_init 121 = .ok (.putfield 53, 3) := by decide +kernel
theorem dX12_init_124 : decode cX12_init 124 = .ok (.aload_n 0, 1) := by decide +kernel
theorem dX12_init_125 : decode cX12_init 125 = .ok (.bipush 8, 2) := by decide +kernel
theorem dX12_init_127 : decode cX12_init 127 = .ok (.newarray .int, 2) := by decide +kernel
theorem dX12_init_129 : decode cX12_init 129 = .ok (.putfield 56, 3) := by decide +kernel
theorem dX12_init_132 : decode cX12_init 132 = .ok (.aload_n 0, 1) := by decide +kernel
theorem dX12_init_133 : decode cX12_init 133 = .ok (.bipush 8, 2) := by decide +kernel
theorem dX12_init_135 : decode cX12_init 135 = .ok (.newarray .int, 2) := by decide +kernel
theorem dX12_init_137 : decode cX12_init 137 = .ok (.putfield 59, 3) := by decide +kernel
theorem dX12_init_140 : decode cX12_init 140 = .ok (.aload_n 0, 1) := by decide +kernel
theorem dX12_init_141 : decode cX12_init 141 = .ok (.bipush 8, 2) := by decide +kernel
theorem dX12_init_143 : decode cX12_init 143 = .ok (.newarray .int, 2) := by decide +kernel
theorem dX12_init_145 : decode cX12_init 145 = .ok (.putfield 62, 3) := by decide +kernel
theorem dX12_init_148 : decode cX12_init 148 = .ok (.aload_n 0, 1) := by decide +kernel
theorem dX12_init_149 : decode cX12_init 149 = .ok (.bipush 8, 2) := by decide +kernel
theorem dX12_init_151 : decode cX12_init 151 = .ok (.newarray .int, 2) := by decide +kernel
theorem dX12_init_153 : decode cX12_init 153 = .ok (.putfield 65, 3) := by decide +kernel
theorem dX12_init_156 : decode cX12_init 156 = .ok (.aload_n 0, 1) := by decide +kernel
theorem dX12_init_157 : decode cX12_init 157 = .ok (.bipush 96, 2) := by decide +kernel
theorem dX12_init_159 : decode cX12_init 159 = .ok (.newarray .int, 2) := by decide +kernel
theorem dX12_init_161 : decode cX12_init 161 = .ok (.putfield 68, 3) := by decide +kernel
theorem dX12_init_164 : decode cX12_init 164 = .ok (.aload_n 0, 1) := by decide +kernel
theorem dX12_init_165 : decode cX12_init 165 = .ok (.bipush 96, 2) := by decide +kernel
theorem dX12_init_167 : decode cX12_init 167 = .ok (.newarray .int, 2) := by decide +kernel
theorem dX12_init_169 : decode cX12_init 169 = .ok (.putfield 71, 3) := by decide +kernel
theorem dX12_init_172 : decode cX12_init 172 = .ok (.aload_n 0, 1) := by decide +kernel
theorem dX12_init_173 : decode cX12_init 173 = .ok (.bipush 96, 2) := by decide +kernel
theorem dX12_init_175 : decode cX12_init 175 = .ok (.newarray .int, 2) := by decide +kernel
theorem dX12_init_177 : decode cX12_init 177 = .ok (.putfield 74, 3) := by decide +kernel
theorem dX12_init_180 : decode cX12_init 180 = .ok (.aload_n 0, 1) := by decide +kernel
theorem dX12_init_181 : decode cX12_init 181 = .ok (.bipush 96, 2) := by decide +kernel
theorem dX12_init_183 : decode cX12_init 183 = .ok (.newarray .int, 2) := by decide +kernel
theorem dX12_init_185 : decode cX12_init 185 = .ok (.putfield 77, 3) := by decide +kernel
theorem dX12_init_188 : decode cX12_init 188 = .ok (.aload_n 0, 1) := by decide +kernel
theorem dX12_init_189 : decode cX12_init 189 = .ok (.bipush 12, 2) := by decide +kernel
theorem dX12_init_191 : decode cX12_init 191 = .ok (.newarray .int, 2) := by decide +kernel
theorem dX12_init_193 : decode cX12_init 193 = .ok (.putfield 80, 3) := by decide +kernel
theorem dX12_init_196 : decode cX12_init 196 = .ok (.aload_n 0, 1) := by decide +kernel
theorem dX12_init_197 : decode cX12_init 197 = .ok (.bipush 12, 2) := by decide +kernel
theorem dX12_init_199 : decode cX12_init 199 = .ok (.newarray .int, 2) := by decide +kernel
theorem dX12_init_201 : decode cX12_init 201 = .ok (.putfield 83, 3) := by decide +kernel
theorem dX12_init_204 : decode cX12_init 204 = .ok (.aload_n 0, 1) := by decide +kernel
theorem dX12_init_205 : decode cX12_init 205 = .ok (.bipush 12, 2) := by decide +kernel
theorem dX12_init_207 : decode cX12_init 207 = .ok (.newarray .boolean, 2) := by decide +kernel
theorem dX12_init_209 : decode cX12_init 209 = .ok (.putfield 86, 3) := by decide +kernel
theorem dX12_init_212 : decode cX12_init 212 = .ok (.aload_n 0, 1) := by decide +kernel
theorem dX12_init_213 : decode cX12_init 213 = .ok (.bipush 12, 2) := by decide +kernel
theorem dX12_init_215 : decode cX12_init 215 = .ok (.newarray .int, 2) := by decide +kernel
theorem dX12_init_217 : decode cX12_init 217 = .ok (.putfield 89, 3) := by decide +kernel
theorem dX12_init_220 : decode cX12_init 220 = .ok (.aload_n 0, 1) := by decide +kernel
theorem dX12_init_221 : decode cX12_init 221 = .ok (.bipush 12, 2) := by decide +kernel
theorem dX12_init_223 : decode cX12_init 223 = .ok (.newarray .int, 2) := by decide +kernel
theorem dX12_init_225 : decode cX12_init 225 = .ok (.putfield 92, 3) := by decide +kernel
theorem dX12_init_228 : decode cX12_init 228 = .ok (.aload_n 0, 1) := by decide +kernel
theorem dX12_init_229 : decode cX12_init 229 = .ok (.iconst 2, 1) := by decide +kernel
theorem dX12_init_230 : decode cX12_init 230 = .ok (.newarray .int, 2) := by decide +kernel
theorem dX12_init_232 : decode cX12_init 232 = .ok (.putfield 95, 3) := by decide +kernel
theorem dX12_init_235 : decode cX12_init 235 = .ok (.aload_n 0, 1) := by decide +kernel
theorem dX12_init_236 : decode cX12_init 236 = .ok (.iconst 2, 1) := by decide +kernel
theorem dX12_init_237 : decode cX12_init 237 = .ok (.newarray .int, 2) := by decide +kernel
theorem dX12_init_239 : decode cX12_init 239 = .ok (.putfield 98, 3) := by decide +kernel
theorem dX12_init_242 : decode cX12_init 242 = .ok (.aload_n 0, 1) := by decide +kernel
theorem dX12_init_243 : decode cX12_init 243 = .ok (.iconst 2, 1) := by decide +kernel
theorem dX12_init_244 : decode cX12_init 244 = .ok (.newarray .int, 2) := by decide +kernel
theorem dX12_init_246 : decode cX12_init 246 = .ok (.putfield 101, 3) := by decide +kernel
theorem dX12_init_249 : decode cX12_init 249 = .ok (.aload_n 0, 1) := by decide +kernel
theorem dX12_init_250 : decode cX12_init 250 = .ok (.bipush 54, 2) := by decide +kernel
theorem dX12_init_252 : decode cX12_init 252 = .ok (.newarray .boolean, 2) := by decide +kernel
theorem dX12_init_254 : decode cX12_init 254 = .ok (.putfield 104, 3) := by decide +kernel
theorem dX12_init_257 : decode cX12_init 257 = .ok (.aload_n 0, 1) := by decide +kernel
theorem dX12_init_258 : decode cX12_init 258 = .ok (.bipush 8, 2) := by decide +kernel
theorem dX12_init_260 : decode cX12_init 260 = .ok (.newarray .int, 2) := by decide +kernel
theorem dX12_init_262 : decode cX12_init 262 = .ok (.putfield 107, 3) := by decide +kernel
theorem dX12_init_265 : decode cX12_init 265 = .ok (.aload_n 0, 1) := by decide +kernel
theorem dX12_init_266 : decode cX12_init 266 = .ok (.bipush 9, 2) := by decide +kernel
theorem dX12_init_268 : decode cX12_init 268 = .ok (.newarray .boolean, 2) := by decide +kernel
theorem dX12_init_270 : decode cX12_init 270 = .ok (.putfield 110, 3) := by decide +kernel
theorem dX12_init_273 : decode cX12_init 273 = .ok (.aload_n 0, 1) := by decide +kernel
theorem dX12_init_274 : decode cX12_init 274 = .ok (.bipush 12, 2) := by decide +kernel
theorem dX12_init_276 : decode cX12_init 276 = .ok (.newarray .int, 2) := by decide +kernel
theorem dX12_init_278 : decode cX12_init 278 = .ok (.putfield 113, 3) := by decide +kernel
theorem dX12_init_281 : decode cX12_init 281 = .ok (.aload_n 0, 1) := by decide +kernel
theorem dX12_init_282 : decode cX12_init 282 = .ok (.bipush 12, 2) := by decide +kernel
theorem dX12_init_284 : decode cX12_init 284 = .ok (.newarray .boolean, 2) := by decide +kernel
theorem dX12_init_286 : decode cX12_init 286 = .ok (.putfield 116, 3) := by decide +kernel
theorem dX12_init_289 : decode cX12_init 289 = .ok (.return_, 1) := by decide +kernel
theorem dX12_within_0 : decode cX12_within 0 = .ok (.iload_n 0, 1) := by decide +kernel
theorem dX12_within_1 : decode cX12_within 1 = .ok (.iload_n 1, 1) := by decide +kernel
theorem dX12_within_2 : decode cX12_within 2 = .ok (.if_icmp .lt 12, 3) := by decide +kernel
theorem dX12_within_5 : decode cX12_within 5 = .ok (.iload_n 0, 1) := by decide +kernel
theorem dX12_within_6 : decode cX12_within 6 = .ok (.iload_n 2, 1) := by decide +kernel
theorem dX12_within_7 : decode cX12_within 7 = .ok (.if_icmp .gt 7, 3) := by decide +kernel
theorem dX12_within_10 : decode cX12_within 10 = .ok (.iconst 1, 1) := by decide +kernel
theorem dX12_within_11 : decode cX12_within 11 = .ok (.goto 4, 3) := by decide +kernel
theorem dX12_within_14 : decode cX12_within 14 = .ok (.iconst 0, 1) := by decide +kernel
theorem dX12_within_15 : decode cX12_within 15 = .ok (.ireturn, 1) := by decide +kernel
theorem dX12_isBit_0 : decode cX12_isBit 0 = .ok (.iload_n 0, 1) := by decide +kernel
theorem dX12_isBit_1 : decode cX12_isBit 1 = .ok (.iload_n 1, 1) := by decide +kernel
theorem dX12_isBit_2 : decode cX12_isBit 2 = .ok (.ishr, 1) := by decide +kernel
theorem dX12_isBit_3 : decode cX12_isBit 3 = .ok (.iconst 1, 1) := by decide +kernel
theorem dX12_isBit_4 : decode cX12_isBit 4 = .ok (.iand, 1) := by decide +kernel
theorem dX12_isBit_5 : decode cX12_isBit 5 = .ok (.iconst 1, 1) := by decide +kernel
theorem dX12_isBit_6 : decode cX12_isBit 6 = .ok (.if_icmp .ne 7, 3) := by decide +kernel
theorem dX12_isBit_9 : decode cX12_isBit 9 = .ok (.iconst 1, 1) := by decide +kernel
theorem dX12_isBit_10 : decode cX12_isBit 10 = .ok (.goto 4, 3) := by decide +kernel
theorem dX12_isBit_13 : decode cX12_isBit 13 = .ok (.iconst 0, 1) := by decide +kernel
theorem dX12_isBit_14 : decode cX12_isBit 14 = .ok (.ireturn, 1) := by decide +kernel
theorem dX12_size_0 : decode cX12_size 0 = .ok (.iconst 0, 1) := by decide +kernel
theorem dX12_size_1 : decode cX12_size 1 = .ok (.istore_n 1, 1) := by decide +kernel
theorem dX12_size_2 : decode cX12_size 2 = .ok (.iconst 0, 1) := by decide +kernel
theorem dX12_size_3 : decode cX12_size 3 = .ok (.istore_n 2, 1) := by decide +kernel
theorem dX12_size_4 : decode cX12_size 4 = .ok (.iload_n 2, 1) := by decide +kernel
theorem dX12_size_5 : decode cX12_size 5 = .ok (.bipush 16, 2) := by decide +kernel
theorem dX12_size_7 : decode cX12_size 7 = .ok (.if_icmp .ge 17, 3) := by decide +kernel
theorem dX12_size_10 : decode cX12_size 10 = .ok (.iload_n 1, 1) := by decide +kernel
theorem dX12_size_11 : decode cX12_size 11 = .ok (.iload_n 0, 1) := by decide +kernel
theorem dX12_size_12 : decode cX12_size 12 = .ok (.iload_n 2, 1) := by decide +kernel
theorem dX12_size_13 : decode cX12_size 13 = .ok (.ishr, 1) := by decide +kernel
theorem dX12_size_14 : decode cX12_size 14 = .ok (.iconst 1, 1) := by decide +kernel
theorem dX12_size_15 : decode cX12_size 15 = .ok (.iand, 1) := by decide +kernel
theorem dX12_size_16 : decode cX12_size 16 = .ok (.iadd, 1) := by decide +kernel
theorem dX12_size_17 : decode cX12_size 17 = .ok (.istore_n 1, 1) := by decide +kernel
theorem dX12_size_18 : decode cX12_size 18 = .ok (.iinc 2 1, 3) := by decide +kernel
theorem dX12_size_21 : decode cX12_size 21 = .ok (.goto (-17), 3) := by decide +kernel
theorem dX12_size_24 : decode cX12_size 24 = .ok (.iload_n 1, 1) := by decide +kernel
theorem dX12_size_25 : decode cX12_size 25 = .ok (.ireturn, 1) := by decide +kernel
theorem dX12_leadsTo_0 : decode cX12_leadsTo 0 = .ok (.iload_n 0, 1) := by decide +kernel
theorem dX12_leadsTo_1 : decode cX12_leadsTo 1 = .ok (.iload_n 2, 1) := by decide +kernel
theorem dX12_leadsTo_2 : decode cX12_leadsTo 2 = .ok (.irem, 1) := by decide +kernel
theorem dX12_leadsTo_3 : decode cX12_leadsTo 3 = .ok (.istore 4, 2) := by decide +kernel
theorem dX12_leadsTo_5 : decode cX12_leadsTo 5 = .ok (.iload_n 0, 1) := by decide +kernel
theorem dX12_leadsTo_6 : decode cX12_leadsTo 6 = .ok (.iload_n 2, 1) := by decide +kernel
theorem dX12_leadsTo_7 : decode cX12_leadsTo 7 = .ok (.idiv, 1) := by decide +kernel
theorem dX12_leadsTo_8 : decode cX12_leadsTo 8 = .ok (.istore 5, 2) := by decide +kernel
theorem dX12_leadsTo_10 : decode cX12_leadsTo 10 = .ok (.iload_n 1, 1) := by decide +kernel
theorem dX12_leadsTo_11 : decode cX12_leadsTo 11 = .ok (.tableswitch 97 0 5 #[37, 97, 39, 52, 68, 84], 37) := by decide +kernel
theorem dX12_leadsTo_48 : decode cX12_leadsTo 48 = .ok (.iload_n 0, 1) := by decide +kernel
theorem dX12_leadsTo_49 : decode cX12_leadsTo 49 = .ok (.ireturn, 1) := by decide +kernel
theorem dX12_leadsTo_50 : decode cX12_leadsTo 50 = .ok (.iload 5, 2) := by decide +kernel
theorem dX12_leadsTo_52 : decode cX12_leadsTo 52 = .ok (.ifCond .le 9, 3) := by decide +kernel
theorem dX12_leadsTo_55 : decode cX12_leadsTo 55 = .ok (.iload_n 0, 1) := by decide +kernel
theorem dX12_leadsTo_56 : decode cX12_leadsTo 56 = .ok (.iload_n 2, 1) := by decide +kernel
theorem dX12_leadsTo_57 : decode cX12_leadsTo 57 = .ok (.isub, 1) := by decide +kernel
theorem dX12_leadsTo_58 : decode cX12_leadsTo 58 = .ok (.goto 4, 3) := by decide +kernel
theorem dX12_leadsTo_61 : decode cX12_leadsTo 61 = .ok (.iconst (-1), 1) := by decide +kernel
theorem dX12_leadsTo_62 : decode cX12_leadsTo 62 = .ok (.ireturn, 1) := by decide +kernel
theorem dX12_leadsTo_63 : decode cX12_leadsTo 63 = .ok (.iload 4, 2) := by decide +kernel
theorem dX12_leadsTo_65 : decode cX12_leadsTo 65 = .ok (.iload_n 2, 1) := by decide +kernel
theorem dX12_leadsTo_66 : decode cX12_leadsTo 66 = .ok (.iconst 1, 1) := by decide +kernel
theorem dX12_leadsTo_67 : decode cX12_leadsTo 67 = .ok (.isub, 1) := by decide +kernel
theorem dX12_leadsTo_68 : decode cX12_leadsTo 68 = .ok (.if_icmp .ge 9, 3) := by decide +kernel
theorem dX12_leadsTo_71 : decode cX12_leadsTo 71 = .ok (.iload_n 0, 1) := by decide +kernel
theorem dX12_leadsTo_72 : decode cX12_leadsTo 72 = .ok (.iconst 1, 1) := by decide +kernel
theorem dX12_leadsTo_73 : decode cX12_leadsTo 73 = .ok (.iadd, 1) := by decide +kernel
theorem dX12_leadsTo_74 : decode cX12_leadsTo 74 = .ok (.goto 4, 3) := by decide +kernel
theorem dX12_leadsTo_77 : decode cX12_leadsTo 77 = .ok (.iconst (-1), 1) := by decide +kernel
theorem dX12_leadsTo_78 : decode cX12_leadsTo 78 = .ok (.ireturn, 1) := by decide +kernel
theorem dX12_leadsTo_79 : decode cX12_leadsTo 79 = .ok (.iload 5, 2) := by decide +kernel
theorem dX12_leadsTo_81 : decode cX12_leadsTo 81 = .ok (.iload_n 3, 1) := by decide +kernel
theorem dX12_leadsTo_82 : decode cX12_leadsTo 82 = .ok (.iconst 1, 1) := by decide +kernel
theorem dX12_leadsTo_83 : decode cX12_leadsTo 83 = .ok (.isub, 1) := by decide +kernel
theorem dX12_leadsTo_84 : decode cX12_leadsTo 84 = .ok (.if_icmp .ge 9, 3) := by decide +kernel
theorem dX12_leadsTo_87 : decode cX12_leadsTo 87 = .ok (.iload_n 0, 1) := by decide +kernel
theorem dX12_leadsTo_88 : decode cX12_leadsTo 88 = .ok (.iload_n 2, 1) := by decide +kernel
theorem dX12_leadsTo_89 : decode cX12_leadsTo 89 = .ok (.iadd, 1) := by decide +kernel
theorem dX12_leadsTo_90 : decode cX12_leadsTo 90 = .ok (.goto 4, 3) := by decide +kernel
theorem dX12_leadsTo_93 : decode cX12_leadsTo 93 = .ok (.iconst (-1), 1) := by decide +kernel
theorem dX12_leadsTo_94 : decode cX12_leadsTo 94 = .ok (.ireturn, 1) := by decide +kernel
theorem dX12_leadsTo_95 : decode cX12_leadsTo 95 = .ok (.iload 4, 2) := by decide +kernel
theorem dX12_leadsTo_97 : decode cX12_leadsTo 97 = .ok (.ifCond .le 9, 3) := by decide +kernel
theorem dX12_leadsTo_100 : decode cX12_leadsTo 100 = .ok (.iload_n 0, 1) := by decide +kernel
theorem dX12_leadsTo_101 : decode cX12_leadsTo 101 = .ok (.iconst 1, 1) := by decide +kernel
theorem dX12_leadsTo_102 : decode cX12_leadsTo 102 = .ok (.isub, 1) := by decide +kernel
theorem dX12_leadsTo_103 : decode cX12_leadsTo 103 = .ok (.goto 4, 3) := by decide +kernel
theorem dX12_leadsTo_106 : decode cX12_leadsTo 106 = .ok (.iconst (-1), 1) := by decide +kernel
theorem dX12_leadsTo_107 : decode cX12_leadsTo 107 = .ok (.ireturn, 1) := by decide +kernel
theorem dX12_leadsTo_108 : decode cX12_leadsTo 108 = .ok (.iconst (-1), 1) := by decide +kernel
theorem dX12_leadsTo_109 : decode cX12_leadsTo 109 = .ok (.ireturn, 1) := by decide +kernel
theorem dX12_routers_0 : decode cX12_routers 0 = .ok (.aload_n 0, 1) := by decide +kernel
theorem dX12_routers_1 : decode cX12_routers 1 = .ok (.getfield 119, 3) := by decide +kernel
theorem dX12_routers_4 : decode cX12_routers 4 = .ok (.aload_n 0, 1) := by decide +kernel
theorem dX12_routers_5 : decode cX12_routers 5 = .ok (.getfield 123, 3) := by decide +kernel
theorem dX12_routers_8 : decode cX12_routers 8 = .ok (.imul, 1) := by decide +kernel
theorem dX12_routers_9 : decode cX12_routers 9 = .ok (.ireturn, 1) := by decide +kernel
theorem dX12_isRouter_0 : decode cX12_isRouter 0 = .ok (.iload_n 1, 1) := by decide +kernel
theorem dX12_isRouter_1 : decode cX12_isRouter 1 = .ok (.iconst 0, 1) := by decide +kernel
theorem dX12_isRouter_2 : decode cX12_isRouter 2 = .ok (.aload_n 0, 1) := by decide +kernel
theorem dX12_isRouter_3 : decode cX12_isRouter 3 = .ok (.invokevirtual 126, 3) := by decide +kernel
theorem dX12_isRouter_6 : decode cX12_isRouter 6 = .ok (.iconst 1, 1) := by decide +kernel
theorem dX12_isRouter_7 : decode cX12_isRouter 7 = .ok (.isub, 1) := by decide +kernel
theorem dX12_isRouter_8 : decode cX12_isRouter 8 = .ok (.invokestatic 130, 3) := by decide +kernel
theorem dX12_isRouter_11 : decode cX12_isRouter 11 = .ok (.ireturn, 1) := by decide +kernel
theorem dX12_isLink_0 : decode cX12_isLink 0 = .ok (.iload_n 1, 1) := by decide +kernel
theorem dX12_isLink_1 : decode cX12_isLink 1 = .ok (.iconst 0, 1) := by decide +kernel
theorem dX12_isLink_2 : decode cX12_isLink 2 = .ok (.bipush 6, 2) := by decide +kernel
theorem dX12_isLink_4 : decode cX12_isLink 4 = .ok (.aload_n 0, 1) := by decide +kernel
theorem dX12_isLink_5 : decode cX12_isLink 5 = .ok (.invokevirtual 126, 3) := by decide +kernel
theorem dX12_isLink_8 : decode cX12_isLink 8 = .ok (.imul, 1) := by decide +kernel
theorem dX12_isLink_9 : decode cX12_isLink 9 = .ok (.iconst 1, 1) := by decide +kernel
theorem dX12_isLink_10 : decode cX12_isLink 10 = .ok (.isub, 1) := by decide +kernel
theorem dX12_isLink_11 : decode cX12_isLink 11 = .ok (.invokestatic 130, 3) := by decide +kernel
theorem dX12_isLink_14 : decode cX12_isLink 14 = .ok (.ifCond .ne 5, 3) := by decide +kernel
theorem dX12_isLink_17 : decode cX12_isLink 17 = .ok (.iconst 0, 1) := by decide +kernel
theorem dX12_isLink_18 : decode cX12_isLink 18 = .ok (.ireturn, 1) := by decide +kernel
theorem dX12_isLink_19 : decode cX12_isLink 19 = .ok (.iload_n 1, 1) := by decide +kernel
theorem dX12_isLink_20 : decode cX12_isLink 20 = .ok (.bipush 6, 2) := by decide +kernel
theorem dX12_isLink_22 : decode cX12_isLink 22 = .ok (.irem, 1) := by decide +kernel
theorem dX12_isLink_23 : decode cX12_isLink 23 = .ok (.iconst 2, 1) := by decide +kernel
theorem dX12_isLink_24 : decode cX12_isLink 24 = .ok (.if_icmp .lt 26, 3) := by decide +kernel
theorem dX12_isLink_27 : decode cX12_isLink 27 = .ok (.iload_n 1, 1) := by decide +kernel
theorem dX12_isLink_28 : decode cX12_isLink 28 = .ok (.bipush 6, 2) := by decide +kernel
theorem dX12_isLink_30 : decode cX12_isLink 30 = .ok (.idiv, 1) := by decide +kernel
theorem dX12_isLink_31 : decode cX12_isLink 31 = .ok (.iload_n 1, 1) := by decide +kernel
theorem dX12_isLink_32 : decode cX12_isLink 32 = .ok (.bipush 6, 2) := by decide +kernel
theorem dX12_isLink_34 : decode cX12_isLink 34 = .ok (.irem, 1) := by decide +kernel
theorem dX12_isLink_35 : decode cX12_isLink 35 = .ok (.aload_n 0, 1) := by decide +kernel
theorem dX12_isLink_36 : decode cX12_isLink 36 = .ok (.getfield 119, 3) := by decide +kernel
theorem dX12_isLink_39 : decode cX12_isLink 39 = .ok (.aload_n 0, 1) := by decide +kernel
theorem dX12_isLink_40 : decode cX12_isLink 40 = .ok (.getfield 123, 3) := by decide +kernel
theorem dX12_isLink_43 : decode cX12_isLink 43 = .ok (.invokestatic 134, 3) := by decide +kernel
theorem dX12_isLink_46 : decode cX12_isLink 46 = .ok (.iconst (-1), 1) := by decide +kernel
theorem dX12_isLink_47 : decode cX12_isLink 47 = .ok (.if_icmp .eq 7, 3) := by decide +kernel
theorem dX12_isLink_50 : decode cX12_isLink 50 = .ok (.iconst 1, 1) := by decide +kernel
theorem dX12_isLink_51 : decode cX12_isLink 51 = .ok (.goto 4, 3) := by decide +kernel
theorem dX12_isLink_54 : decode cX12_isLink 54 = .ok (.iconst 0, 1) := by decide +kernel
theorem dX12_isLink_55 : decode cX12_isLink 55 = .ok (.ireturn, 1) := by decide +kernel
theorem dX12_letter_0 : decode cX12_letter 0 = .ok (.iload_n 1, 1) := by decide +kernel
theorem dX12_letter_1 : decode cX12_letter 1 = .ok (.bipush 32, 2) := by decide +kernel
theorem dX12_letter_3 : decode cX12_letter 3 = .ok (.bipush 126, 2) := by decide +kernel
theorem dX12_letter_5 : decode cX12_letter 5 = .ok (.invokestatic 130, 3) := by decide +kernel
theorem dX12_letter_8 : decode cX12_letter 8 = .ok (.ifCond .ne 6, 3) := by decide +kernel
theorem dX12_letter_11 : decode cX12_letter 11 = .ok (.bipush (-102), 2) := by decide +kernel
theorem dX12_letter_13 : decode cX12_letter 13 = .ok (.ireturn, 1) := by decide +kernel
theorem dX12_letter_14 : decode cX12_letter 14 = .ok (.aload_n 0, 1) := by decide +kernel
theorem dX12_letter_15 : decode cX12_letter 15 = .ok (.getfield 138, 3) := by decide +kernel
theorem dX12_letter_18 : decode cX12_letter 18 = .ok (.bipush 30, 2) := by decide +kernel
theorem dX12_letter_20 : decode cX12_letter 20 = .ok (.if_icmp .ne 6, 3) := by decide +kernel
theorem dX12_letter_23 : decode cX12_letter 23 = .ok (.bipush (-104), 2) := by decide +kernel
theorem dX12_letter_25 : decode cX12_letter 25 = .ok (.ireturn, 1) := by decide +kernel
theorem dX12_letter_26 : decode cX12_letter 26 = .ok (.aload_n 0, 1) := by decide +kernel
theorem dX12_letter_27 : decode cX12_letter 27 = .ok (.getfield 17, 3) := by decide +kernel
theorem dX12_letter_30 : decode cX12_letter 30 = .ok (.aload_n 0, 1) := by decide +kernel
theorem dX12_letter_31 : decode cX12_letter 31 = .ok (.getfield 138, 3) := by decide +kernel
theorem dX12_letter_34 : decode cX12_letter 34 = .ok (.iload_n 1, 1) := by decide +kernel
theorem dX12_letter_35 : decode cX12_letter 35 = .ok (.iastore, 1) := by decide +kernel
theorem dX12_letter_36 : decode cX12_letter 36 = .ok (.aload_n 0, 1) := by decide +kernel
theorem dX12_letter_37 : decode cX12_letter 37 = .ok (.dup, 1) := by decide +kernel
theorem dX12_letter_38 : decode cX12_letter 38 = .ok (.getfield 138, 3) := by decide +kernel
theorem dX12_letter_41 : decode cX12_letter 41 = .ok (.iconst 1, 1) := by decide +kernel
theorem dX12_letter_42 : decode cX12_letter 42 = .ok (.iadd, 1) := by decide +kernel
theorem dX12_letter_43 : decode cX12_letter 43 = .ok (.putfield 138, 3) := by decide +kernel
theorem dX12_letter_46 : decode cX12_letter 46 = .ok (.aload_n 0, 1) := by decide +kernel
theorem dX12_letter_47 : decode cX12_letter 47 = .ok (.getfield 138, 3) := by decide +kernel
theorem dX12_letter_50 : decode cX12_letter 50 = .ok (.ireturn, 1) := by decide +kernel
theorem dX12_blank_0 : decode cX12_blank 0 = .ok (.aload_n 0, 1) := by decide +kernel
theorem dX12_blank_1 : decode cX12_blank 1 = .ok (.getfield 138, 3) := by decide +kernel
theorem dX12_blank_4 : decode cX12_blank 4 = .ok (.istore_n 1, 1) := by decide +kernel
theorem dX12_blank_5 : decode cX12_blank 5 = .ok (.aload_n 0, 1) := by decide +kernel
theorem dX12_blank_6 : decode cX12_blank 6 = .ok (.iconst 0, 1) := by decide +kernel
theorem dX12_blank_7 : decode cX12_blank 7 = .ok (.putfield 138, 3) := by decide +kernel
theorem dX12_blank_10 : decode cX12_blank 10 = .ok (.iload_n 1, 1) := by decide +kernel
theorem dX12_blank_11 : decode cX12_blank 11 = .ok (.ireturn, 1) := by decide +kernel
theorem dX12_isLeft_0 : decode cX12_isLeft 0 = .ok (.iload_n 1, 1) := by decide +kernel
theorem dX12_isLeft_1 : decode cX12_isLeft 1 = .ok (.iload_n 2, 1) := by decide +kernel
theorem dX12_isLeft_2 : decode cX12_isLeft 2 = .ok (.aload_n 0, 1) := by decide +kernel
theorem dX12_isLeft_3 : decode cX12_isLeft 3 = .ok (.getfield 141, 3) := by decide +kernel
theorem dX12_isLeft_6 : decode cX12_isLeft 6 = .ok (.aload_n 0, 1) := by decide +kernel
theorem dX12_isLeft_7 : decode cX12_isLeft 7 = .ok (.getfield 144, 3) := by decide +kernel
theorem dX12_isLeft_10 : decode cX12_isLeft 10 = .ok (.invokestatic 134, 3) := by decide +kernel
theorem dX12_isLeft_13 : decode cX12_isLeft 13 = .ok (.iconst (-1), 1) := by decide +kernel
theorem dX12_isLeft_14 : decode cX12_isLeft 14 = .ok (.if_icmp .eq 21, 3) := by decide +kernel
theorem dX12_isLeft_17 : decode cX12_isLeft 17 = .ok (.aload_n 0, 1) := by decide +kernel
theorem dX12_isLeft_18 : decode cX12_isLeft 18 = .ok (.getfield 104, 3) := by decide +kernel
theorem dX12_isLeft_21 : decode cX12_isLeft 21 = .ok (.bipush 6, 2) := by decide +kernel
theorem dX12_isLeft_23 : decode cX12_isLeft 23 = .ok (.iload_n 1, 1) := by decide +kernel
theorem dX12_isLeft_24 : decode cX12_isLeft 24 = .ok (.imul, 1) := by decide +kernel
theorem dX12_isLeft_25 : decode cX12_isLeft 25 = .ok (.iload_n 2, 1) := by decide +kernel
theorem dX12_isLeft_26 : decode cX12_isLeft 26 = .ok (.iadd, 1) := by decide +kernel
theorem dX12_isLeft_27 : decode cX12_isLeft 27 = .ok (.baload, 1) := by decide +kernel
theorem dX12_isLeft_28 : decode cX12_isLeft 28 = .ok (.ifCond .ne 7, 3) := by decide +kernel
theorem dX12_isLeft_31 : decode cX12_isLeft 31 = .ok (.iconst 1, 1) := by decide +kernel
theorem dX12_isLeft_32 : decode cX12_isLeft 32 = .ok (.goto 4, 3) := by decide +kernel
theorem dX12_isLeft_35 : decode cX12_isLeft 35 = .ok (.iconst 0, 1) := by decide +kernel
theorem dX12_isLeft_36 : decode cX12_isLeft 36 = .ok (.ireturn, 1) := by decide +kernel
theorem dX12_isRouterLeft_0 : decode cX12_isRouterLeft 0 = .ok (.iconst 0, 1) := by decide +kernel
theorem dX12_isRouterLeft_1 : decode cX12_isRouterLeft 1 = .ok (.istore_n 2, 1) := by decide +kernel
theorem dX12_isRouterLeft_2 : decode cX12_isRouterLeft 2 = .ok (.iconst 2, 1) := by decide +kernel
theorem dX12_isRouterLeft_3 : decode cX12_isRouterLeft 3 = .ok (.istore_n 3, 1) := by decide +kernel
theorem dX12_isRouterLeft_4 : decode cX12_isRouterLeft 4 = .ok (.iload_n 3, 1) := by decide +kernel
theorem dX12_isRouterLeft_5 : decode cX12_isRouterLeft 5 = .ok (.bipush 6, 2) := by decide +kernel
theorem dX12_isRouterLeft_7 : decode cX12_isRouterLeft 7 = .ok (.if_icmp .ge 28, 3) := by decide +kernel
theorem dX12_isRouterLeft_10 : decode cX12_isRouterLeft 10 = .ok (.iload_n 2, 1) := by decide +kernel
theorem dX12_isRouterLeft_11 : decode cX12_isRouterLeft 11 = .ok (.ifCond .ne 12, 3) := by decide +kernel
theorem dX12_isRouterLeft_14 : decode cX12_isRouterLeft 14 = .ok (.aload_n 0, 1) := by decide +kernel
theorem dX12_isRouterLeft_15 : decode cX12_isRouterLeft 15 = .ok (.iload_n 1, 1) := by decide +kernel
theorem dX12_isRouterLeft_16 : decode cX12_isRouterLeft 16 = .ok (.iload_n 3, 1) := by decide +kernel
theorem dX12_isRouterLeft_17 : decode cX12_isRouterLeft 17 = .ok (.invokevirtual 147, 3) := by decide +kernel
theorem dX12_isRouterLeft_20 : decode cX12_isRouterLeft 20 = .ok (.ifCond .eq 7, 3) := by decide +kernel
theorem dX12_isRouterLeft_23 : decode cX12_isRouterLeft 23 = .ok (.iconst 1, 1) := by decide +kernel
theorem dX12_isRouterLeft_24 : decode cX12_isRouterLeft 24 = .ok (.goto 4, 3) := by decide +kernel
theorem dX12_isRouterLeft_27 : decode cX12_isRouterLeft 27 = .ok (.iconst 0, 1) := by decide +kernel
theorem dX12_isRouterLeft_28 : decode cX12_isRouterLeft 28 = .ok (.istore_n 2, 1) := by decide +kernel
theorem dX12_isRouterLeft_29 : decode cX12_isRouterLeft 29 = .ok (.iinc 3 1, 3) := by decide +kernel
theorem dX12_isRouterLeft_32 : decode cX12_isRouterLeft 32 = .ok (.goto (-28), 3) := by decide +kernel
theorem dX12_isRouterLeft_35 : decode cX12_isRouterLeft 35 = .ok (.iload_n 2, 1) := by decide +kernel
theorem dX12_isRouterLeft_36 : decode cX12_isRouterLeft 36 = .ok (.ireturn, 1) := by decide +kernel
theorem dX12_isAnyLeft_0 : decode cX12_isAnyLeft 0 = .ok (.iconst 0, 1) := by decide +kernel
theorem dX12_isAnyLeft_1 : decode cX12_isAnyLeft 1 = .ok (.istore_n 1, 1) := by decide +kernel
theorem dX12_isAnyLeft_2 : decode cX12_isAnyLeft 2 = .ok (.iconst 0, 1) := by decide +kernel
theorem dX12_isAnyLeft_3 : decode cX12_isAnyLeft 3 = .ok (.istore_n 2, 1) := by decide +kernel
theorem dX12_isAnyLeft_4 : decode cX12_isAnyLeft 4 = .ok (.iload_n 2, 1) := by decide +kernel
theorem dX12_isAnyLeft_5 : decode cX12_isAnyLeft 5 = .ok (.aload_n 0, 1) := by decide +kernel
theorem dX12_isAnyLeft_6 : decode cX12_isAnyLeft 6 = .ok (.getfield 141, 3) := by decide +kernel
theorem dX12_isAnyLeft_9 : decode cX12_isAnyLeft 9 = .ok (.aload_n 0, 1) := by decide +kernel
theorem dX12_isAnyLeft_10 : decode cX12_isAnyLeft 10 = .ok (.getfield 144, 3) := by decide +kernel
theorem dX12_isAnyLeft_13 : decode cX12_isAnyLeft 13 = .ok (.imul, 1) := by decide +kernel
theorem dX12_isAnyLeft_14 : decode cX12_isAnyLeft 14 = .ok (.if_icmp .ge 27, 3) := by decide +kernel
theorem dX12_isAnyLeft_17 : decode cX12_isAnyLeft 17 = .ok (.iload_n 1, 1) := by decide +kernel
theorem dX12_isAnyLeft_18 : decode cX12_isAnyLeft 18 = .ok (.ifCond .ne 11, 3) := by decide +kernel
theorem dX12_isAnyLeft_21 : decode cX12_isAnyLeft 21 = .ok (.aload_n 0, 1) := by decide +kernel
theorem dX12_isAnyLeft_22 : decode cX12_isAnyLeft 22 = .ok (.iload_n 2, 1) := by decide +kernel
theorem dX12_isAnyLeft_23 : decode cX12_isAnyLeft 23 = .ok (.invokevirtual 151, 3) := by decide +kernel
theorem dX12_isAnyLeft_26 : decode cX12_isAnyLeft 26 = .ok (.ifCond .eq 7, 3) := by decide +kernel
theorem dX12_isAnyLeft_29 : decode cX12_isAnyLeft 29 = .ok (.iconst 1, 1) := by decide +kernel
theorem dX12_isAnyLeft_30 : decode cX12_isAnyLeft 30 = .ok (.goto 4, 3) := by decide +kernel
theorem dX12_isAnyLeft_33 : decode cX12_isAnyLeft 33 = .ok (.iconst 0, 1) := by decide +kernel
theorem dX12_isAnyLeft_34 : decode cX12_isAnyLeft 34 = .ok (.istore_n 1, 1) := by decide +kernel
theorem dX12_isAnyLeft_35 : decode cX12_isAnyLeft 35 = .ok (.iinc 2 1, 3) := by decide +kernel
theorem dX12_isAnyLeft_38 : decode cX12_isAnyLeft 38 = .ok (.goto (-34), 3) := by decide +kernel
theorem dX12_isAnyLeft_41 : decode cX12_isAnyLeft 41 = .ok (.iload_n 1, 1) := by decide +kernel
theorem dX12_isAnyLeft_42 : decode cX12_isAnyLeft 42 = .ok (.ireturn, 1) := by decide +kernel
theorem dX12_goes_0 : decode cX12_goes 0 = .ok (.aload_n 0, 1) := by decide +kernel
theorem dX12_goes_1 : decode cX12_goes 1 = .ok (.iload_n 1, 1) := by decide +kernel
theorem dX12_goes_2 : decode cX12_goes 2 = .ok (.ifCond .eq 7, 3) := by decide +kernel
theorem dX12_goes_5 : decode cX12_goes 5 = .ok (.iload_n 2, 1) := by decide +kernel
theorem dX12_goes_6 : decode cX12_goes 6 = .ok (.goto 7, 3) := by decide +kernel
theorem dX12_goes_9 : decode cX12_goes 9 = .ok (.aload_n 0, 1) := by decide +kernel
theorem dX12_goes_10 : decode cX12_goes 10 = .ok (.getfield 155, 3) := by decide +kernel
theorem dX12_goes_13 : decode cX12_goes 13 = .ok (.putfield 155, 3) := by decide +kernel
theorem dX12_goes_16 : decode cX12_goes 16 = .ok (.iload_n 1, 1) := by decide +kernel
theorem dX12_goes_17 : decode cX12_goes 17 = .ok (.ireturn, 1) := by decide +kernel
theorem dX12_portBy_0 : decode cX12_portBy 0 = .ok (.iload_n 0, 1) := by decide +kernel
theorem dX12_portBy_1 : decode cX12_portBy 1 = .ok (.lookupswitch 51 #[(101, 45), (110, 43), (115, 47), (119, 49)], 43) := by decide +kernel
theorem dX12_portBy_44 : decode cX12_portBy 44 = .ok (.iconst 2, 1) := by decide +kernel
theorem dX12_portBy_45 : decode cX12_portBy 45 = .ok (.ireturn, 1) := by decide +kernel
theorem dX12_portBy_46 : decode cX12_portBy 46 = .ok (.iconst 3, 1) := by decide +kernel
theorem dX12_portBy_47 : decode cX12_portBy 47 = .ok (.ireturn, 1) := by decide +kernel
theorem dX12_portBy_48 : decode cX12_portBy 48 = .ok (.iconst 4, 1) := by decide +kernel
theorem dX12_portBy_49 : decode cX12_portBy 49 = .ok (.ireturn, 1) := by decide +kernel
theorem dX12_portBy_50 : decode cX12_portBy 50 = .ok (.iconst 5, 1) := by decide +kernel
theorem dX12_portBy_51 : decode cX12_portBy 51 = .ok (.ireturn, 1) := by decide +kernel
theorem dX12_portBy_52 : decode cX12_portBy 52 = .ok (.iconst (-1), 1) := by decide +kernel
theorem dX12_portBy_53 : decode cX12_portBy 53 = .ok (.ireturn, 1) := by decide +kernel
theorem dX12_takesPort_0 : decode cX12_takesPort 0 = .ok (.iload_n 1, 1) := by decide +kernel
theorem dX12_takesPort_1 : decode cX12_takesPort 1 = .ok (.invokestatic 158, 3) := by decide +kernel
theorem dX12_takesPort_4 : decode cX12_takesPort 4 = .ok (.istore_n 2, 1) := by decide +kernel
theorem dX12_takesPort_5 : decode cX12_takesPort 5 = .ok (.iload_n 2, 1) := by decide +kernel
theorem dX12_takesPort_6 : decode cX12_takesPort 6 = .ok (.iconst (-1), 1) := by decide +kernel
theorem dX12_takesPort_7 : decode cX12_takesPort 7 = .ok (.if_icmp .eq 15, 3) := by decide +kernel
theorem dX12_takesPort_10 : decode cX12_takesPort 10 = .ok (.aload_n 0, 1) := by decide +kernel
theorem dX12_takesPort_11 : decode cX12_takesPort 11 = .ok (.aload_n 0, 1) := by decide +kernel
theorem dX12_takesPort_12 : decode cX12_takesPort 12 = .ok (.getfield 162, 3) := by decide +kernel
theorem dX12_takesPort_15 : decode cX12_takesPort 15 = .ok (.iload_n 2, 1) := by decide +kernel
theorem dX12_takesPort_16 : decode cX12_takesPort 16 = .ok (.invokevirtual 147, 3) := by decide +kernel
theorem dX12_takesPort_19 : decode cX12_takesPort 19 = .ok (.ifCond .ne 5, 3) := by decide +kernel
theorem dX12_takesPort_22 : decode cX12_takesPort 22 = .ok (.iconst 0, 1) := by decide +kernel
theorem dX12_takesPort_23 : decode cX12_takesPort 23 = .ok (.ireturn, 1) := by decide +kernel
theorem dX12_takesPort_24 : decode cX12_takesPort 24 = .ok (.aload_n 0, 1) := by decide +kernel
theorem dX12_takesPort_25 : decode cX12_takesPort 25 = .ok (.getfield 104, 3) := by decide +kernel
theorem dX12_takesPort_28 : decode cX12_takesPort 28 = .ok (.bipush 6, 2) := by decide +kernel
theorem dX12_takesPort_30 : decode cX12_takesPort 30 = .ok (.aload_n 0, 1) := by decide +kernel
theorem dX12_takesPort_31 : decode cX12_takesPort 31 = .ok (.getfield 162, 3) := by decide +kernel
theorem dX12_takesPort_34 : decode cX12_takesPort 34 = .ok (.imul, 1) := by decide +kernel
theorem dX12_takesPort_35 : decode cX12_takesPort 35 = .ok (.iload_n 2, 1) := by decide +kernel
theorem dX12_takesPort_36 : decode cX12_takesPort 36 = .ok (.iadd, 1) := by decide +kernel
theorem dX12_takesPort_37 : decode cX12_takesPort 37 = .ok (.iconst 1, 1) := by decide +kernel
theorem dX12_takesPort_38 : decode cX12_takesPort 38 = .ok (.bastore, 1) := by decide +kernel
theorem dX12_takesPort_39 : decode cX12_takesPort 39 = .ok (.aload_n 0, 1) := by decide +kernel
theorem dX12_takesPort_40 : decode cX12_takesPort 40 = .ok (.bipush 6, 2) := by decide +kernel
theorem dX12_takesPort_42 : decode cX12_takesPort 42 = .ok (.putfield 155, 3) := by decide +kernel
theorem dX12_takesPort_45 : decode cX12_takesPort 45 = .ok (.iconst 1, 1) := by decide +kernel
theorem dX12_takesPort_46 : decode cX12_takesPort 46 = .ok (.ireturn, 1) := by decide +kernel
theorem dX12_takes_0 : decode cX12_takes 0 = .ok (.iload_n 1, 1) := by decide +kernel
theorem dX12_takes_1 : decode cX12_takes 1 = .ok (.bipush 48, 2) := by decide +kernel
theorem dX12_takes_3 : decode cX12_takes 3 = .ok (.isub, 1) := by decide +kernel
theorem dX12_takes_4 : decode cX12_takes 4 = .ok (.istore_n 2, 1) := by decide +kernel
theorem dX12_takes_5 : decode cX12_takes 5 = .ok (.aload_n 0, 1) := by decide +kernel
theorem dX12_takes_6 : decode cX12_takes 6 = .ok (.getfield 155, 3) := by decide +kernel
theorem dX12_takes_9 : decode cX12_takes 9 = .ok (.tableswitch 243 0 7 #[47, 64, 81, 98, 115, 158, 174, 199], 47) := by decide +kernel
theorem dX12_takes_56 : decode cX12_takes 56 = .ok (.aload_n 0, 1) := by decide +kernel
theorem dX12_takes_57 : decode cX12_takes 57 = .ok (.iload_n 2, 1) := by decide +kernel
theorem dX12_takes_58 : decode cX12_takes 58 = .ok (.putfield 141, 3) := by decide +kernel
theorem dX12_takes_61 : decode cX12_takes 61 = .ok (.aload_n 0, 1) := by decide +kernel
theorem dX12_takes_62 : decode cX12_takes 62 = .ok (.iload_n 2, 1) := by decide +kernel
theorem dX12_takes_63 : decode cX12_takes 63 = .ok (.iconst 2, 1) := by decide +kernel
theorem dX12_takes_64 : decode cX12_takes 64 = .ok (.iconst 3, 1) := by decide +kernel
theorem dX12_takes_65 : decode cX12_takes 65 = .ok (.invokestatic 130, 3) := by decide +kernel
theorem dX12_takes_68 : decode cX12_takes 68 = .ok (.iconst 1, 1) := by decide +kernel
theorem dX12_takes_69 : decode cX12_takes 69 = .ok (.invokevirtual 165, 3) := by decide +kernel
theorem dX12_takes_72 : decode cX12_takes 72 = .ok (.ireturn, 1) := by decide +kernel
theorem dX12_takes_73 : decode cX12_takes 73 = .ok (.aload_n 0, 1) := by decide +kernel
theorem dX12_takes_74 : decode cX12_takes 74 = .ok (.iload_n 1, 1) := by decide +kernel
theorem dX12_takes_75 : decode cX12_takes 75 = .ok (.bipush 120, 2) := by decide +kernel
theorem dX12_takes_77 : decode cX12_takes 77 = .ok (.if_icmp .ne 7, 3) := by decide +kernel
theorem dX12_takes_80 : decode cX12_takes 80 = .ok (.iconst 1, 1) := by decide +kernel
theorem dX12_takes_81 : decode cX12_takes 81 = .ok (.goto 4, 3) := by decide +kernel
theorem dX12_takes_84 : decode cX12_takes 84 = .ok (.iconst 0, 1) := by decide +kernel
theorem dX12_takes_85 : decode cX12_takes 85 = .ok (.iconst 2, 1) := by decide +kernel
theorem dX12_takes_86 : decode cX12_takes 86 = .ok (.invokevirtual 165, 3) := by decide +kernel
theorem dX12_takes_89 : decode cX12_takes 89 = .ok (.ireturn, 1) := by decide +kernel
theorem dX12_takes_90 : decode cX12_takes 90 = .ok (.aload_n 0, 1) := by decide +kernel
theorem dX12_takes_91 : decode cX12_takes 91 = .ok (.iload_n 2, 1) := by decide +kernel
theorem dX12_takes_92 : decode cX12_takes 92 = .ok (.putfield 144, 3) := by decide +kernel
theorem dX12_takes_95 : decode cX12_takes 95 = .ok (.aload_n 0, 1) := by decide +kernel
theorem dX12_takes_96 : decode cX12_takes 96 = .ok (.iload_n 2, 1) := by decide +kernel
theorem dX12_takes_97 : decode cX12_takes 97 = .ok (.iconst 2, 1) := by decide +kernel
theorem dX12_takes_98 : decode cX12_takes 98 = .ok (.iconst 3, 1) := by decide +kernel
theorem dX12_takes_99 : decode cX12_takes 99 = .ok (.invokestatic 130, 3) := by decide +kernel
theorem dX12_takes_102 : decode cX12_takes 102 = .ok (.iconst 3, 1) := by decide +kernel
theorem dX12_takes_103 : decode cX12_takes 103 = .ok (.invokevirtual 165, 3) := by decide +kernel
theorem dX12_takes_106 : decode cX12_takes 106 = .ok (.ireturn, 1) := by decide +kernel
theorem dX12_takes_107 : decode cX12_takes 107 = .ok (.aload_n 0, 1) := by decide +kernel
theorem dX12_takes_108 : decode cX12_takes 108 = .ok (.iload_n 1, 1) := by decide +kernel
theorem dX12_takes_109 : decode cX12_takes 109 = .ok (.bipush 58, 2) := by decide +kernel
theorem dX12_takes_111 : decode cX12_takes 111 = .ok (.if_icmp .ne 7, 3) := by decide +kernel
theorem dX12_takes_114 : decode cX12_takes 114 = .ok (.iconst 1, 1) := by decide +kernel
theorem dX12_takes_115 : decode cX12_takes 115 = .ok (.goto 4, 3) := by decide +kernel
theorem dX12_takes_118 : decode cX12_takes 118 = .ok (.iconst 0, 1) := by decide +kernel
theorem dX12_takes_119 : decode cX12_takes 119 = .ok (.iconst 4, 1) := by decide +kernel
theorem dX12_takes_120 : decode cX12_takes 120 = .ok (.invokevirtual 165, 3) := by decide +kernel
theorem dX12_takes_123 : decode cX12_takes 123 = .ok (.ireturn, 1) := by decide +kernel
theorem dX12_takes_124 : decode cX12_takes 124 = .ok (.aload_n 0, 1) := by decide +kernel
theorem dX12_takes_125 : decode cX12_takes 125 = .ok (.iload_n 2, 1) := by decide +kernel
theorem dX12_takes_126 : decode cX12_takes 126 = .ok (.iconst 1, 1) := by decide +kernel
theorem dX12_takes_127 : decode cX12_takes 127 = .ok (.if_icmp .ne 8, 3) := by decide +kernel
theorem dX12_takes_130 : decode cX12_takes 130 = .ok (.bipush 10, 2) := by decide +kernel
theorem dX12_takes_132 : decode cX12_takes 132 = .ok (.goto 4, 3) := by decide +kernel
theorem dX12_takes_135 : decode cX12_takes 135 = .ok (.iload_n 2, 1) := by decide +kernel
theorem dX12_takes_136 : decode cX12_takes 136 = .ok (.putfield 169, 3) := by decide +kernel
theorem dX12_takes_139 : decode cX12_takes 139 = .ok (.iload_n 2, 1) := by decide +kernel
theorem dX12_takes_140 : decode cX12_takes 140 = .ok (.iconst 1, 1) := by decide +kernel
theorem dX12_takes_141 : decode cX12_takes 141 = .ok (.if_icmp .ne 12, 3) := by decide +kernel
theorem dX12_takes_144 : decode cX12_takes 144 = .ok (.aload_n 0, 1) := by decide +kernel
theorem dX12_takes_145 : decode cX12_takes 145 = .ok (.iconst 1, 1) := by decide +kernel
theorem dX12_takes_146 : decode cX12_takes 146 = .ok (.iconst 5, 1) := by decide +kernel
theorem dX12_takes_147 : decode cX12_takes 147 = .ok (.invokevirtual 165, 3) := by decide +kernel
theorem dX12_takes_150 : decode cX12_takes 150 = .ok (.goto 16, 3) := by decide +kernel
theorem dX12_takes_153 : decode cX12_takes 153 = .ok (.aload_n 0, 1) := by decide +kernel
theorem dX12_takes_154 : decode cX12_takes 154 = .ok (.iload_n 2, 1) := by decide +kernel
theorem dX12_takes_155 : decode cX12_takes 155 = .ok (.iconst 4, 1) := by decide +kernel
theorem dX12_takes_156 : decode cX12_takes 156 = .ok (.bipush 9, 2) := by decide +kernel
theorem dX12_takes_158 : decode cX12_takes 158 = .ok (.invokestatic 130, 3) := by decide +kernel
theorem dX12_takes_161 : decode cX12_takes 161 = .ok (.bipush 6, 2) := by decide +kernel
theorem dX12_takes_163 : decode cX12_takes 163 = .ok (.invokevirtual 165, 3) := by decide +kernel
theorem dX12_takes_166 : decode cX12_takes 166 = .ok (.ireturn, 1) := by decide +kernel
theorem dX12_takes_167 : decode cX12_takes 167 = .ok (.aload_n 0, 1) := by decide +kernel
theorem dX12_takes_168 : decode cX12_takes 168 = .ok (.iload_n 2, 1) := by decide +kernel
theorem dX12_takes_169 : decode cX12_takes 169 = .ok (.ifCond .ne 7, 3) := by decide +kernel
theorem dX12_takes_172 : decode cX12_takes 172 = .ok (.iconst 1, 1) := by decide +kernel
theorem dX12_takes_173 : decode cX12_takes 173 = .ok (.goto 4, 3) := by decide +kernel
theorem dX12_takes_176 : decode cX12_takes 176 = .ok (.iconst 0, 1) := by decide +kernel
theorem dX12_takes_177 : decode cX12_takes 177 = .ok (.bipush 6, 2) := by decide +kernel
theorem dX12_takes_179 : decode cX12_takes 179 = .ok (.invokevirtual 165, 3) := by decide +kernel
theorem dX12_takes_182 : decode cX12_takes 182 = .ok (.ireturn, 1) := by decide +kernel
theorem dX12_takes_183 : decode cX12_takes 183 = .ok (.aload_n 0, 1) := by decide +kernel
theorem dX12_takes_184 : decode cX12_takes 184 = .ok (.iload_n 1, 1) := by decide +kernel
theorem dX12_takes_185 : decode cX12_takes 185 = .ok (.bipush 45, 2) := by decide +kernel
theorem dX12_takes_187 : decode cX12_takes 187 = .ok (.if_icmp .ne 14, 3) := by decide +kernel
theorem dX12_takes_190 : decode cX12_takes 190 = .ok (.aload_n 0, 1) := by decide +kernel
theorem dX12_takes_191 : decode cX12_takes 191 = .ok (.invokevirtual 172, 3) := by decide +kernel
theorem dX12_takes_194 : decode cX12_takes 194 = .ok (.ifCond .eq 7, 3) := by decide +kernel
theorem dX12_takes_197 : decode cX12_takes 197 = .ok (.iconst 1, 1) := by decide +kernel
theorem dX12_takes_198 : decode cX12_takes 198 = .ok (.goto 4, 3) := by decide +kernel
theorem dX12_takes_201 : decode cX12_takes 201 = .ok (.iconst 0, 1) := by decide +kernel
theorem dX12_takes_202 : decode cX12_takes 202 = .ok (.bipush 7, 2) := by decide +kernel
theorem dX12_takes_204 : decode cX12_takes 204 = .ok (.invokevirtual 165, 3) := by decide +kernel
theorem dX12_takes_207 : decode cX12_takes 207 = .ok (.ireturn, 1) := by decide +kernel
theorem dX12_takes_208 : decode cX12_takes 208 = .ok (.aload_n 0, 1) := by decide +kernel
theorem dX12_takes_209 : decode cX12_takes 209 = .ok (.iload_n 2, 1) := by decide +kernel
theorem dX12_takes_210 : decode cX12_takes 210 = .ok (.putfield 162, 3) := by decide +kernel
theorem dX12_takes_213 : decode cX12_takes 213 = .ok (.aload_n 0, 1) := by decide +kernel
theorem dX12_takes_214 : decode cX12_takes 214 = .ok (.iload_n 2, 1) := by decide +kernel
theorem dX12_takes_215 : decode cX12_takes 215 = .ok (.iconst 0, 1) := by decide +kernel
theorem dX12_takes_216 : decode cX12_takes 216 = .ok (.aload_n 0, 1) := by decide +kernel
theorem dX12_takes_217 : decode cX12_takes 217 = .ok (.getfield 141, 3) := by decide +kernel
theorem dX12_takes_220 : decode cX12_takes 220 = .ok (.aload_n 0, 1) := by decide +kernel
theorem dX12_takes_221 : decode cX12_takes 221 = .ok (.getfield 144, 3) := by decide +kernel
theorem dX12_takes_224 : decode cX12_takes 224 = .ok (.imul, 1) := by decide +kernel
theorem dX12_takes_225 : decode cX12_takes 225 = .ok (.iconst 1, 1) := by decide +kernel
theorem dX12_takes_226 : decode cX12_takes 226 = .ok (.isub, 1) := by decide +kernel
theorem dX12_takes_227 : decode cX12_takes 227 = .ok (.invokestatic 130, 3) := by decide +kernel
theorem dX12_takes_230 : decode cX12_takes 230 = .ok (.ifCond .eq 15, 3) := by decide +kernel
theorem dX12_takes_233 : decode cX12_takes 233 = .ok (.aload_n 0, 1) := by decide +kernel
theorem dX12_takes_234 : decode cX12_takes 234 = .ok (.iload_n 2, 1) := by decide +kernel
theorem dX12_takes_235 : decode cX12_takes 235 = .ok (.invokevirtual 151, 3) := by decide +kernel
theorem dX12_takes_238 : decode cX12_takes 238 = .ok (.ifCond .eq 7, 3) := by decide +kernel
theorem dX12_takes_241 : decode cX12_takes 241 = .ok (.iconst 1, 1) := by decide +kernel
theorem dX12_takes_242 : decode cX12_takes 242 = .ok (.goto 4, 3) := by decide +kernel
theorem dX12_takes_245 : decode cX12_takes 245 = .ok (.iconst 0, 1) := by decide +kernel
theorem dX12_takes_246 : decode cX12_takes 246 = .ok (.bipush 8, 2) := by decide +kernel
theorem dX12_takes_248 : decode cX12_takes 248 = .ok (.invokevirtual 165, 3) := by decide +kernel
theorem dX12_takes_251 : decode cX12_takes 251 = .ok (.ireturn, 1) := by decide +kernel
theorem dX12_takes_252 : decode cX12_takes 252 = .ok (.aload_n 0, 1) := by decide +kernel
theorem dX12_takes_253 : decode cX12_takes 253 = .ok (.iload_n 1, 1) := by decide +kernel
theorem dX12_takes_254 : decode cX12_takes 254 = .ok (.invokevirtual 176, 3) := by decide +kernel
theorem dX12_takes_257 : decode cX12_takes 257 = .ok (.ireturn, 1) := by decide +kernel
theorem dX12_read_0 : decode cX12_read 0 = .ok (.aload_n 0, 1) := by decide +kernel
theorem dX12_read_1 : decode cX12_read 1 = .ok (.iconst 0, 1) := by decide +kernel
theorem dX12_read_2 : decode cX12_read 2 = .ok (.putfield 155, 3) := by decide +kernel
theorem dX12_read_5 : decode cX12_read 5 = .ok (.iconst 0, 1) := by decide +kernel
theorem dX12_read_6 : decode cX12_read 6 = .ok (.istore_n 1, 1) := by decide +kernel
theorem dX12_read_7 : decode cX12_read 7 = .ok (.iload_n 1, 1) := by decide +kernel
theorem dX12_read_8 : decode cX12_read 8 = .ok (.bipush 54, 2) := by decide +kernel
theorem dX12_read_10 : decode cX12_read 10 = .ok (.if_icmp .ge 16, 3) := by decide +kernel
theorem dX12_read_13 : decode cX12_read 13 = .ok (.aload_n 0, 1) := by decide +kernel
theorem dX12_read_14 : decode cX12_read 14 = .ok (.getfield 104, 3) := by decide +kernel
theorem dX12_read_17 : decode cX12_read 17 = .ok (.iload_n 1, 1) := by decide +kernel
theorem dX12_read_18 : decode cX12_read 18 = .ok (.iconst 0, 1) := by decide +kernel
theorem dX12_read_19 : decode cX12_read 19 = .ok (.bastore, 1) := by decide +kernel
theorem dX12_read_20 : decode cX12_read 20 = .ok (.iinc 1 1, 3) := by decide +kernel
theorem dX12_read_23 : decode cX12_read 23 = .ok (.goto (-16), 3) := by decide +kernel
theorem dX12_read_26 : decode cX12_read 26 = .ok (.iconst 0, 1) := by decide +kernel
theorem dX12_read_27 : decode cX12_read 27 = .ok (.istore_n 1, 1) := by decide +kernel
theorem dX12_read_28 : decode cX12_read 28 = .ok (.iload_n 1, 1) := by decide +kernel
theorem dX12_read_29 : decode cX12_read 29 = .ok (.aload_n 0, 1) := by decide +kernel
theorem dX12_read_30 : decode cX12_read 30 = .ok (.getfield 138, 3) := by decide +kernel
theorem dX12_read_33 : decode cX12_read 33 = .ok (.if_icmp .ge 22, 3) := by decide +kernel
theorem dX12_read_36 : decode cX12_read 36 = .ok (.aload_n 0, 1) := by decide +kernel
theorem dX12_read_37 : decode cX12_read 37 = .ok (.aload_n 0, 1) := by decide +kernel
theorem dX12_read_38 : decode cX12_read 38 = .ok (.getfield 17, 3) := by decide +kernel
theorem dX12_read_41 : decode cX12_read 41 = .ok (.iload_n 1, 1) := by decide +kernel
theorem dX12_read_42 : decode cX12_read 42 = .ok (.iaload, 1) := by decide +kernel
theorem dX12_read_43 : decode cX12_read 43 = .ok (.invokevirtual 179, 3) := by decide +kernel
theorem dX12_read_46 : decode cX12_read 46 = .ok (.ifCond .eq 9, 3) := by decide +kernel
theorem dX12_read_49 : decode cX12_read 49 = .ok (.iinc 1 1, 3) := by decide +kernel
theorem dX12_read_52 : decode cX12_read 52 = .ok (.goto (-24), 3) := by decide +kernel
theorem dX12_read_55 : decode cX12_read 55 = .ok (.iload_n 1, 1) := by decide +kernel
theorem dX12_read_56 : decode cX12_read 56 = .ok (.ireturn, 1) := by decide +kernel
theorem dX12_fault_0 : decode cX12_fault 0 = .ok (.aload_n 0, 1) := by decide +kernel
theorem dX12_fault_1 : decode cX12_fault 1 = .ok (.invokevirtual 182, 3) := by decide +kernel
theorem dX12_fault_4 : decode cX12_fault 4 = .ok (.ireturn, 1) := by decide +kernel
theorem dX12_chip_0 : decode cX12_chip 0 = .ok (.aload_n 0, 1) := by decide +kernel
theorem dX12_chip_1 : decode cX12_chip 1 = .ok (.invokevirtual 182, 3) := by decide +kernel
theorem dX12_chip_4 : decode cX12_chip 4 = .ok (.aload_n 0, 1) := by decide +kernel
theorem dX12_chip_5 : decode cX12_chip 5 = .ok (.getfield 138, 3) := by decide +kernel
theorem dX12_chip_8 : decode cX12_chip 8 = .ok (.if_icmp .lt 12, 3) := by decide +kernel
theorem dX12_chip_11 : decode cX12_chip 11 = .ok (.aload_n 0, 1) := by decide +kernel
theorem dX12_chip_12 : decode cX12_chip 12 = .ok (.getfield 155, 3) := by decide +kernel
theorem dX12_chip_15 : decode cX12_chip 15 = .ok (.bipush 6, 2) := by decide +kernel
theorem dX12_chip_17 : decode cX12_chip 17 = .ok (.if_icmp .eq 6, 3) := by decide +kernel
theorem dX12_chip_20 : decode cX12_chip 20 = .ok (.bipush (-103), 2) := by decide +kernel
theorem dX12_chip_22 : decode cX12_chip 22 = .ok (.ireturn, 1) := by decide +kernel
theorem dX12_chip_23 : decode cX12_chip 23 = .ok (.aload_n 0, 1) := by decide +kernel
theorem dX12_chip_24 : decode cX12_chip 24 = .ok (.aload_n 0, 1) := by decide +kernel
theorem dX12_chip_25 : decode cX12_chip 25 = .ok (.getfield 141, 3) := by decide +kernel
theorem dX12_chip_28 : decode cX12_chip 28 = .ok (.putfield 119, 3) := by decide +kernel
theorem dX12_chip_31 : decode cX12_chip 31 = .ok (.aload_n 0, 1) := by decide +kernel
theorem dX12_chip_32 : decode cX12_chip 32 = .ok (.aload_n 0, 1) := by decide +kernel
theorem dX12_chip_33 : decode cX12_chip 33 = .ok (.getfield 144, 3) := by decide +kernel
theorem dX12_chip_36 : decode cX12_chip 36 = .ok (.putfield 123, 3) := by decide +kernel
theorem dX12_chip_39 : decode cX12_chip 39 = .ok (.aload_n 0, 1) := by decide +kernel
theorem dX12_chip_40 : decode cX12_chip 40 = .ok (.aload_n 0, 1) := by decide +kernel
theorem dX12_chip_41 : decode cX12_chip 41 = .ok (.getfield 169, 3) := by decide +kernel
theorem dX12_chip_44 : decode cX12_chip 44 = .ok (.putfield 185, 3) := by decide +kernel
theorem dX12_chip_47 : decode cX12_chip 47 = .ok (.aload_n 0, 1) := by decide +kernel
theorem dX12_chip_48 : decode cX12_chip 48 = .ok (.iconst 0, 1) := by decide +kernel
theorem dX12_chip_49 : decode cX12_chip 49 = .ok (.putfield 188, 3) := by decide +kernel
theorem dX12_chip_52 : decode cX12_chip 52 = .ok (.aload_n 0, 1) := by decide +kernel
theorem dX12_chip_53 : decode cX12_chip 53 = .ok (.iconst 0, 1) := by decide +kernel
theorem dX12_chip_54 : decode cX12_chip 54 = .ok (.putfield 191, 3) := by decide +kernel
theorem dX12_chip_57 : decode cX12_chip 57 = .ok (.aload_n 0, 1) := by decide +kernel
theorem dX12_chip_58 : decode cX12_chip 58 = .ok (.iconst 0, 1) := by decide +kernel
theorem dX12_chip_59 : decode cX12_chip 59 = .ok (.putfield 194, 3) := by decide +kernel
theorem dX12_chip_62 : decode cX12_chip 62 = .ok (.iconst 0, 1) := by decide +kernel
theorem dX12_chip_63 : decode cX12_chip 63 = .ok (.istore_n 1, 1) := by decide +kernel
theorem dX12_chip_64 : decode cX12_chip 64 = .ok (.iload_n 1, 1) := by decide +kernel
theorem dX12_chip_65 : decode cX12_chip 65 = .ok (.bipush 54, 2) := by decide +kernel
theorem dX12_chip_67 : decode cX12_chip 67 = .ok (.if_icmp .ge 28, 3) := by decide +kernel
theorem dX12_chip_70 : decode cX12_chip 70 = .ok (.aload_n 0, 1) := by decide +kernel
theorem dX12_chip_71 : decode cX12_chip 71 = .ok (.getfield 7, 3) := by decide +kernel
theorem dX12_chip_74 : decode cX12_chip 74 = .ok (.iload_n 1, 1) := by decide +kernel
theorem dX12_chip_75 : decode cX12_chip 75 = .ok (.aload_n 0, 1) := by decide +kernel
theorem dX12_chip_76 : decode cX12_chip 76 = .ok (.getfield 104, 3) := by decide +kernel
theorem dX12_chip_79 : decode cX12_chip 79 = .ok (.iload_n 1, 1) := by decide +kernel
theorem dX12_chip_80 : decode cX12_chip 80 = .ok (.baload, 1) := by decide +kernel
theorem dX12_chip_81 : decode cX12_chip 81 = .ok (.bastore, 1) := by decide +kernel
theorem dX12_chip_82 : decode cX12_chip 82 = .ok (.aload_n 0, 1) := by decide +kernel
theorem dX12_chip_83 : decode cX12_chip 83 = .ok (.getfield 13, 3) := by decide +kernel
theorem dX12_chip_86 : decode cX12_chip 86 = .ok (.iload_n 1, 1) := by decide +kernel
theorem dX12_chip_87 : decode cX12_chip 87 = .ok (.iconst 0, 1) := by decide +kernel
theorem dX12_chip_88 : decode cX12_chip 88 = .ok (.iastore, 1) := by decide +kernel
theorem dX12_chip_89 : decode cX12_chip 89 = .ok (.iinc 1 1, 3) := by decide +kernel
theorem dX12_chip_92 : decode cX12_chip 92 = .ok (.goto (-28), 3) := by decide +kernel
theorem dX12_chip_95 : decode cX12_chip 95 = .ok (.iconst 0, 1) := by decide +kernel
theorem dX12_chip_96 : decode cX12_chip 96 = .ok (.istore_n 1, 1) := by decide +kernel
theorem dX12_chip_97 : decode cX12_chip 97 = .ok (.iload_n 1, 1) := by decide +kernel
theorem dX12_chip_98 : decode cX12_chip 98 = .ok (.bipush 8, 2) := by decide +kernel
theorem dX12_chip_100 : decode cX12_chip 100 = .ok (.if_icmp .ge 16, 3) := by decide +kernel
theorem dX12_chip_103 : decode cX12_chip 103 = .ok (.aload_n 0, 1) := by decide +kernel
theorem dX12_chip_104 : decode cX12_chip 104 = .ok (.getfield 20, 3) := by decide +kernel
theorem dX12_chip_107 : decode cX12_chip 107 = .ok (.iload_n 1, 1) := by decide +kernel
theorem dX12_chip_108 : decode cX12_chip 108 = .ok (.iconst 0, 1) := by decide +kernel
theorem dX12_chip_109 : decode cX12_chip 109 = .ok (.bastore, 1) := by decide +kernel
theorem dX12_chip_110 : decode cX12_chip 110 = .ok (.iinc 1 1, 3) := by decide +kernel
theorem dX12_chip_113 : decode cX12_chip 113 = .ok (.goto (-16), 3) := by decide +kernel
theorem dX12_chip_116 : decode cX12_chip 116 = .ok (.iconst 0, 1) := by decide +kernel
theorem dX12_chip_117 : decode cX12_chip 117 = .ok (.istore_n 1, 1) := by decide +kernel
theorem dX12_chip_118 : decode cX12_chip 118 = .ok (.iload_n 1, 1) := by decide +kernel
theorem dX12_chip_119 : decode cX12_chip 119 = .ok (.iconst 2, 1) := by decide +kernel
theorem dX12_chip_120 : decode cX12_chip 120 = .ok (.if_icmp .ge 30, 3) := by decide +kernel
theorem dX12_chip_123 : decode cX12_chip 123 = .ok (.aload_n 0, 1) := by decide +kernel
theorem dX12_chip_124 : decode cX12_chip 124 = .ok (.getfield 95, 3) := by decide +kernel
theorem dX12_chip_127 : decode cX12_chip 127 = .ok (.iload_n 1, 1) := by decide +kernel
theorem dX12_chip_128 : decode cX12_chip 128 = .ok (.iconst 0, 1) := by decide +kernel
theorem dX12_chip_129 : decode cX12_chip 129 = .ok (.iastore, 1) := by decide +kernel
theorem dX12_chip_130 : decode cX12_chip 130 = .ok (.aload_n 0, 1) := by decide +kernel
theorem dX12_chip_131 : decode cX12_chip 131 = .ok (.getfield 98, 3) := by decide +kernel
theorem dX12_chip_134 : decode cX12_chip 134 = .ok (.iload_n 1, 1) := by decide +kernel
theorem dX12_chip_135 : decode cX12_chip 135 = .ok (.iconst 0, 1) := by decide +kernel
theorem dX12_chip_136 : decode cX12_chip 136 = .ok (.iastore, 1) := by decide +kernel
theorem dX12_chip_137 : decode cX12_chip 137 = .ok (.aload_n 0, 1) := by decide +kernel
theorem dX12_chip_138 : decode cX12_chip 138 = .ok (.getfield 101, 3) := by decide +kernel
theorem dX12_chip_141 : decode cX12_chip 141 = .ok (.iload_n 1, 1) := by decide +kernel
theorem dX12_chip_142 : decode cX12_chip 142 = .ok (.iconst 0, 1) := by decide +kernel
theorem dX12_chip_143 : decode cX12_chip 143 = .ok (.iastore, 1) := by decide +kernel
theorem dX12_chip_144 : decode cX12_chip 144 = .ok (.iinc 1 1, 3) := by decide +kernel
theorem dX12_chip_147 : decode cX12_chip 147 = .ok (.goto (-29), 3) := by decide +kernel
theorem dX12_chip_150 : decode cX12_chip 150 = .ok (.aload_n 0, 1) := by decide +kernel
theorem dX12_chip_151 : decode cX12_chip 151 = .ok (.dup, 1) := by decide +kernel
theorem dX12_chip_152 : decode cX12_chip 152 = .ok (.getfield 197, 3) := by decide +kernel
theorem dX12_chip_155 : decode cX12_chip 155 = .ok (.iconst 1, 1) := by decide +kernel
theorem dX12_chip_156 : decode cX12_chip 156 = .ok (.iadd, 1) := by decide +kernel
theorem dX12_chip_157 : decode cX12_chip 157 = .ok (.putfield 197, 3) := by decide +kernel
theorem dX12_chip_160 : decode cX12_chip 160 = .ok (.aload_n 0, 1) := by decide +kernel
theorem dX12_chip_161 : decode cX12_chip 161 = .ok (.iconst 0, 1) := by decide +kernel
theorem dX12_chip_162 : decode cX12_chip 162 = .ok (.putfield 138, 3) := by decide +kernel
theorem dX12_chip_165 : decode cX12_chip 165 = .ok (.aload_n 0, 1) := by decide +kernel
theorem dX12_chip_166 : decode cX12_chip 166 = .ok (.invokevirtual 126, 3) := by decide +kernel
theorem dX12_chip_169 : decode cX12_chip 169 = .ok (.ireturn, 1) := by decide +kernel
theorem dX12_isChip_0 : decode cX12_isChip 0 = .ok (.aload_n 0, 1) := by decide +kernel
theorem dX12_isChip_1 : decode cX12_isChip 1 = .ok (.getfield 119, 3) := by decide +kernel
theorem dX12_isChip_4 : decode cX12_isChip 4 = .ok (.ifCond .le 7, 3) := by decide +kernel
theorem dX12_isChip_7 : decode cX12_isChip 7 = .ok (.iconst 1, 1) := by decide +kernel
theorem dX12_isChip_8 : decode cX12_isChip 8 = .ok (.goto 4, 3) := by decide +kernel
theorem dX12_isChip_11 : decode cX12_isChip 11 = .ok (.iconst 0, 1) := by decide +kernel
theorem dX12_isChip_12 : decode cX12_isChip 12 = .ok (.ireturn, 1) := by decide +kernel
theorem dX12_hasSlot_0 : decode cX12_hasSlot 0 = .ok (.iconst 0, 1) := by decide +kernel
theorem dX12_hasSlot_1 : decode cX12_hasSlot 1 = .ok (.istore 4, 2) := by decide +kernel
theorem dX12_hasSlot_3 : decode cX12_hasSlot 3 = .ok (.iconst 0, 1) := by decide +kernel
theorem dX12_hasSlot_4 : decode cX12_hasSlot 4 = .ok (.istore 5, 2) := by decide +kernel
theorem dX12_hasSlot_6 : decode cX12_hasSlot 6 = .ok (.iload 5, 2) := by decide +kernel
theorem dX12_hasSlot_8 : decode cX12_hasSlot 8 = .ok (.aload_n 0, 1) := by decide +kernel
theorem dX12_hasSlot_9 : decode cX12_hasSlot 9 = .ok (.getfield 38, 3) := by decide +kernel
theorem dX12_hasSlot_12 : decode cX12_hasSlot 12 = .ok (.iload_n 1, 1) := by decide +kernel
theorem dX12_hasSlot_13 : decode cX12_hasSlot 13 = .ok (.iaload, 1) := by decide +kernel
theorem dX12_hasSlot_14 : decode cX12_hasSlot 14 = .ok (.iconst 2, 1) := by decide +kernel
theorem dX12_hasSlot_15 : decode cX12_hasSlot 15 = .ok (.iadd, 1) := by decide +kernel
theorem dX12_hasSlot_16 : decode cX12_hasSlot 16 = .ok (.if_icmp .ge 95, 3) := by decide +kernel
theorem dX12_hasSlot_19 : decode cX12_hasSlot 19 = .ok (.iconst 0, 1) := by decide +kernel
theorem dX12_hasSlot_20 : decode cX12_hasSlot 20 = .ok (.istore 6, 2) := by decide +kernel
theorem dX12_hasSlot_22 : decode cX12_hasSlot 22 = .ok (.iload 6, 2) := by decide +kernel
theorem dX12_hasSlot_24 : decode cX12_hasSlot 24 = .ok (.aload_n 0, 1) := by decide +kernel
theorem dX12_hasSlot_25 : decode cX12_hasSlot 25 = .ok (.getfield 185, 3) := by decide +kernel
theorem dX12_hasSlot_28 : decode cX12_hasSlot 28 = .ok (.if_icmp .ge 77, 3) := by decide +kernel
theorem dX12_hasSlot_31 : decode cX12_hasSlot 31 = .ok (.aload_n 0, 1) := by decide +kernel
theorem dX12_hasSlot_32 : decode cX12_hasSlot 32 = .ok (.getfield 44, 3) := by decide +kernel
theorem dX12_hasSlot_35 : decode cX12_hasSlot 35 = .ok (.iload_n 1, 1) := by decide +kernel
theorem dX12_hasSlot_36 : decode cX12_hasSlot 36 = .ok (.iaload, 1) := by decide +kernel
theorem dX12_hasSlot_37 : decode cX12_hasSlot 37 = .ok (.iload 6, 2) := by decide +kernel
theorem dX12_hasSlot_39 : decode cX12_hasSlot 39 = .ok (.invokestatic 200, 3) := by decide +kernel
theorem dX12_hasSlot_42 : decode cX12_hasSlot 42 = .ok (.ifCond .eq 21, 3) := by decide +kernel
theorem dX12_hasSlot_45 : decode cX12_hasSlot 45 = .ok (.iload 6, 2) := by decide +kernel
theorem dX12_hasSlot_47 : decode cX12_hasSlot 47 = .ok (.iload 5, 2) := by decide +kernel
theorem dX12_hasSlot_49 : decode cX12_hasSlot 49 = .ok (.iadd, 1) := by decide +kernel
theorem dX12_hasSlot_50 : decode cX12_hasSlot 50 = .ok (.aload_n 0, 1) := by decide +kernel
theorem dX12_hasSlot_51 : decode cX12_hasSlot 51 = .ok (.getfield 185, 3) := by decide +kernel
theorem dX12_hasSlot_54 : decode cX12_hasSlot 54 = .ok (.irem, 1) := by decide +kernel
theorem dX12_hasSlot_55 : decode cX12_hasSlot 55 = .ok (.iload_n 3, 1) := by decide +kernel
theorem dX12_hasSlot_56 : decode cX12_hasSlot 56 = .ok (.if_icmp .ne 7, 3) := by decide +kernel
theorem dX12_hasSlot_59 : decode cX12_hasSlot 59 = .ok (.iconst 1, 1) := by decide +kernel
theorem dX12_hasSlot_60 : decode cX12_hasSlot 60 = .ok (.goto 4, 3) := by decide +kernel
theorem dX12_hasSlot_63 : decode cX12_hasSlot 63 = .ok (.iconst 0, 1) := by decide +kernel
theorem dX12_hasSlot_64 : decode cX12_hasSlot 64 = .ok (.istore 7, 2) := by decide +kernel
theorem dX12_hasSlot_66 : decode cX12_hasSlot 66 = .ok (.iload 4, 2) := by decide +kernel
theorem dX12_hasSlot_68 : decode cX12_hasSlot 68 = .ok (.ifCond .ne 24, 3) := by decide +kernel
theorem dX12_hasSlot_71 : decode cX12_hasSlot 71 = .ok (.iload 7, 2) := by decide +kernel
theorem dX12_hasSlot_73 : decode cX12_hasSlot 73 = .ok (.ifCond .eq 23, 3) := by decide +kernel
theorem dX12_hasSlot_76 : decode cX12_hasSlot 76 = .ok (.aload_n 0, 1) := by decide +kernel
theorem dX12_hasSlot_77 : decode cX12_hasSlot 77 = .ok (.getfield 41, 3) := by decide +kernel
theorem dX12_hasSlot_80 : decode cX12_hasSlot 80 = .ok (.bipush 8, 2) := by decide +kernel
theorem dX12_hasSlot_82 : decode cX12_hasSlot 82 = .ok (.iload_n 1, 1) := by decide +kernel
theorem dX12_hasSlot_83 : decode cX12_hasSlot 83 = .ok (.imul, 1) := by decide +kernel
theorem dX12_hasSlot_84 : decode cX12_hasSlot 84 = .ok (.iload 5, 2) := by decide +kernel
theorem dX12_hasSlot_86 : decode cX12_hasSlot 86 = .ok (.iadd, 1) := by decide +kernel
theorem dX12_hasSlot_87 : decode cX12_hasSlot 87 = .ok (.iaload, 1) := by decide +kernel
theorem dX12_hasSlot_88 : decode cX12_hasSlot 88 = .ok (.iload_n 2, 1) := by decide +kernel
theorem dX12_hasSlot_89 : decode cX12_hasSlot 89 = .ok (.if_icmp .ne 7, 3) := by decide +kernel
theorem dX12_hasSlot_92 : decode cX12_hasSlot 92 = .ok (.iconst 1, 1) := by decide +kernel
theorem dX12_hasSlot_93 : decode cX12_hasSlot 93 = .ok (.goto 4, 3) := by decide +kernel
theorem dX12_hasSlot_96 : decode cX12_hasSlot 96 = .ok (.iconst 0, 1) := by decide +kernel
theorem dX12_hasSlot_97 : decode cX12_hasSlot 97 = .ok (.istore 4, 2) := by decide +kernel
theorem dX12_hasSlot_99 : decode cX12_hasSlot 99 = .ok (.iinc 6 1, 3) := by decide +kernel
theorem dX12_hasSlot_102 : decode cX12_hasSlot 102 = .ok (.goto (-80), 3) := by decide +kernel
theorem dX12_hasSlot_105 : decode cX12_hasSlot 105 = .ok (.iinc 5 1, 3) := by decide +kernel
theorem dX12_hasSlot_108 : decode cX12_hasSlot 108 = .ok (.goto (-102), 3) := by decide +kernel
theorem dX12_hasSlot_111 : decode cX12_hasSlot 111 = .ok (.iload 4, 2) := by decide +kernel
theorem dX12_hasSlot_113 : decode cX12_hasSlot 113 = .ok (.ireturn, 1) := by decide +kernel
theorem dX12_ownerOf_0 : decode cX12_ownerOf 0 = .ok (.iconst 0, 1) := by decide +kernel
theorem dX12_ownerOf_1 : decode cX12_ownerOf 1 = .ok (.istore 4, 2) := by decide +kernel
theorem dX12_ownerOf_3 : decode cX12_ownerOf 3 = .ok (.iload 4, 2) := by decide +kernel
theorem dX12_ownerOf_5 : decode cX12_ownerOf 5 = .ok (.bipush 8, 2) := by decide +kernel
theorem dX12_ownerOf_7 : decode cX12_ownerOf 7 = .ok (.if_icmp .ge 39, 3) := by decide +kernel
theorem dX12_ownerOf_10 : decode cX12_ownerOf 10 = .ok (.aload_n 0, 1) := by decide +kernel
theorem dX12_ownerOf_11 : decode cX12_ownerOf 11 = .ok (.getfield 20, 3) := by decide +kernel
theorem dX12_ownerOf_14 : decode cX12_ownerOf 14 = .ok (.iload 4, 2) := by decide +kernel
theorem dX12_ownerOf_16 : decode cX12_ownerOf 16 = .ok (.baload, 1) := by decide +kernel
theorem dX12_ownerOf_17 : decode cX12_ownerOf 17 = .ok (.ifCond .eq 23, 3) := by decide +kernel
theorem dX12_ownerOf_20 : decode cX12_ownerOf 20 = .ok (.iload 4, 2) := by decide +kernel
theorem dX12_ownerOf_22 : decode cX12_ownerOf 22 = .ok (.iload_n 3, 1) := by decide +kernel
theorem dX12_ownerOf_23 : decode cX12_ownerOf 23 = .ok (.if_icmp .eq 17, 3) := by decide +kernel
theorem dX12_ownerOf_26 : decode cX12_ownerOf 26 = .ok (.aload_n 0, 1) := by decide +kernel
theorem dX12_ownerOf_27 : decode cX12_ownerOf 27 = .ok (.iload 4, 2) := by decide +kernel
theorem dX12_ownerOf_29 : decode cX12_ownerOf 29 = .ok (.iload_n 1, 1) := by decide +kernel
theorem dX12_ownerOf_30 : decode cX12_ownerOf 30 = .ok (.iload_n 2, 1) := by decide +kernel
theorem dX12_ownerOf_31 : decode cX12_ownerOf 31 = .ok (.invokevirtual 203, 3) := by decide +kernel
theorem dX12_ownerOf_34 : decode cX12_ownerOf 34 = .ok (.ifCond .eq 6, 3) := by decide +kernel
theorem dX12_ownerOf_37 : decode cX12_ownerOf 37 = .ok (.iload 4, 2) := by decide +kernel
theorem dX12_ownerOf_39 : decode cX12_ownerOf 39 = .ok (.ireturn, 1) := by decide +kernel
theorem dX12_ownerOf_40 : decode cX12_ownerOf 40 = .ok (.iinc 4 1, 3) := by decide +kernel
theorem dX12_ownerOf_43 : decode cX12_ownerOf 43 = .ok (.goto (-40), 3) := by decide +kernel
theorem dX12_ownerOf_46 : decode cX12_ownerOf 46 = .ok (.iconst (-1), 1) := by decide +kernel
theorem dX12_ownerOf_47 : decode cX12_ownerOf 47 = .ok (.ireturn, 1) := by decide +kernel
theorem dX12_hadOf_0 : decode cX12_hadOf 0 = .ok (.iconst 0, 1) := by decide +kernel
theorem dX12_hadOf_1 : decode cX12_hadOf 1 = .ok (.istore_n 2, 1) := by decide +kernel
theorem dX12_hadOf_2 : decode cX12_hadOf 2 = .ok (.iconst 0, 1) := by decide +kernel
theorem dX12_hadOf_3 : decode cX12_hadOf 3 = .ok (.istore_n 3, 1) := by decide +kernel
theorem dX12_hadOf_4 : decode cX12_hadOf 4 = .ok (.iload_n 3, 1) := by decide +kernel
theorem dX12_hadOf_5 : decode cX12_hadOf 5 = .ok (.aload_n 0, 1) := by decide +kernel
theorem dX12_hadOf_6 : decode cX12_hadOf 6 = .ok (.getfield 185, 3) := by decide +kernel
theorem dX12_hadOf_9 : decode cX12_hadOf 9 = .ok (.if_icmp .ge 28, 3) := by decide +kernel
theorem dX12_hadOf_12 : decode cX12_hadOf 12 = .ok (.iload_n 2, 1) := by decide +kernel
theorem dX12_hadOf_13 : decode cX12_hadOf 13 = .ok (.aload_n 0, 1) := by decide +kernel
theorem dX12_hadOf_14 : decode cX12_hadOf 14 = .ok (.iload_n 1, 1) := by decide +kernel
theorem dX12_hadOf_15 : decode cX12_hadOf 15 = .ok (.iload_n 3, 1) := by decide +kernel
theorem dX12_hadOf_16 : decode cX12_hadOf 16 = .ok (.iconst (-1), 1) := by decide +kernel
theorem dX12_hadOf_17 : decode cX12_hadOf 17 = .ok (.invokevirtual 206, 3) := by decide +kernel
theorem dX12_hadOf_20 : decode cX12_hadOf 20 = .ok (.iconst (-1), 1) := by decide +kernel
theorem dX12_hadOf_21 : decode cX12_hadOf 21 = .ok (.if_icmp .ne 7, 3) := by decide +kernel
theorem dX12_hadOf_24 : decode cX12_hadOf 24 = .ok (.iconst 0, 1) := by decide +kernel
theorem dX12_hadOf_25 : decode cX12_hadOf 25 = .ok (.goto 4, 3) := by decide +kernel
theorem dX12_hadOf_28 : decode cX12_hadOf 28 = .ok (.iconst 1, 1) := by decide +kernel
theorem dX12_hadOf_29 : decode cX12_hadOf 29 = .ok (.iadd, 1) := by decide +kernel
theorem dX12_hadOf_30 : decode cX12_hadOf 30 = .ok (.istore_n 2, 1) := by decide +kernel
theorem dX12_hadOf_31 : decode cX12_hadOf 31 = .ok (.iinc 3 1, 3) := by decide +kernel
theorem dX12_hadOf_34 : decode cX12_hadOf 34 = .ok (.goto (-30), 3) := by decide +kernel
theorem dX12_hadOf_37 : decode cX12_hadOf 37 = .ok (.iload_n 2, 1) := by decide +kernel
theorem dX12_hadOf_38 : decode cX12_hadOf 38 = .ok (.ireturn, 1) := by decide +kernel
theorem dX12_ways_0 : decode cX12_ways 0 = .ok (.iconst 1, 1) := by decide +kernel
theorem dX12_ways_1 : decode cX12_ways 1 = .ok (.istore_n 1, 1) := by decide +kernel
theorem dX12_ways_2 : decode cX12_ways 2 = .ok (.iconst 0, 1) := by decide +kernel
theorem dX12_ways_3 : decode cX12_ways 3 = .ok (.istore_n 2, 1) := by decide +kernel
theorem dX12_ways_4 : decode cX12_ways 4 = .ok (.iload_n 2, 1) := by decide +kernel
theorem dX12_ways_5 : decode cX12_ways 5 = .ok (.iload_n 0, 1) := by decide +kernel
theorem dX12_ways_6 : decode cX12_ways 6 = .ok (.if_icmp .ge 13, 3) := by decide +kernel
theorem dX12_ways_9 : decode cX12_ways 9 = .ok (.iload_n 1, 1) := by decide +kernel
theorem dX12_ways_10 : decode cX12_ways 10 = .ok (.iconst 4, 1) := by decide +kernel
theorem dX12_ways_11 : decode cX12_ways 11 = .ok (.imul, 1) := by decide +kernel
theorem dX12_ways_12 : decode cX12_ways 12 = .ok (.istore_n 1, 1) := by decide +kernel
theorem dX12_ways_13 : decode cX12_ways 13 = .ok (.iinc 2 1, 3) := by decide +kernel
theorem dX12_ways_16 : decode cX12_ways 16 = .ok (.goto (-12), 3) := by decide +kernel
theorem dX12_ways_19 : decode cX12_ways 19 = .ok (.iload_n 1, 1) := by decide +kernel
theorem dX12_ways_20 : decode cX12_ways 20 = .ok (.ireturn, 1) := by decide +kernel
theorem dX12_isWay_0 : decode cX12_isWay 0 = .ok (.iconst 0, 1) := by decide +kernel
theorem dX12_isWay_1 : decode cX12_isWay 1 = .ok (.istore 5, 2) := by decide +kernel
theorem dX12_isWay_3 : decode cX12_isWay 3 = .ok (.iload 5, 2) := by decide +kernel
theorem dX12_isWay_5 : decode cX12_isWay 5 = .ok (.bipush 9, 2) := by decide +kernel
theorem dX12_isWay_7 : decode cX12_isWay 7 = .ok (.if_icmp .ge 27, 3) := by decide +kernel
theorem dX12_isWay_10 : decode cX12_isWay 10 = .ok (.aload_n 0, 1) := by decide +kernel
theorem dX12_isWay_11 : decode cX12_isWay 11 = .ok (.getfield 110, 3) := by decide +kernel
theorem dX12_isWay_14 : decode cX12_isWay 14 = .ok (.iload 5, 2) := by decide +kernel
theorem dX12_isWay_16 : decode cX12_isWay 16 = .ok (.iload 5, 2) := by decide +kernel
theorem dX12_isWay_18 : decode cX12_isWay 18 = .ok (.iload_n 1, 1) := by decide +kernel
theorem dX12_isWay_19 : decode cX12_isWay 19 = .ok (.if_icmp .ne 7, 3) := by decide +kernel
theorem dX12_isWay_22 : decode cX12_isWay 22 = .ok (.iconst 1, 1) := by decide +kernel
theorem dX12_isWay_23 : decode cX12_isWay 23 = .ok (.goto 4, 3) := by decide +kernel
theorem dX12_isWay_26 : decode cX12_isWay 26 = .ok (.iconst 0, 1) := by decide +kernel
theorem dX12_isWay_27 : decode cX12_isWay 27 = .ok (.bastore, 1) := by decide +kernel
theorem dX12_isWay_28 : decode cX12_isWay 28 = .ok (.iinc 5 1, 3) := by decide +kernel
theorem dX12_isWay_31 : decode cX12_isWay 31 = .ok (.goto (-28), 3) := by decide +kernel
theorem dX12_isWay_34 : decode cX12_isWay 34 = .ok (.iload_n 1, 1) := by decide +kernel
theorem dX12_isWay_35 : decode cX12_isWay 35 = .ok (.istore 5, 2) := by decide +kernel
theorem dX12_isWay_37 : decode cX12_isWay 37 = .ok (.iconst 1, 1) := by decide +kernel
theorem dX12_isWay_38 : decode cX12_isWay 38 = .ok (.istore 6, 2) := by decide +kernel
theorem dX12_isWay_40 : decode cX12_isWay 40 = .ok (.aload_n 0, 1) := by decide +kernel
theorem dX12_isWay_41 : decode cX12_isWay 41 = .ok (.getfield 107, 3) := by decide +kernel
theorem dX12_isWay_44 : decode cX12_isWay 44 = .ok (.iconst 0, 1) := by decide +kernel
theorem dX12_isWay_45 : decode cX12_isWay 45 = .ok (.bipush 6, 2) := by decide +kernel
theorem dX12_isWay_47 : decode cX12_isWay 47 = .ok (.iload_n 1, 1) := by decide +kernel
theorem dX12_isWay_48 : decode cX12_isWay 48 = .ok (.imul, 1) := by decide +kernel
theorem dX12_isWay_49 : decode cX12_isWay 49 = .ok (.iastore, 1) := by decide +kernel
theorem dX12_isWay_50 : decode cX12_isWay 50 = .ok (.iconst 0, 1) := by decide +kernel
theorem dX12_isWay_51 : decode cX12_isWay 51 = .ok (.istore 7, 2) := by decide +kernel
theorem dX12_isWay_53 : decode cX12_isWay 53 = .ok (.iload 7, 2) := by decide +kernel
theorem dX12_isWay_55 : decode cX12_isWay 55 = .ok (.iload_n 3, 1) := by decide +kernel
theorem dX12_isWay_56 : decode cX12_isWay 56 = .ok (.if_icmp .ge 127, 3) := by decide +kernel
theorem dX12_isWay_59 : decode cX12_isWay 59 = .ok (.iload 6, 2) := by decide +kernel
theorem dX12_isWay_61 : decode cX12_isWay 61 = .ok (.ifCond .eq 122, 3) := by decide +kernel
theorem dX12_isWay_64 : decode cX12_isWay 64 = .ok (.iconst 2, 1) := by decide +kernel
theorem dX12_isWay_65 : decode cX12_isWay 65 = .ok (.iload 4, 2) := by decide +kernel
theorem dX12_isWay_67 : decode cX12_isWay 67 = .ok (.iload_n 3, 1) := by decide +kernel
theorem dX12_isWay_68 : decode cX12_isWay 68 = .ok (.iconst 1, 1) := by decide +kernel
theorem dX12_isWay_69 : decode cX12_isWay 69 = .ok (.isub, 1) := by decide +kernel
theorem dX12_isWay_70 : decode cX12_isWay 70 = .ok (.iload 7, 2) := by decide +kernel
theorem dX12_isWay_72 : decode cX12_isWay 72 = .ok (.isub, 1) := by decide +kernel
theorem dX12_isWay_73 : decode cX12_isWay 73 = .ok (.invokestatic 210, 3) := by decide +kernel
theorem dX12_isWay_76 : decode cX12_isWay 76 = .ok (.idiv, 1) := by decide +kernel
theorem dX12_isWay_77 : decode cX12_isWay 77 = .ok (.iconst 4, 1) := by decide +kernel
theorem dX12_isWay_78 : decode cX12_isWay 78 = .ok (.irem, 1) := by decide +kernel
theorem dX12_isWay_79 : decode cX12_isWay 79 = .ok (.iadd, 1) := by decide +kernel
theorem dX12_isWay_80 : decode cX12_isWay 80 = .ok (.istore 8, 2) := by decide +kernel
theorem dX12_isWay_82 : decode cX12_isWay 82 = .ok (.iload 5, 2) := by decide +kernel
theorem dX12_isWay_84 : decode cX12_isWay 84 = .ok (.iload 8, 2) := by decide +kernel
theorem dX12_isWay_86 : decode cX12_isWay 86 = .ok (.aload_n 0, 1) := by decide +kernel
theorem dX12_isWay_87 : decode cX12_isWay 87 = .ok (.getfield 119, 3) := by decide +kernel
theorem dX12_isWay_90 : decode cX12_isWay 90 = .ok (.aload_n 0, 1) := by decide +kernel
theorem dX12_isWay_91 : decode cX12_isWay 91 = .ok (.getfield 123, 3) := by decide +kernel
theorem dX12_isWay_94 : decode cX12_isWay 94 = .ok (.invokestatic 134, 3) := by decide +kernel
theorem dX12_isWay_97 : decode cX12_isWay 97 = .ok (.istore 9, 2) := by decide +kernel
theorem dX12_isWay_99 : decode cX12_isWay 99 = .ok (.iload 9, 2) := by decide +kernel
theorem dX12_isWay_101 : decode cX12_isWay 101 = .ok (.iconst (-1), 1) := by decide +kernel
theorem dX12_isWay_102 : decode cX12_isWay 102 = .ok (.if_icmp .eq 33, 3) := by decide +kernel
theorem dX12_isWay_105 : decode cX12_isWay 105 = .ok (.aload_n 0, 1) := by decide +kernel
theorem dX12_isWay_106 : decode cX12_isWay 106 = .ok (.getfield 7, 3) := by decide +kernel
theorem dX12_isWay_109 : decode cX12_isWay 109 = .ok (.bipush 6, 2) := by decide +kernel
theorem dX12_isWay_111 : decode cX12_isWay 111 = .ok (.iload 5, 2) := by decide +kernel
theorem dX12_isWay_113 : decode cX12_isWay 113 = .ok (.imul, 1) := by decide +kernel
theorem dX12_isWay_114 : decode cX12_isWay 114 = .ok (.iload 8, 2) := by decide +kernel
theorem dX12_isWay_116 : decode cX12_isWay 116 = .ok (.iadd, 1) := by decide +kernel
theorem dX12_isWay_117 : decode cX12_isWay 117 = .ok (.baload, 1) := by decide +kernel
theorem dX12_isWay_118 : decode cX12_isWay 118 = .ok (.ifCond .ne 17, 3) := by decide +kernel
theorem dX12_isWay_121 : decode cX12_isWay 121 = .ok (.aload_n 0, 1) := by decide +kernel
theorem dX12_isWay_122 : decode cX12_isWay 122 = .ok (.getfield 110, 3) := by decide +kernel
theorem dX12_isWay_125 : decode cX12_isWay 125 = .ok (.iload 9, 2) := by decide +kernel
theorem dX12_isWay_127 : decode cX12_isWay 127 = .ok (.baload, 1) := by decide +kernel
theorem dX12_isWay_128 : decode cX12_isWay 128 = .ok (.ifCond .ne 7, 3) := by decide +kernel
theorem dX12_isWay_131 : decode cX12_isWay 131 = .ok (.iconst 1, 1) := by decide +kernel
theorem dX12_isWay_132 : decode cX12_isWay 132 = .ok (.goto 4, 3) := by decide +kernel
theorem dX12_isWay_135 : decode cX12_isWay 135 = .ok (.iconst 0, 1) := by decide +kernel
theorem dX12_isWay_136 : decode cX12_isWay 136 = .ok (.istore 6, 2) := by decide +kernel
theorem dX12_isWay_138 : decode cX12_isWay 138 = .ok (.aload_n 0, 1) := by decide +kernel
theorem dX12_isWay_139 : decode cX12_isWay 139 = .ok (.getfield 107, 3) := by decide +kernel
theorem dX12_isWay_142 : decode cX12_isWay 142 = .ok (.iload 7, 2) := by decide +kernel
theorem dX12_isWay_144 : decode cX12_isWay 144 = .ok (.iconst 1, 1) := by decide +kernel
theorem dX12_isWay_145 : decode cX12_isWay 145 = .ok (.iadd, 1) := by decide +kernel
theorem dX12_isWay_146 : decode cX12_isWay 146 = .ok (.bipush 6, 2) := by decide +kernel
theorem dX12_isWay_148 : decode cX12_isWay 148 = .ok (.iload 5, 2) := by decide +kernel
theorem dX12_isWay_150 : decode cX12_isWay 150 = .ok (.imul, 1) := by decide +kernel
theorem dX12_isWay_151 : decode cX12_isWay 151 = .ok (.iload 8, 2) := by decide +kernel
theorem dX12_isWay_153 : decode cX12_isWay 153 = .ok (.iadd, 1) := by decide +kernel
theorem dX12_isWay_154 : decode cX12_isWay 154 = .ok (.iastore, 1) := by decide +kernel
theorem dX12_isWay_155 : decode cX12_isWay 155 = .ok (.iload 6, 2) := by decide +kernel
theorem dX12_isWay_157 : decode cX12_isWay 157 = .ok (.ifCond .eq 8, 3) := by decide +kernel
theorem dX12_isWay_160 : decode cX12_isWay 160 = .ok (.iload 9, 2) := by decide +kernel
theorem dX12_isWay_162 : decode cX12_isWay 162 = .ok (.goto 5, 3) := by decide +kernel
theorem dX12_isWay_165 : decode cX12_isWay 165 = .ok (.iload 5, 2) := by decide +kernel
theorem dX12_isWay_167 : decode cX12_isWay 167 = .ok (.istore 5, 2) := by decide +kernel
theorem dX12_isWay_169 : decode cX12_isWay 169 = .ok (.aload_n 0, 1) := by decide +kernel
theorem dX12_isWay_170 : decode cX12_isWay 170 = .ok (.getfield 110, 3) := by decide +kernel
theorem dX12_isWay_173 : decode cX12_isWay 173 = .ok (.iload 5, 2) := by decide +kernel
theorem dX12_isWay_175 : decode cX12_isWay 175 = .ok (.iconst 1, 1) := by decide +kernel
theorem dX12_isWay_176 : decode cX12_isWay 176 = .ok (.bastore, 1) := by decide +kernel
theorem dX12_isWay_177 : decode cX12_isWay 177 = .ok (.iinc 7 1, 3) := by decide +kernel
theorem dX12_isWay_180 : decode cX12_isWay 180 = .ok (.goto (-127), 3) := by decide +kernel
theorem dX12_isWay_183 : decode cX12_isWay 183 = .ok (.aload_n 0, 1) := by decide +kernel
theorem dX12_isWay_184 : decode cX12_isWay 184 = .ok (.iload_n 3, 1) := by decide +kernel
theorem dX12_isWay_185 : decode cX12_isWay 185 = .ok (.putfield 213, 3) := by decide +kernel
theorem dX12_isWay_188 : decode cX12_isWay 188 = .ok (.aload_n 0, 1) := by decide +kernel
theorem dX12_isWay_189 : decode cX12_isWay 189 = .ok (.getfield 107, 3) := by decide +kernel
theorem dX12_isWay_192 : decode cX12_isWay 192 = .ok (.iload_n 3, 1) := by decide +kernel
theorem dX12_isWay_193 : decode cX12_isWay 193 = .ok (.iconst 1, 1) := by decide +kernel
theorem dX12_isWay_194 : decode cX12_isWay 194 = .ok (.iadd, 1) := by decide +kernel
theorem dX12_isWay_195 : decode cX12_isWay 195 = .ok (.bipush 6, 2) := by decide +kernel
theorem dX12_isWay_197 : decode cX12_isWay 197 = .ok (.iload_n 2, 1) := by decide +kernel
theorem dX12_isWay_198 : decode cX12_isWay 198 = .ok (.imul, 1) := by decide +kernel
theorem dX12_isWay_199 : decode cX12_isWay 199 = .ok (.iconst 1, 1) := by decide +kernel
theorem dX12_isWay_200 : decode cX12_isWay 200 = .ok (.iadd, 1) := by decide +kernel
theorem dX12_isWay_201 : decode cX12_isWay 201 = .ok (.iastore, 1) := by decide +kernel
theorem dX12_isWay_202 : decode cX12_isWay 202 = .ok (.iload 6, 2) := by decide +kernel
theorem dX12_isWay_204 : decode cX12_isWay 204 = .ok (.ifCond .eq 13, 3) := by decide +kernel
theorem dX12_isWay_207 : decode cX12_isWay 207 = .ok (.iload 5, 2) := by decide +kernel
theorem dX12_isWay_209 : decode cX12_isWay 209 = .ok (.iload_n 2, 1) := by decide +kernel
theorem dX12_isWay_210 : decode cX12_isWay 210 = .ok (.if_icmp .ne 7, 3) := by decide +kernel
theorem dX12_isWay_213 : decode cX12_isWay 213 = .ok (.iconst 1, 1) := by decide +kernel
theorem dX12_isWay_214 : decode cX12_isWay 214 = .ok (.goto 4, 3) := by decide +kernel
theorem dX12_isWay_217 : decode cX12_isWay 217 = .ok (.iconst 0, 1) := by decide +kernel
theorem dX12_isWay_218 : decode cX12_isWay 218 = .ok (.ireturn, 1) := by decide +kernel
theorem dX12_freeStarts_0 : decode cX12_freeStarts 0 = .ok (.iconst 0, 1) := by decide +kernel
theorem dX12_freeStarts_1 : decode cX12_freeStarts 1 = .ok (.istore_n 2, 1) := by decide +kernel
theorem dX12_freeStarts_2 : decode cX12_freeStarts 2 = .ok (.iconst 0, 1) := by decide +kernel
theorem dX12_freeStarts_3 : decode cX12_freeStarts 3 = .ok (.istore_n 3, 1) := by decide +kernel
theorem dX12_freeStarts_4 : decode cX12_freeStarts 4 = .ok (.iload_n 3, 1) := by decide +kernel
theorem dX12_freeStarts_5 : decode cX12_freeStarts 5 = .ok (.aload_n 0, 1) := by decide +kernel
theorem dX12_freeStarts_6 : decode cX12_freeStarts 6 = .ok (.getfield 185, 3) := by decide +kernel
theorem dX12_freeStarts_9 : decode cX12_freeStarts 9 = .ok (.if_icmp .ge 84, 3) := by decide +kernel
theorem dX12_freeStarts_12 : decode cX12_freeStarts 12 = .ok (.iconst 1, 1) := by decide +kernel
theorem dX12_freeStarts_13 : decode cX12_freeStarts 13 = .ok (.istore 4, 2) := by decide +kernel
theorem dX12_freeStarts_15 : decode cX12_freeStarts 15 = .ok (.iconst 0, 1) := by decide +kernel
theorem dX12_freeStarts_16 : decode cX12_freeStarts 16 = .ok (.istore 5, 2) := by decide +kernel
theorem dX12_freeStarts_18 : decode cX12_freeStarts 18 = .ok (.iload 5, 2) := by decide +kernel
theorem dX12_freeStarts_20 : decode cX12_freeStarts 20 = .ok (.aload_n 0, 1) := by decide +kernel
theorem dX12_freeStarts_21 : decode cX12_freeStarts 21 = .ok (.getfield 213, 3) := by decide +kernel
theorem dX12_freeStarts_24 : decode cX12_freeStarts 24 = .ok (.iconst 2, 1) := by decide +kernel
theorem dX12_freeStarts_25 : decode cX12_freeStarts 25 = .ok (.iadd, 1) := by decide +kernel
theorem dX12_freeStarts_26 : decode cX12_freeStarts 26 = .ok (.if_icmp .ge 46, 3) := by decide +kernel
theorem dX12_freeStarts_29 : decode cX12_freeStarts 29 = .ok (.iload 4, 2) := by decide +kernel
theorem dX12_freeStarts_31 : decode cX12_freeStarts 31 = .ok (.ifCond .eq 32, 3) := by decide +kernel
theorem dX12_freeStarts_34 : decode cX12_freeStarts 34 = .ok (.aload_n 0, 1) := by decide +kernel
theorem dX12_freeStarts_35 : decode cX12_freeStarts 35 = .ok (.aload_n 0, 1) := by decide +kernel
theorem dX12_freeStarts_36 : decode cX12_freeStarts 36 = .ok (.getfield 107, 3) := by decide +kernel
theorem dX12_freeStarts_39 : decode cX12_freeStarts 39 = .ok (.iload 5, 2) := by decide +kernel
theorem dX12_freeStarts_41 : decode cX12_freeStarts 41 = .ok (.iaload, 1) := by decide +kernel
theorem dX12_freeStarts_42 : decode cX12_freeStarts 42 = .ok (.iload_n 3, 1) := by decide +kernel
theorem dX12_freeStarts_43 : decode cX12_freeStarts 43 = .ok (.iload 5, 2) := by decide +kernel
theorem dX12_freeStarts_45 : decode cX12_freeStarts 45 = .ok (.iadd, 1) := by decide +kernel
theorem dX12_freeStarts_46 : decode cX12_freeStarts 46 = .ok (.aload_n 0, 1) := by decide +kernel
theorem dX12_freeStarts_47 : decode cX12_freeStarts 47 = .ok (.getfield 185, 3) := by decide +kernel
theorem dX12_freeStarts_50 : decode cX12_freeStarts 50 = .ok (.irem, 1) := by decide +kernel
theorem dX12_freeStarts_51 : decode cX12_freeStarts 51 = .ok (.iload_n 1, 1) := by decide +kernel
theorem dX12_freeStarts_52 : decode cX12_freeStarts 52 = .ok (.invokevirtual 206, 3) := by decide +kernel
theorem dX12_freeStarts_55 : decode cX12_freeStarts 55 = .ok (.iconst (-1), 1) := by decide +kernel
theorem dX12_freeStarts_56 : decode cX12_freeStarts 56 = .ok (.if_icmp .ne 7, 3) := by decide +kernel
theorem dX12_freeStarts_59 : decode cX12_freeStarts 59 = .ok (.iconst 1, 1) := by decide +kernel
theorem dX12_freeStarts_60 : decode cX12_freeStarts 60 = .ok (.goto 4, 3) := by decide +kernel
theorem dX12_freeStarts_63 : decode cX12_freeStarts 63 = .ok (.iconst 0, 1) := by decide +kernel
theorem dX12_freeStarts_64 : decode cX12_freeStarts 64 = .ok (.istore 4, 2) := by decide +kernel
theorem dX12_freeStarts_66 : decode cX12_freeStarts 66 = .ok (.iinc 5 1, 3) := by decide +kernel
theorem dX12_freeStarts_69 : decode cX12_freeStarts 69 = .ok (.goto (-51), 3) := by decide +kernel
theorem dX12_freeStarts_72 : decode cX12_freeStarts 72 = .ok (.iload_n 2, 1) := by decide +kernel
theorem dX12_freeStarts_73 : decode cX12_freeStarts 73 = .ok (.iload 4, 2) := by decide +kernel
theorem dX12_freeStarts_75 : decode cX12_freeStarts 75 = .ok (.ifCond .eq 9, 3) := by decide +kernel
theorem dX12_freeStarts_78 : decode cX12_freeStarts 78 = .ok (.iconst 1, 1) := by decide +kernel
theorem dX12_freeStarts_79 : decode cX12_freeStarts 79 = .ok (.iload_n 3, 1) := by decide +kernel
theorem dX12_freeStarts_80 : decode cX12_freeStarts 80 = .ok (.ishl, 1) := by decide +kernel
theorem dX12_freeStarts_81 : decode cX12_freeStarts 81 = .ok (.goto 4, 3) := by decide +kernel
theorem dX12_freeStarts_84 : decode cX12_freeStarts 84 = .ok (.iconst 0, 1) := by decide +kernel
theorem dX12_freeStarts_85 : decode cX12_freeStarts 85 = .ok (.ior, 1) := by decide +kernel
theorem dX12_freeStarts_86 : decode cX12_freeStarts 86 = .ok (.istore_n 2, 1) := by decide +kernel
theorem dX12_freeStarts_87 : decode cX12_freeStarts 87 = .ok (.iinc 3 1, 3) := by decide +kernel
theorem dX12_freeStarts_90 : decode cX12_freeStarts 90 = .ok (.goto (-86), 3) := by decide +kernel
theorem dX12_freeStarts_93 : decode cX12_freeStarts 93 = .ok (.iload_n 2, 1) := by decide +kernel
theorem dX12_freeStarts_94 : decode cX12_freeStarts 94 = .ok (.ireturn, 1) := by decide +kernel
theorem dX12_gapOf_0 : decode cX12_gapOf 0 = .ok (.iconst 0, 1) := by decide +kernel
theorem dX12_gapOf_1 : decode cX12_gapOf 1 = .ok (.istore_n 2, 1) := by decide +kernel
theorem dX12_gapOf_2 : decode cX12_gapOf 2 = .ok (.iconst 0, 1) := by decide +kernel
theorem dX12_gapOf_3 : decode cX12_gapOf 3 = .ok (.istore_n 3, 1) := by decide +kernel
theorem dX12_gapOf_4 : decode cX12_gapOf 4 = .ok (.iload_n 3, 1) := by decide +kernel
theorem dX12_gapOf_5 : decode cX12_gapOf 5 = .ok (.aload_n 0, 1) := by decide +kernel
theorem dX12_gapOf_6 : decode cX12_gapOf 6 = .ok (.getfield 185, 3) := by decide +kernel
theorem dX12_gapOf_9 : decode cX12_gapOf 9 = .ok (.if_icmp .ge 64, 3) := by decide +kernel
theorem dX12_gapOf_12 : decode cX12_gapOf 12 = .ok (.iconst 1, 1) := by decide +kernel
theorem dX12_gapOf_13 : decode cX12_gapOf 13 = .ok (.istore 4, 2) := by decide +kernel
theorem dX12_gapOf_15 : decode cX12_gapOf 15 = .ok (.iload_n 1, 1) := by decide +kernel
theorem dX12_gapOf_16 : decode cX12_gapOf 16 = .ok (.iload_n 3, 1) := by decide +kernel
theorem dX12_gapOf_17 : decode cX12_gapOf 17 = .ok (.iload 4, 2) := by decide +kernel
theorem dX12_gapOf_19 : decode cX12_gapOf 19 = .ok (.iadd, 1) := by decide +kernel
theorem dX12_gapOf_20 : decode cX12_gapOf 20 = .ok (.aload_n 0, 1) := by decide +kernel
theorem dX12_gapOf_21 : decode cX12_gapOf 21 = .ok (.getfield 185, 3) := by decide +kernel
theorem dX12_gapOf_24 : decode cX12_gapOf 24 = .ok (.irem, 1) := by decide +kernel
theorem dX12_gapOf_25 : decode cX12_gapOf 25 = .ok (.invokestatic 200, 3) := by decide +kernel
theorem dX12_gapOf_28 : decode cX12_gapOf 28 = .ok (.ifCond .ne 18, 3) := by decide +kernel
theorem dX12_gapOf_31 : decode cX12_gapOf 31 = .ok (.iload 4, 2) := by decide +kernel
theorem dX12_gapOf_33 : decode cX12_gapOf 33 = .ok (.aload_n 0, 1) := by decide +kernel
theorem dX12_gapOf_34 : decode cX12_gapOf 34 = .ok (.getfield 185, 3) := by decide +kernel
theorem dX12_gapOf_37 : decode cX12_gapOf 37 = .ok (.if_icmp .ge 9, 3) := by decide +kernel
theorem dX12_gapOf_40 : decode cX12_gapOf 40 = .ok (.iinc 4 1, 3) := by decide +kernel
theorem dX12_gapOf_43 : decode cX12_gapOf 43 = .ok (.goto (-28), 3) := by decide +kernel
theorem dX12_gapOf_46 : decode cX12_gapOf 46 = .ok (.iload_n 1, 1) := by decide +kernel
theorem dX12_gapOf_47 : decode cX12_gapOf 47 = .ok (.iload_n 3, 1) := by decide +kernel
theorem dX12_gapOf_48 : decode cX12_gapOf 48 = .ok (.invokestatic 200, 3) := by decide +kernel
theorem dX12_gapOf_51 : decode cX12_gapOf 51 = .ok (.ifCond .eq 14, 3) := by decide +kernel
theorem dX12_gapOf_54 : decode cX12_gapOf 54 = .ok (.iload 4, 2) := by decide +kernel
theorem dX12_gapOf_56 : decode cX12_gapOf 56 = .ok (.iload_n 2, 1) := by decide +kernel
theorem dX12_gapOf_57 : decode cX12_gapOf 57 = .ok (.if_icmp .le 8, 3) := by decide +kernel
theorem dX12_gapOf_60 : decode cX12_gapOf 60 = .ok (.iload 4, 2) := by decide +kernel
theorem dX12_gapOf_62 : decode cX12_gapOf 62 = .ok (.goto 4, 3) := by decide +kernel
theorem dX12_gapOf_65 : decode cX12_gapOf 65 = .ok (.iload_n 2, 1) := by decide +kernel
theorem dX12_gapOf_66 : decode cX12_gapOf 66 = .ok (.istore_n 2, 1) := by decide +kernel
theorem dX12_gapOf_67 : decode cX12_gapOf 67 = .ok (.iinc 3 1, 3) := by decide +kernel
theorem dX12_gapOf_70 : decode cX12_gapOf 70 = .ok (.goto (-66), 3) := by decide +kernel
theorem dX12_gapOf_73 : decode cX12_gapOf 73 = .ok (.iload_n 2, 1) := by decide +kernel
theorem dX12_gapOf_74 : decode cX12_gapOf 74 = .ok (.ireturn, 1) := by decide +kernel
theorem dX12_isLesser_0 : decode cX12_isLesser 0 = .ok (.iconst 0, 1) := by decide +kernel
theorem dX12_isLesser_1 : decode cX12_isLesser 1 = .ok (.istore_n 2, 1) := by decide +kernel
theorem dX12_isLesser_2 : decode cX12_isLesser 2 = .ok (.iload_n 0, 1) := by decide +kernel
theorem dX12_isLesser_3 : decode cX12_isLesser 3 = .ok (.iload_n 2, 1) := by decide +kernel
theorem dX12_isLesser_4 : decode cX12_isLesser 4 = .ok (.invokestatic 200, 3) := by decide +kernel
theorem dX12_isLesser_7 : decode cX12_isLesser 7 = .ok (.iload_n 1, 1) := by decide +kernel
theorem dX12_isLesser_8 : decode cX12_isLesser 8 = .ok (.iload_n 2, 1) := by decide +kernel
theorem dX12_isLesser_9 : decode cX12_isLesser 9 = .ok (.invokestatic 200, 3) := by decide +kernel
theorem dX12_isLesser_12 : decode cX12_isLesser 12 = .ok (.if_icmp .ne 9, 3) := by decide +kernel
theorem dX12_isLesser_15 : decode cX12_isLesser 15 = .ok (.iinc 2 1, 3) := by decide +kernel
theorem dX12_isLesser_18 : decode cX12_isLesser 18 = .ok (.goto (-16), 3) := by decide +kernel
theorem dX12_isLesser_21 : decode cX12_isLesser 21 = .ok (.iload_n 0, 1) := by decide +kernel
theorem dX12_isLesser_22 : decode cX12_isLesser 22 = .ok (.iload_n 2, 1) := by decide +kernel
theorem dX12_isLesser_23 : decode cX12_isLesser 23 = .ok (.invokestatic 200, 3) := by decide +kernel
theorem dX12_isLesser_26 : decode cX12_isLesser 26 = .ok (.ireturn, 1) := by decide +kernel
theorem dX12_plainStarts_0 : decode cX12_plainStarts 0 = .ok (.iconst 0, 1) := by decide +kernel
theorem dX12_plainStarts_1 : decode cX12_plainStarts 1 = .ok (.istore_n 3, 1) := by decide +kernel
theorem dX12_plainStarts_2 : decode cX12_plainStarts 2 = .ok (.iconst 0, 1) := by decide +kernel
theorem dX12_plainStarts_3 : decode cX12_plainStarts 3 = .ok (.istore 4, 2) := by decide +kernel
theorem dX12_plainStarts_5 : decode cX12_plainStarts 5 = .ok (.iload 4, 2) := by decide +kernel
theorem dX12_plainStarts_7 : decode cX12_plainStarts 7 = .ok (.aload_n 0, 1) := by decide +kernel
theorem dX12_plainStarts_8 : decode cX12_plainStarts 8 = .ok (.getfield 185, 3) := by decide +kernel
theorem dX12_plainStarts_11 : decode cX12_plainStarts 11 = .ok (.if_icmp .ge 26, 3) := by decide +kernel
theorem dX12_plainStarts_14 : decode cX12_plainStarts 14 = .ok (.iload_n 3, 1) := by decide +kernel
theorem dX12_plainStarts_15 : decode cX12_plainStarts 15 = .ok (.invokestatic 216, 3) := by decide +kernel
theorem dX12_plainStarts_18 : decode cX12_plainStarts 18 = .ok (.iload_n 2, 1) := by decide +kernel
theorem dX12_plainStarts_19 : decode cX12_plainStarts 19 = .ok (.if_icmp .ge 18, 3) := by decide +kernel
theorem dX12_plainStarts_22 : decode cX12_plainStarts 22 = .ok (.iload_n 3, 1) := by decide +kernel
theorem dX12_plainStarts_23 : decode cX12_plainStarts 23 = .ok (.iload_n 1, 1) := by decide +kernel
theorem dX12_plainStarts_24 : decode cX12_plainStarts 24 = .ok (.iconst 1, 1) := by decide +kernel
theorem dX12_plainStarts_25 : decode cX12_plainStarts 25 = .ok (.iload 4, 2) := by decide +kernel
theorem dX12_plainStarts_27 : decode cX12_plainStarts 27 = .ok (.ishl, 1) := by decide +kernel
theorem dX12_plainStarts_28 : decode cX12_plainStarts 28 = .ok (.iand, 1) := by decide +kernel
theorem dX12_plainStarts_29 : decode cX12_plainStarts 29 = .ok (.ior, 1) := by decide +kernel
theorem dX12_plainStarts_30 : decode cX12_plainStarts 30 = .ok (.istore_n 3, 1) := by decide +kernel
theorem dX12_plainStarts_31 : decode cX12_plainStarts 31 = .ok (.iinc 4 1, 3) := by decide +kernel
theorem dX12_plainStarts_34 : decode cX12_plainStarts 34 = .ok (.goto (-29), 3) := by decide +kernel
theorem dX12_plainStarts_37 : decode cX12_plainStarts 37 = .ok (.iload_n 3, 1) := by decide +kernel
theorem dX12_plainStarts_38 : decode cX12_plainStarts 38 = .ok (.invokestatic 216, 3) := by decide +kernel
theorem dX12_plainStarts_41 : decode cX12_plainStarts 41 = .ok (.iload_n 2, 1) := by decide +kernel
theorem dX12_plainStarts_42 : decode cX12_plainStarts 42 = .ok (.if_icmp .ne 7, 3) := by decide +kernel
theorem dX12_plainStarts_45 : decode cX12_plainStarts 45 = .ok (.iload_n 3, 1) := by decide +kernel
theorem dX12_plainStarts_46 : decode cX12_plainStarts 46 = .ok (.goto 4, 3) := by decide +kernel
theorem dX12_plainStarts_49 : decode cX12_plainStarts 49 = .ok (.iconst (-1), 1) := by decide +kernel
theorem dX12_plainStarts_50 : decode cX12_plainStarts 50 = .ok (.ireturn, 1) := by decide +kernel
theorem dX12_spreadStarts_0 : decode cX12_spreadStarts 0 = .ok (.iconst (-1), 1) := by decide +kernel
theorem dX12_spreadStarts_1 : decode cX12_spreadStarts 1 = .ok (.istore_n 3, 1) := by decide +kernel
theorem dX12_spreadStarts_2 : decode cX12_spreadStarts 2 = .ok (.ldc 219, 2) := by decide +kernel
theorem dX12_spreadStarts_4 : decode cX12_spreadStarts 4 = .ok (.istore 4, 2) := by decide +kernel
theorem dX12_spreadStarts_6 : decode cX12_spreadStarts 6 = .ok (.iconst 1, 1) := by decide +kernel
theorem dX12_spreadStarts_7 : decode cX12_spreadStarts 7 = .ok (.istore 5, 2) := by decide +kernel
theorem dX12_spreadStarts_9 : decode cX12_spreadStarts 9 = .ok (.iload 5, 2) := by decide +kernel
theorem dX12_spreadStarts_11 : decode cX12_spreadStarts 11 = .ok (.iconst 1, 1) := by decide +kernel
theorem dX12_spreadStarts_12 : decode cX12_spreadStarts 12 = .ok (.aload_n 0, 1) := by decide +kernel
theorem dX12_spreadStarts_13 : decode cX12_spreadStarts 13 = .ok (.getfield 185, 3) := by decide +kernel
theorem dX12_spreadStarts_16 : decode cX12_spreadStarts 16 = .ok (.ishl, 1) := by decide +kernel
theorem dX12_spreadStarts_17 : decode cX12_spreadStarts 17 = .ok (.if_icmp .ge 65, 3) := by decide +kernel
theorem dX12_spreadStarts_20 : decode cX12_spreadStarts 20 = .ok (.iload 5, 2) := by decide +kernel
theorem dX12_spreadStarts_22 : decode cX12_spreadStarts 22 = .ok (.iload_n 1, 1) := by decide +kernel
theorem dX12_spreadStarts_23 : decode cX12_spreadStarts 23 = .ok (.iand, 1) := by decide +kernel
theorem dX12_spreadStarts_24 : decode cX12_spreadStarts 24 = .ok (.iload 5, 2) := by decide +kernel
theorem dX12_spreadStarts_26 : decode cX12_spreadStarts 26 = .ok (.if_icmp .ne 50, 3) := by decide +kernel
theorem dX12_spreadStarts_29 : decode cX12_spreadStarts 29 = .ok (.iload 5, 2) := by decide +kernel
theorem dX12_spreadStarts_31 : decode cX12_spreadStarts 31 = .ok (.invokestatic 216, 3) := by decide +kernel
theorem dX12_spreadStarts_34 : decode cX12_spreadStarts 34 = .ok (.iload_n 2, 1) := by decide +kernel
theorem dX12_spreadStarts_35 : decode cX12_spreadStarts 35 = .ok (.if_icmp .ne 41, 3) := by decide +kernel
theorem dX12_spreadStarts_38 : decode cX12_spreadStarts 38 = .ok (.aload_n 0, 1) := by decide +kernel
theorem dX12_spreadStarts_39 : decode cX12_spreadStarts 39 = .ok (.iload 5, 2) := by decide +kernel
theorem dX12_spreadStarts_41 : decode cX12_spreadStarts 41 = .ok (.invokevirtual 220, 3) := by decide +kernel
theorem dX12_spreadStarts_44 : decode cX12_spreadStarts 44 = .ok (.istore 6, 2) := by decide +kernel
theorem dX12_spreadStarts_46 : decode cX12_spreadStarts 46 = .ok (.iload 6, 2) := by decide +kernel
theorem dX12_spreadStarts_48 : decode cX12_spreadStarts 48 = .ok (.iload 4, 2) := by decide +kernel
theorem dX12_spreadStarts_50 : decode cX12_spreadStarts 50 = .ok (.if_icmp .lt 19, 3) := by decide +kernel
theorem dX12_spreadStarts_53 : decode cX12_spreadStarts 53 = .ok (.iload 6, 2) := by decide +kernel
theorem dX12_spreadStarts_55 : decode cX12_spreadStarts 55 = .ok (.iload 4, 2) := by decide +kernel
theorem dX12_spreadStarts_57 : decode cX12_spreadStarts 57 = .ok (.if_icmp .ne 19, 3) := by decide +kernel
theorem dX12_spreadStarts_60 : decode cX12_spreadStarts 60 = .ok (.iload 5, 2) := by decide +kernel
theorem dX12_spreadStarts_62 : decode cX12_spreadStarts 62 = .ok (.iload_n 3, 1) := by decide +kernel
theorem dX12_spreadStarts_63 : decode cX12_spreadStarts 63 = .ok (.invokestatic 223, 3) := by decide +kernel
theorem dX12_spreadStarts_66 : decode cX12_spreadStarts 66 = .ok (.ifCond .eq 10, 3) := by decide +kernel
theorem dX12_spreadStarts_69 : decode cX12_spreadStarts 69 = .ok (.iload 5, 2) := by decide +kernel
theorem dX12_spreadStarts_71 : decode cX12_spreadStarts 71 = .ok (.istore_n 3, 1) := by decide +kernel
theorem dX12_spreadStarts_72 : decode cX12_spreadStarts 72 = .ok (.iload 6, 2) := by decide +kernel
theorem dX12_spreadStarts_74 : decode cX12_spreadStarts 74 = .ok (.istore 4, 2) := by decide +kernel
theorem dX12_spreadStarts_76 : decode cX12_spreadStarts 76 = .ok (.iinc 5 1, 3) := by decide +kernel
theorem dX12_spreadStarts_79 : decode cX12_spreadStarts 79 = .ok (.goto (-70), 3) := by decide +kernel
theorem dX12_spreadStarts_82 : decode cX12_spreadStarts 82 = .ok (.iload_n 3, 1) := by decide +kernel
theorem dX12_spreadStarts_83 : decode cX12_spreadStarts 83 = .ok (.ireturn, 1) := by decide +kernel
theorem dX12_burstStarts_0 : decode cX12_burstStarts 0 = .ok (.iconst 0, 1) := by decide +kernel
theorem dX12_burstStarts_1 : decode cX12_burstStarts 1 = .ok (.istore_n 3, 1) := by decide +kernel
theorem dX12_burstStarts_2 : decode cX12_burstStarts 2 = .ok (.iload_n 3, 1) := by decide +kernel
theorem dX12_burstStarts_3 : decode cX12_burstStarts 3 = .ok (.aload_n 0, 1) := by decide +kernel
theorem dX12_burstStarts_4 : decode cX12_burstStarts 4 = .ok (.getfield 185, 3) := by decide +kernel
theorem dX12_burstStarts_7 : decode cX12_burstStarts 7 = .ok (.if_icmp .ge 55, 3) := by decide +kernel
theorem dX12_burstStarts_10 : decode cX12_burstStarts 10 = .ok (.iconst 0, 1) := by decide +kernel
theorem dX12_burstStarts_11 : decode cX12_burstStarts 11 = .ok (.istore 4, 2) := by decide +kernel
theorem dX12_burstStarts_13 : decode cX12_burstStarts 13 = .ok (.iconst 0, 1) := by decide +kernel
theorem dX12_burstStarts_14 : decode cX12_burstStarts 14 = .ok (.istore 5, 2) := by decide +kernel
theorem dX12_burstStarts_16 : decode cX12_burstStarts 16 = .ok (.iload 5, 2) := by decide +kernel
theorem dX12_burstStarts_18 : decode cX12_burstStarts 18 = .ok (.iload_n 2, 1) := by decide +kernel
theorem dX12_burstStarts_19 : decode cX12_burstStarts 19 = .ok (.if_icmp .ge 25, 3) := by decide +kernel
theorem dX12_burstStarts_22 : decode cX12_burstStarts 22 = .ok (.iload 4, 2) := by decide +kernel
theorem dX12_burstStarts_24 : decode cX12_burstStarts 24 = .ok (.iconst 1, 1) := by decide +kernel
theorem dX12_burstStarts_25 : decode cX12_burstStarts 25 = .ok (.iload_n 3, 1) := by decide +kernel
theorem dX12_burstStarts_26 : decode cX12_burstStarts 26 = .ok (.iload 5, 2) := by decide +kernel
theorem dX12_burstStarts_28 : decode cX12_burstStarts 28 = .ok (.iadd, 1) := by decide +kernel
theorem dX12_burstStarts_29 : decode cX12_burstStarts 29 = .ok (.aload_n 0, 1) := by decide +kernel
theorem dX12_burstStarts_30 : decode cX12_burstStarts 30 = .ok (.getfield 185, 3) := by decide +kernel
theorem dX12_burstStarts_33 : decode cX12_burstStarts 33 = .ok (.irem, 1) := by decide +kernel
theorem dX12_burstStarts_34 : decode cX12_burstStarts 34 = .ok (.ishl, 1) := by decide +kernel
theorem dX12_burstStarts_35 : decode cX12_burstStarts 35 = .ok (.ior, 1) := by decide +kernel
theorem dX12_burstStarts_36 : decode cX12_burstStarts 36 = .ok (.istore 4, 2) := by decide +kernel
theorem dX12_burstStarts_38 : decode cX12_burstStarts 38 = .ok (.iinc 5 1, 3) := by decide +kernel
theorem dX12_burstStarts_41 : decode cX12_burstStarts 41 = .ok (.goto (-25), 3) := by decide +kernel
theorem dX12_burstStarts_44 : decode cX12_burstStarts 44 = .ok (.iload 4, 2) := by decide +kernel
theorem dX12_burstStarts_46 : decode cX12_burstStarts 46 = .ok (.iload_n 1, 1) := by decide +kernel
theorem dX12_burstStarts_47 : decode cX12_burstStarts 47 = .ok (.iand, 1) := by decide +kernel
theorem dX12_burstStarts_48 : decode cX12_burstStarts 48 = .ok (.iload 4, 2) := by decide +kernel
theorem dX12_burstStarts_50 : decode cX12_burstStarts 50 = .ok (.if_icmp .ne 6, 3) := by decide +kernel
theorem dX12_burstStarts_53 : decode cX12_burstStarts 53 = .ok (.iload 4, 2) := by decide +kernel
theorem dX12_burstStarts_55 : decode cX12_burstStarts 55 = .ok (.ireturn, 1) := by decide +kernel
theorem dX12_burstStarts_56 : decode cX12_burstStarts 56 = .ok (.iinc 3 1, 3) := by decide +kernel
theorem dX12_burstStarts_59 : decode cX12_burstStarts 59 = .ok (.goto (-57), 3) := by decide +kernel
theorem dX12_burstStarts_62 : decode cX12_burstStarts 62 = .ok (.iconst (-1), 1) := by decide +kernel
theorem dX12_burstStarts_63 : decode cX12_burstStarts 63 = .ok (.ireturn, 1) := by decide +kernel
theorem dX12_startsFor_0 : decode cX12_startsFor 0 = .ok (.iload_n 1, 1) := by decide +kernel
theorem dX12_startsFor_1 : decode cX12_startsFor 1 = .ok (.tableswitch 41 1 3 #[27, 27, 34], 27) := by decide +kernel
theorem dX12_startsFor_28 : decode cX12_startsFor 28 = .ok (.aload_n 0, 1) := by decide +kernel
theorem dX12_startsFor_29 : decode cX12_startsFor 29 = .ok (.iload_n 3, 1) := by decide +kernel
theorem dX12_startsFor_30 : decode cX12_startsFor 30 = .ok (.iload_n 2, 1) := by decide +kernel
theorem dX12_startsFor_31 : decode cX12_startsFor 31 = .ok (.invokevirtual 226, 3) := by decide +kernel
theorem dX12_startsFor_34 : decode cX12_startsFor 34 = .ok (.ireturn, 1) := by decide +kernel
theorem dX12_startsFor_35 : decode cX12_startsFor 35 = .ok (.aload_n 0, 1) := by decide +kernel
theorem dX12_startsFor_36 : decode cX12_startsFor 36 = .ok (.iload_n 3, 1) := by decide +kernel
theorem dX12_startsFor_37 : decode cX12_startsFor 37 = .ok (.iload_n 2, 1) := by decide +kernel
theorem dX12_startsFor_38 : decode cX12_startsFor 38 = .ok (.invokevirtual 230, 3) := by decide +kernel
theorem dX12_startsFor_41 : decode cX12_startsFor 41 = .ok (.ireturn, 1) := by decide +kernel
theorem dX12_startsFor_42 : decode cX12_startsFor 42 = .ok (.aload_n 0, 1) := by decide +kernel
theorem dX12_startsFor_43 : decode cX12_startsFor 43 = .ok (.iload_n 3, 1) := by decide +kernel
theorem dX12_startsFor_44 : decode cX12_startsFor 44 = .ok (.iload_n 2, 1) := by decide +kernel
theorem dX12_startsFor_45 : decode cX12_startsFor 45 = .ok (.invokevirtual 233, 3) := by decide +kernel
theorem dX12_startsFor_48 : decode cX12_startsFor 48 = .ok (.ireturn, 1) := by decide +kernel
theorem dX12_findWay_0 : decode cX12_findWay 0 = .ok (.iconst 0, 1) := by decide +kernel
theorem dX12_findWay_1 : decode cX12_findWay 1 = .ok (.istore 6, 2) := by decide +kernel
theorem dX12_findWay_3 : decode cX12_findWay 3 = .ok (.iconst 1, 1) := by decide +kernel
theorem dX12_findWay_4 : decode cX12_findWay 4 = .ok (.istore 7, 2) := by decide +kernel
theorem dX12_findWay_6 : decode cX12_findWay 6 = .ok (.iload 7, 2) := by decide +kernel
theorem dX12_findWay_8 : decode cX12_findWay 8 = .ok (.bipush 6, 2) := by decide +kernel
theorem dX12_findWay_10 : decode cX12_findWay 10 = .ok (.if_icmp .gt 80, 3) := by decide +kernel
theorem dX12_findWay_13 : decode cX12_findWay 13 = .ok (.iconst 0, 1) := by decide +kernel
theorem dX12_findWay_14 : decode cX12_findWay 14 = .ok (.istore 8, 2) := by decide +kernel
theorem dX12_findWay_16 : decode cX12_findWay 16 = .ok (.iload 8, 2) := by decide +kernel
theorem dX12_findWay_18 : decode cX12_findWay 18 = .ok (.iload 7, 2) := by decide +kernel
theorem dX12_findWay_20 : decode cX12_findWay 20 = .ok (.invokestatic 210, 3) := by decide +kernel
theorem dX12_findWay_23 : decode cX12_findWay 23 = .ok (.if_icmp .ge 49, 3) := by decide +kernel
theorem dX12_findWay_26 : decode cX12_findWay 26 = .ok (.aload_n 0, 1) := by decide +kernel
theorem dX12_findWay_27 : decode cX12_findWay 27 = .ok (.iload_n 2, 1) := by decide +kernel
theorem dX12_findWay_28 : decode cX12_findWay 28 = .ok (.iload_n 3, 1) := by decide +kernel
theorem dX12_findWay_29 : decode cX12_findWay 29 = .ok (.iload 7, 2) := by decide +kernel
theorem dX12_findWay_31 : decode cX12_findWay 31 = .ok (.iload 8, 2) := by decide +kernel
theorem dX12_findWay_33 : decode cX12_findWay 33 = .ok (.invokevirtual 236, 3) := by decide +kernel
theorem dX12_findWay_36 : decode cX12_findWay 36 = .ok (.ifCond .eq 30, 3) := by decide +kernel
theorem dX12_findWay_39 : decode cX12_findWay 39 = .ok (.iconst 1, 1) := by decide +kernel
theorem dX12_findWay_40 : decode cX12_findWay 40 = .ok (.istore 6, 2) := by decide +kernel
theorem dX12_findWay_42 : decode cX12_findWay 42 = .ok (.aload_n 0, 1) := by decide +kernel
theorem dX12_findWay_43 : decode cX12_findWay 43 = .ok (.iload_n 1, 1) := by decide +kernel
theorem dX12_findWay_44 : decode cX12_findWay 44 = .ok (.iload 4, 2) := by decide +kernel
theorem dX12_findWay_46 : decode cX12_findWay 46 = .ok (.aload_n 0, 1) := by decide +kernel
theorem dX12_findWay_47 : decode cX12_findWay 47 = .ok (.iload 5, 2) := by decide +kernel
theorem dX12_findWay_49 : decode cX12_findWay 49 = .ok (.invokevirtual 240, 3) := by decide +kernel
theorem dX12_findWay_52 : decode cX12_findWay 52 = .ok (.invokevirtual 243, 3) := by decide +kernel
theorem dX12_findWay_55 : decode cX12_findWay 55 = .ok (.istore 9, 2) := by decide +kernel
theorem dX12_findWay_57 : decode cX12_findWay 57 = .ok (.iload 9, 2) := by decide +kernel
theorem dX12_findWay_59 : decode cX12_findWay 59 = .ok (.iconst (-1), 1) := by decide +kernel
theorem dX12_findWay_60 : decode cX12_findWay 60 = .ok (.if_icmp .eq 6, 3) := by decide +kernel
theorem dX12_findWay_63 : decode cX12_findWay 63 = .ok (.iload 9, 2) := by decide +kernel
theorem dX12_findWay_65 : decode cX12_findWay 65 = .ok (.ireturn, 1) := by decide +kernel
theorem dX12_findWay_66 : decode cX12_findWay 66 = .ok (.iinc 8 1, 3) := by decide +kernel
theorem dX12_findWay_69 : decode cX12_findWay 69 = .ok (.goto (-53), 3) := by decide +kernel
theorem dX12_findWay_72 : decode cX12_findWay 72 = .ok (.iload 6, 2) := by decide +kernel
theorem dX12_findWay_74 : decode cX12_findWay 74 = .ok (.ifCond .eq 10, 3) := by decide +kernel
theorem dX12_findWay_77 : decode cX12_findWay 77 = .ok (.iload_n 1, 1) := by decide +kernel
theorem dX12_findWay_78 : decode cX12_findWay 78 = .ok (.iconst 2, 1) := by decide +kernel
theorem dX12_findWay_79 : decode cX12_findWay 79 = .ok (.if_icmp .eq 5, 3) := by decide +kernel
theorem dX12_findWay_82 : decode cX12_findWay 82 = .ok (.iconst (-1), 1) := by decide +kernel
theorem dX12_findWay_83 : decode cX12_findWay 83 = .ok (.ireturn, 1) := by decide +kernel
theorem dX12_findWay_84 : decode cX12_findWay 84 = .ok (.iinc 7 1, 3) := by decide +kernel
theorem dX12_findWay_87 : decode cX12_findWay 87 = .ok (.goto (-81), 3) := by decide +kernel
theorem dX12_findWay_90 : decode cX12_findWay 90 = .ok (.iconst (-1), 1) := by decide +kernel
theorem dX12_findWay_91 : decode cX12_findWay 91 = .ok (.ireturn, 1) := by decide +kernel
theorem dX12_layWay_0 : decode cX12_layWay 0 = .ok (.aload_n 0, 1) := by decide +kernel
theorem dX12_layWay_1 : decode cX12_layWay 1 = .ok (.getfield 38, 3) := by decide +kernel
theorem dX12_layWay_4 : decode cX12_layWay 4 = .ok (.iload_n 1, 1) := by decide +kernel
theorem dX12_layWay_5 : decode cX12_layWay 5 = .ok (.aload_n 0, 1) := by decide +kernel
theorem dX12_layWay_6 : decode cX12_layWay 6 = .ok (.getfield 213, 3) := by decide +kernel
theorem dX12_layWay_9 : decode cX12_layWay 9 = .ok (.iastore, 1) := by decide +kernel
theorem dX12_layWay_10 : decode cX12_layWay 10 = .ok (.aload_n 0, 1) := by decide +kernel
theorem dX12_layWay_11 : decode cX12_layWay 11 = .ok (.getfield 44, 3) := by decide +kernel
theorem dX12_layWay_14 : decode cX12_layWay 14 = .ok (.iload_n 1, 1) := by decide +kernel
theorem dX12_layWay_15 : decode cX12_layWay 15 = .ok (.iload_n 2, 1) := by decide +kernel
theorem dX12_layWay_16 : decode cX12_layWay 16 = .ok (.iastore, 1) := by decide +kernel
theorem dX12_layWay_17 : decode cX12_layWay 17 = .ok (.iconst 0, 1) := by decide +kernel
theorem dX12_layWay_18 : decode cX12_layWay 18 = .ok (.istore_n 3, 1) := by decide +kernel
theorem dX12_layWay_19 : decode cX12_layWay 19 = .ok (.iload_n 3, 1) := by decide +kernel
theorem dX12_layWay_20 : decode cX12_layWay 20 = .ok (.aload_n 0, 1) := by decide +kernel
theorem dX12_layWay_21 : decode cX12_layWay 21 = .ok (.getfield 213, 3) := by decide +kernel
theorem dX12_layWay_24 : decode cX12_layWay 24 = .ok (.iconst 2, 1) := by decide +kernel
theorem dX12_layWay_25 : decode cX12_layWay 25 = .ok (.iadd, 1) := by decide +kernel
theorem dX12_layWay_26 : decode cX12_layWay 26 = .ok (.if_icmp .ge 26, 3) := by decide +kernel
theorem dX12_layWay_29 : decode cX12_layWay 29 = .ok (.aload_n 0, 1) := by decide +kernel
theorem dX12_layWay_30 : decode cX12_layWay 30 = .ok (.getfield 41, 3) := by decide +kernel
theorem dX12_layWay_33 : decode cX12_layWay 33 = .ok (.bipush 8, 2) := by decide +kernel
theorem dX12_layWay_35 : decode cX12_layWay 35 = .ok (.iload_n 1, 1) := by decide +kernel
theorem dX12_layWay_36 : decode cX12_layWay 36 = .ok (.imul, 1) := by decide +kernel
theorem dX12_layWay_37 : decode cX12_layWay 37 = .ok (.iload_n 3, 1) := by decide +kernel
theorem dX12_layWay_38 : decode cX12_layWay 38 = .ok (.iadd, 1) := by decide +kernel
theorem dX12_layWay_39 : decode cX12_layWay 39 = .ok (.aload_n 0, 1) := by decide +kernel
theorem dX12_layWay_40 : decode cX12_layWay 40 = .ok (.getfield 107, 3) := by decide +kernel
theorem dX12_layWay_43 : decode cX12_layWay 43 = .ok (.iload_n 3, 1) := by decide +kernel
theorem dX12_layWay_44 : decode cX12_layWay 44 = .ok (.iaload, 1) := by decide +kernel
theorem dX12_layWay_45 : decode cX12_layWay 45 = .ok (.iastore, 1) := by decide +kernel
theorem dX12_layWay_46 : decode cX12_layWay 46 = .ok (.iinc 3 1, 3) := by decide +kernel
theorem dX12_layWay_49 : decode cX12_layWay 49 = .ok (.goto (-30), 3) := by decide +kernel
theorem dX12_layWay_52 : decode cX12_layWay 52 = .ok (.return_, 1) := by decide +kernel
theorem dX12_linksMany_0 : decode cX12_linksMany 0 = .ok (.iconst 0, 1) := by decide +kernel
theorem dX12_linksMany_1 : decode cX12_linksMany 1 = .ok (.istore_n 1, 1) := by decide +kernel
theorem dX12_linksMany_2 : decode cX12_linksMany 2 = .ok (.iconst 0, 1) := by decide +kernel
theorem dX12_linksMany_3 : decode cX12_linksMany 3 = .ok (.istore_n 2, 1) := by decide +kernel
theorem dX12_linksMany_4 : decode cX12_linksMany 4 = .ok (.iload_n 2, 1) := by decide +kernel
theorem dX12_linksMany_5 : decode cX12_linksMany 5 = .ok (.bipush 54, 2) := by decide +kernel
theorem dX12_linksMany_7 : decode cX12_linksMany 7 = .ok (.if_icmp .ge 25, 3) := by decide +kernel
theorem dX12_linksMany_10 : decode cX12_linksMany 10 = .ok (.iload_n 1, 1) := by decide +kernel
theorem dX12_linksMany_11 : decode cX12_linksMany 11 = .ok (.aload_n 0, 1) := by decide +kernel
theorem dX12_linksMany_12 : decode cX12_linksMany 12 = .ok (.iload_n 2, 1) := by decide +kernel
theorem dX12_linksMany_13 : decode cX12_linksMany 13 = .ok (.invokevirtual 246, 3) := by decide +kernel
theorem dX12_linksMany_16 : decode cX12_linksMany 16 = .ok (.ifCond .eq 7, 3) := by decide +kernel
theorem dX12_linksMany_19 : decode cX12_linksMany 19 = .ok (.iconst 1, 1) := by decide +kernel
theorem dX12_linksMany_20 : decode cX12_linksMany 20 = .ok (.goto 4, 3) := by decide +kernel
theorem dX12_linksMany_23 : decode cX12_linksMany 23 = .ok (.iconst 0, 1) := by decide +kernel
theorem dX12_linksMany_24 : decode cX12_linksMany 24 = .ok (.iadd, 1) := by decide +kernel
theorem dX12_linksMany_25 : decode cX12_linksMany 25 = .ok (.istore_n 1, 1) := by decide +kernel
theorem dX12_linksMany_26 : decode cX12_linksMany 26 = .ok (.iinc 2 1, 3) := by decide +kernel
theorem dX12_linksMany_29 : decode cX12_linksMany 29 = .ok (.goto (-25), 3) := by decide +kernel
theorem dX12_linksMany_32 : decode cX12_linksMany 32 = .ok (.iload_n 1, 1) := by decide +kernel
theorem dX12_linksMany_33 : decode cX12_linksMany 33 = .ok (.ireturn, 1) := by decide +kernel
theorem dX12_brokenMany_0 : decode cX12_brokenMany 0 = .ok (.iconst 0, 1) := by decide +kernel
theorem dX12_brokenMany_1 : decode cX12_brokenMany 1 = .ok (.istore_n 1, 1) := by decide +kernel
theorem dX12_brokenMany_2 : decode cX12_brokenMany 2 = .ok (.iconst 0, 1) := by decide +kernel
theorem dX12_brokenMany_3 : decode cX12_brokenMany 3 = .ok (.istore_n 2, 1) := by decide +kernel
theorem dX12_brokenMany_4 : decode cX12_brokenMany 4 = .ok (.iload_n 2, 1) := by decide +kernel
theorem dX12_brokenMany_5 : decode cX12_brokenMany 5 = .ok (.bipush 54, 2) := by decide +kernel
theorem dX12_brokenMany_7 : decode cX12_brokenMany 7 = .ok (.if_icmp .ge 26, 3) := by decide +kernel
theorem dX12_brokenMany_10 : decode cX12_brokenMany 10 = .ok (.iload_n 1, 1) := by decide +kernel
theorem dX12_brokenMany_11 : decode cX12_brokenMany 11 = .ok (.aload_n 0, 1) := by decide +kernel
theorem dX12_brokenMany_12 : decode cX12_brokenMany 12 = .ok (.getfield 7, 3) := by decide +kernel
theorem dX12_brokenMany_15 : decode cX12_brokenMany 15 = .ok (.iload_n 2, 1) := by decide +kernel
theorem dX12_brokenMany_16 : decode cX12_brokenMany 16 = .ok (.baload, 1) := by decide +kernel
theorem dX12_brokenMany_17 : decode cX12_brokenMany 17 = .ok (.ifCond .eq 7, 3) := by decide +kernel
theorem dX12_brokenMany_20 : decode cX12_brokenMany 20 = .ok (.iconst 1, 1) := by decide +kernel
theorem dX12_brokenMany_21 : decode cX12_brokenMany 21 = .ok (.goto 4, 3) := by decide +kernel
theorem dX12_brokenMany_24 : decode cX12_brokenMany 24 = .ok (.iconst 0, 1) := by decide +kernel
theorem dX12_brokenMany_25 : decode cX12_brokenMany 25 = .ok (.iadd, 1) := by decide +kernel
theorem dX12_brokenMany_26 : decode cX12_brokenMany 26 = .ok (.istore_n 1, 1) := by decide +kernel
theorem dX12_brokenMany_27 : decode cX12_brokenMany 27 = .ok (.iinc 2 1, 3) := by decide +kernel
theorem dX12_brokenMany_30 : decode cX12_brokenMany 30 = .ok (.goto (-26), 3) := by decide +kernel
theorem dX12_brokenMany_33 : decode cX12_brokenMany 33 = .ok (.iload_n 1, 1) := by decide +kernel
theorem dX12_brokenMany_34 : decode cX12_brokenMany 34 = .ok (.ireturn, 1) := by decide +kernel
theorem dX12_allHad_0 : decode cX12_allHad 0 = .ok (.iconst 0, 1) := by decide +kernel
theorem dX12_allHad_1 : decode cX12_allHad 1 = .ok (.istore_n 1, 1) := by decide +kernel
theorem dX12_allHad_2 : decode cX12_allHad 2 = .ok (.iconst 0, 1) := by decide +kernel
theorem dX12_allHad_3 : decode cX12_allHad 3 = .ok (.istore_n 2, 1) := by decide +kernel
theorem dX12_allHad_4 : decode cX12_allHad 4 = .ok (.iload_n 2, 1) := by decide +kernel
theorem dX12_allHad_5 : decode cX12_allHad 5 = .ok (.bipush 54, 2) := by decide +kernel
theorem dX12_allHad_7 : decode cX12_allHad 7 = .ok (.if_icmp .ge 29, 3) := by decide +kernel
theorem dX12_allHad_10 : decode cX12_allHad 10 = .ok (.iload_n 1, 1) := by decide +kernel
theorem dX12_allHad_11 : decode cX12_allHad 11 = .ok (.aload_n 0, 1) := by decide +kernel
theorem dX12_allHad_12 : decode cX12_allHad 12 = .ok (.iload_n 2, 1) := by decide +kernel
theorem dX12_allHad_13 : decode cX12_allHad 13 = .ok (.invokevirtual 246, 3) := by decide +kernel
theorem dX12_allHad_16 : decode cX12_allHad 16 = .ok (.ifCond .eq 11, 3) := by decide +kernel
theorem dX12_allHad_19 : decode cX12_allHad 19 = .ok (.aload_n 0, 1) := by decide +kernel
theorem dX12_allHad_20 : decode cX12_allHad 20 = .ok (.iload_n 2, 1) := by decide +kernel
theorem dX12_allHad_21 : decode cX12_allHad 21 = .ok (.invokevirtual 249, 3) := by decide +kernel
theorem dX12_allHad_24 : decode cX12_allHad 24 = .ok (.goto 4, 3) := by decide +kernel
theorem dX12_allHad_27 : decode cX12_allHad 27 = .ok (.iconst 0, 1) := by decide +kernel
theorem dX12_allHad_28 : decode cX12_allHad 28 = .ok (.iadd, 1) := by decide +kernel
theorem dX12_allHad_29 : decode cX12_allHad 29 = .ok (.istore_n 1, 1) := by decide +kernel
theorem dX12_allHad_30 : decode cX12_allHad 30 = .ok (.iinc 2 1, 3) := by decide +kernel
theorem dX12_allHad_33 : decode cX12_allHad 33 = .ok (.goto (-29), 3) := by decide +kernel
theorem dX12_allHad_36 : decode cX12_allHad 36 = .ok (.iload_n 1, 1) := by decide +kernel
theorem dX12_allHad_37 : decode cX12_allHad 37 = .ok (.ireturn, 1) := by decide +kernel
theorem dX12_busiest_0 : decode cX12_busiest 0 = .ok (.iconst 0, 1) := by decide +kernel
theorem dX12_busiest_1 : decode cX12_busiest 1 = .ok (.istore_n 1, 1) := by decide +kernel
theorem dX12_busiest_2 : decode cX12_busiest 2 = .ok (.iconst 0, 1) := by decide +kernel
theorem dX12_busiest_3 : decode cX12_busiest 3 = .ok (.istore_n 2, 1) := by decide +kernel
theorem dX12_busiest_4 : decode cX12_busiest 4 = .ok (.iload_n 2, 1) := by decide +kernel
theorem dX12_busiest_5 : decode cX12_busiest 5 = .ok (.bipush 54, 2) := by decide +kernel
theorem dX12_busiest_7 : decode cX12_busiest 7 = .ok (.if_icmp .ge 38, 3) := by decide +kernel
theorem dX12_busiest_10 : decode cX12_busiest 10 = .ok (.aload_n 0, 1) := by decide +kernel
theorem dX12_busiest_11 : decode cX12_busiest 11 = .ok (.iload_n 2, 1) := by decide +kernel
theorem dX12_busiest_12 : decode cX12_busiest 12 = .ok (.invokevirtual 246, 3) := by decide +kernel
theorem dX12_busiest_15 : decode cX12_busiest 15 = .ok (.ifCond .eq 22, 3) := by decide +kernel
theorem dX12_busiest_18 : decode cX12_busiest 18 = .ok (.aload_n 0, 1) := by decide +kernel
theorem dX12_busiest_19 : decode cX12_busiest 19 = .ok (.getfield 13, 3) := by decide +kernel
theorem dX12_busiest_22 : decode cX12_busiest 22 = .ok (.iload_n 2, 1) := by decide +kernel
theorem dX12_busiest_23 : decode cX12_busiest 23 = .ok (.iaload, 1) := by decide +kernel
theorem dX12_busiest_24 : decode cX12_busiest 24 = .ok (.aload_n 0, 1) := by decide +kernel
theorem dX12_busiest_25 : decode cX12_busiest 25 = .ok (.getfield 13, 3) := by decide +kernel
theorem dX12_busiest_28 : decode cX12_busiest 28 = .ok (.iload_n 1, 1) := by decide +kernel
theorem dX12_busiest_29 : decode cX12_busiest 29 = .ok (.iaload, 1) := by decide +kernel
theorem dX12_busiest_30 : decode cX12_busiest 30 = .ok (.if_icmp .le 7, 3) := by decide +kernel
theorem dX12_busiest_33 : decode cX12_busiest 33 = .ok (.iload_n 2, 1) := by decide +kernel
theorem dX12_busiest_34 : decode cX12_busiest 34 = .ok (.goto 4, 3) := by decide +kernel
theorem dX12_busiest_37 : decode cX12_busiest 37 = .ok (.iload_n 1, 1) := by decide +kernel
theorem dX12_busiest_38 : decode cX12_busiest 38 = .ok (.istore_n 1, 1) := by decide +kernel
theorem dX12_busiest_39 : decode cX12_busiest 39 = .ok (.iinc 2 1, 3) := by decide +kernel
theorem dX12_busiest_42 : decode cX12_busiest 42 = .ok (.goto (-38), 3) := by decide +kernel
theorem dX12_busiest_45 : decode cX12_busiest 45 = .ok (.iload_n 1, 1) := by decide +kernel
theorem dX12_busiest_46 : decode cX12_busiest 46 = .ok (.ireturn, 1) := by decide +kernel
theorem dX12_aboutNow_0 : decode cX12_aboutNow 0 = .ok (.iload_n 1, 1) := by decide +kernel
theorem dX12_aboutNow_1 : decode cX12_aboutNow 1 = .ok (.tableswitch 78 0 6 #[43, 48, 53, 58, 63, 68, 73], 43) := by decide +kernel
theorem dX12_aboutNow_44 : decode cX12_aboutNow 44 = .ok (.aload_n 0, 1) := by decide +kernel
theorem dX12_aboutNow_45 : decode cX12_aboutNow 45 = .ok (.getfield 119, 3) := by decide +kernel
theorem dX12_aboutNow_48 : decode cX12_aboutNow 48 = .ok (.ireturn, 1) := by decide +kernel
theorem dX12_aboutNow_49 : decode cX12_aboutNow 49 = .ok (.aload_n 0, 1) := by decide +kernel
theorem dX12_aboutNow_50 : decode cX12_aboutNow 50 = .ok (.getfield 123, 3) := by decide +kernel
theorem dX12_aboutNow_53 : decode cX12_aboutNow 53 = .ok (.ireturn, 1) := by decide +kernel
theorem dX12_aboutNow_54 : decode cX12_aboutNow 54 = .ok (.aload_n 0, 1) := by decide +kernel
theorem dX12_aboutNow_55 : decode cX12_aboutNow 55 = .ok (.getfield 185, 3) := by decide +kernel
theorem dX12_aboutNow_58 : decode cX12_aboutNow 58 = .ok (.ireturn, 1) := by decide +kernel
theorem dX12_aboutNow_59 : decode cX12_aboutNow 59 = .ok (.aload_n 0, 1) := by decide +kernel
theorem dX12_aboutNow_60 : decode cX12_aboutNow 60 = .ok (.invokevirtual 252, 3) := by decide +kernel
theorem dX12_aboutNow_63 : decode cX12_aboutNow 63 = .ok (.ireturn, 1) := by decide +kernel
theorem dX12_aboutNow_64 : decode cX12_aboutNow 64 = .ok (.aload_n 0, 1) := by decide +kernel
theorem dX12_aboutNow_65 : decode cX12_aboutNow 65 = .ok (.invokevirtual 255, 3) := by decide +kernel
theorem dX12_aboutNow_68 : decode cX12_aboutNow 68 = .ok (.ireturn, 1) := by decide +kernel
theorem dX12_aboutNow_69 : decode cX12_aboutNow 69 = .ok (.aload_n 0, 1) := by decide +kernel
theorem dX12_aboutNow_70 : decode cX12_aboutNow 70 = .ok (.invokevirtual 258, 3) := by decide +kernel
theorem dX12_aboutNow_73 : decode cX12_aboutNow 73 = .ok (.ireturn, 1) := by decide +kernel
theorem dX12_aboutNow_74 : decode cX12_aboutNow 74 = .ok (.aload_n 0, 1) := by decide +kernel
theorem dX12_aboutNow_75 : decode cX12_aboutNow 75 = .ok (.getfield 188, 3) := by decide +kernel
theorem dX12_aboutNow_78 : decode cX12_aboutNow 78 = .ok (.ireturn, 1) := by decide +kernel
theorem dX12_aboutNow_79 : decode cX12_aboutNow 79 = .ok (.aload_n 0, 1) := by decide +kernel
theorem dX12_aboutNow_80 : decode cX12_aboutNow 80 = .ok (.invokevirtual 261, 3) := by decide +kernel
theorem dX12_aboutNow_83 : decode cX12_aboutNow 83 = .ok (.ireturn, 1) := by decide +kernel
theorem dX12_about_0 : decode cX12_about 0 = .ok (.iload_n 1, 1) := by decide +kernel
theorem dX12_about_1 : decode cX12_about 1 = .ok (.iconst 0, 1) := by decide +kernel
theorem dX12_about_2 : decode cX12_about 2 = .ok (.bipush 7, 2) := by decide +kernel
theorem dX12_about_4 : decode cX12_about 4 = .ok (.invokestatic 130, 3) := by decide +kernel
theorem dX12_about_7 : decode cX12_about 7 = .ok (.ifCond .ne 6, 3) := by decide +kernel
theorem dX12_about_10 : decode cX12_about 10 = .ok (.bipush (-102), 2) := by decide +kernel
theorem dX12_about_12 : decode cX12_about 12 = .ok (.ireturn, 1) := by decide +kernel
theorem dX12_about_13 : decode cX12_about 13 = .ok (.aload_n 0, 1) := by decide +kernel
theorem dX12_about_14 : decode cX12_about 14 = .ok (.invokevirtual 264, 3) := by decide +kernel
theorem dX12_about_17 : decode cX12_about 17 = .ok (.ifCond .eq 11, 3) := by decide +kernel
theorem dX12_about_20 : decode cX12_about 20 = .ok (.aload_n 0, 1) := by decide +kernel
theorem dX12_about_21 : decode cX12_about 21 = .ok (.iload_n 1, 1) := by decide +kernel
theorem dX12_about_22 : decode cX12_about 22 = .ok (.invokevirtual 267, 3) := by decide +kernel
theorem dX12_about_25 : decode cX12_about 25 = .ok (.goto 5, 3) := by decide +kernel
theorem dX12_about_28 : decode cX12_about 28 = .ok (.bipush (-103), 2) := by decide +kernel
theorem dX12_about_30 : decode cX12_about 30 = .ok (.ireturn, 1) := by decide +kernel
theorem dX12_linkNow_0 : decode cX12_linkNow 0 = .ok (.iload_n 2, 1) := by decide +kernel
theorem dX12_linkNow_1 : decode cX12_linkNow 1 = .ok (.tableswitch 68 0 2 #[27, 47, 62], 27) := by decide +kernel
theorem dX12_linkNow_28 : decode cX12_linkNow 28 = .ok (.iload_n 1, 1) := by decide +kernel
theorem dX12_linkNow_29 : decode cX12_linkNow 29 = .ok (.bipush 6, 2) := by decide +kernel
theorem dX12_linkNow_31 : decode cX12_linkNow 31 = .ok (.idiv, 1) := by decide +kernel
theorem dX12_linkNow_32 : decode cX12_linkNow 32 = .ok (.iload_n 1, 1) := by decide +kernel
theorem dX12_linkNow_33 : decode cX12_linkNow 33 = .ok (.bipush 6, 2) := by decide +kernel
theorem dX12_linkNow_35 : decode cX12_linkNow 35 = .ok (.irem, 1) := by decide +kernel
theorem dX12_linkNow_36 : decode cX12_linkNow 36 = .ok (.aload_n 0, 1) := by decide +kernel
theorem dX12_linkNow_37 : decode cX12_linkNow 37 = .ok (.getfield 119, 3) := by decide +kernel
theorem dX12_linkNow_40 : decode cX12_linkNow 40 = .ok (.aload_n 0, 1) := by decide +kernel
theorem dX12_linkNow_41 : decode cX12_linkNow 41 = .ok (.getfield 123, 3) := by decide +kernel
theorem dX12_linkNow_44 : decode cX12_linkNow 44 = .ok (.invokestatic 134, 3) := by decide +kernel
theorem dX12_linkNow_47 : decode cX12_linkNow 47 = .ok (.ireturn, 1) := by decide +kernel
theorem dX12_linkNow_48 : decode cX12_linkNow 48 = .ok (.aload_n 0, 1) := by decide +kernel
theorem dX12_linkNow_49 : decode cX12_linkNow 49 = .ok (.getfield 7, 3) := by decide +kernel
theorem dX12_linkNow_52 : decode cX12_linkNow 52 = .ok (.iload_n 1, 1) := by decide +kernel
theorem dX12_linkNow_53 : decode cX12_linkNow 53 = .ok (.baload, 1) := by decide +kernel
theorem dX12_linkNow_54 : decode cX12_linkNow 54 = .ok (.ifCond .eq 7, 3) := by decide +kernel
theorem dX12_linkNow_57 : decode cX12_linkNow 57 = .ok (.iconst 1, 1) := by decide +kernel
theorem dX12_linkNow_58 : decode cX12_linkNow 58 = .ok (.goto 4, 3) := by decide +kernel
theorem dX12_linkNow_61 : decode cX12_linkNow 61 = .ok (.iconst 0, 1) := by decide +kernel
theorem dX12_linkNow_62 : decode cX12_linkNow 62 = .ok (.ireturn, 1) := by decide +kernel
theorem dX12_linkNow_63 : decode cX12_linkNow 63 = .ok (.aload_n 0, 1) := by decide +kernel
theorem dX12_linkNow_64 : decode cX12_linkNow 64 = .ok (.iload_n 1, 1) := by decide +kernel
theorem dX12_linkNow_65 : decode cX12_linkNow 65 = .ok (.invokevirtual 249, 3) := by decide +kernel
theorem dX12_linkNow_68 : decode cX12_linkNow 68 = .ok (.ireturn, 1) := by decide +kernel
theorem dX12_linkNow_69 : decode cX12_linkNow 69 = .ok (.aload_n 0, 1) := by decide +kernel
theorem dX12_linkNow_70 : decode cX12_linkNow 70 = .ok (.getfield 13, 3) := by decide +kernel
theorem dX12_linkNow_73 : decode cX12_linkNow 73 = .ok (.iload_n 1, 1) := by decide +kernel
theorem dX12_linkNow_74 : decode cX12_linkNow 74 = .ok (.iaload, 1) := by decide +kernel
theorem dX12_linkNow_75 : decode cX12_linkNow 75 = .ok (.ireturn, 1) := by decide +kernel
theorem dX12_link_0 : decode cX12_link 0 = .ok (.aload_n 0, 1) := by decide +kernel
theorem dX12_link_1 : decode cX12_link 1 = .ok (.iload_n 1, 1) := by decide +kernel
theorem dX12_link_2 : decode cX12_link 2 = .ok (.invokevirtual 246, 3) := by decide +kernel
theorem dX12_link_5 : decode cX12_link 5 = .ok (.ifCond .ne 8, 3) := by decide +kernel
theorem dX12_link_8 : decode cX12_link 8 = .ok (.bipush (-101), 2) := by decide +kernel
theorem dX12_link_10 : decode cX12_link 10 = .ok (.goto 23, 3) := by decide +kernel
theorem dX12_link_13 : decode cX12_link 13 = .ok (.iload_n 2, 1) := by decide +kernel
theorem dX12_link_14 : decode cX12_link 14 = .ok (.iconst 0, 1) := by decide +kernel
theorem dX12_link_15 : decode cX12_link 15 = .ok (.iconst 3, 1) := by decide +kernel
theorem dX12_link_16 : decode cX12_link 16 = .ok (.invokestatic 130, 3) := by decide +kernel
theorem dX12_link_19 : decode cX12_link 19 = .ok (.ifCond .eq 12, 3) := by decide +kernel
theorem dX12_link_22 : decode cX12_link 22 = .ok (.aload_n 0, 1) := by decide +kernel
theorem dX12_link_23 : decode cX12_link 23 = .ok (.iload_n 1, 1) := by decide +kernel
theorem dX12_link_24 : decode cX12_link 24 = .ok (.iload_n 2, 1) := by decide +kernel
theorem dX12_link_25 : decode cX12_link 25 = .ok (.invokevirtual 270, 3) := by decide +kernel
theorem dX12_link_28 : decode cX12_link 28 = .ok (.goto 5, 3) := by decide +kernel
theorem dX12_link_31 : decode cX12_link 31 = .ok (.bipush (-102), 2) := by decide +kernel
theorem dX12_link_33 : decode cX12_link 33 = .ok (.ireturn, 1) := by decide +kernel
theorem dX12_slot_0 : decode cX12_slot 0 = .ok (.aload_n 0, 1) := by decide +kernel
theorem dX12_slot_1 : decode cX12_slot 1 = .ok (.iload_n 1, 1) := by decide +kernel
theorem dX12_slot_2 : decode cX12_slot 2 = .ok (.invokevirtual 246, 3) := by decide +kernel
theorem dX12_slot_5 : decode cX12_slot 5 = .ok (.ifCond .eq 27, 3) := by decide +kernel
theorem dX12_slot_8 : decode cX12_slot 8 = .ok (.iload_n 2, 1) := by decide +kernel
theorem dX12_slot_9 : decode cX12_slot 9 = .ok (.iconst 0, 1) := by decide +kernel
theorem dX12_slot_10 : decode cX12_slot 10 = .ok (.aload_n 0, 1) := by decide +kernel
theorem dX12_slot_11 : decode cX12_slot 11 = .ok (.getfield 185, 3) := by decide +kernel
theorem dX12_slot_14 : decode cX12_slot 14 = .ok (.iconst 1, 1) := by decide +kernel
theorem dX12_slot_15 : decode cX12_slot 15 = .ok (.isub, 1) := by decide +kernel
theorem dX12_slot_16 : decode cX12_slot 16 = .ok (.invokestatic 130, 3) := by decide +kernel
theorem dX12_slot_19 : decode cX12_slot 19 = .ok (.ifCond .eq 13, 3) := by decide +kernel
theorem dX12_slot_22 : decode cX12_slot 22 = .ok (.aload_n 0, 1) := by decide +kernel
theorem dX12_slot_23 : decode cX12_slot 23 = .ok (.iload_n 1, 1) := by decide +kernel
theorem dX12_slot_24 : decode cX12_slot 24 = .ok (.iload_n 2, 1) := by decide +kernel
theorem dX12_slot_25 : decode cX12_slot 25 = .ok (.iconst (-1), 1) := by decide +kernel
theorem dX12_slot_26 : decode cX12_slot 26 = .ok (.invokevirtual 206, 3) := by decide +kernel
theorem dX12_slot_29 : decode cX12_slot 29 = .ok (.goto 5, 3) := by decide +kernel
theorem dX12_slot_32 : decode cX12_slot 32 = .ok (.bipush (-101), 2) := by decide +kernel
theorem dX12_slot_34 : decode cX12_slot 34 = .ok (.ireturn, 1) := by decide +kernel
theorem dX12_cut_0 : decode cX12_cut 0 = .ok (.aload_n 0, 1) := by decide +kernel
theorem dX12_cut_1 : decode cX12_cut 1 = .ok (.iload_n 1, 1) := by decide +kernel
theorem dX12_cut_2 : decode cX12_cut 2 = .ok (.invokevirtual 246, 3) := by decide +kernel
theorem dX12_cut_5 : decode cX12_cut 5 = .ok (.ifCond .eq 11, 3) := by decide +kernel
theorem dX12_cut_8 : decode cX12_cut 8 = .ok (.iload_n 1, 1) := by decide +kernel
theorem dX12_cut_9 : decode cX12_cut 9 = .ok (.bipush 6, 2) := by decide +kernel
theorem dX12_cut_11 : decode cX12_cut 11 = .ok (.irem, 1) := by decide +kernel
theorem dX12_cut_12 : decode cX12_cut 12 = .ok (.iconst 2, 1) := by decide +kernel
theorem dX12_cut_13 : decode cX12_cut 13 = .ok (.if_icmp .ge 6, 3) := by decide +kernel
theorem dX12_cut_16 : decode cX12_cut 16 = .ok (.bipush (-101), 2) := by decide +kernel
theorem dX12_cut_18 : decode cX12_cut 18 = .ok (.ireturn, 1) := by decide +kernel
theorem dX12_cut_19 : decode cX12_cut 19 = .ok (.aload_n 0, 1) := by decide +kernel
theorem dX12_cut_20 : decode cX12_cut 20 = .ok (.getfield 7, 3) := by decide +kernel
theorem dX12_cut_23 : decode cX12_cut 23 = .ok (.iload_n 1, 1) := by decide +kernel
theorem dX12_cut_24 : decode cX12_cut 24 = .ok (.baload, 1) := by decide +kernel
theorem dX12_cut_25 : decode cX12_cut 25 = .ok (.iload_n 2, 1) := by decide +kernel
theorem dX12_cut_26 : decode cX12_cut 26 = .ok (.if_icmp .eq 11, 3) := by decide +kernel
theorem dX12_cut_29 : decode cX12_cut 29 = .ok (.aload_n 0, 1) := by decide +kernel
theorem dX12_cut_30 : decode cX12_cut 30 = .ok (.iload_n 1, 1) := by decide +kernel
theorem dX12_cut_31 : decode cX12_cut 31 = .ok (.invokevirtual 249, 3) := by decide +kernel
theorem dX12_cut_34 : decode cX12_cut 34 = .ok (.ifCond .le 6, 3) := by decide +kernel
theorem dX12_cut_37 : decode cX12_cut 37 = .ok (.bipush (-103), 2) := by decide +kernel
theorem dX12_cut_39 : decode cX12_cut 39 = .ok (.ireturn, 1) := by decide +kernel
theorem dX12_cut_40 : decode cX12_cut 40 = .ok (.aload_n 0, 1) := by decide +kernel
theorem dX12_cut_41 : decode cX12_cut 41 = .ok (.getfield 7, 3) := by decide +kernel
theorem dX12_cut_44 : decode cX12_cut 44 = .ok (.iload_n 1, 1) := by decide +kernel
theorem dX12_cut_45 : decode cX12_cut 45 = .ok (.iload_n 2, 1) := by decide +kernel
theorem dX12_cut_46 : decode cX12_cut 46 = .ok (.bastore, 1) := by decide +kernel
theorem dX12_cut_47 : decode cX12_cut 47 = .ok (.aload_n 0, 1) := by decide +kernel
theorem dX12_cut_48 : decode cX12_cut 48 = .ok (.invokevirtual 255, 3) := by decide +kernel
theorem dX12_cut_51 : decode cX12_cut 51 = .ok (.ireturn, 1) := by decide +kernel
theorem dX12_leastFree_0 : decode cX12_leastFree 0 = .ok (.iconst 0, 1) := by decide +kernel
theorem dX12_leastFree_1 : decode cX12_leastFree 1 = .ok (.istore_n 1, 1) := by decide +kernel
theorem dX12_leastFree_2 : decode cX12_leastFree 2 = .ok (.iload_n 1, 1) := by decide +kernel
theorem dX12_leastFree_3 : decode cX12_leastFree 3 = .ok (.bipush 8, 2) := by decide +kernel
theorem dX12_leastFree_5 : decode cX12_leastFree 5 = .ok (.if_icmp .ge 18, 3) := by decide +kernel
theorem dX12_leastFree_8 : decode cX12_leastFree 8 = .ok (.aload_n 0, 1) := by decide +kernel
theorem dX12_leastFree_9 : decode cX12_leastFree 9 = .ok (.getfield 20, 3) := by decide +kernel
theorem dX12_leastFree_12 : decode cX12_leastFree 12 = .ok (.iload_n 1, 1) := by decide +kernel
theorem dX12_leastFree_13 : decode cX12_leastFree 13 = .ok (.baload, 1) := by decide +kernel
theorem dX12_leastFree_14 : decode cX12_leastFree 14 = .ok (.ifCond .eq 9, 3) := by decide +kernel
theorem dX12_leastFree_17 : decode cX12_leastFree 17 = .ok (.iinc 1 1, 3) := by decide +kernel
theorem dX12_leastFree_20 : decode cX12_leastFree 20 = .ok (.goto (-18), 3) := by decide +kernel
theorem dX12_leastFree_23 : decode cX12_leastFree 23 = .ok (.iload_n 1, 1) := by decide +kernel
theorem dX12_leastFree_24 : decode cX12_leastFree 24 = .ok (.ireturn, 1) := by decide +kernel
theorem dX12_open_0 : decode cX12_open 0 = .ok (.aload_n 0, 1) := by decide +kernel
theorem dX12_open_1 : decode cX12_open 1 = .ok (.invokevirtual 264, 3) := by decide +kernel
theorem dX12_open_4 : decode cX12_open 4 = .ok (.ifCond .ne 6, 3) := by decide +kernel
theorem dX12_open_7 : decode cX12_open 7 = .ok (.bipush (-103), 2) := by decide +kernel
theorem dX12_open_9 : decode cX12_open 9 = .ok (.ireturn, 1) := by decide +kernel
theorem dX12_open_10 : decode cX12_open 10 = .ok (.aload_n 0, 1) := by decide +kernel
theorem dX12_open_11 : decode cX12_open 11 = .ok (.iload_n 2, 1) := by decide +kernel
theorem dX12_open_12 : decode cX12_open 12 = .ok (.invokevirtual 273, 3) := by decide +kernel
theorem dX12_open_15 : decode cX12_open 15 = .ok (.ifCond .eq 16, 3) := by decide +kernel
theorem dX12_open_18 : decode cX12_open 18 = .ok (.aload_n 0, 1) := by decide +kernel
theorem dX12_open_19 : decode cX12_open 19 = .ok (.iload_n 3, 1) := by decide +kernel
theorem dX12_open_20 : decode cX12_open 20 = .ok (.invokevirtual 273, 3) := by decide +kernel
theorem dX12_open_23 : decode cX12_open 23 = .ok (.ifCond .eq 8, 3) := by decide +kernel
theorem dX12_open_26 : decode cX12_open 26 = .ok (.iload_n 2, 1) := by decide +kernel
theorem dX12_open_27 : decode cX12_open 27 = .ok (.iload_n 3, 1) := by decide +kernel
theorem dX12_open_28 : decode cX12_open 28 = .ok (.if_icmp .ne 6, 3) := by decide +kernel
theorem dX12_open_31 : decode cX12_open 31 = .ok (.bipush (-101), 2) := by decide +kernel
theorem dX12_open_33 : decode cX12_open 33 = .ok (.ireturn, 1) := by decide +kernel
theorem dX12_open_34 : decode cX12_open 34 = .ok (.iload_n 1, 1) := by decide +kernel
theorem dX12_open_35 : decode cX12_open 35 = .ok (.iconst 0, 1) := by decide +kernel
theorem dX12_open_36 : decode cX12_open 36 = .ok (.iconst 4, 1) := by decide +kernel
theorem dX12_open_37 : decode cX12_open 37 = .ok (.invokestatic 130, 3) := by decide +kernel
theorem dX12_open_40 : decode cX12_open 40 = .ok (.ifCond .eq 24, 3) := by decide +kernel
theorem dX12_open_43 : decode cX12_open 43 = .ok (.iload 4, 2) := by decide +kernel
theorem dX12_open_45 : decode cX12_open 45 = .ok (.iconst 1, 1) := by decide +kernel
theorem dX12_open_46 : decode cX12_open 46 = .ok (.iconst 4, 1) := by decide +kernel
theorem dX12_open_47 : decode cX12_open 47 = .ok (.invokestatic 130, 3) := by decide +kernel
theorem dX12_open_50 : decode cX12_open 50 = .ok (.ifCond .eq 14, 3) := by decide +kernel
theorem dX12_open_53 : decode cX12_open 53 = .ok (.iload 5, 2) := by decide +kernel
theorem dX12_open_55 : decode cX12_open 55 = .ok (.iconst 1, 1) := by decide +kernel
theorem dX12_open_56 : decode cX12_open 56 = .ok (.bipush 15, 2) := by decide +kernel
theorem dX12_open_58 : decode cX12_open 58 = .ok (.invokestatic 130, 3) := by decide +kernel
theorem dX12_open_61 : decode cX12_open 61 = .ok (.ifCond .ne 6, 3) := by decide +kernel
theorem dX12_open_64 : decode cX12_open 64 = .ok (.bipush (-102), 2) := by decide +kernel
theorem dX12_open_66 : decode cX12_open 66 = .ok (.ireturn, 1) := by decide +kernel
theorem dX12_open_67 : decode cX12_open 67 = .ok (.aload_n 0, 1) := by decide +kernel
theorem dX12_open_68 : decode cX12_open 68 = .ok (.invokevirtual 276, 3) := by decide +kernel
theorem dX12_open_71 : decode cX12_open 71 = .ok (.istore 6, 2) := by decide +kernel
theorem dX12_open_73 : decode cX12_open 73 = .ok (.iload 6, 2) := by decide +kernel
theorem dX12_open_75 : decode cX12_open 75 = .ok (.bipush 8, 2) := by decide +kernel
theorem dX12_open_77 : decode cX12_open 77 = .ok (.if_icmp .ne 6, 3) := by decide +kernel
theorem dX12_open_80 : decode cX12_open 80 = .ok (.bipush (-104), 2) := by decide +kernel
theorem dX12_open_82 : decode cX12_open 82 = .ok (.ireturn, 1) := by decide +kernel
theorem dX12_open_83 : decode cX12_open 83 = .ok (.aload_n 0, 1) := by decide +kernel
theorem dX12_open_84 : decode cX12_open 84 = .ok (.iload_n 1, 1) := by decide +kernel
theorem dX12_open_85 : decode cX12_open 85 = .ok (.iload_n 2, 1) := by decide +kernel
theorem dX12_open_86 : decode cX12_open 86 = .ok (.iload_n 3, 1) := by decide +kernel
theorem dX12_open_87 : decode cX12_open 87 = .ok (.iload 4, 2) := by decide +kernel
theorem dX12_open_89 : decode cX12_open 89 = .ok (.iconst (-1), 1) := by decide +kernel
theorem dX12_open_90 : decode cX12_open 90 = .ok (.invokevirtual 279, 3) := by decide +kernel
theorem dX12_open_93 : decode cX12_open 93 = .ok (.istore 7, 2) := by decide +kernel
theorem dX12_open_95 : decode cX12_open 95 = .ok (.iload 7, 2) := by decide +kernel
theorem dX12_open_97 : decode cX12_open 97 = .ok (.iconst (-1), 1) := by decide +kernel
theorem dX12_open_98 : decode cX12_open 98 = .ok (.if_icmp .ne 6, 3) := by decide +kernel
theorem dX12_open_101 : decode cX12_open 101 = .ok (.bipush (-103), 2) := by decide +kernel
theorem dX12_open_103 : decode cX12_open 103 = .ok (.ireturn, 1) := by decide +kernel
theorem dX12_open_104 : decode cX12_open 104 = .ok (.aload_n 0, 1) := by decide +kernel
theorem dX12_open_105 : decode cX12_open 105 = .ok (.iload 6, 2) := by decide +kernel
theorem dX12_open_107 : decode cX12_open 107 = .ok (.iload 7, 2) := by decide +kernel
theorem dX12_open_109 : decode cX12_open 109 = .ok (.invokevirtual 283, 3) := by decide +kernel
theorem dX12_open_112 : decode cX12_open 112 = .ok (.aload_n 0, 1) := by decide +kernel
theorem dX12_open_113 : decode cX12_open 113 = .ok (.getfield 23, 3) := by decide +kernel
theorem dX12_open_116 : decode cX12_open 116 = .ok (.iload 6, 2) := by decide +kernel
theorem dX12_open_118 : decode cX12_open 118 = .ok (.iload_n 1, 1) := by decide +kernel
theorem dX12_open_119 : decode cX12_open 119 = .ok (.iastore, 1) := by decide +kernel
theorem dX12_open_120 : decode cX12_open 120 = .ok (.aload_n 0, 1) := by decide +kernel
theorem dX12_open_121 : decode cX12_open 121 = .ok (.getfield 26, 3) := by decide +kernel
theorem dX12_open_124 : decode cX12_open 124 = .ok (.iload 6, 2) := by decide +kernel
theorem dX12_open_126 : decode cX12_open 126 = .ok (.iload_n 2, 1) := by decide +kernel
theorem dX12_open_127 : decode cX12_open 127 = .ok (.iastore, 1) := by decide +kernel
theorem dX12_open_128 : decode cX12_open 128 = .ok (.aload_n 0, 1) := by decide +kernel
theorem dX12_open_129 : decode cX12_open 129 = .ok (.getfield 29, 3) := by decide +kernel
theorem dX12_open_132 : decode cX12_open 132 = .ok (.iload 6, 2) := by decide +kernel
theorem dX12_open_134 : decode cX12_open 134 = .ok (.iload_n 3, 1) := by decide +kernel
theorem dX12_open_135 : decode cX12_open 135 = .ok (.iastore, 1) := by decide +kernel
theorem dX12_open_136 : decode cX12_open 136 = .ok (.aload_n 0, 1) := by decide +kernel
theorem dX12_open_137 : decode cX12_open 137 = .ok (.getfield 35, 3) := by decide +kernel
theorem dX12_open_140 : decode cX12_open 140 = .ok (.iload 6, 2) := by decide +kernel
theorem dX12_open_142 : decode cX12_open 142 = .ok (.iload 5, 2) := by decide +kernel
theorem dX12_open_144 : decode cX12_open 144 = .ok (.iastore, 1) := by decide +kernel
theorem dX12_open_145 : decode cX12_open 145 = .ok (.aload_n 0, 1) := by decide +kernel
theorem dX12_open_146 : decode cX12_open 146 = .ok (.getfield 32, 3) := by decide +kernel
theorem dX12_open_149 : decode cX12_open 149 = .ok (.iload 6, 2) := by decide +kernel
theorem dX12_open_151 : decode cX12_open 151 = .ok (.iload 4, 2) := by decide +kernel
theorem dX12_open_153 : decode cX12_open 153 = .ok (.iastore, 1) := by decide +kernel
theorem dX12_open_154 : decode cX12_open 154 = .ok (.aload_n 0, 1) := by decide +kernel
theorem dX12_open_155 : decode cX12_open 155 = .ok (.iload 6, 2) := by decide +kernel
theorem dX12_open_157 : decode cX12_open 157 = .ok (.invokevirtual 287, 3) := by decide +kernel
theorem dX12_open_160 : decode cX12_open 160 = .ok (.iload 6, 2) := by decide +kernel
theorem dX12_open_162 : decode cX12_open 162 = .ok (.ireturn, 1) := by decide +kernel
theorem dX12_begin_0 : decode cX12_begin 0 = .ok (.aload_n 0, 1) := by decide +kernel
theorem dX12_begin_1 : decode cX12_begin 1 = .ok (.getfield 20, 3) := by decide +kernel
theorem dX12_begin_4 : decode cX12_begin 4 = .ok (.iload_n 1, 1) := by decide +kernel
theorem dX12_begin_5 : decode cX12_begin 5 = .ok (.iconst 1, 1) := by decide +kernel
theorem dX12_begin_6 : decode cX12_begin 6 = .ok (.bastore, 1) := by decide +kernel
theorem dX12_begin_7 : decode cX12_begin 7 = .ok (.aload_n 0, 1) := by decide +kernel
theorem dX12_begin_8 : decode cX12_begin 8 = .ok (.getfield 47, 3) := by decide +kernel
theorem dX12_begin_11 : decode cX12_begin 11 = .ok (.iload_n 1, 1) := by decide +kernel
theorem dX12_begin_12 : decode cX12_begin 12 = .ok (.iconst 0, 1) := by decide +kernel
theorem dX12_begin_13 : decode cX12_begin 13 = .ok (.iastore, 1) := by decide +kernel
theorem dX12_begin_14 : decode cX12_begin 14 = .ok (.aload_n 0, 1) := by decide +kernel
theorem dX12_begin_15 : decode cX12_begin 15 = .ok (.getfield 50, 3) := by decide +kernel
theorem dX12_begin_18 : decode cX12_begin 18 = .ok (.iload_n 1, 1) := by decide +kernel
theorem dX12_begin_19 : decode cX12_begin 19 = .ok (.aload_n 0, 1) := by decide +kernel
theorem dX12_begin_20 : decode cX12_begin 20 = .ok (.getfield 35, 3) := by decide +kernel
theorem dX12_begin_23 : decode cX12_begin 23 = .ok (.iload_n 1, 1) := by decide +kernel
theorem dX12_begin_24 : decode cX12_begin 24 = .ok (.iaload, 1) := by decide +kernel
theorem dX12_begin_25 : decode cX12_begin 25 = .ok (.iastore, 1) := by decide +kernel
theorem dX12_begin_26 : decode cX12_begin 26 = .ok (.aload_n 0, 1) := by decide +kernel
theorem dX12_begin_27 : decode cX12_begin 27 = .ok (.getfield 53, 3) := by decide +kernel
theorem dX12_begin_30 : decode cX12_begin 30 = .ok (.iload_n 1, 1) := by decide +kernel
theorem dX12_begin_31 : decode cX12_begin 31 = .ok (.iconst 0, 1) := by decide +kernel
theorem dX12_begin_32 : decode cX12_begin 32 = .ok (.iastore, 1) := by decide +kernel
theorem dX12_begin_33 : decode cX12_begin 33 = .ok (.aload_n 0, 1) := by decide +kernel
theorem dX12_begin_34 : decode cX12_begin 34 = .ok (.getfield 56, 3) := by decide +kernel
theorem dX12_begin_37 : decode cX12_begin 37 = .ok (.iload_n 1, 1) := by decide +kernel
theorem dX12_begin_38 : decode cX12_begin 38 = .ok (.iconst 0, 1) := by decide +kernel
theorem dX12_begin_39 : decode cX12_begin 39 = .ok (.iastore, 1) := by decide +kernel
theorem dX12_begin_40 : decode cX12_begin 40 = .ok (.aload_n 0, 1) := by decide +kernel
theorem dX12_begin_41 : decode cX12_begin 41 = .ok (.getfield 59, 3) := by decide +kernel
theorem dX12_begin_44 : decode cX12_begin 44 = .ok (.iload_n 1, 1) := by decide +kernel
theorem dX12_begin_45 : decode cX12_begin 45 = .ok (.iconst 0, 1) := by decide +kernel
theorem dX12_begin_46 : decode cX12_begin 46 = .ok (.iastore, 1) := by decide +kernel
theorem dX12_begin_47 : decode cX12_begin 47 = .ok (.aload_n 0, 1) := by decide +kernel
theorem dX12_begin_48 : decode cX12_begin 48 = .ok (.getfield 62, 3) := by decide +kernel
theorem dX12_begin_51 : decode cX12_begin 51 = .ok (.iload_n 1, 1) := by decide +kernel
theorem dX12_begin_52 : decode cX12_begin 52 = .ok (.iconst (-1), 1) := by decide +kernel
theorem dX12_begin_53 : decode cX12_begin 53 = .ok (.iastore, 1) := by decide +kernel
theorem dX12_begin_54 : decode cX12_begin 54 = .ok (.aload_n 0, 1) := by decide +kernel
theorem dX12_begin_55 : decode cX12_begin 55 = .ok (.getfield 65, 3) := by decide +kernel
theorem dX12_begin_58 : decode cX12_begin 58 = .ok (.iload_n 1, 1) := by decide +kernel
theorem dX12_begin_59 : decode cX12_begin 59 = .ok (.aload_n 0, 1) := by decide +kernel
theorem dX12_begin_60 : decode cX12_begin 60 = .ok (.getfield 188, 3) := by decide +kernel
theorem dX12_begin_63 : decode cX12_begin 63 = .ok (.iastore, 1) := by decide +kernel
theorem dX12_begin_64 : decode cX12_begin 64 = .ok (.return_, 1) := by decide +kernel
theorem dX12_isCircuit_0 : decode cX12_isCircuit 0 = .ok (.iload_n 1, 1) := by decide +kernel
theorem dX12_isCircuit_1 : decode cX12_isCircuit 1 = .ok (.iconst 0, 1) := by decide +kernel
theorem dX12_isCircuit_2 : decode cX12_isCircuit 2 = .ok (.bipush 7, 2) := by decide +kernel
theorem dX12_isCircuit_4 : decode cX12_isCircuit 4 = .ok (.invokestatic 130, 3) := by decide +kernel
theorem dX12_isCircuit_7 : decode cX12_isCircuit 7 = .ok (.ifCond .eq 16, 3) := by decide +kernel
theorem dX12_isCircuit_10 : decode cX12_isCircuit 10 = .ok (.aload_n 0, 1) := by decide +kernel
theorem dX12_isCircuit_11 : decode cX12_isCircuit 11 = .ok (.getfield 20, 3) := by decide +kernel
theorem dX12_isCircuit_14 : decode cX12_isCircuit 14 = .ok (.iload_n 1, 1) := by decide +kernel
theorem dX12_isCircuit_15 : decode cX12_isCircuit 15 = .ok (.baload, 1) := by decide +kernel
theorem dX12_isCircuit_16 : decode cX12_isCircuit 16 = .ok (.ifCond .eq 7, 3) := by decide +kernel
theorem dX12_isCircuit_19 : decode cX12_isCircuit 19 = .ok (.iconst 1, 1) := by decide +kernel
theorem dX12_isCircuit_20 : decode cX12_isCircuit 20 = .ok (.goto 4, 3) := by decide +kernel
theorem dX12_isCircuit_23 : decode cX12_isCircuit 23 = .ok (.iconst 0, 1) := by decide +kernel
theorem dX12_isCircuit_24 : decode cX12_isCircuit 24 = .ok (.ireturn, 1) := by decide +kernel
theorem dX12_as_0 : decode cX12_as 0 = .ok (.aload_n 0, 1) := by decide +kernel
theorem dX12_as_1 : decode cX12_as 1 = .ok (.iload_n 1, 1) := by decide +kernel
theorem dX12_as_2 : decode cX12_as 2 = .ok (.invokevirtual 291, 3) := by decide +kernel
theorem dX12_as_5 : decode cX12_as 5 = .ok (.ifCond .ne 6, 3) := by decide +kernel
theorem dX12_as_8 : decode cX12_as 8 = .ok (.bipush (-101), 2) := by decide +kernel
theorem dX12_as_10 : decode cX12_as 10 = .ok (.ireturn, 1) := by decide +kernel
theorem dX12_as_11 : decode cX12_as 11 = .ok (.iload_n 2, 1) := by decide +kernel
theorem dX12_as_12 : decode cX12_as 12 = .ok (.iconst 0, 1) := by decide +kernel
theorem dX12_as_13 : decode cX12_as 13 = .ok (.iconst 4, 1) := by decide +kernel
theorem dX12_as_14 : decode cX12_as 14 = .ok (.invokestatic 130, 3) := by decide +kernel
theorem dX12_as_17 : decode cX12_as 17 = .ok (.ifCond .ne 6, 3) := by decide +kernel
theorem dX12_as_20 : decode cX12_as 20 = .ok (.bipush (-102), 2) := by decide +kernel
theorem dX12_as_22 : decode cX12_as 22 = .ok (.ireturn, 1) := by decide +kernel
theorem dX12_as_23 : decode cX12_as 23 = .ok (.aload_n 0, 1) := by decide +kernel
theorem dX12_as_24 : decode cX12_as 24 = .ok (.getfield 23, 3) := by decide +kernel
theorem dX12_as_27 : decode cX12_as 27 = .ok (.iload_n 1, 1) := by decide +kernel
theorem dX12_as_28 : decode cX12_as 28 = .ok (.iaload, 1) := by decide +kernel
theorem dX12_as_29 : decode cX12_as 29 = .ok (.istore_n 3, 1) := by decide +kernel
theorem dX12_as_30 : decode cX12_as 30 = .ok (.iload_n 2, 1) := by decide +kernel
theorem dX12_as_31 : decode cX12_as 31 = .ok (.ifCond .eq 18, 3) := by decide +kernel
theorem dX12_as_34 : decode cX12_as 34 = .ok (.iload_n 2, 1) := by decide +kernel
theorem dX12_as_35 : decode cX12_as 35 = .ok (.iload_n 3, 1) := by decide +kernel
theorem dX12_as_36 : decode cX12_as 36 = .ok (.if_icmp .eq 13, 3) := by decide +kernel
theorem dX12_as_39 : decode cX12_as 39 = .ok (.iload_n 2, 1) := by decide +kernel
theorem dX12_as_40 : decode cX12_as 40 = .ok (.iconst 1, 1) := by decide +kernel
theorem dX12_as_41 : decode cX12_as 41 = .ok (.if_icmp .ne 12, 3) := by decide +kernel
theorem dX12_as_44 : decode cX12_as 44 = .ok (.iload_n 3, 1) := by decide +kernel
theorem dX12_as_45 : decode cX12_as 45 = .ok (.iconst 2, 1) := by decide +kernel
theorem dX12_as_46 : decode cX12_as 46 = .ok (.if_icmp .ne 7, 3) := by decide +kernel
theorem dX12_as_49 : decode cX12_as 49 = .ok (.iload_n 1, 1) := by decide +kernel
theorem dX12_as_50 : decode cX12_as 50 = .ok (.goto 4, 3) := by decide +kernel
theorem dX12_as_53 : decode cX12_as 53 = .ok (.iconst (-1), 1) := by decide +kernel
theorem dX12_as_54 : decode cX12_as 54 = .ok (.ireturn, 1) := by decide +kernel
theorem dX12_underWay_0 : decode cX12_underWay 0 = .ok (.iconst 0, 1) := by decide +kernel
theorem dX12_underWay_1 : decode cX12_underWay 1 = .ok (.istore_n 2, 1) := by decide +kernel
theorem dX12_underWay_2 : decode cX12_underWay 2 = .ok (.iconst 0, 1) := by decide +kernel
theorem dX12_underWay_3 : decode cX12_underWay 3 = .ok (.istore_n 3, 1) := by decide +kernel
theorem dX12_underWay_4 : decode cX12_underWay 4 = .ok (.iload_n 3, 1) := by decide +kernel
theorem dX12_underWay_5 : decode cX12_underWay 5 = .ok (.aload_n 0, 1) := by decide +kernel
theorem dX12_underWay_6 : decode cX12_underWay 6 = .ok (.getfield 191, 3) := by decide +kernel
theorem dX12_underWay_9 : decode cX12_underWay 9 = .ok (.if_icmp .ge 27, 3) := by decide +kernel
theorem dX12_underWay_12 : decode cX12_underWay 12 = .ok (.iload_n 2, 1) := by decide +kernel
theorem dX12_underWay_13 : decode cX12_underWay 13 = .ok (.aload_n 0, 1) := by decide +kernel
theorem dX12_underWay_14 : decode cX12_underWay 14 = .ok (.getfield 68, 3) := by decide +kernel
theorem dX12_underWay_17 : decode cX12_underWay 17 = .ok (.iload_n 3, 1) := by decide +kernel
theorem dX12_underWay_18 : decode cX12_underWay 18 = .ok (.iaload, 1) := by decide +kernel
theorem dX12_underWay_19 : decode cX12_underWay 19 = .ok (.iload_n 1, 1) := by decide +kernel
theorem dX12_underWay_20 : decode cX12_underWay 20 = .ok (.if_icmp .ne 7, 3) := by decide +kernel
theorem dX12_underWay_23 : decode cX12_underWay 23 = .ok (.iconst 1, 1) := by decide +kernel
theorem dX12_underWay_24 : decode cX12_underWay 24 = .ok (.goto 4, 3) := by decide +kernel
theorem dX12_underWay_27 : decode cX12_underWay 27 = .ok (.iconst 0, 1) := by decide +kernel
theorem dX12_underWay_28 : decode cX12_underWay 28 = .ok (.iadd, 1) := by decide +kernel
theorem dX12_underWay_29 : decode cX12_underWay 29 = .ok (.istore_n 2, 1) := by decide +kernel
theorem dX12_underWay_30 : decode cX12_underWay 30 = .ok (.iinc 3 1, 3) := by decide +kernel
theorem dX12_underWay_33 : decode cX12_underWay 33 = .ok (.goto (-29), 3) := by decide +kernel
theorem dX12_underWay_36 : decode cX12_underWay 36 = .ok (.iload_n 2, 1) := by decide +kernel
theorem dX12_underWay_37 : decode cX12_underWay 37 = .ok (.ireturn, 1) := by decide +kernel
theorem dX12_circuitNow_0 : decode cX12_circuitNow 0 = .ok (.iload_n 2, 1) := by decide +kernel
theorem dX12_circuitNow_1 : decode cX12_circuitNow 1 = .ok (.tableswitch 96 0 6 #[43, 50, 57, 64, 71, 78, 85], 43) := by decide +kernel
theorem dX12_circuitNow_44 : decode cX12_circuitNow 44 = .ok (.aload_n 0, 1) := by decide +kernel
theorem dX12_circuitNow_45 : decode cX12_circuitNow 45 = .ok (.getfield 23, 3) := by decide +kernel
theorem dX12_circuitNow_48 : decode cX12_circuitNow 48 = .ok (.iload_n 1, 1) := by decide +kernel
theorem dX12_circuitNow_49 : decode cX12_circuitNow 49 = .ok (.iaload, 1) := by decide +kernel
theorem dX12_circuitNow_50 : decode cX12_circuitNow 50 = .ok (.ireturn, 1) := by decide +kernel
theorem dX12_circuitNow_51 : decode cX12_circuitNow 51 = .ok (.aload_n 0, 1) := by decide +kernel
theorem dX12_circuitNow_52 : decode cX12_circuitNow 52 = .ok (.getfield 26, 3) := by decide +kernel
theorem dX12_circuitNow_55 : decode cX12_circuitNow 55 = .ok (.iload_n 1, 1) := by decide +kernel
theorem dX12_circuitNow_56 : decode cX12_circuitNow 56 = .ok (.iaload, 1) := by decide +kernel
theorem dX12_circuitNow_57 : decode cX12_circuitNow 57 = .ok (.ireturn, 1) := by decide +kernel
theorem dX12_circuitNow_58 : decode cX12_circuitNow 58 = .ok (.aload_n 0, 1) := by decide +kernel
theorem dX12_circuitNow_59 : decode cX12_circuitNow 59 = .ok (.getfield 29, 3) := by decide +kernel
theorem dX12_circuitNow_62 : decode cX12_circuitNow 62 = .ok (.iload_n 1, 1) := by decide +kernel
theorem dX12_circuitNow_63 : decode cX12_circuitNow 63 = .ok (.iaload, 1) := by decide +kernel
theorem dX12_circuitNow_64 : decode cX12_circuitNow 64 = .ok (.ireturn, 1) := by decide +kernel
theorem dX12_circuitNow_65 : decode cX12_circuitNow 65 = .ok (.aload_n 0, 1) := by decide +kernel
theorem dX12_circuitNow_66 : decode cX12_circuitNow 66 = .ok (.getfield 32, 3) := by decide +kernel
theorem dX12_circuitNow_69 : decode cX12_circuitNow 69 = .ok (.iload_n 1, 1) := by decide +kernel
theorem dX12_circuitNow_70 : decode cX12_circuitNow 70 = .ok (.iaload, 1) := by decide +kernel
theorem dX12_circuitNow_71 : decode cX12_circuitNow 71 = .ok (.ireturn, 1) := by decide +kernel
theorem dX12_circuitNow_72 : decode cX12_circuitNow 72 = .ok (.aload_n 0, 1) := by decide +kernel
theorem dX12_circuitNow_73 : decode cX12_circuitNow 73 = .ok (.getfield 35, 3) := by decide +kernel
theorem dX12_circuitNow_76 : decode cX12_circuitNow 76 = .ok (.iload_n 1, 1) := by decide +kernel
theorem dX12_circuitNow_77 : decode cX12_circuitNow 77 = .ok (.iaload, 1) := by decide +kernel
theorem dX12_circuitNow_78 : decode cX12_circuitNow 78 = .ok (.ireturn, 1) := by decide +kernel
theorem dX12_circuitNow_79 : decode cX12_circuitNow 79 = .ok (.aload_n 0, 1) := by decide +kernel
theorem dX12_circuitNow_80 : decode cX12_circuitNow 80 = .ok (.getfield 38, 3) := by decide +kernel
theorem dX12_circuitNow_83 : decode cX12_circuitNow 83 = .ok (.iload_n 1, 1) := by decide +kernel
theorem dX12_circuitNow_84 : decode cX12_circuitNow 84 = .ok (.iaload, 1) := by decide +kernel
theorem dX12_circuitNow_85 : decode cX12_circuitNow 85 = .ok (.ireturn, 1) := by decide +kernel
theorem dX12_circuitNow_86 : decode cX12_circuitNow 86 = .ok (.aload_n 0, 1) := by decide +kernel
theorem dX12_circuitNow_87 : decode cX12_circuitNow 87 = .ok (.aload_n 0, 1) := by decide +kernel
theorem dX12_circuitNow_88 : decode cX12_circuitNow 88 = .ok (.getfield 44, 3) := by decide +kernel
theorem dX12_circuitNow_91 : decode cX12_circuitNow 91 = .ok (.iload_n 1, 1) := by decide +kernel
theorem dX12_circuitNow_92 : decode cX12_circuitNow 92 = .ok (.iaload, 1) := by decide +kernel
theorem dX12_circuitNow_93 : decode cX12_circuitNow 93 = .ok (.invokevirtual 220, 3) := by decide +kernel
theorem dX12_circuitNow_96 : decode cX12_circuitNow 96 = .ok (.ireturn, 1) := by decide +kernel
theorem dX12_circuitNow_97 : decode cX12_circuitNow 97 = .ok (.aload_n 0, 1) := by decide +kernel
theorem dX12_circuitNow_98 : decode cX12_circuitNow 98 = .ok (.iload_n 1, 1) := by decide +kernel
theorem dX12_circuitNow_99 : decode cX12_circuitNow 99 = .ok (.iload_n 2, 1) := by decide +kernel
theorem dX12_circuitNow_100 : decode cX12_circuitNow 100 = .ok (.invokevirtual 294, 3) := by decide +kernel
theorem dX12_circuitNow_103 : decode cX12_circuitNow 103 = .ok (.ireturn, 1) := by decide +kernel
theorem dX12_circuitMore_0 : decode cX12_circuitMore 0 = .ok (.iload_n 2, 1) := by decide +kernel
theorem dX12_circuitMore_1 : decode cX12_circuitMore 1 = .ok (.tableswitch 91 7 13 #[43, 50, 57, 64, 71, 78, 85], 43) := by decide +kernel
theorem dX12_circuitMore_44 : decode cX12_circuitMore 44 = .ok (.aload_n 0, 1) := by decide +kernel
theorem dX12_circuitMore_45 : decode cX12_circuitMore 45 = .ok (.getfield 62, 3) := by decide +kernel
theorem dX12_circuitMore_48 : decode cX12_circuitMore 48 = .ok (.iload_n 1, 1) := by decide +kernel
theorem dX12_circuitMore_49 : decode cX12_circuitMore 49 = .ok (.iaload, 1) := by decide +kernel
theorem dX12_circuitMore_50 : decode cX12_circuitMore 50 = .ok (.ireturn, 1) := by decide +kernel
theorem dX12_circuitMore_51 : decode cX12_circuitMore 51 = .ok (.aload_n 0, 1) := by decide +kernel
theorem dX12_circuitMore_52 : decode cX12_circuitMore 52 = .ok (.getfield 47, 3) := by decide +kernel
theorem dX12_circuitMore_55 : decode cX12_circuitMore 55 = .ok (.iload_n 1, 1) := by decide +kernel
theorem dX12_circuitMore_56 : decode cX12_circuitMore 56 = .ok (.iaload, 1) := by decide +kernel
theorem dX12_circuitMore_57 : decode cX12_circuitMore 57 = .ok (.ireturn, 1) := by decide +kernel
theorem dX12_circuitMore_58 : decode cX12_circuitMore 58 = .ok (.aload_n 0, 1) := by decide +kernel
theorem dX12_circuitMore_59 : decode cX12_circuitMore 59 = .ok (.getfield 50, 3) := by decide +kernel
theorem dX12_circuitMore_62 : decode cX12_circuitMore 62 = .ok (.iload_n 1, 1) := by decide +kernel
theorem dX12_circuitMore_63 : decode cX12_circuitMore 63 = .ok (.iaload, 1) := by decide +kernel
theorem dX12_circuitMore_64 : decode cX12_circuitMore 64 = .ok (.ireturn, 1) := by decide +kernel
theorem dX12_circuitMore_65 : decode cX12_circuitMore 65 = .ok (.aload_n 0, 1) := by decide +kernel
theorem dX12_circuitMore_66 : decode cX12_circuitMore 66 = .ok (.getfield 53, 3) := by decide +kernel
theorem dX12_circuitMore_69 : decode cX12_circuitMore 69 = .ok (.iload_n 1, 1) := by decide +kernel
theorem dX12_circuitMore_70 : decode cX12_circuitMore 70 = .ok (.iaload, 1) := by decide +kernel
theorem dX12_circuitMore_71 : decode cX12_circuitMore 71 = .ok (.ireturn, 1) := by decide +kernel
theorem dX12_circuitMore_72 : decode cX12_circuitMore 72 = .ok (.aload_n 0, 1) := by decide +kernel
theorem dX12_circuitMore_73 : decode cX12_circuitMore 73 = .ok (.getfield 56, 3) := by decide +kernel
theorem dX12_circuitMore_76 : decode cX12_circuitMore 76 = .ok (.iload_n 1, 1) := by decide +kernel
theorem dX12_circuitMore_77 : decode cX12_circuitMore 77 = .ok (.iaload, 1) := by decide +kernel
theorem dX12_circuitMore_78 : decode cX12_circuitMore 78 = .ok (.ireturn, 1) := by decide +kernel
theorem dX12_circuitMore_79 : decode cX12_circuitMore 79 = .ok (.aload_n 0, 1) := by decide +kernel
theorem dX12_circuitMore_80 : decode cX12_circuitMore 80 = .ok (.getfield 59, 3) := by decide +kernel
theorem dX12_circuitMore_83 : decode cX12_circuitMore 83 = .ok (.iload_n 1, 1) := by decide +kernel
theorem dX12_circuitMore_84 : decode cX12_circuitMore 84 = .ok (.iaload, 1) := by decide +kernel
theorem dX12_circuitMore_85 : decode cX12_circuitMore 85 = .ok (.ireturn, 1) := by decide +kernel
theorem dX12_circuitMore_86 : decode cX12_circuitMore 86 = .ok (.aload_n 0, 1) := by decide +kernel
theorem dX12_circuitMore_87 : decode cX12_circuitMore 87 = .ok (.iload_n 1, 1) := by decide +kernel
theorem dX12_circuitMore_88 : decode cX12_circuitMore 88 = .ok (.invokevirtual 297, 3) := by decide +kernel
theorem dX12_circuitMore_91 : decode cX12_circuitMore 91 = .ok (.ireturn, 1) := by decide +kernel
theorem dX12_circuitMore_92 : decode cX12_circuitMore 92 = .ok (.aload_n 0, 1) := by decide +kernel
theorem dX12_circuitMore_93 : decode cX12_circuitMore 93 = .ok (.getfield 65, 3) := by decide +kernel
theorem dX12_circuitMore_96 : decode cX12_circuitMore 96 = .ok (.iload_n 1, 1) := by decide +kernel
theorem dX12_circuitMore_97 : decode cX12_circuitMore 97 = .ok (.iaload, 1) := by decide +kernel
theorem dX12_circuitMore_98 : decode cX12_circuitMore 98 = .ok (.ireturn, 1) := by decide +kernel
theorem dX12_circuit_0 : decode cX12_circuit 0 = .ok (.aload_n 0, 1) := by decide +kernel
theorem dX12_circuit_1 : decode cX12_circuit 1 = .ok (.iload_n 1, 1) := by decide +kernel
theorem dX12_circuit_2 : decode cX12_circuit 2 = .ok (.invokevirtual 291, 3) := by decide +kernel
theorem dX12_circuit_5 : decode cX12_circuit 5 = .ok (.ifCond .ne 8, 3) := by decide +kernel
theorem dX12_circuit_8 : decode cX12_circuit 8 = .ok (.bipush (-101), 2) := by decide +kernel
theorem dX12_circuit_10 : decode cX12_circuit 10 = .ok (.goto 24, 3) := by decide +kernel
theorem dX12_circuit_13 : decode cX12_circuit 13 = .ok (.iload_n 2, 1) := by decide +kernel
theorem dX12_circuit_14 : decode cX12_circuit 14 = .ok (.iconst 0, 1) := by decide +kernel
theorem dX12_circuit_15 : decode cX12_circuit 15 = .ok (.bipush 14, 2) := by decide +kernel
theorem dX12_circuit_17 : decode cX12_circuit 17 = .ok (.invokestatic 130, 3) := by decide +kernel
theorem dX12_circuit_20 : decode cX12_circuit 20 = .ok (.ifCond .eq 12, 3) := by decide +kernel
theorem dX12_circuit_23 : decode cX12_circuit 23 = .ok (.aload_n 0, 1) := by decide +kernel
theorem dX12_circuit_24 : decode cX12_circuit 24 = .ok (.iload_n 1, 1) := by decide +kernel
theorem dX12_circuit_25 : decode cX12_circuit 25 = .ok (.iload_n 2, 1) := by decide +kernel
theorem dX12_circuit_26 : decode cX12_circuit 26 = .ok (.invokevirtual 300, 3) := by decide +kernel
theorem dX12_circuit_29 : decode cX12_circuit 29 = .ok (.goto 5, 3) := by decide +kernel
theorem dX12_circuit_32 : decode cX12_circuit 32 = .ok (.bipush (-102), 2) := by decide +kernel
theorem dX12_circuit_34 : decode cX12_circuit 34 = .ok (.ireturn, 1) := by decide +kernel
theorem dX12_route_0 : decode cX12_route 0 = .ok (.aload_n 0, 1) := by decide +kernel
theorem dX12_route_1 : decode cX12_route 1 = .ok (.iload_n 1, 1) := by decide +kernel
theorem dX12_route_2 : decode cX12_route 2 = .ok (.invokevirtual 291, 3) := by decide +kernel
theorem dX12_route_5 : decode cX12_route 5 = .ok (.ifCond .eq 33, 3) := by decide +kernel
theorem dX12_route_8 : decode cX12_route 8 = .ok (.iload_n 2, 1) := by decide +kernel
theorem dX12_route_9 : decode cX12_route 9 = .ok (.iconst 0, 1) := by decide +kernel
theorem dX12_route_10 : decode cX12_route 10 = .ok (.aload_n 0, 1) := by decide +kernel
theorem dX12_route_11 : decode cX12_route 11 = .ok (.getfield 38, 3) := by decide +kernel
theorem dX12_route_14 : decode cX12_route 14 = .ok (.iload_n 1, 1) := by decide +kernel
theorem dX12_route_15 : decode cX12_route 15 = .ok (.iaload, 1) := by decide +kernel
theorem dX12_route_16 : decode cX12_route 16 = .ok (.iconst 1, 1) := by decide +kernel
theorem dX12_route_17 : decode cX12_route 17 = .ok (.iadd, 1) := by decide +kernel
theorem dX12_route_18 : decode cX12_route 18 = .ok (.invokestatic 130, 3) := by decide +kernel
theorem dX12_route_21 : decode cX12_route 21 = .ok (.ifCond .eq 17, 3) := by decide +kernel
theorem dX12_route_24 : decode cX12_route 24 = .ok (.aload_n 0, 1) := by decide +kernel
theorem dX12_route_25 : decode cX12_route 25 = .ok (.getfield 41, 3) := by decide +kernel
theorem dX12_route_28 : decode cX12_route 28 = .ok (.bipush 8, 2) := by decide +kernel
theorem dX12_route_30 : decode cX12_route 30 = .ok (.iload_n 1, 1) := by decide +kernel
theorem dX12_route_31 : decode cX12_route 31 = .ok (.imul, 1) := by decide +kernel
theorem dX12_route_32 : decode cX12_route 32 = .ok (.iload_n 2, 1) := by decide +kernel
theorem dX12_route_33 : decode cX12_route 33 = .ok (.iadd, 1) := by decide +kernel
theorem dX12_route_34 : decode cX12_route 34 = .ok (.iaload, 1) := by decide +kernel
theorem dX12_route_35 : decode cX12_route 35 = .ok (.goto 5, 3) := by decide +kernel
theorem dX12_route_38 : decode cX12_route 38 = .ok (.bipush (-101), 2) := by decide +kernel
theorem dX12_route_40 : decode cX12_route 40 = .ok (.ireturn, 1) := by decide +kernel
theorem dX12_startAt_0 : decode cX12_startAt 0 = .ok (.iload_n 2, 1) := by decide +kernel
theorem dX12_startAt_1 : decode cX12_startAt 1 = .ok (.istore_n 3, 1) := by decide +kernel
theorem dX12_startAt_2 : decode cX12_startAt 2 = .ok (.iconst 0, 1) := by decide +kernel
theorem dX12_startAt_3 : decode cX12_startAt 3 = .ok (.istore 4, 2) := by decide +kernel
theorem dX12_startAt_5 : decode cX12_startAt 5 = .ok (.iload_n 3, 1) := by decide +kernel
theorem dX12_startAt_6 : decode cX12_startAt 6 = .ok (.ifCond .gt 17, 3) := by decide +kernel
theorem dX12_startAt_9 : decode cX12_startAt 9 = .ok (.aload_n 0, 1) := by decide +kernel
theorem dX12_startAt_10 : decode cX12_startAt 10 = .ok (.getfield 44, 3) := by decide +kernel
theorem dX12_startAt_13 : decode cX12_startAt 13 = .ok (.iload_n 1, 1) := by decide +kernel
theorem dX12_startAt_14 : decode cX12_startAt 14 = .ok (.iaload, 1) := by decide +kernel
theorem dX12_startAt_15 : decode cX12_startAt 15 = .ok (.iload 4, 2) := by decide +kernel
theorem dX12_startAt_17 : decode cX12_startAt 17 = .ok (.invokestatic 200, 3) := by decide +kernel
theorem dX12_startAt_20 : decode cX12_startAt 20 = .ok (.ifCond .ne 31, 3) := by decide +kernel
theorem dX12_startAt_23 : decode cX12_startAt 23 = .ok (.iload_n 3, 1) := by decide +kernel
theorem dX12_startAt_24 : decode cX12_startAt 24 = .ok (.aload_n 0, 1) := by decide +kernel
theorem dX12_startAt_25 : decode cX12_startAt 25 = .ok (.getfield 44, 3) := by decide +kernel
theorem dX12_startAt_28 : decode cX12_startAt 28 = .ok (.iload_n 1, 1) := by decide +kernel
theorem dX12_startAt_29 : decode cX12_startAt 29 = .ok (.iaload, 1) := by decide +kernel
theorem dX12_startAt_30 : decode cX12_startAt 30 = .ok (.iload 4, 2) := by decide +kernel
theorem dX12_startAt_32 : decode cX12_startAt 32 = .ok (.invokestatic 200, 3) := by decide +kernel
theorem dX12_startAt_35 : decode cX12_startAt 35 = .ok (.ifCond .eq 7, 3) := by decide +kernel
theorem dX12_startAt_38 : decode cX12_startAt 38 = .ok (.iconst 1, 1) := by decide +kernel
theorem dX12_startAt_39 : decode cX12_startAt 39 = .ok (.goto 4, 3) := by decide +kernel
theorem dX12_startAt_42 : decode cX12_startAt 42 = .ok (.iconst 0, 1) := by decide +kernel
theorem dX12_startAt_43 : decode cX12_startAt 43 = .ok (.isub, 1) := by decide +kernel
theorem dX12_startAt_44 : decode cX12_startAt 44 = .ok (.istore_n 3, 1) := by decide +kernel
theorem dX12_startAt_45 : decode cX12_startAt 45 = .ok (.iinc 4 1, 3) := by decide +kernel
theorem dX12_startAt_48 : decode cX12_startAt 48 = .ok (.goto (-43), 3) := by decide +kernel
theorem dX12_startAt_51 : decode cX12_startAt 51 = .ok (.iload 4, 2) := by decide +kernel
theorem dX12_startAt_53 : decode cX12_startAt 53 = .ok (.ireturn, 1) := by decide +kernel
theorem dX12_start_0 : decode cX12_start 0 = .ok (.aload_n 0, 1) := by decide +kernel
theorem dX12_start_1 : decode cX12_start 1 = .ok (.iload_n 1, 1) := by decide +kernel
theorem dX12_start_2 : decode cX12_start 2 = .ok (.invokevirtual 291, 3) := by decide +kernel
theorem dX12_start_5 : decode cX12_start 5 = .ok (.ifCond .eq 28, 3) := by decide +kernel
theorem dX12_start_8 : decode cX12_start 8 = .ok (.iload_n 2, 1) := by decide +kernel
theorem dX12_start_9 : decode cX12_start 9 = .ok (.iconst 0, 1) := by decide +kernel
theorem dX12_start_10 : decode cX12_start 10 = .ok (.aload_n 0, 1) := by decide +kernel
theorem dX12_start_11 : decode cX12_start 11 = .ok (.getfield 32, 3) := by decide +kernel
theorem dX12_start_14 : decode cX12_start 14 = .ok (.iload_n 1, 1) := by decide +kernel
theorem dX12_start_15 : decode cX12_start 15 = .ok (.iaload, 1) := by decide +kernel
theorem dX12_start_16 : decode cX12_start 16 = .ok (.iconst 1, 1) := by decide +kernel
theorem dX12_start_17 : decode cX12_start 17 = .ok (.isub, 1) := by decide +kernel
theorem dX12_start_18 : decode cX12_start 18 = .ok (.invokestatic 130, 3) := by decide +kernel
theorem dX12_start_21 : decode cX12_start 21 = .ok (.ifCond .eq 12, 3) := by decide +kernel
theorem dX12_start_24 : decode cX12_start 24 = .ok (.aload_n 0, 1) := by decide +kernel
theorem dX12_start_25 : decode cX12_start 25 = .ok (.iload_n 1, 1) := by decide +kernel
theorem dX12_start_26 : decode cX12_start 26 = .ok (.iload_n 2, 1) := by decide +kernel
theorem dX12_start_27 : decode cX12_start 27 = .ok (.invokevirtual 303, 3) := by decide +kernel
theorem dX12_start_30 : decode cX12_start 30 = .ok (.goto 5, 3) := by decide +kernel
theorem dX12_start_33 : decode cX12_start 33 = .ok (.bipush (-101), 2) := by decide +kernel
theorem dX12_start_35 : decode cX12_start 35 = .ok (.ireturn, 1) := by decide +kernel
theorem dX12_pair_0 : decode cX12_pair 0 = .ok (.aload_n 0, 1) := by decide +kernel
theorem dX12_pair_1 : decode cX12_pair 1 = .ok (.iload_n 1, 1) := by decide +kernel
theorem dX12_pair_2 : decode cX12_pair 2 = .ok (.invokevirtual 291, 3) := by decide +kernel
theorem dX12_pair_5 : decode cX12_pair 5 = .ok (.ifCond .eq 16, 3) := by decide +kernel
theorem dX12_pair_8 : decode cX12_pair 8 = .ok (.aload_n 0, 1) := by decide +kernel
theorem dX12_pair_9 : decode cX12_pair 9 = .ok (.iload_n 2, 1) := by decide +kernel
theorem dX12_pair_10 : decode cX12_pair 10 = .ok (.invokevirtual 291, 3) := by decide +kernel
theorem dX12_pair_13 : decode cX12_pair 13 = .ok (.ifCond .eq 8, 3) := by decide +kernel
theorem dX12_pair_16 : decode cX12_pair 16 = .ok (.iload_n 1, 1) := by decide +kernel
theorem dX12_pair_17 : decode cX12_pair 17 = .ok (.iload_n 2, 1) := by decide +kernel
theorem dX12_pair_18 : decode cX12_pair 18 = .ok (.if_icmp .ne 6, 3) := by decide +kernel
theorem dX12_pair_21 : decode cX12_pair 21 = .ok (.bipush (-101), 2) := by decide +kernel
theorem dX12_pair_23 : decode cX12_pair 23 = .ok (.ireturn, 1) := by decide +kernel
theorem dX12_pair_24 : decode cX12_pair 24 = .ok (.aload_n 0, 1) := by decide +kernel
theorem dX12_pair_25 : decode cX12_pair 25 = .ok (.getfield 26, 3) := by decide +kernel
theorem dX12_pair_28 : decode cX12_pair 28 = .ok (.iload_n 1, 1) := by decide +kernel
theorem dX12_pair_29 : decode cX12_pair 29 = .ok (.iaload, 1) := by decide +kernel
theorem dX12_pair_30 : decode cX12_pair 30 = .ok (.aload_n 0, 1) := by decide +kernel
theorem dX12_pair_31 : decode cX12_pair 31 = .ok (.getfield 29, 3) := by decide +kernel
theorem dX12_pair_34 : decode cX12_pair 34 = .ok (.iload_n 2, 1) := by decide +kernel
theorem dX12_pair_35 : decode cX12_pair 35 = .ok (.iaload, 1) := by decide +kernel
theorem dX12_pair_36 : decode cX12_pair 36 = .ok (.if_icmp .ne 22, 3) := by decide +kernel
theorem dX12_pair_39 : decode cX12_pair 39 = .ok (.aload_n 0, 1) := by decide +kernel
theorem dX12_pair_40 : decode cX12_pair 40 = .ok (.getfield 29, 3) := by decide +kernel
theorem dX12_pair_43 : decode cX12_pair 43 = .ok (.iload_n 1, 1) := by decide +kernel
theorem dX12_pair_44 : decode cX12_pair 44 = .ok (.iaload, 1) := by decide +kernel
theorem dX12_pair_45 : decode cX12_pair 45 = .ok (.aload_n 0, 1) := by decide +kernel
theorem dX12_pair_46 : decode cX12_pair 46 = .ok (.getfield 26, 3) := by decide +kernel
theorem dX12_pair_49 : decode cX12_pair 49 = .ok (.iload_n 2, 1) := by decide +kernel
theorem dX12_pair_50 : decode cX12_pair 50 = .ok (.iaload, 1) := by decide +kernel
theorem dX12_pair_51 : decode cX12_pair 51 = .ok (.if_icmp .ne 7, 3) := by decide +kernel
theorem dX12_pair_54 : decode cX12_pair 54 = .ok (.iconst 1, 1) := by decide +kernel
theorem dX12_pair_55 : decode cX12_pair 55 = .ok (.goto 4, 3) := by decide +kernel
theorem dX12_pair_58 : decode cX12_pair 58 = .ok (.iconst 0, 1) := by decide +kernel
theorem dX12_pair_59 : decode cX12_pair 59 = .ok (.istore_n 3, 1) := by decide +kernel
theorem dX12_pair_60 : decode cX12_pair 60 = .ok (.aload_n 0, 1) := by decide +kernel
theorem dX12_pair_61 : decode cX12_pair 61 = .ok (.getfield 62, 3) := by decide +kernel
theorem dX12_pair_64 : decode cX12_pair 64 = .ok (.iload_n 1, 1) := by decide +kernel
theorem dX12_pair_65 : decode cX12_pair 65 = .ok (.iaload, 1) := by decide +kernel
theorem dX12_pair_66 : decode cX12_pair 66 = .ok (.iconst (-1), 1) := by decide +kernel
theorem dX12_pair_67 : decode cX12_pair 67 = .ok (.if_icmp .ne 17, 3) := by decide +kernel
theorem dX12_pair_70 : decode cX12_pair 70 = .ok (.aload_n 0, 1) := by decide +kernel
theorem dX12_pair_71 : decode cX12_pair 71 = .ok (.getfield 62, 3) := by decide +kernel
theorem dX12_pair_74 : decode cX12_pair 74 = .ok (.iload_n 2, 1) := by decide +kernel
theorem dX12_pair_75 : decode cX12_pair 75 = .ok (.iaload, 1) := by decide +kernel
theorem dX12_pair_76 : decode cX12_pair 76 = .ok (.iconst (-1), 1) := by decide +kernel
theorem dX12_pair_77 : decode cX12_pair 77 = .ok (.if_icmp .ne 7, 3) := by decide +kernel
theorem dX12_pair_80 : decode cX12_pair 80 = .ok (.iload_n 3, 1) := by decide +kernel
theorem dX12_pair_81 : decode cX12_pair 81 = .ok (.ifCond .ne 6, 3) := by decide +kernel
theorem dX12_pair_84 : decode cX12_pair 84 = .ok (.bipush (-103), 2) := by decide +kernel
theorem dX12_pair_86 : decode cX12_pair 86 = .ok (.ireturn, 1) := by decide +kernel
theorem dX12_pair_87 : decode cX12_pair 87 = .ok (.aload_n 0, 1) := by decide +kernel
theorem dX12_pair_88 : decode cX12_pair 88 = .ok (.getfield 62, 3) := by decide +kernel
theorem dX12_pair_91 : decode cX12_pair 91 = .ok (.iload_n 1, 1) := by decide +kernel
theorem dX12_pair_92 : decode cX12_pair 92 = .ok (.iload_n 2, 1) := by decide +kernel
theorem dX12_pair_93 : decode cX12_pair 93 = .ok (.iastore, 1) := by decide +kernel
theorem dX12_pair_94 : decode cX12_pair 94 = .ok (.aload_n 0, 1) := by decide +kernel
theorem dX12_pair_95 : decode cX12_pair 95 = .ok (.getfield 62, 3) := by decide +kernel
theorem dX12_pair_98 : decode cX12_pair 98 = .ok (.iload_n 2, 1) := by decide +kernel
theorem dX12_pair_99 : decode cX12_pair 99 = .ok (.iload_n 1, 1) := by decide +kernel
theorem dX12_pair_100 : decode cX12_pair 100 = .ok (.iastore, 1) := by decide +kernel
theorem dX12_pair_101 : decode cX12_pair 101 = .ok (.aload_n 0, 1) := by decide +kernel
theorem dX12_pair_102 : decode cX12_pair 102 = .ok (.getfield 38, 3) := by decide +kernel
theorem dX12_pair_105 : decode cX12_pair 105 = .ok (.iload_n 1, 1) := by decide +kernel
theorem dX12_pair_106 : decode cX12_pair 106 = .ok (.iaload, 1) := by decide +kernel
theorem dX12_pair_107 : decode cX12_pair 107 = .ok (.aload_n 0, 1) := by decide +kernel
theorem dX12_pair_108 : decode cX12_pair 108 = .ok (.getfield 38, 3) := by decide +kernel
theorem dX12_pair_111 : decode cX12_pair 111 = .ok (.iload_n 2, 1) := by decide +kernel
theorem dX12_pair_112 : decode cX12_pair 112 = .ok (.iaload, 1) := by decide +kernel
theorem dX12_pair_113 : decode cX12_pair 113 = .ok (.iadd, 1) := by decide +kernel
theorem dX12_pair_114 : decode cX12_pair 114 = .ok (.ireturn, 1) := by decide +kernel
theorem dX12_move_0 : decode cX12_move 0 = .ok (.aload_n 0, 1) := by decide +kernel
theorem dX12_move_1 : decode cX12_move 1 = .ok (.iload_n 1, 1) := by decide +kernel
theorem dX12_move_2 : decode cX12_move 2 = .ok (.invokevirtual 291, 3) := by decide +kernel
theorem dX12_move_5 : decode cX12_move 5 = .ok (.ifCond .ne 6, 3) := by decide +kernel
theorem dX12_move_8 : decode cX12_move 8 = .ok (.bipush (-101), 2) := by decide +kernel
theorem dX12_move_10 : decode cX12_move 10 = .ok (.ireturn, 1) := by decide +kernel
theorem dX12_move_11 : decode cX12_move 11 = .ok (.aload_n 0, 1) := by decide +kernel
theorem dX12_move_12 : decode cX12_move 12 = .ok (.iload_n 1, 1) := by decide +kernel
theorem dX12_move_13 : decode cX12_move 13 = .ok (.invokevirtual 297, 3) := by decide +kernel
theorem dX12_move_16 : decode cX12_move 16 = .ok (.ifCond .le 6, 3) := by decide +kernel
theorem dX12_move_19 : decode cX12_move 19 = .ok (.bipush (-103), 2) := by decide +kernel
theorem dX12_move_21 : decode cX12_move 21 = .ok (.ireturn, 1) := by decide +kernel
theorem dX12_move_22 : decode cX12_move 22 = .ok (.aload_n 0, 1) := by decide +kernel
theorem dX12_move_23 : decode cX12_move 23 = .ok (.aload_n 0, 1) := by decide +kernel
theorem dX12_move_24 : decode cX12_move 24 = .ok (.getfield 23, 3) := by decide +kernel
theorem dX12_move_27 : decode cX12_move 27 = .ok (.iload_n 1, 1) := by decide +kernel
theorem dX12_move_28 : decode cX12_move 28 = .ok (.iaload, 1) := by decide +kernel
theorem dX12_move_29 : decode cX12_move 29 = .ok (.aload_n 0, 1) := by decide +kernel
theorem dX12_move_30 : decode cX12_move 30 = .ok (.getfield 26, 3) := by decide +kernel
theorem dX12_move_33 : decode cX12_move 33 = .ok (.iload_n 1, 1) := by decide +kernel
theorem dX12_move_34 : decode cX12_move 34 = .ok (.iaload, 1) := by decide +kernel
theorem dX12_move_35 : decode cX12_move 35 = .ok (.aload_n 0, 1) := by decide +kernel
theorem dX12_move_36 : decode cX12_move 36 = .ok (.getfield 29, 3) := by decide +kernel
theorem dX12_move_39 : decode cX12_move 39 = .ok (.iload_n 1, 1) := by decide +kernel
theorem dX12_move_40 : decode cX12_move 40 = .ok (.iaload, 1) := by decide +kernel
theorem dX12_move_41 : decode cX12_move 41 = .ok (.aload_n 0, 1) := by decide +kernel
theorem dX12_move_42 : decode cX12_move 42 = .ok (.getfield 32, 3) := by decide +kernel
theorem dX12_move_45 : decode cX12_move 45 = .ok (.iload_n 1, 1) := by decide +kernel
theorem dX12_move_46 : decode cX12_move 46 = .ok (.iaload, 1) := by decide +kernel
theorem dX12_move_47 : decode cX12_move 47 = .ok (.iload_n 1, 1) := by decide +kernel
theorem dX12_move_48 : decode cX12_move 48 = .ok (.invokevirtual 279, 3) := by decide +kernel
theorem dX12_move_51 : decode cX12_move 51 = .ok (.istore_n 2, 1) := by decide +kernel
theorem dX12_move_52 : decode cX12_move 52 = .ok (.iload_n 2, 1) := by decide +kernel
theorem dX12_move_53 : decode cX12_move 53 = .ok (.iconst (-1), 1) := by decide +kernel
theorem dX12_move_54 : decode cX12_move 54 = .ok (.if_icmp .ne 6, 3) := by decide +kernel
theorem dX12_move_57 : decode cX12_move 57 = .ok (.bipush (-103), 2) := by decide +kernel
theorem dX12_move_59 : decode cX12_move 59 = .ok (.ireturn, 1) := by decide +kernel
theorem dX12_move_60 : decode cX12_move 60 = .ok (.aload_n 0, 1) := by decide +kernel
theorem dX12_move_61 : decode cX12_move 61 = .ok (.iload_n 1, 1) := by decide +kernel
theorem dX12_move_62 : decode cX12_move 62 = .ok (.iload_n 2, 1) := by decide +kernel
theorem dX12_move_63 : decode cX12_move 63 = .ok (.invokevirtual 283, 3) := by decide +kernel
theorem dX12_move_66 : decode cX12_move 66 = .ok (.aload_n 0, 1) := by decide +kernel
theorem dX12_move_67 : decode cX12_move 67 = .ok (.getfield 38, 3) := by decide +kernel
theorem dX12_move_70 : decode cX12_move 70 = .ok (.iload_n 1, 1) := by decide +kernel
theorem dX12_move_71 : decode cX12_move 71 = .ok (.iaload, 1) := by decide +kernel
theorem dX12_move_72 : decode cX12_move 72 = .ok (.ireturn, 1) := by decide +kernel
theorem dX12_close_0 : decode cX12_close 0 = .ok (.aload_n 0, 1) := by decide +kernel
theorem dX12_close_1 : decode cX12_close 1 = .ok (.iload_n 1, 1) := by decide +kernel
theorem dX12_close_2 : decode cX12_close 2 = .ok (.invokevirtual 291, 3) := by decide +kernel
theorem dX12_close_5 : decode cX12_close 5 = .ok (.ifCond .ne 6, 3) := by decide +kernel
theorem dX12_close_8 : decode cX12_close 8 = .ok (.bipush (-101), 2) := by decide +kernel
theorem dX12_close_10 : decode cX12_close 10 = .ok (.ireturn, 1) := by decide +kernel
theorem dX12_close_11 : decode cX12_close 11 = .ok (.aload_n 0, 1) := by decide +kernel
theorem dX12_close_12 : decode cX12_close 12 = .ok (.getfield 62, 3) := by decide +kernel
theorem dX12_close_15 : decode cX12_close 15 = .ok (.iload_n 1, 1) := by decide +kernel
theorem dX12_close_16 : decode cX12_close 16 = .ok (.iaload, 1) := by decide +kernel
theorem dX12_close_17 : decode cX12_close 17 = .ok (.istore_n 2, 1) := by decide +kernel
theorem dX12_close_18 : decode cX12_close 18 = .ok (.aload_n 0, 1) := by decide +kernel
theorem dX12_close_19 : decode cX12_close 19 = .ok (.iload_n 1, 1) := by decide +kernel
theorem dX12_close_20 : decode cX12_close 20 = .ok (.invokevirtual 297, 3) := by decide +kernel
theorem dX12_close_23 : decode cX12_close 23 = .ok (.ifCond .gt 16, 3) := by decide +kernel
theorem dX12_close_26 : decode cX12_close 26 = .ok (.iload_n 2, 1) := by decide +kernel
theorem dX12_close_27 : decode cX12_close 27 = .ok (.iconst (-1), 1) := by decide +kernel
theorem dX12_close_28 : decode cX12_close 28 = .ok (.if_icmp .eq 14, 3) := by decide +kernel
theorem dX12_close_31 : decode cX12_close 31 = .ok (.aload_n 0, 1) := by decide +kernel
theorem dX12_close_32 : decode cX12_close 32 = .ok (.iload_n 2, 1) := by decide +kernel
theorem dX12_close_33 : decode cX12_close 33 = .ok (.invokevirtual 297, 3) := by decide +kernel
theorem dX12_close_36 : decode cX12_close 36 = .ok (.ifCond .le 6, 3) := by decide +kernel
theorem dX12_close_39 : decode cX12_close 39 = .ok (.bipush (-103), 2) := by decide +kernel
theorem dX12_close_41 : decode cX12_close 41 = .ok (.ireturn, 1) := by decide +kernel
theorem dX12_close_42 : decode cX12_close 42 = .ok (.iload_n 2, 1) := by decide +kernel
theorem dX12_close_43 : decode cX12_close 43 = .ok (.iconst (-1), 1) := by decide +kernel
theorem dX12_close_44 : decode cX12_close 44 = .ok (.if_icmp .eq 10, 3) := by decide +kernel
theorem dX12_close_47 : decode cX12_close 47 = .ok (.aload_n 0, 1) := by decide +kernel
theorem dX12_close_48 : decode cX12_close 48 = .ok (.getfield 62, 3) := by decide +kernel
theorem dX12_close_51 : decode cX12_close 51 = .ok (.iload_n 2, 1) := by decide +kernel
theorem dX12_close_52 : decode cX12_close 52 = .ok (.iconst (-1), 1) := by decide +kernel
theorem dX12_close_53 : decode cX12_close 53 = .ok (.iastore, 1) := by decide +kernel
theorem dX12_close_54 : decode cX12_close 54 = .ok (.aload_n 0, 1) := by decide +kernel
theorem dX12_close_55 : decode cX12_close 55 = .ok (.getfield 20, 3) := by decide +kernel
theorem dX12_close_58 : decode cX12_close 58 = .ok (.iload_n 1, 1) := by decide +kernel
theorem dX12_close_59 : decode cX12_close 59 = .ok (.iconst 0, 1) := by decide +kernel
theorem dX12_close_60 : decode cX12_close 60 = .ok (.bastore, 1) := by decide +kernel
theorem dX12_close_61 : decode cX12_close 61 = .ok (.aload_n 0, 1) := by decide +kernel
theorem dX12_close_62 : decode cX12_close 62 = .ok (.getfield 47, 3) := by decide +kernel
theorem dX12_close_65 : decode cX12_close 65 = .ok (.iload_n 1, 1) := by decide +kernel
theorem dX12_close_66 : decode cX12_close 66 = .ok (.iaload, 1) := by decide +kernel
theorem dX12_close_67 : decode cX12_close 67 = .ok (.ireturn, 1) := by decide +kernel
theorem dX12_feed_0 : decode cX12_feed 0 = .ok (.aload_n 0, 1) := by decide +kernel
theorem dX12_feed_1 : decode cX12_feed 1 = .ok (.iload_n 1, 1) := by decide +kernel
theorem dX12_feed_2 : decode cX12_feed 2 = .ok (.invokevirtual 291, 3) := by decide +kernel
theorem dX12_feed_5 : decode cX12_feed 5 = .ok (.ifCond .ne 6, 3) := by decide +kernel
theorem dX12_feed_8 : decode cX12_feed 8 = .ok (.bipush (-101), 2) := by decide +kernel
theorem dX12_feed_10 : decode cX12_feed 10 = .ok (.ireturn, 1) := by decide +kernel
theorem dX12_feed_11 : decode cX12_feed 11 = .ok (.iload_n 2, 1) := by decide +kernel
theorem dX12_feed_12 : decode cX12_feed 12 = .ok (.iconst 1, 1) := by decide +kernel
theorem dX12_feed_13 : decode cX12_feed 13 = .ok (.bipush 99, 2) := by decide +kernel
theorem dX12_feed_15 : decode cX12_feed 15 = .ok (.invokestatic 130, 3) := by decide +kernel
theorem dX12_feed_18 : decode cX12_feed 18 = .ok (.ifCond .ne 6, 3) := by decide +kernel
theorem dX12_feed_21 : decode cX12_feed 21 = .ok (.bipush (-102), 2) := by decide +kernel
theorem dX12_feed_23 : decode cX12_feed 23 = .ok (.ireturn, 1) := by decide +kernel
theorem dX12_feed_24 : decode cX12_feed 24 = .ok (.aload_n 0, 1) := by decide +kernel
theorem dX12_feed_25 : decode cX12_feed 25 = .ok (.getfield 47, 3) := by decide +kernel
theorem dX12_feed_28 : decode cX12_feed 28 = .ok (.iload_n 1, 1) := by decide +kernel
theorem dX12_feed_29 : decode cX12_feed 29 = .ok (.iaload, 1) := by decide +kernel
theorem dX12_feed_30 : decode cX12_feed 30 = .ok (.iload_n 2, 1) := by decide +kernel
theorem dX12_feed_31 : decode cX12_feed 31 = .ok (.iadd, 1) := by decide +kernel
theorem dX12_feed_32 : decode cX12_feed 32 = .ok (.bipush 99, 2) := by decide +kernel
theorem dX12_feed_34 : decode cX12_feed 34 = .ok (.if_icmp .le 6, 3) := by decide +kernel
theorem dX12_feed_37 : decode cX12_feed 37 = .ok (.bipush (-104), 2) := by decide +kernel
theorem dX12_feed_39 : decode cX12_feed 39 = .ok (.ireturn, 1) := by decide +kernel
theorem dX12_feed_40 : decode cX12_feed 40 = .ok (.aload_n 0, 1) := by decide +kernel
theorem dX12_feed_41 : decode cX12_feed 41 = .ok (.getfield 47, 3) := by decide +kernel
theorem dX12_feed_44 : decode cX12_feed 44 = .ok (.iload_n 1, 1) := by decide +kernel
theorem dX12_feed_45 : decode cX12_feed 45 = .ok (.dup2, 1) := by decide +kernel
theorem dX12_feed_46 : decode cX12_feed 46 = .ok (.iaload, 1) := by decide +kernel
theorem dX12_feed_47 : decode cX12_feed 47 = .ok (.iload_n 2, 1) := by decide +kernel
theorem dX12_feed_48 : decode cX12_feed 48 = .ok (.iadd, 1) := by decide +kernel
theorem dX12_feed_49 : decode cX12_feed 49 = .ok (.iastore, 1) := by decide +kernel
theorem dX12_feed_50 : decode cX12_feed 50 = .ok (.aload_n 0, 1) := by decide +kernel
theorem dX12_feed_51 : decode cX12_feed 51 = .ok (.getfield 47, 3) := by decide +kernel
theorem dX12_feed_54 : decode cX12_feed 54 = .ok (.iload_n 1, 1) := by decide +kernel
theorem dX12_feed_55 : decode cX12_feed 55 = .ok (.iaload, 1) := by decide +kernel
theorem dX12_feed_56 : decode cX12_feed 56 = .ok (.ireturn, 1) := by decide +kernel
theorem dX12_take_0 : decode cX12_take 0 = .ok (.aload_n 0, 1) := by decide +kernel
theorem dX12_take_1 : decode cX12_take 1 = .ok (.iload_n 1, 1) := by decide +kernel
theorem dX12_take_2 : decode cX12_take 2 = .ok (.invokevirtual 291, 3) := by decide +kernel
theorem dX12_take_5 : decode cX12_take 5 = .ok (.ifCond .ne 6, 3) := by decide +kernel
theorem dX12_take_8 : decode cX12_take 8 = .ok (.bipush (-101), 2) := by decide +kernel
theorem dX12_take_10 : decode cX12_take 10 = .ok (.ireturn, 1) := by decide +kernel
theorem dX12_take_11 : decode cX12_take 11 = .ok (.iload_n 2, 1) := by decide +kernel
theorem dX12_take_12 : decode cX12_take 12 = .ok (.iconst 1, 1) := by decide +kernel
theorem dX12_take_13 : decode cX12_take 13 = .ok (.bipush 99, 2) := by decide +kernel
theorem dX12_take_15 : decode cX12_take 15 = .ok (.invokestatic 130, 3) := by decide +kernel
theorem dX12_take_18 : decode cX12_take 18 = .ok (.ifCond .ne 6, 3) := by decide +kernel
theorem dX12_take_21 : decode cX12_take 21 = .ok (.bipush (-102), 2) := by decide +kernel
theorem dX12_take_23 : decode cX12_take 23 = .ok (.ireturn, 1) := by decide +kernel
theorem dX12_take_24 : decode cX12_take 24 = .ok (.aload_n 0, 1) := by decide +kernel
theorem dX12_take_25 : decode cX12_take 25 = .ok (.getfield 53, 3) := by decide +kernel
theorem dX12_take_28 : decode cX12_take 28 = .ok (.iload_n 1, 1) := by decide +kernel
theorem dX12_take_29 : decode cX12_take 29 = .ok (.iaload, 1) := by decide +kernel
theorem dX12_take_30 : decode cX12_take 30 = .ok (.iload_n 2, 1) := by decide +kernel
theorem dX12_take_31 : decode cX12_take 31 = .ok (.if_icmp .ge 6, 3) := by decide +kernel
theorem dX12_take_34 : decode cX12_take 34 = .ok (.bipush (-103), 2) := by decide +kernel
theorem dX12_take_36 : decode cX12_take 36 = .ok (.ireturn, 1) := by decide +kernel
theorem dX12_take_37 : decode cX12_take 37 = .ok (.aload_n 0, 1) := by decide +kernel
theorem dX12_take_38 : decode cX12_take 38 = .ok (.getfield 53, 3) := by decide +kernel
theorem dX12_take_41 : decode cX12_take 41 = .ok (.iload_n 1, 1) := by decide +kernel
theorem dX12_take_42 : decode cX12_take 42 = .ok (.dup2, 1) := by decide +kernel
theorem dX12_take_43 : decode cX12_take 43 = .ok (.iaload, 1) := by decide +kernel
theorem dX12_take_44 : decode cX12_take 44 = .ok (.iload_n 2, 1) := by decide +kernel
theorem dX12_take_45 : decode cX12_take 45 = .ok (.isub, 1) := by decide +kernel
theorem dX12_take_46 : decode cX12_take 46 = .ok (.iastore, 1) := by decide +kernel
theorem dX12_take_47 : decode cX12_take 47 = .ok (.aload_n 0, 1) := by decide +kernel
theorem dX12_take_48 : decode cX12_take 48 = .ok (.getfield 56, 3) := by decide +kernel
theorem dX12_take_51 : decode cX12_take 51 = .ok (.iload_n 1, 1) := by decide +kernel
theorem dX12_take_52 : decode cX12_take 52 = .ok (.dup2, 1) := by decide +kernel
theorem dX12_take_53 : decode cX12_take 53 = .ok (.iaload, 1) := by decide +kernel
theorem dX12_take_54 : decode cX12_take 54 = .ok (.iload_n 2, 1) := by decide +kernel
theorem dX12_take_55 : decode cX12_take 55 = .ok (.iadd, 1) := by decide +kernel
theorem dX12_take_56 : decode cX12_take 56 = .ok (.iastore, 1) := by decide +kernel
theorem dX12_take_57 : decode cX12_take 57 = .ok (.aload_n 0, 1) := by decide +kernel
theorem dX12_take_58 : decode cX12_take 58 = .ok (.getfield 53, 3) := by decide +kernel
theorem dX12_take_61 : decode cX12_take 61 = .ok (.iload_n 1, 1) := by decide +kernel
theorem dX12_take_62 : decode cX12_take 62 = .ok (.iaload, 1) := by decide +kernel
theorem dX12_take_63 : decode cX12_take 63 = .ok (.ireturn, 1) := by decide +kernel
theorem dX12_isFaster_0 : decode cX12_isFaster 0 = .ok (.aload_n 0, 1) := by decide +kernel
theorem dX12_isFaster_1 : decode cX12_isFaster 1 = .ok (.getfield 59, 3) := by decide +kernel
theorem dX12_isFaster_4 : decode cX12_isFaster 4 = .ok (.iload_n 1, 1) := by decide +kernel
theorem dX12_isFaster_5 : decode cX12_isFaster 5 = .ok (.iaload, 1) := by decide +kernel
theorem dX12_isFaster_6 : decode cX12_isFaster 6 = .ok (.i2l, 1) := by decide +kernel
theorem dX12_isFaster_7 : decode cX12_isFaster 7 = .ok (.lstore_n 3, 1) := by decide +kernel
theorem dX12_isFaster_8 : decode cX12_isFaster 8 = .ok (.aload_n 0, 1) := by decide +kernel
theorem dX12_isFaster_9 : decode cX12_isFaster 9 = .ok (.getfield 59, 3) := by decide +kernel
theorem dX12_isFaster_12 : decode cX12_isFaster 12 = .ok (.iload_n 2, 1) := by decide +kernel
theorem dX12_isFaster_13 : decode cX12_isFaster 13 = .ok (.iaload, 1) := by decide +kernel
theorem dX12_isFaster_14 : decode cX12_isFaster 14 = .ok (.i2l, 1) := by decide +kernel
theorem dX12_isFaster_15 : decode cX12_isFaster 15 = .ok (.lstore 5, 2) := by decide +kernel
theorem dX12_isFaster_17 : decode cX12_isFaster 17 = .ok (.aload_n 0, 1) := by decide +kernel
theorem dX12_isFaster_18 : decode cX12_isFaster 18 = .ok (.getfield 188, 3) := by decide +kernel
theorem dX12_isFaster_21 : decode cX12_isFaster 21 = .ok (.aload_n 0, 1) := by decide +kernel
theorem dX12_isFaster_22 : decode cX12_isFaster 22 = .ok (.getfield 65, 3) := by decide +kernel
theorem dX12_isFaster_25 : decode cX12_isFaster 25 = .ok (.iload_n 1, 1) := by decide +kernel
theorem dX12_isFaster_26 : decode cX12_isFaster 26 = .ok (.iaload, 1) := by decide +kernel
theorem dX12_isFaster_27 : decode cX12_isFaster 27 = .ok (.isub, 1) := by decide +kernel
theorem dX12_isFaster_28 : decode cX12_isFaster 28 = .ok (.istore 7, 2) := by decide +kernel
theorem dX12_isFaster_30 : decode cX12_isFaster 30 = .ok (.aload_n 0, 1) := by decide +kernel
theorem dX12_isFaster_31 : decode cX12_isFaster 31 = .ok (.getfield 188, 3) := by decide +kernel
theorem dX12_isFaster_34 : decode cX12_isFaster 34 = .ok (.aload_n 0, 1) := by decide +kernel
theorem dX12_isFaster_35 : decode cX12_isFaster 35 = .ok (.getfield 65, 3) := by decide +kernel
theorem dX12_isFaster_38 : decode cX12_isFaster 38 = .ok (.iload_n 2, 1) := by decide +kernel
theorem dX12_isFaster_39 : decode cX12_isFaster 39 = .ok (.iaload, 1) := by decide +kernel
theorem dX12_isFaster_40 : decode cX12_isFaster 40 = .ok (.isub, 1) := by decide +kernel
theorem dX12_isFaster_41 : decode cX12_isFaster 41 = .ok (.istore 8, 2) := by decide +kernel
theorem dX12_isFaster_43 : decode cX12_isFaster 43 = .ok (.iload 7, 2) := by decide +kernel
theorem dX12_isFaster_45 : decode cX12_isFaster 45 = .ok (.ifCond .ne 7, 3) := by decide +kernel
theorem dX12_isFaster_48 : decode cX12_isFaster 48 = .ok (.lconst 0, 1) := by decide +kernel
theorem dX12_isFaster_49 : decode cX12_isFaster 49 = .ok (.goto 4, 3) := by decide +kernel
theorem dX12_isFaster_52 : decode cX12_isFaster 52 = .ok (.lload_n 3, 1) := by decide +kernel
theorem dX12_isFaster_53 : decode cX12_isFaster 53 = .ok (.iload 8, 2) := by decide +kernel
theorem dX12_isFaster_55 : decode cX12_isFaster 55 = .ok (.ifCond .ne 7, 3) := by decide +kernel
theorem dX12_isFaster_58 : decode cX12_isFaster 58 = .ok (.lconst 1, 1) := by decide +kernel
theorem dX12_isFaster_59 : decode cX12_isFaster 59 = .ok (.goto 6, 3) := by decide +kernel
theorem dX12_isFaster_62 : decode cX12_isFaster 62 = .ok (.iload 8, 2) := by decide +kernel
theorem dX12_isFaster_64 : decode cX12_isFaster 64 = .ok (.i2l, 1) := by decide +kernel
theorem dX12_isFaster_65 : decode cX12_isFaster 65 = .ok (.lmul, 1) := by decide +kernel
theorem dX12_isFaster_66 : decode cX12_isFaster 66 = .ok (.iload 8, 2) := by decide +kernel
theorem dX12_isFaster_68 : decode cX12_isFaster 68 = .ok (.ifCond .ne 7, 3) := by decide +kernel
theorem dX12_isFaster_71 : decode cX12_isFaster 71 = .ok (.lconst 0, 1) := by decide +kernel
theorem dX12_isFaster_72 : decode cX12_isFaster 72 = .ok (.goto 5, 3) := by decide +kernel
theorem dX12_isFaster_75 : decode cX12_isFaster 75 = .ok (.lload 5, 2) := by decide +kernel
theorem dX12_isFaster_77 : decode cX12_isFaster 77 = .ok (.iload 7, 2) := by decide +kernel
theorem dX12_isFaster_79 : decode cX12_isFaster 79 = .ok (.ifCond .ne 7, 3) := by decide +kernel
theorem dX12_isFaster_82 : decode cX12_isFaster 82 = .ok (.lconst 1, 1) := by decide +kernel
theorem dX12_isFaster_83 : decode cX12_isFaster 83 = .ok (.goto 6, 3) := by decide +kernel
theorem dX12_isFaster_86 : decode cX12_isFaster 86 = .ok (.iload 7, 2) := by decide +kernel
theorem dX12_isFaster_88 : decode cX12_isFaster 88 = .ok (.i2l, 1) := by decide +kernel
theorem dX12_isFaster_89 : decode cX12_isFaster 89 = .ok (.lmul, 1) := by decide +kernel
theorem dX12_isFaster_90 : decode cX12_isFaster 90 = .ok (.lcmp, 1) := by decide +kernel
theorem dX12_isFaster_91 : decode cX12_isFaster 91 = .ok (.ifCond .le 7, 3) := by decide +kernel
theorem dX12_isFaster_94 : decode cX12_isFaster 94 = .ok (.iconst 1, 1) := by decide +kernel
theorem dX12_isFaster_95 : decode cX12_isFaster 95 = .ok (.goto 4, 3) := by decide +kernel
theorem dX12_isFaster_98 : decode cX12_isFaster 98 = .ok (.iconst 0, 1) := by decide +kernel
theorem dX12_isFaster_99 : decode cX12_isFaster 99 = .ok (.ireturn, 1) := by decide +kernel
theorem dX12_fastestNow_0 : decode cX12_fastestNow 0 = .ok (.iconst (-1), 1) := by decide +kernel
theorem dX12_fastestNow_1 : decode cX12_fastestNow 1 = .ok (.istore_n 1, 1) := by decide +kernel
theorem dX12_fastestNow_2 : decode cX12_fastestNow 2 = .ok (.iconst 0, 1) := by decide +kernel
theorem dX12_fastestNow_3 : decode cX12_fastestNow 3 = .ok (.istore_n 2, 1) := by decide +kernel
theorem dX12_fastestNow_4 : decode cX12_fastestNow 4 = .ok (.iload_n 2, 1) := by decide +kernel
theorem dX12_fastestNow_5 : decode cX12_fastestNow 5 = .ok (.bipush 8, 2) := by decide +kernel
theorem dX12_fastestNow_7 : decode cX12_fastestNow 7 = .ok (.if_icmp .ge 48, 3) := by decide +kernel
theorem dX12_fastestNow_10 : decode cX12_fastestNow 10 = .ok (.aload_n 0, 1) := by decide +kernel
theorem dX12_fastestNow_11 : decode cX12_fastestNow 11 = .ok (.getfield 20, 3) := by decide +kernel
theorem dX12_fastestNow_14 : decode cX12_fastestNow 14 = .ok (.iload_n 2, 1) := by decide +kernel
theorem dX12_fastestNow_15 : decode cX12_fastestNow 15 = .ok (.baload, 1) := by decide +kernel
theorem dX12_fastestNow_16 : decode cX12_fastestNow 16 = .ok (.ifCond .eq 21, 3) := by decide +kernel
theorem dX12_fastestNow_19 : decode cX12_fastestNow 19 = .ok (.iload_n 1, 1) := by decide +kernel
theorem dX12_fastestNow_20 : decode cX12_fastestNow 20 = .ok (.iconst (-1), 1) := by decide +kernel
theorem dX12_fastestNow_21 : decode cX12_fastestNow 21 = .ok (.if_icmp .eq 12, 3) := by decide +kernel
theorem dX12_fastestNow_24 : decode cX12_fastestNow 24 = .ok (.aload_n 0, 1) := by decide +kernel
theorem dX12_fastestNow_25 : decode cX12_fastestNow 25 = .ok (.iload_n 2, 1) := by decide +kernel
theorem dX12_fastestNow_26 : decode cX12_fastestNow 26 = .ok (.iload_n 1, 1) := by decide +kernel
theorem dX12_fastestNow_27 : decode cX12_fastestNow 27 = .ok (.invokevirtual 306, 3) := by decide +kernel
theorem dX12_fastestNow_30 : decode cX12_fastestNow 30 = .ok (.ifCond .eq 7, 3) := by decide +kernel
theorem dX12_fastestNow_33 : decode cX12_fastestNow 33 = .ok (.iconst 1, 1) := by decide +kernel
theorem dX12_fastestNow_34 : decode cX12_fastestNow 34 = .ok (.goto 4, 3) := by decide +kernel
theorem dX12_fastestNow_37 : decode cX12_fastestNow 37 = .ok (.iconst 0, 1) := by decide +kernel
theorem dX12_fastestNow_38 : decode cX12_fastestNow 38 = .ok (.istore_n 3, 1) := by decide +kernel
theorem dX12_fastestNow_39 : decode cX12_fastestNow 39 = .ok (.iload_n 3, 1) := by decide +kernel
theorem dX12_fastestNow_40 : decode cX12_fastestNow 40 = .ok (.ifCond .eq 7, 3) := by decide +kernel
theorem dX12_fastestNow_43 : decode cX12_fastestNow 43 = .ok (.iload_n 2, 1) := by decide +kernel
theorem dX12_fastestNow_44 : decode cX12_fastestNow 44 = .ok (.goto 4, 3) := by decide +kernel
theorem dX12_fastestNow_47 : decode cX12_fastestNow 47 = .ok (.iload_n 1, 1) := by decide +kernel
theorem dX12_fastestNow_48 : decode cX12_fastestNow 48 = .ok (.istore_n 1, 1) := by decide +kernel
theorem dX12_fastestNow_49 : decode cX12_fastestNow 49 = .ok (.iinc 2 1, 3) := by decide +kernel
theorem dX12_fastestNow_52 : decode cX12_fastestNow 52 = .ok (.goto (-48), 3) := by decide +kernel
theorem dX12_fastestNow_55 : decode cX12_fastestNow 55 = .ok (.iload_n 1, 1) := by decide +kernel
theorem dX12_fastestNow_56 : decode cX12_fastestNow 56 = .ok (.ireturn, 1) := by decide +kernel
theorem dX12_fastest_0 : decode cX12_fastest 0 = .ok (.aload_n 0, 1) := by decide +kernel
theorem dX12_fastest_1 : decode cX12_fastest 1 = .ok (.invokevirtual 309, 3) := by decide +kernel
theorem dX12_fastest_4 : decode cX12_fastest 4 = .ok (.ireturn, 1) := by decide +kernel
theorem dX12_comes_0 : decode cX12_comes 0 = .ok (.aload_n 0, 1) := by decide +kernel
theorem dX12_comes_1 : decode cX12_comes 1 = .ok (.getfield 80, 3) := by decide +kernel
theorem dX12_comes_4 : decode cX12_comes 4 = .ok (.aload_n 0, 1) := by decide +kernel
theorem dX12_comes_5 : decode cX12_comes 5 = .ok (.getfield 194, 3) := by decide +kernel
theorem dX12_comes_8 : decode cX12_comes 8 = .ok (.iload_n 1, 1) := by decide +kernel
theorem dX12_comes_9 : decode cX12_comes 9 = .ok (.iastore, 1) := by decide +kernel
theorem dX12_comes_10 : decode cX12_comes 10 = .ok (.aload_n 0, 1) := by decide +kernel
theorem dX12_comes_11 : decode cX12_comes 11 = .ok (.getfield 83, 3) := by decide +kernel
theorem dX12_comes_14 : decode cX12_comes 14 = .ok (.aload_n 0, 1) := by decide +kernel
theorem dX12_comes_15 : decode cX12_comes 15 = .ok (.getfield 194, 3) := by decide +kernel
theorem dX12_comes_18 : decode cX12_comes 18 = .ok (.iload_n 2, 1) := by decide +kernel
theorem dX12_comes_19 : decode cX12_comes 19 = .ok (.iastore, 1) := by decide +kernel
theorem dX12_comes_20 : decode cX12_comes 20 = .ok (.aload_n 0, 1) := by decide +kernel
theorem dX12_comes_21 : decode cX12_comes 21 = .ok (.getfield 86, 3) := by decide +kernel
theorem dX12_comes_24 : decode cX12_comes 24 = .ok (.aload_n 0, 1) := by decide +kernel
theorem dX12_comes_25 : decode cX12_comes 25 = .ok (.getfield 194, 3) := by decide +kernel
theorem dX12_comes_28 : decode cX12_comes 28 = .ok (.iload_n 3, 1) := by decide +kernel
theorem dX12_comes_29 : decode cX12_comes 29 = .ok (.bastore, 1) := by decide +kernel
theorem dX12_comes_30 : decode cX12_comes 30 = .ok (.aload_n 0, 1) := by decide +kernel
theorem dX12_comes_31 : decode cX12_comes 31 = .ok (.getfield 89, 3) := by decide +kernel
theorem dX12_comes_34 : decode cX12_comes 34 = .ok (.aload_n 0, 1) := by decide +kernel
theorem dX12_comes_35 : decode cX12_comes 35 = .ok (.getfield 194, 3) := by decide +kernel
theorem dX12_comes_38 : decode cX12_comes 38 = .ok (.iconst (-1), 1) := by decide +kernel
theorem dX12_comes_39 : decode cX12_comes 39 = .ok (.iastore, 1) := by decide +kernel
theorem dX12_comes_40 : decode cX12_comes 40 = .ok (.aload_n 0, 1) := by decide +kernel
theorem dX12_comes_41 : decode cX12_comes 41 = .ok (.getfield 92, 3) := by decide +kernel
theorem dX12_comes_44 : decode cX12_comes 44 = .ok (.aload_n 0, 1) := by decide +kernel
theorem dX12_comes_45 : decode cX12_comes 45 = .ok (.getfield 194, 3) := by decide +kernel
theorem dX12_comes_48 : decode cX12_comes 48 = .ok (.aload_n 0, 1) := by decide +kernel
theorem dX12_comes_49 : decode cX12_comes 49 = .ok (.getfield 188, 3) := by decide +kernel
theorem dX12_comes_52 : decode cX12_comes 52 = .ok (.iastore, 1) := by decide +kernel
theorem dX12_comes_53 : decode cX12_comes 53 = .ok (.aload_n 0, 1) := by decide +kernel
theorem dX12_comes_54 : decode cX12_comes 54 = .ok (.dup, 1) := by decide +kernel
theorem dX12_comes_55 : decode cX12_comes 55 = .ok (.getfield 194, 3) := by decide +kernel
theorem dX12_comes_58 : decode cX12_comes 58 = .ok (.iconst 1, 1) := by decide +kernel
theorem dX12_comes_59 : decode cX12_comes 59 = .ok (.iadd, 1) := by decide +kernel
theorem dX12_comes_60 : decode cX12_comes 60 = .ok (.putfield 194, 3) := by decide +kernel
theorem dX12_comes_63 : decode cX12_comes 63 = .ok (.return_, 1) := by decide +kernel
theorem dX12_stray_0 : decode cX12_stray 0 = .ok (.aload_n 0, 1) := by decide +kernel
theorem dX12_stray_1 : decode cX12_stray 1 = .ok (.invokevirtual 264, 3) := by decide +kernel
theorem dX12_stray_4 : decode cX12_stray 4 = .ok (.ifCond .ne 6, 3) := by decide +kernel
theorem dX12_stray_7 : decode cX12_stray 7 = .ok (.bipush (-103), 2) := by decide +kernel
theorem dX12_stray_9 : decode cX12_stray 9 = .ok (.ireturn, 1) := by decide +kernel
theorem dX12_stray_10 : decode cX12_stray 10 = .ok (.aload_n 0, 1) := by decide +kernel
theorem dX12_stray_11 : decode cX12_stray 11 = .ok (.iload_n 1, 1) := by decide +kernel
theorem dX12_stray_12 : decode cX12_stray 12 = .ok (.invokevirtual 273, 3) := by decide +kernel
theorem dX12_stray_15 : decode cX12_stray 15 = .ok (.ifCond .eq 11, 3) := by decide +kernel
theorem dX12_stray_18 : decode cX12_stray 18 = .ok (.aload_n 0, 1) := by decide +kernel
theorem dX12_stray_19 : decode cX12_stray 19 = .ok (.iload_n 2, 1) := by decide +kernel
theorem dX12_stray_20 : decode cX12_stray 20 = .ok (.invokevirtual 273, 3) := by decide +kernel
theorem dX12_stray_23 : decode cX12_stray 23 = .ok (.ifCond .ne 6, 3) := by decide +kernel
theorem dX12_stray_26 : decode cX12_stray 26 = .ok (.bipush (-101), 2) := by decide +kernel
theorem dX12_stray_28 : decode cX12_stray 28 = .ok (.ireturn, 1) := by decide +kernel
theorem dX12_stray_29 : decode cX12_stray 29 = .ok (.aload_n 0, 1) := by decide +kernel
theorem dX12_stray_30 : decode cX12_stray 30 = .ok (.getfield 194, 3) := by decide +kernel
theorem dX12_stray_33 : decode cX12_stray 33 = .ok (.bipush 12, 2) := by decide +kernel
theorem dX12_stray_35 : decode cX12_stray 35 = .ok (.if_icmp .ne 6, 3) := by decide +kernel
theorem dX12_stray_38 : decode cX12_stray 38 = .ok (.bipush (-104), 2) := by decide +kernel
theorem dX12_stray_40 : decode cX12_stray 40 = .ok (.ireturn, 1) := by decide +kernel
theorem dX12_stray_41 : decode cX12_stray 41 = .ok (.aload_n 0, 1) := by decide +kernel
theorem dX12_stray_42 : decode cX12_stray 42 = .ok (.iload_n 1, 1) := by decide +kernel
theorem dX12_stray_43 : decode cX12_stray 43 = .ok (.iload_n 2, 1) := by decide +kernel
theorem dX12_stray_44 : decode cX12_stray 44 = .ok (.iload_n 3, 1) := by decide +kernel
theorem dX12_stray_45 : decode cX12_stray 45 = .ok (.invokevirtual 312, 3) := by decide +kernel
theorem dX12_stray_48 : decode cX12_stray 48 = .ok (.aload_n 0, 1) := by decide +kernel
theorem dX12_stray_49 : decode cX12_stray 49 = .ok (.getfield 194, 3) := by decide +kernel
theorem dX12_stray_52 : decode cX12_stray 52 = .ok (.ireturn, 1) := by decide +kernel
theorem dX12_nextLink_0 : decode cX12_nextLink 0 = .ok (.aload_n 0, 1) := by decide +kernel
theorem dX12_nextLink_1 : decode cX12_nextLink 1 = .ok (.getfield 89, 3) := by decide +kernel
theorem dX12_nextLink_4 : decode cX12_nextLink 4 = .ok (.iload_n 1, 1) := by decide +kernel
theorem dX12_nextLink_5 : decode cX12_nextLink 5 = .ok (.iaload, 1) := by decide +kernel
theorem dX12_nextLink_6 : decode cX12_nextLink 6 = .ok (.istore_n 2, 1) := by decide +kernel
theorem dX12_nextLink_7 : decode cX12_nextLink 7 = .ok (.aload_n 0, 1) := by decide +kernel
theorem dX12_nextLink_8 : decode cX12_nextLink 8 = .ok (.getfield 83, 3) := by decide +kernel
theorem dX12_nextLink_11 : decode cX12_nextLink 11 = .ok (.iload_n 1, 1) := by decide +kernel
theorem dX12_nextLink_12 : decode cX12_nextLink 12 = .ok (.iaload, 1) := by decide +kernel
theorem dX12_nextLink_13 : decode cX12_nextLink 13 = .ok (.istore_n 3, 1) := by decide +kernel
theorem dX12_nextLink_14 : decode cX12_nextLink 14 = .ok (.iload_n 2, 1) := by decide +kernel
theorem dX12_nextLink_15 : decode cX12_nextLink 15 = .ok (.iconst (-1), 1) := by decide +kernel
theorem dX12_nextLink_16 : decode cX12_nextLink 16 = .ok (.if_icmp .ne 13, 3) := by decide +kernel
theorem dX12_nextLink_19 : decode cX12_nextLink 19 = .ok (.bipush 6, 2) := by decide +kernel
theorem dX12_nextLink_21 : decode cX12_nextLink 21 = .ok (.aload_n 0, 1) := by decide +kernel
theorem dX12_nextLink_22 : decode cX12_nextLink 22 = .ok (.getfield 80, 3) := by decide +kernel
theorem dX12_nextLink_25 : decode cX12_nextLink 25 = .ok (.iload_n 1, 1) := by decide +kernel
theorem dX12_nextLink_26 : decode cX12_nextLink 26 = .ok (.iaload, 1) := by decide +kernel
theorem dX12_nextLink_27 : decode cX12_nextLink 27 = .ok (.imul, 1) := by decide +kernel
theorem dX12_nextLink_28 : decode cX12_nextLink 28 = .ok (.ireturn, 1) := by decide +kernel
theorem dX12_nextLink_29 : decode cX12_nextLink 29 = .ok (.iload_n 2, 1) := by decide +kernel
theorem dX12_nextLink_30 : decode cX12_nextLink 30 = .ok (.iload_n 3, 1) := by decide +kernel
theorem dX12_nextLink_31 : decode cX12_nextLink 31 = .ok (.if_icmp .ne 10, 3) := by decide +kernel
theorem dX12_nextLink_34 : decode cX12_nextLink 34 = .ok (.bipush 6, 2) := by decide +kernel
theorem dX12_nextLink_36 : decode cX12_nextLink 36 = .ok (.iload_n 2, 1) := by decide +kernel
theorem dX12_nextLink_37 : decode cX12_nextLink 37 = .ok (.imul, 1) := by decide +kernel
theorem dX12_nextLink_38 : decode cX12_nextLink 38 = .ok (.iconst 1, 1) := by decide +kernel
theorem dX12_nextLink_39 : decode cX12_nextLink 39 = .ok (.iadd, 1) := by decide +kernel
theorem dX12_nextLink_40 : decode cX12_nextLink 40 = .ok (.ireturn, 1) := by decide +kernel
theorem dX12_nextLink_41 : decode cX12_nextLink 41 = .ok (.iload_n 2, 1) := by decide +kernel
theorem dX12_nextLink_42 : decode cX12_nextLink 42 = .ok (.aload_n 0, 1) := by decide +kernel
theorem dX12_nextLink_43 : decode cX12_nextLink 43 = .ok (.getfield 119, 3) := by decide +kernel
theorem dX12_nextLink_46 : decode cX12_nextLink 46 = .ok (.irem, 1) := by decide +kernel
theorem dX12_nextLink_47 : decode cX12_nextLink 47 = .ok (.iload_n 3, 1) := by decide +kernel
theorem dX12_nextLink_48 : decode cX12_nextLink 48 = .ok (.aload_n 0, 1) := by decide +kernel
theorem dX12_nextLink_49 : decode cX12_nextLink 49 = .ok (.getfield 119, 3) := by decide +kernel
theorem dX12_nextLink_52 : decode cX12_nextLink 52 = .ok (.irem, 1) := by decide +kernel
theorem dX12_nextLink_53 : decode cX12_nextLink 53 = .ok (.if_icmp .eq 29, 3) := by decide +kernel
theorem dX12_nextLink_56 : decode cX12_nextLink 56 = .ok (.bipush 6, 2) := by decide +kernel
theorem dX12_nextLink_58 : decode cX12_nextLink 58 = .ok (.iload_n 2, 1) := by decide +kernel
theorem dX12_nextLink_59 : decode cX12_nextLink 59 = .ok (.imul, 1) := by decide +kernel
theorem dX12_nextLink_60 : decode cX12_nextLink 60 = .ok (.iload_n 2, 1) := by decide +kernel
theorem dX12_nextLink_61 : decode cX12_nextLink 61 = .ok (.aload_n 0, 1) := by decide +kernel
theorem dX12_nextLink_62 : decode cX12_nextLink 62 = .ok (.getfield 119, 3) := by decide +kernel
theorem dX12_nextLink_65 : decode cX12_nextLink 65 = .ok (.irem, 1) := by decide +kernel
theorem dX12_nextLink_66 : decode cX12_nextLink 66 = .ok (.iload_n 3, 1) := by decide +kernel
theorem dX12_nextLink_67 : decode cX12_nextLink 67 = .ok (.aload_n 0, 1) := by decide +kernel
theorem dX12_nextLink_68 : decode cX12_nextLink 68 = .ok (.getfield 119, 3) := by decide +kernel
theorem dX12_nextLink_71 : decode cX12_nextLink 71 = .ok (.irem, 1) := by decide +kernel
theorem dX12_nextLink_72 : decode cX12_nextLink 72 = .ok (.if_icmp .ge 7, 3) := by decide +kernel
theorem dX12_nextLink_75 : decode cX12_nextLink 75 = .ok (.iconst 3, 1) := by decide +kernel
theorem dX12_nextLink_76 : decode cX12_nextLink 76 = .ok (.goto 4, 3) := by decide +kernel
theorem dX12_nextLink_79 : decode cX12_nextLink 79 = .ok (.iconst 5, 1) := by decide +kernel
theorem dX12_nextLink_80 : decode cX12_nextLink 80 = .ok (.iadd, 1) := by decide +kernel
theorem dX12_nextLink_81 : decode cX12_nextLink 81 = .ok (.ireturn, 1) := by decide +kernel
theorem dX12_nextLink_82 : decode cX12_nextLink 82 = .ok (.bipush 6, 2) := by decide +kernel
theorem dX12_nextLink_84 : decode cX12_nextLink 84 = .ok (.iload_n 2, 1) := by decide +kernel
theorem dX12_nextLink_85 : decode cX12_nextLink 85 = .ok (.imul, 1) := by decide +kernel
theorem dX12_nextLink_86 : decode cX12_nextLink 86 = .ok (.iload_n 2, 1) := by decide +kernel
theorem dX12_nextLink_87 : decode cX12_nextLink 87 = .ok (.iload_n 3, 1) := by decide +kernel
theorem dX12_nextLink_88 : decode cX12_nextLink 88 = .ok (.if_icmp .ge 7, 3) := by decide +kernel
theorem dX12_nextLink_91 : decode cX12_nextLink 91 = .ok (.iconst 4, 1) := by decide +kernel
theorem dX12_nextLink_92 : decode cX12_nextLink 92 = .ok (.goto 4, 3) := by decide +kernel
theorem dX12_nextLink_95 : decode cX12_nextLink 95 = .ok (.iconst 2, 1) := by decide +kernel
theorem dX12_nextLink_96 : decode cX12_nextLink 96 = .ok (.iadd, 1) := by decide +kernel
theorem dX12_nextLink_97 : decode cX12_nextLink 97 = .ok (.ireturn, 1) := by decide +kernel
theorem dX12_strayNow_0 : decode cX12_strayNow 0 = .ok (.iload_n 2, 1) := by decide +kernel
theorem dX12_strayNow_1 : decode cX12_strayNow 1 = .ok (.tableswitch 72 0 3 #[31, 38, 53, 60], 31) := by decide +kernel
theorem dX12_strayNow_32 : decode cX12_strayNow 32 = .ok (.aload_n 0, 1) := by decide +kernel
theorem dX12_strayNow_33 : decode cX12_strayNow 33 = .ok (.getfield 83, 3) := by decide +kernel
theorem dX12_strayNow_36 : decode cX12_strayNow 36 = .ok (.iload_n 1, 1) := by decide +kernel
theorem dX12_strayNow_37 : decode cX12_strayNow 37 = .ok (.iaload, 1) := by decide +kernel
theorem dX12_strayNow_38 : decode cX12_strayNow 38 = .ok (.ireturn, 1) := by decide +kernel
theorem dX12_strayNow_39 : decode cX12_strayNow 39 = .ok (.aload_n 0, 1) := by decide +kernel
theorem dX12_strayNow_40 : decode cX12_strayNow 40 = .ok (.getfield 86, 3) := by decide +kernel
theorem dX12_strayNow_43 : decode cX12_strayNow 43 = .ok (.iload_n 1, 1) := by decide +kernel
theorem dX12_strayNow_44 : decode cX12_strayNow 44 = .ok (.baload, 1) := by decide +kernel
theorem dX12_strayNow_45 : decode cX12_strayNow 45 = .ok (.ifCond .eq 7, 3) := by decide +kernel
theorem dX12_strayNow_48 : decode cX12_strayNow 48 = .ok (.iconst 1, 1) := by decide +kernel
theorem dX12_strayNow_49 : decode cX12_strayNow 49 = .ok (.goto 4, 3) := by decide +kernel
theorem dX12_strayNow_52 : decode cX12_strayNow 52 = .ok (.iconst 0, 1) := by decide +kernel
theorem dX12_strayNow_53 : decode cX12_strayNow 53 = .ok (.ireturn, 1) := by decide +kernel
theorem dX12_strayNow_54 : decode cX12_strayNow 54 = .ok (.aload_n 0, 1) := by decide +kernel
theorem dX12_strayNow_55 : decode cX12_strayNow 55 = .ok (.getfield 89, 3) := by decide +kernel
theorem dX12_strayNow_58 : decode cX12_strayNow 58 = .ok (.iload_n 1, 1) := by decide +kernel
theorem dX12_strayNow_59 : decode cX12_strayNow 59 = .ok (.iaload, 1) := by decide +kernel
theorem dX12_strayNow_60 : decode cX12_strayNow 60 = .ok (.ireturn, 1) := by decide +kernel
theorem dX12_strayNow_61 : decode cX12_strayNow 61 = .ok (.aload_n 0, 1) := by decide +kernel
theorem dX12_strayNow_62 : decode cX12_strayNow 62 = .ok (.getfield 188, 3) := by decide +kernel
theorem dX12_strayNow_65 : decode cX12_strayNow 65 = .ok (.aload_n 0, 1) := by decide +kernel
theorem dX12_strayNow_66 : decode cX12_strayNow 66 = .ok (.getfield 92, 3) := by decide +kernel
theorem dX12_strayNow_69 : decode cX12_strayNow 69 = .ok (.iload_n 1, 1) := by decide +kernel
theorem dX12_strayNow_70 : decode cX12_strayNow 70 = .ok (.iaload, 1) := by decide +kernel
theorem dX12_strayNow_71 : decode cX12_strayNow 71 = .ok (.isub, 1) := by decide +kernel
theorem dX12_strayNow_72 : decode cX12_strayNow 72 = .ok (.ireturn, 1) := by decide +kernel
theorem dX12_strayNow_73 : decode cX12_strayNow 73 = .ok (.aload_n 0, 1) := by decide +kernel
theorem dX12_strayNow_74 : decode cX12_strayNow 74 = .ok (.iload_n 1, 1) := by decide +kernel
theorem dX12_strayNow_75 : decode cX12_strayNow 75 = .ok (.invokevirtual 316, 3) := by decide +kernel
theorem dX12_strayNow_78 : decode cX12_strayNow 78 = .ok (.ireturn, 1) := by decide +kernel
theorem dX12_straying_0 : decode cX12_straying 0 = .ok (.iload_n 1, 1) := by decide +kernel
theorem dX12_straying_1 : decode cX12_straying 1 = .ok (.iconst 0, 1) := by decide +kernel
theorem dX12_straying_2 : decode cX12_straying 2 = .ok (.aload_n 0, 1) := by decide +kernel
theorem dX12_straying_3 : decode cX12_straying 3 = .ok (.getfield 194, 3) := by decide +kernel
theorem dX12_straying_6 : decode cX12_straying 6 = .ok (.iconst 1, 1) := by decide +kernel
theorem dX12_straying_7 : decode cX12_straying 7 = .ok (.isub, 1) := by decide +kernel
theorem dX12_straying_8 : decode cX12_straying 8 = .ok (.invokestatic 130, 3) := by decide +kernel
theorem dX12_straying_11 : decode cX12_straying 11 = .ok (.ifCond .ne 8, 3) := by decide +kernel
theorem dX12_straying_14 : decode cX12_straying 14 = .ok (.bipush (-101), 2) := by decide +kernel
theorem dX12_straying_16 : decode cX12_straying 16 = .ok (.goto 23, 3) := by decide +kernel
theorem dX12_straying_19 : decode cX12_straying 19 = .ok (.iload_n 2, 1) := by decide +kernel
theorem dX12_straying_20 : decode cX12_straying 20 = .ok (.iconst 0, 1) := by decide +kernel
theorem dX12_straying_21 : decode cX12_straying 21 = .ok (.iconst 4, 1) := by decide +kernel
theorem dX12_straying_22 : decode cX12_straying 22 = .ok (.invokestatic 130, 3) := by decide +kernel
theorem dX12_straying_25 : decode cX12_straying 25 = .ok (.ifCond .eq 12, 3) := by decide +kernel
theorem dX12_straying_28 : decode cX12_straying 28 = .ok (.aload_n 0, 1) := by decide +kernel
theorem dX12_straying_29 : decode cX12_straying 29 = .ok (.iload_n 1, 1) := by decide +kernel
theorem dX12_straying_30 : decode cX12_straying 30 = .ok (.iload_n 2, 1) := by decide +kernel
theorem dX12_straying_31 : decode cX12_straying 31 = .ok (.invokevirtual 319, 3) := by decide +kernel
theorem dX12_straying_34 : decode cX12_straying 34 = .ok (.goto 5, 3) := by decide +kernel
theorem dX12_straying_37 : decode cX12_straying 37 = .ok (.bipush (-102), 2) := by decide +kernel
theorem dX12_straying_39 : decode cX12_straying 39 = .ok (.ireturn, 1) := by decide +kernel
theorem dX12_arrivedNow_0 : decode cX12_arrivedNow 0 = .ok (.iload_n 2, 1) := by decide +kernel
theorem dX12_arrivedNow_1 : decode cX12_arrivedNow 1 = .ok (.ifCond .ne 12, 3) := by decide +kernel
theorem dX12_arrivedNow_4 : decode cX12_arrivedNow 4 = .ok (.aload_n 0, 1) := by decide +kernel
theorem dX12_arrivedNow_5 : decode cX12_arrivedNow 5 = .ok (.getfield 95, 3) := by decide +kernel
theorem dX12_arrivedNow_8 : decode cX12_arrivedNow 8 = .ok (.iload_n 1, 1) := by decide +kernel
theorem dX12_arrivedNow_9 : decode cX12_arrivedNow 9 = .ok (.iaload, 1) := by decide +kernel
theorem dX12_arrivedNow_10 : decode cX12_arrivedNow 10 = .ok (.goto 23, 3) := by decide +kernel
theorem dX12_arrivedNow_13 : decode cX12_arrivedNow 13 = .ok (.iload_n 2, 1) := by decide +kernel
theorem dX12_arrivedNow_14 : decode cX12_arrivedNow 14 = .ok (.iconst 1, 1) := by decide +kernel
theorem dX12_arrivedNow_15 : decode cX12_arrivedNow 15 = .ok (.if_icmp .ne 12, 3) := by decide +kernel
theorem dX12_arrivedNow_18 : decode cX12_arrivedNow 18 = .ok (.aload_n 0, 1) := by decide +kernel
theorem dX12_arrivedNow_19 : decode cX12_arrivedNow 19 = .ok (.getfield 98, 3) := by decide +kernel
theorem dX12_arrivedNow_22 : decode cX12_arrivedNow 22 = .ok (.iload_n 1, 1) := by decide +kernel
theorem dX12_arrivedNow_23 : decode cX12_arrivedNow 23 = .ok (.iaload, 1) := by decide +kernel
theorem dX12_arrivedNow_24 : decode cX12_arrivedNow 24 = .ok (.goto 9, 3) := by decide +kernel
theorem dX12_arrivedNow_27 : decode cX12_arrivedNow 27 = .ok (.aload_n 0, 1) := by decide +kernel
theorem dX12_arrivedNow_28 : decode cX12_arrivedNow 28 = .ok (.getfield 101, 3) := by decide +kernel
theorem dX12_arrivedNow_31 : decode cX12_arrivedNow 31 = .ok (.iload_n 1, 1) := by decide +kernel
theorem dX12_arrivedNow_32 : decode cX12_arrivedNow 32 = .ok (.iaload, 1) := by decide +kernel
theorem dX12_arrivedNow_33 : decode cX12_arrivedNow 33 = .ok (.ireturn, 1) := by decide +kernel
theorem dX12_arrived_0 : decode cX12_arrived 0 = .ok (.iload_n 2, 1) := by decide +kernel
theorem dX12_arrived_1 : decode cX12_arrived 1 = .ok (.iconst 0, 1) := by decide +kernel
theorem dX12_arrived_2 : decode cX12_arrived 2 = .ok (.iconst 2, 1) := by decide +kernel
theorem dX12_arrived_3 : decode cX12_arrived 3 = .ok (.invokestatic 130, 3) := by decide +kernel
theorem dX12_arrived_6 : decode cX12_arrived 6 = .ok (.ifCond .eq 20, 3) := by decide +kernel
theorem dX12_arrived_9 : decode cX12_arrived 9 = .ok (.aload_n 0, 1) := by decide +kernel
theorem dX12_arrived_10 : decode cX12_arrived 10 = .ok (.iload_n 1, 1) := by decide +kernel
theorem dX12_arrived_11 : decode cX12_arrived 11 = .ok (.ifCond .eq 7, 3) := by decide +kernel
theorem dX12_arrived_14 : decode cX12_arrived 14 = .ok (.iconst 1, 1) := by decide +kernel
theorem dX12_arrived_15 : decode cX12_arrived 15 = .ok (.goto 4, 3) := by decide +kernel
theorem dX12_arrived_18 : decode cX12_arrived 18 = .ok (.iconst 0, 1) := by decide +kernel
theorem dX12_arrived_19 : decode cX12_arrived 19 = .ok (.iload_n 2, 1) := by decide +kernel
theorem dX12_arrived_20 : decode cX12_arrived 20 = .ok (.invokevirtual 322, 3) := by decide +kernel
theorem dX12_arrived_23 : decode cX12_arrived 23 = .ok (.goto 5, 3) := by decide +kernel
theorem dX12_arrived_26 : decode cX12_arrived 26 = .ok (.bipush (-102), 2) := by decide +kernel
theorem dX12_arrived_28 : decode cX12_arrived 28 = .ok (.ireturn, 1) := by decide +kernel
theorem dX12_fasterNow_0 : decode cX12_fasterNow 0 = .ok (.aload_n 0, 1) := by decide +kernel
theorem dX12_fasterNow_1 : decode cX12_fasterNow 1 = .ok (.getfield 95, 3) := by decide +kernel
theorem dX12_fasterNow_4 : decode cX12_fasterNow 4 = .ok (.iconst 0, 1) := by decide +kernel
theorem dX12_fasterNow_5 : decode cX12_fasterNow 5 = .ok (.iaload, 1) := by decide +kernel
theorem dX12_fasterNow_6 : decode cX12_fasterNow 6 = .ok (.ifCond .eq 12, 3) := by decide +kernel
theorem dX12_fasterNow_9 : decode cX12_fasterNow 9 = .ok (.aload_n 0, 1) := by decide +kernel
theorem dX12_fasterNow_10 : decode cX12_fasterNow 10 = .ok (.getfield 95, 3) := by decide +kernel
theorem dX12_fasterNow_13 : decode cX12_fasterNow 13 = .ok (.iconst 1, 1) := by decide +kernel
theorem dX12_fasterNow_14 : decode cX12_fasterNow 14 = .ok (.iaload, 1) := by decide +kernel
theorem dX12_fasterNow_15 : decode cX12_fasterNow 15 = .ok (.ifCond .ne 6, 3) := by decide +kernel
theorem dX12_fasterNow_18 : decode cX12_fasterNow 18 = .ok (.bipush (-2), 2) := by decide +kernel
theorem dX12_fasterNow_20 : decode cX12_fasterNow 20 = .ok (.ireturn, 1) := by decide +kernel
theorem dX12_fasterNow_21 : decode cX12_fasterNow 21 = .ok (.aload_n 0, 1) := by decide +kernel
theorem dX12_fasterNow_22 : decode cX12_fasterNow 22 = .ok (.getfield 98, 3) := by decide +kernel
theorem dX12_fasterNow_25 : decode cX12_fasterNow 25 = .ok (.iconst 1, 1) := by decide +kernel
theorem dX12_fasterNow_26 : decode cX12_fasterNow 26 = .ok (.iaload, 1) := by decide +kernel
theorem dX12_fasterNow_27 : decode cX12_fasterNow 27 = .ok (.i2l, 1) := by decide +kernel
theorem dX12_fasterNow_28 : decode cX12_fasterNow 28 = .ok (.aload_n 0, 1) := by decide +kernel
theorem dX12_fasterNow_29 : decode cX12_fasterNow 29 = .ok (.getfield 95, 3) := by decide +kernel
theorem dX12_fasterNow_32 : decode cX12_fasterNow 32 = .ok (.iconst 0, 1) := by decide +kernel
theorem dX12_fasterNow_33 : decode cX12_fasterNow 33 = .ok (.iaload, 1) := by decide +kernel
theorem dX12_fasterNow_34 : decode cX12_fasterNow 34 = .ok (.i2l, 1) := by decide +kernel
theorem dX12_fasterNow_35 : decode cX12_fasterNow 35 = .ok (.lmul, 1) := by decide +kernel
theorem dX12_fasterNow_36 : decode cX12_fasterNow 36 = .ok (.lstore_n 1, 1) := by decide +kernel
theorem dX12_fasterNow_37 : decode cX12_fasterNow 37 = .ok (.aload_n 0, 1) := by decide +kernel
theorem dX12_fasterNow_38 : decode cX12_fasterNow 38 = .ok (.getfield 98, 3) := by decide +kernel
theorem dX12_fasterNow_41 : decode cX12_fasterNow 41 = .ok (.iconst 0, 1) := by decide +kernel
theorem dX12_fasterNow_42 : decode cX12_fasterNow 42 = .ok (.iaload, 1) := by decide +kernel
theorem dX12_fasterNow_43 : decode cX12_fasterNow 43 = .ok (.i2l, 1) := by decide +kernel
theorem dX12_fasterNow_44 : decode cX12_fasterNow 44 = .ok (.aload_n 0, 1) := by decide +kernel
theorem dX12_fasterNow_45 : decode cX12_fasterNow 45 = .ok (.getfield 95, 3) := by decide +kernel
theorem dX12_fasterNow_48 : decode cX12_fasterNow 48 = .ok (.iconst 1, 1) := by decide +kernel
theorem dX12_fasterNow_49 : decode cX12_fasterNow 49 = .ok (.iaload, 1) := by decide +kernel
theorem dX12_fasterNow_50 : decode cX12_fasterNow 50 = .ok (.i2l, 1) := by decide +kernel
theorem dX12_fasterNow_51 : decode cX12_fasterNow 51 = .ok (.lmul, 1) := by decide +kernel
theorem dX12_fasterNow_52 : decode cX12_fasterNow 52 = .ok (.lstore_n 3, 1) := by decide +kernel
theorem dX12_fasterNow_53 : decode cX12_fasterNow 53 = .ok (.lload_n 1, 1) := by decide +kernel
theorem dX12_fasterNow_54 : decode cX12_fasterNow 54 = .ok (.lload_n 3, 1) := by decide +kernel
theorem dX12_fasterNow_55 : decode cX12_fasterNow 55 = .ok (.lcmp, 1) := by decide +kernel
theorem dX12_fasterNow_56 : decode cX12_fasterNow 56 = .ok (.ifCond .ge 7, 3) := by decide +kernel
theorem dX12_fasterNow_59 : decode cX12_fasterNow 59 = .ok (.iconst 1, 1) := by decide +kernel
theorem dX12_fasterNow_60 : decode cX12_fasterNow 60 = .ok (.goto 14, 3) := by decide +kernel
theorem dX12_fasterNow_63 : decode cX12_fasterNow 63 = .ok (.lload_n 1, 1) := by decide +kernel
theorem dX12_fasterNow_64 : decode cX12_fasterNow 64 = .ok (.lload_n 3, 1) := by decide +kernel
theorem dX12_fasterNow_65 : decode cX12_fasterNow 65 = .ok (.lcmp, 1) := by decide +kernel
theorem dX12_fasterNow_66 : decode cX12_fasterNow 66 = .ok (.ifCond .ne 7, 3) := by decide +kernel
theorem dX12_fasterNow_69 : decode cX12_fasterNow 69 = .ok (.iconst 0, 1) := by decide +kernel
theorem dX12_fasterNow_70 : decode cX12_fasterNow 70 = .ok (.goto 4, 3) := by decide +kernel
theorem dX12_fasterNow_73 : decode cX12_fasterNow 73 = .ok (.iconst (-1), 1) := by decide +kernel
theorem dX12_fasterNow_74 : decode cX12_fasterNow 74 = .ok (.ireturn, 1) := by decide +kernel
theorem dX12_faster_0 : decode cX12_faster 0 = .ok (.aload_n 0, 1) := by decide +kernel
theorem dX12_faster_1 : decode cX12_faster 1 = .ok (.invokevirtual 325, 3) := by decide +kernel
theorem dX12_faster_4 : decode cX12_faster 4 = .ok (.ireturn, 1) := by decide +kernel
theorem dX12_leave_0 : decode cX12_leave 0 = .ok (.aload_n 0, 1) := by decide +kernel
theorem dX12_leave_1 : decode cX12_leave 1 = .ok (.getfield 62, 3) := by decide +kernel
theorem dX12_leave_4 : decode cX12_leave 4 = .ok (.iload_n 1, 1) := by decide +kernel
theorem dX12_leave_5 : decode cX12_leave 5 = .ok (.iaload, 1) := by decide +kernel
theorem dX12_leave_6 : decode cX12_leave 6 = .ok (.istore_n 2, 1) := by decide +kernel
theorem dX12_leave_7 : decode cX12_leave 7 = .ok (.aload_n 0, 1) := by decide +kernel
theorem dX12_leave_8 : decode cX12_leave 8 = .ok (.getfield 47, 3) := by decide +kernel
theorem dX12_leave_11 : decode cX12_leave 11 = .ok (.iload_n 1, 1) := by decide +kernel
theorem dX12_leave_12 : decode cX12_leave 12 = .ok (.iaload, 1) := by decide +kernel
theorem dX12_leave_13 : decode cX12_leave 13 = .ok (.ifCond .le 16, 3) := by decide +kernel
theorem dX12_leave_16 : decode cX12_leave 16 = .ok (.aload_n 0, 1) := by decide +kernel
theorem dX12_leave_17 : decode cX12_leave 17 = .ok (.getfield 50, 3) := by decide +kernel
theorem dX12_leave_20 : decode cX12_leave 20 = .ok (.iload_n 1, 1) := by decide +kernel
theorem dX12_leave_21 : decode cX12_leave 21 = .ok (.iaload, 1) := by decide +kernel
theorem dX12_leave_22 : decode cX12_leave 22 = .ok (.ifCond .le 7, 3) := by decide +kernel
theorem dX12_leave_25 : decode cX12_leave 25 = .ok (.iconst 1, 1) := by decide +kernel
theorem dX12_leave_26 : decode cX12_leave 26 = .ok (.goto 4, 3) := by decide +kernel
theorem dX12_leave_29 : decode cX12_leave 29 = .ok (.iconst 0, 1) := by decide +kernel
theorem dX12_leave_30 : decode cX12_leave 30 = .ok (.istore_n 3, 1) := by decide +kernel
theorem dX12_leave_31 : decode cX12_leave 31 = .ok (.iload_n 2, 1) := by decide +kernel
theorem dX12_leave_32 : decode cX12_leave 32 = .ok (.iconst (-1), 1) := by decide +kernel
theorem dX12_leave_33 : decode cX12_leave 33 = .ok (.if_icmp .ne 7, 3) := by decide +kernel
theorem dX12_leave_36 : decode cX12_leave 36 = .ok (.iconst 0, 1) := by decide +kernel
theorem dX12_leave_37 : decode cX12_leave 37 = .ok (.goto 23, 3) := by decide +kernel
theorem dX12_leave_40 : decode cX12_leave 40 = .ok (.aload_n 0, 1) := by decide +kernel
theorem dX12_leave_41 : decode cX12_leave 41 = .ok (.getfield 56, 3) := by decide +kernel
theorem dX12_leave_44 : decode cX12_leave 44 = .ok (.iload_n 2, 1) := by decide +kernel
theorem dX12_leave_45 : decode cX12_leave 45 = .ok (.iaload, 1) := by decide +kernel
theorem dX12_leave_46 : decode cX12_leave 46 = .ok (.iconst 3, 1) := by decide +kernel
theorem dX12_leave_47 : decode cX12_leave 47 = .ok (.if_icmp .le 7, 3) := by decide +kernel
theorem dX12_leave_50 : decode cX12_leave 50 = .ok (.iconst 3, 1) := by decide +kernel
theorem dX12_leave_51 : decode cX12_leave 51 = .ok (.goto 9, 3) := by decide +kernel
theorem dX12_leave_54 : decode cX12_leave 54 = .ok (.aload_n 0, 1) := by decide +kernel
theorem dX12_leave_55 : decode cX12_leave 55 = .ok (.getfield 56, 3) := by decide +kernel
theorem dX12_leave_58 : decode cX12_leave 58 = .ok (.iload_n 2, 1) := by decide +kernel
theorem dX12_leave_59 : decode cX12_leave 59 = .ok (.iaload, 1) := by decide +kernel
theorem dX12_leave_60 : decode cX12_leave 60 = .ok (.istore 4, 2) := by decide +kernel
theorem dX12_leave_62 : decode cX12_leave 62 = .ok (.iload_n 3, 1) := by decide +kernel
theorem dX12_leave_63 : decode cX12_leave 63 = .ok (.ifCond .ne 9, 3) := by decide +kernel
theorem dX12_leave_66 : decode cX12_leave 66 = .ok (.iload 4, 2) := by decide +kernel
theorem dX12_leave_68 : decode cX12_leave 68 = .ok (.ifCond .ne 4, 3) := by decide +kernel
theorem dX12_leave_71 : decode cX12_leave 71 = .ok (.return_, 1) := by decide +kernel
theorem dX12_leave_72 : decode cX12_leave 72 = .ok (.iload_n 3, 1) := by decide +kernel
theorem dX12_leave_73 : decode cX12_leave 73 = .ok (.ifCond .eq 23, 3) := by decide +kernel
theorem dX12_leave_76 : decode cX12_leave 76 = .ok (.aload_n 0, 1) := by decide +kernel
theorem dX12_leave_77 : decode cX12_leave 77 = .ok (.getfield 47, 3) := by decide +kernel
theorem dX12_leave_80 : decode cX12_leave 80 = .ok (.iload_n 1, 1) := by decide +kernel
theorem dX12_leave_81 : decode cX12_leave 81 = .ok (.dup2, 1) := by decide +kernel
theorem dX12_leave_82 : decode cX12_leave 82 = .ok (.iaload, 1) := by decide +kernel
theorem dX12_leave_83 : decode cX12_leave 83 = .ok (.iconst 1, 1) := by decide +kernel
theorem dX12_leave_84 : decode cX12_leave 84 = .ok (.isub, 1) := by decide +kernel
theorem dX12_leave_85 : decode cX12_leave 85 = .ok (.iastore, 1) := by decide +kernel
theorem dX12_leave_86 : decode cX12_leave 86 = .ok (.aload_n 0, 1) := by decide +kernel
theorem dX12_leave_87 : decode cX12_leave 87 = .ok (.getfield 50, 3) := by decide +kernel
theorem dX12_leave_90 : decode cX12_leave 90 = .ok (.iload_n 1, 1) := by decide +kernel
theorem dX12_leave_91 : decode cX12_leave 91 = .ok (.dup2, 1) := by decide +kernel
theorem dX12_leave_92 : decode cX12_leave 92 = .ok (.iaload, 1) := by decide +kernel
theorem dX12_leave_93 : decode cX12_leave 93 = .ok (.iconst 1, 1) := by decide +kernel
theorem dX12_leave_94 : decode cX12_leave 94 = .ok (.isub, 1) := by decide +kernel
theorem dX12_leave_95 : decode cX12_leave 95 = .ok (.iastore, 1) := by decide +kernel
theorem dX12_leave_96 : decode cX12_leave 96 = .ok (.iload 4, 2) := by decide +kernel
theorem dX12_leave_98 : decode cX12_leave 98 = .ok (.ifCond .le 14, 3) := by decide +kernel
theorem dX12_leave_101 : decode cX12_leave 101 = .ok (.aload_n 0, 1) := by decide +kernel
theorem dX12_leave_102 : decode cX12_leave 102 = .ok (.getfield 56, 3) := by decide +kernel
theorem dX12_leave_105 : decode cX12_leave 105 = .ok (.iload_n 2, 1) := by decide +kernel
theorem dX12_leave_106 : decode cX12_leave 106 = .ok (.dup2, 1) := by decide +kernel
theorem dX12_leave_107 : decode cX12_leave 107 = .ok (.iaload, 1) := by decide +kernel
theorem dX12_leave_108 : decode cX12_leave 108 = .ok (.iload 4, 2) := by decide +kernel
theorem dX12_leave_110 : decode cX12_leave 110 = .ok (.isub, 1) := by decide +kernel
theorem dX12_leave_111 : decode cX12_leave 111 = .ok (.iastore, 1) := by decide +kernel
theorem dX12_leave_112 : decode cX12_leave 112 = .ok (.aload_n 0, 1) := by decide +kernel
theorem dX12_leave_113 : decode cX12_leave 113 = .ok (.getfield 68, 3) := by decide +kernel
theorem dX12_leave_116 : decode cX12_leave 116 = .ok (.aload_n 0, 1) := by decide +kernel
theorem dX12_leave_117 : decode cX12_leave 117 = .ok (.getfield 191, 3) := by decide +kernel
theorem dX12_leave_120 : decode cX12_leave 120 = .ok (.iload_n 1, 1) := by decide +kernel
theorem dX12_leave_121 : decode cX12_leave 121 = .ok (.iastore, 1) := by decide +kernel
theorem dX12_leave_122 : decode cX12_leave 122 = .ok (.aload_n 0, 1) := by decide +kernel
theorem dX12_leave_123 : decode cX12_leave 123 = .ok (.getfield 71, 3) := by decide +kernel
theorem dX12_leave_126 : decode cX12_leave 126 = .ok (.aload_n 0, 1) := by decide +kernel
theorem dX12_leave_127 : decode cX12_leave 127 = .ok (.getfield 191, 3) := by decide +kernel
theorem dX12_leave_130 : decode cX12_leave 130 = .ok (.aload_n 0, 1) := by decide +kernel
theorem dX12_leave_131 : decode cX12_leave 131 = .ok (.getfield 188, 3) := by decide +kernel
theorem dX12_leave_134 : decode cX12_leave 134 = .ok (.iastore, 1) := by decide +kernel
theorem dX12_leave_135 : decode cX12_leave 135 = .ok (.aload_n 0, 1) := by decide +kernel
theorem dX12_leave_136 : decode cX12_leave 136 = .ok (.getfield 74, 3) := by decide +kernel
theorem dX12_leave_139 : decode cX12_leave 139 = .ok (.aload_n 0, 1) := by decide +kernel
theorem dX12_leave_140 : decode cX12_leave 140 = .ok (.getfield 191, 3) := by decide +kernel
theorem dX12_leave_143 : decode cX12_leave 143 = .ok (.iload_n 3, 1) := by decide +kernel
theorem dX12_leave_144 : decode cX12_leave 144 = .ok (.ifCond .eq 7, 3) := by decide +kernel
theorem dX12_leave_147 : decode cX12_leave 147 = .ok (.iconst 1, 1) := by decide +kernel
theorem dX12_leave_148 : decode cX12_leave 148 = .ok (.goto 4, 3) := by decide +kernel
theorem dX12_leave_151 : decode cX12_leave 151 = .ok (.iconst 0, 1) := by decide +kernel
theorem dX12_leave_152 : decode cX12_leave 152 = .ok (.iastore, 1) := by decide +kernel
theorem dX12_leave_153 : decode cX12_leave 153 = .ok (.aload_n 0, 1) := by decide +kernel
theorem dX12_leave_154 : decode cX12_leave 154 = .ok (.getfield 77, 3) := by decide +kernel
theorem dX12_leave_157 : decode cX12_leave 157 = .ok (.aload_n 0, 1) := by decide +kernel
theorem dX12_leave_158 : decode cX12_leave 158 = .ok (.getfield 191, 3) := by decide +kernel
theorem dX12_leave_161 : decode cX12_leave 161 = .ok (.iload 4, 2) := by decide +kernel
theorem dX12_leave_163 : decode cX12_leave 163 = .ok (.iastore, 1) := by decide +kernel
theorem dX12_leave_164 : decode cX12_leave 164 = .ok (.aload_n 0, 1) := by decide +kernel
theorem dX12_leave_165 : decode cX12_leave 165 = .ok (.dup, 1) := by decide +kernel
theorem dX12_leave_166 : decode cX12_leave 166 = .ok (.getfield 191, 3) := by decide +kernel
theorem dX12_leave_169 : decode cX12_leave 169 = .ok (.iconst 1, 1) := by decide +kernel
theorem dX12_leave_170 : decode cX12_leave 170 = .ok (.iadd, 1) := by decide +kernel
theorem dX12_leave_171 : decode cX12_leave 171 = .ok (.putfield 191, 3) := by decide +kernel
theorem dX12_leave_174 : decode cX12_leave 174 = .ok (.return_, 1) := by decide +kernel
theorem dX12_linkOf_0 : decode cX12_linkOf 0 = .ok (.aload_n 0, 1) := by decide +kernel
theorem dX12_linkOf_1 : decode cX12_linkOf 1 = .ok (.getfield 41, 3) := by decide +kernel
theorem dX12_linkOf_4 : decode cX12_linkOf 4 = .ok (.bipush 8, 2) := by decide +kernel
theorem dX12_linkOf_6 : decode cX12_linkOf 6 = .ok (.aload_n 0, 1) := by decide +kernel
theorem dX12_linkOf_7 : decode cX12_linkOf 7 = .ok (.getfield 68, 3) := by decide +kernel
theorem dX12_linkOf_10 : decode cX12_linkOf 10 = .ok (.iload_n 1, 1) := by decide +kernel
theorem dX12_linkOf_11 : decode cX12_linkOf 11 = .ok (.iaload, 1) := by decide +kernel
theorem dX12_linkOf_12 : decode cX12_linkOf 12 = .ok (.imul, 1) := by decide +kernel
theorem dX12_linkOf_13 : decode cX12_linkOf 13 = .ok (.aload_n 0, 1) := by decide +kernel
theorem dX12_linkOf_14 : decode cX12_linkOf 14 = .ok (.getfield 188, 3) := by decide +kernel
theorem dX12_linkOf_17 : decode cX12_linkOf 17 = .ok (.iadd, 1) := by decide +kernel
theorem dX12_linkOf_18 : decode cX12_linkOf 18 = .ok (.aload_n 0, 1) := by decide +kernel
theorem dX12_linkOf_19 : decode cX12_linkOf 19 = .ok (.getfield 71, 3) := by decide +kernel
theorem dX12_linkOf_22 : decode cX12_linkOf 22 = .ok (.iload_n 1, 1) := by decide +kernel
theorem dX12_linkOf_23 : decode cX12_linkOf 23 = .ok (.iaload, 1) := by decide +kernel
theorem dX12_linkOf_24 : decode cX12_linkOf 24 = .ok (.isub, 1) := by decide +kernel
theorem dX12_linkOf_25 : decode cX12_linkOf 25 = .ok (.iaload, 1) := by decide +kernel
theorem dX12_linkOf_26 : decode cX12_linkOf 26 = .ok (.ireturn, 1) := by decide +kernel
theorem dX12_isLetterOn_0 : decode cX12_isLetterOn 0 = .ok (.iconst 0, 1) := by decide +kernel
theorem dX12_isLetterOn_1 : decode cX12_isLetterOn 1 = .ok (.istore_n 2, 1) := by decide +kernel
theorem dX12_isLetterOn_2 : decode cX12_isLetterOn 2 = .ok (.iconst 0, 1) := by decide +kernel
theorem dX12_isLetterOn_3 : decode cX12_isLetterOn 3 = .ok (.istore_n 3, 1) := by decide +kernel
theorem dX12_isLetterOn_4 : decode cX12_isLetterOn 4 = .ok (.iload_n 3, 1) := by decide +kernel
theorem dX12_isLetterOn_5 : decode cX12_isLetterOn 5 = .ok (.aload_n 0, 1) := by decide +kernel
theorem dX12_isLetterOn_6 : decode cX12_isLetterOn 6 = .ok (.getfield 191, 3) := by decide +kernel
theorem dX12_isLetterOn_9 : decode cX12_isLetterOn 9 = .ok (.if_icmp .ge 28, 3) := by decide +kernel
theorem dX12_isLetterOn_12 : decode cX12_isLetterOn 12 = .ok (.iload_n 2, 1) := by decide +kernel
theorem dX12_isLetterOn_13 : decode cX12_isLetterOn 13 = .ok (.ifCond .ne 12, 3) := by decide +kernel
theorem dX12_isLetterOn_16 : decode cX12_isLetterOn 16 = .ok (.aload_n 0, 1) := by decide +kernel
theorem dX12_isLetterOn_17 : decode cX12_isLetterOn 17 = .ok (.iload_n 3, 1) := by decide +kernel
theorem dX12_isLetterOn_18 : decode cX12_isLetterOn 18 = .ok (.invokevirtual 328, 3) := by decide +kernel
theorem dX12_isLetterOn_21 : decode cX12_isLetterOn 21 = .ok (.iload_n 1, 1) := by decide +kernel
theorem dX12_isLetterOn_22 : decode cX12_isLetterOn 22 = .ok (.if_icmp .ne 7, 3) := by decide +kernel
theorem dX12_isLetterOn_25 : decode cX12_isLetterOn 25 = .ok (.iconst 1, 1) := by decide +kernel
theorem dX12_isLetterOn_26 : decode cX12_isLetterOn 26 = .ok (.goto 4, 3) := by decide +kernel
theorem dX12_isLetterOn_29 : decode cX12_isLetterOn 29 = .ok (.iconst 0, 1) := by decide +kernel
theorem dX12_isLetterOn_30 : decode cX12_isLetterOn 30 = .ok (.istore_n 2, 1) := by decide +kernel
theorem dX12_isLetterOn_31 : decode cX12_isLetterOn 31 = .ok (.iinc 3 1, 3) := by decide +kernel
theorem dX12_isLetterOn_34 : decode cX12_isLetterOn 34 = .ok (.goto (-30), 3) := by decide +kernel
theorem dX12_isLetterOn_37 : decode cX12_isLetterOn 37 = .ok (.iload_n 2, 1) := by decide +kernel
theorem dX12_isLetterOn_38 : decode cX12_isLetterOn 38 = .ok (.ireturn, 1) := by decide +kernel
theorem dX12_isShut_0 : decode cX12_isShut 0 = .ok (.aload_n 0, 1) := by decide +kernel
theorem dX12_isShut_1 : decode cX12_isShut 1 = .ok (.iload_n 1, 1) := by decide +kernel
theorem dX12_isShut_2 : decode cX12_isShut 2 = .ok (.aload_n 0, 1) := by decide +kernel
theorem dX12_isShut_3 : decode cX12_isShut 3 = .ok (.getfield 188, 3) := by decide +kernel
theorem dX12_isShut_6 : decode cX12_isShut 6 = .ok (.aload_n 0, 1) := by decide +kernel
theorem dX12_isShut_7 : decode cX12_isShut 7 = .ok (.getfield 185, 3) := by decide +kernel
theorem dX12_isShut_10 : decode cX12_isShut 10 = .ok (.irem, 1) := by decide +kernel
theorem dX12_isShut_11 : decode cX12_isShut 11 = .ok (.iconst (-1), 1) := by decide +kernel
theorem dX12_isShut_12 : decode cX12_isShut 12 = .ok (.invokevirtual 206, 3) := by decide +kernel
theorem dX12_isShut_15 : decode cX12_isShut 15 = .ok (.istore_n 2, 1) := by decide +kernel
theorem dX12_isShut_16 : decode cX12_isShut 16 = .ok (.aload_n 0, 1) := by decide +kernel
theorem dX12_isShut_17 : decode cX12_isShut 17 = .ok (.getfield 7, 3) := by decide +kernel
theorem dX12_isShut_20 : decode cX12_isShut 20 = .ok (.iload_n 1, 1) := by decide +kernel
theorem dX12_isShut_21 : decode cX12_isShut 21 = .ok (.baload, 1) := by decide +kernel
theorem dX12_isShut_22 : decode cX12_isShut 22 = .ok (.ifCond .ne 26, 3) := by decide +kernel
theorem dX12_isShut_25 : decode cX12_isShut 25 = .ok (.aload_n 0, 1) := by decide +kernel
theorem dX12_isShut_26 : decode cX12_isShut 26 = .ok (.iload_n 1, 1) := by decide +kernel
theorem dX12_isShut_27 : decode cX12_isShut 27 = .ok (.invokevirtual 331, 3) := by decide +kernel
theorem dX12_isShut_30 : decode cX12_isShut 30 = .ok (.ifCond .ne 18, 3) := by decide +kernel
theorem dX12_isShut_33 : decode cX12_isShut 33 = .ok (.iload_n 2, 1) := by decide +kernel
theorem dX12_isShut_34 : decode cX12_isShut 34 = .ok (.iconst (-1), 1) := by decide +kernel
theorem dX12_isShut_35 : decode cX12_isShut 35 = .ok (.if_icmp .eq 17, 3) := by decide +kernel
theorem dX12_isShut_38 : decode cX12_isShut 38 = .ok (.aload_n 0, 1) := by decide +kernel
theorem dX12_isShut_39 : decode cX12_isShut 39 = .ok (.getfield 23, 3) := by decide +kernel
theorem dX12_isShut_42 : decode cX12_isShut 42 = .ok (.iload_n 2, 1) := by decide +kernel
theorem dX12_isShut_43 : decode cX12_isShut 43 = .ok (.iaload, 1) := by decide +kernel
theorem dX12_isShut_44 : decode cX12_isShut 44 = .ok (.iconst 4, 1) := by decide +kernel
theorem dX12_isShut_45 : decode cX12_isShut 45 = .ok (.if_icmp .ne 7, 3) := by decide +kernel
theorem dX12_isShut_48 : decode cX12_isShut 48 = .ok (.iconst 1, 1) := by decide +kernel
theorem dX12_isShut_49 : decode cX12_isShut 49 = .ok (.goto 4, 3) := by decide +kernel
theorem dX12_isShut_52 : decode cX12_isShut 52 = .ok (.iconst 0, 1) := by decide +kernel
theorem dX12_isShut_53 : decode cX12_isShut 53 = .ok (.ireturn, 1) := by decide +kernel
theorem dX12_goesOn_0 : decode cX12_goesOn 0 = .ok (.iconst (-1), 1) := by decide +kernel
theorem dX12_goesOn_1 : decode cX12_goesOn 1 = .ok (.istore_n 2, 1) := by decide +kernel
theorem dX12_goesOn_2 : decode cX12_goesOn 2 = .ok (.aload_n 0, 1) := by decide +kernel
theorem dX12_goesOn_3 : decode cX12_goesOn 3 = .ok (.getfield 194, 3) := by decide +kernel
theorem dX12_goesOn_6 : decode cX12_goesOn 6 = .ok (.iconst 1, 1) := by decide +kernel
theorem dX12_goesOn_7 : decode cX12_goesOn 7 = .ok (.isub, 1) := by decide +kernel
theorem dX12_goesOn_8 : decode cX12_goesOn 8 = .ok (.istore_n 3, 1) := by decide +kernel
theorem dX12_goesOn_9 : decode cX12_goesOn 9 = .ok (.iload_n 3, 1) := by decide +kernel
theorem dX12_goesOn_10 : decode cX12_goesOn 10 = .ok (.ifCond .lt 60, 3) := by decide +kernel
theorem dX12_goesOn_13 : decode cX12_goesOn 13 = .ok (.iload_n 2, 1) := by decide +kernel
theorem dX12_goesOn_14 : decode cX12_goesOn 14 = .ok (.iconst (-1), 1) := by decide +kernel
theorem dX12_goesOn_15 : decode cX12_goesOn 15 = .ok (.if_icmp .eq 21, 3) := by decide +kernel
theorem dX12_goesOn_18 : decode cX12_goesOn 18 = .ok (.aload_n 0, 1) := by decide +kernel
theorem dX12_goesOn_19 : decode cX12_goesOn 19 = .ok (.getfield 86, 3) := by decide +kernel
theorem dX12_goesOn_22 : decode cX12_goesOn 22 = .ok (.iload_n 3, 1) := by decide +kernel
theorem dX12_goesOn_23 : decode cX12_goesOn 23 = .ok (.baload, 1) := by decide +kernel
theorem dX12_goesOn_24 : decode cX12_goesOn 24 = .ok (.ifCond .ne 12, 3) := by decide +kernel
theorem dX12_goesOn_27 : decode cX12_goesOn 27 = .ok (.aload_n 0, 1) := by decide +kernel
theorem dX12_goesOn_28 : decode cX12_goesOn 28 = .ok (.getfield 86, 3) := by decide +kernel
theorem dX12_goesOn_31 : decode cX12_goesOn 31 = .ok (.iload_n 2, 1) := by decide +kernel
theorem dX12_goesOn_32 : decode cX12_goesOn 32 = .ok (.baload, 1) := by decide +kernel
theorem dX12_goesOn_33 : decode cX12_goesOn 33 = .ok (.ifCond .ne 7, 3) := by decide +kernel
theorem dX12_goesOn_36 : decode cX12_goesOn 36 = .ok (.iconst 1, 1) := by decide +kernel
theorem dX12_goesOn_37 : decode cX12_goesOn 37 = .ok (.goto 4, 3) := by decide +kernel
theorem dX12_goesOn_40 : decode cX12_goesOn 40 = .ok (.iconst 0, 1) := by decide +kernel
theorem dX12_goesOn_41 : decode cX12_goesOn 41 = .ok (.istore 4, 2) := by decide +kernel
theorem dX12_goesOn_43 : decode cX12_goesOn 43 = .ok (.aload_n 0, 1) := by decide +kernel
theorem dX12_goesOn_44 : decode cX12_goesOn 44 = .ok (.getfield 113, 3) := by decide +kernel
theorem dX12_goesOn_47 : decode cX12_goesOn 47 = .ok (.iload_n 3, 1) := by decide +kernel
theorem dX12_goesOn_48 : decode cX12_goesOn 48 = .ok (.iaload, 1) := by decide +kernel
theorem dX12_goesOn_49 : decode cX12_goesOn 49 = .ok (.iload_n 1, 1) := by decide +kernel
theorem dX12_goesOn_50 : decode cX12_goesOn 50 = .ok (.if_icmp .ne 12, 3) := by decide +kernel
theorem dX12_goesOn_53 : decode cX12_goesOn 53 = .ok (.iload 4, 2) := by decide +kernel
theorem dX12_goesOn_55 : decode cX12_goesOn 55 = .ok (.ifCond .eq 7, 3) := by decide +kernel
theorem dX12_goesOn_58 : decode cX12_goesOn 58 = .ok (.iload_n 3, 1) := by decide +kernel
theorem dX12_goesOn_59 : decode cX12_goesOn 59 = .ok (.goto 4, 3) := by decide +kernel
theorem dX12_goesOn_62 : decode cX12_goesOn 62 = .ok (.iload_n 2, 1) := by decide +kernel
theorem dX12_goesOn_63 : decode cX12_goesOn 63 = .ok (.istore_n 2, 1) := by decide +kernel
theorem dX12_goesOn_64 : decode cX12_goesOn 64 = .ok (.iinc 3 (-1), 3) := by decide +kernel
theorem dX12_goesOn_67 : decode cX12_goesOn 67 = .ok (.goto (-58), 3) := by decide +kernel
theorem dX12_goesOn_70 : decode cX12_goesOn 70 = .ok (.iload_n 2, 1) := by decide +kernel
theorem dX12_goesOn_71 : decode cX12_goesOn 71 = .ok (.ireturn, 1) := by decide +kernel
theorem dX12_moveStrays_0 : decode cX12_moveStrays 0 = .ok (.iconst 0, 1) := by decide +kernel
theorem dX12_moveStrays_1 : decode cX12_moveStrays 1 = .ok (.istore_n 1, 1) := by decide +kernel
theorem dX12_moveStrays_2 : decode cX12_moveStrays 2 = .ok (.iload_n 1, 1) := by decide +kernel
theorem dX12_moveStrays_3 : decode cX12_moveStrays 3 = .ok (.aload_n 0, 1) := by decide +kernel
theorem dX12_moveStrays_4 : decode cX12_moveStrays 4 = .ok (.getfield 194, 3) := by decide +kernel
theorem dX12_moveStrays_7 : decode cX12_moveStrays 7 = .ok (.if_icmp .ge 27, 3) := by decide +kernel
theorem dX12_moveStrays_10 : decode cX12_moveStrays 10 = .ok (.aload_n 0, 1) := by decide +kernel
theorem dX12_moveStrays_11 : decode cX12_moveStrays 11 = .ok (.getfield 113, 3) := by decide +kernel
theorem dX12_moveStrays_14 : decode cX12_moveStrays 14 = .ok (.iload_n 1, 1) := by decide +kernel
theorem dX12_moveStrays_15 : decode cX12_moveStrays 15 = .ok (.aload_n 0, 1) := by decide +kernel
theorem dX12_moveStrays_16 : decode cX12_moveStrays 16 = .ok (.iload_n 1, 1) := by decide +kernel
theorem dX12_moveStrays_17 : decode cX12_moveStrays 17 = .ok (.invokevirtual 316, 3) := by decide +kernel
theorem dX12_moveStrays_20 : decode cX12_moveStrays 20 = .ok (.iastore, 1) := by decide +kernel
theorem dX12_moveStrays_21 : decode cX12_moveStrays 21 = .ok (.aload_n 0, 1) := by decide +kernel
theorem dX12_moveStrays_22 : decode cX12_moveStrays 22 = .ok (.getfield 116, 3) := by decide +kernel
theorem dX12_moveStrays_25 : decode cX12_moveStrays 25 = .ok (.iload_n 1, 1) := by decide +kernel
theorem dX12_moveStrays_26 : decode cX12_moveStrays 26 = .ok (.iconst 0, 1) := by decide +kernel
theorem dX12_moveStrays_27 : decode cX12_moveStrays 27 = .ok (.bastore, 1) := by decide +kernel
theorem dX12_moveStrays_28 : decode cX12_moveStrays 28 = .ok (.iinc 1 1, 3) := by decide +kernel
theorem dX12_moveStrays_31 : decode cX12_moveStrays 31 = .ok (.goto (-29), 3) := by decide +kernel
theorem dX12_moveStrays_34 : decode cX12_moveStrays 34 = .ok (.iconst 0, 1) := by decide +kernel
theorem dX12_moveStrays_35 : decode cX12_moveStrays 35 = .ok (.istore_n 1, 1) := by decide +kernel
theorem dX12_moveStrays_36 : decode cX12_moveStrays 36 = .ok (.iload_n 1, 1) := by decide +kernel
theorem dX12_moveStrays_37 : decode cX12_moveStrays 37 = .ok (.bipush 54, 2) := by decide +kernel
theorem dX12_moveStrays_39 : decode cX12_moveStrays 39 = .ok (.if_icmp .ge 45, 3) := by decide +kernel
theorem dX12_moveStrays_42 : decode cX12_moveStrays 42 = .ok (.aload_n 0, 1) := by decide +kernel
theorem dX12_moveStrays_43 : decode cX12_moveStrays 43 = .ok (.iload_n 1, 1) := by decide +kernel
theorem dX12_moveStrays_44 : decode cX12_moveStrays 44 = .ok (.invokevirtual 334, 3) := by decide +kernel
theorem dX12_moveStrays_47 : decode cX12_moveStrays 47 = .ok (.istore_n 2, 1) := by decide +kernel
theorem dX12_moveStrays_48 : decode cX12_moveStrays 48 = .ok (.iload_n 2, 1) := by decide +kernel
theorem dX12_moveStrays_49 : decode cX12_moveStrays 49 = .ok (.iconst (-1), 1) := by decide +kernel
theorem dX12_moveStrays_50 : decode cX12_moveStrays 50 = .ok (.if_icmp .eq 28, 3) := by decide +kernel
theorem dX12_moveStrays_53 : decode cX12_moveStrays 53 = .ok (.aload_n 0, 1) := by decide +kernel
theorem dX12_moveStrays_54 : decode cX12_moveStrays 54 = .ok (.iload_n 1, 1) := by decide +kernel
theorem dX12_moveStrays_55 : decode cX12_moveStrays 55 = .ok (.invokevirtual 337, 3) := by decide +kernel
theorem dX12_moveStrays_58 : decode cX12_moveStrays 58 = .ok (.ifCond .ne 20, 3) := by decide +kernel
theorem dX12_moveStrays_61 : decode cX12_moveStrays 61 = .ok (.aload_n 0, 1) := by decide +kernel
theorem dX12_moveStrays_62 : decode cX12_moveStrays 62 = .ok (.getfield 116, 3) := by decide +kernel
theorem dX12_moveStrays_65 : decode cX12_moveStrays 65 = .ok (.iload_n 2, 1) := by decide +kernel
theorem dX12_moveStrays_66 : decode cX12_moveStrays 66 = .ok (.iconst 1, 1) := by decide +kernel
theorem dX12_moveStrays_67 : decode cX12_moveStrays 67 = .ok (.bastore, 1) := by decide +kernel
theorem dX12_moveStrays_68 : decode cX12_moveStrays 68 = .ok (.aload_n 0, 1) := by decide +kernel
theorem dX12_moveStrays_69 : decode cX12_moveStrays 69 = .ok (.getfield 13, 3) := by decide +kernel
theorem dX12_moveStrays_72 : decode cX12_moveStrays 72 = .ok (.iload_n 1, 1) := by decide +kernel
theorem dX12_moveStrays_73 : decode cX12_moveStrays 73 = .ok (.dup2, 1) := by decide +kernel
theorem dX12_moveStrays_74 : decode cX12_moveStrays 74 = .ok (.iaload, 1) := by decide +kernel
theorem dX12_moveStrays_75 : decode cX12_moveStrays 75 = .ok (.iconst 1, 1) := by decide +kernel
theorem dX12_moveStrays_76 : decode cX12_moveStrays 76 = .ok (.iadd, 1) := by decide +kernel
theorem dX12_moveStrays_77 : decode cX12_moveStrays 77 = .ok (.iastore, 1) := by decide +kernel
theorem dX12_moveStrays_78 : decode cX12_moveStrays 78 = .ok (.iinc 1 1, 3) := by decide +kernel
theorem dX12_moveStrays_81 : decode cX12_moveStrays 81 = .ok (.goto (-45), 3) := by decide +kernel
theorem dX12_moveStrays_84 : decode cX12_moveStrays 84 = .ok (.return_, 1) := by decide +kernel
theorem dX12_arrives_0 : decode cX12_arrives 0 = .ok (.aload_n 0, 1) := by decide +kernel
theorem dX12_arrives_1 : decode cX12_arrives 1 = .ok (.getfield 86, 3) := by decide +kernel
theorem dX12_arrives_4 : decode cX12_arrives 4 = .ok (.iload_n 1, 1) := by decide +kernel
theorem dX12_arrives_5 : decode cX12_arrives 5 = .ok (.baload, 1) := by decide +kernel
theorem dX12_arrives_6 : decode cX12_arrives 6 = .ok (.ifCond .eq 7, 3) := by decide +kernel
theorem dX12_arrives_9 : decode cX12_arrives 9 = .ok (.iconst 1, 1) := by decide +kernel
theorem dX12_arrives_10 : decode cX12_arrives 10 = .ok (.goto 4, 3) := by decide +kernel
theorem dX12_arrives_13 : decode cX12_arrives 13 = .ok (.iconst 0, 1) := by decide +kernel
theorem dX12_arrives_14 : decode cX12_arrives 14 = .ok (.istore_n 2, 1) := by decide +kernel
theorem dX12_arrives_15 : decode cX12_arrives 15 = .ok (.aload_n 0, 1) := by decide +kernel
theorem dX12_arrives_16 : decode cX12_arrives 16 = .ok (.getfield 188, 3) := by decide +kernel
theorem dX12_arrives_19 : decode cX12_arrives 19 = .ok (.iconst 1, 1) := by decide +kernel
theorem dX12_arrives_20 : decode cX12_arrives 20 = .ok (.iadd, 1) := by decide +kernel
theorem dX12_arrives_21 : decode cX12_arrives 21 = .ok (.aload_n 0, 1) := by decide +kernel
theorem dX12_arrives_22 : decode cX12_arrives 22 = .ok (.getfield 92, 3) := by decide +kernel
theorem dX12_arrives_25 : decode cX12_arrives 25 = .ok (.iload_n 1, 1) := by decide +kernel
theorem dX12_arrives_26 : decode cX12_arrives 26 = .ok (.iaload, 1) := by decide +kernel
theorem dX12_arrives_27 : decode cX12_arrives 27 = .ok (.isub, 1) := by decide +kernel
theorem dX12_arrives_28 : decode cX12_arrives 28 = .ok (.istore_n 3, 1) := by decide +kernel
theorem dX12_arrives_29 : decode cX12_arrives 29 = .ok (.aload_n 0, 1) := by decide +kernel
theorem dX12_arrives_30 : decode cX12_arrives 30 = .ok (.getfield 95, 3) := by decide +kernel
theorem dX12_arrives_33 : decode cX12_arrives 33 = .ok (.iload_n 2, 1) := by decide +kernel
theorem dX12_arrives_34 : decode cX12_arrives 34 = .ok (.dup2, 1) := by decide +kernel
theorem dX12_arrives_35 : decode cX12_arrives 35 = .ok (.iaload, 1) := by decide +kernel
theorem dX12_arrives_36 : decode cX12_arrives 36 = .ok (.iconst 1, 1) := by decide +kernel
theorem dX12_arrives_37 : decode cX12_arrives 37 = .ok (.iadd, 1) := by decide +kernel
theorem dX12_arrives_38 : decode cX12_arrives 38 = .ok (.iastore, 1) := by decide +kernel
theorem dX12_arrives_39 : decode cX12_arrives 39 = .ok (.aload_n 0, 1) := by decide +kernel
theorem dX12_arrives_40 : decode cX12_arrives 40 = .ok (.getfield 98, 3) := by decide +kernel
theorem dX12_arrives_43 : decode cX12_arrives 43 = .ok (.iload_n 2, 1) := by decide +kernel
theorem dX12_arrives_44 : decode cX12_arrives 44 = .ok (.dup2, 1) := by decide +kernel
theorem dX12_arrives_45 : decode cX12_arrives 45 = .ok (.iaload, 1) := by decide +kernel
theorem dX12_arrives_46 : decode cX12_arrives 46 = .ok (.iload_n 3, 1) := by decide +kernel
theorem dX12_arrives_47 : decode cX12_arrives 47 = .ok (.iadd, 1) := by decide +kernel
theorem dX12_arrives_48 : decode cX12_arrives 48 = .ok (.iastore, 1) := by decide +kernel
theorem dX12_arrives_49 : decode cX12_arrives 49 = .ok (.aload_n 0, 1) := by decide +kernel
theorem dX12_arrives_50 : decode cX12_arrives 50 = .ok (.getfield 101, 3) := by decide +kernel
theorem dX12_arrives_53 : decode cX12_arrives 53 = .ok (.iload_n 2, 1) := by decide +kernel
theorem dX12_arrives_54 : decode cX12_arrives 54 = .ok (.iload_n 3, 1) := by decide +kernel
theorem dX12_arrives_55 : decode cX12_arrives 55 = .ok (.aload_n 0, 1) := by decide +kernel
theorem dX12_arrives_56 : decode cX12_arrives 56 = .ok (.getfield 101, 3) := by decide +kernel
theorem dX12_arrives_59 : decode cX12_arrives 59 = .ok (.iload_n 2, 1) := by decide +kernel
theorem dX12_arrives_60 : decode cX12_arrives 60 = .ok (.iaload, 1) := by decide +kernel
theorem dX12_arrives_61 : decode cX12_arrives 61 = .ok (.if_icmp .le 7, 3) := by decide +kernel
theorem dX12_arrives_64 : decode cX12_arrives 64 = .ok (.iload_n 3, 1) := by decide +kernel
theorem dX12_arrives_65 : decode cX12_arrives 65 = .ok (.goto 9, 3) := by decide +kernel
theorem dX12_arrives_68 : decode cX12_arrives 68 = .ok (.aload_n 0, 1) := by decide +kernel
theorem dX12_arrives_69 : decode cX12_arrives 69 = .ok (.getfield 101, 3) := by decide +kernel
theorem dX12_arrives_72 : decode cX12_arrives 72 = .ok (.iload_n 2, 1) := by decide +kernel
theorem dX12_arrives_73 : decode cX12_arrives 73 = .ok (.iaload, 1) := by decide +kernel
theorem dX12_arrives_74 : decode cX12_arrives 74 = .ok (.iastore, 1) := by decide +kernel
theorem dX12_arrives_75 : decode cX12_arrives 75 = .ok (.aload_n 0, 1) := by decide +kernel
theorem dX12_arrives_76 : decode cX12_arrives 76 = .ok (.dup, 1) := by decide +kernel
theorem dX12_arrives_77 : decode cX12_arrives 77 = .ok (.getfield 340, 3) := by decide +kernel
theorem dX12_arrives_80 : decode cX12_arrives 80 = .ok (.iconst 1, 1) := by decide +kernel
theorem dX12_arrives_81 : decode cX12_arrives 81 = .ok (.iadd, 1) := by decide +kernel
theorem dX12_arrives_82 : decode cX12_arrives 82 = .ok (.putfield 340, 3) := by decide +kernel
theorem dX12_arrives_85 : decode cX12_arrives 85 = .ok (.return_, 1) := by decide +kernel
theorem dX12_setStrays_0 : decode cX12_setStrays 0 = .ok (.iconst 0, 1) := by decide +kernel
theorem dX12_setStrays_1 : decode cX12_setStrays 1 = .ok (.istore_n 1, 1) := by decide +kernel
theorem dX12_setStrays_2 : decode cX12_setStrays 2 = .ok (.iconst 0, 1) := by decide +kernel
theorem dX12_setStrays_3 : decode cX12_setStrays 3 = .ok (.istore_n 2, 1) := by decide +kernel
theorem dX12_setStrays_4 : decode cX12_setStrays 4 = .ok (.iload_n 2, 1) := by decide +kernel
theorem dX12_setStrays_5 : decode cX12_setStrays 5 = .ok (.aload_n 0, 1) := by decide +kernel
theorem dX12_setStrays_6 : decode cX12_setStrays 6 = .ok (.getfield 194, 3) := by decide +kernel
theorem dX12_setStrays_9 : decode cX12_setStrays 9 = .ok (.if_icmp .ge 147, 3) := by decide +kernel
theorem dX12_setStrays_12 : decode cX12_setStrays 12 = .ok (.aload_n 0, 1) := by decide +kernel
theorem dX12_setStrays_13 : decode cX12_setStrays 13 = .ok (.getfield 113, 3) := by decide +kernel
theorem dX12_setStrays_16 : decode cX12_setStrays 16 = .ok (.iload_n 2, 1) := by decide +kernel
theorem dX12_setStrays_17 : decode cX12_setStrays 17 = .ok (.iaload, 1) := by decide +kernel
theorem dX12_setStrays_18 : decode cX12_setStrays 18 = .ok (.istore_n 3, 1) := by decide +kernel
theorem dX12_setStrays_19 : decode cX12_setStrays 19 = .ok (.aload_n 0, 1) := by decide +kernel
theorem dX12_setStrays_20 : decode cX12_setStrays 20 = .ok (.getfield 116, 3) := by decide +kernel
theorem dX12_setStrays_23 : decode cX12_setStrays 23 = .ok (.iload_n 2, 1) := by decide +kernel
theorem dX12_setStrays_24 : decode cX12_setStrays 24 = .ok (.baload, 1) := by decide +kernel
theorem dX12_setStrays_25 : decode cX12_setStrays 25 = .ok (.ifCond .eq 15, 3) := by decide +kernel
theorem dX12_setStrays_28 : decode cX12_setStrays 28 = .ok (.iload_n 3, 1) := by decide +kernel
theorem dX12_setStrays_29 : decode cX12_setStrays 29 = .ok (.bipush 6, 2) := by decide +kernel
theorem dX12_setStrays_31 : decode cX12_setStrays 31 = .ok (.irem, 1) := by decide +kernel
theorem dX12_setStrays_32 : decode cX12_setStrays 32 = .ok (.iconst 1, 1) := by decide +kernel
theorem dX12_setStrays_33 : decode cX12_setStrays 33 = .ok (.if_icmp .ne 7, 3) := by decide +kernel
theorem dX12_setStrays_36 : decode cX12_setStrays 36 = .ok (.iconst 1, 1) := by decide +kernel
theorem dX12_setStrays_37 : decode cX12_setStrays 37 = .ok (.goto 4, 3) := by decide +kernel
theorem dX12_setStrays_40 : decode cX12_setStrays 40 = .ok (.iconst 0, 1) := by decide +kernel
theorem dX12_setStrays_41 : decode cX12_setStrays 41 = .ok (.istore 4, 2) := by decide +kernel
theorem dX12_setStrays_43 : decode cX12_setStrays 43 = .ok (.iload 4, 2) := by decide +kernel
theorem dX12_setStrays_45 : decode cX12_setStrays 45 = .ok (.ifCond .eq 11, 3) := by decide +kernel
theorem dX12_setStrays_48 : decode cX12_setStrays 48 = .ok (.aload_n 0, 1) := by decide +kernel
theorem dX12_setStrays_49 : decode cX12_setStrays 49 = .ok (.iload_n 2, 1) := by decide +kernel
theorem dX12_setStrays_50 : decode cX12_setStrays 50 = .ok (.invokevirtual 343, 3) := by decide +kernel
theorem dX12_setStrays_53 : decode cX12_setStrays 53 = .ok (.goto 97, 3) := by decide +kernel
theorem dX12_setStrays_56 : decode cX12_setStrays 56 = .ok (.aload_n 0, 1) := by decide +kernel
theorem dX12_setStrays_57 : decode cX12_setStrays 57 = .ok (.getfield 89, 3) := by decide +kernel
theorem dX12_setStrays_60 : decode cX12_setStrays 60 = .ok (.iload_n 1, 1) := by decide +kernel
theorem dX12_setStrays_61 : decode cX12_setStrays 61 = .ok (.aload_n 0, 1) := by decide +kernel
theorem dX12_setStrays_62 : decode cX12_setStrays 62 = .ok (.getfield 116, 3) := by decide +kernel
theorem dX12_setStrays_65 : decode cX12_setStrays 65 = .ok (.iload_n 2, 1) := by decide +kernel
theorem dX12_setStrays_66 : decode cX12_setStrays 66 = .ok (.baload, 1) := by decide +kernel
theorem dX12_setStrays_67 : decode cX12_setStrays 67 = .ok (.ifCond .eq 25, 3) := by decide +kernel
theorem dX12_setStrays_70 : decode cX12_setStrays 70 = .ok (.iload_n 3, 1) := by decide +kernel
theorem dX12_setStrays_71 : decode cX12_setStrays 71 = .ok (.bipush 6, 2) := by decide +kernel
theorem dX12_setStrays_73 : decode cX12_setStrays 73 = .ok (.idiv, 1) := by decide +kernel
theorem dX12_setStrays_74 : decode cX12_setStrays 74 = .ok (.iload_n 3, 1) := by decide +kernel
theorem dX12_setStrays_75 : decode cX12_setStrays 75 = .ok (.bipush 6, 2) := by decide +kernel
theorem dX12_setStrays_77 : decode cX12_setStrays 77 = .ok (.irem, 1) := by decide +kernel
theorem dX12_setStrays_78 : decode cX12_setStrays 78 = .ok (.aload_n 0, 1) := by decide +kernel
theorem dX12_setStrays_79 : decode cX12_setStrays 79 = .ok (.getfield 119, 3) := by decide +kernel
theorem dX12_setStrays_82 : decode cX12_setStrays 82 = .ok (.aload_n 0, 1) := by decide +kernel
theorem dX12_setStrays_83 : decode cX12_setStrays 83 = .ok (.getfield 123, 3) := by decide +kernel
theorem dX12_setStrays_86 : decode cX12_setStrays 86 = .ok (.invokestatic 134, 3) := by decide +kernel
theorem dX12_setStrays_89 : decode cX12_setStrays 89 = .ok (.goto 9, 3) := by decide +kernel
theorem dX12_setStrays_92 : decode cX12_setStrays 92 = .ok (.aload_n 0, 1) := by decide +kernel
theorem dX12_setStrays_93 : decode cX12_setStrays 93 = .ok (.getfield 89, 3) := by decide +kernel
theorem dX12_setStrays_96 : decode cX12_setStrays 96 = .ok (.iload_n 2, 1) := by decide +kernel
theorem dX12_setStrays_97 : decode cX12_setStrays 97 = .ok (.iaload, 1) := by decide +kernel
theorem dX12_setStrays_98 : decode cX12_setStrays 98 = .ok (.iastore, 1) := by decide +kernel
theorem dX12_setStrays_99 : decode cX12_setStrays 99 = .ok (.aload_n 0, 1) := by decide +kernel
theorem dX12_setStrays_100 : decode cX12_setStrays 100 = .ok (.getfield 80, 3) := by decide +kernel
theorem dX12_setStrays_103 : decode cX12_setStrays 103 = .ok (.iload_n 1, 1) := by decide +kernel
theorem dX12_setStrays_104 : decode cX12_setStrays 104 = .ok (.aload_n 0, 1) := by decide +kernel
theorem dX12_setStrays_105 : decode cX12_setStrays 105 = .ok (.getfield 80, 3) := by decide +kernel
theorem dX12_setStrays_108 : decode cX12_setStrays 108 = .ok (.iload_n 2, 1) := by decide +kernel
theorem dX12_setStrays_109 : decode cX12_setStrays 109 = .ok (.iaload, 1) := by decide +kernel
theorem dX12_setStrays_110 : decode cX12_setStrays 110 = .ok (.iastore, 1) := by decide +kernel
theorem dX12_setStrays_111 : decode cX12_setStrays 111 = .ok (.aload_n 0, 1) := by decide +kernel
theorem dX12_setStrays_112 : decode cX12_setStrays 112 = .ok (.getfield 83, 3) := by decide +kernel
theorem dX12_setStrays_115 : decode cX12_setStrays 115 = .ok (.iload_n 1, 1) := by decide +kernel
theorem dX12_setStrays_116 : decode cX12_setStrays 116 = .ok (.aload_n 0, 1) := by decide +kernel
theorem dX12_setStrays_117 : decode cX12_setStrays 117 = .ok (.getfield 83, 3) := by decide +kernel
theorem dX12_setStrays_120 : decode cX12_setStrays 120 = .ok (.iload_n 2, 1) := by decide +kernel
theorem dX12_setStrays_121 : decode cX12_setStrays 121 = .ok (.iaload, 1) := by decide +kernel
theorem dX12_setStrays_122 : decode cX12_setStrays 122 = .ok (.iastore, 1) := by decide +kernel
theorem dX12_setStrays_123 : decode cX12_setStrays 123 = .ok (.aload_n 0, 1) := by decide +kernel
theorem dX12_setStrays_124 : decode cX12_setStrays 124 = .ok (.getfield 86, 3) := by decide +kernel
theorem dX12_setStrays_127 : decode cX12_setStrays 127 = .ok (.iload_n 1, 1) := by decide +kernel
theorem dX12_setStrays_128 : decode cX12_setStrays 128 = .ok (.aload_n 0, 1) := by decide +kernel
theorem dX12_setStrays_129 : decode cX12_setStrays 129 = .ok (.getfield 86, 3) := by decide +kernel
theorem dX12_setStrays_132 : decode cX12_setStrays 132 = .ok (.iload_n 2, 1) := by decide +kernel
theorem dX12_setStrays_133 : decode cX12_setStrays 133 = .ok (.baload, 1) := by decide +kernel
theorem dX12_setStrays_134 : decode cX12_setStrays 134 = .ok (.bastore, 1) := by decide +kernel
theorem dX12_setStrays_135 : decode cX12_setStrays 135 = .ok (.aload_n 0, 1) := by decide +kernel
theorem dX12_setStrays_136 : decode cX12_setStrays 136 = .ok (.getfield 92, 3) := by decide +kernel
theorem dX12_setStrays_139 : decode cX12_setStrays 139 = .ok (.iload_n 1, 1) := by decide +kernel
theorem dX12_setStrays_140 : decode cX12_setStrays 140 = .ok (.aload_n 0, 1) := by decide +kernel
theorem dX12_setStrays_141 : decode cX12_setStrays 141 = .ok (.getfield 92, 3) := by decide +kernel
theorem dX12_setStrays_144 : decode cX12_setStrays 144 = .ok (.iload_n 2, 1) := by decide +kernel
theorem dX12_setStrays_145 : decode cX12_setStrays 145 = .ok (.iaload, 1) := by decide +kernel
theorem dX12_setStrays_146 : decode cX12_setStrays 146 = .ok (.iastore, 1) := by decide +kernel
theorem dX12_setStrays_147 : decode cX12_setStrays 147 = .ok (.iinc 1 1, 3) := by decide +kernel
theorem dX12_setStrays_150 : decode cX12_setStrays 150 = .ok (.iinc 2 1, 3) := by decide +kernel
theorem dX12_setStrays_153 : decode cX12_setStrays 153 = .ok (.goto (-149), 3) := by decide +kernel
theorem dX12_setStrays_156 : decode cX12_setStrays 156 = .ok (.aload_n 0, 1) := by decide +kernel
theorem dX12_setStrays_157 : decode cX12_setStrays 157 = .ok (.iload_n 1, 1) := by decide +kernel
theorem dX12_setStrays_158 : decode cX12_setStrays 158 = .ok (.putfield 194, 3) := by decide +kernel
theorem dX12_setStrays_161 : decode cX12_setStrays 161 = .ok (.return_, 1) := by decide +kernel
theorem dX12_arriveLetter_0 : decode cX12_arriveLetter 0 = .ok (.aload_n 0, 1) := by decide +kernel
theorem dX12_arriveLetter_1 : decode cX12_arriveLetter 1 = .ok (.getfield 68, 3) := by decide +kernel
theorem dX12_arriveLetter_4 : decode cX12_arriveLetter 4 = .ok (.iload_n 1, 1) := by decide +kernel
theorem dX12_arriveLetter_5 : decode cX12_arriveLetter 5 = .ok (.iaload, 1) := by decide +kernel
theorem dX12_arriveLetter_6 : decode cX12_arriveLetter 6 = .ok (.istore_n 2, 1) := by decide +kernel
theorem dX12_arriveLetter_7 : decode cX12_arriveLetter 7 = .ok (.aload_n 0, 1) := by decide +kernel
theorem dX12_arriveLetter_8 : decode cX12_arriveLetter 8 = .ok (.getfield 53, 3) := by decide +kernel
theorem dX12_arriveLetter_11 : decode cX12_arriveLetter 11 = .ok (.iload_n 2, 1) := by decide +kernel
theorem dX12_arriveLetter_12 : decode cX12_arriveLetter 12 = .ok (.dup2, 1) := by decide +kernel
theorem dX12_arriveLetter_13 : decode cX12_arriveLetter 13 = .ok (.iaload, 1) := by decide +kernel
theorem dX12_arriveLetter_14 : decode cX12_arriveLetter 14 = .ok (.aload_n 0, 1) := by decide +kernel
theorem dX12_arriveLetter_15 : decode cX12_arriveLetter 15 = .ok (.getfield 74, 3) := by decide +kernel
theorem dX12_arriveLetter_18 : decode cX12_arriveLetter 18 = .ok (.iload_n 1, 1) := by decide +kernel
theorem dX12_arriveLetter_19 : decode cX12_arriveLetter 19 = .ok (.iaload, 1) := by decide +kernel
theorem dX12_arriveLetter_20 : decode cX12_arriveLetter 20 = .ok (.iadd, 1) := by decide +kernel
theorem dX12_arriveLetter_21 : decode cX12_arriveLetter 21 = .ok (.iastore, 1) := by decide +kernel
theorem dX12_arriveLetter_22 : decode cX12_arriveLetter 22 = .ok (.aload_n 0, 1) := by decide +kernel
theorem dX12_arriveLetter_23 : decode cX12_arriveLetter 23 = .ok (.getfield 59, 3) := by decide +kernel
theorem dX12_arriveLetter_26 : decode cX12_arriveLetter 26 = .ok (.iload_n 2, 1) := by decide +kernel
theorem dX12_arriveLetter_27 : decode cX12_arriveLetter 27 = .ok (.dup2, 1) := by decide +kernel
theorem dX12_arriveLetter_28 : decode cX12_arriveLetter 28 = .ok (.iaload, 1) := by decide +kernel
theorem dX12_arriveLetter_29 : decode cX12_arriveLetter 29 = .ok (.aload_n 0, 1) := by decide +kernel
theorem dX12_arriveLetter_30 : decode cX12_arriveLetter 30 = .ok (.getfield 74, 3) := by decide +kernel
theorem dX12_arriveLetter_33 : decode cX12_arriveLetter 33 = .ok (.iload_n 1, 1) := by decide +kernel
theorem dX12_arriveLetter_34 : decode cX12_arriveLetter 34 = .ok (.iaload, 1) := by decide +kernel
theorem dX12_arriveLetter_35 : decode cX12_arriveLetter 35 = .ok (.iadd, 1) := by decide +kernel
theorem dX12_arriveLetter_36 : decode cX12_arriveLetter 36 = .ok (.iastore, 1) := by decide +kernel
theorem dX12_arriveLetter_37 : decode cX12_arriveLetter 37 = .ok (.aload_n 0, 1) := by decide +kernel
theorem dX12_arriveLetter_38 : decode cX12_arriveLetter 38 = .ok (.dup, 1) := by decide +kernel
theorem dX12_arriveLetter_39 : decode cX12_arriveLetter 39 = .ok (.getfield 340, 3) := by decide +kernel
theorem dX12_arriveLetter_42 : decode cX12_arriveLetter 42 = .ok (.aload_n 0, 1) := by decide +kernel
theorem dX12_arriveLetter_43 : decode cX12_arriveLetter 43 = .ok (.getfield 74, 3) := by decide +kernel
theorem dX12_arriveLetter_46 : decode cX12_arriveLetter 46 = .ok (.iload_n 1, 1) := by decide +kernel
theorem dX12_arriveLetter_47 : decode cX12_arriveLetter 47 = .ok (.iaload, 1) := by decide +kernel
theorem dX12_arriveLetter_48 : decode cX12_arriveLetter 48 = .ok (.iadd, 1) := by decide +kernel
theorem dX12_arriveLetter_49 : decode cX12_arriveLetter 49 = .ok (.putfield 340, 3) := by decide +kernel
theorem dX12_arriveLetter_52 : decode cX12_arriveLetter 52 = .ok (.aload_n 0, 1) := by decide +kernel
theorem dX12_arriveLetter_53 : decode cX12_arriveLetter 53 = .ok (.getfield 77, 3) := by decide +kernel
theorem dX12_arriveLetter_56 : decode cX12_arriveLetter 56 = .ok (.iload_n 1, 1) := by decide +kernel
theorem dX12_arriveLetter_57 : decode cX12_arriveLetter 57 = .ok (.iaload, 1) := by decide +kernel
theorem dX12_arriveLetter_58 : decode cX12_arriveLetter 58 = .ok (.ifCond .le 23, 3) := by decide +kernel
theorem dX12_arriveLetter_61 : decode cX12_arriveLetter 61 = .ok (.aload_n 0, 1) := by decide +kernel
theorem dX12_arriveLetter_62 : decode cX12_arriveLetter 62 = .ok (.getfield 50, 3) := by decide +kernel
theorem dX12_arriveLetter_65 : decode cX12_arriveLetter 65 = .ok (.aload_n 0, 1) := by decide +kernel
theorem dX12_arriveLetter_66 : decode cX12_arriveLetter 66 = .ok (.getfield 62, 3) := by decide +kernel
theorem dX12_arriveLetter_69 : decode cX12_arriveLetter 69 = .ok (.iload_n 2, 1) := by decide +kernel
theorem dX12_arriveLetter_70 : decode cX12_arriveLetter 70 = .ok (.iaload, 1) := by decide +kernel
theorem dX12_arriveLetter_71 : decode cX12_arriveLetter 71 = .ok (.dup2, 1) := by decide +kernel
theorem dX12_arriveLetter_72 : decode cX12_arriveLetter 72 = .ok (.iaload, 1) := by decide +kernel
theorem dX12_arriveLetter_73 : decode cX12_arriveLetter 73 = .ok (.aload_n 0, 1) := by decide +kernel
theorem dX12_arriveLetter_74 : decode cX12_arriveLetter 74 = .ok (.getfield 77, 3) := by decide +kernel
theorem dX12_arriveLetter_77 : decode cX12_arriveLetter 77 = .ok (.iload_n 1, 1) := by decide +kernel
theorem dX12_arriveLetter_78 : decode cX12_arriveLetter 78 = .ok (.iaload, 1) := by decide +kernel
theorem dX12_arriveLetter_79 : decode cX12_arriveLetter 79 = .ok (.iadd, 1) := by decide +kernel
theorem dX12_arriveLetter_80 : decode cX12_arriveLetter 80 = .ok (.iastore, 1) := by decide +kernel
theorem dX12_arriveLetter_81 : decode cX12_arriveLetter 81 = .ok (.return_, 1) := by decide +kernel
theorem dX12_setLetters_0 : decode cX12_setLetters 0 = .ok (.iconst 0, 1) := by decide +kernel
theorem dX12_setLetters_1 : decode cX12_setLetters 1 = .ok (.istore_n 1, 1) := by decide +kernel
theorem dX12_setLetters_2 : decode cX12_setLetters 2 = .ok (.iconst 0, 1) := by decide +kernel
theorem dX12_setLetters_3 : decode cX12_setLetters 3 = .ok (.istore_n 2, 1) := by decide +kernel
theorem dX12_setLetters_4 : decode cX12_setLetters 4 = .ok (.iload_n 2, 1) := by decide +kernel
theorem dX12_setLetters_5 : decode cX12_setLetters 5 = .ok (.aload_n 0, 1) := by decide +kernel
theorem dX12_setLetters_6 : decode cX12_setLetters 6 = .ok (.getfield 191, 3) := by decide +kernel
theorem dX12_setLetters_9 : decode cX12_setLetters 9 = .ok (.if_icmp .ge 95, 3) := by decide +kernel
theorem dX12_setLetters_12 : decode cX12_setLetters 12 = .ok (.aload_n 0, 1) := by decide +kernel
theorem dX12_setLetters_13 : decode cX12_setLetters 13 = .ok (.getfield 188, 3) := by decide +kernel
theorem dX12_setLetters_16 : decode cX12_setLetters 16 = .ok (.aload_n 0, 1) := by decide +kernel
theorem dX12_setLetters_17 : decode cX12_setLetters 17 = .ok (.getfield 71, 3) := by decide +kernel
theorem dX12_setLetters_20 : decode cX12_setLetters 20 = .ok (.iload_n 2, 1) := by decide +kernel
theorem dX12_setLetters_21 : decode cX12_setLetters 21 = .ok (.iaload, 1) := by decide +kernel
theorem dX12_setLetters_22 : decode cX12_setLetters 22 = .ok (.isub, 1) := by decide +kernel
theorem dX12_setLetters_23 : decode cX12_setLetters 23 = .ok (.aload_n 0, 1) := by decide +kernel
theorem dX12_setLetters_24 : decode cX12_setLetters 24 = .ok (.getfield 38, 3) := by decide +kernel
theorem dX12_setLetters_27 : decode cX12_setLetters 27 = .ok (.aload_n 0, 1) := by decide +kernel
theorem dX12_setLetters_28 : decode cX12_setLetters 28 = .ok (.getfield 68, 3) := by decide +kernel
theorem dX12_setLetters_31 : decode cX12_setLetters 31 = .ok (.iload_n 2, 1) := by decide +kernel
theorem dX12_setLetters_32 : decode cX12_setLetters 32 = .ok (.iaload, 1) := by decide +kernel
theorem dX12_setLetters_33 : decode cX12_setLetters 33 = .ok (.iaload, 1) := by decide +kernel
theorem dX12_setLetters_34 : decode cX12_setLetters 34 = .ok (.iconst 1, 1) := by decide +kernel
theorem dX12_setLetters_35 : decode cX12_setLetters 35 = .ok (.iadd, 1) := by decide +kernel
theorem dX12_setLetters_36 : decode cX12_setLetters 36 = .ok (.if_icmp .ne 11, 3) := by decide +kernel
theorem dX12_setLetters_39 : decode cX12_setLetters 39 = .ok (.aload_n 0, 1) := by decide +kernel
theorem dX12_setLetters_40 : decode cX12_setLetters 40 = .ok (.iload_n 2, 1) := by decide +kernel
theorem dX12_setLetters_41 : decode cX12_setLetters 41 = .ok (.invokevirtual 346, 3) := by decide +kernel
theorem dX12_setLetters_44 : decode cX12_setLetters 44 = .ok (.goto 54, 3) := by decide +kernel
theorem dX12_setLetters_47 : decode cX12_setLetters 47 = .ok (.aload_n 0, 1) := by decide +kernel
theorem dX12_setLetters_48 : decode cX12_setLetters 48 = .ok (.getfield 68, 3) := by decide +kernel
theorem dX12_setLetters_51 : decode cX12_setLetters 51 = .ok (.iload_n 1, 1) := by decide +kernel
theorem dX12_setLetters_52 : decode cX12_setLetters 52 = .ok (.aload_n 0, 1) := by decide +kernel
theorem dX12_setLetters_53 : decode cX12_setLetters 53 = .ok (.getfield 68, 3) := by decide +kernel
theorem dX12_setLetters_56 : decode cX12_setLetters 56 = .ok (.iload_n 2, 1) := by decide +kernel
theorem dX12_setLetters_57 : decode cX12_setLetters 57 = .ok (.iaload, 1) := by decide +kernel
theorem dX12_setLetters_58 : decode cX12_setLetters 58 = .ok (.iastore, 1) := by decide +kernel
theorem dX12_setLetters_59 : decode cX12_setLetters 59 = .ok (.aload_n 0, 1) := by decide +kernel
theorem dX12_setLetters_60 : decode cX12_setLetters 60 = .ok (.getfield 71, 3) := by decide +kernel
theorem dX12_setLetters_63 : decode cX12_setLetters 63 = .ok (.iload_n 1, 1) := by decide +kernel
theorem dX12_setLetters_64 : decode cX12_setLetters 64 = .ok (.aload_n 0, 1) := by decide +kernel
theorem dX12_setLetters_65 : decode cX12_setLetters 65 = .ok (.getfield 71, 3) := by decide +kernel
theorem dX12_setLetters_68 : decode cX12_setLetters 68 = .ok (.iload_n 2, 1) := by decide +kernel
theorem dX12_setLetters_69 : decode cX12_setLetters 69 = .ok (.iaload, 1) := by decide +kernel
theorem dX12_setLetters_70 : decode cX12_setLetters 70 = .ok (.iastore, 1) := by decide +kernel
theorem dX12_setLetters_71 : decode cX12_setLetters 71 = .ok (.aload_n 0, 1) := by decide +kernel
theorem dX12_setLetters_72 : decode cX12_setLetters 72 = .ok (.getfield 74, 3) := by decide +kernel
theorem dX12_setLetters_75 : decode cX12_setLetters 75 = .ok (.iload_n 1, 1) := by decide +kernel
theorem dX12_setLetters_76 : decode cX12_setLetters 76 = .ok (.aload_n 0, 1) := by decide +kernel
theorem dX12_setLetters_77 : decode cX12_setLetters 77 = .ok (.getfield 74, 3) := by decide +kernel
theorem dX12_setLetters_80 : decode cX12_setLetters 80 = .ok (.iload_n 2, 1) := by decide +kernel
theorem dX12_setLetters_81 : decode cX12_setLetters 81 = .ok (.iaload, 1) := by decide +kernel
theorem dX12_setLetters_82 : decode cX12_setLetters 82 = .ok (.iastore, 1) := by decide +kernel
theorem dX12_setLetters_83 : decode cX12_setLetters 83 = .ok (.aload_n 0, 1) := by decide +kernel
theorem dX12_setLetters_84 : decode cX12_setLetters 84 = .ok (.getfield 77, 3) := by decide +kernel
theorem dX12_setLetters_87 : decode cX12_setLetters 87 = .ok (.iload_n 1, 1) := by decide +kernel
theorem dX12_setLetters_88 : decode cX12_setLetters 88 = .ok (.aload_n 0, 1) := by decide +kernel
theorem dX12_setLetters_89 : decode cX12_setLetters 89 = .ok (.getfield 77, 3) := by decide +kernel
theorem dX12_setLetters_92 : decode cX12_setLetters 92 = .ok (.iload_n 2, 1) := by decide +kernel
theorem dX12_setLetters_93 : decode cX12_setLetters 93 = .ok (.iaload, 1) := by decide +kernel
theorem dX12_setLetters_94 : decode cX12_setLetters 94 = .ok (.iastore, 1) := by decide +kernel
theorem dX12_setLetters_95 : decode cX12_setLetters 95 = .ok (.iinc 1 1, 3) := by decide +kernel
theorem dX12_setLetters_98 : decode cX12_setLetters 98 = .ok (.iinc 2 1, 3) := by decide +kernel
theorem dX12_setLetters_101 : decode cX12_setLetters 101 = .ok (.goto (-97), 3) := by decide +kernel
theorem dX12_setLetters_104 : decode cX12_setLetters 104 = .ok (.aload_n 0, 1) := by decide +kernel
theorem dX12_setLetters_105 : decode cX12_setLetters 105 = .ok (.iload_n 1, 1) := by decide +kernel
theorem dX12_setLetters_106 : decode cX12_setLetters 106 = .ok (.putfield 191, 3) := by decide +kernel
theorem dX12_setLetters_109 : decode cX12_setLetters 109 = .ok (.return_, 1) := by decide +kernel
theorem dX12_cycle_0 : decode cX12_cycle 0 = .ok (.iconst 0, 1) := by decide +kernel
theorem dX12_cycle_1 : decode cX12_cycle 1 = .ok (.istore_n 1, 1) := by decide +kernel
theorem dX12_cycle_2 : decode cX12_cycle 2 = .ok (.iload_n 1, 1) := by decide +kernel
theorem dX12_cycle_3 : decode cX12_cycle 3 = .ok (.bipush 8, 2) := by decide +kernel
theorem dX12_cycle_5 : decode cX12_cycle 5 = .ok (.if_icmp .ge 44, 3) := by decide +kernel
theorem dX12_cycle_8 : decode cX12_cycle 8 = .ok (.aload_n 0, 1) := by decide +kernel
theorem dX12_cycle_9 : decode cX12_cycle 9 = .ok (.getfield 20, 3) := by decide +kernel
theorem dX12_cycle_12 : decode cX12_cycle 12 = .ok (.iload_n 1, 1) := by decide +kernel
theorem dX12_cycle_13 : decode cX12_cycle 13 = .ok (.baload, 1) := by decide +kernel
theorem dX12_cycle_14 : decode cX12_cycle 14 = .ok (.ifCond .eq 29, 3) := by decide +kernel
theorem dX12_cycle_17 : decode cX12_cycle 17 = .ok (.aload_n 0, 1) := by decide +kernel
theorem dX12_cycle_18 : decode cX12_cycle 18 = .ok (.getfield 44, 3) := by decide +kernel
theorem dX12_cycle_21 : decode cX12_cycle 21 = .ok (.iload_n 1, 1) := by decide +kernel
theorem dX12_cycle_22 : decode cX12_cycle 22 = .ok (.iaload, 1) := by decide +kernel
theorem dX12_cycle_23 : decode cX12_cycle 23 = .ok (.aload_n 0, 1) := by decide +kernel
theorem dX12_cycle_24 : decode cX12_cycle 24 = .ok (.getfield 188, 3) := by decide +kernel
theorem dX12_cycle_27 : decode cX12_cycle 27 = .ok (.aload_n 0, 1) := by decide +kernel
theorem dX12_cycle_28 : decode cX12_cycle 28 = .ok (.getfield 185, 3) := by decide +kernel
theorem dX12_cycle_31 : decode cX12_cycle 31 = .ok (.irem, 1) := by decide +kernel
theorem dX12_cycle_32 : decode cX12_cycle 32 = .ok (.invokestatic 200, 3) := by decide +kernel
theorem dX12_cycle_35 : decode cX12_cycle 35 = .ok (.ifCond .eq 8, 3) := by decide +kernel
theorem dX12_cycle_38 : decode cX12_cycle 38 = .ok (.aload_n 0, 1) := by decide +kernel
theorem dX12_cycle_39 : decode cX12_cycle 39 = .ok (.iload_n 1, 1) := by decide +kernel
theorem dX12_cycle_40 : decode cX12_cycle 40 = .ok (.invokevirtual 349, 3) := by decide +kernel
theorem dX12_cycle_43 : decode cX12_cycle 43 = .ok (.iinc 1 1, 3) := by decide +kernel
theorem dX12_cycle_46 : decode cX12_cycle 46 = .ok (.goto (-44), 3) := by decide +kernel
theorem dX12_cycle_49 : decode cX12_cycle 49 = .ok (.iconst 0, 1) := by decide +kernel
theorem dX12_cycle_50 : decode cX12_cycle 50 = .ok (.istore_n 1, 1) := by decide +kernel
theorem dX12_cycle_51 : decode cX12_cycle 51 = .ok (.iload_n 1, 1) := by decide +kernel
theorem dX12_cycle_52 : decode cX12_cycle 52 = .ok (.aload_n 0, 1) := by decide +kernel
theorem dX12_cycle_53 : decode cX12_cycle 53 = .ok (.getfield 191, 3) := by decide +kernel
theorem dX12_cycle_56 : decode cX12_cycle 56 = .ok (.if_icmp .ge 23, 3) := by decide +kernel
theorem dX12_cycle_59 : decode cX12_cycle 59 = .ok (.aload_n 0, 1) := by decide +kernel
theorem dX12_cycle_60 : decode cX12_cycle 60 = .ok (.getfield 13, 3) := by decide +kernel
theorem dX12_cycle_63 : decode cX12_cycle 63 = .ok (.aload_n 0, 1) := by decide +kernel
theorem dX12_cycle_64 : decode cX12_cycle 64 = .ok (.iload_n 1, 1) := by decide +kernel
theorem dX12_cycle_65 : decode cX12_cycle 65 = .ok (.invokevirtual 328, 3) := by decide +kernel
theorem dX12_cycle_68 : decode cX12_cycle 68 = .ok (.dup2, 1) := by decide +kernel
theorem dX12_cycle_69 : decode cX12_cycle 69 = .ok (.iaload, 1) := by decide +kernel
theorem dX12_cycle_70 : decode cX12_cycle 70 = .ok (.iconst 1, 1) := by decide +kernel
theorem dX12_cycle_71 : decode cX12_cycle 71 = .ok (.iadd, 1) := by decide +kernel
theorem dX12_cycle_72 : decode cX12_cycle 72 = .ok (.iastore, 1) := by decide +kernel
theorem dX12_cycle_73 : decode cX12_cycle 73 = .ok (.iinc 1 1, 3) := by decide +kernel
theorem dX12_cycle_76 : decode cX12_cycle 76 = .ok (.goto (-25), 3) := by decide +kernel
theorem dX12_cycle_79 : decode cX12_cycle 79 = .ok (.aload_n 0, 1) := by decide +kernel
theorem dX12_cycle_80 : decode cX12_cycle 80 = .ok (.invokevirtual 352, 3) := by decide +kernel
theorem dX12_cycle_83 : decode cX12_cycle 83 = .ok (.aload_n 0, 1) := by decide +kernel
theorem dX12_cycle_84 : decode cX12_cycle 84 = .ok (.invokevirtual 355, 3) := by decide +kernel
theorem dX12_cycle_87 : decode cX12_cycle 87 = .ok (.aload_n 0, 1) := by decide +kernel
theorem dX12_cycle_88 : decode cX12_cycle 88 = .ok (.invokevirtual 358, 3) := by decide +kernel
theorem dX12_cycle_91 : decode cX12_cycle 91 = .ok (.aload_n 0, 1) := by decide +kernel
theorem dX12_cycle_92 : decode cX12_cycle 92 = .ok (.dup, 1) := by decide +kernel
theorem dX12_cycle_93 : decode cX12_cycle 93 = .ok (.getfield 188, 3) := by decide +kernel
theorem dX12_cycle_96 : decode cX12_cycle 96 = .ok (.iconst 1, 1) := by decide +kernel
theorem dX12_cycle_97 : decode cX12_cycle 97 = .ok (.iadd, 1) := by decide +kernel
theorem dX12_cycle_98 : decode cX12_cycle 98 = .ok (.putfield 188, 3) := by decide +kernel
theorem dX12_cycle_101 : decode cX12_cycle 101 = .ok (.return_, 1) := by decide +kernel
theorem dX12_run_0 : decode cX12_run 0 = .ok (.iload_n 1, 1) := by decide +kernel
theorem dX12_run_1 : decode cX12_run 1 = .ok (.iconst 1, 1) := by decide +kernel
theorem dX12_run_2 : decode cX12_run 2 = .ok (.bipush 40, 2) := by decide +kernel
theorem dX12_run_4 : decode cX12_run 4 = .ok (.invokestatic 130, 3) := by decide +kernel
theorem dX12_run_7 : decode cX12_run 7 = .ok (.ifCond .ne 6, 3) := by decide +kernel
theorem dX12_run_10 : decode cX12_run 10 = .ok (.bipush (-102), 2) := by decide +kernel
theorem dX12_run_12 : decode cX12_run 12 = .ok (.ireturn, 1) := by decide +kernel
theorem dX12_run_13 : decode cX12_run 13 = .ok (.aload_n 0, 1) := by decide +kernel
theorem dX12_run_14 : decode cX12_run 14 = .ok (.invokevirtual 264, 3) := by decide +kernel
theorem dX12_run_17 : decode cX12_run 17 = .ok (.ifCond .ne 6, 3) := by decide +kernel
theorem dX12_run_20 : decode cX12_run 20 = .ok (.bipush (-103), 2) := by decide +kernel
theorem dX12_run_22 : decode cX12_run 22 = .ok (.ireturn, 1) := by decide +kernel
theorem dX12_run_23 : decode cX12_run 23 = .ok (.aload_n 0, 1) := by decide +kernel
theorem dX12_run_24 : decode cX12_run 24 = .ok (.iconst 0, 1) := by decide +kernel
theorem dX12_run_25 : decode cX12_run 25 = .ok (.putfield 340, 3) := by decide +kernel
theorem dX12_run_28 : decode cX12_run 28 = .ok (.iconst 0, 1) := by decide +kernel
theorem dX12_run_29 : decode cX12_run 29 = .ok (.istore_n 2, 1) := by decide +kernel
theorem dX12_run_30 : decode cX12_run 30 = .ok (.iload_n 2, 1) := by decide +kernel
theorem dX12_run_31 : decode cX12_run 31 = .ok (.iload_n 1, 1) := by decide +kernel
theorem dX12_run_32 : decode cX12_run 32 = .ok (.if_icmp .ge 13, 3) := by decide +kernel
theorem dX12_run_35 : decode cX12_run 35 = .ok (.aload_n 0, 1) := by decide +kernel
theorem dX12_run_36 : decode cX12_run 36 = .ok (.invokevirtual 361, 3) := by decide +kernel
theorem dX12_run_39 : decode cX12_run 39 = .ok (.iinc 2 1, 3) := by decide +kernel
theorem dX12_run_42 : decode cX12_run 42 = .ok (.goto (-12), 3) := by decide +kernel
theorem dX12_run_45 : decode cX12_run 45 = .ok (.aload_n 0, 1) := by decide +kernel
theorem dX12_run_46 : decode cX12_run 46 = .ok (.getfield 340, 3) := by decide +kernel
theorem dX12_run_49 : decode cX12_run 49 = .ok (.ireturn, 1) := by decide +kernel
theorem dX12_drawOf_0 : decode cX12_drawOf 0 = .ok (.aload_n 0, 1) := by decide +kernel
theorem dX12_drawOf_1 : decode cX12_drawOf 1 = .ok (.ldc2_w 364, 3) := by decide +kernel
theorem dX12_drawOf_4 : decode cX12_drawOf 4 = .ok (.aload_n 0, 1) := by decide +kernel
theorem dX12_drawOf_5 : decode cX12_drawOf 5 = .ok (.getfield 366, 3) := by decide +kernel
theorem dX12_drawOf_8 : decode cX12_drawOf 8 = .ok (.lmul, 1) := by decide +kernel
theorem dX12_drawOf_9 : decode cX12_drawOf 9 = .ok (.ldc2_w 370, 3) := by decide +kernel
theorem dX12_drawOf_12 : decode cX12_drawOf 12 = .ok (.ladd, 1) := by decide +kernel
theorem dX12_drawOf_13 : decode cX12_drawOf 13 = .ok (.ldc2_w 372, 3) := by decide +kernel
theorem dX12_drawOf_16 : decode cX12_drawOf 16 = .ok (.lrem, 1) := by decide +kernel
theorem dX12_drawOf_17 : decode cX12_drawOf 17 = .ok (.putfield 366, 3) := by decide +kernel
theorem dX12_drawOf_20 : decode cX12_drawOf 20 = .ok (.aload_n 0, 1) := by decide +kernel
theorem dX12_drawOf_21 : decode cX12_drawOf 21 = .ok (.getfield 366, 3) := by decide +kernel
theorem dX12_drawOf_24 : decode cX12_drawOf 24 = .ok (.ldc2_w 374, 3) := by decide +kernel
theorem dX12_drawOf_27 : decode cX12_drawOf 27 = .ok (.ldiv, 1) := by decide +kernel
theorem dX12_drawOf_28 : decode cX12_drawOf 28 = .ok (.iload_n 1, 1) := by decide +kernel
theorem dX12_drawOf_29 : decode cX12_drawOf 29 = .ok (.i2l, 1) := by decide +kernel
theorem dX12_drawOf_30 : decode cX12_drawOf 30 = .ok (.lrem, 1) := by decide +kernel
theorem dX12_drawOf_31 : decode cX12_drawOf 31 = .ok (.l2i, 1) := by decide +kernel
theorem dX12_drawOf_32 : decode cX12_drawOf 32 = .ok (.ireturn, 1) := by decide +kernel
theorem dX12_storm_0 : decode cX12_storm 0 = .ok (.aload_n 0, 1) := by decide +kernel
theorem dX12_storm_1 : decode cX12_storm 1 = .ok (.invokevirtual 264, 3) := by decide +kernel
theorem dX12_storm_4 : decode cX12_storm 4 = .ok (.ifCond .ne 6, 3) := by decide +kernel
theorem dX12_storm_7 : decode cX12_storm 7 = .ok (.bipush (-103), 2) := by decide +kernel
theorem dX12_storm_9 : decode cX12_storm 9 = .ok (.ireturn, 1) := by decide +kernel
theorem dX12_storm_10 : decode cX12_storm 10 = .ok (.iload_n 1, 1) := by decide +kernel
theorem dX12_storm_11 : decode cX12_storm 11 = .ok (.iconst 1, 1) := by decide +kernel
theorem dX12_storm_12 : decode cX12_storm 12 = .ok (.bipush 12, 2) := by decide +kernel
theorem dX12_storm_14 : decode cX12_storm 14 = .ok (.invokestatic 130, 3) := by decide +kernel
theorem dX12_storm_17 : decode cX12_storm 17 = .ok (.ifCond .eq 7, 3) := by decide +kernel
theorem dX12_storm_20 : decode cX12_storm 20 = .ok (.iload_n 2, 1) := by decide +kernel
theorem dX12_storm_21 : decode cX12_storm 21 = .ok (.ifCond .ge 6, 3) := by decide +kernel
theorem dX12_storm_24 : decode cX12_storm 24 = .ok (.bipush (-102), 2) := by decide +kernel
theorem dX12_storm_26 : decode cX12_storm 26 = .ok (.ireturn, 1) := by decide +kernel
theorem dX12_storm_27 : decode cX12_storm 27 = .ok (.aload_n 0, 1) := by decide +kernel
theorem dX12_storm_28 : decode cX12_storm 28 = .ok (.iload_n 2, 1) := by decide +kernel
theorem dX12_storm_29 : decode cX12_storm 29 = .ok (.i2l, 1) := by decide +kernel
theorem dX12_storm_30 : decode cX12_storm 30 = .ok (.putfield 366, 3) := by decide +kernel
theorem dX12_storm_33 : decode cX12_storm 33 = .ok (.iconst 0, 1) := by decide +kernel
theorem dX12_storm_34 : decode cX12_storm 34 = .ok (.istore_n 3, 1) := by decide +kernel
theorem dX12_storm_35 : decode cX12_storm 35 = .ok (.iload_n 3, 1) := by decide +kernel
theorem dX12_storm_36 : decode cX12_storm 36 = .ok (.iload_n 1, 1) := by decide +kernel
theorem dX12_storm_37 : decode cX12_storm 37 = .ok (.if_icmp .ge 60, 3) := by decide +kernel
theorem dX12_storm_40 : decode cX12_storm 40 = .ok (.aload_n 0, 1) := by decide +kernel
theorem dX12_storm_41 : decode cX12_storm 41 = .ok (.getfield 194, 3) := by decide +kernel
theorem dX12_storm_44 : decode cX12_storm 44 = .ok (.bipush 12, 2) := by decide +kernel
theorem dX12_storm_46 : decode cX12_storm 46 = .ok (.if_icmp .ge 51, 3) := by decide +kernel
theorem dX12_storm_49 : decode cX12_storm 49 = .ok (.aload_n 0, 1) := by decide +kernel
theorem dX12_storm_50 : decode cX12_storm 50 = .ok (.aload_n 0, 1) := by decide +kernel
theorem dX12_storm_51 : decode cX12_storm 51 = .ok (.invokevirtual 126, 3) := by decide +kernel
theorem dX12_storm_54 : decode cX12_storm 54 = .ok (.invokevirtual 376, 3) := by decide +kernel
theorem dX12_storm_57 : decode cX12_storm 57 = .ok (.istore 4, 2) := by decide +kernel
theorem dX12_storm_59 : decode cX12_storm 59 = .ok (.aload_n 0, 1) := by decide +kernel
theorem dX12_storm_60 : decode cX12_storm 60 = .ok (.aload_n 0, 1) := by decide +kernel
theorem dX12_storm_61 : decode cX12_storm 61 = .ok (.invokevirtual 126, 3) := by decide +kernel
theorem dX12_storm_64 : decode cX12_storm 64 = .ok (.invokevirtual 376, 3) := by decide +kernel
theorem dX12_storm_67 : decode cX12_storm 67 = .ok (.istore 5, 2) := by decide +kernel
theorem dX12_storm_69 : decode cX12_storm 69 = .ok (.aload_n 0, 1) := by decide +kernel
theorem dX12_storm_70 : decode cX12_storm 70 = .ok (.iload 4, 2) := by decide +kernel
theorem dX12_storm_72 : decode cX12_storm 72 = .ok (.iload 5, 2) := by decide +kernel
theorem dX12_storm_74 : decode cX12_storm 74 = .ok (.aload_n 0, 1) := by decide +kernel
theorem dX12_storm_75 : decode cX12_storm 75 = .ok (.iconst 2, 1) := by decide +kernel
theorem dX12_storm_76 : decode cX12_storm 76 = .ok (.invokevirtual 376, 3) := by decide +kernel
theorem dX12_storm_79 : decode cX12_storm 79 = .ok (.iconst 1, 1) := by decide +kernel
theorem dX12_storm_80 : decode cX12_storm 80 = .ok (.if_icmp .ne 7, 3) := by decide +kernel
theorem dX12_storm_83 : decode cX12_storm 83 = .ok (.iconst 1, 1) := by decide +kernel
theorem dX12_storm_84 : decode cX12_storm 84 = .ok (.goto 4, 3) := by decide +kernel
theorem dX12_storm_87 : decode cX12_storm 87 = .ok (.iconst 0, 1) := by decide +kernel
theorem dX12_storm_88 : decode cX12_storm 88 = .ok (.invokevirtual 312, 3) := by decide +kernel
theorem dX12_storm_91 : decode cX12_storm 91 = .ok (.iinc 3 1, 3) := by decide +kernel
theorem dX12_storm_94 : decode cX12_storm 94 = .ok (.goto (-59), 3) := by decide +kernel
theorem dX12_storm_97 : decode cX12_storm 97 = .ok (.iload_n 3, 1) := by decide +kernel
theorem dX12_storm_98 : decode cX12_storm 98 = .ok (.ireturn, 1) := by decide +kernel
theorem dX12_sumOf_0 : decode cX12_sumOf 0 = .ok (.iconst 0, 1) := by decide +kernel
theorem dX12_sumOf_1 : decode cX12_sumOf 1 = .ok (.istore_n 2, 1) := by decide +kernel
theorem dX12_sumOf_2 : decode cX12_sumOf 2 = .ok (.iconst 0, 1) := by decide +kernel
theorem dX12_sumOf_3 : decode cX12_sumOf 3 = .ok (.istore_n 3, 1) := by decide +kernel
theorem dX12_sumOf_4 : decode cX12_sumOf 4 = .ok (.iload_n 3, 1) := by decide +kernel
theorem dX12_sumOf_5 : decode cX12_sumOf 5 = .ok (.bipush 8, 2) := by decide +kernel
theorem dX12_sumOf_7 : decode cX12_sumOf 7 = .ok (.if_icmp .ge 49, 3) := by decide +kernel
theorem dX12_sumOf_10 : decode cX12_sumOf 10 = .ok (.aload_n 0, 1) := by decide +kernel
theorem dX12_sumOf_11 : decode cX12_sumOf 11 = .ok (.getfield 20, 3) := by decide +kernel
theorem dX12_sumOf_14 : decode cX12_sumOf 14 = .ok (.iload_n 3, 1) := by decide +kernel
theorem dX12_sumOf_15 : decode cX12_sumOf 15 = .ok (.baload, 1) := by decide +kernel
theorem dX12_sumOf_16 : decode cX12_sumOf 16 = .ok (.ifCond .eq 34, 3) := by decide +kernel
theorem dX12_sumOf_19 : decode cX12_sumOf 19 = .ok (.iload_n 2, 1) := by decide +kernel
theorem dX12_sumOf_20 : decode cX12_sumOf 20 = .ok (.iload_n 1, 1) := by decide +kernel
theorem dX12_sumOf_21 : decode cX12_sumOf 21 = .ok (.ifCond .ne 7, 3) := by decide +kernel
theorem dX12_sumOf_24 : decode cX12_sumOf 24 = .ok (.iconst 1, 1) := by decide +kernel
theorem dX12_sumOf_25 : decode cX12_sumOf 25 = .ok (.goto 23, 3) := by decide +kernel
theorem dX12_sumOf_28 : decode cX12_sumOf 28 = .ok (.iload_n 1, 1) := by decide +kernel
theorem dX12_sumOf_29 : decode cX12_sumOf 29 = .ok (.iconst 3, 1) := by decide +kernel
theorem dX12_sumOf_30 : decode cX12_sumOf 30 = .ok (.if_icmp .ne 12, 3) := by decide +kernel
theorem dX12_sumOf_33 : decode cX12_sumOf 33 = .ok (.aload_n 0, 1) := by decide +kernel
theorem dX12_sumOf_34 : decode cX12_sumOf 34 = .ok (.getfield 47, 3) := by decide +kernel
theorem dX12_sumOf_37 : decode cX12_sumOf 37 = .ok (.iload_n 3, 1) := by decide +kernel
theorem dX12_sumOf_38 : decode cX12_sumOf 38 = .ok (.iaload, 1) := by decide +kernel
theorem dX12_sumOf_39 : decode cX12_sumOf 39 = .ok (.goto 9, 3) := by decide +kernel
theorem dX12_sumOf_42 : decode cX12_sumOf 42 = .ok (.aload_n 0, 1) := by decide +kernel
theorem dX12_sumOf_43 : decode cX12_sumOf 43 = .ok (.getfield 59, 3) := by decide +kernel
theorem dX12_sumOf_46 : decode cX12_sumOf 46 = .ok (.iload_n 3, 1) := by decide +kernel
theorem dX12_sumOf_47 : decode cX12_sumOf 47 = .ok (.iaload, 1) := by decide +kernel
theorem dX12_sumOf_48 : decode cX12_sumOf 48 = .ok (.iadd, 1) := by decide +kernel
theorem dX12_sumOf_49 : decode cX12_sumOf 49 = .ok (.istore_n 2, 1) := by decide +kernel
theorem dX12_sumOf_50 : decode cX12_sumOf 50 = .ok (.iinc 3 1, 3) := by decide +kernel
theorem dX12_sumOf_53 : decode cX12_sumOf 53 = .ok (.goto (-49), 3) := by decide +kernel
theorem dX12_sumOf_56 : decode cX12_sumOf 56 = .ok (.iload_n 2, 1) := by decide +kernel
theorem dX12_sumOf_57 : decode cX12_sumOf 57 = .ok (.ireturn, 1) := by decide +kernel
theorem dX12_howMany_0 : decode cX12_howMany 0 = .ok (.iload_n 1, 1) := by decide +kernel
theorem dX12_howMany_1 : decode cX12_howMany 1 = .ok (.tableswitch 69 0 6 #[43, 49, 54, 43, 43, 59, 64], 43) := by decide +kernel
theorem dX12_howMany_44 : decode cX12_howMany 44 = .ok (.aload_n 0, 1) := by decide +kernel
theorem dX12_howMany_45 : decode cX12_howMany 45 = .ok (.iload_n 1, 1) := by decide +kernel
theorem dX12_howMany_46 : decode cX12_howMany 46 = .ok (.invokevirtual 379, 3) := by decide +kernel
theorem dX12_howMany_49 : decode cX12_howMany 49 = .ok (.ireturn, 1) := by decide +kernel
theorem dX12_howMany_50 : decode cX12_howMany 50 = .ok (.aload_n 0, 1) := by decide +kernel
theorem dX12_howMany_51 : decode cX12_howMany 51 = .ok (.getfield 191, 3) := by decide +kernel
theorem dX12_howMany_54 : decode cX12_howMany 54 = .ok (.ireturn, 1) := by decide +kernel
theorem dX12_howMany_55 : decode cX12_howMany 55 = .ok (.aload_n 0, 1) := by decide +kernel
theorem dX12_howMany_56 : decode cX12_howMany 56 = .ok (.getfield 194, 3) := by decide +kernel
theorem dX12_howMany_59 : decode cX12_howMany 59 = .ok (.ireturn, 1) := by decide +kernel
theorem dX12_howMany_60 : decode cX12_howMany 60 = .ok (.aload_n 0, 1) := by decide +kernel
theorem dX12_howMany_61 : decode cX12_howMany 61 = .ok (.getfield 138, 3) := by decide +kernel
theorem dX12_howMany_64 : decode cX12_howMany 64 = .ok (.ireturn, 1) := by decide +kernel
theorem dX12_howMany_65 : decode cX12_howMany 65 = .ok (.aload_n 0, 1) := by decide +kernel
theorem dX12_howMany_66 : decode cX12_howMany 66 = .ok (.getfield 197, 3) := by decide +kernel
theorem dX12_howMany_69 : decode cX12_howMany 69 = .ok (.ireturn, 1) := by decide +kernel
theorem dX12_howMany_70 : decode cX12_howMany 70 = .ok (.bipush (-102), 2) := by decide +kernel
theorem dX12_howMany_72 : decode cX12_howMany 72 = .ok (.ireturn, 1) := by decide +kernel
theorem dX12_count_0 : decode cX12_count 0 = .ok (.aload_n 0, 1) := by decide +kernel
theorem dX12_count_1 : decode cX12_count 1 = .ok (.iload_n 1, 1) := by decide +kernel
theorem dX12_count_2 : decode cX12_count 2 = .ok (.invokevirtual 382, 3) := by decide +kernel
theorem dX12_count_5 : decode cX12_count 5 = .ok (.ireturn, 1) := by decide +kernel
theorem dX12_mix_0 : decode cX12_mix 0 = .ok (.aload_n 0, 1) := by decide +kernel
theorem dX12_mix_1 : decode cX12_mix 1 = .ok (.ldc2_w 385, 3) := by decide +kernel
theorem dX12_mix_4 : decode cX12_mix 4 = .ok (.aload_n 0, 1) := by decide +kernel
theorem dX12_mix_5 : decode cX12_mix 5 = .ok (.getfield 387, 3) := by decide +kernel
theorem dX12_mix_8 : decode cX12_mix 8 = .ok (.lmul, 1) := by decide +kernel
theorem dX12_mix_9 : decode cX12_mix 9 = .ok (.lload_n 1, 1) := by decide +kernel
theorem dX12_mix_10 : decode cX12_mix 10 = .ok (.ladd, 1) := by decide +kernel
theorem dX12_mix_11 : decode cX12_mix 11 = .ok (.putfield 387, 3) := by decide +kernel
theorem dX12_mix_14 : decode cX12_mix 14 = .ok (.return_, 1) := by decide +kernel
theorem dX12_mixChip_0 : decode cX12_mixChip 0 = .ok (.iconst 0, 1) := by decide +kernel
theorem dX12_mixChip_1 : decode cX12_mixChip 1 = .ok (.istore_n 1, 1) := by decide +kernel
theorem dX12_mixChip_2 : decode cX12_mixChip 2 = .ok (.iload_n 1, 1) := by decide +kernel
theorem dX12_mixChip_3 : decode cX12_mixChip 3 = .ok (.bipush 8, 2) := by decide +kernel
theorem dX12_mixChip_5 : decode cX12_mixChip 5 = .ok (.if_icmp .ge 19, 3) := by decide +kernel
theorem dX12_mixChip_8 : decode cX12_mixChip 8 = .ok (.aload_n 0, 1) := by decide +kernel
theorem dX12_mixChip_9 : decode cX12_mixChip 9 = .ok (.aload_n 0, 1) := by decide +kernel
theorem dX12_mixChip_10 : decode cX12_mixChip 10 = .ok (.iload_n 1, 1) := by decide +kernel
theorem dX12_mixChip_11 : decode cX12_mixChip 11 = .ok (.invokevirtual 267, 3) := by decide +kernel
theorem dX12_mixChip_14 : decode cX12_mixChip 14 = .ok (.i2l, 1) := by decide +kernel
theorem dX12_mixChip_15 : decode cX12_mixChip 15 = .ok (.invokevirtual 390, 3) := by decide +kernel
theorem dX12_mixChip_18 : decode cX12_mixChip 18 = .ok (.iinc 1 1, 3) := by decide +kernel
theorem dX12_mixChip_21 : decode cX12_mixChip 21 = .ok (.goto (-19), 3) := by decide +kernel
theorem dX12_mixChip_24 : decode cX12_mixChip 24 = .ok (.iconst 0, 1) := by decide +kernel
theorem dX12_mixChip_25 : decode cX12_mixChip 25 = .ok (.istore_n 1, 1) := by decide +kernel
theorem dX12_mixChip_26 : decode cX12_mixChip 26 = .ok (.iload_n 1, 1) := by decide +kernel
theorem dX12_mixChip_27 : decode cX12_mixChip 27 = .ok (.bipush 54, 2) := by decide +kernel
theorem dX12_mixChip_29 : decode cX12_mixChip 29 = .ok (.if_icmp .ge 41, 3) := by decide +kernel
theorem dX12_mixChip_32 : decode cX12_mixChip 32 = .ok (.iconst 0, 1) := by decide +kernel
theorem dX12_mixChip_33 : decode cX12_mixChip 33 = .ok (.istore_n 2, 1) := by decide +kernel
theorem dX12_mixChip_34 : decode cX12_mixChip 34 = .ok (.iload_n 2, 1) := by decide +kernel
theorem dX12_mixChip_35 : decode cX12_mixChip 35 = .ok (.iconst 4, 1) := by decide +kernel
theorem dX12_mixChip_36 : decode cX12_mixChip 36 = .ok (.if_icmp .ge 28, 3) := by decide +kernel
theorem dX12_mixChip_39 : decode cX12_mixChip 39 = .ok (.aload_n 0, 1) := by decide +kernel
theorem dX12_mixChip_40 : decode cX12_mixChip 40 = .ok (.iload_n 1, 1) := by decide +kernel
theorem dX12_mixChip_41 : decode cX12_mixChip 41 = .ok (.invokevirtual 246, 3) := by decide +kernel
theorem dX12_mixChip_44 : decode cX12_mixChip 44 = .ok (.ifCond .eq 20, 3) := by decide +kernel
theorem dX12_mixChip_47 : decode cX12_mixChip 47 = .ok (.aload_n 0, 1) := by decide +kernel
theorem dX12_mixChip_48 : decode cX12_mixChip 48 = .ok (.aload_n 0, 1) := by decide +kernel
theorem dX12_mixChip_49 : decode cX12_mixChip 49 = .ok (.iload_n 1, 1) := by decide +kernel
theorem dX12_mixChip_50 : decode cX12_mixChip 50 = .ok (.iload_n 2, 1) := by decide +kernel
theorem dX12_mixChip_51 : decode cX12_mixChip 51 = .ok (.invokevirtual 270, 3) := by decide +kernel
theorem dX12_mixChip_54 : decode cX12_mixChip 54 = .ok (.i2l, 1) := by decide +kernel
theorem dX12_mixChip_55 : decode cX12_mixChip 55 = .ok (.invokevirtual 390, 3) := by decide +kernel
theorem dX12_mixChip_58 : decode cX12_mixChip 58 = .ok (.iinc 2 1, 3) := by decide +kernel
theorem dX12_mixChip_61 : decode cX12_mixChip 61 = .ok (.goto (-27), 3) := by decide +kernel
theorem dX12_mixChip_64 : decode cX12_mixChip 64 = .ok (.iinc 1 1, 3) := by decide +kernel
theorem dX12_mixChip_67 : decode cX12_mixChip 67 = .ok (.goto (-41), 3) := by decide +kernel
theorem dX12_mixChip_70 : decode cX12_mixChip 70 = .ok (.return_, 1) := by decide +kernel
theorem dX12_mixCircuit_0 : decode cX12_mixCircuit 0 = .ok (.aload_n 0, 1) := by decide +kernel
theorem dX12_mixCircuit_1 : decode cX12_mixCircuit 1 = .ok (.iload_n 1, 1) := by decide +kernel
theorem dX12_mixCircuit_2 : decode cX12_mixCircuit 2 = .ok (.i2l, 1) := by decide +kernel
theorem dX12_mixCircuit_3 : decode cX12_mixCircuit 3 = .ok (.invokevirtual 390, 3) := by decide +kernel
theorem dX12_mixCircuit_6 : decode cX12_mixCircuit 6 = .ok (.iconst 0, 1) := by decide +kernel
theorem dX12_mixCircuit_7 : decode cX12_mixCircuit 7 = .ok (.istore_n 2, 1) := by decide +kernel
theorem dX12_mixCircuit_8 : decode cX12_mixCircuit 8 = .ok (.iload_n 2, 1) := by decide +kernel
theorem dX12_mixCircuit_9 : decode cX12_mixCircuit 9 = .ok (.bipush 15, 2) := by decide +kernel
theorem dX12_mixCircuit_11 : decode cX12_mixCircuit 11 = .ok (.if_icmp .ge 20, 3) := by decide +kernel
theorem dX12_mixCircuit_14 : decode cX12_mixCircuit 14 = .ok (.aload_n 0, 1) := by decide +kernel
theorem dX12_mixCircuit_15 : decode cX12_mixCircuit 15 = .ok (.aload_n 0, 1) := by decide +kernel
theorem dX12_mixCircuit_16 : decode cX12_mixCircuit 16 = .ok (.iload_n 1, 1) := by decide +kernel
theorem dX12_mixCircuit_17 : decode cX12_mixCircuit 17 = .ok (.iload_n 2, 1) := by decide +kernel
theorem dX12_mixCircuit_18 : decode cX12_mixCircuit 18 = .ok (.invokevirtual 300, 3) := by decide +kernel
theorem dX12_mixCircuit_21 : decode cX12_mixCircuit 21 = .ok (.i2l, 1) := by decide +kernel
theorem dX12_mixCircuit_22 : decode cX12_mixCircuit 22 = .ok (.invokevirtual 390, 3) := by decide +kernel
theorem dX12_mixCircuit_25 : decode cX12_mixCircuit 25 = .ok (.iinc 2 1, 3) := by decide +kernel
theorem dX12_mixCircuit_28 : decode cX12_mixCircuit 28 = .ok (.goto (-20), 3) := by decide +kernel
theorem dX12_mixCircuit_31 : decode cX12_mixCircuit 31 = .ok (.iconst 0, 1) := by decide +kernel
theorem dX12_mixCircuit_32 : decode cX12_mixCircuit 32 = .ok (.istore_n 2, 1) := by decide +kernel
theorem dX12_mixCircuit_33 : decode cX12_mixCircuit 33 = .ok (.iload_n 2, 1) := by decide +kernel
theorem dX12_mixCircuit_34 : decode cX12_mixCircuit 34 = .ok (.aload_n 0, 1) := by decide +kernel
theorem dX12_mixCircuit_35 : decode cX12_mixCircuit 35 = .ok (.getfield 38, 3) := by decide +kernel
theorem dX12_mixCircuit_38 : decode cX12_mixCircuit 38 = .ok (.iload_n 1, 1) := by decide +kernel
theorem dX12_mixCircuit_39 : decode cX12_mixCircuit 39 = .ok (.iaload, 1) := by decide +kernel
theorem dX12_mixCircuit_40 : decode cX12_mixCircuit 40 = .ok (.iconst 2, 1) := by decide +kernel
theorem dX12_mixCircuit_41 : decode cX12_mixCircuit 41 = .ok (.iadd, 1) := by decide +kernel
theorem dX12_mixCircuit_42 : decode cX12_mixCircuit 42 = .ok (.if_icmp .ge 25, 3) := by decide +kernel
theorem dX12_mixCircuit_45 : decode cX12_mixCircuit 45 = .ok (.aload_n 0, 1) := by decide +kernel
theorem dX12_mixCircuit_46 : decode cX12_mixCircuit 46 = .ok (.aload_n 0, 1) := by decide +kernel
theorem dX12_mixCircuit_47 : decode cX12_mixCircuit 47 = .ok (.getfield 41, 3) := by decide +kernel
theorem dX12_mixCircuit_50 : decode cX12_mixCircuit 50 = .ok (.bipush 8, 2) := by decide +kernel
theorem dX12_mixCircuit_52 : decode cX12_mixCircuit 52 = .ok (.iload_n 1, 1) := by decide +kernel
theorem dX12_mixCircuit_53 : decode cX12_mixCircuit 53 = .ok (.imul, 1) := by decide +kernel
theorem dX12_mixCircuit_54 : decode cX12_mixCircuit 54 = .ok (.iload_n 2, 1) := by decide +kernel
theorem dX12_mixCircuit_55 : decode cX12_mixCircuit 55 = .ok (.iadd, 1) := by decide +kernel
theorem dX12_mixCircuit_56 : decode cX12_mixCircuit 56 = .ok (.iaload, 1) := by decide +kernel
theorem dX12_mixCircuit_57 : decode cX12_mixCircuit 57 = .ok (.i2l, 1) := by decide +kernel
theorem dX12_mixCircuit_58 : decode cX12_mixCircuit 58 = .ok (.invokevirtual 390, 3) := by decide +kernel
theorem dX12_mixCircuit_61 : decode cX12_mixCircuit 61 = .ok (.iinc 2 1, 3) := by decide +kernel
theorem dX12_mixCircuit_64 : decode cX12_mixCircuit 64 = .ok (.goto (-31), 3) := by decide +kernel
theorem dX12_mixCircuit_67 : decode cX12_mixCircuit 67 = .ok (.iconst 0, 1) := by decide +kernel
theorem dX12_mixCircuit_68 : decode cX12_mixCircuit 68 = .ok (.istore_n 2, 1) := by decide +kernel
theorem dX12_mixCircuit_69 : decode cX12_mixCircuit 69 = .ok (.iload_n 2, 1) := by decide +kernel
theorem dX12_mixCircuit_70 : decode cX12_mixCircuit 70 = .ok (.aload_n 0, 1) := by decide +kernel
theorem dX12_mixCircuit_71 : decode cX12_mixCircuit 71 = .ok (.getfield 32, 3) := by decide +kernel
theorem dX12_mixCircuit_74 : decode cX12_mixCircuit 74 = .ok (.iload_n 1, 1) := by decide +kernel
theorem dX12_mixCircuit_75 : decode cX12_mixCircuit 75 = .ok (.iaload, 1) := by decide +kernel
theorem dX12_mixCircuit_76 : decode cX12_mixCircuit 76 = .ok (.if_icmp .ge 20, 3) := by decide +kernel
theorem dX12_mixCircuit_79 : decode cX12_mixCircuit 79 = .ok (.aload_n 0, 1) := by decide +kernel
theorem dX12_mixCircuit_80 : decode cX12_mixCircuit 80 = .ok (.aload_n 0, 1) := by decide +kernel
theorem dX12_mixCircuit_81 : decode cX12_mixCircuit 81 = .ok (.iload_n 1, 1) := by decide +kernel
theorem dX12_mixCircuit_82 : decode cX12_mixCircuit 82 = .ok (.iload_n 2, 1) := by decide +kernel
theorem dX12_mixCircuit_83 : decode cX12_mixCircuit 83 = .ok (.invokevirtual 303, 3) := by decide +kernel
theorem dX12_mixCircuit_86 : decode cX12_mixCircuit 86 = .ok (.i2l, 1) := by decide +kernel
theorem dX12_mixCircuit_87 : decode cX12_mixCircuit 87 = .ok (.invokevirtual 390, 3) := by decide +kernel
theorem dX12_mixCircuit_90 : decode cX12_mixCircuit 90 = .ok (.iinc 2 1, 3) := by decide +kernel
theorem dX12_mixCircuit_93 : decode cX12_mixCircuit 93 = .ok (.goto (-24), 3) := by decide +kernel
theorem dX12_mixCircuit_96 : decode cX12_mixCircuit 96 = .ok (.return_, 1) := by decide +kernel
theorem dX12_digest_0 : decode cX12_digest 0 = .ok (.aload_n 0, 1) := by decide +kernel
theorem dX12_digest_1 : decode cX12_digest 1 = .ok (.ldc2_w 394, 3) := by decide +kernel
theorem dX12_digest_4 : decode cX12_digest 4 = .ok (.putfield 387, 3) := by decide +kernel
theorem dX12_digest_7 : decode cX12_digest 7 = .ok (.aload_n 0, 1) := by decide +kernel
theorem dX12_digest_8 : decode cX12_digest 8 = .ok (.invokevirtual 264, 3) := by decide +kernel
theorem dX12_digest_11 : decode cX12_digest 11 = .ok (.ifCond .eq 7, 3) := by decide +kernel
theorem dX12_digest_14 : decode cX12_digest 14 = .ok (.aload_n 0, 1) := by decide +kernel
theorem dX12_digest_15 : decode cX12_digest 15 = .ok (.invokevirtual 396, 3) := by decide +kernel
theorem dX12_digest_18 : decode cX12_digest 18 = .ok (.iconst 0, 1) := by decide +kernel
theorem dX12_digest_19 : decode cX12_digest 19 = .ok (.istore_n 1, 1) := by decide +kernel
theorem dX12_digest_20 : decode cX12_digest 20 = .ok (.iload_n 1, 1) := by decide +kernel
theorem dX12_digest_21 : decode cX12_digest 21 = .ok (.bipush 8, 2) := by decide +kernel
theorem dX12_digest_23 : decode cX12_digest 23 = .ok (.if_icmp .ge 23, 3) := by decide +kernel
theorem dX12_digest_26 : decode cX12_digest 26 = .ok (.aload_n 0, 1) := by decide +kernel
theorem dX12_digest_27 : decode cX12_digest 27 = .ok (.getfield 20, 3) := by decide +kernel
theorem dX12_digest_30 : decode cX12_digest 30 = .ok (.iload_n 1, 1) := by decide +kernel
theorem dX12_digest_31 : decode cX12_digest 31 = .ok (.baload, 1) := by decide +kernel
theorem dX12_digest_32 : decode cX12_digest 32 = .ok (.ifCond .eq 8, 3) := by decide +kernel
theorem dX12_digest_35 : decode cX12_digest 35 = .ok (.aload_n 0, 1) := by decide +kernel
theorem dX12_digest_36 : decode cX12_digest 36 = .ok (.iload_n 1, 1) := by decide +kernel
theorem dX12_digest_37 : decode cX12_digest 37 = .ok (.invokevirtual 399, 3) := by decide +kernel
theorem dX12_digest_40 : decode cX12_digest 40 = .ok (.iinc 1 1, 3) := by decide +kernel
theorem dX12_digest_43 : decode cX12_digest 43 = .ok (.goto (-23), 3) := by decide +kernel
theorem dX12_digest_46 : decode cX12_digest 46 = .ok (.iconst 0, 1) := by decide +kernel
theorem dX12_digest_47 : decode cX12_digest 47 = .ok (.istore_n 1, 1) := by decide +kernel
theorem dX12_digest_48 : decode cX12_digest 48 = .ok (.iload_n 1, 1) := by decide +kernel
theorem dX12_digest_49 : decode cX12_digest 49 = .ok (.iconst 5, 1) := by decide +kernel
theorem dX12_digest_50 : decode cX12_digest 50 = .ok (.aload_n 0, 1) := by decide +kernel
theorem dX12_digest_51 : decode cX12_digest 51 = .ok (.getfield 194, 3) := by decide +kernel
theorem dX12_digest_54 : decode cX12_digest 54 = .ok (.imul, 1) := by decide +kernel
theorem dX12_digest_55 : decode cX12_digest 55 = .ok (.if_icmp .ge 24, 3) := by decide +kernel
theorem dX12_digest_58 : decode cX12_digest 58 = .ok (.aload_n 0, 1) := by decide +kernel
theorem dX12_digest_59 : decode cX12_digest 59 = .ok (.aload_n 0, 1) := by decide +kernel
theorem dX12_digest_60 : decode cX12_digest 60 = .ok (.iload_n 1, 1) := by decide +kernel
theorem dX12_digest_61 : decode cX12_digest 61 = .ok (.iconst 5, 1) := by decide +kernel
theorem dX12_digest_62 : decode cX12_digest 62 = .ok (.idiv, 1) := by decide +kernel
theorem dX12_digest_63 : decode cX12_digest 63 = .ok (.iload_n 1, 1) := by decide +kernel
theorem dX12_digest_64 : decode cX12_digest 64 = .ok (.iconst 5, 1) := by decide +kernel
theorem dX12_digest_65 : decode cX12_digest 65 = .ok (.irem, 1) := by decide +kernel
theorem dX12_digest_66 : decode cX12_digest 66 = .ok (.invokevirtual 319, 3) := by decide +kernel
theorem dX12_digest_69 : decode cX12_digest 69 = .ok (.i2l, 1) := by decide +kernel
theorem dX12_digest_70 : decode cX12_digest 70 = .ok (.invokevirtual 390, 3) := by decide +kernel
theorem dX12_digest_73 : decode cX12_digest 73 = .ok (.iinc 1 1, 3) := by decide +kernel
theorem dX12_digest_76 : decode cX12_digest 76 = .ok (.goto (-28), 3) := by decide +kernel
theorem dX12_digest_79 : decode cX12_digest 79 = .ok (.iconst 0, 1) := by decide +kernel
theorem dX12_digest_80 : decode cX12_digest 80 = .ok (.istore_n 1, 1) := by decide +kernel
theorem dX12_digest_81 : decode cX12_digest 81 = .ok (.iload_n 1, 1) := by decide +kernel
theorem dX12_digest_82 : decode cX12_digest 82 = .ok (.iconst 3, 1) := by decide +kernel
theorem dX12_digest_83 : decode cX12_digest 83 = .ok (.if_icmp .ge 20, 3) := by decide +kernel
theorem dX12_digest_86 : decode cX12_digest 86 = .ok (.aload_n 0, 1) := by decide +kernel
theorem dX12_digest_87 : decode cX12_digest 87 = .ok (.aload_n 0, 1) := by decide +kernel
theorem dX12_digest_88 : decode cX12_digest 88 = .ok (.iconst 1, 1) := by decide +kernel
theorem dX12_digest_89 : decode cX12_digest 89 = .ok (.iload_n 1, 1) := by decide +kernel
theorem dX12_digest_90 : decode cX12_digest 90 = .ok (.invokevirtual 322, 3) := by decide +kernel
theorem dX12_digest_93 : decode cX12_digest 93 = .ok (.i2l, 1) := by decide +kernel
theorem dX12_digest_94 : decode cX12_digest 94 = .ok (.invokevirtual 390, 3) := by decide +kernel
theorem dX12_digest_97 : decode cX12_digest 97 = .ok (.iinc 1 1, 3) := by decide +kernel
theorem dX12_digest_100 : decode cX12_digest 100 = .ok (.goto (-19), 3) := by decide +kernel
theorem dX12_digest_103 : decode cX12_digest 103 = .ok (.iconst 0, 1) := by decide +kernel
theorem dX12_digest_104 : decode cX12_digest 104 = .ok (.istore_n 1, 1) := by decide +kernel
theorem dX12_digest_105 : decode cX12_digest 105 = .ok (.iload_n 1, 1) := by decide +kernel
theorem dX12_digest_106 : decode cX12_digest 106 = .ok (.iconst 3, 1) := by decide +kernel
theorem dX12_digest_107 : decode cX12_digest 107 = .ok (.if_icmp .ge 20, 3) := by decide +kernel
theorem dX12_digest_110 : decode cX12_digest 110 = .ok (.aload_n 0, 1) := by decide +kernel
theorem dX12_digest_111 : decode cX12_digest 111 = .ok (.aload_n 0, 1) := by decide +kernel
theorem dX12_digest_112 : decode cX12_digest 112 = .ok (.iconst 0, 1) := by decide +kernel
theorem dX12_digest_113 : decode cX12_digest 113 = .ok (.iload_n 1, 1) := by decide +kernel
theorem dX12_digest_114 : decode cX12_digest 114 = .ok (.invokevirtual 322, 3) := by decide +kernel
theorem dX12_digest_117 : decode cX12_digest 117 = .ok (.i2l, 1) := by decide +kernel
theorem dX12_digest_118 : decode cX12_digest 118 = .ok (.invokevirtual 390, 3) := by decide +kernel
theorem dX12_digest_121 : decode cX12_digest 121 = .ok (.iinc 1 1, 3) := by decide +kernel
theorem dX12_digest_124 : decode cX12_digest 124 = .ok (.goto (-19), 3) := by decide +kernel
theorem dX12_digest_127 : decode cX12_digest 127 = .ok (.aload_n 0, 1) := by decide +kernel
theorem dX12_digest_128 : decode cX12_digest 128 = .ok (.aload_n 0, 1) := by decide +kernel
theorem dX12_digest_129 : decode cX12_digest 129 = .ok (.invokevirtual 309, 3) := by decide +kernel
theorem dX12_digest_132 : decode cX12_digest 132 = .ok (.i2l, 1) := by decide +kernel
theorem dX12_digest_133 : decode cX12_digest 133 = .ok (.invokevirtual 390, 3) := by decide +kernel
theorem dX12_digest_136 : decode cX12_digest 136 = .ok (.aload_n 0, 1) := by decide +kernel
theorem dX12_digest_137 : decode cX12_digest 137 = .ok (.aload_n 0, 1) := by decide +kernel
theorem dX12_digest_138 : decode cX12_digest 138 = .ok (.invokevirtual 325, 3) := by decide +kernel
theorem dX12_digest_141 : decode cX12_digest 141 = .ok (.i2l, 1) := by decide +kernel
theorem dX12_digest_142 : decode cX12_digest 142 = .ok (.invokevirtual 390, 3) := by decide +kernel
theorem dX12_digest_145 : decode cX12_digest 145 = .ok (.iconst 0, 1) := by decide +kernel
theorem dX12_digest_146 : decode cX12_digest 146 = .ok (.istore_n 1, 1) := by decide +kernel
theorem dX12_digest_147 : decode cX12_digest 147 = .ok (.iload_n 1, 1) := by decide +kernel
theorem dX12_digest_148 : decode cX12_digest 148 = .ok (.aload_n 0, 1) := by decide +kernel
theorem dX12_digest_149 : decode cX12_digest 149 = .ok (.getfield 138, 3) := by decide +kernel
theorem dX12_digest_152 : decode cX12_digest 152 = .ok (.if_icmp .ge 20, 3) := by decide +kernel
theorem dX12_digest_155 : decode cX12_digest 155 = .ok (.aload_n 0, 1) := by decide +kernel
theorem dX12_digest_156 : decode cX12_digest 156 = .ok (.aload_n 0, 1) := by decide +kernel
theorem dX12_digest_157 : decode cX12_digest 157 = .ok (.getfield 17, 3) := by decide +kernel
theorem dX12_digest_160 : decode cX12_digest 160 = .ok (.iload_n 1, 1) := by decide +kernel
theorem dX12_digest_161 : decode cX12_digest 161 = .ok (.iaload, 1) := by decide +kernel
theorem dX12_digest_162 : decode cX12_digest 162 = .ok (.i2l, 1) := by decide +kernel
theorem dX12_digest_163 : decode cX12_digest 163 = .ok (.invokevirtual 390, 3) := by decide +kernel
theorem dX12_digest_166 : decode cX12_digest 166 = .ok (.iinc 1 1, 3) := by decide +kernel
theorem dX12_digest_169 : decode cX12_digest 169 = .ok (.goto (-22), 3) := by decide +kernel
theorem dX12_digest_172 : decode cX12_digest 172 = .ok (.iconst 0, 1) := by decide +kernel
theorem dX12_digest_173 : decode cX12_digest 173 = .ok (.istore_n 1, 1) := by decide +kernel
theorem dX12_digest_174 : decode cX12_digest 174 = .ok (.iload_n 1, 1) := by decide +kernel
theorem dX12_digest_175 : decode cX12_digest 175 = .ok (.bipush 7, 2) := by decide +kernel
theorem dX12_digest_177 : decode cX12_digest 177 = .ok (.if_icmp .ge 19, 3) := by decide +kernel
theorem dX12_digest_180 : decode cX12_digest 180 = .ok (.aload_n 0, 1) := by decide +kernel
theorem dX12_digest_181 : decode cX12_digest 181 = .ok (.aload_n 0, 1) := by decide +kernel
theorem dX12_digest_182 : decode cX12_digest 182 = .ok (.iload_n 1, 1) := by decide +kernel
theorem dX12_digest_183 : decode cX12_digest 183 = .ok (.invokevirtual 382, 3) := by decide +kernel
theorem dX12_digest_186 : decode cX12_digest 186 = .ok (.i2l, 1) := by decide +kernel
theorem dX12_digest_187 : decode cX12_digest 187 = .ok (.invokevirtual 390, 3) := by decide +kernel
theorem dX12_digest_190 : decode cX12_digest 190 = .ok (.iinc 1 1, 3) := by decide +kernel
theorem dX12_digest_193 : decode cX12_digest 193 = .ok (.goto (-19), 3) := by decide +kernel
theorem dX12_digest_196 : decode cX12_digest 196 = .ok (.aload_n 0, 1) := by decide +kernel
theorem dX12_digest_197 : decode cX12_digest 197 = .ok (.getfield 387, 3) := by decide +kernel
theorem dX12_digest_200 : decode cX12_digest 200 = .ok (.lreturn, 1) := by decide +kernel
theorem dJ6_bitCount_0f7a4_0 : decode cJ6_bitCount_0f7a4 0 = .ok (.iload_n 0, 1) := by decide +kernel
theorem dJ6_bitCount_0f7a4_1 : decode cJ6_bitCount_0f7a4 1 = .ok (.iload_n 0, 1) := by decide +kernel
theorem dJ6_bitCount_0f7a4_2 : decode cJ6_bitCount_0f7a4 2 = .ok (.iconst 1, 1) := by decide +kernel
theorem dJ6_bitCount_0f7a4_3 : decode cJ6_bitCount_0f7a4 3 = .ok (.iushr, 1) := by decide +kernel
theorem dJ6_bitCount_0f7a4_4 : decode cJ6_bitCount_0f7a4 4 = .ok (.ldc_w 265, 3) := by decide +kernel
theorem dJ6_bitCount_0f7a4_7 : decode cJ6_bitCount_0f7a4 7 = .ok (.iand, 1) := by decide +kernel
theorem dJ6_bitCount_0f7a4_8 : decode cJ6_bitCount_0f7a4 8 = .ok (.isub, 1) := by decide +kernel
theorem dJ6_bitCount_0f7a4_9 : decode cJ6_bitCount_0f7a4 9 = .ok (.istore_n 0, 1) := by decide +kernel
theorem dJ6_bitCount_0f7a4_10 : decode cJ6_bitCount_0f7a4 10 = .ok (.iload_n 0, 1) := by decide +kernel
theorem dJ6_bitCount_0f7a4_11 : decode cJ6_bitCount_0f7a4 11 = .ok (.ldc_w 266, 3) := by decide +kernel
theorem dJ6_bitCount_0f7a4_14 : decode cJ6_bitCount_0f7a4 14 = .ok (.iand, 1) := by decide +kernel
theorem dJ6_bitCount_0f7a4_15 : decode cJ6_bitCount_0f7a4 15 = .ok (.iload_n 0, 1) := by decide +kernel
theorem dJ6_bitCount_0f7a4_16 : decode cJ6_bitCount_0f7a4 16 = .ok (.iconst 2, 1) := by decide +kernel
theorem dJ6_bitCount_0f7a4_17 : decode cJ6_bitCount_0f7a4 17 = .ok (.iushr, 1) := by decide +kernel
theorem dJ6_bitCount_0f7a4_18 : decode cJ6_bitCount_0f7a4 18 = .ok (.ldc_w 266, 3) := by decide +kernel
theorem dJ6_bitCount_0f7a4_21 : decode cJ6_bitCount_0f7a4 21 = .ok (.iand, 1) := by decide +kernel
theorem dJ6_bitCount_0f7a4_22 : decode cJ6_bitCount_0f7a4 22 = .ok (.iadd, 1) := by decide +kernel
theorem dJ6_bitCount_0f7a4_23 : decode cJ6_bitCount_0f7a4 23 = .ok (.istore_n 0, 1) := by decide +kernel
theorem dJ6_bitCount_0f7a4_24 : decode cJ6_bitCount_0f7a4 24 = .ok (.iload_n 0, 1) := by decide +kernel
theorem dJ6_bitCount_0f7a4_25 : decode cJ6_bitCount_0f7a4 25 = .ok (.iload_n 0, 1) := by decide +kernel
theorem dJ6_bitCount_0f7a4_26 : decode cJ6_bitCount_0f7a4 26 = .ok (.iconst 4, 1) := by decide +kernel
theorem dJ6_bitCount_0f7a4_27 : decode cJ6_bitCount_0f7a4 27 = .ok (.iushr, 1) := by decide +kernel
theorem dJ6_bitCount_0f7a4_28 : decode cJ6_bitCount_0f7a4 28 = .ok (.iadd, 1) := by decide +kernel
theorem dJ6_bitCount_0f7a4_29 : decode cJ6_bitCount_0f7a4 29 = .ok (.ldc_w 267, 3) := by decide +kernel
theorem dJ6_bitCount_0f7a4_32 : decode cJ6_bitCount_0f7a4 32 = .ok (.iand, 1) := by decide +kernel
theorem dJ6_bitCount_0f7a4_33 : decode cJ6_bitCount_0f7a4 33 = .ok (.istore_n 0, 1) := by decide +kernel
theorem dJ6_bitCount_0f7a4_34 : decode cJ6_bitCount_0f7a4 34 = .ok (.iload_n 0, 1) := by decide +kernel
theorem dJ6_bitCount_0f7a4_35 : decode cJ6_bitCount_0f7a4 35 = .ok (.iload_n 0, 1) := by decide +kernel
theorem dJ6_bitCount_0f7a4_36 : decode cJ6_bitCount_0f7a4 36 = .ok (.bipush 8, 2) := by decide +kernel
theorem dJ6_bitCount_0f7a4_38 : decode cJ6_bitCount_0f7a4 38 = .ok (.iushr, 1) := by decide +kernel
theorem dJ6_bitCount_0f7a4_39 : decode cJ6_bitCount_0f7a4 39 = .ok (.iadd, 1) := by decide +kernel
theorem dJ6_bitCount_0f7a4_40 : decode cJ6_bitCount_0f7a4 40 = .ok (.istore_n 0, 1) := by decide +kernel
theorem dJ6_bitCount_0f7a4_41 : decode cJ6_bitCount_0f7a4 41 = .ok (.iload_n 0, 1) := by decide +kernel
theorem dJ6_bitCount_0f7a4_42 : decode cJ6_bitCount_0f7a4 42 = .ok (.iload_n 0, 1) := by decide +kernel
theorem dJ6_bitCount_0f7a4_43 : decode cJ6_bitCount_0f7a4 43 = .ok (.bipush 16, 2) := by decide +kernel
theorem dJ6_bitCount_0f7a4_45 : decode cJ6_bitCount_0f7a4 45 = .ok (.iushr, 1) := by decide +kernel
theorem dJ6_bitCount_0f7a4_46 : decode cJ6_bitCount_0f7a4 46 = .ok (.iadd, 1) := by decide +kernel
theorem dJ6_bitCount_0f7a4_47 : decode cJ6_bitCount_0f7a4 47 = .ok (.istore_n 0, 1) := by decide +kernel
theorem dJ6_bitCount_0f7a4_48 : decode cJ6_bitCount_0f7a4 48 = .ok (.iload_n 0, 1) := by decide +kernel
theorem dJ6_bitCount_0f7a4_49 : decode cJ6_bitCount_0f7a4 49 = .ok (.bipush 63, 2) := by decide +kernel
theorem dJ6_bitCount_0f7a4_51 : decode cJ6_bitCount_0f7a4 51 = .ok (.iand, 1) := by decide +kernel
theorem dJ6_bitCount_0f7a4_52 : decode cJ6_bitCount_0f7a4 52 = .ok (.ireturn, 1) := by decide +kernel
theorem dJ9_floorMod_7cf53_0 : decode cJ9_floorMod_7cf53 0 = .ok (.iload_n 0, 1) := by decide +kernel
theorem dJ9_floorMod_7cf53_1 : decode cJ9_floorMod_7cf53 1 = .ok (.iload_n 1, 1) := by decide +kernel
theorem dJ9_floorMod_7cf53_2 : decode cJ9_floorMod_7cf53 2 = .ok (.irem, 1) := by decide +kernel
theorem dJ9_floorMod_7cf53_3 : decode cJ9_floorMod_7cf53 3 = .ok (.istore_n 2, 1) := by decide +kernel
theorem dJ9_floorMod_7cf53_4 : decode cJ9_floorMod_7cf53 4 = .ok (.iload_n 0, 1) := by decide +kernel
theorem dJ9_floorMod_7cf53_5 : decode cJ9_floorMod_7cf53 5 = .ok (.iload_n 1, 1) := by decide +kernel
theorem dJ9_floorMod_7cf53_6 : decode cJ9_floorMod_7cf53 6 = .ok (.ixor, 1) := by decide +kernel
theorem dJ9_floorMod_7cf53_7 : decode cJ9_floorMod_7cf53 7 = .ok (.ifCond .ge 11, 3) := by decide +kernel
theorem dJ9_floorMod_7cf53_10 : decode cJ9_floorMod_7cf53 10 = .ok (.iload_n 2, 1) := by decide +kernel
theorem dJ9_floorMod_7cf53_11 : decode cJ9_floorMod_7cf53 11 = .ok (.ifCond .eq 7, 3) := by decide +kernel
theorem dJ9_floorMod_7cf53_14 : decode cJ9_floorMod_7cf53 14 = .ok (.iload_n 2, 1) := by decide +kernel
theorem dJ9_floorMod_7cf53_15 : decode cJ9_floorMod_7cf53 15 = .ok (.iload_n 1, 1) := by decide +kernel
theorem dJ9_floorMod_7cf53_16 : decode cJ9_floorMod_7cf53 16 = .ok (.iadd, 1) := by decide +kernel
theorem dJ9_floorMod_7cf53_17 : decode cJ9_floorMod_7cf53 17 = .ok (.ireturn, 1) := by decide +kernel
theorem dJ9_floorMod_7cf53_18 : decode cJ9_floorMod_7cf53 18 = .ok (.iload_n 2, 1) := by decide +kernel
theorem dJ9_floorMod_7cf53_19 : decode cJ9_floorMod_7cf53 19 = .ok (.ireturn, 1) := by decide +kernel
theorem dJ9_max_7cf53_0 : decode cJ9_max_7cf53 0 = .ok (.iload_n 0, 1) := by decide +kernel
theorem dJ9_max_7cf53_1 : decode cJ9_max_7cf53 1 = .ok (.iload_n 1, 1) := by decide +kernel
theorem dJ9_max_7cf53_2 : decode cJ9_max_7cf53 2 = .ok (.if_icmp .lt 7, 3) := by decide +kernel
theorem dJ9_max_7cf53_5 : decode cJ9_max_7cf53 5 = .ok (.iload_n 0, 1) := by decide +kernel
theorem dJ9_max_7cf53_6 : decode cJ9_max_7cf53 6 = .ok (.goto 4, 3) := by decide +kernel
theorem dJ9_max_7cf53_9 : decode cJ9_max_7cf53 9 = .ok (.iload_n 1, 1) := by decide +kernel
theorem dJ9_max_7cf53_10 : decode cJ9_max_7cf53 10 = .ok (.ireturn, 1) := by decide +kernel
theorem dJ9_min_7cf53_0 : decode cJ9_min_7cf53 0 = .ok (.iload_n 0, 1) := by decide +kernel
theorem dJ9_min_7cf53_1 : decode cJ9_min_7cf53 1 = .ok (.iload_n 1, 1) := by decide +kernel
theorem dJ9_min_7cf53_2 : decode cJ9_min_7cf53 2 = .ok (.if_icmp .gt 7, 3) := by decide +kernel
theorem dJ9_min_7cf53_5 : decode cJ9_min_7cf53 5 = .ok (.iload_n 0, 1) := by decide +kernel
theorem dJ9_min_7cf53_6 : decode cJ9_min_7cf53 6 = .ok (.goto 4, 3) := by decide +kernel
theorem dJ9_min_7cf53_9 : decode cJ9_min_7cf53 9 = .ok (.iload_n 1, 1) := by decide +kernel
theorem dJ9_min_7cf53_10 : decode cJ9_min_7cf53 10 = .ok (.ireturn, 1) := by decide +kernel
theorem dL_law_0 : decode cL_law 0 = .ok (.new 7, 3) := by decide +kernel
theorem dL_law_3 : decode cL_law 3 = .ok (.dup, 1) := by decide +kernel
theorem dL_law_4 : decode cL_law 4 = .ok (.invokespecial 9, 3) := by decide +kernel
theorem dL_law_7 : decode cL_law 7 = .ok (.astore_n 1, 1) := by decide +kernel
theorem dL_law_8 : decode cL_law 8 = .ok (.new 10, 3) := by decide +kernel
theorem dL_law_11 : decode cL_law 11 = .ok (.dup, 1) := by decide +kernel
theorem dL_law_12 : decode cL_law 12 = .ok (.invokespecial 12, 3) := by decide +kernel
theorem dL_law_15 : decode cL_law 15 = .ok (.astore_n 2, 1) := by decide +kernel
theorem dL_law_16 : decode cL_law 16 = .ok (.iconst 0, 1) := by decide +kernel
theorem dL_law_17 : decode cL_law 17 = .ok (.istore_n 3, 1) := by decide +kernel
theorem dL_law_18 : decode cL_law 18 = .ok (.iload_n 3, 1) := by decide +kernel
theorem dL_law_19 : decode cL_law 19 = .ok (.aload_n 0, 1) := by decide +kernel
theorem dL_law_20 : decode cL_law 20 = .ok (.arraylength, 1) := by decide +kernel
theorem dL_law_21 : decode cL_law 21 = .ok (.bipush 6, 2) := by decide +kernel
theorem dL_law_23 : decode cL_law 23 = .ok (.isub, 1) := by decide +kernel
theorem dL_law_24 : decode cL_law 24 = .ok (.if_icmp .gt 938, 3) := by decide +kernel
theorem dL_law_27 : decode cL_law 27 = .ok (.aload_n 0, 1) := by decide +kernel
theorem dL_law_28 : decode cL_law 28 = .ok (.iload_n 3, 1) := by decide +kernel
theorem dL_law_29 : decode cL_law 29 = .ok (.iaload, 1) := by decide +kernel
theorem dL_law_30 : decode cL_law 30 = .ok (.bipush 31, 2) := by decide +kernel
theorem dL_law_32 : decode cL_law 32 = .ok (.iand, 1) := by decide +kernel
theorem dL_law_33 : decode cL_law 33 = .ok (.tableswitch 923 0 26 #[123, 146, 159, 172, 185, 208, 241, 274, 323, 386, 419, 452, 485, 518, 551, 574, 597, 630, 663, 676, 735, 768, 817, 830, 853, 886, 909], 123) := by decide +kernel
theorem dL_law_156 : decode cL_law 156 = .ok (.aload_n 1, 1) := by decide +kernel
theorem dL_law_157 : decode cL_law 157 = .ok (.aload_n 0, 1) := by decide +kernel
theorem dL_law_158 : decode cL_law 158 = .ok (.iload_n 3, 1) := by decide +kernel
theorem dL_law_159 : decode cL_law 159 = .ok (.iconst 1, 1) := by decide +kernel
theorem dL_law_160 : decode cL_law 160 = .ok (.iadd, 1) := by decide +kernel
theorem dL_law_161 : decode cL_law 161 = .ok (.iaload, 1) := by decide +kernel
theorem dL_law_162 : decode cL_law 162 = .ok (.invokevirtual 13, 3) := by decide +kernel
theorem dL_law_165 : decode cL_law 165 = .ok (.aload_n 2, 1) := by decide +kernel
theorem dL_law_166 : decode cL_law 166 = .ok (.aload_n 0, 1) := by decide +kernel
theorem dL_law_167 : decode cL_law 167 = .ok (.iload_n 3, 1) := by decide +kernel
theorem dL_law_168 : decode cL_law 168 = .ok (.iconst 1, 1) := by decide +kernel
theorem dL_law_169 : decode cL_law 169 = .ok (.iadd, 1) := by decide +kernel
theorem dL_law_170 : decode cL_law 170 = .ok (.iaload, 1) := by decide +kernel
theorem dL_law_171 : decode cL_law 171 = .ok (.invokevirtual 17, 3) := by decide +kernel
theorem dL_law_174 : decode cL_law 174 = .ok (.if_icmp .eq 782, 3) := by decide +kernel
theorem dL_law_177 : decode cL_law 177 = .ok (.iconst 0, 1) := by decide +kernel
theorem dL_law_178 : decode cL_law 178 = .ok (.ireturn, 1) := by decide +kernel
theorem dL_law_179 : decode cL_law 179 = .ok (.aload_n 1, 1) := by decide +kernel
theorem dL_law_180 : decode cL_law 180 = .ok (.invokevirtual 18, 3) := by decide +kernel
theorem dL_law_183 : decode cL_law 183 = .ok (.aload_n 2, 1) := by decide +kernel
theorem dL_law_184 : decode cL_law 184 = .ok (.invokevirtual 22, 3) := by decide +kernel
theorem dL_law_187 : decode cL_law 187 = .ok (.if_icmp .eq 769, 3) := by decide +kernel
theorem dL_law_190 : decode cL_law 190 = .ok (.iconst 0, 1) := by decide +kernel
theorem dL_law_191 : decode cL_law 191 = .ok (.ireturn, 1) := by decide +kernel
theorem dL_law_192 : decode cL_law 192 = .ok (.aload_n 1, 1) := by decide +kernel
theorem dL_law_193 : decode cL_law 193 = .ok (.invokevirtual 23, 3) := by decide +kernel
theorem dL_law_196 : decode cL_law 196 = .ok (.aload_n 2, 1) := by decide +kernel
theorem dL_law_197 : decode cL_law 197 = .ok (.invokevirtual 26, 3) := by decide +kernel
theorem dL_law_200 : decode cL_law 200 = .ok (.if_icmp .eq 756, 3) := by decide +kernel
theorem dL_law_203 : decode cL_law 203 = .ok (.iconst 0, 1) := by decide +kernel
theorem dL_law_204 : decode cL_law 204 = .ok (.ireturn, 1) := by decide +kernel
theorem dL_law_205 : decode cL_law 205 = .ok (.aload_n 1, 1) := by decide +kernel
theorem dL_law_206 : decode cL_law 206 = .ok (.invokevirtual 27, 3) := by decide +kernel
theorem dL_law_209 : decode cL_law 209 = .ok (.aload_n 2, 1) := by decide +kernel
theorem dL_law_210 : decode cL_law 210 = .ok (.invokevirtual 30, 3) := by decide +kernel
theorem dL_law_213 : decode cL_law 213 = .ok (.if_icmp .eq 743, 3) := by decide +kernel
theorem dL_law_216 : decode cL_law 216 = .ok (.iconst 0, 1) := by decide +kernel
theorem dL_law_217 : decode cL_law 217 = .ok (.ireturn, 1) := by decide +kernel
theorem dL_law_218 : decode cL_law 218 = .ok (.aload_n 1, 1) := by decide +kernel
theorem dL_law_219 : decode cL_law 219 = .ok (.aload_n 0, 1) := by decide +kernel
theorem dL_law_220 : decode cL_law 220 = .ok (.iload_n 3, 1) := by decide +kernel
theorem dL_law_221 : decode cL_law 221 = .ok (.iconst 1, 1) := by decide +kernel
theorem dL_law_222 : decode cL_law 222 = .ok (.iadd, 1) := by decide +kernel
theorem dL_law_223 : decode cL_law 223 = .ok (.iaload, 1) := by decide +kernel
theorem dL_law_224 : decode cL_law 224 = .ok (.invokevirtual 31, 3) := by decide +kernel
theorem dL_law_227 : decode cL_law 227 = .ok (.aload_n 2, 1) := by decide +kernel
theorem dL_law_228 : decode cL_law 228 = .ok (.aload_n 0, 1) := by decide +kernel
theorem dL_law_229 : decode cL_law 229 = .ok (.iload_n 3, 1) := by decide +kernel
theorem dL_law_230 : decode cL_law 230 = .ok (.iconst 1, 1) := by decide +kernel
theorem dL_law_231 : decode cL_law 231 = .ok (.iadd, 1) := by decide +kernel
theorem dL_law_232 : decode cL_law 232 = .ok (.iaload, 1) := by decide +kernel
theorem dL_law_233 : decode cL_law 233 = .ok (.invokevirtual 34, 3) := by decide +kernel
theorem dL_law_236 : decode cL_law 236 = .ok (.if_icmp .eq 720, 3) := by decide +kernel
theorem dL_law_239 : decode cL_law 239 = .ok (.iconst 0, 1) := by decide +kernel
theorem dL_law_240 : decode cL_law 240 = .ok (.ireturn, 1) := by decide +kernel
theorem dL_law_241 : decode cL_law 241 = .ok (.aload_n 1, 1) := by decide +kernel
theorem dL_law_242 : decode cL_law 242 = .ok (.aload_n 0, 1) := by decide +kernel
theorem dL_law_243 : decode cL_law 243 = .ok (.iload_n 3, 1) := by decide +kernel
theorem dL_law_244 : decode cL_law 244 = .ok (.iconst 1, 1) := by decide +kernel
theorem dL_law_245 : decode cL_law 245 = .ok (.iadd, 1) := by decide +kernel
theorem dL_law_246 : decode cL_law 246 = .ok (.iaload, 1) := by decide +kernel
theorem dL_law_247 : decode cL_law 247 = .ok (.aload_n 0, 1) := by decide +kernel
theorem dL_law_248 : decode cL_law 248 = .ok (.iload_n 3, 1) := by decide +kernel
theorem dL_law_249 : decode cL_law 249 = .ok (.iconst 2, 1) := by decide +kernel
theorem dL_law_250 : decode cL_law 250 = .ok (.iadd, 1) := by decide +kernel
theorem dL_law_251 : decode cL_law 251 = .ok (.iaload, 1) := by decide +kernel
theorem dL_law_252 : decode cL_law 252 = .ok (.invokevirtual 35, 3) := by decide +kernel
theorem dL_law_255 : decode cL_law 255 = .ok (.aload_n 2, 1) := by decide +kernel
theorem dL_law_256 : decode cL_law 256 = .ok (.aload_n 0, 1) := by decide +kernel
theorem dL_law_257 : decode cL_law 257 = .ok (.iload_n 3, 1) := by decide +kernel
theorem dL_law_258 : decode cL_law 258 = .ok (.iconst 1, 1) := by decide +kernel
theorem dL_law_259 : decode cL_law 259 = .ok (.iadd, 1) := by decide +kernel
theorem dL_law_260 : decode cL_law 260 = .ok (.iaload, 1) := by decide +kernel
theorem dL_law_261 : decode cL_law 261 = .ok (.aload_n 0, 1) := by decide +kernel
theorem dL_law_262 : decode cL_law 262 = .ok (.iload_n 3, 1) := by decide +kernel
theorem dL_law_263 : decode cL_law 263 = .ok (.iconst 2, 1) := by decide +kernel
theorem dL_law_264 : decode cL_law 264 = .ok (.iadd, 1) := by decide +kernel
theorem dL_law_265 : decode cL_law 265 = .ok (.iaload, 1) := by decide +kernel
theorem dL_law_266 : decode cL_law 266 = .ok (.invokevirtual 39, 3) := by decide +kernel
theorem dL_law_269 : decode cL_law 269 = .ok (.if_icmp .eq 687, 3) := by decide +kernel
theorem dL_law_272 : decode cL_law 272 = .ok (.iconst 0, 1) := by decide +kernel
theorem dL_law_273 : decode cL_law 273 = .ok (.ireturn, 1) := by decide +kernel
theorem dL_law_274 : decode cL_law 274 = .ok (.aload_n 1, 1) := by decide +kernel
theorem dL_law_275 : decode cL_law 275 = .ok (.aload_n 0, 1) := by decide +kernel
theorem dL_law_276 : decode cL_law 276 = .ok (.iload_n 3, 1) := by decide +kernel
theorem dL_law_277 : decode cL_law 277 = .ok (.iconst 1, 1) := by decide +kernel
theorem dL_law_278 : decode cL_law 278 = .ok (.iadd, 1) := by decide +kernel
theorem dL_law_279 : decode cL_law 279 = .ok (.iaload, 1) := by decide +kernel
theorem dL_law_280 : decode cL_law 280 = .ok (.aload_n 0, 1) := by decide +kernel
theorem dL_law_281 : decode cL_law 281 = .ok (.iload_n 3, 1) := by decide +kernel
theorem dL_law_282 : decode cL_law 282 = .ok (.iconst 2, 1) := by decide +kernel
theorem dL_law_283 : decode cL_law 283 = .ok (.iadd, 1) := by decide +kernel
theorem dL_law_284 : decode cL_law 284 = .ok (.iaload, 1) := by decide +kernel
theorem dL_law_285 : decode cL_law 285 = .ok (.invokevirtual 40, 3) := by decide +kernel
theorem dL_law_288 : decode cL_law 288 = .ok (.aload_n 2, 1) := by decide +kernel
theorem dL_law_289 : decode cL_law 289 = .ok (.aload_n 0, 1) := by decide +kernel
theorem dL_law_290 : decode cL_law 290 = .ok (.iload_n 3, 1) := by decide +kernel
theorem dL_law_291 : decode cL_law 291 = .ok (.iconst 1, 1) := by decide +kernel
theorem dL_law_292 : decode cL_law 292 = .ok (.iadd, 1) := by decide +kernel
theorem dL_law_293 : decode cL_law 293 = .ok (.iaload, 1) := by decide +kernel
theorem dL_law_294 : decode cL_law 294 = .ok (.aload_n 0, 1) := by decide +kernel
theorem dL_law_295 : decode cL_law 295 = .ok (.iload_n 3, 1) := by decide +kernel
theorem dL_law_296 : decode cL_law 296 = .ok (.iconst 2, 1) := by decide +kernel
theorem dL_law_297 : decode cL_law 297 = .ok (.iadd, 1) := by decide +kernel
theorem dL_law_298 : decode cL_law 298 = .ok (.iaload, 1) := by decide +kernel
theorem dL_law_299 : decode cL_law 299 = .ok (.invokevirtual 43, 3) := by decide +kernel
theorem dL_law_302 : decode cL_law 302 = .ok (.if_icmp .eq 654, 3) := by decide +kernel
theorem dL_law_305 : decode cL_law 305 = .ok (.iconst 0, 1) := by decide +kernel
theorem dL_law_306 : decode cL_law 306 = .ok (.ireturn, 1) := by decide +kernel
theorem dL_law_307 : decode cL_law 307 = .ok (.aload_n 1, 1) := by decide +kernel
theorem dL_law_308 : decode cL_law 308 = .ok (.aload_n 0, 1) := by decide +kernel
theorem dL_law_309 : decode cL_law 309 = .ok (.iload_n 3, 1) := by decide +kernel
theorem dL_law_310 : decode cL_law 310 = .ok (.iconst 1, 1) := by decide +kernel
theorem dL_law_311 : decode cL_law 311 = .ok (.iadd, 1) := by decide +kernel
theorem dL_law_312 : decode cL_law 312 = .ok (.iaload, 1) := by decide +kernel
theorem dL_law_313 : decode cL_law 313 = .ok (.aload_n 0, 1) := by decide +kernel
theorem dL_law_314 : decode cL_law 314 = .ok (.iload_n 3, 1) := by decide +kernel
theorem dL_law_315 : decode cL_law 315 = .ok (.iconst 2, 1) := by decide +kernel
theorem dL_law_316 : decode cL_law 316 = .ok (.iadd, 1) := by decide +kernel
theorem dL_law_317 : decode cL_law 317 = .ok (.iaload, 1) := by decide +kernel
theorem dL_law_318 : decode cL_law 318 = .ok (.ifCond .eq 7, 3) := by decide +kernel
theorem dL_law_321 : decode cL_law 321 = .ok (.iconst 1, 1) := by decide +kernel
theorem dL_law_322 : decode cL_law 322 = .ok (.goto 4, 3) := by decide +kernel
theorem dL_law_325 : decode cL_law 325 = .ok (.iconst 0, 1) := by decide +kernel
theorem dL_law_326 : decode cL_law 326 = .ok (.invokevirtual 44, 3) := by decide +kernel
theorem dL_law_329 : decode cL_law 329 = .ok (.aload_n 2, 1) := by decide +kernel
theorem dL_law_330 : decode cL_law 330 = .ok (.aload_n 0, 1) := by decide +kernel
theorem dL_law_331 : decode cL_law 331 = .ok (.iload_n 3, 1) := by decide +kernel
theorem dL_law_332 : decode cL_law 332 = .ok (.iconst 1, 1) := by decide +kernel
theorem dL_law_333 : decode cL_law 333 = .ok (.iadd, 1) := by decide +kernel
theorem dL_law_334 : decode cL_law 334 = .ok (.iaload, 1) := by decide +kernel
theorem dL_law_335 : decode cL_law 335 = .ok (.aload_n 0, 1) := by decide +kernel
theorem dL_law_336 : decode cL_law 336 = .ok (.iload_n 3, 1) := by decide +kernel
theorem dL_law_337 : decode cL_law 337 = .ok (.iconst 2, 1) := by decide +kernel
theorem dL_law_338 : decode cL_law 338 = .ok (.iadd, 1) := by decide +kernel
theorem dL_law_339 : decode cL_law 339 = .ok (.iaload, 1) := by decide +kernel
theorem dL_law_340 : decode cL_law 340 = .ok (.ifCond .eq 7, 3) := by decide +kernel
theorem dL_law_343 : decode cL_law 343 = .ok (.iconst 1, 1) := by decide +kernel
theorem dL_law_344 : decode cL_law 344 = .ok (.goto 4, 3) := by decide +kernel
theorem dL_law_347 : decode cL_law 347 = .ok (.iconst 0, 1) := by decide +kernel
theorem dL_law_348 : decode cL_law 348 = .ok (.invokevirtual 48, 3) := by decide +kernel
theorem dL_law_351 : decode cL_law 351 = .ok (.if_icmp .eq 605, 3) := by decide +kernel
theorem dL_law_354 : decode cL_law 354 = .ok (.iconst 0, 1) := by decide +kernel
theorem dL_law_355 : decode cL_law 355 = .ok (.ireturn, 1) := by decide +kernel
theorem dL_law_356 : decode cL_law 356 = .ok (.aload_n 1, 1) := by decide +kernel
theorem dL_law_357 : decode cL_law 357 = .ok (.aload_n 0, 1) := by decide +kernel
theorem dL_law_358 : decode cL_law 358 = .ok (.iload_n 3, 1) := by decide +kernel
theorem dL_law_359 : decode cL_law 359 = .ok (.iconst 1, 1) := by decide +kernel
theorem dL_law_360 : decode cL_law 360 = .ok (.iadd, 1) := by decide +kernel
theorem dL_law_361 : decode cL_law 361 = .ok (.iaload, 1) := by decide +kernel
theorem dL_law_362 : decode cL_law 362 = .ok (.aload_n 0, 1) := by decide +kernel
theorem dL_law_363 : decode cL_law 363 = .ok (.iload_n 3, 1) := by decide +kernel
theorem dL_law_364 : decode cL_law 364 = .ok (.iconst 2, 1) := by decide +kernel
theorem dL_law_365 : decode cL_law 365 = .ok (.iadd, 1) := by decide +kernel
theorem dL_law_366 : decode cL_law 366 = .ok (.iaload, 1) := by decide +kernel
theorem dL_law_367 : decode cL_law 367 = .ok (.aload_n 0, 1) := by decide +kernel
theorem dL_law_368 : decode cL_law 368 = .ok (.iload_n 3, 1) := by decide +kernel
theorem dL_law_369 : decode cL_law 369 = .ok (.iconst 3, 1) := by decide +kernel
theorem dL_law_370 : decode cL_law 370 = .ok (.iadd, 1) := by decide +kernel
theorem dL_law_371 : decode cL_law 371 = .ok (.iaload, 1) := by decide +kernel
theorem dL_law_372 : decode cL_law 372 = .ok (.aload_n 0, 1) := by decide +kernel
theorem dL_law_373 : decode cL_law 373 = .ok (.iload_n 3, 1) := by decide +kernel
theorem dL_law_374 : decode cL_law 374 = .ok (.iconst 4, 1) := by decide +kernel
theorem dL_law_375 : decode cL_law 375 = .ok (.iadd, 1) := by decide +kernel
theorem dL_law_376 : decode cL_law 376 = .ok (.iaload, 1) := by decide +kernel
theorem dL_law_377 : decode cL_law 377 = .ok (.aload_n 0, 1) := by decide +kernel
theorem dL_law_378 : decode cL_law 378 = .ok (.iload_n 3, 1) := by decide +kernel
theorem dL_law_379 : decode cL_law 379 = .ok (.iconst 5, 1) := by decide +kernel
theorem dL_law_380 : decode cL_law 380 = .ok (.iadd, 1) := by decide +kernel
theorem dL_law_381 : decode cL_law 381 = .ok (.iaload, 1) := by decide +kernel
theorem dL_law_382 : decode cL_law 382 = .ok (.invokevirtual 49, 3) := by decide +kernel
theorem dL_law_385 : decode cL_law 385 = .ok (.aload_n 2, 1) := by decide +kernel
theorem dL_law_386 : decode cL_law 386 = .ok (.aload_n 0, 1) := by decide +kernel
theorem dL_law_387 : decode cL_law 387 = .ok (.iload_n 3, 1) := by decide +kernel
theorem dL_law_388 : decode cL_law 388 = .ok (.iconst 1, 1) := by decide +kernel
theorem dL_law_389 : decode cL_law 389 = .ok (.iadd, 1) := by decide +kernel
theorem dL_law_390 : decode cL_law 390 = .ok (.iaload, 1) := by decide +kernel
theorem dL_law_391 : decode cL_law 391 = .ok (.aload_n 0, 1) := by decide +kernel
theorem dL_law_392 : decode cL_law 392 = .ok (.iload_n 3, 1) := by decide +kernel
theorem dL_law_393 : decode cL_law 393 = .ok (.iconst 2, 1) := by decide +kernel
theorem dL_law_394 : decode cL_law 394 = .ok (.iadd, 1) := by decide +kernel
theorem dL_law_395 : decode cL_law 395 = .ok (.iaload, 1) := by decide +kernel
theorem dL_law_396 : decode cL_law 396 = .ok (.aload_n 0, 1) := by decide +kernel
theorem dL_law_397 : decode cL_law 397 = .ok (.iload_n 3, 1) := by decide +kernel
theorem dL_law_398 : decode cL_law 398 = .ok (.iconst 3, 1) := by decide +kernel
theorem dL_law_399 : decode cL_law 399 = .ok (.iadd, 1) := by decide +kernel
theorem dL_law_400 : decode cL_law 400 = .ok (.iaload, 1) := by decide +kernel
theorem dL_law_401 : decode cL_law 401 = .ok (.aload_n 0, 1) := by decide +kernel
theorem dL_law_402 : decode cL_law 402 = .ok (.iload_n 3, 1) := by decide +kernel
theorem dL_law_403 : decode cL_law 403 = .ok (.iconst 4, 1) := by decide +kernel
theorem dL_law_404 : decode cL_law 404 = .ok (.iadd, 1) := by decide +kernel
theorem dL_law_405 : decode cL_law 405 = .ok (.iaload, 1) := by decide +kernel
theorem dL_law_406 : decode cL_law 406 = .ok (.aload_n 0, 1) := by decide +kernel
theorem dL_law_407 : decode cL_law 407 = .ok (.iload_n 3, 1) := by decide +kernel
theorem dL_law_408 : decode cL_law 408 = .ok (.iconst 5, 1) := by decide +kernel
theorem dL_law_409 : decode cL_law 409 = .ok (.iadd, 1) := by decide +kernel
theorem dL_law_410 : decode cL_law 410 = .ok (.iaload, 1) := by decide +kernel
theorem dL_law_411 : decode cL_law 411 = .ok (.invokevirtual 53, 3) := by decide +kernel
theorem dL_law_414 : decode cL_law 414 = .ok (.if_icmp .eq 542, 3) := by decide +kernel
theorem dL_law_417 : decode cL_law 417 = .ok (.iconst 0, 1) := by decide +kernel
theorem dL_law_418 : decode cL_law 418 = .ok (.ireturn, 1) := by decide +kernel
theorem dL_law_419 : decode cL_law 419 = .ok (.aload_n 1, 1) := by decide +kernel
theorem dL_law_420 : decode cL_law 420 = .ok (.aload_n 0, 1) := by decide +kernel
theorem dL_law_421 : decode cL_law 421 = .ok (.iload_n 3, 1) := by decide +kernel
theorem dL_law_422 : decode cL_law 422 = .ok (.iconst 1, 1) := by decide +kernel
theorem dL_law_423 : decode cL_law 423 = .ok (.iadd, 1) := by decide +kernel
theorem dL_law_424 : decode cL_law 424 = .ok (.iaload, 1) := by decide +kernel
theorem dL_law_425 : decode cL_law 425 = .ok (.aload_n 0, 1) := by decide +kernel
theorem dL_law_426 : decode cL_law 426 = .ok (.iload_n 3, 1) := by decide +kernel
theorem dL_law_427 : decode cL_law 427 = .ok (.iconst 2, 1) := by decide +kernel
theorem dL_law_428 : decode cL_law 428 = .ok (.iadd, 1) := by decide +kernel
theorem dL_law_429 : decode cL_law 429 = .ok (.iaload, 1) := by decide +kernel
theorem dL_law_430 : decode cL_law 430 = .ok (.invokevirtual 54, 3) := by decide +kernel
theorem dL_law_433 : decode cL_law 433 = .ok (.aload_n 2, 1) := by decide +kernel
theorem dL_law_434 : decode cL_law 434 = .ok (.aload_n 0, 1) := by decide +kernel
theorem dL_law_435 : decode cL_law 435 = .ok (.iload_n 3, 1) := by decide +kernel
theorem dL_law_436 : decode cL_law 436 = .ok (.iconst 1, 1) := by decide +kernel
theorem dL_law_437 : decode cL_law 437 = .ok (.iadd, 1) := by decide +kernel
theorem dL_law_438 : decode cL_law 438 = .ok (.iaload, 1) := by decide +kernel
theorem dL_law_439 : decode cL_law 439 = .ok (.aload_n 0, 1) := by decide +kernel
theorem dL_law_440 : decode cL_law 440 = .ok (.iload_n 3, 1) := by decide +kernel
theorem dL_law_441 : decode cL_law 441 = .ok (.iconst 2, 1) := by decide +kernel
theorem dL_law_442 : decode cL_law 442 = .ok (.iadd, 1) := by decide +kernel
theorem dL_law_443 : decode cL_law 443 = .ok (.iaload, 1) := by decide +kernel
theorem dL_law_444 : decode cL_law 444 = .ok (.invokevirtual 57, 3) := by decide +kernel
theorem dL_law_447 : decode cL_law 447 = .ok (.if_icmp .eq 509, 3) := by decide +kernel
theorem dL_law_450 : decode cL_law 450 = .ok (.iconst 0, 1) := by decide +kernel
theorem dL_law_451 : decode cL_law 451 = .ok (.ireturn, 1) := by decide +kernel
theorem dL_law_452 : decode cL_law 452 = .ok (.aload_n 1, 1) := by decide +kernel
theorem dL_law_453 : decode cL_law 453 = .ok (.aload_n 0, 1) := by decide +kernel
theorem dL_law_454 : decode cL_law 454 = .ok (.iload_n 3, 1) := by decide +kernel
theorem dL_law_455 : decode cL_law 455 = .ok (.iconst 1, 1) := by decide +kernel
theorem dL_law_456 : decode cL_law 456 = .ok (.iadd, 1) := by decide +kernel
theorem dL_law_457 : decode cL_law 457 = .ok (.iaload, 1) := by decide +kernel
theorem dL_law_458 : decode cL_law 458 = .ok (.aload_n 0, 1) := by decide +kernel
theorem dL_law_459 : decode cL_law 459 = .ok (.iload_n 3, 1) := by decide +kernel
theorem dL_law_460 : decode cL_law 460 = .ok (.iconst 2, 1) := by decide +kernel
theorem dL_law_461 : decode cL_law 461 = .ok (.iadd, 1) := by decide +kernel
theorem dL_law_462 : decode cL_law 462 = .ok (.iaload, 1) := by decide +kernel
theorem dL_law_463 : decode cL_law 463 = .ok (.invokevirtual 58, 3) := by decide +kernel
theorem dL_law_466 : decode cL_law 466 = .ok (.aload_n 2, 1) := by decide +kernel
theorem dL_law_467 : decode cL_law 467 = .ok (.aload_n 0, 1) := by decide +kernel
theorem dL_law_468 : decode cL_law 468 = .ok (.iload_n 3, 1) := by decide +kernel
theorem dL_law_469 : decode cL_law 469 = .ok (.iconst 1, 1) := by decide +kernel
theorem dL_law_470 : decode cL_law 470 = .ok (.iadd, 1) := by decide +kernel
theorem dL_law_471 : decode cL_law 471 = .ok (.iaload, 1) := by decide +kernel
theorem dL_law_472 : decode cL_law 472 = .ok (.aload_n 0, 1) := by decide +kernel
theorem dL_law_473 : decode cL_law 473 = .ok (.iload_n 3, 1) := by decide +kernel
theorem dL_law_474 : decode cL_law 474 = .ok (.iconst 2, 1) := by decide +kernel
theorem dL_law_475 : decode cL_law 475 = .ok (.iadd, 1) := by decide +kernel
theorem dL_law_476 : decode cL_law 476 = .ok (.iaload, 1) := by decide +kernel
theorem dL_law_477 : decode cL_law 477 = .ok (.invokevirtual 61, 3) := by decide +kernel
theorem dL_law_480 : decode cL_law 480 = .ok (.if_icmp .eq 476, 3) := by decide +kernel
theorem dL_law_483 : decode cL_law 483 = .ok (.iconst 0, 1) := by decide +kernel
theorem dL_law_484 : decode cL_law 484 = .ok (.ireturn, 1) := by decide +kernel
theorem dL_law_485 : decode cL_law 485 = .ok (.aload_n 1, 1) := by decide +kernel
theorem dL_law_486 : decode cL_law 486 = .ok (.aload_n 0, 1) := by decide +kernel
theorem dL_law_487 : decode cL_law 487 = .ok (.iload_n 3, 1) := by decide +kernel
theorem dL_law_488 : decode cL_law 488 = .ok (.iconst 1, 1) := by decide +kernel
theorem dL_law_489 : decode cL_law 489 = .ok (.iadd, 1) := by decide +kernel
theorem dL_law_490 : decode cL_law 490 = .ok (.iaload, 1) := by decide +kernel
theorem dL_law_491 : decode cL_law 491 = .ok (.aload_n 0, 1) := by decide +kernel
theorem dL_law_492 : decode cL_law 492 = .ok (.iload_n 3, 1) := by decide +kernel
theorem dL_law_493 : decode cL_law 493 = .ok (.iconst 2, 1) := by decide +kernel
theorem dL_law_494 : decode cL_law 494 = .ok (.iadd, 1) := by decide +kernel
theorem dL_law_495 : decode cL_law 495 = .ok (.iaload, 1) := by decide +kernel
theorem dL_law_496 : decode cL_law 496 = .ok (.invokevirtual 62, 3) := by decide +kernel
theorem dL_law_499 : decode cL_law 499 = .ok (.aload_n 2, 1) := by decide +kernel
theorem dL_law_500 : decode cL_law 500 = .ok (.aload_n 0, 1) := by decide +kernel
theorem dL_law_501 : decode cL_law 501 = .ok (.iload_n 3, 1) := by decide +kernel
theorem dL_law_502 : decode cL_law 502 = .ok (.iconst 1, 1) := by decide +kernel
theorem dL_law_503 : decode cL_law 503 = .ok (.iadd, 1) := by decide +kernel
theorem dL_law_504 : decode cL_law 504 = .ok (.iaload, 1) := by decide +kernel
theorem dL_law_505 : decode cL_law 505 = .ok (.aload_n 0, 1) := by decide +kernel
theorem dL_law_506 : decode cL_law 506 = .ok (.iload_n 3, 1) := by decide +kernel
theorem dL_law_507 : decode cL_law 507 = .ok (.iconst 2, 1) := by decide +kernel
theorem dL_law_508 : decode cL_law 508 = .ok (.iadd, 1) := by decide +kernel
theorem dL_law_509 : decode cL_law 509 = .ok (.iaload, 1) := by decide +kernel
theorem dL_law_510 : decode cL_law 510 = .ok (.invokevirtual 65, 3) := by decide +kernel
theorem dL_law_513 : decode cL_law 513 = .ok (.if_icmp .eq 443, 3) := by decide +kernel
theorem dL_law_516 : decode cL_law 516 = .ok (.iconst 0, 1) := by decide +kernel
theorem dL_law_517 : decode cL_law 517 = .ok (.ireturn, 1) := by decide +kernel
theorem dL_law_518 : decode cL_law 518 = .ok (.aload_n 1, 1) := by decide +kernel
theorem dL_law_519 : decode cL_law 519 = .ok (.aload_n 0, 1) := by decide +kernel
theorem dL_law_520 : decode cL_law 520 = .ok (.iload_n 3, 1) := by decide +kernel
theorem dL_law_521 : decode cL_law 521 = .ok (.iconst 1, 1) := by decide +kernel
theorem dL_law_522 : decode cL_law 522 = .ok (.iadd, 1) := by decide +kernel
theorem dL_law_523 : decode cL_law 523 = .ok (.iaload, 1) := by decide +kernel
theorem dL_law_524 : decode cL_law 524 = .ok (.aload_n 0, 1) := by decide +kernel
theorem dL_law_525 : decode cL_law 525 = .ok (.iload_n 3, 1) := by decide +kernel
theorem dL_law_526 : decode cL_law 526 = .ok (.iconst 2, 1) := by decide +kernel
theorem dL_law_527 : decode cL_law 527 = .ok (.iadd, 1) := by decide +kernel
theorem dL_law_528 : decode cL_law 528 = .ok (.iaload, 1) := by decide +kernel
theorem dL_law_529 : decode cL_law 529 = .ok (.invokevirtual 66, 3) := by decide +kernel
theorem dL_law_532 : decode cL_law 532 = .ok (.aload_n 2, 1) := by decide +kernel
theorem dL_law_533 : decode cL_law 533 = .ok (.aload_n 0, 1) := by decide +kernel
theorem dL_law_534 : decode cL_law 534 = .ok (.iload_n 3, 1) := by decide +kernel
theorem dL_law_535 : decode cL_law 535 = .ok (.iconst 1, 1) := by decide +kernel
theorem dL_law_536 : decode cL_law 536 = .ok (.iadd, 1) := by decide +kernel
theorem dL_law_537 : decode cL_law 537 = .ok (.iaload, 1) := by decide +kernel
theorem dL_law_538 : decode cL_law 538 = .ok (.aload_n 0, 1) := by decide +kernel
theorem dL_law_539 : decode cL_law 539 = .ok (.iload_n 3, 1) := by decide +kernel
theorem dL_law_540 : decode cL_law 540 = .ok (.iconst 2, 1) := by decide +kernel
theorem dL_law_541 : decode cL_law 541 = .ok (.iadd, 1) := by decide +kernel
theorem dL_law_542 : decode cL_law 542 = .ok (.iaload, 1) := by decide +kernel
theorem dL_law_543 : decode cL_law 543 = .ok (.invokevirtual 69, 3) := by decide +kernel
theorem dL_law_546 : decode cL_law 546 = .ok (.if_icmp .eq 410, 3) := by decide +kernel
theorem dL_law_549 : decode cL_law 549 = .ok (.iconst 0, 1) := by decide +kernel
theorem dL_law_550 : decode cL_law 550 = .ok (.ireturn, 1) := by decide +kernel
theorem dL_law_551 : decode cL_law 551 = .ok (.aload_n 1, 1) := by decide +kernel
theorem dL_law_552 : decode cL_law 552 = .ok (.aload_n 0, 1) := by decide +kernel
theorem dL_law_553 : decode cL_law 553 = .ok (.iload_n 3, 1) := by decide +kernel
theorem dL_law_554 : decode cL_law 554 = .ok (.iconst 1, 1) := by decide +kernel
theorem dL_law_555 : decode cL_law 555 = .ok (.iadd, 1) := by decide +kernel
theorem dL_law_556 : decode cL_law 556 = .ok (.iaload, 1) := by decide +kernel
theorem dL_law_557 : decode cL_law 557 = .ok (.aload_n 0, 1) := by decide +kernel
theorem dL_law_558 : decode cL_law 558 = .ok (.iload_n 3, 1) := by decide +kernel
theorem dL_law_559 : decode cL_law 559 = .ok (.iconst 2, 1) := by decide +kernel
theorem dL_law_560 : decode cL_law 560 = .ok (.iadd, 1) := by decide +kernel
theorem dL_law_561 : decode cL_law 561 = .ok (.iaload, 1) := by decide +kernel
theorem dL_law_562 : decode cL_law 562 = .ok (.invokevirtual 70, 3) := by decide +kernel
theorem dL_law_565 : decode cL_law 565 = .ok (.aload_n 2, 1) := by decide +kernel
theorem dL_law_566 : decode cL_law 566 = .ok (.aload_n 0, 1) := by decide +kernel
theorem dL_law_567 : decode cL_law 567 = .ok (.iload_n 3, 1) := by decide +kernel
theorem dL_law_568 : decode cL_law 568 = .ok (.iconst 1, 1) := by decide +kernel
theorem dL_law_569 : decode cL_law 569 = .ok (.iadd, 1) := by decide +kernel
theorem dL_law_570 : decode cL_law 570 = .ok (.iaload, 1) := by decide +kernel
theorem dL_law_571 : decode cL_law 571 = .ok (.aload_n 0, 1) := by decide +kernel
theorem dL_law_572 : decode cL_law 572 = .ok (.iload_n 3, 1) := by decide +kernel
theorem dL_law_573 : decode cL_law 573 = .ok (.iconst 2, 1) := by decide +kernel
theorem dL_law_574 : decode cL_law 574 = .ok (.iadd, 1) := by decide +kernel
theorem dL_law_575 : decode cL_law 575 = .ok (.iaload, 1) := by decide +kernel
theorem dL_law_576 : decode cL_law 576 = .ok (.invokevirtual 73, 3) := by decide +kernel
theorem dL_law_579 : decode cL_law 579 = .ok (.if_icmp .eq 377, 3) := by decide +kernel
theorem dL_law_582 : decode cL_law 582 = .ok (.iconst 0, 1) := by decide +kernel
theorem dL_law_583 : decode cL_law 583 = .ok (.ireturn, 1) := by decide +kernel
theorem dL_law_584 : decode cL_law 584 = .ok (.aload_n 1, 1) := by decide +kernel
theorem dL_law_585 : decode cL_law 585 = .ok (.aload_n 0, 1) := by decide +kernel
theorem dL_law_586 : decode cL_law 586 = .ok (.iload_n 3, 1) := by decide +kernel
theorem dL_law_587 : decode cL_law 587 = .ok (.iconst 1, 1) := by decide +kernel
theorem dL_law_588 : decode cL_law 588 = .ok (.iadd, 1) := by decide +kernel
theorem dL_law_589 : decode cL_law 589 = .ok (.iaload, 1) := by decide +kernel
theorem dL_law_590 : decode cL_law 590 = .ok (.invokevirtual 74, 3) := by decide +kernel
theorem dL_law_593 : decode cL_law 593 = .ok (.aload_n 2, 1) := by decide +kernel
theorem dL_law_594 : decode cL_law 594 = .ok (.aload_n 0, 1) := by decide +kernel
theorem dL_law_595 : decode cL_law 595 = .ok (.iload_n 3, 1) := by decide +kernel
theorem dL_law_596 : decode cL_law 596 = .ok (.iconst 1, 1) := by decide +kernel
theorem dL_law_597 : decode cL_law 597 = .ok (.iadd, 1) := by decide +kernel
theorem dL_law_598 : decode cL_law 598 = .ok (.iaload, 1) := by decide +kernel
theorem dL_law_599 : decode cL_law 599 = .ok (.invokevirtual 77, 3) := by decide +kernel
theorem dL_law_602 : decode cL_law 602 = .ok (.if_icmp .eq 354, 3) := by decide +kernel
theorem dL_law_605 : decode cL_law 605 = .ok (.iconst 0, 1) := by decide +kernel
theorem dL_law_606 : decode cL_law 606 = .ok (.ireturn, 1) := by decide +kernel
theorem dL_law_607 : decode cL_law 607 = .ok (.aload_n 1, 1) := by decide +kernel
theorem dL_law_608 : decode cL_law 608 = .ok (.aload_n 0, 1) := by decide +kernel
theorem dL_law_609 : decode cL_law 609 = .ok (.iload_n 3, 1) := by decide +kernel
theorem dL_law_610 : decode cL_law 610 = .ok (.iconst 1, 1) := by decide +kernel
theorem dL_law_611 : decode cL_law 611 = .ok (.iadd, 1) := by decide +kernel
theorem dL_law_612 : decode cL_law 612 = .ok (.iaload, 1) := by decide +kernel
theorem dL_law_613 : decode cL_law 613 = .ok (.invokevirtual 78, 3) := by decide +kernel
theorem dL_law_616 : decode cL_law 616 = .ok (.aload_n 2, 1) := by decide +kernel
theorem dL_law_617 : decode cL_law 617 = .ok (.aload_n 0, 1) := by decide +kernel
theorem dL_law_618 : decode cL_law 618 = .ok (.iload_n 3, 1) := by decide +kernel
theorem dL_law_619 : decode cL_law 619 = .ok (.iconst 1, 1) := by decide +kernel
theorem dL_law_620 : decode cL_law 620 = .ok (.iadd, 1) := by decide +kernel
theorem dL_law_621 : decode cL_law 621 = .ok (.iaload, 1) := by decide +kernel
theorem dL_law_622 : decode cL_law 622 = .ok (.invokevirtual 81, 3) := by decide +kernel
theorem dL_law_625 : decode cL_law 625 = .ok (.if_icmp .eq 331, 3) := by decide +kernel
theorem dL_law_628 : decode cL_law 628 = .ok (.iconst 0, 1) := by decide +kernel
theorem dL_law_629 : decode cL_law 629 = .ok (.ireturn, 1) := by decide +kernel
theorem dL_law_630 : decode cL_law 630 = .ok (.aload_n 1, 1) := by decide +kernel
theorem dL_law_631 : decode cL_law 631 = .ok (.aload_n 0, 1) := by decide +kernel
theorem dL_law_632 : decode cL_law 632 = .ok (.iload_n 3, 1) := by decide +kernel
theorem dL_law_633 : decode cL_law 633 = .ok (.iconst 1, 1) := by decide +kernel
theorem dL_law_634 : decode cL_law 634 = .ok (.iadd, 1) := by decide +kernel
theorem dL_law_635 : decode cL_law 635 = .ok (.iaload, 1) := by decide +kernel
theorem dL_law_636 : decode cL_law 636 = .ok (.aload_n 0, 1) := by decide +kernel
theorem dL_law_637 : decode cL_law 637 = .ok (.iload_n 3, 1) := by decide +kernel
theorem dL_law_638 : decode cL_law 638 = .ok (.iconst 2, 1) := by decide +kernel
theorem dL_law_639 : decode cL_law 639 = .ok (.iadd, 1) := by decide +kernel
theorem dL_law_640 : decode cL_law 640 = .ok (.iaload, 1) := by decide +kernel
theorem dL_law_641 : decode cL_law 641 = .ok (.invokevirtual 82, 3) := by decide +kernel
theorem dL_law_644 : decode cL_law 644 = .ok (.aload_n 2, 1) := by decide +kernel
theorem dL_law_645 : decode cL_law 645 = .ok (.aload_n 0, 1) := by decide +kernel
theorem dL_law_646 : decode cL_law 646 = .ok (.iload_n 3, 1) := by decide +kernel
theorem dL_law_647 : decode cL_law 647 = .ok (.iconst 1, 1) := by decide +kernel
theorem dL_law_648 : decode cL_law 648 = .ok (.iadd, 1) := by decide +kernel
theorem dL_law_649 : decode cL_law 649 = .ok (.iaload, 1) := by decide +kernel
theorem dL_law_650 : decode cL_law 650 = .ok (.aload_n 0, 1) := by decide +kernel
theorem dL_law_651 : decode cL_law 651 = .ok (.iload_n 3, 1) := by decide +kernel
theorem dL_law_652 : decode cL_law 652 = .ok (.iconst 2, 1) := by decide +kernel
theorem dL_law_653 : decode cL_law 653 = .ok (.iadd, 1) := by decide +kernel
theorem dL_law_654 : decode cL_law 654 = .ok (.iaload, 1) := by decide +kernel
theorem dL_law_655 : decode cL_law 655 = .ok (.invokevirtual 85, 3) := by decide +kernel
theorem dL_law_658 : decode cL_law 658 = .ok (.if_icmp .eq 298, 3) := by decide +kernel
theorem dL_law_661 : decode cL_law 661 = .ok (.iconst 0, 1) := by decide +kernel
theorem dL_law_662 : decode cL_law 662 = .ok (.ireturn, 1) := by decide +kernel
theorem dL_law_663 : decode cL_law 663 = .ok (.aload_n 1, 1) := by decide +kernel
theorem dL_law_664 : decode cL_law 664 = .ok (.aload_n 0, 1) := by decide +kernel
theorem dL_law_665 : decode cL_law 665 = .ok (.iload_n 3, 1) := by decide +kernel
theorem dL_law_666 : decode cL_law 666 = .ok (.iconst 1, 1) := by decide +kernel
theorem dL_law_667 : decode cL_law 667 = .ok (.iadd, 1) := by decide +kernel
theorem dL_law_668 : decode cL_law 668 = .ok (.iaload, 1) := by decide +kernel
theorem dL_law_669 : decode cL_law 669 = .ok (.aload_n 0, 1) := by decide +kernel
theorem dL_law_670 : decode cL_law 670 = .ok (.iload_n 3, 1) := by decide +kernel
theorem dL_law_671 : decode cL_law 671 = .ok (.iconst 2, 1) := by decide +kernel
theorem dL_law_672 : decode cL_law 672 = .ok (.iadd, 1) := by decide +kernel
theorem dL_law_673 : decode cL_law 673 = .ok (.iaload, 1) := by decide +kernel
theorem dL_law_674 : decode cL_law 674 = .ok (.invokevirtual 86, 3) := by decide +kernel
theorem dL_law_677 : decode cL_law 677 = .ok (.aload_n 2, 1) := by decide +kernel
theorem dL_law_678 : decode cL_law 678 = .ok (.aload_n 0, 1) := by decide +kernel
theorem dL_law_679 : decode cL_law 679 = .ok (.iload_n 3, 1) := by decide +kernel
theorem dL_law_680 : decode cL_law 680 = .ok (.iconst 1, 1) := by decide +kernel
theorem dL_law_681 : decode cL_law 681 = .ok (.iadd, 1) := by decide +kernel
theorem dL_law_682 : decode cL_law 682 = .ok (.iaload, 1) := by decide +kernel
theorem dL_law_683 : decode cL_law 683 = .ok (.aload_n 0, 1) := by decide +kernel
theorem dL_law_684 : decode cL_law 684 = .ok (.iload_n 3, 1) := by decide +kernel
theorem dL_law_685 : decode cL_law 685 = .ok (.iconst 2, 1) := by decide +kernel
theorem dL_law_686 : decode cL_law 686 = .ok (.iadd, 1) := by decide +kernel
theorem dL_law_687 : decode cL_law 687 = .ok (.iaload, 1) := by decide +kernel
theorem dL_law_688 : decode cL_law 688 = .ok (.invokevirtual 89, 3) := by decide +kernel
theorem dL_law_691 : decode cL_law 691 = .ok (.if_icmp .eq 265, 3) := by decide +kernel
theorem dL_law_694 : decode cL_law 694 = .ok (.iconst 0, 1) := by decide +kernel
theorem dL_law_695 : decode cL_law 695 = .ok (.ireturn, 1) := by decide +kernel
theorem dL_law_696 : decode cL_law 696 = .ok (.aload_n 1, 1) := by decide +kernel
theorem dL_law_697 : decode cL_law 697 = .ok (.invokevirtual 90, 3) := by decide +kernel
theorem dL_law_700 : decode cL_law 700 = .ok (.aload_n 2, 1) := by decide +kernel
theorem dL_law_701 : decode cL_law 701 = .ok (.invokevirtual 93, 3) := by decide +kernel
theorem dL_law_704 : decode cL_law 704 = .ok (.if_icmp .eq 252, 3) := by decide +kernel
theorem dL_law_707 : decode cL_law 707 = .ok (.iconst 0, 1) := by decide +kernel
theorem dL_law_708 : decode cL_law 708 = .ok (.ireturn, 1) := by decide +kernel
theorem dL_law_709 : decode cL_law 709 = .ok (.aload_n 1, 1) := by decide +kernel
theorem dL_law_710 : decode cL_law 710 = .ok (.aload_n 0, 1) := by decide +kernel
theorem dL_law_711 : decode cL_law 711 = .ok (.iload_n 3, 1) := by decide +kernel
theorem dL_law_712 : decode cL_law 712 = .ok (.iconst 1, 1) := by decide +kernel
theorem dL_law_713 : decode cL_law 713 = .ok (.iadd, 1) := by decide +kernel
theorem dL_law_714 : decode cL_law 714 = .ok (.iaload, 1) := by decide +kernel
theorem dL_law_715 : decode cL_law 715 = .ok (.aload_n 0, 1) := by decide +kernel
theorem dL_law_716 : decode cL_law 716 = .ok (.iload_n 3, 1) := by decide +kernel
theorem dL_law_717 : decode cL_law 717 = .ok (.iconst 2, 1) := by decide +kernel
theorem dL_law_718 : decode cL_law 718 = .ok (.iadd, 1) := by decide +kernel
theorem dL_law_719 : decode cL_law 719 = .ok (.iaload, 1) := by decide +kernel
theorem dL_law_720 : decode cL_law 720 = .ok (.aload_n 0, 1) := by decide +kernel
theorem dL_law_721 : decode cL_law 721 = .ok (.iload_n 3, 1) := by decide +kernel
theorem dL_law_722 : decode cL_law 722 = .ok (.iconst 3, 1) := by decide +kernel
theorem dL_law_723 : decode cL_law 723 = .ok (.iadd, 1) := by decide +kernel
theorem dL_law_724 : decode cL_law 724 = .ok (.iaload, 1) := by decide +kernel
theorem dL_law_725 : decode cL_law 725 = .ok (.ifCond .eq 7, 3) := by decide +kernel
theorem dL_law_728 : decode cL_law 728 = .ok (.iconst 1, 1) := by decide +kernel
theorem dL_law_729 : decode cL_law 729 = .ok (.goto 4, 3) := by decide +kernel
theorem dL_law_732 : decode cL_law 732 = .ok (.iconst 0, 1) := by decide +kernel
theorem dL_law_733 : decode cL_law 733 = .ok (.invokevirtual 94, 3) := by decide +kernel
theorem dL_law_736 : decode cL_law 736 = .ok (.aload_n 2, 1) := by decide +kernel
theorem dL_law_737 : decode cL_law 737 = .ok (.aload_n 0, 1) := by decide +kernel
theorem dL_law_738 : decode cL_law 738 = .ok (.iload_n 3, 1) := by decide +kernel
theorem dL_law_739 : decode cL_law 739 = .ok (.iconst 1, 1) := by decide +kernel
theorem dL_law_740 : decode cL_law 740 = .ok (.iadd, 1) := by decide +kernel
theorem dL_law_741 : decode cL_law 741 = .ok (.iaload, 1) := by decide +kernel
theorem dL_law_742 : decode cL_law 742 = .ok (.aload_n 0, 1) := by decide +kernel
theorem dL_law_743 : decode cL_law 743 = .ok (.iload_n 3, 1) := by decide +kernel
theorem dL_law_744 : decode cL_law 744 = .ok (.iconst 2, 1) := by decide +kernel
theorem dL_law_745 : decode cL_law 745 = .ok (.iadd, 1) := by decide +kernel
theorem dL_law_746 : decode cL_law 746 = .ok (.iaload, 1) := by decide +kernel
theorem dL_law_747 : decode cL_law 747 = .ok (.aload_n 0, 1) := by decide +kernel
theorem dL_law_748 : decode cL_law 748 = .ok (.iload_n 3, 1) := by decide +kernel
theorem dL_law_749 : decode cL_law 749 = .ok (.iconst 3, 1) := by decide +kernel
theorem dL_law_750 : decode cL_law 750 = .ok (.iadd, 1) := by decide +kernel
theorem dL_law_751 : decode cL_law 751 = .ok (.iaload, 1) := by decide +kernel
theorem dL_law_752 : decode cL_law 752 = .ok (.ifCond .eq 7, 3) := by decide +kernel
theorem dL_law_755 : decode cL_law 755 = .ok (.iconst 1, 1) := by decide +kernel
theorem dL_law_756 : decode cL_law 756 = .ok (.goto 4, 3) := by decide +kernel
theorem dL_law_759 : decode cL_law 759 = .ok (.iconst 0, 1) := by decide +kernel
theorem dL_law_760 : decode cL_law 760 = .ok (.invokevirtual 98, 3) := by decide +kernel
theorem dL_law_763 : decode cL_law 763 = .ok (.if_icmp .eq 193, 3) := by decide +kernel
theorem dL_law_766 : decode cL_law 766 = .ok (.iconst 0, 1) := by decide +kernel
theorem dL_law_767 : decode cL_law 767 = .ok (.ireturn, 1) := by decide +kernel
theorem dL_law_768 : decode cL_law 768 = .ok (.aload_n 1, 1) := by decide +kernel
theorem dL_law_769 : decode cL_law 769 = .ok (.aload_n 0, 1) := by decide +kernel
theorem dL_law_770 : decode cL_law 770 = .ok (.iload_n 3, 1) := by decide +kernel
theorem dL_law_771 : decode cL_law 771 = .ok (.iconst 1, 1) := by decide +kernel
theorem dL_law_772 : decode cL_law 772 = .ok (.iadd, 1) := by decide +kernel
theorem dL_law_773 : decode cL_law 773 = .ok (.iaload, 1) := by decide +kernel
theorem dL_law_774 : decode cL_law 774 = .ok (.aload_n 0, 1) := by decide +kernel
theorem dL_law_775 : decode cL_law 775 = .ok (.iload_n 3, 1) := by decide +kernel
theorem dL_law_776 : decode cL_law 776 = .ok (.iconst 2, 1) := by decide +kernel
theorem dL_law_777 : decode cL_law 777 = .ok (.iadd, 1) := by decide +kernel
theorem dL_law_778 : decode cL_law 778 = .ok (.iaload, 1) := by decide +kernel
theorem dL_law_779 : decode cL_law 779 = .ok (.invokevirtual 99, 3) := by decide +kernel
theorem dL_law_782 : decode cL_law 782 = .ok (.aload_n 2, 1) := by decide +kernel
theorem dL_law_783 : decode cL_law 783 = .ok (.aload_n 0, 1) := by decide +kernel
theorem dL_law_784 : decode cL_law 784 = .ok (.iload_n 3, 1) := by decide +kernel
theorem dL_law_785 : decode cL_law 785 = .ok (.iconst 1, 1) := by decide +kernel
theorem dL_law_786 : decode cL_law 786 = .ok (.iadd, 1) := by decide +kernel
theorem dL_law_787 : decode cL_law 787 = .ok (.iaload, 1) := by decide +kernel
theorem dL_law_788 : decode cL_law 788 = .ok (.aload_n 0, 1) := by decide +kernel
theorem dL_law_789 : decode cL_law 789 = .ok (.iload_n 3, 1) := by decide +kernel
theorem dL_law_790 : decode cL_law 790 = .ok (.iconst 2, 1) := by decide +kernel
theorem dL_law_791 : decode cL_law 791 = .ok (.iadd, 1) := by decide +kernel
theorem dL_law_792 : decode cL_law 792 = .ok (.iaload, 1) := by decide +kernel
theorem dL_law_793 : decode cL_law 793 = .ok (.invokevirtual 102, 3) := by decide +kernel
theorem dL_law_796 : decode cL_law 796 = .ok (.if_icmp .eq 160, 3) := by decide +kernel
theorem dL_law_799 : decode cL_law 799 = .ok (.iconst 0, 1) := by decide +kernel
theorem dL_law_800 : decode cL_law 800 = .ok (.ireturn, 1) := by decide +kernel
theorem dL_law_801 : decode cL_law 801 = .ok (.aload_n 1, 1) := by decide +kernel
theorem dL_law_802 : decode cL_law 802 = .ok (.aload_n 0, 1) := by decide +kernel
theorem dL_law_803 : decode cL_law 803 = .ok (.iload_n 3, 1) := by decide +kernel
theorem dL_law_804 : decode cL_law 804 = .ok (.iconst 1, 1) := by decide +kernel
theorem dL_law_805 : decode cL_law 805 = .ok (.iadd, 1) := by decide +kernel
theorem dL_law_806 : decode cL_law 806 = .ok (.iaload, 1) := by decide +kernel
theorem dL_law_807 : decode cL_law 807 = .ok (.ifCond .eq 7, 3) := by decide +kernel
theorem dL_law_810 : decode cL_law 810 = .ok (.iconst 1, 1) := by decide +kernel
theorem dL_law_811 : decode cL_law 811 = .ok (.goto 4, 3) := by decide +kernel
theorem dL_law_814 : decode cL_law 814 = .ok (.iconst 0, 1) := by decide +kernel
theorem dL_law_815 : decode cL_law 815 = .ok (.aload_n 0, 1) := by decide +kernel
theorem dL_law_816 : decode cL_law 816 = .ok (.iload_n 3, 1) := by decide +kernel
theorem dL_law_817 : decode cL_law 817 = .ok (.iconst 2, 1) := by decide +kernel
theorem dL_law_818 : decode cL_law 818 = .ok (.iadd, 1) := by decide +kernel
theorem dL_law_819 : decode cL_law 819 = .ok (.iaload, 1) := by decide +kernel
theorem dL_law_820 : decode cL_law 820 = .ok (.invokevirtual 103, 3) := by decide +kernel
theorem dL_law_823 : decode cL_law 823 = .ok (.aload_n 2, 1) := by decide +kernel
theorem dL_law_824 : decode cL_law 824 = .ok (.aload_n 0, 1) := by decide +kernel
theorem dL_law_825 : decode cL_law 825 = .ok (.iload_n 3, 1) := by decide +kernel
theorem dL_law_826 : decode cL_law 826 = .ok (.iconst 1, 1) := by decide +kernel
theorem dL_law_827 : decode cL_law 827 = .ok (.iadd, 1) := by decide +kernel
theorem dL_law_828 : decode cL_law 828 = .ok (.iaload, 1) := by decide +kernel
theorem dL_law_829 : decode cL_law 829 = .ok (.ifCond .eq 7, 3) := by decide +kernel
theorem dL_law_832 : decode cL_law 832 = .ok (.iconst 1, 1) := by decide +kernel
theorem dL_law_833 : decode cL_law 833 = .ok (.goto 4, 3) := by decide +kernel
theorem dL_law_836 : decode cL_law 836 = .ok (.iconst 0, 1) := by decide +kernel
theorem dL_law_837 : decode cL_law 837 = .ok (.aload_n 0, 1) := by decide +kernel
theorem dL_law_838 : decode cL_law 838 = .ok (.iload_n 3, 1) := by decide +kernel
theorem dL_law_839 : decode cL_law 839 = .ok (.iconst 2, 1) := by decide +kernel
theorem dL_law_840 : decode cL_law 840 = .ok (.iadd, 1) := by decide +kernel
theorem dL_law_841 : decode cL_law 841 = .ok (.iaload, 1) := by decide +kernel
theorem dL_law_842 : decode cL_law 842 = .ok (.invokevirtual 107, 3) := by decide +kernel
theorem dL_law_845 : decode cL_law 845 = .ok (.if_icmp .eq 111, 3) := by decide +kernel
theorem dL_law_848 : decode cL_law 848 = .ok (.iconst 0, 1) := by decide +kernel
theorem dL_law_849 : decode cL_law 849 = .ok (.ireturn, 1) := by decide +kernel
theorem dL_law_850 : decode cL_law 850 = .ok (.aload_n 1, 1) := by decide +kernel
theorem dL_law_851 : decode cL_law 851 = .ok (.invokevirtual 108, 3) := by decide +kernel
theorem dL_law_854 : decode cL_law 854 = .ok (.aload_n 2, 1) := by decide +kernel
theorem dL_law_855 : decode cL_law 855 = .ok (.invokevirtual 111, 3) := by decide +kernel
theorem dL_law_858 : decode cL_law 858 = .ok (.if_icmp .eq 98, 3) := by decide +kernel
theorem dL_law_861 : decode cL_law 861 = .ok (.iconst 0, 1) := by decide +kernel
theorem dL_law_862 : decode cL_law 862 = .ok (.ireturn, 1) := by decide +kernel
theorem dL_law_863 : decode cL_law 863 = .ok (.aload_n 1, 1) := by decide +kernel
theorem dL_law_864 : decode cL_law 864 = .ok (.aload_n 0, 1) := by decide +kernel
theorem dL_law_865 : decode cL_law 865 = .ok (.iload_n 3, 1) := by decide +kernel
theorem dL_law_866 : decode cL_law 866 = .ok (.iconst 1, 1) := by decide +kernel
theorem dL_law_867 : decode cL_law 867 = .ok (.iadd, 1) := by decide +kernel
theorem dL_law_868 : decode cL_law 868 = .ok (.iaload, 1) := by decide +kernel
theorem dL_law_869 : decode cL_law 869 = .ok (.invokevirtual 112, 3) := by decide +kernel
theorem dL_law_872 : decode cL_law 872 = .ok (.aload_n 2, 1) := by decide +kernel
theorem dL_law_873 : decode cL_law 873 = .ok (.aload_n 0, 1) := by decide +kernel
theorem dL_law_874 : decode cL_law 874 = .ok (.iload_n 3, 1) := by decide +kernel
theorem dL_law_875 : decode cL_law 875 = .ok (.iconst 1, 1) := by decide +kernel
theorem dL_law_876 : decode cL_law 876 = .ok (.iadd, 1) := by decide +kernel
theorem dL_law_877 : decode cL_law 877 = .ok (.iaload, 1) := by decide +kernel
theorem dL_law_878 : decode cL_law 878 = .ok (.invokevirtual 115, 3) := by decide +kernel
theorem dL_law_881 : decode cL_law 881 = .ok (.if_icmp .eq 75, 3) := by decide +kernel
theorem dL_law_884 : decode cL_law 884 = .ok (.iconst 0, 1) := by decide +kernel
theorem dL_law_885 : decode cL_law 885 = .ok (.ireturn, 1) := by decide +kernel
theorem dL_law_886 : decode cL_law 886 = .ok (.aload_n 1, 1) := by decide +kernel
theorem dL_law_887 : decode cL_law 887 = .ok (.aload_n 0, 1) := by decide +kernel
theorem dL_law_888 : decode cL_law 888 = .ok (.iload_n 3, 1) := by decide +kernel
theorem dL_law_889 : decode cL_law 889 = .ok (.iconst 1, 1) := by decide +kernel
theorem dL_law_890 : decode cL_law 890 = .ok (.iadd, 1) := by decide +kernel
theorem dL_law_891 : decode cL_law 891 = .ok (.iaload, 1) := by decide +kernel
theorem dL_law_892 : decode cL_law 892 = .ok (.aload_n 0, 1) := by decide +kernel
theorem dL_law_893 : decode cL_law 893 = .ok (.iload_n 3, 1) := by decide +kernel
theorem dL_law_894 : decode cL_law 894 = .ok (.iconst 2, 1) := by decide +kernel
theorem dL_law_895 : decode cL_law 895 = .ok (.iadd, 1) := by decide +kernel
theorem dL_law_896 : decode cL_law 896 = .ok (.iaload, 1) := by decide +kernel
theorem dL_law_897 : decode cL_law 897 = .ok (.invokevirtual 116, 3) := by decide +kernel
theorem dL_law_900 : decode cL_law 900 = .ok (.aload_n 2, 1) := by decide +kernel
theorem dL_law_901 : decode cL_law 901 = .ok (.aload_n 0, 1) := by decide +kernel
theorem dL_law_902 : decode cL_law 902 = .ok (.iload_n 3, 1) := by decide +kernel
theorem dL_law_903 : decode cL_law 903 = .ok (.iconst 1, 1) := by decide +kernel
theorem dL_law_904 : decode cL_law 904 = .ok (.iadd, 1) := by decide +kernel
theorem dL_law_905 : decode cL_law 905 = .ok (.iaload, 1) := by decide +kernel
theorem dL_law_906 : decode cL_law 906 = .ok (.aload_n 0, 1) := by decide +kernel
theorem dL_law_907 : decode cL_law 907 = .ok (.iload_n 3, 1) := by decide +kernel
theorem dL_law_908 : decode cL_law 908 = .ok (.iconst 2, 1) := by decide +kernel
theorem dL_law_909 : decode cL_law 909 = .ok (.iadd, 1) := by decide +kernel
theorem dL_law_910 : decode cL_law 910 = .ok (.iaload, 1) := by decide +kernel
theorem dL_law_911 : decode cL_law 911 = .ok (.invokevirtual 119, 3) := by decide +kernel
theorem dL_law_914 : decode cL_law 914 = .ok (.if_icmp .eq 42, 3) := by decide +kernel
theorem dL_law_917 : decode cL_law 917 = .ok (.iconst 0, 1) := by decide +kernel
theorem dL_law_918 : decode cL_law 918 = .ok (.ireturn, 1) := by decide +kernel
theorem dL_law_919 : decode cL_law 919 = .ok (.aload_n 1, 1) := by decide +kernel
theorem dL_law_920 : decode cL_law 920 = .ok (.aload_n 0, 1) := by decide +kernel
theorem dL_law_921 : decode cL_law 921 = .ok (.iload_n 3, 1) := by decide +kernel
theorem dL_law_922 : decode cL_law 922 = .ok (.iconst 1, 1) := by decide +kernel
theorem dL_law_923 : decode cL_law 923 = .ok (.iadd, 1) := by decide +kernel
theorem dL_law_924 : decode cL_law 924 = .ok (.iaload, 1) := by decide +kernel
theorem dL_law_925 : decode cL_law 925 = .ok (.invokevirtual 120, 3) := by decide +kernel
theorem dL_law_928 : decode cL_law 928 = .ok (.aload_n 2, 1) := by decide +kernel
theorem dL_law_929 : decode cL_law 929 = .ok (.aload_n 0, 1) := by decide +kernel
theorem dL_law_930 : decode cL_law 930 = .ok (.iload_n 3, 1) := by decide +kernel
theorem dL_law_931 : decode cL_law 931 = .ok (.iconst 1, 1) := by decide +kernel
theorem dL_law_932 : decode cL_law 932 = .ok (.iadd, 1) := by decide +kernel
theorem dL_law_933 : decode cL_law 933 = .ok (.iaload, 1) := by decide +kernel
theorem dL_law_934 : decode cL_law 934 = .ok (.invokevirtual 123, 3) := by decide +kernel
theorem dL_law_937 : decode cL_law 937 = .ok (.if_icmp .eq 19, 3) := by decide +kernel
theorem dL_law_940 : decode cL_law 940 = .ok (.iconst 0, 1) := by decide +kernel
theorem dL_law_941 : decode cL_law 941 = .ok (.ireturn, 1) := by decide +kernel
theorem dL_law_942 : decode cL_law 942 = .ok (.aload_n 1, 1) := by decide +kernel
theorem dL_law_943 : decode cL_law 943 = .ok (.invokevirtual 124, 3) := by decide +kernel
theorem dL_law_946 : decode cL_law 946 = .ok (.aload_n 2, 1) := by decide +kernel
theorem dL_law_947 : decode cL_law 947 = .ok (.invokevirtual 128, 3) := by decide +kernel
theorem dL_law_950 : decode cL_law 950 = .ok (.lcmp, 1) := by decide +kernel
theorem dL_law_951 : decode cL_law 951 = .ok (.ifCond .eq 5, 3) := by decide +kernel
theorem dL_law_954 : decode cL_law 954 = .ok (.iconst 0, 1) := by decide +kernel
theorem dL_law_955 : decode cL_law 955 = .ok (.ireturn, 1) := by decide +kernel
theorem dL_law_956 : decode cL_law 956 = .ok (.iinc 3 6, 3) := by decide +kernel
theorem dL_law_959 : decode cL_law 959 = .ok (.goto (-941), 3) := by decide +kernel
theorem dL_law_962 : decode cL_law 962 = .ok (.iconst 1, 1) := by decide +kernel
theorem dL_law_963 : decode cL_law 963 = .ok (.ireturn, 1) := by decide +kernel
abbrev vwCl : List vw_C := [(RX0, TX0, 3), (RX1, TX1, 6), (RX2, TX2, 18), (RX3, TX3, 1), (RX4, TX4, 3), (RX5, TX5, 9), (RX6, TX6, 9), (RX8, TX8, 7), (RX9, TX9, 6), (RX10, TX10, 3), (RX11, TX11, 7), (RX12, TX12, 53)]
