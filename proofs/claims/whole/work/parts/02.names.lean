/-! names, the tables' words one by one (a program wrote them out of the printed claim) -/
def RX0 : String := "HangingKeys$History"
def TX0 : u_T := fun k => match k with
  | 0 => ("HangingKeys$History", "states", "[LHangingKeys$House;", true)
  | 1 => ("HangingKeys$History", "spare", "I", false)
  | _ => ("HangingKeys$History", "number", "I", false)
def tyX0 : Nat → FieldType := fun k => match k with
  | 0 => .array (.object "HangingKeys$House")
  | 1 => .int
  | _ => .int
abbrev wsX00 : List Cond := u_ws RX0 TX0 3
theorem nmX0 : ∀ a, a < 3 → ∀ b, b < 3 → a ≠ b → (TX0 a).2.1 ≠ (TX0 b).2.1 := by decide +kernel
theorem tyX0_ok : ∀ k, k < 3 → parseFieldDescriptor (TX0 k).2.2.1 = some (tyX0 k) := by decide +kernel
abbrev cX0_init : ByteArray := prog_2_method_1_code
def yX0_init : MethodName := ⟨RX0, "<init>", "()V"⟩
abbrev cX0_noteBefore : ByteArray := prog_2_method_2_code
def yX0_noteBefore : MethodName := ⟨RX0, "noteBefore", "(LHangingKeys$House;)V"⟩
abbrev cX0_settle : ByteArray := prog_2_method_3_code
def yX0_settle : MethodName := ⟨RX0, "settle", "(I)I"⟩
abbrev cX0_stepBack : ByteArray := prog_2_method_4_code
def yX0_stepBack : MethodName := ⟨RX0, "stepBack", "(LHangingKeys$House;)I"⟩
abbrev cX0_stateAt : ByteArray := prog_2_method_5_code
def yX0_stateAt : MethodName := ⟨RX0, "stateAt", "(I)LHangingKeys$House;"⟩
def RX1 : String := "HangingKeys$House"
def TX1 : u_T := fun k => match k with
  | 0 => ("HangingKeys$House", "tree", "LHangingKeys$Tree;", true)
  | _ => ("HangingKeys$House", "wraps", "LHangingKeys$Wraps;", true)
def tyX1 : Nat → FieldType := fun k => match k with
  | 0 => .object "HangingKeys$Tree"
  | _ => .object "HangingKeys$Wraps"
abbrev wsX10 : List Cond := u_ws RX1 TX1 2
theorem nmX1 : ∀ a, a < 2 → ∀ b, b < 2 → a ≠ b → (TX1 a).2.1 ≠ (TX1 b).2.1 := by decide +kernel
theorem tyX1_ok : ∀ k, k < 2 → parseFieldDescriptor (TX1 k).2.2.1 = some (tyX1 k) := by decide +kernel
abbrev cX1_init : ByteArray := prog_3_method_1_code
def yX1_init : MethodName := ⟨RX1, "<init>", "()V"⟩
abbrev cX1_changeWear : ByteArray := prog_3_method_2_code
def yX1_changeWear : MethodName := ⟨RX1, "changeWear", "(I)I"⟩
abbrev cX1_makeKey : ByteArray := prog_3_method_3_code
def yX1_makeKey : MethodName := ⟨RX1, "makeKey", "(I)I"⟩
abbrev cX1_makeBox : ByteArray := prog_3_method_4_code
def yX1_makeBox : MethodName := ⟨RX1, "makeBox", "(I)I"⟩
abbrev cX1_copyOut : ByteArray := prog_3_method_5_code
def yX1_copyOut : MethodName := ⟨RX1, "copyOut", "(II)I"⟩
abbrev cX1_makeAnew : ByteArray := prog_3_method_6_code
def yX1_makeAnew : MethodName := ⟨RX1, "makeAnew", "(I)I"⟩
abbrev cX1_throwAway : ByteArray := prog_3_method_7_code
def yX1_throwAway : MethodName := ⟨RX1, "throwAway", "(II)I"⟩
abbrev cX1_wrapsByThrowing : ByteArray := prog_3_method_8_code
def yX1_wrapsByThrowing : MethodName := ⟨RX1, "wrapsByThrowing", "(II)I"⟩
abbrev cX1_hangingWithout : ByteArray := prog_3_method_9_code
def yX1_hangingWithout : MethodName := ⟨RX1, "hangingWithout", "(III)I"⟩
abbrev cX1_canWrapAgain : ByteArray := prog_3_method_10_code
def yX1_canWrapAgain : MethodName := ⟨RX1, "canWrapAgain", "(III)Z"⟩
abbrev cX1_startNextMakes : ByteArray := prog_3_method_11_code
def yX1_startNextMakes : MethodName := ⟨RX1, "startNextMakes", "(I)V"⟩
abbrev cX1_wrapAllOn : ByteArray := prog_3_method_12_code
def yX1_wrapAllOn : MethodName := ⟨RX1, "wrapAllOn", "(I)V"⟩
abbrev cX1_wrapKey : ByteArray := prog_3_method_13_code
def yX1_wrapKey : MethodName := ⟨RX1, "wrapKey", "(I)V"⟩
abbrev cX1_wrapBox : ByteArray := prog_3_method_14_code
def yX1_wrapBox : MethodName := ⟨RX1, "wrapBox", "(I)V"⟩
abbrev cX1_stepOfWay : ByteArray := prog_3_method_15_code
def yX1_stepOfWay : MethodName := ⟨RX1, "stepOfWay", "(II)I"⟩
abbrev cX1_become : ByteArray := prog_3_method_16_code
def yX1_become : MethodName := ⟨RX1, "become", "(LHangingKeys$House;)V"⟩
def RX2 : String := "HangingKeys$Opening"
def TX2 : u_T := fun k => match k with
  | 0 => ("HangingKeys$Opening", "startMakes", "LHangingKeys$Row;", true)
  | _ => ("HangingKeys$Opening", "opened", "LHangingKeys$Row;", true)
def tyX2 : Nat → FieldType := fun k => match k with
  | 0 => .object "HangingKeys$Row"
  | _ => .object "HangingKeys$Row"
abbrev wsX20 : List Cond := u_ws RX2 TX2 2
theorem nmX2 : ∀ a, a < 2 → ∀ b, b < 2 → a ≠ b → (TX2 a).2.1 ≠ (TX2 b).2.1 := by decide +kernel
theorem tyX2_ok : ∀ k, k < 2 → parseFieldDescriptor (TX2 k).2.2.1 = some (tyX2 k) := by decide +kernel
abbrev cX2_init : ByteArray := prog_4_method_1_code
def yX2_init : MethodName := ⟨RX2, "<init>", "()V"⟩
abbrev cX2_boxesWith : ByteArray := prog_4_method_2_code
def yX2_boxesWith : MethodName := ⟨RX2, "boxesWith", "(LHangingKeys$House;I)I"⟩
abbrev cX2_canHaveKey : ByteArray := prog_4_method_3_code
def yX2_canHaveKey : MethodName := ⟨RX2, "canHaveKey", "(LHangingKeys$House;III)Z"⟩
abbrev cX2_boxesByLeak : ByteArray := prog_4_method_4_code
def yX2_boxesByLeak : MethodName := ⟨RX2, "boxesByLeak", "(LHangingKeys$House;III)I"⟩
abbrev cX2_startFromSafe : ByteArray := prog_4_method_5_code
def yX2_startFromSafe : MethodName := ⟨RX2, "startFromSafe", "(LHangingKeys$Tree;)V"⟩
abbrev cX2_openAll : ByteArray := prog_4_method_6_code
def yX2_openAll : MethodName := ⟨RX2, "openAll", "(LHangingKeys$Wraps;I)V"⟩
abbrev cX2_openHolding : ByteArray := prog_4_method_7_code
def yX2_openHolding : MethodName := ⟨RX2, "openHolding", "(LHangingKeys$Wraps;II)V"⟩
abbrev cX2_isHad : ByteArray := prog_4_method_8_code
def yX2_isHad : MethodName := ⟨RX2, "isHad", "(LHangingKeys$Wraps;II)Z"⟩
abbrev cX2_openedBoxes : ByteArray := prog_4_method_9_code
def yX2_openedBoxes : MethodName := ⟨RX2, "openedBoxes", "(LHangingKeys$Wraps;)I"⟩
def RX3 : String := "HangingKeys$Pad"
def TX3 : u_T := fun k => match k with
  | 0 => ("HangingKeys$Pad", "signs", "LHangingKeys$Row;", true)
  | 1 => ("HangingKeys$Pad", "length", "I", false)
  | 2 => ("HangingKeys$Pad", "next", "I", false)
  | 3 => ("HangingKeys$Pad", "letter", "I", false)
  | 4 => ("HangingKeys$Pad", "target", "I", false)
  | _ => ("HangingKeys$Pad", "place", "I", false)
def tyX3 : Nat → FieldType := fun k => match k with
  | 0 => .object "HangingKeys$Row"
  | 1 => .int
  | 2 => .int
  | 3 => .int
  | 4 => .int
  | _ => .int
abbrev wsX30 : List Cond := u_ws RX3 TX3 6
theorem nmX3 : ∀ a, a < 6 → ∀ b, b < 6 → a ≠ b → (TX3 a).2.1 ≠ (TX3 b).2.1 := by decide +kernel
theorem tyX3_ok : ∀ k, k < 6 → parseFieldDescriptor (TX3 k).2.2.1 = some (tyX3 k) := by decide +kernel
abbrev cX3_init : ByteArray := prog_5_method_1_code
def yX3_init : MethodName := ⟨RX3, "<init>", "()V"⟩
abbrev cX3_append : ByteArray := prog_5_method_2_code
def yX3_append : MethodName := ⟨RX3, "append", "(J)I"⟩
abbrev cX3_signFromRight : ByteArray := prog_5_method_3_code
def yX3_signFromRight : MethodName := ⟨RX3, "signFromRight", "(JI)I"⟩
abbrev cX3_charactersIn : ByteArray := prog_5_method_4_code
def yX3_charactersIn : MethodName := ⟨RX3, "charactersIn", "(J)I"⟩
abbrev cX3_clear : ByteArray := prog_5_method_5_code
def yX3_clear : MethodName := ⟨RX3, "clear", "()I"⟩
abbrev cX3_findFault : ByteArray := prog_5_method_6_code
def yX3_findFault : MethodName := ⟨RX3, "findFault", "()I"⟩
abbrev cX3_startReading : ByteArray := prog_5_method_7_code
def yX3_startReading : MethodName := ⟨RX3, "startReading", "()V"⟩
abbrev cX3_hasMore : ByteArray := prog_5_method_8_code
def yX3_hasMore : MethodName := ⟨RX3, "hasMore", "()Z"⟩
abbrev cX3_readNext : ByteArray := prog_5_method_9_code
def yX3_readNext : MethodName := ⟨RX3, "readNext", "()Z"⟩
abbrev cX3_readOrder : ByteArray := prog_5_method_10_code
def yX3_readOrder : MethodName := ⟨RX3, "readOrder", "()Z"⟩
abbrev cX3_readNumber : ByteArray := prog_5_method_11_code
def yX3_readNumber : MethodName := ⟨RX3, "readNumber", "()Z"⟩
abbrev cX3_readPlace : ByteArray := prog_5_method_12_code
def yX3_readPlace : MethodName := ⟨RX3, "readPlace", "()Z"⟩
abbrev cX3_skip : ByteArray := prog_5_method_13_code
def yX3_skip : MethodName := ⟨RX3, "skip", "(I)Z"⟩
abbrev cX3_nextSign : ByteArray := prog_5_method_14_code
def yX3_nextSign : MethodName := ⟨RX3, "nextSign", "()I"⟩
abbrev cX3_isDigit : ByteArray := prog_5_method_15_code
def yX3_isDigit : MethodName := ⟨RX3, "isDigit", "(II)Z"⟩
abbrev cX3_isLetter : ByteArray := prog_5_method_16_code
def yX3_isLetter : MethodName := ⟨RX3, "isLetter", "(I)Z"⟩
def RX4 : String := "HangingKeys$Row"
def TX4 : u_T := fun k => match k with
  | _ => ("HangingKeys$Row", "cells", "[I", true)
def tyX4 : Nat → FieldType := fun k => match k with
  | _ => .array .int
abbrev wsX40 : List Cond := u_ws RX4 TX4 1
theorem nmX4 : ∀ a, a < 1 → ∀ b, b < 1 → a ≠ b → (TX4 a).2.1 ≠ (TX4 b).2.1 := by decide +kernel
theorem tyX4_ok : ∀ k, k < 1 → parseFieldDescriptor (TX4 k).2.2.1 = some (tyX4 k) := by decide +kernel
abbrev cX4_init : ByteArray := prog_6_method_1_code
def yX4_init : MethodName := ⟨RX4, "<init>", "(I)V"⟩
abbrev cX4_at : ByteArray := prog_6_method_2_code
def yX4_at : MethodName := ⟨RX4, "at", "(I)I"⟩
abbrev cX4_set : ByteArray := prog_6_method_3_code
def yX4_set : MethodName := ⟨RX4, "set", "(II)V"⟩
abbrev cX4_add : ByteArray := prog_6_method_4_code
def yX4_add : MethodName := ⟨RX4, "add", "(II)V"⟩
abbrev cX4_fill : ByteArray := prog_6_method_5_code
def yX4_fill : MethodName := ⟨RX4, "fill", "(I)V"⟩
abbrev cX4_become : ByteArray := prog_6_method_6_code
def yX4_become : MethodName := ⟨RX4, "become", "(LHangingKeys$Row;)V"⟩
def RX5 : String := "HangingKeys$Tree"
def TX5 : u_T := fun k => match k with
  | 0 => ("HangingKeys$Tree", "mostWear", "I", false)
  | 1 => ("HangingKeys$Tree", "keys", "I", false)
  | 2 => ("HangingKeys$Tree", "boxes", "I", false)
  | 3 => ("HangingKeys$Tree", "liveKeys", "I", false)
  | 4 => ("HangingKeys$Tree", "liveBoxes", "I", false)
  | 5 => ("HangingKeys$Tree", "parents", "LHangingKeys$Row;", true)
  | 6 => ("HangingKeys$Tree", "makes", "LHangingKeys$Row;", true)
  | 7 => ("HangingKeys$Tree", "wears", "LHangingKeys$Row;", true)
  | _ => ("HangingKeys$Tree", "keysOfBoxes", "LHangingKeys$Row;", true)
def tyX5 : Nat → FieldType := fun k => match k with
  | 0 => .int
  | 1 => .int
  | 2 => .int
  | 3 => .int
  | 4 => .int
  | 5 => .object "HangingKeys$Row"
  | 6 => .object "HangingKeys$Row"
  | 7 => .object "HangingKeys$Row"
  | _ => .object "HangingKeys$Row"
abbrev wsX50 : List Cond := u_ws RX5 TX5 9
theorem nmX5 : ∀ a, a < 9 → ∀ b, b < 9 → a ≠ b → (TX5 a).2.1 ≠ (TX5 b).2.1 := by decide +kernel
theorem tyX5_ok : ∀ k, k < 9 → parseFieldDescriptor (TX5 k).2.2.1 = some (tyX5 k) := by decide +kernel
abbrev cX5_init : ByteArray := prog_7_method_1_code
def yX5_init : MethodName := ⟨RX5, "<init>", "()V"⟩
abbrev cX5_hasKey : ByteArray := prog_7_method_2_code
def yX5_hasKey : MethodName := ⟨RX5, "hasKey", "(I)Z"⟩
abbrev cX5_hasBox : ByteArray := prog_7_method_3_code
def yX5_hasBox : MethodName := ⟨RX5, "hasBox", "(I)Z"⟩
abbrev cX5_isLiveKey : ByteArray := prog_7_method_4_code
def yX5_isLiveKey : MethodName := ⟨RX5, "isLiveKey", "(I)Z"⟩
abbrev cX5_isLiveBox : ByteArray := prog_7_method_5_code
def yX5_isLiveBox : MethodName := ⟨RX5, "isLiveBox", "(I)Z"⟩
abbrev cX5_isLive : ByteArray := prog_7_method_6_code
def yX5_isLive : MethodName := ⟨RX5, "isLive", "(II)Z"⟩
abbrev cX5_isRoot : ByteArray := prog_7_method_7_code
def yX5_isRoot : MethodName := ⟨RX5, "isRoot", "(I)Z"⟩
abbrev cX5_parentOf : ByteArray := prog_7_method_8_code
def yX5_parentOf : MethodName := ⟨RX5, "parentOf", "(I)I"⟩
abbrev cX5_makeOf : ByteArray := prog_7_method_9_code
def yX5_makeOf : MethodName := ⟨RX5, "makeOf", "(I)I"⟩
abbrev cX5_wearOf : ByteArray := prog_7_method_10_code
def yX5_wearOf : MethodName := ⟨RX5, "wearOf", "(I)I"⟩
abbrev cX5_keyOfBox : ByteArray := prog_7_method_11_code
def yX5_keyOfBox : MethodName := ⟨RX5, "keyOfBox", "(I)I"⟩
abbrev cX5_leftToClose : ByteArray := prog_7_method_12_code
def yX5_leftToClose : MethodName := ⟨RX5, "leftToClose", "(I)I"⟩
abbrev cX5_above : ByteArray := prog_7_method_13_code
def yX5_above : MethodName := ⟨RX5, "above", "(I)I"⟩
abbrev cX5_aboveBox : ByteArray := prog_7_method_14_code
def yX5_aboveBox : MethodName := ⟨RX5, "aboveBox", "(I)I"⟩
abbrev cX5_aboveThat : ByteArray := prog_7_method_15_code
def yX5_aboveThat : MethodName := ⟨RX5, "aboveThat", "(II)I"⟩
abbrev cX5_withAllBelow : ByteArray := prog_7_method_16_code
def yX5_withAllBelow : MethodName := ⟨RX5, "withAllBelow", "(I)I"⟩
abbrev cX5_liveKeysOn : ByteArray := prog_7_method_17_code
def yX5_liveKeysOn : MethodName := ⟨RX5, "liveKeysOn", "(I)I"⟩
abbrev cX5_liveBoxesOn : ByteArray := prog_7_method_18_code
def yX5_liveBoxesOn : MethodName := ⟨RX5, "liveBoxesOn", "(I)I"⟩
abbrev cX5_wornKeys : ByteArray := prog_7_method_19_code
def yX5_wornKeys : MethodName := ⟨RX5, "wornKeys", "()I"⟩
abbrev cX5_mostWornKey : ByteArray := prog_7_method_20_code
def yX5_mostWornKey : MethodName := ⟨RX5, "mostWornKey", "()I"⟩
abbrev cX5_addKey : ByteArray := prog_7_method_21_code
def yX5_addKey : MethodName := ⟨RX5, "addKey", "(I)I"⟩
abbrev cX5_addBox : ByteArray := prog_7_method_22_code
def yX5_addBox : MethodName := ⟨RX5, "addBox", "(I)I"⟩
abbrev cX5_startNextMake : ByteArray := prog_7_method_23_code
def yX5_startNextMake : MethodName := ⟨RX5, "startNextMake", "(I)V"⟩
abbrev cX5_wearDown : ByteArray := prog_7_method_24_code
def yX5_wearDown : MethodName := ⟨RX5, "wearDown", "(I)V"⟩
abbrev cX5_endLife : ByteArray := prog_7_method_25_code
def yX5_endLife : MethodName := ⟨RX5, "endLife", "(II)V"⟩
abbrev cX5_become : ByteArray := prog_7_method_26_code
def yX5_become : MethodName := ⟨RX5, "become", "(LHangingKeys$Tree;)V"⟩
def RX6 : String := "HangingKeys$Wraps"
def TX6 : u_T := fun k => match k with
  | 0 => ("HangingKeys$Wraps", "number", "I", false)
  | 1 => ("HangingKeys$Wraps", "heldKeys", "LHangingKeys$Row;", true)
  | 2 => ("HangingKeys$Wraps", "heldWhats", "LHangingKeys$Row;", true)
  | 3 => ("HangingKeys$Wraps", "closers", "LHangingKeys$Row;", true)
  | 4 => ("HangingKeys$Wraps", "closerMakes", "LHangingKeys$Row;", true)
  | _ => ("HangingKeys$Wraps", "stands", "LHangingKeys$Row;", true)
def tyX6 : Nat → FieldType := fun k => match k with
  | 0 => .int
  | 1 => .object "HangingKeys$Row"
  | 2 => .object "HangingKeys$Row"
  | 3 => .object "HangingKeys$Row"
  | 4 => .object "HangingKeys$Row"
  | _ => .object "HangingKeys$Row"
abbrev wsX60 : List Cond := u_ws RX6 TX6 6
theorem nmX6 : ∀ a, a < 6 → ∀ b, b < 6 → a ≠ b → (TX6 a).2.1 ≠ (TX6 b).2.1 := by decide +kernel
theorem tyX6_ok : ∀ k, k < 6 → parseFieldDescriptor (TX6 k).2.2.1 = some (tyX6 k) := by decide +kernel
abbrev cX6_init : ByteArray := prog_8_method_1_code
def yX6_init : MethodName := ⟨RX6, "<init>", "()V"⟩
abbrev cX6_isOne : ByteArray := prog_8_method_2_code
def yX6_isOne : MethodName := ⟨RX6, "isOne", "(I)Z"⟩
abbrev cX6_haveRoomFor : ByteArray := prog_8_method_3_code
def yX6_haveRoomFor : MethodName := ⟨RX6, "haveRoomFor", "(I)Z"⟩
abbrev cX6_heldKey : ByteArray := prog_8_method_4_code
def yX6_heldKey : MethodName := ⟨RX6, "heldKey", "(I)I"⟩
abbrev cX6_heldWhat : ByteArray := prog_8_method_5_code
def yX6_heldWhat : MethodName := ⟨RX6, "heldWhat", "(I)I"⟩
abbrev cX6_closer : ByteArray := prog_8_method_6_code
def yX6_closer : MethodName := ⟨RX6, "closer", "(I)I"⟩
abbrev cX6_closerMake : ByteArray := prog_8_method_7_code
def yX6_closerMake : MethodName := ⟨RX6, "closerMake", "(I)I"⟩
abbrev cX6_standsIn : ByteArray := prog_8_method_8_code
def yX6_standsIn : MethodName := ⟨RX6, "standsIn", "(II)Z"⟩
abbrev cX6_placesOf : ByteArray := prog_8_method_9_code
def yX6_placesOf : MethodName := ⟨RX6, "placesOf", "(I)I"⟩
abbrev cX6_standingIn : ByteArray := prog_8_method_10_code
def yX6_standingIn : MethodName := ⟨RX6, "standingIn", "(I)I"⟩
abbrev cX6_holdsMake : ByteArray := prog_8_method_11_code
def yX6_holdsMake : MethodName := ⟨RX6, "holdsMake", "(III)Z"⟩
abbrev cX6_holdsBox : ByteArray := prog_8_method_12_code
def yX6_holdsBox : MethodName := ⟨RX6, "holdsBox", "(II)Z"⟩
abbrev cX6_inHouseWithKey : ByteArray := prog_8_method_13_code
def yX6_inHouseWithKey : MethodName := ⟨RX6, "inHouseWithKey", "(II)I"⟩
abbrev cX6_inHouseWithBox : ByteArray := prog_8_method_14_code
def yX6_inHouseWithBox : MethodName := ⟨RX6, "inHouseWithBox", "(I)I"⟩
abbrev cX6_add : ByteArray := prog_8_method_15_code
def yX6_add : MethodName := ⟨RX6, "add", "(IIII)V"⟩
abbrev cX6_standAlsoIn : ByteArray := prog_8_method_16_code
def yX6_standAlsoIn : MethodName := ⟨RX6, "standAlsoIn", "(II)V"⟩
abbrev cX6_burnHolding : ByteArray := prog_8_method_17_code
def yX6_burnHolding : MethodName := ⟨RX6, "burnHolding", "(II)V"⟩
abbrev cX6_burnOlderThan : ByteArray := prog_8_method_18_code
def yX6_burnOlderThan : MethodName := ⟨RX6, "burnOlderThan", "(II)V"⟩
abbrev cX6_burn : ByteArray := prog_8_method_19_code
def yX6_burn : MethodName := ⟨RX6, "burn", "(I)V"⟩
abbrev cX6_become : ByteArray := prog_8_method_20_code
def yX6_become : MethodName := ⟨RX6, "become", "(LHangingKeys$Wraps;)V"⟩
def RX7 : String := "HangingKeys"
def TX7 : u_T := fun k => match k with
  | 0 => ("HangingKeys", "house", "LHangingKeys$House;", true)
  | 1 => ("HangingKeys", "opening", "LHangingKeys$Opening;", true)
  | 2 => ("HangingKeys", "pad", "LHangingKeys$Pad;", true)
  | 3 => ("HangingKeys", "history", "LHangingKeys$History;", true)
  | _ => ("HangingKeys", "slots", "[LHangingKeys$House;", true)
def tyX7 : Nat → FieldType := fun k => match k with
  | 0 => .object "HangingKeys$House"
  | 1 => .object "HangingKeys$Opening"
  | 2 => .object "HangingKeys$Pad"
  | 3 => .object "HangingKeys$History"
  | _ => .array (.object "HangingKeys$House")
abbrev wsX70 : List Cond := u_ws RX7 TX7 5
theorem nmX7 : ∀ a, a < 5 → ∀ b, b < 5 → a ≠ b → (TX7 a).2.1 ≠ (TX7 b).2.1 := by decide +kernel
theorem tyX7_ok : ∀ k, k < 5 → parseFieldDescriptor (TX7 k).2.2.1 = some (tyX7 k) := by decide +kernel
abbrev cX7_init : ByteArray := prog_1_method_1_code
def yX7_init : MethodName := ⟨RX7, "<init>", "()V"⟩
abbrev cX7_wear : ByteArray := prog_1_method_2_code
def yX7_wear : MethodName := ⟨RX7, "wear", "(I)I"⟩
abbrev cX7_key : ByteArray := prog_1_method_3_code
def yX7_key : MethodName := ⟨RX7, "key", "(I)I"⟩
abbrev cX7_box : ByteArray := prog_1_method_4_code
def yX7_box : MethodName := ⟨RX7, "box", "(I)I"⟩
abbrev cX7_copy : ByteArray := prog_1_method_5_code
def yX7_copy : MethodName := ⟨RX7, "copy", "(II)I"⟩
abbrev cX7_renew : ByteArray := prog_1_method_6_code
def yX7_renew : MethodName := ⟨RX7, "renew", "(I)I"⟩
abbrev cX7_throwKey : ByteArray := prog_1_method_7_code
def yX7_throwKey : MethodName := ⟨RX7, "throwKey", "(I)I"⟩
abbrev cX7_throwBox : ByteArray := prog_1_method_8_code
def yX7_throwBox : MethodName := ⟨RX7, "throwBox", "(I)I"⟩
abbrev cX7_ofKey : ByteArray := prog_1_method_9_code
def yX7_ofKey : MethodName := ⟨RX7, "ofKey", "(II)I"⟩
abbrev cX7_ofBox : ByteArray := prog_1_method_10_code
def yX7_ofBox : MethodName := ⟨RX7, "ofBox", "(II)I"⟩
abbrev cX7_wrap : ByteArray := prog_1_method_11_code
def yX7_wrap : MethodName := ⟨RX7, "wrap", "(II)I"⟩
abbrev cX7_count : ByteArray := prog_1_method_12_code
def yX7_count : MethodName := ⟨RX7, "count", "(I)I"⟩
abbrev cX7_canOpen : ByteArray := prog_1_method_13_code
def yX7_canOpen : MethodName := ⟨RX7, "canOpen", "(II)I"⟩
abbrev cX7_canHave : ByteArray := prog_1_method_14_code
def yX7_canHave : MethodName := ⟨RX7, "canHave", "(III)I"⟩
abbrev cX7_way : ByteArray := prog_1_method_15_code
def yX7_way : MethodName := ⟨RX7, "way", "(II)I"⟩
abbrev cX7_leaks : ByteArray := prog_1_method_16_code
def yX7_leaks : MethodName := ⟨RX7, "leaks", "(III)I"⟩
abbrev cX7_lostBy : ByteArray := prog_1_method_17_code
def yX7_lostBy : MethodName := ⟨RX7, "lostBy", "(I)I"⟩
abbrev cX7_throwingMakes : ByteArray := prog_1_method_18_code
def yX7_throwingMakes : MethodName := ⟨RX7, "throwingMakes", "(II)I"⟩
abbrev cX7_mostWorn : ByteArray := prog_1_method_19_code
def yX7_mostWorn : MethodName := ⟨RX7, "mostWorn", "(I)I"⟩
abbrev cX7_put : ByteArray := prog_1_method_20_code
def yX7_put : MethodName := ⟨RX7, "put", "(J)I"⟩
abbrev cX7_wipe : ByteArray := prog_1_method_21_code
def yX7_wipe : MethodName := ⟨RX7, "wipe", "()I"⟩
abbrev cX7_fault : ByteArray := prog_1_method_22_code
def yX7_fault : MethodName := ⟨RX7, "fault", "()I"⟩
abbrev cX7_carryOut : ByteArray := prog_1_method_23_code
def yX7_carryOut : MethodName := ⟨RX7, "carryOut", "()I"⟩
abbrev cX7_carryOutOrder : ByteArray := prog_1_method_24_code
def yX7_carryOutOrder : MethodName := ⟨RX7, "carryOutOrder", "()I"⟩
abbrev cX7_undo : ByteArray := prog_1_method_25_code
def yX7_undo : MethodName := ⟨RX7, "undo", "()I"⟩
abbrev cX7_save : ByteArray := prog_1_method_26_code
def yX7_save : MethodName := ⟨RX7, "save", "(I)I"⟩
abbrev cX7_restore : ByteArray := prog_1_method_27_code
def yX7_restore : MethodName := ⟨RX7, "restore", "(I)I"⟩
abbrev cX7_oneIf : ByteArray := prog_1_method_28_code
def yX7_oneIf : MethodName := ⟨RX7, "oneIf", "(Z)I"⟩
abbrev cX7_setOf : ByteArray := prog_1_method_29_code
def yX7_setOf : MethodName := ⟨RX7, "setOf", "(I)I"⟩
abbrev cX7_has : ByteArray := prog_1_method_30_code
def yX7_has : MethodName := ⟨RX7, "has", "(II)Z"⟩
abbrev cX7_arePlaces : ByteArray := prog_1_method_31_code
def yX7_arePlaces : MethodName := ⟨RX7, "arePlaces", "(I)Z"⟩
def RX8 : String := "HangingKeysModel"
def TX8 : u_T := fun k => match k with
  | 0 => ("HangingKeysModel", "state", "[I", true)
  | 1 => ("HangingKeysModel", "history", "[I", true)
  | 2 => ("HangingKeysModel", "recorded", "I", false)
  | 3 => ("HangingKeysModel", "slots", "[I", true)
  | 4 => ("HangingKeysModel", "isSaved", "[I", true)
  | 5 => ("HangingKeysModel", "pad", "[I", true)
  | 6 => ("HangingKeysModel", "padLength", "I", false)
  | 7 => ("HangingKeysModel", "opened", "[I", true)
  | 8 => ("HangingKeysModel", "at", "I", false)
  | 9 => ("HangingKeysModel", "letter", "I", false)
  | 10 => ("HangingKeysModel", "first", "I", false)
  | _ => ("HangingKeysModel", "second", "I", false)
def tyX8 : Nat → FieldType := fun k => match k with
  | 0 => .array .int
  | 1 => .array .int
  | 2 => .int
  | 3 => .array .int
  | 4 => .array .int
  | 5 => .array .int
  | 6 => .int
  | 7 => .array .int
  | 8 => .int
  | 9 => .int
  | 10 => .int
  | _ => .int
abbrev wsX80 : List Cond := u_ws RX8 TX8 12
theorem nmX8 : ∀ a, a < 12 → ∀ b, b < 12 → a ≠ b → (TX8 a).2.1 ≠ (TX8 b).2.1 := by decide +kernel
theorem tyX8_ok : ∀ k, k < 12 → parseFieldDescriptor (TX8 k).2.2.1 = some (tyX8 k) := by decide +kernel
abbrev cX8_init : ByteArray := prog_10_method_1_code
def yX8_init : MethodName := ⟨RX8, "<init>", "()V"⟩
abbrev cX8_moves : ByteArray := prog_10_method_3_code
def yX8_moves : MethodName := ⟨RX8, "moves", "([II[II)V"⟩
abbrev cX8_within : ByteArray := prog_10_method_4_code
def yX8_within : MethodName := ⟨RX8, "within", "(III)Z"⟩
abbrev cX8_record : ByteArray := prog_10_method_5_code
def yX8_record : MethodName := ⟨RX8, "record", "()V"⟩
abbrev cX8_keyPart : ByteArray := prog_10_method_6_code
def yX8_keyPart : MethodName := ⟨RX8, "keyPart", "(II)I"⟩
abbrev cX8_setKey : ByteArray := prog_10_method_7_code
def yX8_setKey : MethodName := ⟨RX8, "setKey", "(III)V"⟩
abbrev cX8_boxPart : ByteArray := prog_10_method_8_code
def yX8_boxPart : MethodName := ⟨RX8, "boxPart", "(II)I"⟩
abbrev cX8_setBox : ByteArray := prog_10_method_9_code
def yX8_setBox : MethodName := ⟨RX8, "setBox", "(III)V"⟩
abbrev cX8_wrapPart : ByteArray := prog_10_method_10_code
def yX8_wrapPart : MethodName := ⟨RX8, "wrapPart", "(II)I"⟩
abbrev cX8_setWrap : ByteArray := prog_10_method_11_code
def yX8_setWrap : MethodName := ⟨RX8, "setWrap", "(III)V"⟩
abbrev cX8_isKey : ByteArray := prog_10_method_12_code
def yX8_isKey : MethodName := ⟨RX8, "isKey", "(I)Z"⟩
abbrev cX8_isLiveKey : ByteArray := prog_10_method_13_code
def yX8_isLiveKey : MethodName := ⟨RX8, "isLiveKey", "(I)Z"⟩
abbrev cX8_isBox : ByteArray := prog_10_method_14_code
def yX8_isBox : MethodName := ⟨RX8, "isBox", "(I)Z"⟩
abbrev cX8_isLiveBox : ByteArray := prog_10_method_15_code
def yX8_isLiveBox : MethodName := ⟨RX8, "isLiveBox", "(I)Z"⟩
abbrev cX8_isRoot : ByteArray := prog_10_method_16_code
def yX8_isRoot : MethodName := ⟨RX8, "isRoot", "(I)Z"⟩
abbrev cX8_canClose : ByteArray := prog_10_method_17_code
def yX8_canClose : MethodName := ⟨RX8, "canClose", "(I)Z"⟩
abbrev cX8_isUnder : ByteArray := prog_10_method_18_code
def yX8_isUnder : MethodName := ⟨RX8, "isUnder", "(II)Z"⟩
abbrev cX8_above : ByteArray := prog_10_method_19_code
def yX8_above : MethodName := ⟨RX8, "above", "(I)I"⟩
abbrev cX8_higher : ByteArray := prog_10_method_20_code
def yX8_higher : MethodName := ⟨RX8, "higher", "(II)I"⟩
abbrev cX8_hangingKeys : ByteArray := prog_10_method_21_code
def yX8_hangingKeys : MethodName := ⟨RX8, "hangingKeys", "(I)I"⟩
abbrev cX8_hangingBoxes : ByteArray := prog_10_method_22_code
def yX8_hangingBoxes : MethodName := ⟨RX8, "hangingBoxes", "(I)I"⟩
abbrev cX8_bits : ByteArray := prog_10_method_23_code
def yX8_bits : MethodName := ⟨RX8, "bits", "(I)I"⟩
abbrev cX8_hangingFrom : ByteArray := prog_10_method_24_code
def yX8_hangingFrom : MethodName := ⟨RX8, "hangingFrom", "(I)I"⟩
abbrev cX8_makeWrap : ByteArray := prog_10_method_25_code
def yX8_makeWrap : MethodName := ⟨RX8, "makeWrap", "(III)V"⟩
abbrev cX8_wrapKey : ByteArray := prog_10_method_26_code
def yX8_wrapKey : MethodName := ⟨RX8, "wrapKey", "(I)V"⟩
abbrev cX8_wrapBox : ByteArray := prog_10_method_27_code
def yX8_wrapBox : MethodName := ⟨RX8, "wrapBox", "(I)V"⟩
abbrev cX8_wrapAllUnder : ByteArray := prog_10_method_28_code
def yX8_wrapAllUnder : MethodName := ⟨RX8, "wrapAllUnder", "(I)V"⟩
abbrev cX8_burns : ByteArray := prog_10_method_29_code
def yX8_burns : MethodName := ⟨RX8, "burns", "()V"⟩
abbrev cX8_isInSafe : ByteArray := prog_10_method_30_code
def yX8_isInSafe : MethodName := ⟨RX8, "isInSafe", "(II)Z"⟩
abbrev cX8_isHad : ByteArray := prog_10_method_31_code
def yX8_isHad : MethodName := ⟨RX8, "isHad", "(IIII)Z"⟩
abbrev cX8_open : ByteArray := prog_10_method_32_code
def yX8_open : MethodName := ⟨RX8, "open", "(III)V"⟩
abbrev cX8_openBoxes : ByteArray := prog_10_method_33_code
def yX8_openBoxes : MethodName := ⟨RX8, "openBoxes", "()I"⟩
abbrev cX8_openWith : ByteArray := prog_10_method_34_code
def yX8_openWith : MethodName := ⟨RX8, "openWith", "(I)I"⟩
abbrev cX8_wear : ByteArray := prog_10_method_35_code
def yX8_wear : MethodName := ⟨RX8, "wear", "(I)I"⟩
abbrev cX8_whyNoKey : ByteArray := prog_10_method_36_code
def yX8_whyNoKey : MethodName := ⟨RX8, "whyNoKey", "(I)I"⟩
abbrev cX8_makeKey : ByteArray := prog_10_method_37_code
def yX8_makeKey : MethodName := ⟨RX8, "makeKey", "(I)I"⟩
abbrev cX8_key : ByteArray := prog_10_method_38_code
def yX8_key : MethodName := ⟨RX8, "key", "(I)I"⟩
abbrev cX8_whyNoBox : ByteArray := prog_10_method_39_code
def yX8_whyNoBox : MethodName := ⟨RX8, "whyNoBox", "(I)I"⟩
abbrev cX8_makeBox : ByteArray := prog_10_method_40_code
def yX8_makeBox : MethodName := ⟨RX8, "makeBox", "(I)I"⟩
abbrev cX8_box : ByteArray := prog_10_method_41_code
def yX8_box : MethodName := ⟨RX8, "box", "(I)I"⟩
abbrev cX8_whyNoCopy : ByteArray := prog_10_method_42_code
def yX8_whyNoCopy : MethodName := ⟨RX8, "whyNoCopy", "(II)I"⟩
abbrev cX8_copied : ByteArray := prog_10_method_43_code
def yX8_copied : MethodName := ⟨RX8, "copied", "(II)I"⟩
abbrev cX8_copy : ByteArray := prog_10_method_44_code
def yX8_copy : MethodName := ⟨RX8, "copy", "(II)I"⟩
abbrev cX8_renewMakes : ByteArray := prog_10_method_45_code
def yX8_renewMakes : MethodName := ⟨RX8, "renewMakes", "(I)I"⟩
abbrev cX8_whyNotRenewed : ByteArray := prog_10_method_46_code
def yX8_whyNotRenewed : MethodName := ⟨RX8, "whyNotRenewed", "(I)I"⟩
abbrev cX8_makesAnew : ByteArray := prog_10_method_47_code
def yX8_makesAnew : MethodName := ⟨RX8, "makesAnew", "(I)V"⟩
abbrev cX8_renewed : ByteArray := prog_10_method_48_code
def yX8_renewed : MethodName := ⟨RX8, "renewed", "(I)I"⟩
abbrev cX8_renew : ByteArray := prog_10_method_49_code
def yX8_renew : MethodName := ⟨RX8, "renew", "(I)I"⟩
abbrev cX8_throwMakes : ByteArray := prog_10_method_50_code
def yX8_throwMakes : MethodName := ⟨RX8, "throwMakes", "(I)I"⟩
abbrev cX8_whyNotThrown : ByteArray := prog_10_method_51_code
def yX8_whyNotThrown : MethodName := ⟨RX8, "whyNotThrown", "(I)I"⟩
abbrev cX8_makesAboveAnew : ByteArray := prog_10_method_52_code
def yX8_makesAboveAnew : MethodName := ⟨RX8, "makesAboveAnew", "(I)V"⟩
abbrev cX8_whyKeyNotThrown : ByteArray := prog_10_method_53_code
def yX8_whyKeyNotThrown : MethodName := ⟨RX8, "whyKeyNotThrown", "(I)I"⟩
abbrev cX8_keyThrown : ByteArray := prog_10_method_54_code
def yX8_keyThrown : MethodName := ⟨RX8, "keyThrown", "(I)I"⟩
abbrev cX8_throwKey : ByteArray := prog_10_method_55_code
def yX8_throwKey : MethodName := ⟨RX8, "throwKey", "(I)I"⟩
abbrev cX8_whyBoxNotThrown : ByteArray := prog_10_method_56_code
def yX8_whyBoxNotThrown : MethodName := ⟨RX8, "whyBoxNotThrown", "(I)I"⟩
abbrev cX8_boxThrown : ByteArray := prog_10_method_57_code
def yX8_boxThrown : MethodName := ⟨RX8, "boxThrown", "(I)I"⟩
abbrev cX8_throwBox : ByteArray := prog_10_method_58_code
def yX8_throwBox : MethodName := ⟨RX8, "throwBox", "(I)I"⟩
abbrev cX8_ofKey : ByteArray := prog_10_method_59_code
def yX8_ofKey : MethodName := ⟨RX8, "ofKey", "(II)I"⟩
abbrev cX8_ofBox : ByteArray := prog_10_method_60_code
def yX8_ofBox : MethodName := ⟨RX8, "ofBox", "(II)I"⟩
abbrev cX8_wrap : ByteArray := prog_10_method_61_code
def yX8_wrap : MethodName := ⟨RX8, "wrap", "(II)I"⟩
abbrev cX8_liveKeys : ByteArray := prog_10_method_62_code
def yX8_liveKeys : MethodName := ⟨RX8, "liveKeys", "()I"⟩
abbrev cX8_liveBoxes : ByteArray := prog_10_method_63_code
def yX8_liveBoxes : MethodName := ⟨RX8, "liveBoxes", "()I"⟩
abbrev cX8_inHouse : ByteArray := prog_10_method_64_code
def yX8_inHouse : MethodName := ⟨RX8, "inHouse", "()I"⟩
abbrev cX8_outside : ByteArray := prog_10_method_65_code
def yX8_outside : MethodName := ⟨RX8, "outside", "()I"⟩
abbrev cX8_wornKeys : ByteArray := prog_10_method_66_code
def yX8_wornKeys : MethodName := ⟨RX8, "wornKeys", "()I"⟩
abbrev cX8_count : ByteArray := prog_10_method_67_code
def yX8_count : MethodName := ⟨RX8, "count", "(I)I"⟩
abbrev cX8_canOpen : ByteArray := prog_10_method_68_code
def yX8_canOpen : MethodName := ⟨RX8, "canOpen", "(II)I"⟩
abbrev cX8_canHave : ByteArray := prog_10_method_69_code
def yX8_canHave : MethodName := ⟨RX8, "canHave", "(III)I"⟩
abbrev cX8_houseWrap : ByteArray := prog_10_method_70_code
def yX8_houseWrap : MethodName := ⟨RX8, "houseWrap", "(II)I"⟩
abbrev cX8_way : ByteArray := prog_10_method_71_code
def yX8_way : MethodName := ⟨RX8, "way", "(II)I"⟩
abbrev cX8_leaks : ByteArray := prog_10_method_72_code
def yX8_leaks : MethodName := ⟨RX8, "leaks", "(III)I"⟩
abbrev cX8_lostBy : ByteArray := prog_10_method_73_code
def yX8_lostBy : MethodName := ⟨RX8, "lostBy", "(I)I"⟩
abbrev cX8_throwingMakes : ByteArray := prog_10_method_74_code
def yX8_throwingMakes : MethodName := ⟨RX8, "throwingMakes", "(II)I"⟩
abbrev cX8_leftOf : ByteArray := prog_10_method_75_code
def yX8_leftOf : MethodName := ⟨RX8, "leftOf", "(I)I"⟩
abbrev cX8_mostWorn : ByteArray := prog_10_method_76_code
def yX8_mostWorn : MethodName := ⟨RX8, "mostWorn", "(I)I"⟩
abbrev cX8_put : ByteArray := prog_10_method_77_code
def yX8_put : MethodName := ⟨RX8, "put", "(J)I"⟩
abbrev cX8_wipe : ByteArray := prog_10_method_78_code
def yX8_wipe : MethodName := ⟨RX8, "wipe", "()I"⟩
abbrev cX8_character : ByteArray := prog_10_method_79_code
def yX8_character : MethodName := ⟨RX8, "character", "(I)I"⟩
abbrev cX8_takes : ByteArray := prog_10_method_80_code
def yX8_takes : MethodName := ⟨RX8, "takes", "(I)Z"⟩
abbrev cX8_takeNumber : ByteArray := prog_10_method_81_code
def yX8_takeNumber : MethodName := ⟨RX8, "takeNumber", "()I"⟩
abbrev cX8_isOrder : ByteArray := prog_10_method_82_code
def yX8_isOrder : MethodName := ⟨RX8, "isOrder", "(I)Z"⟩
abbrev cX8_readsOrder : ByteArray := prog_10_method_83_code
def yX8_readsOrder : MethodName := ⟨RX8, "readsOrder", "()Z"⟩
abbrev cX8_findFault : ByteArray := prog_10_method_84_code
def yX8_findFault : MethodName := ⟨RX8, "findFault", "()I"⟩
abbrev cX8_fault : ByteArray := prog_10_method_85_code
def yX8_fault : MethodName := ⟨RX8, "fault", "()I"⟩
abbrev cX8_whyNotDone : ByteArray := prog_10_method_86_code
def yX8_whyNotDone : MethodName := ⟨RX8, "whyNotDone", "()I"⟩
abbrev cX8_does : ByteArray := prog_10_method_87_code
def yX8_does : MethodName := ⟨RX8, "does", "()V"⟩
abbrev cX8_carryOut : ByteArray := prog_10_method_88_code
def yX8_carryOut : MethodName := ⟨RX8, "carryOut", "()I"⟩
abbrev cX8_undo : ByteArray := prog_10_method_89_code
def yX8_undo : MethodName := ⟨RX8, "undo", "()I"⟩
abbrev cX8_save : ByteArray := prog_10_method_90_code
def yX8_save : MethodName := ⟨RX8, "save", "(I)I"⟩
abbrev cX8_restore : ByteArray := prog_10_method_91_code
def yX8_restore : MethodName := ⟨RX8, "restore", "(I)I"⟩
def RJ6 : String := "java/lang/Integer"
abbrev cJ6_bitCount_0f7a4 : ByteArray := prog_11_method_49_code
def yJ6_bitCount_0f7a4 : MethodName := ⟨RJ6, "bitCount", "(I)I"⟩
def RJ9 : String := "java/lang/Math"
abbrev cJ9_max_7cf53 : ByteArray := prog_12_method_65_code
def yJ9_max_7cf53 : MethodName := ⟨RJ9, "max", "(II)I"⟩
abbrev cJ9_min_7cf53 : ByteArray := prog_12_method_69_code
def yJ9_min_7cf53 : MethodName := ⟨RJ9, "min", "(II)I"⟩
def RJ10 : String := "java/lang/System"
def RL : String := "HangingKeysLaw"
abbrev cL_law : ByteArray := code
def yL_law : MethodName := ⟨RL, "law", "([I)Z"⟩
abbrev vwCl : List vw_C := [(RX0, TX0, 3), (RX1, TX1, 2), (RX2, TX2, 2), (RX3, TX3, 6), (RX4, TX4, 1), (RX5, TX5, 9), (RX6, TX6, 6), (RX7, TX7, 5), (RX8, TX8, 12)]
/-- the tables' words that a call hands on -/
noncomputable def GB : List Cond := lw_tbl.filter goodWord
theorem gb_in {w : Cond} (h : w ∈ lw_tbl) (hg : goodWord w = true) : w ∈ GB := List.mem_filter.mpr ⟨h, hg⟩
theorem gb_good {w : Cond} (h : w ∈ GB) : (w.onTables && w.keeps) = true ∨ ∃ ty, w = .arrayClass ty := good_of_word (List.mem_filter.mp h).2
theorem gb_tbl {w : Cond} (h : w ∈ GB) : w ∈ lw_tbl := (List.mem_filter.mp h).1
theorem in_L : Cond.initialized RL ∈ GB := gb_in (List.mem_append_right _ (List.mem_of_getElem? (i := 0) (by decide +kernel))) rfl
theorem in_X7 : Cond.initialized RX7 ∈ GB := gb_in (List.mem_append_right _ (List.mem_of_getElem? (i := 1) (by decide +kernel))) rfl
theorem in_X1 : Cond.initialized RX1 ∈ GB := gb_in (List.mem_append_right _ (List.mem_of_getElem? (i := 2) (by decide +kernel))) rfl
theorem in_X5 : Cond.initialized RX5 ∈ GB := gb_in (List.mem_append_right _ (List.mem_of_getElem? (i := 3) (by decide +kernel))) rfl
theorem in_X4 : Cond.initialized RX4 ∈ GB := gb_in (List.mem_append_right _ (List.mem_of_getElem? (i := 4) (by decide +kernel))) rfl
theorem in_J9 : Cond.initialized RJ9 ∈ GB := gb_in (List.mem_append_right _ (List.mem_of_getElem? (i := 5) (by decide +kernel))) rfl
theorem in_X6 : Cond.initialized RX6 ∈ GB := gb_in (List.mem_append_right _ (List.mem_of_getElem? (i := 6) (by decide +kernel))) rfl
theorem in_X2 : Cond.initialized RX2 ∈ GB := gb_in (List.mem_append_right _ (List.mem_of_getElem? (i := 7) (by decide +kernel))) rfl
theorem in_X3 : Cond.initialized RX3 ∈ GB := gb_in (List.mem_append_right _ (List.mem_of_getElem? (i := 8) (by decide +kernel))) rfl
theorem in_X0 : Cond.initialized RX0 ∈ GB := gb_in (List.mem_append_right _ (List.mem_of_getElem? (i := 9) (by decide +kernel))) rfl
theorem in_X8 : Cond.initialized RX8 ∈ GB := gb_in (List.mem_append_right _ (List.mem_of_getElem? (i := 10) (by decide +kernel))) rfl
theorem in_J10 : Cond.initialized RJ10 ∈ GB := gb_in (List.mem_append_right _ (List.mem_of_getElem? (i := 11) (by decide +kernel))) rfl
theorem in_J6 : Cond.initialized RJ6 ∈ GB := gb_in (List.mem_append_right _ (List.mem_of_getElem? (i := 12) (by decide +kernel))) rfl
theorem cl_L_7 : Cond.classLink RL 7 RX7 ∈ GB := gb_in (List.mem_append_right _ (List.mem_of_getElem? (i := 13) (by decide +kernel))) rfl
theorem ia_X7 : Cond.instantiable RX7 5 ∈ GB := gb_in (List.mem_append_right _ (List.mem_of_getElem? (i := 14) (by decide +kernel))) rfl
theorem ml_L_9 : Cond.methodLink RL 9 yX7_init ∈ GB := gb_in (List.mem_append_right _ (List.mem_of_getElem? (i := 15) (by decide +kernel))) rfl
theorem im_X7_init : Cond.instanceMethod yX7_init ∈ GB := gb_in (List.mem_append_right _ (List.mem_of_getElem? (i := 16) (by decide +kernel))) rfl
theorem co_X7_init : Cond.code yX7_init cX7_init 1 none ∈ GB := gb_in (List.mem_append_right _ (List.mem_of_getElem? (i := 17) (by decide +kernel))) rfl
theorem ml_X7_1 : Cond.methodLink RX7 1 ⟨"java/lang/Object", "<init>", "()V"⟩ ∈ GB := gb_in (List.mem_append_right _ (List.mem_of_getElem? (i := 18) (by decide +kernel))) rfl
theorem im_objInit : Cond.instanceMethod ⟨"java/lang/Object", "<init>", "()V"⟩ ∈ GB := gb_in (List.mem_append_right _ (List.mem_of_getElem? (i := 19) (by decide +kernel))) rfl
theorem co_objInit : Cond.code objectInit ⟨#[0xb1]⟩ 1 none ∈ GB := gb_in (List.mem_append_right _ (List.mem_of_getElem? (i := 20) (by decide +kernel))) rfl
theorem cl_X7_7 : Cond.classLink RX7 7 RX1 ∈ GB := gb_in (List.mem_append_right _ (List.mem_of_getElem? (i := 21) (by decide +kernel))) rfl
theorem ia_X1 : Cond.instantiable RX1 2 ∈ GB := gb_in (List.mem_append_right _ (List.mem_of_getElem? (i := 22) (by decide +kernel))) rfl
theorem im_X1_init : Cond.instanceMethod yX1_init ∈ GB := gb_in (List.mem_append_right _ (List.mem_of_getElem? (i := 24) (by decide +kernel))) rfl
theorem co_X1_init : Cond.code yX1_init cX1_init 1 none ∈ GB := gb_in (List.mem_append_right _ (List.mem_of_getElem? (i := 25) (by decide +kernel))) rfl
theorem ml_X1_3 : Cond.methodLink RX1 3 ⟨"java/lang/Object", "<init>", "()V"⟩ ∈ GB := gb_in (List.mem_append_right _ (List.mem_of_getElem? (i := 26) (by decide +kernel))) rfl
theorem cl_X1_9 : Cond.classLink RX1 9 RX5 ∈ GB := gb_in (List.mem_append_right _ (List.mem_of_getElem? (i := 27) (by decide +kernel))) rfl
theorem ia_X5 : Cond.instantiable RX5 9 ∈ GB := gb_in (List.mem_append_right _ (List.mem_of_getElem? (i := 28) (by decide +kernel))) rfl
theorem im_X5_init : Cond.instanceMethod yX5_init ∈ GB := gb_in (List.mem_append_right _ (List.mem_of_getElem? (i := 30) (by decide +kernel))) rfl
theorem co_X5_init : Cond.code yX5_init cX5_init 1 none ∈ GB := gb_in (List.mem_append_right _ (List.mem_of_getElem? (i := 31) (by decide +kernel))) rfl
theorem ml_X5_3 : Cond.methodLink RX5 3 ⟨"java/lang/Object", "<init>", "()V"⟩ ∈ GB := gb_in (List.mem_append_right _ (List.mem_of_getElem? (i := 32) (by decide +kernel))) rfl
theorem cl_X5_27 : Cond.classLink RX5 27 RX4 ∈ GB := gb_in (List.mem_append_right _ (List.mem_of_getElem? (i := 33) (by decide +kernel))) rfl
theorem ia_X4 : Cond.instantiable RX4 1 ∈ GB := gb_in (List.mem_append_right _ (List.mem_of_getElem? (i := 34) (by decide +kernel))) rfl
theorem ml_X5_29 : Cond.methodLink RX5 29 yX4_init ∈ GB := gb_in (List.mem_append_right _ (List.mem_of_getElem? (i := 35) (by decide +kernel))) rfl
theorem im_X4_init : Cond.instanceMethod yX4_init ∈ GB := gb_in (List.mem_append_right _ (List.mem_of_getElem? (i := 36) (by decide +kernel))) rfl
theorem co_X4_init : Cond.code yX4_init cX4_init 2 none ∈ GB := gb_in (List.mem_append_right _ (List.mem_of_getElem? (i := 37) (by decide +kernel))) rfl
theorem ml_X4_1 : Cond.methodLink RX4 1 ⟨"java/lang/Object", "<init>", "()V"⟩ ∈ GB := gb_in (List.mem_append_right _ (List.mem_of_getElem? (i := 38) (by decide +kernel))) rfl
theorem ml_X4_7 : Cond.methodLink RX4 7 yJ9_max_7cf53 ∈ GB := gb_in (List.mem_append_right _ (List.mem_of_getElem? (i := 39) (by decide +kernel))) rfl
theorem st_J9_max_7cf53 : Cond.static yJ9_max_7cf53 ∈ GB := gb_in (List.mem_append_right _ (List.mem_of_getElem? (i := 40) (by decide +kernel))) rfl
theorem co_J9_max_7cf53 : Cond.code yJ9_max_7cf53 cJ9_max_7cf53 2 (some .int) ∈ GB := gb_in (List.mem_append_right _ (List.mem_of_getElem? (i := 41) (by decide +kernel))) rfl
theorem fl_X4_13 : Cond.fieldLink RX4 13 "HangingKeys$Row" "cells" "[I" ∈ GB := gb_in (List.mem_append_right _ (List.mem_of_getElem? (i := 42) (by decide +kernel))) rfl
theorem ac_int : Cond.arrayClass .int ∈ GB := gb_in (List.mem_append_right _ (List.mem_of_getElem? (i := 46) (by decide +kernel))) rfl
theorem fl_X5_9 : Cond.fieldLink RX5 9 "HangingKeys$Tree" "mostWear" "I" ∈ GB := gb_in (List.mem_append_right _ (List.mem_of_getElem? (i := 47) (by decide +kernel))) rfl
theorem fl_X5_15 : Cond.fieldLink RX5 15 "HangingKeys$Tree" "keys" "I" ∈ GB := gb_in (List.mem_append_right _ (List.mem_of_getElem? (i := 50) (by decide +kernel))) rfl
theorem fl_X5_18 : Cond.fieldLink RX5 18 "HangingKeys$Tree" "boxes" "I" ∈ GB := gb_in (List.mem_append_right _ (List.mem_of_getElem? (i := 53) (by decide +kernel))) rfl
theorem fl_X5_21 : Cond.fieldLink RX5 21 "HangingKeys$Tree" "liveKeys" "I" ∈ GB := gb_in (List.mem_append_right _ (List.mem_of_getElem? (i := 56) (by decide +kernel))) rfl
theorem fl_X5_24 : Cond.fieldLink RX5 24 "HangingKeys$Tree" "liveBoxes" "I" ∈ GB := gb_in (List.mem_append_right _ (List.mem_of_getElem? (i := 58) (by decide +kernel))) rfl
theorem fl_X5_32 : Cond.fieldLink RX5 32 "HangingKeys$Tree" "parents" "LHangingKeys$Row;" ∈ GB := gb_in (List.mem_append_right _ (List.mem_of_getElem? (i := 60) (by decide +kernel))) rfl
theorem fl_X5_36 : Cond.fieldLink RX5 36 "HangingKeys$Tree" "makes" "LHangingKeys$Row;" ∈ GB := gb_in (List.mem_append_right _ (List.mem_of_getElem? (i := 61) (by decide +kernel))) rfl
theorem fl_X5_39 : Cond.fieldLink RX5 39 "HangingKeys$Tree" "wears" "LHangingKeys$Row;" ∈ GB := gb_in (List.mem_append_right _ (List.mem_of_getElem? (i := 62) (by decide +kernel))) rfl
theorem fl_X5_42 : Cond.fieldLink RX5 42 "HangingKeys$Tree" "keysOfBoxes" "LHangingKeys$Row;" ∈ GB := gb_in (List.mem_append_right _ (List.mem_of_getElem? (i := 63) (by decide +kernel))) rfl
theorem cl_X1_18 : Cond.classLink RX1 18 RX6 ∈ GB := gb_in (List.mem_append_right _ (List.mem_of_getElem? (i := 83) (by decide +kernel))) rfl
theorem ia_X6 : Cond.instantiable RX6 6 ∈ GB := gb_in (List.mem_append_right _ (List.mem_of_getElem? (i := 84) (by decide +kernel))) rfl
theorem im_X6_init : Cond.instanceMethod yX6_init ∈ GB := gb_in (List.mem_append_right _ (List.mem_of_getElem? (i := 86) (by decide +kernel))) rfl
theorem co_X6_init : Cond.code yX6_init cX6_init 1 none ∈ GB := gb_in (List.mem_append_right _ (List.mem_of_getElem? (i := 87) (by decide +kernel))) rfl
theorem ml_X6_3 : Cond.methodLink RX6 3 ⟨"java/lang/Object", "<init>", "()V"⟩ ∈ GB := gb_in (List.mem_append_right _ (List.mem_of_getElem? (i := 88) (by decide +kernel))) rfl
theorem cl_X6_15 : Cond.classLink RX6 15 RX4 ∈ GB := gb_in (List.mem_append_right _ (List.mem_of_getElem? (i := 89) (by decide +kernel))) rfl
theorem ml_X6_17 : Cond.methodLink RX6 17 yX4_init ∈ GB := gb_in (List.mem_append_right _ (List.mem_of_getElem? (i := 90) (by decide +kernel))) rfl
theorem fl_X6_9 : Cond.fieldLink RX6 9 "HangingKeys$Wraps" "number" "I" ∈ GB := gb_in (List.mem_append_right _ (List.mem_of_getElem? (i := 91) (by decide +kernel))) rfl
theorem fl_X6_20 : Cond.fieldLink RX6 20 "HangingKeys$Wraps" "heldKeys" "LHangingKeys$Row;" ∈ GB := gb_in (List.mem_append_right _ (List.mem_of_getElem? (i := 94) (by decide +kernel))) rfl
theorem fl_X6_24 : Cond.fieldLink RX6 24 "HangingKeys$Wraps" "heldWhats" "LHangingKeys$Row;" ∈ GB := gb_in (List.mem_append_right _ (List.mem_of_getElem? (i := 95) (by decide +kernel))) rfl
theorem fl_X6_27 : Cond.fieldLink RX6 27 "HangingKeys$Wraps" "closers" "LHangingKeys$Row;" ∈ GB := gb_in (List.mem_append_right _ (List.mem_of_getElem? (i := 96) (by decide +kernel))) rfl
theorem fl_X6_30 : Cond.fieldLink RX6 30 "HangingKeys$Wraps" "closerMakes" "LHangingKeys$Row;" ∈ GB := gb_in (List.mem_append_right _ (List.mem_of_getElem? (i := 97) (by decide +kernel))) rfl
theorem fl_X6_33 : Cond.fieldLink RX6 33 "HangingKeys$Wraps" "stands" "LHangingKeys$Row;" ∈ GB := gb_in (List.mem_append_right _ (List.mem_of_getElem? (i := 98) (by decide +kernel))) rfl
theorem fl_X1_12 : Cond.fieldLink RX1 12 "HangingKeys$House" "tree" "LHangingKeys$Tree;" ∈ GB := gb_in (List.mem_append_right _ (List.mem_of_getElem? (i := 112) (by decide +kernel))) rfl
theorem fl_X1_21 : Cond.fieldLink RX1 21 "HangingKeys$House" "wraps" "LHangingKeys$Wraps;" ∈ GB := gb_in (List.mem_append_right _ (List.mem_of_getElem? (i := 115) (by decide +kernel))) rfl
theorem cl_X7_16 : Cond.classLink RX7 16 RX2 ∈ GB := gb_in (List.mem_append_right _ (List.mem_of_getElem? (i := 123) (by decide +kernel))) rfl
theorem ia_X2 : Cond.instantiable RX2 2 ∈ GB := gb_in (List.mem_append_right _ (List.mem_of_getElem? (i := 124) (by decide +kernel))) rfl
theorem im_X2_init : Cond.instanceMethod yX2_init ∈ GB := gb_in (List.mem_append_right _ (List.mem_of_getElem? (i := 126) (by decide +kernel))) rfl
theorem co_X2_init : Cond.code yX2_init cX2_init 1 none ∈ GB := gb_in (List.mem_append_right _ (List.mem_of_getElem? (i := 127) (by decide +kernel))) rfl
theorem ml_X2_3 : Cond.methodLink RX2 3 ⟨"java/lang/Object", "<init>", "()V"⟩ ∈ GB := gb_in (List.mem_append_right _ (List.mem_of_getElem? (i := 128) (by decide +kernel))) rfl
theorem cl_X2_9 : Cond.classLink RX2 9 RX4 ∈ GB := gb_in (List.mem_append_right _ (List.mem_of_getElem? (i := 129) (by decide +kernel))) rfl
theorem ml_X2_11 : Cond.methodLink RX2 11 yX4_init ∈ GB := gb_in (List.mem_append_right _ (List.mem_of_getElem? (i := 130) (by decide +kernel))) rfl
theorem fl_X2_14 : Cond.fieldLink RX2 14 "HangingKeys$Opening" "startMakes" "LHangingKeys$Row;" ∈ GB := gb_in (List.mem_append_right _ (List.mem_of_getElem? (i := 131) (by decide +kernel))) rfl
theorem fl_X2_20 : Cond.fieldLink RX2 20 "HangingKeys$Opening" "opened" "LHangingKeys$Row;" ∈ GB := gb_in (List.mem_append_right _ (List.mem_of_getElem? (i := 132) (by decide +kernel))) rfl
theorem cl_X7_23 : Cond.classLink RX7 23 RX3 ∈ GB := gb_in (List.mem_append_right _ (List.mem_of_getElem? (i := 138) (by decide +kernel))) rfl
theorem ia_X3 : Cond.instantiable RX3 6 ∈ GB := gb_in (List.mem_append_right _ (List.mem_of_getElem? (i := 139) (by decide +kernel))) rfl
theorem im_X3_init : Cond.instanceMethod yX3_init ∈ GB := gb_in (List.mem_append_right _ (List.mem_of_getElem? (i := 141) (by decide +kernel))) rfl
theorem co_X3_init : Cond.code yX3_init cX3_init 1 none ∈ GB := gb_in (List.mem_append_right _ (List.mem_of_getElem? (i := 142) (by decide +kernel))) rfl
theorem ml_X3_3 : Cond.methodLink RX3 3 ⟨"java/lang/Object", "<init>", "()V"⟩ ∈ GB := gb_in (List.mem_append_right _ (List.mem_of_getElem? (i := 143) (by decide +kernel))) rfl
theorem cl_X3_9 : Cond.classLink RX3 9 RX4 ∈ GB := gb_in (List.mem_append_right _ (List.mem_of_getElem? (i := 144) (by decide +kernel))) rfl
theorem ml_X3_11 : Cond.methodLink RX3 11 yX4_init ∈ GB := gb_in (List.mem_append_right _ (List.mem_of_getElem? (i := 145) (by decide +kernel))) rfl
theorem fl_X3_14 : Cond.fieldLink RX3 14 "HangingKeys$Pad" "signs" "LHangingKeys$Row;" ∈ GB := gb_in (List.mem_append_right _ (List.mem_of_getElem? (i := 146) (by decide +kernel))) rfl
theorem fl_X3_20 : Cond.fieldLink RX3 20 "HangingKeys$Pad" "length" "I" ∈ GB := gb_in (List.mem_append_right _ (List.mem_of_getElem? (i := 147) (by decide +kernel))) rfl
theorem fl_X3_24 : Cond.fieldLink RX3 24 "HangingKeys$Pad" "next" "I" ∈ GB := gb_in (List.mem_append_right _ (List.mem_of_getElem? (i := 149) (by decide +kernel))) rfl
theorem fl_X3_27 : Cond.fieldLink RX3 27 "HangingKeys$Pad" "letter" "I" ∈ GB := gb_in (List.mem_append_right _ (List.mem_of_getElem? (i := 150) (by decide +kernel))) rfl
theorem fl_X3_30 : Cond.fieldLink RX3 30 "HangingKeys$Pad" "target" "I" ∈ GB := gb_in (List.mem_append_right _ (List.mem_of_getElem? (i := 152) (by decide +kernel))) rfl
theorem fl_X3_33 : Cond.fieldLink RX3 33 "HangingKeys$Pad" "place" "I" ∈ GB := gb_in (List.mem_append_right _ (List.mem_of_getElem? (i := 154) (by decide +kernel))) rfl
theorem cl_X7_30 : Cond.classLink RX7 30 RX0 ∈ GB := gb_in (List.mem_append_right _ (List.mem_of_getElem? (i := 169) (by decide +kernel))) rfl
theorem ia_X0 : Cond.instantiable RX0 3 ∈ GB := gb_in (List.mem_append_right _ (List.mem_of_getElem? (i := 170) (by decide +kernel))) rfl
theorem ml_X7_32 : Cond.methodLink RX7 32 yX0_init ∈ GB := gb_in (List.mem_append_right _ (List.mem_of_getElem? (i := 171) (by decide +kernel))) rfl
theorem im_X0_init : Cond.instanceMethod yX0_init ∈ GB := gb_in (List.mem_append_right _ (List.mem_of_getElem? (i := 172) (by decide +kernel))) rfl
theorem co_X0_init : Cond.code yX0_init cX0_init 2 none ∈ GB := gb_in (List.mem_append_right _ (List.mem_of_getElem? (i := 173) (by decide +kernel))) rfl
theorem ml_X0_3 : Cond.methodLink RX0 3 ⟨"java/lang/Object", "<init>", "()V"⟩ ∈ GB := gb_in (List.mem_append_right _ (List.mem_of_getElem? (i := 174) (by decide +kernel))) rfl
theorem cl_X0_9 : Cond.classLink RX0 9 RX1 ∈ GB := gb_in (List.mem_append_right _ (List.mem_of_getElem? (i := 175) (by decide +kernel))) rfl
theorem ao_House : Cond.arrayOver (.object "HangingKeys$House") ∈ lw_tbl := List.mem_append_right _ (List.mem_of_getElem? (i := 176) (by decide +kernel))
theorem fl_X0_11 : Cond.fieldLink RX0 11 "HangingKeys$History" "states" "[LHangingKeys$House;" ∈ GB := gb_in (List.mem_append_right _ (List.mem_of_getElem? (i := 178) (by decide +kernel))) rfl
theorem fl_X0_17 : Cond.fieldLink RX0 17 "HangingKeys$History" "spare" "I" ∈ GB := gb_in (List.mem_append_right _ (List.mem_of_getElem? (i := 179) (by decide +kernel))) rfl
theorem fl_X0_21 : Cond.fieldLink RX0 21 "HangingKeys$History" "number" "I" ∈ GB := gb_in (List.mem_append_right _ (List.mem_of_getElem? (i := 180) (by decide +kernel))) rfl
theorem fl_X7_10 : Cond.fieldLink RX7 10 "HangingKeys" "house" "LHangingKeys$House;" ∈ GB := gb_in (List.mem_append_right _ (List.mem_of_getElem? (i := 189) (by decide +kernel))) rfl
theorem fl_X7_19 : Cond.fieldLink RX7 19 "HangingKeys" "opening" "LHangingKeys$Opening;" ∈ GB := gb_in (List.mem_append_right _ (List.mem_of_getElem? (i := 190) (by decide +kernel))) rfl
theorem fl_X7_26 : Cond.fieldLink RX7 26 "HangingKeys" "pad" "LHangingKeys$Pad;" ∈ GB := gb_in (List.mem_append_right _ (List.mem_of_getElem? (i := 191) (by decide +kernel))) rfl
theorem fl_X7_33 : Cond.fieldLink RX7 33 "HangingKeys" "history" "LHangingKeys$History;" ∈ GB := gb_in (List.mem_append_right _ (List.mem_of_getElem? (i := 192) (by decide +kernel))) rfl
theorem fl_X7_37 : Cond.fieldLink RX7 37 "HangingKeys" "slots" "[LHangingKeys$House;" ∈ GB := gb_in (List.mem_append_right _ (List.mem_of_getElem? (i := 193) (by decide +kernel))) rfl
theorem ml_L_13 : Cond.methodLink RL 13 yX7_wear ∈ GB := gb_in (List.mem_append_right _ (List.mem_of_getElem? (i := 205) (by decide +kernel))) rfl
theorem im_X7_wear : Cond.instanceMethod yX7_wear ∈ GB := gb_in (List.mem_append_right _ (List.mem_of_getElem? (i := 206) (by decide +kernel))) rfl
theorem se_X7_wear : Cond.selects RX7 yX7_wear yX7_wear ∈ GB := gb_in (List.mem_append_right _ (List.mem_of_getElem? (i := 207) (by decide +kernel))) rfl
theorem co_X7_wear : Cond.code yX7_wear cX7_wear 2 (some .int) ∈ GB := gb_in (List.mem_append_right _ (List.mem_of_getElem? (i := 208) (by decide +kernel))) rfl
theorem ml_X7_41 : Cond.methodLink RX7 41 yX0_noteBefore ∈ GB := gb_in (List.mem_append_right _ (List.mem_of_getElem? (i := 209) (by decide +kernel))) rfl
theorem im_X0_noteBefore : Cond.instanceMethod yX0_noteBefore ∈ GB := gb_in (List.mem_append_right _ (List.mem_of_getElem? (i := 210) (by decide +kernel))) rfl
theorem se_X0_noteBefore : Cond.selects RX0 yX0_noteBefore yX0_noteBefore ∈ GB := gb_in (List.mem_append_right _ (List.mem_of_getElem? (i := 211) (by decide +kernel))) rfl
theorem co_X0_noteBefore : Cond.code yX0_noteBefore cX0_noteBefore 3 none ∈ GB := gb_in (List.mem_append_right _ (List.mem_of_getElem? (i := 212) (by decide +kernel))) rfl
theorem ml_X0_25 : Cond.methodLink RX0 25 yX0_stateAt ∈ GB := gb_in (List.mem_append_right _ (List.mem_of_getElem? (i := 213) (by decide +kernel))) rfl
theorem im_X0_stateAt : Cond.instanceMethod yX0_stateAt ∈ GB := gb_in (List.mem_append_right _ (List.mem_of_getElem? (i := 215) (by decide +kernel))) rfl
theorem co_X0_stateAt : Cond.code yX0_stateAt cX0_stateAt 2 (some (.object "HangingKeys$House")) ∈ GB := gb_in (List.mem_append_right _ (List.mem_of_getElem? (i := 216) (by decide +kernel))) rfl
theorem ml_X0_29 : Cond.methodLink RX0 29 yX1_become ∈ GB := gb_in (List.mem_append_right _ (List.mem_of_getElem? (i := 217) (by decide +kernel))) rfl
theorem im_X1_become : Cond.instanceMethod yX1_become ∈ GB := gb_in (List.mem_append_right _ (List.mem_of_getElem? (i := 218) (by decide +kernel))) rfl
theorem se_X1_become : Cond.selects RX1 yX1_become yX1_become ∈ GB := gb_in (List.mem_append_right _ (List.mem_of_getElem? (i := 219) (by decide +kernel))) rfl
theorem co_X1_become : Cond.code yX1_become cX1_become 2 none ∈ GB := gb_in (List.mem_append_right _ (List.mem_of_getElem? (i := 220) (by decide +kernel))) rfl
theorem ml_X1_154 : Cond.methodLink RX1 154 yX5_become ∈ GB := gb_in (List.mem_append_right _ (List.mem_of_getElem? (i := 221) (by decide +kernel))) rfl
theorem im_X5_become : Cond.instanceMethod yX5_become ∈ GB := gb_in (List.mem_append_right _ (List.mem_of_getElem? (i := 222) (by decide +kernel))) rfl
theorem se_X5_become : Cond.selects RX5 yX5_become yX5_become ∈ GB := gb_in (List.mem_append_right _ (List.mem_of_getElem? (i := 223) (by decide +kernel))) rfl
theorem co_X5_become : Cond.code yX5_become cX5_become 2 none ∈ GB := gb_in (List.mem_append_right _ (List.mem_of_getElem? (i := 224) (by decide +kernel))) rfl
theorem ml_X5_85 : Cond.methodLink RX5 85 yX4_become ∈ GB := gb_in (List.mem_append_right _ (List.mem_of_getElem? (i := 225) (by decide +kernel))) rfl
theorem im_X4_become : Cond.instanceMethod yX4_become ∈ GB := gb_in (List.mem_append_right _ (List.mem_of_getElem? (i := 226) (by decide +kernel))) rfl
theorem se_X4_become : Cond.selects RX4 yX4_become yX4_become ∈ GB := gb_in (List.mem_append_right _ (List.mem_of_getElem? (i := 227) (by decide +kernel))) rfl
theorem co_X4_become : Cond.code yX4_become cX4_become 2 none ∈ GB := gb_in (List.mem_append_right _ (List.mem_of_getElem? (i := 228) (by decide +kernel))) rfl
theorem ml_X4_19 : Cond.methodLink RX4 19 yJ9_min_7cf53 ∈ GB := gb_in (List.mem_append_right _ (List.mem_of_getElem? (i := 229) (by decide +kernel))) rfl
theorem st_J9_min_7cf53 : Cond.static yJ9_min_7cf53 ∈ GB := gb_in (List.mem_append_right _ (List.mem_of_getElem? (i := 230) (by decide +kernel))) rfl
theorem co_J9_min_7cf53 : Cond.code yJ9_min_7cf53 cJ9_min_7cf53 2 (some .int) ∈ GB := gb_in (List.mem_append_right _ (List.mem_of_getElem? (i := 231) (by decide +kernel))) rfl
theorem ml_X4_22 : Cond.methodLink RX4 22 ⟨"java/lang/System", "arraycopy", "(Ljava/lang/Object;ILjava/lang/Object;II)V"⟩ ∈ GB := gb_in (List.mem_append_right _ (List.mem_of_getElem? (i := 232) (by decide +kernel))) rfl
theorem st_arraycopy : Cond.static ⟨"java/lang/System", "arraycopy", "(Ljava/lang/Object;ILjava/lang/Object;II)V"⟩ ∈ GB := gb_in (List.mem_append_right _ (List.mem_of_getElem? (i := 233) (by decide +kernel))) rfl
theorem na_arraycopy : Cond.native ⟨"java/lang/System", "arraycopy", "(Ljava/lang/Object;ILjava/lang/Object;II)V"⟩ ∈ GB := gb_in (List.mem_append_right _ (List.mem_of_getElem? (i := 234) (by decide +kernel))) rfl
theorem ml_X1_158 : Cond.methodLink RX1 158 yX6_become ∈ GB := gb_in (List.mem_append_right _ (List.mem_of_getElem? (i := 235) (by decide +kernel))) rfl
theorem im_X6_become : Cond.instanceMethod yX6_become ∈ GB := gb_in (List.mem_append_right _ (List.mem_of_getElem? (i := 236) (by decide +kernel))) rfl
theorem se_X6_become : Cond.selects RX6 yX6_become yX6_become ∈ GB := gb_in (List.mem_append_right _ (List.mem_of_getElem? (i := 237) (by decide +kernel))) rfl
theorem co_X6_become : Cond.code yX6_become cX6_become 2 none ∈ GB := gb_in (List.mem_append_right _ (List.mem_of_getElem? (i := 238) (by decide +kernel))) rfl
theorem ml_X6_69 : Cond.methodLink RX6 69 yX4_become ∈ GB := gb_in (List.mem_append_right _ (List.mem_of_getElem? (i := 239) (by decide +kernel))) rfl
theorem ml_X7_45 : Cond.methodLink RX7 45 yX1_changeWear ∈ GB := gb_in (List.mem_append_right _ (List.mem_of_getElem? (i := 240) (by decide +kernel))) rfl
theorem im_X1_changeWear : Cond.instanceMethod yX1_changeWear ∈ GB := gb_in (List.mem_append_right _ (List.mem_of_getElem? (i := 241) (by decide +kernel))) rfl
theorem se_X1_changeWear : Cond.selects RX1 yX1_changeWear yX1_changeWear ∈ GB := gb_in (List.mem_append_right _ (List.mem_of_getElem? (i := 242) (by decide +kernel))) rfl
theorem co_X1_changeWear : Cond.code yX1_changeWear cX1_changeWear 3 (some .int) ∈ GB := gb_in (List.mem_append_right _ (List.mem_of_getElem? (i := 243) (by decide +kernel))) rfl
theorem ml_X7_49 : Cond.methodLink RX7 49 yX0_settle ∈ GB := gb_in (List.mem_append_right _ (List.mem_of_getElem? (i := 244) (by decide +kernel))) rfl
theorem im_X0_settle : Cond.instanceMethod yX0_settle ∈ GB := gb_in (List.mem_append_right _ (List.mem_of_getElem? (i := 245) (by decide +kernel))) rfl
theorem se_X0_settle : Cond.selects RX0 yX0_settle yX0_settle ∈ GB := gb_in (List.mem_append_right _ (List.mem_of_getElem? (i := 246) (by decide +kernel))) rfl
theorem co_X0_settle : Cond.code yX0_settle cX0_settle 2 (some .int) ∈ GB := gb_in (List.mem_append_right _ (List.mem_of_getElem? (i := 247) (by decide +kernel))) rfl
theorem ml_X0_33 : Cond.methodLink RX0 33 yJ9_min_7cf53 ∈ GB := gb_in (List.mem_append_right _ (List.mem_of_getElem? (i := 248) (by decide +kernel))) rfl
theorem ml_L_18 : Cond.methodLink RL 18 yX7_key ∈ GB := gb_in (List.mem_append_right _ (List.mem_of_getElem? (i := 249) (by decide +kernel))) rfl
theorem im_X7_key : Cond.instanceMethod yX7_key ∈ GB := gb_in (List.mem_append_right _ (List.mem_of_getElem? (i := 250) (by decide +kernel))) rfl
theorem se_X7_key : Cond.selects RX7 yX7_key yX7_key ∈ GB := gb_in (List.mem_append_right _ (List.mem_of_getElem? (i := 251) (by decide +kernel))) rfl
theorem co_X7_key : Cond.code yX7_key cX7_key 2 (some .int) ∈ GB := gb_in (List.mem_append_right _ (List.mem_of_getElem? (i := 252) (by decide +kernel))) rfl
theorem ml_X7_52 : Cond.methodLink RX7 52 yX1_makeKey ∈ GB := gb_in (List.mem_append_right _ (List.mem_of_getElem? (i := 253) (by decide +kernel))) rfl
theorem im_X1_makeKey : Cond.instanceMethod yX1_makeKey ∈ GB := gb_in (List.mem_append_right _ (List.mem_of_getElem? (i := 254) (by decide +kernel))) rfl
theorem se_X1_makeKey : Cond.selects RX1 yX1_makeKey yX1_makeKey ∈ GB := gb_in (List.mem_append_right _ (List.mem_of_getElem? (i := 255) (by decide +kernel))) rfl
theorem co_X1_makeKey : Cond.code yX1_makeKey cX1_makeKey 4 (some .int) ∈ GB := gb_in (List.mem_append_right _ (List.mem_of_getElem? (i := 256) (by decide +kernel))) rfl
theorem ml_X1_29 : Cond.methodLink RX1 29 yX5_isLiveKey ∈ GB := gb_in (List.mem_append_right _ (List.mem_of_getElem? (i := 257) (by decide +kernel))) rfl
theorem im_X5_isLiveKey : Cond.instanceMethod yX5_isLiveKey ∈ GB := gb_in (List.mem_append_right _ (List.mem_of_getElem? (i := 258) (by decide +kernel))) rfl
theorem se_X5_isLiveKey : Cond.selects RX5 yX5_isLiveKey yX5_isLiveKey ∈ GB := gb_in (List.mem_append_right _ (List.mem_of_getElem? (i := 259) (by decide +kernel))) rfl
theorem co_X5_isLiveKey : Cond.code yX5_isLiveKey cX5_isLiveKey 2 (some .boolean) ∈ GB := gb_in (List.mem_append_right _ (List.mem_of_getElem? (i := 260) (by decide +kernel))) rfl
theorem st_X7_has : Cond.static yX7_has ∈ GB := gb_in (List.mem_append_right _ (List.mem_of_getElem? (i := 262) (by decide +kernel))) rfl
theorem co_X7_has : Cond.code yX7_has cX7_has 2 (some .boolean) ∈ GB := gb_in (List.mem_append_right _ (List.mem_of_getElem? (i := 263) (by decide +kernel))) rfl
theorem ml_X1_36 : Cond.methodLink RX1 36 yX6_haveRoomFor ∈ GB := gb_in (List.mem_append_right _ (List.mem_of_getElem? (i := 264) (by decide +kernel))) rfl
theorem im_X6_haveRoomFor : Cond.instanceMethod yX6_haveRoomFor ∈ GB := gb_in (List.mem_append_right _ (List.mem_of_getElem? (i := 265) (by decide +kernel))) rfl
theorem se_X6_haveRoomFor : Cond.selects RX6 yX6_haveRoomFor yX6_haveRoomFor ∈ GB := gb_in (List.mem_append_right _ (List.mem_of_getElem? (i := 266) (by decide +kernel))) rfl
theorem co_X6_haveRoomFor : Cond.code yX6_haveRoomFor cX6_haveRoomFor 2 (some .boolean) ∈ GB := gb_in (List.mem_append_right _ (List.mem_of_getElem? (i := 267) (by decide +kernel))) rfl
theorem ml_X1_39 : Cond.methodLink RX1 39 yX5_leftToClose ∈ GB := gb_in (List.mem_append_right _ (List.mem_of_getElem? (i := 268) (by decide +kernel))) rfl
theorem im_X5_leftToClose : Cond.instanceMethod yX5_leftToClose ∈ GB := gb_in (List.mem_append_right _ (List.mem_of_getElem? (i := 269) (by decide +kernel))) rfl
theorem se_X5_leftToClose : Cond.selects RX5 yX5_leftToClose yX5_leftToClose ∈ GB := gb_in (List.mem_append_right _ (List.mem_of_getElem? (i := 270) (by decide +kernel))) rfl
theorem co_X5_leftToClose : Cond.code yX5_leftToClose cX5_leftToClose 2 (some .int) ∈ GB := gb_in (List.mem_append_right _ (List.mem_of_getElem? (i := 271) (by decide +kernel))) rfl
theorem ml_X5_56 : Cond.methodLink RX5 56 yX4_at ∈ GB := gb_in (List.mem_append_right _ (List.mem_of_getElem? (i := 272) (by decide +kernel))) rfl
theorem im_X4_at : Cond.instanceMethod yX4_at ∈ GB := gb_in (List.mem_append_right _ (List.mem_of_getElem? (i := 273) (by decide +kernel))) rfl
theorem se_X4_at : Cond.selects RX4 yX4_at yX4_at ∈ GB := gb_in (List.mem_append_right _ (List.mem_of_getElem? (i := 274) (by decide +kernel))) rfl
theorem co_X4_at : Cond.code yX4_at cX4_at 2 (some .int) ∈ GB := gb_in (List.mem_append_right _ (List.mem_of_getElem? (i := 275) (by decide +kernel))) rfl
theorem ml_X5_60 : Cond.methodLink RX5 60 yJ9_max_7cf53 ∈ GB := gb_in (List.mem_append_right _ (List.mem_of_getElem? (i := 276) (by decide +kernel))) rfl
theorem ml_X1_43 : Cond.methodLink RX1 43 yX5_addKey ∈ GB := gb_in (List.mem_append_right _ (List.mem_of_getElem? (i := 277) (by decide +kernel))) rfl
theorem im_X5_addKey : Cond.instanceMethod yX5_addKey ∈ GB := gb_in (List.mem_append_right _ (List.mem_of_getElem? (i := 278) (by decide +kernel))) rfl
theorem se_X5_addKey : Cond.selects RX5 yX5_addKey yX5_addKey ∈ GB := gb_in (List.mem_append_right _ (List.mem_of_getElem? (i := 279) (by decide +kernel))) rfl
theorem co_X5_addKey : Cond.code yX5_addKey cX5_addKey 2 (some .int) ∈ GB := gb_in (List.mem_append_right _ (List.mem_of_getElem? (i := 280) (by decide +kernel))) rfl
theorem ml_X5_78 : Cond.methodLink RX5 78 yX4_set ∈ GB := gb_in (List.mem_append_right _ (List.mem_of_getElem? (i := 281) (by decide +kernel))) rfl
theorem im_X4_set : Cond.instanceMethod yX4_set ∈ GB := gb_in (List.mem_append_right _ (List.mem_of_getElem? (i := 282) (by decide +kernel))) rfl
theorem se_X4_set : Cond.selects RX4 yX4_set yX4_set ∈ GB := gb_in (List.mem_append_right _ (List.mem_of_getElem? (i := 283) (by decide +kernel))) rfl
theorem co_X4_set : Cond.code yX4_set cX4_set 3 none ∈ GB := gb_in (List.mem_append_right _ (List.mem_of_getElem? (i := 284) (by decide +kernel))) rfl
theorem st_X7_setOf : Cond.static yX7_setOf ∈ GB := gb_in (List.mem_append_right _ (List.mem_of_getElem? (i := 286) (by decide +kernel))) rfl
theorem co_X7_setOf : Cond.code yX7_setOf cX7_setOf 1 (some .int) ∈ GB := gb_in (List.mem_append_right _ (List.mem_of_getElem? (i := 287) (by decide +kernel))) rfl
theorem ml_X1_46 : Cond.methodLink RX1 46 yX1_wrapKey ∈ GB := gb_in (List.mem_append_right _ (List.mem_of_getElem? (i := 288) (by decide +kernel))) rfl
theorem im_X1_wrapKey : Cond.instanceMethod yX1_wrapKey ∈ GB := gb_in (List.mem_append_right _ (List.mem_of_getElem? (i := 290) (by decide +kernel))) rfl
theorem co_X1_wrapKey : Cond.code yX1_wrapKey cX1_wrapKey 3 none ∈ GB := gb_in (List.mem_append_right _ (List.mem_of_getElem? (i := 291) (by decide +kernel))) rfl
theorem ml_X1_83 : Cond.methodLink RX1 83 yX5_parentOf ∈ GB := gb_in (List.mem_append_right _ (List.mem_of_getElem? (i := 292) (by decide +kernel))) rfl
theorem im_X5_parentOf : Cond.instanceMethod yX5_parentOf ∈ GB := gb_in (List.mem_append_right _ (List.mem_of_getElem? (i := 293) (by decide +kernel))) rfl
theorem se_X5_parentOf : Cond.selects RX5 yX5_parentOf yX5_parentOf ∈ GB := gb_in (List.mem_append_right _ (List.mem_of_getElem? (i := 294) (by decide +kernel))) rfl
theorem co_X5_parentOf : Cond.code yX5_parentOf cX5_parentOf 2 (some .int) ∈ GB := gb_in (List.mem_append_right _ (List.mem_of_getElem? (i := 295) (by decide +kernel))) rfl
theorem ml_X1_129 : Cond.methodLink RX1 129 yX5_makeOf ∈ GB := gb_in (List.mem_append_right _ (List.mem_of_getElem? (i := 296) (by decide +kernel))) rfl
theorem im_X5_makeOf : Cond.instanceMethod yX5_makeOf ∈ GB := gb_in (List.mem_append_right _ (List.mem_of_getElem? (i := 297) (by decide +kernel))) rfl
theorem se_X5_makeOf : Cond.selects RX5 yX5_makeOf yX5_makeOf ∈ GB := gb_in (List.mem_append_right _ (List.mem_of_getElem? (i := 298) (by decide +kernel))) rfl
theorem co_X5_makeOf : Cond.code yX5_makeOf cX5_makeOf 2 (some .int) ∈ GB := gb_in (List.mem_append_right _ (List.mem_of_getElem? (i := 299) (by decide +kernel))) rfl
theorem ml_X1_135 : Cond.methodLink RX1 135 yX6_add ∈ GB := gb_in (List.mem_append_right _ (List.mem_of_getElem? (i := 300) (by decide +kernel))) rfl
theorem im_X6_add : Cond.instanceMethod yX6_add ∈ GB := gb_in (List.mem_append_right _ (List.mem_of_getElem? (i := 301) (by decide +kernel))) rfl
theorem se_X6_add : Cond.selects RX6 yX6_add yX6_add ∈ GB := gb_in (List.mem_append_right _ (List.mem_of_getElem? (i := 302) (by decide +kernel))) rfl
theorem co_X6_add : Cond.code yX6_add cX6_add 5 none ∈ GB := gb_in (List.mem_append_right _ (List.mem_of_getElem? (i := 303) (by decide +kernel))) rfl
theorem ml_X6_56 : Cond.methodLink RX6 56 yX4_set ∈ GB := gb_in (List.mem_append_right _ (List.mem_of_getElem? (i := 304) (by decide +kernel))) rfl
theorem ml_X1_139 : Cond.methodLink RX1 139 yX5_wearDown ∈ GB := gb_in (List.mem_append_right _ (List.mem_of_getElem? (i := 305) (by decide +kernel))) rfl
theorem im_X5_wearDown : Cond.instanceMethod yX5_wearDown ∈ GB := gb_in (List.mem_append_right _ (List.mem_of_getElem? (i := 306) (by decide +kernel))) rfl
theorem se_X5_wearDown : Cond.selects RX5 yX5_wearDown yX5_wearDown ∈ GB := gb_in (List.mem_append_right _ (List.mem_of_getElem? (i := 307) (by decide +kernel))) rfl
theorem co_X5_wearDown : Cond.code yX5_wearDown cX5_wearDown 2 none ∈ GB := gb_in (List.mem_append_right _ (List.mem_of_getElem? (i := 308) (by decide +kernel))) rfl
theorem ml_X5_82 : Cond.methodLink RX5 82 yX4_add ∈ GB := gb_in (List.mem_append_right _ (List.mem_of_getElem? (i := 309) (by decide +kernel))) rfl
theorem im_X4_add : Cond.instanceMethod yX4_add ∈ GB := gb_in (List.mem_append_right _ (List.mem_of_getElem? (i := 310) (by decide +kernel))) rfl
theorem se_X4_add : Cond.selects RX4 yX4_add yX4_add ∈ GB := gb_in (List.mem_append_right _ (List.mem_of_getElem? (i := 311) (by decide +kernel))) rfl
theorem co_X4_add : Cond.code yX4_add cX4_add 3 none ∈ GB := gb_in (List.mem_append_right _ (List.mem_of_getElem? (i := 312) (by decide +kernel))) rfl
theorem ml_L_22 : Cond.methodLink RL 22 yX7_box ∈ GB := gb_in (List.mem_append_right _ (List.mem_of_getElem? (i := 313) (by decide +kernel))) rfl
theorem im_X7_box : Cond.instanceMethod yX7_box ∈ GB := gb_in (List.mem_append_right _ (List.mem_of_getElem? (i := 314) (by decide +kernel))) rfl
theorem se_X7_box : Cond.selects RX7 yX7_box yX7_box ∈ GB := gb_in (List.mem_append_right _ (List.mem_of_getElem? (i := 315) (by decide +kernel))) rfl
theorem co_X7_box : Cond.code yX7_box cX7_box 2 (some .int) ∈ GB := gb_in (List.mem_append_right _ (List.mem_of_getElem? (i := 316) (by decide +kernel))) rfl
theorem ml_X7_55 : Cond.methodLink RX7 55 yX1_makeBox ∈ GB := gb_in (List.mem_append_right _ (List.mem_of_getElem? (i := 317) (by decide +kernel))) rfl
theorem im_X1_makeBox : Cond.instanceMethod yX1_makeBox ∈ GB := gb_in (List.mem_append_right _ (List.mem_of_getElem? (i := 318) (by decide +kernel))) rfl
theorem se_X1_makeBox : Cond.selects RX1 yX1_makeBox yX1_makeBox ∈ GB := gb_in (List.mem_append_right _ (List.mem_of_getElem? (i := 319) (by decide +kernel))) rfl
theorem co_X1_makeBox : Cond.code yX1_makeBox cX1_makeBox 3 (some .int) ∈ GB := gb_in (List.mem_append_right _ (List.mem_of_getElem? (i := 320) (by decide +kernel))) rfl
theorem ml_X1_53 : Cond.methodLink RX1 53 yX5_addBox ∈ GB := gb_in (List.mem_append_right _ (List.mem_of_getElem? (i := 321) (by decide +kernel))) rfl
theorem im_X5_addBox : Cond.instanceMethod yX5_addBox ∈ GB := gb_in (List.mem_append_right _ (List.mem_of_getElem? (i := 322) (by decide +kernel))) rfl
theorem se_X5_addBox : Cond.selects RX5 yX5_addBox yX5_addBox ∈ GB := gb_in (List.mem_append_right _ (List.mem_of_getElem? (i := 323) (by decide +kernel))) rfl
theorem co_X5_addBox : Cond.code yX5_addBox cX5_addBox 2 (some .int) ∈ GB := gb_in (List.mem_append_right _ (List.mem_of_getElem? (i := 324) (by decide +kernel))) rfl
theorem ml_X1_56 : Cond.methodLink RX1 56 yX1_wrapBox ∈ GB := gb_in (List.mem_append_right _ (List.mem_of_getElem? (i := 325) (by decide +kernel))) rfl
theorem im_X1_wrapBox : Cond.instanceMethod yX1_wrapBox ∈ GB := gb_in (List.mem_append_right _ (List.mem_of_getElem? (i := 327) (by decide +kernel))) rfl
theorem co_X1_wrapBox : Cond.code yX1_wrapBox cX1_wrapBox 3 none ∈ GB := gb_in (List.mem_append_right _ (List.mem_of_getElem? (i := 328) (by decide +kernel))) rfl
theorem ml_X1_142 : Cond.methodLink RX1 142 yX5_keyOfBox ∈ GB := gb_in (List.mem_append_right _ (List.mem_of_getElem? (i := 329) (by decide +kernel))) rfl
theorem im_X5_keyOfBox : Cond.instanceMethod yX5_keyOfBox ∈ GB := gb_in (List.mem_append_right _ (List.mem_of_getElem? (i := 330) (by decide +kernel))) rfl
theorem se_X5_keyOfBox : Cond.selects RX5 yX5_keyOfBox yX5_keyOfBox ∈ GB := gb_in (List.mem_append_right _ (List.mem_of_getElem? (i := 331) (by decide +kernel))) rfl
theorem co_X5_keyOfBox : Cond.code yX5_keyOfBox cX5_keyOfBox 2 (some .int) ∈ GB := gb_in (List.mem_append_right _ (List.mem_of_getElem? (i := 332) (by decide +kernel))) rfl
theorem ml_L_26 : Cond.methodLink RL 26 yX7_copy ∈ GB := gb_in (List.mem_append_right _ (List.mem_of_getElem? (i := 333) (by decide +kernel))) rfl
theorem im_X7_copy : Cond.instanceMethod yX7_copy ∈ GB := gb_in (List.mem_append_right _ (List.mem_of_getElem? (i := 334) (by decide +kernel))) rfl
theorem se_X7_copy : Cond.selects RX7 yX7_copy yX7_copy ∈ GB := gb_in (List.mem_append_right _ (List.mem_of_getElem? (i := 335) (by decide +kernel))) rfl
theorem co_X7_copy : Cond.code yX7_copy cX7_copy 3 (some .int) ∈ GB := gb_in (List.mem_append_right _ (List.mem_of_getElem? (i := 336) (by decide +kernel))) rfl
theorem ml_X7_58 : Cond.methodLink RX7 58 yX1_copyOut ∈ GB := gb_in (List.mem_append_right _ (List.mem_of_getElem? (i := 337) (by decide +kernel))) rfl
theorem im_X1_copyOut : Cond.instanceMethod yX1_copyOut ∈ GB := gb_in (List.mem_append_right _ (List.mem_of_getElem? (i := 338) (by decide +kernel))) rfl
theorem se_X1_copyOut : Cond.selects RX1 yX1_copyOut yX1_copyOut ∈ GB := gb_in (List.mem_append_right _ (List.mem_of_getElem? (i := 339) (by decide +kernel))) rfl
theorem co_X1_copyOut : Cond.code yX1_copyOut cX1_copyOut 3 (some .int) ∈ GB := gb_in (List.mem_append_right _ (List.mem_of_getElem? (i := 340) (by decide +kernel))) rfl
theorem ml_X1_59 : Cond.methodLink RX1 59 yX6_isOne ∈ GB := gb_in (List.mem_append_right _ (List.mem_of_getElem? (i := 341) (by decide +kernel))) rfl
theorem im_X6_isOne : Cond.instanceMethod yX6_isOne ∈ GB := gb_in (List.mem_append_right _ (List.mem_of_getElem? (i := 342) (by decide +kernel))) rfl
theorem se_X6_isOne : Cond.selects RX6 yX6_isOne yX6_isOne ∈ GB := gb_in (List.mem_append_right _ (List.mem_of_getElem? (i := 343) (by decide +kernel))) rfl
theorem co_X6_isOne : Cond.code yX6_isOne cX6_isOne 2 (some .boolean) ∈ GB := gb_in (List.mem_append_right _ (List.mem_of_getElem? (i := 344) (by decide +kernel))) rfl
theorem ml_X1_62 : Cond.methodLink RX1 62 yX6_standsIn ∈ GB := gb_in (List.mem_append_right _ (List.mem_of_getElem? (i := 345) (by decide +kernel))) rfl
theorem im_X6_standsIn : Cond.instanceMethod yX6_standsIn ∈ GB := gb_in (List.mem_append_right _ (List.mem_of_getElem? (i := 346) (by decide +kernel))) rfl
theorem se_X6_standsIn : Cond.selects RX6 yX6_standsIn yX6_standsIn ∈ GB := gb_in (List.mem_append_right _ (List.mem_of_getElem? (i := 347) (by decide +kernel))) rfl
theorem co_X6_standsIn : Cond.code yX6_standsIn cX6_standsIn 3 (some .boolean) ∈ GB := gb_in (List.mem_append_right _ (List.mem_of_getElem? (i := 348) (by decide +kernel))) rfl
theorem ml_X6_36 : Cond.methodLink RX6 36 yX4_at ∈ GB := gb_in (List.mem_append_right _ (List.mem_of_getElem? (i := 349) (by decide +kernel))) rfl
theorem ml_X1_69 : Cond.methodLink RX1 69 yX6_standAlsoIn ∈ GB := gb_in (List.mem_append_right _ (List.mem_of_getElem? (i := 351) (by decide +kernel))) rfl
theorem im_X6_standAlsoIn : Cond.instanceMethod yX6_standAlsoIn ∈ GB := gb_in (List.mem_append_right _ (List.mem_of_getElem? (i := 352) (by decide +kernel))) rfl
theorem se_X6_standAlsoIn : Cond.selects RX6 yX6_standAlsoIn yX6_standAlsoIn ∈ GB := gb_in (List.mem_append_right _ (List.mem_of_getElem? (i := 353) (by decide +kernel))) rfl
theorem co_X6_standAlsoIn : Cond.code yX6_standAlsoIn cX6_standAlsoIn 3 none ∈ GB := gb_in (List.mem_append_right _ (List.mem_of_getElem? (i := 354) (by decide +kernel))) rfl
theorem ml_X1_73 : Cond.methodLink RX1 73 yX6_standingIn ∈ GB := gb_in (List.mem_append_right _ (List.mem_of_getElem? (i := 356) (by decide +kernel))) rfl
theorem im_X6_standingIn : Cond.instanceMethod yX6_standingIn ∈ GB := gb_in (List.mem_append_right _ (List.mem_of_getElem? (i := 357) (by decide +kernel))) rfl
theorem se_X6_standingIn : Cond.selects RX6 yX6_standingIn yX6_standingIn ∈ GB := gb_in (List.mem_append_right _ (List.mem_of_getElem? (i := 358) (by decide +kernel))) rfl
theorem co_X6_standingIn : Cond.code yX6_standingIn cX6_standingIn 4 (some .int) ∈ GB := gb_in (List.mem_append_right _ (List.mem_of_getElem? (i := 359) (by decide +kernel))) rfl
theorem ml_X6_40 : Cond.methodLink RX6 40 yJ6_bitCount_0f7a4 ∈ GB := gb_in (List.mem_append_right _ (List.mem_of_getElem? (i := 360) (by decide +kernel))) rfl
theorem st_J6_bitCount_0f7a4 : Cond.static yJ6_bitCount_0f7a4 ∈ GB := gb_in (List.mem_append_right _ (List.mem_of_getElem? (i := 361) (by decide +kernel))) rfl
theorem co_J6_bitCount_0f7a4 : Cond.code yJ6_bitCount_0f7a4 cJ6_bitCount_0f7a4 1 (some .int) ∈ GB := gb_in (List.mem_append_right _ (List.mem_of_getElem? (i := 362) (by decide +kernel))) rfl
theorem k_J6_265 : Cond.constant RJ6 265 1431655765 ∈ GB := gb_in (List.mem_append_right _ (List.mem_of_getElem? (i := 363) (by decide +kernel))) rfl
theorem k_J6_266 : Cond.constant RJ6 266 858993459 ∈ GB := gb_in (List.mem_append_right _ (List.mem_of_getElem? (i := 364) (by decide +kernel))) rfl
theorem k_J6_267 : Cond.constant RJ6 267 252645135 ∈ GB := gb_in (List.mem_append_right _ (List.mem_of_getElem? (i := 365) (by decide +kernel))) rfl
theorem ml_L_31 : Cond.methodLink RL 31 yX7_renew ∈ GB := gb_in (List.mem_append_right _ (List.mem_of_getElem? (i := 366) (by decide +kernel))) rfl
theorem im_X7_renew : Cond.instanceMethod yX7_renew ∈ GB := gb_in (List.mem_append_right _ (List.mem_of_getElem? (i := 367) (by decide +kernel))) rfl
theorem se_X7_renew : Cond.selects RX7 yX7_renew yX7_renew ∈ GB := gb_in (List.mem_append_right _ (List.mem_of_getElem? (i := 368) (by decide +kernel))) rfl
theorem co_X7_renew : Cond.code yX7_renew cX7_renew 2 (some .int) ∈ GB := gb_in (List.mem_append_right _ (List.mem_of_getElem? (i := 369) (by decide +kernel))) rfl
theorem ml_X7_62 : Cond.methodLink RX7 62 yX1_makeAnew ∈ GB := gb_in (List.mem_append_right _ (List.mem_of_getElem? (i := 370) (by decide +kernel))) rfl
theorem im_X1_makeAnew : Cond.instanceMethod yX1_makeAnew ∈ GB := gb_in (List.mem_append_right _ (List.mem_of_getElem? (i := 371) (by decide +kernel))) rfl
theorem se_X1_makeAnew : Cond.selects RX1 yX1_makeAnew yX1_makeAnew ∈ GB := gb_in (List.mem_append_right _ (List.mem_of_getElem? (i := 372) (by decide +kernel))) rfl
theorem co_X1_makeAnew : Cond.code yX1_makeAnew cX1_makeAnew 5 (some .int) ∈ GB := gb_in (List.mem_append_right _ (List.mem_of_getElem? (i := 373) (by decide +kernel))) rfl
theorem ml_X1_76 : Cond.methodLink RX1 76 yX5_isRoot ∈ GB := gb_in (List.mem_append_right _ (List.mem_of_getElem? (i := 374) (by decide +kernel))) rfl
theorem im_X5_isRoot : Cond.instanceMethod yX5_isRoot ∈ GB := gb_in (List.mem_append_right _ (List.mem_of_getElem? (i := 375) (by decide +kernel))) rfl
theorem se_X5_isRoot : Cond.selects RX5 yX5_isRoot yX5_isRoot ∈ GB := gb_in (List.mem_append_right _ (List.mem_of_getElem? (i := 376) (by decide +kernel))) rfl
theorem co_X5_isRoot : Cond.code yX5_isRoot cX5_isRoot 2 (some .boolean) ∈ GB := gb_in (List.mem_append_right _ (List.mem_of_getElem? (i := 377) (by decide +kernel))) rfl
theorem ml_X1_79 : Cond.methodLink RX1 79 yX1_hangingWithout ∈ GB := gb_in (List.mem_append_right _ (List.mem_of_getElem? (i := 378) (by decide +kernel))) rfl
theorem im_X1_hangingWithout : Cond.instanceMethod yX1_hangingWithout ∈ GB := gb_in (List.mem_append_right _ (List.mem_of_getElem? (i := 380) (by decide +kernel))) rfl
theorem co_X1_hangingWithout : Cond.code yX1_hangingWithout cX1_hangingWithout 4 (some .int) ∈ GB := gb_in (List.mem_append_right _ (List.mem_of_getElem? (i := 381) (by decide +kernel))) rfl
theorem ml_X1_118 : Cond.methodLink RX1 118 yX5_liveKeysOn ∈ GB := gb_in (List.mem_append_right _ (List.mem_of_getElem? (i := 382) (by decide +kernel))) rfl
theorem im_X5_liveKeysOn : Cond.instanceMethod yX5_liveKeysOn ∈ GB := gb_in (List.mem_append_right _ (List.mem_of_getElem? (i := 383) (by decide +kernel))) rfl
theorem se_X5_liveKeysOn : Cond.selects RX5 yX5_liveKeysOn yX5_liveKeysOn ∈ GB := gb_in (List.mem_append_right _ (List.mem_of_getElem? (i := 384) (by decide +kernel))) rfl
theorem co_X5_liveKeysOn : Cond.code yX5_liveKeysOn cX5_liveKeysOn 4 (some .int) ∈ GB := gb_in (List.mem_append_right _ (List.mem_of_getElem? (i := 385) (by decide +kernel))) rfl
theorem ml_X1_121 : Cond.methodLink RX1 121 yJ6_bitCount_0f7a4 ∈ GB := gb_in (List.mem_append_right _ (List.mem_of_getElem? (i := 386) (by decide +kernel))) rfl
theorem ml_X1_102 : Cond.methodLink RX1 102 yX5_liveBoxesOn ∈ GB := gb_in (List.mem_append_right _ (List.mem_of_getElem? (i := 387) (by decide +kernel))) rfl
theorem im_X5_liveBoxesOn : Cond.instanceMethod yX5_liveBoxesOn ∈ GB := gb_in (List.mem_append_right _ (List.mem_of_getElem? (i := 388) (by decide +kernel))) rfl
theorem se_X5_liveBoxesOn : Cond.selects RX5 yX5_liveBoxesOn yX5_liveBoxesOn ∈ GB := gb_in (List.mem_append_right _ (List.mem_of_getElem? (i := 389) (by decide +kernel))) rfl
theorem co_X5_liveBoxesOn : Cond.code yX5_liveBoxesOn cX5_liveBoxesOn 4 (some .int) ∈ GB := gb_in (List.mem_append_right _ (List.mem_of_getElem? (i := 390) (by decide +kernel))) rfl
theorem ml_X1_86 : Cond.methodLink RX1 86 yX1_startNextMakes ∈ GB := gb_in (List.mem_append_right _ (List.mem_of_getElem? (i := 391) (by decide +kernel))) rfl
theorem im_X1_startNextMakes : Cond.instanceMethod yX1_startNextMakes ∈ GB := gb_in (List.mem_append_right _ (List.mem_of_getElem? (i := 393) (by decide +kernel))) rfl
theorem co_X1_startNextMakes : Cond.code yX1_startNextMakes cX1_startNextMakes 3 none ∈ GB := gb_in (List.mem_append_right _ (List.mem_of_getElem? (i := 394) (by decide +kernel))) rfl
theorem ml_X1_126 : Cond.methodLink RX1 126 yX5_startNextMake ∈ GB := gb_in (List.mem_append_right _ (List.mem_of_getElem? (i := 396) (by decide +kernel))) rfl
theorem im_X5_startNextMake : Cond.instanceMethod yX5_startNextMake ∈ GB := gb_in (List.mem_append_right _ (List.mem_of_getElem? (i := 397) (by decide +kernel))) rfl
theorem se_X5_startNextMake : Cond.selects RX5 yX5_startNextMake yX5_startNextMake ∈ GB := gb_in (List.mem_append_right _ (List.mem_of_getElem? (i := 398) (by decide +kernel))) rfl
theorem co_X5_startNextMake : Cond.code yX5_startNextMake cX5_startNextMake 2 none ∈ GB := gb_in (List.mem_append_right _ (List.mem_of_getElem? (i := 399) (by decide +kernel))) rfl
theorem ml_X1_132 : Cond.methodLink RX1 132 yX6_burnOlderThan ∈ GB := gb_in (List.mem_append_right _ (List.mem_of_getElem? (i := 400) (by decide +kernel))) rfl
theorem im_X6_burnOlderThan : Cond.instanceMethod yX6_burnOlderThan ∈ GB := gb_in (List.mem_append_right _ (List.mem_of_getElem? (i := 401) (by decide +kernel))) rfl
theorem se_X6_burnOlderThan : Cond.selects RX6 yX6_burnOlderThan yX6_burnOlderThan ∈ GB := gb_in (List.mem_append_right _ (List.mem_of_getElem? (i := 402) (by decide +kernel))) rfl
theorem co_X6_burnOlderThan : Cond.code yX6_burnOlderThan cX6_burnOlderThan 6 none ∈ GB := gb_in (List.mem_append_right _ (List.mem_of_getElem? (i := 403) (by decide +kernel))) rfl
theorem ml_X6_66 : Cond.methodLink RX6 66 yX6_burn ∈ GB := gb_in (List.mem_append_right _ (List.mem_of_getElem? (i := 404) (by decide +kernel))) rfl
theorem im_X6_burn : Cond.instanceMethod yX6_burn ∈ GB := gb_in (List.mem_append_right _ (List.mem_of_getElem? (i := 406) (by decide +kernel))) rfl
theorem co_X6_burn : Cond.code yX6_burn cX6_burn 2 none ∈ GB := gb_in (List.mem_append_right _ (List.mem_of_getElem? (i := 407) (by decide +kernel))) rfl
theorem ml_X1_89 : Cond.methodLink RX1 89 yX1_wrapAllOn ∈ GB := gb_in (List.mem_append_right _ (List.mem_of_getElem? (i := 408) (by decide +kernel))) rfl
theorem im_X1_wrapAllOn : Cond.instanceMethod yX1_wrapAllOn ∈ GB := gb_in (List.mem_append_right _ (List.mem_of_getElem? (i := 410) (by decide +kernel))) rfl
theorem co_X1_wrapAllOn : Cond.code yX1_wrapAllOn cX1_wrapAllOn 5 none ∈ GB := gb_in (List.mem_append_right _ (List.mem_of_getElem? (i := 411) (by decide +kernel))) rfl
theorem ml_L_35 : Cond.methodLink RL 35 yX7_throwKey ∈ GB := gb_in (List.mem_append_right _ (List.mem_of_getElem? (i := 412) (by decide +kernel))) rfl
theorem im_X7_throwKey : Cond.instanceMethod yX7_throwKey ∈ GB := gb_in (List.mem_append_right _ (List.mem_of_getElem? (i := 413) (by decide +kernel))) rfl
theorem se_X7_throwKey : Cond.selects RX7 yX7_throwKey yX7_throwKey ∈ GB := gb_in (List.mem_append_right _ (List.mem_of_getElem? (i := 414) (by decide +kernel))) rfl
theorem co_X7_throwKey : Cond.code yX7_throwKey cX7_throwKey 2 (some .int) ∈ GB := gb_in (List.mem_append_right _ (List.mem_of_getElem? (i := 415) (by decide +kernel))) rfl
theorem ml_X7_65 : Cond.methodLink RX7 65 yX1_throwAway ∈ GB := gb_in (List.mem_append_right _ (List.mem_of_getElem? (i := 416) (by decide +kernel))) rfl
theorem im_X1_throwAway : Cond.instanceMethod yX1_throwAway ∈ GB := gb_in (List.mem_append_right _ (List.mem_of_getElem? (i := 417) (by decide +kernel))) rfl
theorem se_X1_throwAway : Cond.selects RX1 yX1_throwAway yX1_throwAway ∈ GB := gb_in (List.mem_append_right _ (List.mem_of_getElem? (i := 418) (by decide +kernel))) rfl
theorem co_X1_throwAway : Cond.code yX1_throwAway cX1_throwAway 8 (some .int) ∈ GB := gb_in (List.mem_append_right _ (List.mem_of_getElem? (i := 419) (by decide +kernel))) rfl
theorem ml_X1_92 : Cond.methodLink RX1 92 yX5_isLive ∈ GB := gb_in (List.mem_append_right _ (List.mem_of_getElem? (i := 420) (by decide +kernel))) rfl
theorem im_X5_isLive : Cond.instanceMethod yX5_isLive ∈ GB := gb_in (List.mem_append_right _ (List.mem_of_getElem? (i := 421) (by decide +kernel))) rfl
theorem se_X5_isLive : Cond.selects RX5 yX5_isLive yX5_isLive ∈ GB := gb_in (List.mem_append_right _ (List.mem_of_getElem? (i := 422) (by decide +kernel))) rfl
theorem co_X5_isLive : Cond.code yX5_isLive cX5_isLive 3 (some .boolean) ∈ GB := gb_in (List.mem_append_right _ (List.mem_of_getElem? (i := 423) (by decide +kernel))) rfl
theorem ml_X5_49 : Cond.methodLink RX5 49 yX5_isLiveKey ∈ GB := gb_in (List.mem_append_right _ (List.mem_of_getElem? (i := 424) (by decide +kernel))) rfl
theorem ml_X5_53 : Cond.methodLink RX5 53 yX5_isLiveBox ∈ GB := gb_in (List.mem_append_right _ (List.mem_of_getElem? (i := 425) (by decide +kernel))) rfl
theorem im_X5_isLiveBox : Cond.instanceMethod yX5_isLiveBox ∈ GB := gb_in (List.mem_append_right _ (List.mem_of_getElem? (i := 426) (by decide +kernel))) rfl
theorem se_X5_isLiveBox : Cond.selects RX5 yX5_isLiveBox yX5_isLiveBox ∈ GB := gb_in (List.mem_append_right _ (List.mem_of_getElem? (i := 427) (by decide +kernel))) rfl
theorem co_X5_isLiveBox : Cond.code yX5_isLiveBox cX5_isLiveBox 2 (some .boolean) ∈ GB := gb_in (List.mem_append_right _ (List.mem_of_getElem? (i := 428) (by decide +kernel))) rfl
theorem ml_X1_95 : Cond.methodLink RX1 95 yX5_aboveThat ∈ GB := gb_in (List.mem_append_right _ (List.mem_of_getElem? (i := 429) (by decide +kernel))) rfl
theorem im_X5_aboveThat : Cond.instanceMethod yX5_aboveThat ∈ GB := gb_in (List.mem_append_right _ (List.mem_of_getElem? (i := 430) (by decide +kernel))) rfl
theorem se_X5_aboveThat : Cond.selects RX5 yX5_aboveThat yX5_aboveThat ∈ GB := gb_in (List.mem_append_right _ (List.mem_of_getElem? (i := 431) (by decide +kernel))) rfl
theorem co_X5_aboveThat : Cond.code yX5_aboveThat cX5_aboveThat 3 (some .int) ∈ GB := gb_in (List.mem_append_right _ (List.mem_of_getElem? (i := 432) (by decide +kernel))) rfl
theorem ml_X5_69 : Cond.methodLink RX5 69 yX5_above ∈ GB := gb_in (List.mem_append_right _ (List.mem_of_getElem? (i := 433) (by decide +kernel))) rfl
theorem im_X5_above : Cond.instanceMethod yX5_above ∈ GB := gb_in (List.mem_append_right _ (List.mem_of_getElem? (i := 434) (by decide +kernel))) rfl
theorem se_X5_above : Cond.selects RX5 yX5_above yX5_above ∈ GB := gb_in (List.mem_append_right _ (List.mem_of_getElem? (i := 435) (by decide +kernel))) rfl
theorem co_X5_above : Cond.code yX5_above cX5_above 5 (some .int) ∈ GB := gb_in (List.mem_append_right _ (List.mem_of_getElem? (i := 436) (by decide +kernel))) rfl
theorem ml_X5_72 : Cond.methodLink RX5 72 yX5_aboveBox ∈ GB := gb_in (List.mem_append_right _ (List.mem_of_getElem? (i := 437) (by decide +kernel))) rfl
theorem im_X5_aboveBox : Cond.instanceMethod yX5_aboveBox ∈ GB := gb_in (List.mem_append_right _ (List.mem_of_getElem? (i := 438) (by decide +kernel))) rfl
theorem se_X5_aboveBox : Cond.selects RX5 yX5_aboveBox yX5_aboveBox ∈ GB := gb_in (List.mem_append_right _ (List.mem_of_getElem? (i := 439) (by decide +kernel))) rfl
theorem co_X5_aboveBox : Cond.code yX5_aboveBox cX5_aboveBox 3 (some .int) ∈ GB := gb_in (List.mem_append_right _ (List.mem_of_getElem? (i := 440) (by decide +kernel))) rfl
theorem ml_X1_99 : Cond.methodLink RX1 99 yX5_withAllBelow ∈ GB := gb_in (List.mem_append_right _ (List.mem_of_getElem? (i := 441) (by decide +kernel))) rfl
theorem im_X5_withAllBelow : Cond.instanceMethod yX5_withAllBelow ∈ GB := gb_in (List.mem_append_right _ (List.mem_of_getElem? (i := 442) (by decide +kernel))) rfl
theorem se_X5_withAllBelow : Cond.selects RX5 yX5_withAllBelow yX5_withAllBelow ∈ GB := gb_in (List.mem_append_right _ (List.mem_of_getElem? (i := 443) (by decide +kernel))) rfl
theorem co_X5_withAllBelow : Cond.code yX5_withAllBelow cX5_withAllBelow 4 (some .int) ∈ GB := gb_in (List.mem_append_right _ (List.mem_of_getElem? (i := 444) (by decide +kernel))) rfl
theorem ml_X1_105 : Cond.methodLink RX1 105 yX1_canWrapAgain ∈ GB := gb_in (List.mem_append_right _ (List.mem_of_getElem? (i := 445) (by decide +kernel))) rfl
theorem im_X1_canWrapAgain : Cond.instanceMethod yX1_canWrapAgain ∈ GB := gb_in (List.mem_append_right _ (List.mem_of_getElem? (i := 447) (by decide +kernel))) rfl
theorem co_X1_canWrapAgain : Cond.code yX1_canWrapAgain cX1_canWrapAgain 5 (some .boolean) ∈ GB := gb_in (List.mem_append_right _ (List.mem_of_getElem? (i := 448) (by decide +kernel))) rfl
theorem ml_X1_109 : Cond.methodLink RX1 109 yX5_endLife ∈ GB := gb_in (List.mem_append_right _ (List.mem_of_getElem? (i := 449) (by decide +kernel))) rfl
theorem im_X5_endLife : Cond.instanceMethod yX5_endLife ∈ GB := gb_in (List.mem_append_right _ (List.mem_of_getElem? (i := 450) (by decide +kernel))) rfl
theorem se_X5_endLife : Cond.selects RX5 yX5_endLife yX5_endLife ∈ GB := gb_in (List.mem_append_right _ (List.mem_of_getElem? (i := 451) (by decide +kernel))) rfl
theorem co_X5_endLife : Cond.code yX5_endLife cX5_endLife 3 none ∈ GB := gb_in (List.mem_append_right _ (List.mem_of_getElem? (i := 452) (by decide +kernel))) rfl
theorem ml_X1_112 : Cond.methodLink RX1 112 yX6_burnHolding ∈ GB := gb_in (List.mem_append_right _ (List.mem_of_getElem? (i := 453) (by decide +kernel))) rfl
theorem im_X6_burnHolding : Cond.instanceMethod yX6_burnHolding ∈ GB := gb_in (List.mem_append_right _ (List.mem_of_getElem? (i := 454) (by decide +kernel))) rfl
theorem se_X6_burnHolding : Cond.selects RX6 yX6_burnHolding yX6_burnHolding ∈ GB := gb_in (List.mem_append_right _ (List.mem_of_getElem? (i := 455) (by decide +kernel))) rfl
theorem co_X6_burnHolding : Cond.code yX6_burnHolding cX6_burnHolding 5 none ∈ GB := gb_in (List.mem_append_right _ (List.mem_of_getElem? (i := 456) (by decide +kernel))) rfl
theorem ml_L_39 : Cond.methodLink RL 39 yX7_throwBox ∈ GB := gb_in (List.mem_append_right _ (List.mem_of_getElem? (i := 458) (by decide +kernel))) rfl
theorem im_X7_throwBox : Cond.instanceMethod yX7_throwBox ∈ GB := gb_in (List.mem_append_right _ (List.mem_of_getElem? (i := 459) (by decide +kernel))) rfl
theorem se_X7_throwBox : Cond.selects RX7 yX7_throwBox yX7_throwBox ∈ GB := gb_in (List.mem_append_right _ (List.mem_of_getElem? (i := 460) (by decide +kernel))) rfl
theorem co_X7_throwBox : Cond.code yX7_throwBox cX7_throwBox 2 (some .int) ∈ GB := gb_in (List.mem_append_right _ (List.mem_of_getElem? (i := 461) (by decide +kernel))) rfl
theorem ml_L_43 : Cond.methodLink RL 43 yX7_ofKey ∈ GB := gb_in (List.mem_append_right _ (List.mem_of_getElem? (i := 462) (by decide +kernel))) rfl
theorem im_X7_ofKey : Cond.instanceMethod yX7_ofKey ∈ GB := gb_in (List.mem_append_right _ (List.mem_of_getElem? (i := 463) (by decide +kernel))) rfl
theorem se_X7_ofKey : Cond.selects RX7 yX7_ofKey yX7_ofKey ∈ GB := gb_in (List.mem_append_right _ (List.mem_of_getElem? (i := 464) (by decide +kernel))) rfl
theorem co_X7_ofKey : Cond.code yX7_ofKey cX7_ofKey 4 (some .int) ∈ GB := gb_in (List.mem_append_right _ (List.mem_of_getElem? (i := 465) (by decide +kernel))) rfl
theorem ml_X7_72 : Cond.methodLink RX7 72 yX5_hasKey ∈ GB := gb_in (List.mem_append_right _ (List.mem_of_getElem? (i := 466) (by decide +kernel))) rfl
theorem im_X5_hasKey : Cond.instanceMethod yX5_hasKey ∈ GB := gb_in (List.mem_append_right _ (List.mem_of_getElem? (i := 467) (by decide +kernel))) rfl
theorem se_X5_hasKey : Cond.selects RX5 yX5_hasKey yX5_hasKey ∈ GB := gb_in (List.mem_append_right _ (List.mem_of_getElem? (i := 468) (by decide +kernel))) rfl
theorem co_X5_hasKey : Cond.code yX5_hasKey cX5_hasKey 2 (some .boolean) ∈ GB := gb_in (List.mem_append_right _ (List.mem_of_getElem? (i := 469) (by decide +kernel))) rfl
theorem ml_X7_78 : Cond.methodLink RX7 78 yX5_parentOf ∈ GB := gb_in (List.mem_append_right _ (List.mem_of_getElem? (i := 470) (by decide +kernel))) rfl
theorem ml_X7_81 : Cond.methodLink RX7 81 yX5_isLiveKey ∈ GB := gb_in (List.mem_append_right _ (List.mem_of_getElem? (i := 471) (by decide +kernel))) rfl
theorem ml_X7_84 : Cond.methodLink RX7 84 yX7_oneIf ∈ GB := gb_in (List.mem_append_right _ (List.mem_of_getElem? (i := 472) (by decide +kernel))) rfl
theorem st_X7_oneIf : Cond.static yX7_oneIf ∈ GB := gb_in (List.mem_append_right _ (List.mem_of_getElem? (i := 473) (by decide +kernel))) rfl
theorem co_X7_oneIf : Cond.code yX7_oneIf cX7_oneIf 1 (some .int) ∈ GB := gb_in (List.mem_append_right _ (List.mem_of_getElem? (i := 474) (by decide +kernel))) rfl
theorem ml_X7_88 : Cond.methodLink RX7 88 yX5_makeOf ∈ GB := gb_in (List.mem_append_right _ (List.mem_of_getElem? (i := 475) (by decide +kernel))) rfl
theorem ml_X7_91 : Cond.methodLink RX7 91 yX5_wearOf ∈ GB := gb_in (List.mem_append_right _ (List.mem_of_getElem? (i := 476) (by decide +kernel))) rfl
theorem im_X5_wearOf : Cond.instanceMethod yX5_wearOf ∈ GB := gb_in (List.mem_append_right _ (List.mem_of_getElem? (i := 477) (by decide +kernel))) rfl
theorem se_X5_wearOf : Cond.selects RX5 yX5_wearOf yX5_wearOf ∈ GB := gb_in (List.mem_append_right _ (List.mem_of_getElem? (i := 478) (by decide +kernel))) rfl
theorem co_X5_wearOf : Cond.code yX5_wearOf cX5_wearOf 2 (some .int) ∈ GB := gb_in (List.mem_append_right _ (List.mem_of_getElem? (i := 479) (by decide +kernel))) rfl
theorem ml_X7_94 : Cond.methodLink RX7 94 yX7_setOf ∈ GB := gb_in (List.mem_append_right _ (List.mem_of_getElem? (i := 480) (by decide +kernel))) rfl
theorem ml_X7_97 : Cond.methodLink RX7 97 yX5_liveKeysOn ∈ GB := gb_in (List.mem_append_right _ (List.mem_of_getElem? (i := 481) (by decide +kernel))) rfl
theorem ml_X7_100 : Cond.methodLink RX7 100 yX5_liveBoxesOn ∈ GB := gb_in (List.mem_append_right _ (List.mem_of_getElem? (i := 482) (by decide +kernel))) rfl
theorem ml_X7_103 : Cond.methodLink RX7 103 yX5_above ∈ GB := gb_in (List.mem_append_right _ (List.mem_of_getElem? (i := 483) (by decide +kernel))) rfl
theorem ml_X7_106 : Cond.methodLink RX7 106 yJ6_bitCount_0f7a4 ∈ GB := gb_in (List.mem_append_right _ (List.mem_of_getElem? (i := 484) (by decide +kernel))) rfl
theorem ml_L_47 : Cond.methodLink RL 47 yX7_ofBox ∈ GB := gb_in (List.mem_append_right _ (List.mem_of_getElem? (i := 485) (by decide +kernel))) rfl
theorem im_X7_ofBox : Cond.instanceMethod yX7_ofBox ∈ GB := gb_in (List.mem_append_right _ (List.mem_of_getElem? (i := 486) (by decide +kernel))) rfl
theorem se_X7_ofBox : Cond.selects RX7 yX7_ofBox yX7_ofBox ∈ GB := gb_in (List.mem_append_right _ (List.mem_of_getElem? (i := 487) (by decide +kernel))) rfl
theorem co_X7_ofBox : Cond.code yX7_ofBox cX7_ofBox 4 (some .int) ∈ GB := gb_in (List.mem_append_right _ (List.mem_of_getElem? (i := 488) (by decide +kernel))) rfl
theorem ml_X7_111 : Cond.methodLink RX7 111 yX5_hasBox ∈ GB := gb_in (List.mem_append_right _ (List.mem_of_getElem? (i := 489) (by decide +kernel))) rfl
theorem im_X5_hasBox : Cond.instanceMethod yX5_hasBox ∈ GB := gb_in (List.mem_append_right _ (List.mem_of_getElem? (i := 490) (by decide +kernel))) rfl
theorem se_X5_hasBox : Cond.selects RX5 yX5_hasBox yX5_hasBox ∈ GB := gb_in (List.mem_append_right _ (List.mem_of_getElem? (i := 491) (by decide +kernel))) rfl
theorem co_X5_hasBox : Cond.code yX5_hasBox cX5_hasBox 2 (some .boolean) ∈ GB := gb_in (List.mem_append_right _ (List.mem_of_getElem? (i := 492) (by decide +kernel))) rfl
theorem ml_X7_114 : Cond.methodLink RX7 114 yX5_keyOfBox ∈ GB := gb_in (List.mem_append_right _ (List.mem_of_getElem? (i := 493) (by decide +kernel))) rfl
theorem ml_X7_117 : Cond.methodLink RX7 117 yX5_isLiveBox ∈ GB := gb_in (List.mem_append_right _ (List.mem_of_getElem? (i := 494) (by decide +kernel))) rfl
theorem ml_X7_120 : Cond.methodLink RX7 120 yX2_boxesWith ∈ GB := gb_in (List.mem_append_right _ (List.mem_of_getElem? (i := 495) (by decide +kernel))) rfl
theorem im_X2_boxesWith : Cond.instanceMethod yX2_boxesWith ∈ GB := gb_in (List.mem_append_right _ (List.mem_of_getElem? (i := 496) (by decide +kernel))) rfl
theorem se_X2_boxesWith : Cond.selects RX2 yX2_boxesWith yX2_boxesWith ∈ GB := gb_in (List.mem_append_right _ (List.mem_of_getElem? (i := 497) (by decide +kernel))) rfl
theorem co_X2_boxesWith : Cond.code yX2_boxesWith cX2_boxesWith 3 (some .int) ∈ GB := gb_in (List.mem_append_right _ (List.mem_of_getElem? (i := 498) (by decide +kernel))) rfl
theorem ml_X2_29 : Cond.methodLink RX2 29 yX2_startFromSafe ∈ GB := gb_in (List.mem_append_right _ (List.mem_of_getElem? (i := 499) (by decide +kernel))) rfl
theorem im_X2_startFromSafe : Cond.instanceMethod yX2_startFromSafe ∈ GB := gb_in (List.mem_append_right _ (List.mem_of_getElem? (i := 501) (by decide +kernel))) rfl
theorem co_X2_startFromSafe : Cond.code yX2_startFromSafe cX2_startFromSafe 3 none ∈ GB := gb_in (List.mem_append_right _ (List.mem_of_getElem? (i := 502) (by decide +kernel))) rfl
theorem ml_X2_49 : Cond.methodLink RX2 49 yX4_fill ∈ GB := gb_in (List.mem_append_right _ (List.mem_of_getElem? (i := 503) (by decide +kernel))) rfl
theorem im_X4_fill : Cond.instanceMethod yX4_fill ∈ GB := gb_in (List.mem_append_right _ (List.mem_of_getElem? (i := 504) (by decide +kernel))) rfl
theorem se_X4_fill : Cond.selects RX4 yX4_fill yX4_fill ∈ GB := gb_in (List.mem_append_right _ (List.mem_of_getElem? (i := 505) (by decide +kernel))) rfl
theorem co_X4_fill : Cond.code yX4_fill cX4_fill 3 none ∈ GB := gb_in (List.mem_append_right _ (List.mem_of_getElem? (i := 506) (by decide +kernel))) rfl
theorem ml_X2_56 : Cond.methodLink RX2 56 yX5_isLiveKey ∈ GB := gb_in (List.mem_append_right _ (List.mem_of_getElem? (i := 507) (by decide +kernel))) rfl
theorem ml_X2_62 : Cond.methodLink RX2 62 yX5_isRoot ∈ GB := gb_in (List.mem_append_right _ (List.mem_of_getElem? (i := 508) (by decide +kernel))) rfl
theorem ml_X2_65 : Cond.methodLink RX2 65 yX5_makeOf ∈ GB := gb_in (List.mem_append_right _ (List.mem_of_getElem? (i := 509) (by decide +kernel))) rfl
theorem ml_X2_52 : Cond.methodLink RX2 52 yX4_set ∈ GB := gb_in (List.mem_append_right _ (List.mem_of_getElem? (i := 510) (by decide +kernel))) rfl
theorem ml_X2_37 : Cond.methodLink RX2 37 yX2_openAll ∈ GB := gb_in (List.mem_append_right _ (List.mem_of_getElem? (i := 511) (by decide +kernel))) rfl
theorem im_X2_openAll : Cond.instanceMethod yX2_openAll ∈ GB := gb_in (List.mem_append_right _ (List.mem_of_getElem? (i := 513) (by decide +kernel))) rfl
theorem co_X2_openAll : Cond.code yX2_openAll cX2_openAll 4 none ∈ GB := gb_in (List.mem_append_right _ (List.mem_of_getElem? (i := 514) (by decide +kernel))) rfl
theorem ml_X2_69 : Cond.methodLink RX2 69 yX2_openHolding ∈ GB := gb_in (List.mem_append_right _ (List.mem_of_getElem? (i := 515) (by decide +kernel))) rfl
theorem im_X2_openHolding : Cond.instanceMethod yX2_openHolding ∈ GB := gb_in (List.mem_append_right _ (List.mem_of_getElem? (i := 517) (by decide +kernel))) rfl
theorem co_X2_openHolding : Cond.code yX2_openHolding cX2_openHolding 5 none ∈ GB := gb_in (List.mem_append_right _ (List.mem_of_getElem? (i := 518) (by decide +kernel))) rfl
theorem ml_X2_79 : Cond.methodLink RX2 79 yX6_heldKey ∈ GB := gb_in (List.mem_append_right _ (List.mem_of_getElem? (i := 519) (by decide +kernel))) rfl
theorem im_X6_heldKey : Cond.instanceMethod yX6_heldKey ∈ GB := gb_in (List.mem_append_right _ (List.mem_of_getElem? (i := 520) (by decide +kernel))) rfl
theorem se_X6_heldKey : Cond.selects RX6 yX6_heldKey yX6_heldKey ∈ GB := gb_in (List.mem_append_right _ (List.mem_of_getElem? (i := 521) (by decide +kernel))) rfl
theorem co_X6_heldKey : Cond.code yX6_heldKey cX6_heldKey 2 (some .int) ∈ GB := gb_in (List.mem_append_right _ (List.mem_of_getElem? (i := 522) (by decide +kernel))) rfl
theorem ml_X2_82 : Cond.methodLink RX2 82 yX6_standsIn ∈ GB := gb_in (List.mem_append_right _ (List.mem_of_getElem? (i := 523) (by decide +kernel))) rfl
theorem ml_X2_86 : Cond.methodLink RX2 86 yX6_closer ∈ GB := gb_in (List.mem_append_right _ (List.mem_of_getElem? (i := 524) (by decide +kernel))) rfl
theorem im_X6_closer : Cond.instanceMethod yX6_closer ∈ GB := gb_in (List.mem_append_right _ (List.mem_of_getElem? (i := 525) (by decide +kernel))) rfl
theorem se_X6_closer : Cond.selects RX6 yX6_closer yX6_closer ∈ GB := gb_in (List.mem_append_right _ (List.mem_of_getElem? (i := 526) (by decide +kernel))) rfl
theorem co_X6_closer : Cond.code yX6_closer cX6_closer 2 (some .int) ∈ GB := gb_in (List.mem_append_right _ (List.mem_of_getElem? (i := 527) (by decide +kernel))) rfl
theorem ml_X2_89 : Cond.methodLink RX2 89 yX6_closerMake ∈ GB := gb_in (List.mem_append_right _ (List.mem_of_getElem? (i := 528) (by decide +kernel))) rfl
theorem im_X6_closerMake : Cond.instanceMethod yX6_closerMake ∈ GB := gb_in (List.mem_append_right _ (List.mem_of_getElem? (i := 529) (by decide +kernel))) rfl
theorem se_X6_closerMake : Cond.selects RX6 yX6_closerMake yX6_closerMake ∈ GB := gb_in (List.mem_append_right _ (List.mem_of_getElem? (i := 530) (by decide +kernel))) rfl
theorem co_X6_closerMake : Cond.code yX6_closerMake cX6_closerMake 2 (some .int) ∈ GB := gb_in (List.mem_append_right _ (List.mem_of_getElem? (i := 531) (by decide +kernel))) rfl
theorem ml_X2_45 : Cond.methodLink RX2 45 yX2_isHad ∈ GB := gb_in (List.mem_append_right _ (List.mem_of_getElem? (i := 532) (by decide +kernel))) rfl
theorem im_X2_isHad : Cond.instanceMethod yX2_isHad ∈ GB := gb_in (List.mem_append_right _ (List.mem_of_getElem? (i := 534) (by decide +kernel))) rfl
theorem co_X2_isHad : Cond.code yX2_isHad cX2_isHad 5 (some .boolean) ∈ GB := gb_in (List.mem_append_right _ (List.mem_of_getElem? (i := 535) (by decide +kernel))) rfl
theorem ml_X2_92 : Cond.methodLink RX2 92 yX4_at ∈ GB := gb_in (List.mem_append_right _ (List.mem_of_getElem? (i := 536) (by decide +kernel))) rfl
theorem ml_X2_95 : Cond.methodLink RX2 95 yX6_holdsMake ∈ GB := gb_in (List.mem_append_right _ (List.mem_of_getElem? (i := 537) (by decide +kernel))) rfl
theorem im_X6_holdsMake : Cond.instanceMethod yX6_holdsMake ∈ GB := gb_in (List.mem_append_right _ (List.mem_of_getElem? (i := 538) (by decide +kernel))) rfl
theorem se_X6_holdsMake : Cond.selects RX6 yX6_holdsMake yX6_holdsMake ∈ GB := gb_in (List.mem_append_right _ (List.mem_of_getElem? (i := 539) (by decide +kernel))) rfl
theorem co_X6_holdsMake : Cond.code yX6_holdsMake cX6_holdsMake 4 (some .boolean) ∈ GB := gb_in (List.mem_append_right _ (List.mem_of_getElem? (i := 540) (by decide +kernel))) rfl
theorem ml_X2_41 : Cond.methodLink RX2 41 yX2_openedBoxes ∈ GB := gb_in (List.mem_append_right _ (List.mem_of_getElem? (i := 541) (by decide +kernel))) rfl
theorem im_X2_openedBoxes : Cond.instanceMethod yX2_openedBoxes ∈ GB := gb_in (List.mem_append_right _ (List.mem_of_getElem? (i := 543) (by decide +kernel))) rfl
theorem co_X2_openedBoxes : Cond.code yX2_openedBoxes cX2_openedBoxes 4 (some .int) ∈ GB := gb_in (List.mem_append_right _ (List.mem_of_getElem? (i := 544) (by decide +kernel))) rfl
theorem ml_X2_99 : Cond.methodLink RX2 99 yX6_heldWhat ∈ GB := gb_in (List.mem_append_right _ (List.mem_of_getElem? (i := 545) (by decide +kernel))) rfl
theorem im_X6_heldWhat : Cond.instanceMethod yX6_heldWhat ∈ GB := gb_in (List.mem_append_right _ (List.mem_of_getElem? (i := 546) (by decide +kernel))) rfl
theorem se_X6_heldWhat : Cond.selects RX6 yX6_heldWhat yX6_heldWhat ∈ GB := gb_in (List.mem_append_right _ (List.mem_of_getElem? (i := 547) (by decide +kernel))) rfl
theorem co_X6_heldWhat : Cond.code yX6_heldWhat cX6_heldWhat 2 (some .int) ∈ GB := gb_in (List.mem_append_right _ (List.mem_of_getElem? (i := 548) (by decide +kernel))) rfl
theorem ml_X7_124 : Cond.methodLink RX7 124 yX7_has ∈ GB := gb_in (List.mem_append_right _ (List.mem_of_getElem? (i := 550) (by decide +kernel))) rfl
theorem ml_L_51 : Cond.methodLink RL 51 yX7_wrap ∈ GB := gb_in (List.mem_append_right _ (List.mem_of_getElem? (i := 551) (by decide +kernel))) rfl
theorem im_X7_wrap : Cond.instanceMethod yX7_wrap ∈ GB := gb_in (List.mem_append_right _ (List.mem_of_getElem? (i := 552) (by decide +kernel))) rfl
theorem se_X7_wrap : Cond.selects RX7 yX7_wrap yX7_wrap ∈ GB := gb_in (List.mem_append_right _ (List.mem_of_getElem? (i := 553) (by decide +kernel))) rfl
theorem co_X7_wrap : Cond.code yX7_wrap cX7_wrap 4 (some .int) ∈ GB := gb_in (List.mem_append_right _ (List.mem_of_getElem? (i := 554) (by decide +kernel))) rfl
theorem ml_X7_132 : Cond.methodLink RX7 132 yX6_isOne ∈ GB := gb_in (List.mem_append_right _ (List.mem_of_getElem? (i := 555) (by decide +kernel))) rfl
theorem ml_X7_137 : Cond.methodLink RX7 137 yX6_heldKey ∈ GB := gb_in (List.mem_append_right _ (List.mem_of_getElem? (i := 556) (by decide +kernel))) rfl
theorem ml_X7_140 : Cond.methodLink RX7 140 yX6_heldWhat ∈ GB := gb_in (List.mem_append_right _ (List.mem_of_getElem? (i := 557) (by decide +kernel))) rfl
theorem ml_X7_143 : Cond.methodLink RX7 143 yX6_closer ∈ GB := gb_in (List.mem_append_right _ (List.mem_of_getElem? (i := 558) (by decide +kernel))) rfl
theorem ml_X7_146 : Cond.methodLink RX7 146 yX6_closerMake ∈ GB := gb_in (List.mem_append_right _ (List.mem_of_getElem? (i := 559) (by decide +kernel))) rfl
theorem ml_X7_149 : Cond.methodLink RX7 149 yX6_standsIn ∈ GB := gb_in (List.mem_append_right _ (List.mem_of_getElem? (i := 560) (by decide +kernel))) rfl
theorem ml_X7_152 : Cond.methodLink RX7 152 yX6_placesOf ∈ GB := gb_in (List.mem_append_right _ (List.mem_of_getElem? (i := 561) (by decide +kernel))) rfl
theorem im_X6_placesOf : Cond.instanceMethod yX6_placesOf ∈ GB := gb_in (List.mem_append_right _ (List.mem_of_getElem? (i := 562) (by decide +kernel))) rfl
theorem se_X6_placesOf : Cond.selects RX6 yX6_placesOf yX6_placesOf ∈ GB := gb_in (List.mem_append_right _ (List.mem_of_getElem? (i := 563) (by decide +kernel))) rfl
theorem co_X6_placesOf : Cond.code yX6_placesOf cX6_placesOf 2 (some .int) ∈ GB := gb_in (List.mem_append_right _ (List.mem_of_getElem? (i := 564) (by decide +kernel))) rfl
theorem ml_L_55 : Cond.methodLink RL 55 yX7_count ∈ GB := gb_in (List.mem_append_right _ (List.mem_of_getElem? (i := 565) (by decide +kernel))) rfl
theorem im_X7_count : Cond.instanceMethod yX7_count ∈ GB := gb_in (List.mem_append_right _ (List.mem_of_getElem? (i := 566) (by decide +kernel))) rfl
theorem se_X7_count : Cond.selects RX7 yX7_count yX7_count ∈ GB := gb_in (List.mem_append_right _ (List.mem_of_getElem? (i := 567) (by decide +kernel))) rfl
theorem co_X7_count : Cond.code yX7_count cX7_count 3 (some .int) ∈ GB := gb_in (List.mem_append_right _ (List.mem_of_getElem? (i := 568) (by decide +kernel))) rfl
theorem ml_X7_171 : Cond.methodLink RX7 171 yX6_standingIn ∈ GB := gb_in (List.mem_append_right _ (List.mem_of_getElem? (i := 569) (by decide +kernel))) rfl
theorem ml_X7_177 : Cond.methodLink RX7 177 yX5_wornKeys ∈ GB := gb_in (List.mem_append_right _ (List.mem_of_getElem? (i := 570) (by decide +kernel))) rfl
theorem im_X5_wornKeys : Cond.instanceMethod yX5_wornKeys ∈ GB := gb_in (List.mem_append_right _ (List.mem_of_getElem? (i := 571) (by decide +kernel))) rfl
theorem se_X5_wornKeys : Cond.selects RX5 yX5_wornKeys yX5_wornKeys ∈ GB := gb_in (List.mem_append_right _ (List.mem_of_getElem? (i := 572) (by decide +kernel))) rfl
theorem co_X5_wornKeys : Cond.code yX5_wornKeys cX5_wornKeys 3 (some .int) ∈ GB := gb_in (List.mem_append_right _ (List.mem_of_getElem? (i := 573) (by decide +kernel))) rfl
theorem ml_X5_75 : Cond.methodLink RX5 75 yX5_leftToClose ∈ GB := gb_in (List.mem_append_right _ (List.mem_of_getElem? (i := 574) (by decide +kernel))) rfl
theorem ml_L_59 : Cond.methodLink RL 59 yX7_canOpen ∈ GB := gb_in (List.mem_append_right _ (List.mem_of_getElem? (i := 575) (by decide +kernel))) rfl
theorem im_X7_canOpen : Cond.instanceMethod yX7_canOpen ∈ GB := gb_in (List.mem_append_right _ (List.mem_of_getElem? (i := 576) (by decide +kernel))) rfl
theorem se_X7_canOpen : Cond.selects RX7 yX7_canOpen yX7_canOpen ∈ GB := gb_in (List.mem_append_right _ (List.mem_of_getElem? (i := 577) (by decide +kernel))) rfl
theorem co_X7_canOpen : Cond.code yX7_canOpen cX7_canOpen 3 (some .int) ∈ GB := gb_in (List.mem_append_right _ (List.mem_of_getElem? (i := 578) (by decide +kernel))) rfl
theorem ml_X7_185 : Cond.methodLink RX7 185 yX7_arePlaces ∈ GB := gb_in (List.mem_append_right _ (List.mem_of_getElem? (i := 579) (by decide +kernel))) rfl
theorem st_X7_arePlaces : Cond.static yX7_arePlaces ∈ GB := gb_in (List.mem_append_right _ (List.mem_of_getElem? (i := 580) (by decide +kernel))) rfl
theorem co_X7_arePlaces : Cond.code yX7_arePlaces cX7_arePlaces 1 (some .boolean) ∈ GB := gb_in (List.mem_append_right _ (List.mem_of_getElem? (i := 581) (by decide +kernel))) rfl
theorem ml_L_63 : Cond.methodLink RL 63 yX7_canHave ∈ GB := gb_in (List.mem_append_right _ (List.mem_of_getElem? (i := 582) (by decide +kernel))) rfl
theorem im_X7_canHave : Cond.instanceMethod yX7_canHave ∈ GB := gb_in (List.mem_append_right _ (List.mem_of_getElem? (i := 583) (by decide +kernel))) rfl
theorem se_X7_canHave : Cond.selects RX7 yX7_canHave yX7_canHave ∈ GB := gb_in (List.mem_append_right _ (List.mem_of_getElem? (i := 584) (by decide +kernel))) rfl
theorem co_X7_canHave : Cond.code yX7_canHave cX7_canHave 4 (some .int) ∈ GB := gb_in (List.mem_append_right _ (List.mem_of_getElem? (i := 585) (by decide +kernel))) rfl
theorem ml_X7_188 : Cond.methodLink RX7 188 yX2_canHaveKey ∈ GB := gb_in (List.mem_append_right _ (List.mem_of_getElem? (i := 586) (by decide +kernel))) rfl
theorem im_X2_canHaveKey : Cond.instanceMethod yX2_canHaveKey ∈ GB := gb_in (List.mem_append_right _ (List.mem_of_getElem? (i := 587) (by decide +kernel))) rfl
theorem se_X2_canHaveKey : Cond.selects RX2 yX2_canHaveKey yX2_canHaveKey ∈ GB := gb_in (List.mem_append_right _ (List.mem_of_getElem? (i := 588) (by decide +kernel))) rfl
theorem co_X2_canHaveKey : Cond.code yX2_canHaveKey cX2_canHaveKey 5 (some .boolean) ∈ GB := gb_in (List.mem_append_right _ (List.mem_of_getElem? (i := 589) (by decide +kernel))) rfl
theorem ml_L_68 : Cond.methodLink RL 68 yX7_way ∈ GB := gb_in (List.mem_append_right _ (List.mem_of_getElem? (i := 590) (by decide +kernel))) rfl
theorem im_X7_way : Cond.instanceMethod yX7_way ∈ GB := gb_in (List.mem_append_right _ (List.mem_of_getElem? (i := 591) (by decide +kernel))) rfl
theorem se_X7_way : Cond.selects RX7 yX7_way yX7_way ∈ GB := gb_in (List.mem_append_right _ (List.mem_of_getElem? (i := 592) (by decide +kernel))) rfl
theorem co_X7_way : Cond.code yX7_way cX7_way 3 (some .int) ∈ GB := gb_in (List.mem_append_right _ (List.mem_of_getElem? (i := 593) (by decide +kernel))) rfl
theorem ml_X7_192 : Cond.methodLink RX7 192 yX1_stepOfWay ∈ GB := gb_in (List.mem_append_right _ (List.mem_of_getElem? (i := 594) (by decide +kernel))) rfl
theorem im_X1_stepOfWay : Cond.instanceMethod yX1_stepOfWay ∈ GB := gb_in (List.mem_append_right _ (List.mem_of_getElem? (i := 595) (by decide +kernel))) rfl
theorem se_X1_stepOfWay : Cond.selects RX1 yX1_stepOfWay yX1_stepOfWay ∈ GB := gb_in (List.mem_append_right _ (List.mem_of_getElem? (i := 596) (by decide +kernel))) rfl
theorem co_X1_stepOfWay : Cond.code yX1_stepOfWay cX1_stepOfWay 6 (some .int) ∈ GB := gb_in (List.mem_append_right _ (List.mem_of_getElem? (i := 597) (by decide +kernel))) rfl
theorem ml_X1_145 : Cond.methodLink RX1 145 yX5_aboveBox ∈ GB := gb_in (List.mem_append_right _ (List.mem_of_getElem? (i := 598) (by decide +kernel))) rfl
theorem ml_X1_148 : Cond.methodLink RX1 148 yX6_inHouseWithKey ∈ GB := gb_in (List.mem_append_right _ (List.mem_of_getElem? (i := 599) (by decide +kernel))) rfl
theorem im_X6_inHouseWithKey : Cond.instanceMethod yX6_inHouseWithKey ∈ GB := gb_in (List.mem_append_right _ (List.mem_of_getElem? (i := 600) (by decide +kernel))) rfl
theorem se_X6_inHouseWithKey : Cond.selects RX6 yX6_inHouseWithKey yX6_inHouseWithKey ∈ GB := gb_in (List.mem_append_right _ (List.mem_of_getElem? (i := 601) (by decide +kernel))) rfl
theorem co_X6_inHouseWithKey : Cond.code yX6_inHouseWithKey cX6_inHouseWithKey 4 (some .int) ∈ GB := gb_in (List.mem_append_right _ (List.mem_of_getElem? (i := 602) (by decide +kernel))) rfl
theorem ml_X6_45 : Cond.methodLink RX6 45 yX6_standsIn ∈ GB := gb_in (List.mem_append_right _ (List.mem_of_getElem? (i := 603) (by decide +kernel))) rfl
theorem ml_X6_49 : Cond.methodLink RX6 49 yX6_holdsMake ∈ GB := gb_in (List.mem_append_right _ (List.mem_of_getElem? (i := 604) (by decide +kernel))) rfl
theorem ml_X1_151 : Cond.methodLink RX1 151 yX6_inHouseWithBox ∈ GB := gb_in (List.mem_append_right _ (List.mem_of_getElem? (i := 605) (by decide +kernel))) rfl
theorem im_X6_inHouseWithBox : Cond.instanceMethod yX6_inHouseWithBox ∈ GB := gb_in (List.mem_append_right _ (List.mem_of_getElem? (i := 606) (by decide +kernel))) rfl
theorem se_X6_inHouseWithBox : Cond.selects RX6 yX6_inHouseWithBox yX6_inHouseWithBox ∈ GB := gb_in (List.mem_append_right _ (List.mem_of_getElem? (i := 607) (by decide +kernel))) rfl
theorem co_X6_inHouseWithBox : Cond.code yX6_inHouseWithBox cX6_inHouseWithBox 3 (some .int) ∈ GB := gb_in (List.mem_append_right _ (List.mem_of_getElem? (i := 608) (by decide +kernel))) rfl
theorem ml_X6_53 : Cond.methodLink RX6 53 yX6_holdsBox ∈ GB := gb_in (List.mem_append_right _ (List.mem_of_getElem? (i := 609) (by decide +kernel))) rfl
theorem im_X6_holdsBox : Cond.instanceMethod yX6_holdsBox ∈ GB := gb_in (List.mem_append_right _ (List.mem_of_getElem? (i := 610) (by decide +kernel))) rfl
theorem se_X6_holdsBox : Cond.selects RX6 yX6_holdsBox yX6_holdsBox ∈ GB := gb_in (List.mem_append_right _ (List.mem_of_getElem? (i := 611) (by decide +kernel))) rfl
theorem co_X6_holdsBox : Cond.code yX6_holdsBox cX6_holdsBox 3 (some .boolean) ∈ GB := gb_in (List.mem_append_right _ (List.mem_of_getElem? (i := 612) (by decide +kernel))) rfl
theorem ml_L_72 : Cond.methodLink RL 72 yX7_leaks ∈ GB := gb_in (List.mem_append_right _ (List.mem_of_getElem? (i := 613) (by decide +kernel))) rfl
theorem im_X7_leaks : Cond.instanceMethod yX7_leaks ∈ GB := gb_in (List.mem_append_right _ (List.mem_of_getElem? (i := 614) (by decide +kernel))) rfl
theorem se_X7_leaks : Cond.selects RX7 yX7_leaks yX7_leaks ∈ GB := gb_in (List.mem_append_right _ (List.mem_of_getElem? (i := 615) (by decide +kernel))) rfl
theorem co_X7_leaks : Cond.code yX7_leaks cX7_leaks 4 (some .int) ∈ GB := gb_in (List.mem_append_right _ (List.mem_of_getElem? (i := 616) (by decide +kernel))) rfl
theorem ml_X7_195 : Cond.methodLink RX7 195 yX5_isRoot ∈ GB := gb_in (List.mem_append_right _ (List.mem_of_getElem? (i := 617) (by decide +kernel))) rfl
theorem ml_X7_198 : Cond.methodLink RX7 198 yX2_boxesByLeak ∈ GB := gb_in (List.mem_append_right _ (List.mem_of_getElem? (i := 618) (by decide +kernel))) rfl
theorem im_X2_boxesByLeak : Cond.instanceMethod yX2_boxesByLeak ∈ GB := gb_in (List.mem_append_right _ (List.mem_of_getElem? (i := 619) (by decide +kernel))) rfl
theorem se_X2_boxesByLeak : Cond.selects RX2 yX2_boxesByLeak yX2_boxesByLeak ∈ GB := gb_in (List.mem_append_right _ (List.mem_of_getElem? (i := 620) (by decide +kernel))) rfl
theorem co_X2_boxesByLeak : Cond.code yX2_boxesByLeak cX2_boxesByLeak 5 (some .int) ∈ GB := gb_in (List.mem_append_right _ (List.mem_of_getElem? (i := 621) (by decide +kernel))) rfl
theorem ml_L_76 : Cond.methodLink RL 76 yX7_lostBy ∈ GB := gb_in (List.mem_append_right _ (List.mem_of_getElem? (i := 622) (by decide +kernel))) rfl
theorem im_X7_lostBy : Cond.instanceMethod yX7_lostBy ∈ GB := gb_in (List.mem_append_right _ (List.mem_of_getElem? (i := 623) (by decide +kernel))) rfl
theorem se_X7_lostBy : Cond.selects RX7 yX7_lostBy yX7_lostBy ∈ GB := gb_in (List.mem_append_right _ (List.mem_of_getElem? (i := 624) (by decide +kernel))) rfl
theorem co_X7_lostBy : Cond.code yX7_lostBy cX7_lostBy 3 (some .int) ∈ GB := gb_in (List.mem_append_right _ (List.mem_of_getElem? (i := 625) (by decide +kernel))) rfl
theorem ml_X7_202 : Cond.methodLink RX7 202 yX5_withAllBelow ∈ GB := gb_in (List.mem_append_right _ (List.mem_of_getElem? (i := 626) (by decide +kernel))) rfl
theorem ml_L_80 : Cond.methodLink RL 80 yX7_throwingMakes ∈ GB := gb_in (List.mem_append_right _ (List.mem_of_getElem? (i := 627) (by decide +kernel))) rfl
theorem im_X7_throwingMakes : Cond.instanceMethod yX7_throwingMakes ∈ GB := gb_in (List.mem_append_right _ (List.mem_of_getElem? (i := 628) (by decide +kernel))) rfl
theorem se_X7_throwingMakes : Cond.selects RX7 yX7_throwingMakes yX7_throwingMakes ∈ GB := gb_in (List.mem_append_right _ (List.mem_of_getElem? (i := 629) (by decide +kernel))) rfl
theorem co_X7_throwingMakes : Cond.code yX7_throwingMakes cX7_throwingMakes 3 (some .int) ∈ GB := gb_in (List.mem_append_right _ (List.mem_of_getElem? (i := 630) (by decide +kernel))) rfl
theorem ml_X7_205 : Cond.methodLink RX7 205 yX1_wrapsByThrowing ∈ GB := gb_in (List.mem_append_right _ (List.mem_of_getElem? (i := 631) (by decide +kernel))) rfl
theorem im_X1_wrapsByThrowing : Cond.instanceMethod yX1_wrapsByThrowing ∈ GB := gb_in (List.mem_append_right _ (List.mem_of_getElem? (i := 632) (by decide +kernel))) rfl
theorem se_X1_wrapsByThrowing : Cond.selects RX1 yX1_wrapsByThrowing yX1_wrapsByThrowing ∈ GB := gb_in (List.mem_append_right _ (List.mem_of_getElem? (i := 633) (by decide +kernel))) rfl
theorem co_X1_wrapsByThrowing : Cond.code yX1_wrapsByThrowing cX1_wrapsByThrowing 6 (some .int) ∈ GB := gb_in (List.mem_append_right _ (List.mem_of_getElem? (i := 634) (by decide +kernel))) rfl
theorem ml_L_84 : Cond.methodLink RL 84 yX7_mostWorn ∈ GB := gb_in (List.mem_append_right _ (List.mem_of_getElem? (i := 635) (by decide +kernel))) rfl
theorem im_X7_mostWorn : Cond.instanceMethod yX7_mostWorn ∈ GB := gb_in (List.mem_append_right _ (List.mem_of_getElem? (i := 636) (by decide +kernel))) rfl
theorem se_X7_mostWorn : Cond.selects RX7 yX7_mostWorn yX7_mostWorn ∈ GB := gb_in (List.mem_append_right _ (List.mem_of_getElem? (i := 637) (by decide +kernel))) rfl
theorem co_X7_mostWorn : Cond.code yX7_mostWorn cX7_mostWorn 3 (some .int) ∈ GB := gb_in (List.mem_append_right _ (List.mem_of_getElem? (i := 638) (by decide +kernel))) rfl
theorem ml_X7_208 : Cond.methodLink RX7 208 yX5_mostWornKey ∈ GB := gb_in (List.mem_append_right _ (List.mem_of_getElem? (i := 639) (by decide +kernel))) rfl
theorem im_X5_mostWornKey : Cond.instanceMethod yX5_mostWornKey ∈ GB := gb_in (List.mem_append_right _ (List.mem_of_getElem? (i := 640) (by decide +kernel))) rfl
theorem se_X5_mostWornKey : Cond.selects RX5 yX5_mostWornKey yX5_mostWornKey ∈ GB := gb_in (List.mem_append_right _ (List.mem_of_getElem? (i := 641) (by decide +kernel))) rfl
theorem co_X5_mostWornKey : Cond.code yX5_mostWornKey cX5_mostWornKey 3 (some .int) ∈ GB := gb_in (List.mem_append_right _ (List.mem_of_getElem? (i := 642) (by decide +kernel))) rfl
theorem ml_X7_211 : Cond.methodLink RX7 211 yX5_leftToClose ∈ GB := gb_in (List.mem_append_right _ (List.mem_of_getElem? (i := 643) (by decide +kernel))) rfl
theorem ml_L_90 : Cond.methodLink RL 90 yX7_put ∈ GB := gb_in (List.mem_append_right _ (List.mem_of_getElem? (i := 644) (by decide +kernel))) rfl
theorem im_X7_put : Cond.instanceMethod yX7_put ∈ GB := gb_in (List.mem_append_right _ (List.mem_of_getElem? (i := 645) (by decide +kernel))) rfl
theorem se_X7_put : Cond.selects RX7 yX7_put yX7_put ∈ GB := gb_in (List.mem_append_right _ (List.mem_of_getElem? (i := 646) (by decide +kernel))) rfl
theorem co_X7_put : Cond.code yX7_put cX7_put 3 (some .int) ∈ GB := gb_in (List.mem_append_right _ (List.mem_of_getElem? (i := 647) (by decide +kernel))) rfl
theorem ml_X7_214 : Cond.methodLink RX7 214 yX3_append ∈ GB := gb_in (List.mem_append_right _ (List.mem_of_getElem? (i := 648) (by decide +kernel))) rfl
theorem im_X3_append : Cond.instanceMethod yX3_append ∈ GB := gb_in (List.mem_append_right _ (List.mem_of_getElem? (i := 649) (by decide +kernel))) rfl
theorem se_X3_append : Cond.selects RX3 yX3_append yX3_append ∈ GB := gb_in (List.mem_append_right _ (List.mem_of_getElem? (i := 650) (by decide +kernel))) rfl
theorem co_X3_append : Cond.code yX3_append cX3_append 5 (some .int) ∈ GB := gb_in (List.mem_append_right _ (List.mem_of_getElem? (i := 651) (by decide +kernel))) rfl
theorem ml_X3_36 : Cond.methodLink RX3 36 yX3_charactersIn ∈ GB := gb_in (List.mem_append_right _ (List.mem_of_getElem? (i := 652) (by decide +kernel))) rfl
theorem st_X3_charactersIn : Cond.static yX3_charactersIn ∈ GB := gb_in (List.mem_append_right _ (List.mem_of_getElem? (i := 653) (by decide +kernel))) rfl
theorem co_X3_charactersIn : Cond.code yX3_charactersIn cX3_charactersIn 4 (some .int) ∈ GB := gb_in (List.mem_append_right _ (List.mem_of_getElem? (i := 654) (by decide +kernel))) rfl
theorem ml_X3_40 : Cond.methodLink RX3 40 yX3_signFromRight ∈ GB := gb_in (List.mem_append_right _ (List.mem_of_getElem? (i := 655) (by decide +kernel))) rfl
theorem st_X3_signFromRight : Cond.static yX3_signFromRight ∈ GB := gb_in (List.mem_append_right _ (List.mem_of_getElem? (i := 656) (by decide +kernel))) rfl
theorem co_X3_signFromRight : Cond.code yX3_signFromRight cX3_signFromRight 3 (some .int) ∈ GB := gb_in (List.mem_append_right _ (List.mem_of_getElem? (i := 657) (by decide +kernel))) rfl
theorem k_X3_48 : Cond.constantLong RX3 48 255 ∈ GB := gb_in (List.mem_append_right _ (List.mem_of_getElem? (i := 658) (by decide +kernel))) rfl
theorem ml_X3_44 : Cond.methodLink RX3 44 yX4_set ∈ GB := gb_in (List.mem_append_right _ (List.mem_of_getElem? (i := 659) (by decide +kernel))) rfl
theorem ml_L_95 : Cond.methodLink RL 95 yX7_wipe ∈ GB := gb_in (List.mem_append_right _ (List.mem_of_getElem? (i := 660) (by decide +kernel))) rfl
theorem im_X7_wipe : Cond.instanceMethod yX7_wipe ∈ GB := gb_in (List.mem_append_right _ (List.mem_of_getElem? (i := 661) (by decide +kernel))) rfl
theorem se_X7_wipe : Cond.selects RX7 yX7_wipe yX7_wipe ∈ GB := gb_in (List.mem_append_right _ (List.mem_of_getElem? (i := 662) (by decide +kernel))) rfl
theorem co_X7_wipe : Cond.code yX7_wipe cX7_wipe 1 (some .int) ∈ GB := gb_in (List.mem_append_right _ (List.mem_of_getElem? (i := 663) (by decide +kernel))) rfl
theorem ml_X7_218 : Cond.methodLink RX7 218 yX3_clear ∈ GB := gb_in (List.mem_append_right _ (List.mem_of_getElem? (i := 664) (by decide +kernel))) rfl
theorem im_X3_clear : Cond.instanceMethod yX3_clear ∈ GB := gb_in (List.mem_append_right _ (List.mem_of_getElem? (i := 665) (by decide +kernel))) rfl
theorem se_X3_clear : Cond.selects RX3 yX3_clear yX3_clear ∈ GB := gb_in (List.mem_append_right _ (List.mem_of_getElem? (i := 666) (by decide +kernel))) rfl
theorem co_X3_clear : Cond.code yX3_clear cX3_clear 2 (some .int) ∈ GB := gb_in (List.mem_append_right _ (List.mem_of_getElem? (i := 667) (by decide +kernel))) rfl
theorem ml_L_100 : Cond.methodLink RL 100 yX7_fault ∈ GB := gb_in (List.mem_append_right _ (List.mem_of_getElem? (i := 668) (by decide +kernel))) rfl
theorem im_X7_fault : Cond.instanceMethod yX7_fault ∈ GB := gb_in (List.mem_append_right _ (List.mem_of_getElem? (i := 669) (by decide +kernel))) rfl
theorem se_X7_fault : Cond.selects RX7 yX7_fault yX7_fault ∈ GB := gb_in (List.mem_append_right _ (List.mem_of_getElem? (i := 670) (by decide +kernel))) rfl
theorem co_X7_fault : Cond.code yX7_fault cX7_fault 1 (some .int) ∈ GB := gb_in (List.mem_append_right _ (List.mem_of_getElem? (i := 671) (by decide +kernel))) rfl
theorem ml_X7_221 : Cond.methodLink RX7 221 yX3_findFault ∈ GB := gb_in (List.mem_append_right _ (List.mem_of_getElem? (i := 672) (by decide +kernel))) rfl
theorem im_X3_findFault : Cond.instanceMethod yX3_findFault ∈ GB := gb_in (List.mem_append_right _ (List.mem_of_getElem? (i := 673) (by decide +kernel))) rfl
theorem se_X3_findFault : Cond.selects RX3 yX3_findFault yX3_findFault ∈ GB := gb_in (List.mem_append_right _ (List.mem_of_getElem? (i := 674) (by decide +kernel))) rfl
theorem co_X3_findFault : Cond.code yX3_findFault cX3_findFault 2 (some .int) ∈ GB := gb_in (List.mem_append_right _ (List.mem_of_getElem? (i := 675) (by decide +kernel))) rfl
theorem ml_X3_50 : Cond.methodLink RX3 50 yX3_startReading ∈ GB := gb_in (List.mem_append_right _ (List.mem_of_getElem? (i := 676) (by decide +kernel))) rfl
theorem im_X3_startReading : Cond.instanceMethod yX3_startReading ∈ GB := gb_in (List.mem_append_right _ (List.mem_of_getElem? (i := 677) (by decide +kernel))) rfl
theorem se_X3_startReading : Cond.selects RX3 yX3_startReading yX3_startReading ∈ GB := gb_in (List.mem_append_right _ (List.mem_of_getElem? (i := 678) (by decide +kernel))) rfl
theorem co_X3_startReading : Cond.code yX3_startReading cX3_startReading 1 none ∈ GB := gb_in (List.mem_append_right _ (List.mem_of_getElem? (i := 679) (by decide +kernel))) rfl
theorem ml_X3_53 : Cond.methodLink RX3 53 yX3_readNext ∈ GB := gb_in (List.mem_append_right _ (List.mem_of_getElem? (i := 680) (by decide +kernel))) rfl
theorem im_X3_readNext : Cond.instanceMethod yX3_readNext ∈ GB := gb_in (List.mem_append_right _ (List.mem_of_getElem? (i := 681) (by decide +kernel))) rfl
theorem se_X3_readNext : Cond.selects RX3 yX3_readNext yX3_readNext ∈ GB := gb_in (List.mem_append_right _ (List.mem_of_getElem? (i := 682) (by decide +kernel))) rfl
theorem co_X3_readNext : Cond.code yX3_readNext cX3_readNext 1 (some .boolean) ∈ GB := gb_in (List.mem_append_right _ (List.mem_of_getElem? (i := 683) (by decide +kernel))) rfl
theorem ml_X3_60 : Cond.methodLink RX3 60 yX3_skip ∈ GB := gb_in (List.mem_append_right _ (List.mem_of_getElem? (i := 684) (by decide +kernel))) rfl
theorem im_X3_skip : Cond.instanceMethod yX3_skip ∈ GB := gb_in (List.mem_append_right _ (List.mem_of_getElem? (i := 686) (by decide +kernel))) rfl
theorem co_X3_skip : Cond.code yX3_skip cX3_skip 3 (some .boolean) ∈ GB := gb_in (List.mem_append_right _ (List.mem_of_getElem? (i := 687) (by decide +kernel))) rfl
theorem ml_X3_67 : Cond.methodLink RX3 67 yX3_nextSign ∈ GB := gb_in (List.mem_append_right _ (List.mem_of_getElem? (i := 688) (by decide +kernel))) rfl
theorem im_X3_nextSign : Cond.instanceMethod yX3_nextSign ∈ GB := gb_in (List.mem_append_right _ (List.mem_of_getElem? (i := 690) (by decide +kernel))) rfl
theorem co_X3_nextSign : Cond.code yX3_nextSign cX3_nextSign 1 (some .int) ∈ GB := gb_in (List.mem_append_right _ (List.mem_of_getElem? (i := 691) (by decide +kernel))) rfl
theorem ml_X3_57 : Cond.methodLink RX3 57 yX3_hasMore ∈ GB := gb_in (List.mem_append_right _ (List.mem_of_getElem? (i := 692) (by decide +kernel))) rfl
theorem im_X3_hasMore : Cond.instanceMethod yX3_hasMore ∈ GB := gb_in (List.mem_append_right _ (List.mem_of_getElem? (i := 693) (by decide +kernel))) rfl
theorem se_X3_hasMore : Cond.selects RX3 yX3_hasMore yX3_hasMore ∈ GB := gb_in (List.mem_append_right _ (List.mem_of_getElem? (i := 694) (by decide +kernel))) rfl
theorem co_X3_hasMore : Cond.code yX3_hasMore cX3_hasMore 1 (some .boolean) ∈ GB := gb_in (List.mem_append_right _ (List.mem_of_getElem? (i := 695) (by decide +kernel))) rfl
theorem ml_X3_84 : Cond.methodLink RX3 84 yX4_at ∈ GB := gb_in (List.mem_append_right _ (List.mem_of_getElem? (i := 696) (by decide +kernel))) rfl
theorem ml_X3_64 : Cond.methodLink RX3 64 yX3_readOrder ∈ GB := gb_in (List.mem_append_right _ (List.mem_of_getElem? (i := 697) (by decide +kernel))) rfl
theorem im_X3_readOrder : Cond.instanceMethod yX3_readOrder ∈ GB := gb_in (List.mem_append_right _ (List.mem_of_getElem? (i := 699) (by decide +kernel))) rfl
theorem co_X3_readOrder : Cond.code yX3_readOrder cX3_readOrder 1 (some .boolean) ∈ GB := gb_in (List.mem_append_right _ (List.mem_of_getElem? (i := 700) (by decide +kernel))) rfl
theorem ml_X3_71 : Cond.methodLink RX3 71 yX3_isLetter ∈ GB := gb_in (List.mem_append_right _ (List.mem_of_getElem? (i := 701) (by decide +kernel))) rfl
theorem st_X3_isLetter : Cond.static yX3_isLetter ∈ GB := gb_in (List.mem_append_right _ (List.mem_of_getElem? (i := 702) (by decide +kernel))) rfl
theorem co_X3_isLetter : Cond.code yX3_isLetter cX3_isLetter 1 (some .boolean) ∈ GB := gb_in (List.mem_append_right _ (List.mem_of_getElem? (i := 703) (by decide +kernel))) rfl
theorem ml_X3_74 : Cond.methodLink RX3 74 yX3_readNumber ∈ GB := gb_in (List.mem_append_right _ (List.mem_of_getElem? (i := 704) (by decide +kernel))) rfl
theorem im_X3_readNumber : Cond.instanceMethod yX3_readNumber ∈ GB := gb_in (List.mem_append_right _ (List.mem_of_getElem? (i := 706) (by decide +kernel))) rfl
theorem co_X3_readNumber : Cond.code yX3_readNumber cX3_readNumber 3 (some .boolean) ∈ GB := gb_in (List.mem_append_right _ (List.mem_of_getElem? (i := 707) (by decide +kernel))) rfl
theorem ml_X3_80 : Cond.methodLink RX3 80 yX3_isDigit ∈ GB := gb_in (List.mem_append_right _ (List.mem_of_getElem? (i := 708) (by decide +kernel))) rfl
theorem st_X3_isDigit : Cond.static yX3_isDigit ∈ GB := gb_in (List.mem_append_right _ (List.mem_of_getElem? (i := 709) (by decide +kernel))) rfl
theorem co_X3_isDigit : Cond.code yX3_isDigit cX3_isDigit 2 (some .boolean) ∈ GB := gb_in (List.mem_append_right _ (List.mem_of_getElem? (i := 710) (by decide +kernel))) rfl
theorem ml_X3_77 : Cond.methodLink RX3 77 yX3_readPlace ∈ GB := gb_in (List.mem_append_right _ (List.mem_of_getElem? (i := 711) (by decide +kernel))) rfl
theorem im_X3_readPlace : Cond.instanceMethod yX3_readPlace ∈ GB := gb_in (List.mem_append_right _ (List.mem_of_getElem? (i := 713) (by decide +kernel))) rfl
theorem co_X3_readPlace : Cond.code yX3_readPlace cX3_readPlace 1 (some .boolean) ∈ GB := gb_in (List.mem_append_right _ (List.mem_of_getElem? (i := 714) (by decide +kernel))) rfl
theorem ml_L_104 : Cond.methodLink RL 104 yX7_carryOut ∈ GB := gb_in (List.mem_append_right _ (List.mem_of_getElem? (i := 715) (by decide +kernel))) rfl
theorem im_X7_carryOut : Cond.instanceMethod yX7_carryOut ∈ GB := gb_in (List.mem_append_right _ (List.mem_of_getElem? (i := 716) (by decide +kernel))) rfl
theorem se_X7_carryOut : Cond.selects RX7 yX7_carryOut yX7_carryOut ∈ GB := gb_in (List.mem_append_right _ (List.mem_of_getElem? (i := 717) (by decide +kernel))) rfl
theorem co_X7_carryOut : Cond.code yX7_carryOut cX7_carryOut 2 (some .int) ∈ GB := gb_in (List.mem_append_right _ (List.mem_of_getElem? (i := 718) (by decide +kernel))) rfl
theorem ml_X7_224 : Cond.methodLink RX7 224 yX3_startReading ∈ GB := gb_in (List.mem_append_right _ (List.mem_of_getElem? (i := 719) (by decide +kernel))) rfl
theorem ml_X7_227 : Cond.methodLink RX7 227 yX3_hasMore ∈ GB := gb_in (List.mem_append_right _ (List.mem_of_getElem? (i := 720) (by decide +kernel))) rfl
theorem ml_X7_231 : Cond.methodLink RX7 231 yX3_readNext ∈ GB := gb_in (List.mem_append_right _ (List.mem_of_getElem? (i := 721) (by decide +kernel))) rfl
theorem ml_X7_234 : Cond.methodLink RX7 234 yX7_carryOutOrder ∈ GB := gb_in (List.mem_append_right _ (List.mem_of_getElem? (i := 722) (by decide +kernel))) rfl
theorem im_X7_carryOutOrder : Cond.instanceMethod yX7_carryOutOrder ∈ GB := gb_in (List.mem_append_right _ (List.mem_of_getElem? (i := 724) (by decide +kernel))) rfl
theorem co_X7_carryOutOrder : Cond.code yX7_carryOutOrder cX7_carryOutOrder 1 (some .int) ∈ GB := gb_in (List.mem_append_right _ (List.mem_of_getElem? (i := 725) (by decide +kernel))) rfl
theorem ml_L_108 : Cond.methodLink RL 108 yX7_undo ∈ GB := gb_in (List.mem_append_right _ (List.mem_of_getElem? (i := 726) (by decide +kernel))) rfl
theorem im_X7_undo : Cond.instanceMethod yX7_undo ∈ GB := gb_in (List.mem_append_right _ (List.mem_of_getElem? (i := 727) (by decide +kernel))) rfl
theorem se_X7_undo : Cond.selects RX7 yX7_undo yX7_undo ∈ GB := gb_in (List.mem_append_right _ (List.mem_of_getElem? (i := 728) (by decide +kernel))) rfl
theorem co_X7_undo : Cond.code yX7_undo cX7_undo 1 (some .int) ∈ GB := gb_in (List.mem_append_right _ (List.mem_of_getElem? (i := 729) (by decide +kernel))) rfl
theorem ml_X7_246 : Cond.methodLink RX7 246 yX0_stepBack ∈ GB := gb_in (List.mem_append_right _ (List.mem_of_getElem? (i := 730) (by decide +kernel))) rfl
theorem im_X0_stepBack : Cond.instanceMethod yX0_stepBack ∈ GB := gb_in (List.mem_append_right _ (List.mem_of_getElem? (i := 731) (by decide +kernel))) rfl
theorem se_X0_stepBack : Cond.selects RX0 yX0_stepBack yX0_stepBack ∈ GB := gb_in (List.mem_append_right _ (List.mem_of_getElem? (i := 732) (by decide +kernel))) rfl
theorem co_X0_stepBack : Cond.code yX0_stepBack cX0_stepBack 2 (some .int) ∈ GB := gb_in (List.mem_append_right _ (List.mem_of_getElem? (i := 733) (by decide +kernel))) rfl
theorem ml_L_112 : Cond.methodLink RL 112 yX7_save ∈ GB := gb_in (List.mem_append_right _ (List.mem_of_getElem? (i := 734) (by decide +kernel))) rfl
theorem im_X7_save : Cond.instanceMethod yX7_save ∈ GB := gb_in (List.mem_append_right _ (List.mem_of_getElem? (i := 735) (by decide +kernel))) rfl
theorem se_X7_save : Cond.selects RX7 yX7_save yX7_save ∈ GB := gb_in (List.mem_append_right _ (List.mem_of_getElem? (i := 736) (by decide +kernel))) rfl
theorem co_X7_save : Cond.code yX7_save cX7_save 3 (some .int) ∈ GB := gb_in (List.mem_append_right _ (List.mem_of_getElem? (i := 737) (by decide +kernel))) rfl
theorem ml_X7_250 : Cond.methodLink RX7 250 yX1_become ∈ GB := gb_in (List.mem_append_right _ (List.mem_of_getElem? (i := 738) (by decide +kernel))) rfl
theorem ml_L_116 : Cond.methodLink RL 116 yX7_restore ∈ GB := gb_in (List.mem_append_right _ (List.mem_of_getElem? (i := 739) (by decide +kernel))) rfl
theorem im_X7_restore : Cond.instanceMethod yX7_restore ∈ GB := gb_in (List.mem_append_right _ (List.mem_of_getElem? (i := 740) (by decide +kernel))) rfl
theorem se_X7_restore : Cond.selects RX7 yX7_restore yX7_restore ∈ GB := gb_in (List.mem_append_right _ (List.mem_of_getElem? (i := 741) (by decide +kernel))) rfl
theorem co_X7_restore : Cond.code yX7_restore cX7_restore 3 (some .int) ∈ GB := gb_in (List.mem_append_right _ (List.mem_of_getElem? (i := 742) (by decide +kernel))) rfl
theorem cl_L_10 : Cond.classLink RL 10 RX8 ∈ GB := gb_in (List.mem_append_right _ (List.mem_of_getElem? (i := 743) (by decide +kernel))) rfl
theorem ia_X8 : Cond.instantiable RX8 12 ∈ GB := gb_in (List.mem_append_right _ (List.mem_of_getElem? (i := 744) (by decide +kernel))) rfl
theorem ml_L_12 : Cond.methodLink RL 12 yX8_init ∈ GB := gb_in (List.mem_append_right _ (List.mem_of_getElem? (i := 745) (by decide +kernel))) rfl
theorem im_X8_init : Cond.instanceMethod yX8_init ∈ GB := gb_in (List.mem_append_right _ (List.mem_of_getElem? (i := 746) (by decide +kernel))) rfl
theorem co_X8_init : Cond.code yX8_init cX8_init 1 none ∈ GB := gb_in (List.mem_append_right _ (List.mem_of_getElem? (i := 747) (by decide +kernel))) rfl
theorem ml_X8_1 : Cond.methodLink RX8 1 ⟨"java/lang/Object", "<init>", "()V"⟩ ∈ GB := gb_in (List.mem_append_right _ (List.mem_of_getElem? (i := 748) (by decide +kernel))) rfl
theorem fl_X8_7 : Cond.fieldLink RX8 7 "HangingKeysModel" "state" "[I" ∈ GB := gb_in (List.mem_append_right _ (List.mem_of_getElem? (i := 749) (by decide +kernel))) rfl
theorem fl_X8_13 : Cond.fieldLink RX8 13 "HangingKeysModel" "history" "[I" ∈ GB := gb_in (List.mem_append_right _ (List.mem_of_getElem? (i := 750) (by decide +kernel))) rfl
theorem fl_X8_28 : Cond.fieldLink RX8 28 "HangingKeysModel" "recorded" "I" ∈ GB := gb_in (List.mem_append_right _ (List.mem_of_getElem? (i := 751) (by decide +kernel))) rfl
theorem fl_X8_16 : Cond.fieldLink RX8 16 "HangingKeysModel" "slots" "[I" ∈ GB := gb_in (List.mem_append_right _ (List.mem_of_getElem? (i := 752) (by decide +kernel))) rfl
theorem fl_X8_19 : Cond.fieldLink RX8 19 "HangingKeysModel" "isSaved" "[I" ∈ GB := gb_in (List.mem_append_right _ (List.mem_of_getElem? (i := 753) (by decide +kernel))) rfl
theorem fl_X8_22 : Cond.fieldLink RX8 22 "HangingKeysModel" "pad" "[I" ∈ GB := gb_in (List.mem_append_right _ (List.mem_of_getElem? (i := 754) (by decide +kernel))) rfl
theorem fl_X8_204 : Cond.fieldLink RX8 204 "HangingKeysModel" "padLength" "I" ∈ GB := gb_in (List.mem_append_right _ (List.mem_of_getElem? (i := 755) (by decide +kernel))) rfl
theorem fl_X8_25 : Cond.fieldLink RX8 25 "HangingKeysModel" "opened" "[I" ∈ GB := gb_in (List.mem_append_right _ (List.mem_of_getElem? (i := 756) (by decide +kernel))) rfl
theorem fl_X8_215 : Cond.fieldLink RX8 215 "HangingKeysModel" "at" "I" ∈ GB := gb_in (List.mem_append_right _ (List.mem_of_getElem? (i := 757) (by decide +kernel))) rfl
theorem fl_X8_221 : Cond.fieldLink RX8 221 "HangingKeysModel" "letter" "I" ∈ GB := gb_in (List.mem_append_right _ (List.mem_of_getElem? (i := 758) (by decide +kernel))) rfl
theorem fl_X8_230 : Cond.fieldLink RX8 230 "HangingKeysModel" "first" "I" ∈ GB := gb_in (List.mem_append_right _ (List.mem_of_getElem? (i := 759) (by decide +kernel))) rfl
theorem fl_X8_236 : Cond.fieldLink RX8 236 "HangingKeysModel" "second" "I" ∈ GB := gb_in (List.mem_append_right _ (List.mem_of_getElem? (i := 760) (by decide +kernel))) rfl
theorem ml_L_17 : Cond.methodLink RL 17 yX8_wear ∈ GB := gb_in (List.mem_append_right _ (List.mem_of_getElem? (i := 786) (by decide +kernel))) rfl
theorem im_X8_wear : Cond.instanceMethod yX8_wear ∈ GB := gb_in (List.mem_append_right _ (List.mem_of_getElem? (i := 787) (by decide +kernel))) rfl
theorem se_X8_wear : Cond.selects RX8 yX8_wear yX8_wear ∈ GB := gb_in (List.mem_append_right _ (List.mem_of_getElem? (i := 788) (by decide +kernel))) rfl
theorem co_X8_wear : Cond.code yX8_wear cX8_wear 3 (some .int) ∈ GB := gb_in (List.mem_append_right _ (List.mem_of_getElem? (i := 789) (by decide +kernel))) rfl
theorem ml_X8_36 : Cond.methodLink RX8 36 yX8_within ∈ GB := gb_in (List.mem_append_right _ (List.mem_of_getElem? (i := 790) (by decide +kernel))) rfl
theorem st_X8_within : Cond.static yX8_within ∈ GB := gb_in (List.mem_append_right _ (List.mem_of_getElem? (i := 791) (by decide +kernel))) rfl
theorem co_X8_within : Cond.code yX8_within cX8_within 3 (some .boolean) ∈ GB := gb_in (List.mem_append_right _ (List.mem_of_getElem? (i := 792) (by decide +kernel))) rfl
theorem ml_X8_102 : Cond.methodLink RX8 102 yX8_record ∈ GB := gb_in (List.mem_append_right _ (List.mem_of_getElem? (i := 793) (by decide +kernel))) rfl
theorem im_X8_record : Cond.instanceMethod yX8_record ∈ GB := gb_in (List.mem_append_right _ (List.mem_of_getElem? (i := 795) (by decide +kernel))) rfl
theorem co_X8_record : Cond.code yX8_record cX8_record 2 none ∈ GB := gb_in (List.mem_append_right _ (List.mem_of_getElem? (i := 796) (by decide +kernel))) rfl
theorem ml_X8_32 : Cond.methodLink RX8 32 yX8_moves ∈ GB := gb_in (List.mem_append_right _ (List.mem_of_getElem? (i := 797) (by decide +kernel))) rfl
theorem st_X8_moves : Cond.static yX8_moves ∈ GB := gb_in (List.mem_append_right _ (List.mem_of_getElem? (i := 798) (by decide +kernel))) rfl
theorem co_X8_moves : Cond.code yX8_moves cX8_moves 5 none ∈ GB := gb_in (List.mem_append_right _ (List.mem_of_getElem? (i := 799) (by decide +kernel))) rfl
theorem ml_L_21 : Cond.methodLink RL 21 yX8_key ∈ GB := gb_in (List.mem_append_right _ (List.mem_of_getElem? (i := 800) (by decide +kernel))) rfl
theorem im_X8_key : Cond.instanceMethod yX8_key ∈ GB := gb_in (List.mem_append_right _ (List.mem_of_getElem? (i := 801) (by decide +kernel))) rfl
theorem se_X8_key : Cond.selects RX8 yX8_key yX8_key ∈ GB := gb_in (List.mem_append_right _ (List.mem_of_getElem? (i := 802) (by decide +kernel))) rfl
theorem co_X8_key : Cond.code yX8_key cX8_key 3 (some .int) ∈ GB := gb_in (List.mem_append_right _ (List.mem_of_getElem? (i := 803) (by decide +kernel))) rfl
theorem ml_X8_111 : Cond.methodLink RX8 111 yX8_whyNoKey ∈ GB := gb_in (List.mem_append_right _ (List.mem_of_getElem? (i := 804) (by decide +kernel))) rfl
theorem im_X8_whyNoKey : Cond.instanceMethod yX8_whyNoKey ∈ GB := gb_in (List.mem_append_right _ (List.mem_of_getElem? (i := 806) (by decide +kernel))) rfl
theorem co_X8_whyNoKey : Cond.code yX8_whyNoKey cX8_whyNoKey 2 (some .int) ∈ GB := gb_in (List.mem_append_right _ (List.mem_of_getElem? (i := 807) (by decide +kernel))) rfl
theorem ml_X8_105 : Cond.methodLink RX8 105 yX8_isLiveKey ∈ GB := gb_in (List.mem_append_right _ (List.mem_of_getElem? (i := 808) (by decide +kernel))) rfl
theorem im_X8_isLiveKey : Cond.instanceMethod yX8_isLiveKey ∈ GB := gb_in (List.mem_append_right _ (List.mem_of_getElem? (i := 810) (by decide +kernel))) rfl
theorem co_X8_isLiveKey : Cond.code yX8_isLiveKey cX8_isLiveKey 2 (some .boolean) ∈ GB := gb_in (List.mem_append_right _ (List.mem_of_getElem? (i := 811) (by decide +kernel))) rfl
theorem ml_X8_40 : Cond.methodLink RX8 40 yX8_isKey ∈ GB := gb_in (List.mem_append_right _ (List.mem_of_getElem? (i := 812) (by decide +kernel))) rfl
theorem im_X8_isKey : Cond.instanceMethod yX8_isKey ∈ GB := gb_in (List.mem_append_right _ (List.mem_of_getElem? (i := 814) (by decide +kernel))) rfl
theorem co_X8_isKey : Cond.code yX8_isKey cX8_isKey 2 (some .boolean) ∈ GB := gb_in (List.mem_append_right _ (List.mem_of_getElem? (i := 815) (by decide +kernel))) rfl
theorem ml_X8_44 : Cond.methodLink RX8 44 yX8_keyPart ∈ GB := gb_in (List.mem_append_right _ (List.mem_of_getElem? (i := 816) (by decide +kernel))) rfl
theorem im_X8_keyPart : Cond.instanceMethod yX8_keyPart ∈ GB := gb_in (List.mem_append_right _ (List.mem_of_getElem? (i := 818) (by decide +kernel))) rfl
theorem co_X8_keyPart : Cond.code yX8_keyPart cX8_keyPart 3 (some .int) ∈ GB := gb_in (List.mem_append_right _ (List.mem_of_getElem? (i := 819) (by decide +kernel))) rfl
theorem ml_X8_108 : Cond.methodLink RX8 108 yX8_canClose ∈ GB := gb_in (List.mem_append_right _ (List.mem_of_getElem? (i := 820) (by decide +kernel))) rfl
theorem im_X8_canClose : Cond.instanceMethod yX8_canClose ∈ GB := gb_in (List.mem_append_right _ (List.mem_of_getElem? (i := 822) (by decide +kernel))) rfl
theorem co_X8_canClose : Cond.code yX8_canClose cX8_canClose 2 (some .boolean) ∈ GB := gb_in (List.mem_append_right _ (List.mem_of_getElem? (i := 823) (by decide +kernel))) rfl
theorem ml_X8_114 : Cond.methodLink RX8 114 yX8_makeKey ∈ GB := gb_in (List.mem_append_right _ (List.mem_of_getElem? (i := 824) (by decide +kernel))) rfl
theorem im_X8_makeKey : Cond.instanceMethod yX8_makeKey ∈ GB := gb_in (List.mem_append_right _ (List.mem_of_getElem? (i := 826) (by decide +kernel))) rfl
theorem co_X8_makeKey : Cond.code yX8_makeKey cX8_makeKey 3 (some .int) ∈ GB := gb_in (List.mem_append_right _ (List.mem_of_getElem? (i := 827) (by decide +kernel))) rfl
theorem ml_X8_68 : Cond.methodLink RX8 68 yX8_setKey ∈ GB := gb_in (List.mem_append_right _ (List.mem_of_getElem? (i := 828) (by decide +kernel))) rfl
theorem im_X8_setKey : Cond.instanceMethod yX8_setKey ∈ GB := gb_in (List.mem_append_right _ (List.mem_of_getElem? (i := 830) (by decide +kernel))) rfl
theorem co_X8_setKey : Cond.code yX8_setKey cX8_setKey 4 none ∈ GB := gb_in (List.mem_append_right _ (List.mem_of_getElem? (i := 831) (by decide +kernel))) rfl
theorem ml_X8_74 : Cond.methodLink RX8 74 yX8_wrapKey ∈ GB := gb_in (List.mem_append_right _ (List.mem_of_getElem? (i := 832) (by decide +kernel))) rfl
theorem im_X8_wrapKey : Cond.instanceMethod yX8_wrapKey ∈ GB := gb_in (List.mem_append_right _ (List.mem_of_getElem? (i := 834) (by decide +kernel))) rfl
theorem co_X8_wrapKey : Cond.code yX8_wrapKey cX8_wrapKey 2 none ∈ GB := gb_in (List.mem_append_right _ (List.mem_of_getElem? (i := 835) (by decide +kernel))) rfl
theorem ml_X8_71 : Cond.methodLink RX8 71 yX8_makeWrap ∈ GB := gb_in (List.mem_append_right _ (List.mem_of_getElem? (i := 836) (by decide +kernel))) rfl
theorem im_X8_makeWrap : Cond.instanceMethod yX8_makeWrap ∈ GB := gb_in (List.mem_append_right _ (List.mem_of_getElem? (i := 838) (by decide +kernel))) rfl
theorem co_X8_makeWrap : Cond.code yX8_makeWrap cX8_makeWrap 5 none ∈ GB := gb_in (List.mem_append_right _ (List.mem_of_getElem? (i := 839) (by decide +kernel))) rfl
theorem ml_X8_64 : Cond.methodLink RX8 64 yX8_setWrap ∈ GB := gb_in (List.mem_append_right _ (List.mem_of_getElem? (i := 840) (by decide +kernel))) rfl
theorem im_X8_setWrap : Cond.instanceMethod yX8_setWrap ∈ GB := gb_in (List.mem_append_right _ (List.mem_of_getElem? (i := 842) (by decide +kernel))) rfl
theorem co_X8_setWrap : Cond.code yX8_setWrap cX8_setWrap 4 none ∈ GB := gb_in (List.mem_append_right _ (List.mem_of_getElem? (i := 843) (by decide +kernel))) rfl
theorem ml_L_25 : Cond.methodLink RL 25 yX8_box ∈ GB := gb_in (List.mem_append_right _ (List.mem_of_getElem? (i := 844) (by decide +kernel))) rfl
theorem im_X8_box : Cond.instanceMethod yX8_box ∈ GB := gb_in (List.mem_append_right _ (List.mem_of_getElem? (i := 845) (by decide +kernel))) rfl
theorem se_X8_box : Cond.selects RX8 yX8_box yX8_box ∈ GB := gb_in (List.mem_append_right _ (List.mem_of_getElem? (i := 846) (by decide +kernel))) rfl
theorem co_X8_box : Cond.code yX8_box cX8_box 3 (some .int) ∈ GB := gb_in (List.mem_append_right _ (List.mem_of_getElem? (i := 847) (by decide +kernel))) rfl
theorem ml_X8_120 : Cond.methodLink RX8 120 yX8_whyNoBox ∈ GB := gb_in (List.mem_append_right _ (List.mem_of_getElem? (i := 848) (by decide +kernel))) rfl
theorem im_X8_whyNoBox : Cond.instanceMethod yX8_whyNoBox ∈ GB := gb_in (List.mem_append_right _ (List.mem_of_getElem? (i := 850) (by decide +kernel))) rfl
theorem co_X8_whyNoBox : Cond.code yX8_whyNoBox cX8_whyNoBox 2 (some .int) ∈ GB := gb_in (List.mem_append_right _ (List.mem_of_getElem? (i := 851) (by decide +kernel))) rfl
theorem ml_X8_123 : Cond.methodLink RX8 123 yX8_makeBox ∈ GB := gb_in (List.mem_append_right _ (List.mem_of_getElem? (i := 852) (by decide +kernel))) rfl
theorem im_X8_makeBox : Cond.instanceMethod yX8_makeBox ∈ GB := gb_in (List.mem_append_right _ (List.mem_of_getElem? (i := 854) (by decide +kernel))) rfl
theorem co_X8_makeBox : Cond.code yX8_makeBox cX8_makeBox 3 (some .int) ∈ GB := gb_in (List.mem_append_right _ (List.mem_of_getElem? (i := 855) (by decide +kernel))) rfl
theorem ml_X8_117 : Cond.methodLink RX8 117 yX8_setBox ∈ GB := gb_in (List.mem_append_right _ (List.mem_of_getElem? (i := 856) (by decide +kernel))) rfl
theorem im_X8_setBox : Cond.instanceMethod yX8_setBox ∈ GB := gb_in (List.mem_append_right _ (List.mem_of_getElem? (i := 858) (by decide +kernel))) rfl
theorem co_X8_setBox : Cond.code yX8_setBox cX8_setBox 4 none ∈ GB := gb_in (List.mem_append_right _ (List.mem_of_getElem? (i := 859) (by decide +kernel))) rfl
theorem ml_X8_78 : Cond.methodLink RX8 78 yX8_wrapBox ∈ GB := gb_in (List.mem_append_right _ (List.mem_of_getElem? (i := 860) (by decide +kernel))) rfl
theorem im_X8_wrapBox : Cond.instanceMethod yX8_wrapBox ∈ GB := gb_in (List.mem_append_right _ (List.mem_of_getElem? (i := 862) (by decide +kernel))) rfl
theorem co_X8_wrapBox : Cond.code yX8_wrapBox cX8_wrapBox 2 none ∈ GB := gb_in (List.mem_append_right _ (List.mem_of_getElem? (i := 863) (by decide +kernel))) rfl
theorem ml_X8_51 : Cond.methodLink RX8 51 yX8_boxPart ∈ GB := gb_in (List.mem_append_right _ (List.mem_of_getElem? (i := 864) (by decide +kernel))) rfl
theorem im_X8_boxPart : Cond.instanceMethod yX8_boxPart ∈ GB := gb_in (List.mem_append_right _ (List.mem_of_getElem? (i := 866) (by decide +kernel))) rfl
theorem co_X8_boxPart : Cond.code yX8_boxPart cX8_boxPart 3 (some .int) ∈ GB := gb_in (List.mem_append_right _ (List.mem_of_getElem? (i := 867) (by decide +kernel))) rfl
theorem ml_L_30 : Cond.methodLink RL 30 yX8_copy ∈ GB := gb_in (List.mem_append_right _ (List.mem_of_getElem? (i := 868) (by decide +kernel))) rfl
theorem im_X8_copy : Cond.instanceMethod yX8_copy ∈ GB := gb_in (List.mem_append_right _ (List.mem_of_getElem? (i := 869) (by decide +kernel))) rfl
theorem se_X8_copy : Cond.selects RX8 yX8_copy yX8_copy ∈ GB := gb_in (List.mem_append_right _ (List.mem_of_getElem? (i := 870) (by decide +kernel))) rfl
theorem co_X8_copy : Cond.code yX8_copy cX8_copy 4 (some .int) ∈ GB := gb_in (List.mem_append_right _ (List.mem_of_getElem? (i := 871) (by decide +kernel))) rfl
theorem ml_X8_126 : Cond.methodLink RX8 126 yX8_whyNoCopy ∈ GB := gb_in (List.mem_append_right _ (List.mem_of_getElem? (i := 872) (by decide +kernel))) rfl
theorem im_X8_whyNoCopy : Cond.instanceMethod yX8_whyNoCopy ∈ GB := gb_in (List.mem_append_right _ (List.mem_of_getElem? (i := 874) (by decide +kernel))) rfl
theorem co_X8_whyNoCopy : Cond.code yX8_whyNoCopy cX8_whyNoCopy 3 (some .int) ∈ GB := gb_in (List.mem_append_right _ (List.mem_of_getElem? (i := 875) (by decide +kernel))) rfl
theorem ml_X8_81 : Cond.methodLink RX8 81 yX8_wrapPart ∈ GB := gb_in (List.mem_append_right _ (List.mem_of_getElem? (i := 876) (by decide +kernel))) rfl
theorem im_X8_wrapPart : Cond.instanceMethod yX8_wrapPart ∈ GB := gb_in (List.mem_append_right _ (List.mem_of_getElem? (i := 878) (by decide +kernel))) rfl
theorem co_X8_wrapPart : Cond.code yX8_wrapPart cX8_wrapPart 3 (some .int) ∈ GB := gb_in (List.mem_append_right _ (List.mem_of_getElem? (i := 879) (by decide +kernel))) rfl
theorem ml_X8_129 : Cond.methodLink RX8 129 yX8_copied ∈ GB := gb_in (List.mem_append_right _ (List.mem_of_getElem? (i := 880) (by decide +kernel))) rfl
theorem im_X8_copied : Cond.instanceMethod yX8_copied ∈ GB := gb_in (List.mem_append_right _ (List.mem_of_getElem? (i := 882) (by decide +kernel))) rfl
theorem co_X8_copied : Cond.code yX8_copied cX8_copied 5 (some .int) ∈ GB := gb_in (List.mem_append_right _ (List.mem_of_getElem? (i := 883) (by decide +kernel))) rfl
theorem ml_L_34 : Cond.methodLink RL 34 yX8_renew ∈ GB := gb_in (List.mem_append_right _ (List.mem_of_getElem? (i := 884) (by decide +kernel))) rfl
theorem im_X8_renew : Cond.instanceMethod yX8_renew ∈ GB := gb_in (List.mem_append_right _ (List.mem_of_getElem? (i := 885) (by decide +kernel))) rfl
theorem se_X8_renew : Cond.selects RX8 yX8_renew yX8_renew ∈ GB := gb_in (List.mem_append_right _ (List.mem_of_getElem? (i := 886) (by decide +kernel))) rfl
theorem co_X8_renew : Cond.code yX8_renew cX8_renew 3 (some .int) ∈ GB := gb_in (List.mem_append_right _ (List.mem_of_getElem? (i := 887) (by decide +kernel))) rfl
theorem ml_X8_147 : Cond.methodLink RX8 147 yX8_whyNotRenewed ∈ GB := gb_in (List.mem_append_right _ (List.mem_of_getElem? (i := 888) (by decide +kernel))) rfl
theorem im_X8_whyNotRenewed : Cond.instanceMethod yX8_whyNotRenewed ∈ GB := gb_in (List.mem_append_right _ (List.mem_of_getElem? (i := 890) (by decide +kernel))) rfl
theorem co_X8_whyNotRenewed : Cond.code yX8_whyNotRenewed cX8_whyNotRenewed 2 (some .int) ∈ GB := gb_in (List.mem_append_right _ (List.mem_of_getElem? (i := 891) (by decide +kernel))) rfl
theorem ml_X8_135 : Cond.methodLink RX8 135 yX8_renewMakes ∈ GB := gb_in (List.mem_append_right _ (List.mem_of_getElem? (i := 892) (by decide +kernel))) rfl
theorem im_X8_renewMakes : Cond.instanceMethod yX8_renewMakes ∈ GB := gb_in (List.mem_append_right _ (List.mem_of_getElem? (i := 894) (by decide +kernel))) rfl
theorem co_X8_renewMakes : Cond.code yX8_renewMakes cX8_renewMakes 2 (some .int) ∈ GB := gb_in (List.mem_append_right _ (List.mem_of_getElem? (i := 895) (by decide +kernel))) rfl
theorem ml_X8_132 : Cond.methodLink RX8 132 yX8_hangingFrom ∈ GB := gb_in (List.mem_append_right _ (List.mem_of_getElem? (i := 896) (by decide +kernel))) rfl
theorem im_X8_hangingFrom : Cond.instanceMethod yX8_hangingFrom ∈ GB := gb_in (List.mem_append_right _ (List.mem_of_getElem? (i := 898) (by decide +kernel))) rfl
theorem co_X8_hangingFrom : Cond.code yX8_hangingFrom cX8_hangingFrom 2 (some .int) ∈ GB := gb_in (List.mem_append_right _ (List.mem_of_getElem? (i := 899) (by decide +kernel))) rfl
theorem ml_X8_54 : Cond.methodLink RX8 54 yX8_hangingKeys ∈ GB := gb_in (List.mem_append_right _ (List.mem_of_getElem? (i := 900) (by decide +kernel))) rfl
theorem im_X8_hangingKeys : Cond.instanceMethod yX8_hangingKeys ∈ GB := gb_in (List.mem_append_right _ (List.mem_of_getElem? (i := 902) (by decide +kernel))) rfl
theorem co_X8_hangingKeys : Cond.code yX8_hangingKeys cX8_hangingKeys 4 (some .int) ∈ GB := gb_in (List.mem_append_right _ (List.mem_of_getElem? (i := 903) (by decide +kernel))) rfl
theorem ml_X8_58 : Cond.methodLink RX8 58 yX8_bits ∈ GB := gb_in (List.mem_append_right _ (List.mem_of_getElem? (i := 904) (by decide +kernel))) rfl
theorem st_X8_bits : Cond.static yX8_bits ∈ GB := gb_in (List.mem_append_right _ (List.mem_of_getElem? (i := 905) (by decide +kernel))) rfl
theorem co_X8_bits : Cond.code yX8_bits cX8_bits 3 (some .int) ∈ GB := gb_in (List.mem_append_right _ (List.mem_of_getElem? (i := 906) (by decide +kernel))) rfl
theorem ml_X8_61 : Cond.methodLink RX8 61 yX8_hangingBoxes ∈ GB := gb_in (List.mem_append_right _ (List.mem_of_getElem? (i := 907) (by decide +kernel))) rfl
theorem im_X8_hangingBoxes : Cond.instanceMethod yX8_hangingBoxes ∈ GB := gb_in (List.mem_append_right _ (List.mem_of_getElem? (i := 909) (by decide +kernel))) rfl
theorem co_X8_hangingBoxes : Cond.code yX8_hangingBoxes cX8_hangingBoxes 4 (some .int) ∈ GB := gb_in (List.mem_append_right _ (List.mem_of_getElem? (i := 910) (by decide +kernel))) rfl
theorem ml_X8_84 : Cond.methodLink RX8 84 yX8_isRoot ∈ GB := gb_in (List.mem_append_right _ (List.mem_of_getElem? (i := 911) (by decide +kernel))) rfl
theorem im_X8_isRoot : Cond.instanceMethod yX8_isRoot ∈ GB := gb_in (List.mem_append_right _ (List.mem_of_getElem? (i := 913) (by decide +kernel))) rfl
theorem co_X8_isRoot : Cond.code yX8_isRoot cX8_isRoot 2 (some .boolean) ∈ GB := gb_in (List.mem_append_right _ (List.mem_of_getElem? (i := 914) (by decide +kernel))) rfl
theorem ml_X8_150 : Cond.methodLink RX8 150 yX8_renewed ∈ GB := gb_in (List.mem_append_right _ (List.mem_of_getElem? (i := 915) (by decide +kernel))) rfl
theorem im_X8_renewed : Cond.instanceMethod yX8_renewed ∈ GB := gb_in (List.mem_append_right _ (List.mem_of_getElem? (i := 917) (by decide +kernel))) rfl
theorem co_X8_renewed : Cond.code yX8_renewed cX8_renewed 3 (some .int) ∈ GB := gb_in (List.mem_append_right _ (List.mem_of_getElem? (i := 918) (by decide +kernel))) rfl
theorem ml_X8_138 : Cond.methodLink RX8 138 yX8_makesAnew ∈ GB := gb_in (List.mem_append_right _ (List.mem_of_getElem? (i := 919) (by decide +kernel))) rfl
theorem im_X8_makesAnew : Cond.instanceMethod yX8_makesAnew ∈ GB := gb_in (List.mem_append_right _ (List.mem_of_getElem? (i := 921) (by decide +kernel))) rfl
theorem co_X8_makesAnew : Cond.code yX8_makesAnew cX8_makesAnew 2 none ∈ GB := gb_in (List.mem_append_right _ (List.mem_of_getElem? (i := 922) (by decide +kernel))) rfl
theorem ml_X8_141 : Cond.methodLink RX8 141 yX8_burns ∈ GB := gb_in (List.mem_append_right _ (List.mem_of_getElem? (i := 923) (by decide +kernel))) rfl
theorem im_X8_burns : Cond.instanceMethod yX8_burns ∈ GB := gb_in (List.mem_append_right _ (List.mem_of_getElem? (i := 925) (by decide +kernel))) rfl
theorem co_X8_burns : Cond.code yX8_burns cX8_burns 5 none ∈ GB := gb_in (List.mem_append_right _ (List.mem_of_getElem? (i := 926) (by decide +kernel))) rfl
theorem ml_X8_144 : Cond.methodLink RX8 144 yX8_wrapAllUnder ∈ GB := gb_in (List.mem_append_right _ (List.mem_of_getElem? (i := 927) (by decide +kernel))) rfl
theorem im_X8_wrapAllUnder : Cond.instanceMethod yX8_wrapAllUnder ∈ GB := gb_in (List.mem_append_right _ (List.mem_of_getElem? (i := 929) (by decide +kernel))) rfl
theorem co_X8_wrapAllUnder : Cond.code yX8_wrapAllUnder cX8_wrapAllUnder 3 none ∈ GB := gb_in (List.mem_append_right _ (List.mem_of_getElem? (i := 930) (by decide +kernel))) rfl
theorem ml_L_38 : Cond.methodLink RL 38 yX8_throwKey ∈ GB := gb_in (List.mem_append_right _ (List.mem_of_getElem? (i := 931) (by decide +kernel))) rfl
theorem im_X8_throwKey : Cond.instanceMethod yX8_throwKey ∈ GB := gb_in (List.mem_append_right _ (List.mem_of_getElem? (i := 932) (by decide +kernel))) rfl
theorem se_X8_throwKey : Cond.selects RX8 yX8_throwKey yX8_throwKey ∈ GB := gb_in (List.mem_append_right _ (List.mem_of_getElem? (i := 933) (by decide +kernel))) rfl
theorem co_X8_throwKey : Cond.code yX8_throwKey cX8_throwKey 3 (some .int) ∈ GB := gb_in (List.mem_append_right _ (List.mem_of_getElem? (i := 934) (by decide +kernel))) rfl
theorem ml_X8_171 : Cond.methodLink RX8 171 yX8_whyKeyNotThrown ∈ GB := gb_in (List.mem_append_right _ (List.mem_of_getElem? (i := 935) (by decide +kernel))) rfl
theorem im_X8_whyKeyNotThrown : Cond.instanceMethod yX8_whyKeyNotThrown ∈ GB := gb_in (List.mem_append_right _ (List.mem_of_getElem? (i := 937) (by decide +kernel))) rfl
theorem co_X8_whyKeyNotThrown : Cond.code yX8_whyKeyNotThrown cX8_whyKeyNotThrown 2 (some .int) ∈ GB := gb_in (List.mem_append_right _ (List.mem_of_getElem? (i := 938) (by decide +kernel))) rfl
theorem ml_X8_162 : Cond.methodLink RX8 162 yX8_whyNotThrown ∈ GB := gb_in (List.mem_append_right _ (List.mem_of_getElem? (i := 939) (by decide +kernel))) rfl
theorem im_X8_whyNotThrown : Cond.instanceMethod yX8_whyNotThrown ∈ GB := gb_in (List.mem_append_right _ (List.mem_of_getElem? (i := 941) (by decide +kernel))) rfl
theorem co_X8_whyNotThrown : Cond.code yX8_whyNotThrown cX8_whyNotThrown 4 (some .int) ∈ GB := gb_in (List.mem_append_right _ (List.mem_of_getElem? (i := 942) (by decide +kernel))) rfl
theorem ml_X8_153 : Cond.methodLink RX8 153 yX8_throwMakes ∈ GB := gb_in (List.mem_append_right _ (List.mem_of_getElem? (i := 943) (by decide +kernel))) rfl
theorem im_X8_throwMakes : Cond.instanceMethod yX8_throwMakes ∈ GB := gb_in (List.mem_append_right _ (List.mem_of_getElem? (i := 945) (by decide +kernel))) rfl
theorem co_X8_throwMakes : Cond.code yX8_throwMakes cX8_throwMakes 6 (some .int) ∈ GB := gb_in (List.mem_append_right _ (List.mem_of_getElem? (i := 946) (by decide +kernel))) rfl
theorem ml_X8_174 : Cond.methodLink RX8 174 yX8_keyThrown ∈ GB := gb_in (List.mem_append_right _ (List.mem_of_getElem? (i := 947) (by decide +kernel))) rfl
theorem im_X8_keyThrown : Cond.instanceMethod yX8_keyThrown ∈ GB := gb_in (List.mem_append_right _ (List.mem_of_getElem? (i := 949) (by decide +kernel))) rfl
theorem co_X8_keyThrown : Cond.code yX8_keyThrown cX8_keyThrown 4 (some .int) ∈ GB := gb_in (List.mem_append_right _ (List.mem_of_getElem? (i := 950) (by decide +kernel))) rfl
theorem ml_X8_165 : Cond.methodLink RX8 165 yX8_isUnder ∈ GB := gb_in (List.mem_append_right _ (List.mem_of_getElem? (i := 951) (by decide +kernel))) rfl
theorem im_X8_isUnder : Cond.instanceMethod yX8_isUnder ∈ GB := gb_in (List.mem_append_right _ (List.mem_of_getElem? (i := 953) (by decide +kernel))) rfl
theorem co_X8_isUnder : Cond.code yX8_isUnder cX8_isUnder 4 (some .boolean) ∈ GB := gb_in (List.mem_append_right _ (List.mem_of_getElem? (i := 954) (by decide +kernel))) rfl
theorem ml_X8_168 : Cond.methodLink RX8 168 yX8_makesAboveAnew ∈ GB := gb_in (List.mem_append_right _ (List.mem_of_getElem? (i := 955) (by decide +kernel))) rfl
theorem im_X8_makesAboveAnew : Cond.instanceMethod yX8_makesAboveAnew ∈ GB := gb_in (List.mem_append_right _ (List.mem_of_getElem? (i := 957) (by decide +kernel))) rfl
theorem co_X8_makesAboveAnew : Cond.code yX8_makesAboveAnew cX8_makesAboveAnew 3 none ∈ GB := gb_in (List.mem_append_right _ (List.mem_of_getElem? (i := 958) (by decide +kernel))) rfl
theorem ml_X8_156 : Cond.methodLink RX8 156 yX8_above ∈ GB := gb_in (List.mem_append_right _ (List.mem_of_getElem? (i := 959) (by decide +kernel))) rfl
theorem im_X8_above : Cond.instanceMethod yX8_above ∈ GB := gb_in (List.mem_append_right _ (List.mem_of_getElem? (i := 961) (by decide +kernel))) rfl
theorem co_X8_above : Cond.code yX8_above cX8_above 4 (some .int) ∈ GB := gb_in (List.mem_append_right _ (List.mem_of_getElem? (i := 962) (by decide +kernel))) rfl
theorem ml_X8_159 : Cond.methodLink RX8 159 yX8_higher ∈ GB := gb_in (List.mem_append_right _ (List.mem_of_getElem? (i := 963) (by decide +kernel))) rfl
theorem im_X8_higher : Cond.instanceMethod yX8_higher ∈ GB := gb_in (List.mem_append_right _ (List.mem_of_getElem? (i := 965) (by decide +kernel))) rfl
theorem co_X8_higher : Cond.code yX8_higher cX8_higher 5 (some .int) ∈ GB := gb_in (List.mem_append_right _ (List.mem_of_getElem? (i := 966) (by decide +kernel))) rfl
theorem ml_L_42 : Cond.methodLink RL 42 yX8_throwBox ∈ GB := gb_in (List.mem_append_right _ (List.mem_of_getElem? (i := 967) (by decide +kernel))) rfl
theorem im_X8_throwBox : Cond.instanceMethod yX8_throwBox ∈ GB := gb_in (List.mem_append_right _ (List.mem_of_getElem? (i := 968) (by decide +kernel))) rfl
theorem se_X8_throwBox : Cond.selects RX8 yX8_throwBox yX8_throwBox ∈ GB := gb_in (List.mem_append_right _ (List.mem_of_getElem? (i := 969) (by decide +kernel))) rfl
theorem co_X8_throwBox : Cond.code yX8_throwBox cX8_throwBox 3 (some .int) ∈ GB := gb_in (List.mem_append_right _ (List.mem_of_getElem? (i := 970) (by decide +kernel))) rfl
theorem ml_X8_180 : Cond.methodLink RX8 180 yX8_whyBoxNotThrown ∈ GB := gb_in (List.mem_append_right _ (List.mem_of_getElem? (i := 971) (by decide +kernel))) rfl
theorem im_X8_whyBoxNotThrown : Cond.instanceMethod yX8_whyBoxNotThrown ∈ GB := gb_in (List.mem_append_right _ (List.mem_of_getElem? (i := 973) (by decide +kernel))) rfl
theorem co_X8_whyBoxNotThrown : Cond.code yX8_whyBoxNotThrown cX8_whyBoxNotThrown 2 (some .int) ∈ GB := gb_in (List.mem_append_right _ (List.mem_of_getElem? (i := 974) (by decide +kernel))) rfl
theorem ml_X8_177 : Cond.methodLink RX8 177 yX8_isLiveBox ∈ GB := gb_in (List.mem_append_right _ (List.mem_of_getElem? (i := 975) (by decide +kernel))) rfl
theorem im_X8_isLiveBox : Cond.instanceMethod yX8_isLiveBox ∈ GB := gb_in (List.mem_append_right _ (List.mem_of_getElem? (i := 977) (by decide +kernel))) rfl
theorem co_X8_isLiveBox : Cond.code yX8_isLiveBox cX8_isLiveBox 2 (some .boolean) ∈ GB := gb_in (List.mem_append_right _ (List.mem_of_getElem? (i := 978) (by decide +kernel))) rfl
theorem ml_X8_48 : Cond.methodLink RX8 48 yX8_isBox ∈ GB := gb_in (List.mem_append_right _ (List.mem_of_getElem? (i := 979) (by decide +kernel))) rfl
theorem im_X8_isBox : Cond.instanceMethod yX8_isBox ∈ GB := gb_in (List.mem_append_right _ (List.mem_of_getElem? (i := 981) (by decide +kernel))) rfl
theorem co_X8_isBox : Cond.code yX8_isBox cX8_isBox 2 (some .boolean) ∈ GB := gb_in (List.mem_append_right _ (List.mem_of_getElem? (i := 982) (by decide +kernel))) rfl
theorem ml_X8_183 : Cond.methodLink RX8 183 yX8_boxThrown ∈ GB := gb_in (List.mem_append_right _ (List.mem_of_getElem? (i := 983) (by decide +kernel))) rfl
theorem im_X8_boxThrown : Cond.instanceMethod yX8_boxThrown ∈ GB := gb_in (List.mem_append_right _ (List.mem_of_getElem? (i := 985) (by decide +kernel))) rfl
theorem co_X8_boxThrown : Cond.code yX8_boxThrown cX8_boxThrown 3 (some .int) ∈ GB := gb_in (List.mem_append_right _ (List.mem_of_getElem? (i := 986) (by decide +kernel))) rfl
theorem ml_L_46 : Cond.methodLink RL 46 yX8_ofKey ∈ GB := gb_in (List.mem_append_right _ (List.mem_of_getElem? (i := 987) (by decide +kernel))) rfl
theorem im_X8_ofKey : Cond.instanceMethod yX8_ofKey ∈ GB := gb_in (List.mem_append_right _ (List.mem_of_getElem? (i := 988) (by decide +kernel))) rfl
theorem se_X8_ofKey : Cond.selects RX8 yX8_ofKey yX8_ofKey ∈ GB := gb_in (List.mem_append_right _ (List.mem_of_getElem? (i := 989) (by decide +kernel))) rfl
theorem co_X8_ofKey : Cond.code yX8_ofKey cX8_ofKey 3 (some .int) ∈ GB := gb_in (List.mem_append_right _ (List.mem_of_getElem? (i := 990) (by decide +kernel))) rfl
theorem ml_L_50 : Cond.methodLink RL 50 yX8_ofBox ∈ GB := gb_in (List.mem_append_right _ (List.mem_of_getElem? (i := 991) (by decide +kernel))) rfl
theorem im_X8_ofBox : Cond.instanceMethod yX8_ofBox ∈ GB := gb_in (List.mem_append_right _ (List.mem_of_getElem? (i := 992) (by decide +kernel))) rfl
theorem se_X8_ofBox : Cond.selects RX8 yX8_ofBox yX8_ofBox ∈ GB := gb_in (List.mem_append_right _ (List.mem_of_getElem? (i := 993) (by decide +kernel))) rfl
theorem co_X8_ofBox : Cond.code yX8_ofBox cX8_ofBox 3 (some .int) ∈ GB := gb_in (List.mem_append_right _ (List.mem_of_getElem? (i := 994) (by decide +kernel))) rfl
theorem ml_X8_186 : Cond.methodLink RX8 186 yX8_openWith ∈ GB := gb_in (List.mem_append_right _ (List.mem_of_getElem? (i := 995) (by decide +kernel))) rfl
theorem im_X8_openWith : Cond.instanceMethod yX8_openWith ∈ GB := gb_in (List.mem_append_right _ (List.mem_of_getElem? (i := 997) (by decide +kernel))) rfl
theorem co_X8_openWith : Cond.code yX8_openWith cX8_openWith 2 (some .int) ∈ GB := gb_in (List.mem_append_right _ (List.mem_of_getElem? (i := 998) (by decide +kernel))) rfl
theorem ml_X8_95 : Cond.methodLink RX8 95 yX8_open ∈ GB := gb_in (List.mem_append_right _ (List.mem_of_getElem? (i := 999) (by decide +kernel))) rfl
theorem im_X8_open : Cond.instanceMethod yX8_open ∈ GB := gb_in (List.mem_append_right _ (List.mem_of_getElem? (i := 1001) (by decide +kernel))) rfl
theorem co_X8_open : Cond.code yX8_open cX8_open 7 none ∈ GB := gb_in (List.mem_append_right _ (List.mem_of_getElem? (i := 1002) (by decide +kernel))) rfl
theorem ml_X8_91 : Cond.methodLink RX8 91 yX8_isHad ∈ GB := gb_in (List.mem_append_right _ (List.mem_of_getElem? (i := 1003) (by decide +kernel))) rfl
theorem im_X8_isHad : Cond.instanceMethod yX8_isHad ∈ GB := gb_in (List.mem_append_right _ (List.mem_of_getElem? (i := 1005) (by decide +kernel))) rfl
theorem co_X8_isHad : Cond.code yX8_isHad cX8_isHad 7 (some .boolean) ∈ GB := gb_in (List.mem_append_right _ (List.mem_of_getElem? (i := 1006) (by decide +kernel))) rfl
theorem ml_X8_87 : Cond.methodLink RX8 87 yX8_isInSafe ∈ GB := gb_in (List.mem_append_right _ (List.mem_of_getElem? (i := 1007) (by decide +kernel))) rfl
theorem im_X8_isInSafe : Cond.instanceMethod yX8_isInSafe ∈ GB := gb_in (List.mem_append_right _ (List.mem_of_getElem? (i := 1009) (by decide +kernel))) rfl
theorem co_X8_isInSafe : Cond.code yX8_isInSafe cX8_isInSafe 3 (some .boolean) ∈ GB := gb_in (List.mem_append_right _ (List.mem_of_getElem? (i := 1010) (by decide +kernel))) rfl
theorem ml_X8_98 : Cond.methodLink RX8 98 yX8_openBoxes ∈ GB := gb_in (List.mem_append_right _ (List.mem_of_getElem? (i := 1011) (by decide +kernel))) rfl
theorem im_X8_openBoxes : Cond.instanceMethod yX8_openBoxes ∈ GB := gb_in (List.mem_append_right _ (List.mem_of_getElem? (i := 1013) (by decide +kernel))) rfl
theorem co_X8_openBoxes : Cond.code yX8_openBoxes cX8_openBoxes 3 (some .int) ∈ GB := gb_in (List.mem_append_right _ (List.mem_of_getElem? (i := 1014) (by decide +kernel))) rfl
theorem ml_L_54 : Cond.methodLink RL 54 yX8_wrap ∈ GB := gb_in (List.mem_append_right _ (List.mem_of_getElem? (i := 1015) (by decide +kernel))) rfl
theorem im_X8_wrap : Cond.instanceMethod yX8_wrap ∈ GB := gb_in (List.mem_append_right _ (List.mem_of_getElem? (i := 1016) (by decide +kernel))) rfl
theorem se_X8_wrap : Cond.selects RX8 yX8_wrap yX8_wrap ∈ GB := gb_in (List.mem_append_right _ (List.mem_of_getElem? (i := 1017) (by decide +kernel))) rfl
theorem co_X8_wrap : Cond.code yX8_wrap cX8_wrap 3 (some .int) ∈ GB := gb_in (List.mem_append_right _ (List.mem_of_getElem? (i := 1018) (by decide +kernel))) rfl
theorem ml_L_58 : Cond.methodLink RL 58 yX8_count ∈ GB := gb_in (List.mem_append_right _ (List.mem_of_getElem? (i := 1019) (by decide +kernel))) rfl
theorem im_X8_count : Cond.instanceMethod yX8_count ∈ GB := gb_in (List.mem_append_right _ (List.mem_of_getElem? (i := 1020) (by decide +kernel))) rfl
theorem se_X8_count : Cond.selects RX8 yX8_count yX8_count ∈ GB := gb_in (List.mem_append_right _ (List.mem_of_getElem? (i := 1021) (by decide +kernel))) rfl
theorem co_X8_count : Cond.code yX8_count cX8_count 2 (some .int) ∈ GB := gb_in (List.mem_append_right _ (List.mem_of_getElem? (i := 1022) (by decide +kernel))) rfl
theorem ml_X8_189 : Cond.methodLink RX8 189 yX8_liveKeys ∈ GB := gb_in (List.mem_append_right _ (List.mem_of_getElem? (i := 1023) (by decide +kernel))) rfl
theorem im_X8_liveKeys : Cond.instanceMethod yX8_liveKeys ∈ GB := gb_in (List.mem_append_right _ (List.mem_of_getElem? (i := 1025) (by decide +kernel))) rfl
theorem co_X8_liveKeys : Cond.code yX8_liveKeys cX8_liveKeys 3 (some .int) ∈ GB := gb_in (List.mem_append_right _ (List.mem_of_getElem? (i := 1026) (by decide +kernel))) rfl
theorem ml_X8_192 : Cond.methodLink RX8 192 yX8_liveBoxes ∈ GB := gb_in (List.mem_append_right _ (List.mem_of_getElem? (i := 1027) (by decide +kernel))) rfl
theorem im_X8_liveBoxes : Cond.instanceMethod yX8_liveBoxes ∈ GB := gb_in (List.mem_append_right _ (List.mem_of_getElem? (i := 1029) (by decide +kernel))) rfl
theorem co_X8_liveBoxes : Cond.code yX8_liveBoxes cX8_liveBoxes 3 (some .int) ∈ GB := gb_in (List.mem_append_right _ (List.mem_of_getElem? (i := 1030) (by decide +kernel))) rfl
theorem ml_X8_195 : Cond.methodLink RX8 195 yX8_inHouse ∈ GB := gb_in (List.mem_append_right _ (List.mem_of_getElem? (i := 1031) (by decide +kernel))) rfl
theorem im_X8_inHouse : Cond.instanceMethod yX8_inHouse ∈ GB := gb_in (List.mem_append_right _ (List.mem_of_getElem? (i := 1033) (by decide +kernel))) rfl
theorem co_X8_inHouse : Cond.code yX8_inHouse cX8_inHouse 3 (some .int) ∈ GB := gb_in (List.mem_append_right _ (List.mem_of_getElem? (i := 1034) (by decide +kernel))) rfl
theorem ml_X8_198 : Cond.methodLink RX8 198 yX8_outside ∈ GB := gb_in (List.mem_append_right _ (List.mem_of_getElem? (i := 1035) (by decide +kernel))) rfl
theorem im_X8_outside : Cond.instanceMethod yX8_outside ∈ GB := gb_in (List.mem_append_right _ (List.mem_of_getElem? (i := 1037) (by decide +kernel))) rfl
theorem co_X8_outside : Cond.code yX8_outside cX8_outside 3 (some .int) ∈ GB := gb_in (List.mem_append_right _ (List.mem_of_getElem? (i := 1038) (by decide +kernel))) rfl
theorem ml_X8_201 : Cond.methodLink RX8 201 yX8_wornKeys ∈ GB := gb_in (List.mem_append_right _ (List.mem_of_getElem? (i := 1039) (by decide +kernel))) rfl
theorem im_X8_wornKeys : Cond.instanceMethod yX8_wornKeys ∈ GB := gb_in (List.mem_append_right _ (List.mem_of_getElem? (i := 1041) (by decide +kernel))) rfl
theorem co_X8_wornKeys : Cond.code yX8_wornKeys cX8_wornKeys 3 (some .int) ∈ GB := gb_in (List.mem_append_right _ (List.mem_of_getElem? (i := 1042) (by decide +kernel))) rfl
theorem ml_L_62 : Cond.methodLink RL 62 yX8_canOpen ∈ GB := gb_in (List.mem_append_right _ (List.mem_of_getElem? (i := 1043) (by decide +kernel))) rfl
theorem im_X8_canOpen : Cond.instanceMethod yX8_canOpen ∈ GB := gb_in (List.mem_append_right _ (List.mem_of_getElem? (i := 1044) (by decide +kernel))) rfl
theorem se_X8_canOpen : Cond.selects RX8 yX8_canOpen yX8_canOpen ∈ GB := gb_in (List.mem_append_right _ (List.mem_of_getElem? (i := 1045) (by decide +kernel))) rfl
theorem co_X8_canOpen : Cond.code yX8_canOpen cX8_canOpen 3 (some .int) ∈ GB := gb_in (List.mem_append_right _ (List.mem_of_getElem? (i := 1046) (by decide +kernel))) rfl
theorem ml_L_67 : Cond.methodLink RL 67 yX8_canHave ∈ GB := gb_in (List.mem_append_right _ (List.mem_of_getElem? (i := 1047) (by decide +kernel))) rfl
theorem im_X8_canHave : Cond.instanceMethod yX8_canHave ∈ GB := gb_in (List.mem_append_right _ (List.mem_of_getElem? (i := 1048) (by decide +kernel))) rfl
theorem se_X8_canHave : Cond.selects RX8 yX8_canHave yX8_canHave ∈ GB := gb_in (List.mem_append_right _ (List.mem_of_getElem? (i := 1049) (by decide +kernel))) rfl
theorem co_X8_canHave : Cond.code yX8_canHave cX8_canHave 4 (some .int) ∈ GB := gb_in (List.mem_append_right _ (List.mem_of_getElem? (i := 1050) (by decide +kernel))) rfl
theorem ml_L_71 : Cond.methodLink RL 71 yX8_way ∈ GB := gb_in (List.mem_append_right _ (List.mem_of_getElem? (i := 1051) (by decide +kernel))) rfl
theorem im_X8_way : Cond.instanceMethod yX8_way ∈ GB := gb_in (List.mem_append_right _ (List.mem_of_getElem? (i := 1052) (by decide +kernel))) rfl
theorem se_X8_way : Cond.selects RX8 yX8_way yX8_way ∈ GB := gb_in (List.mem_append_right _ (List.mem_of_getElem? (i := 1053) (by decide +kernel))) rfl
theorem co_X8_way : Cond.code yX8_way cX8_way 6 (some .int) ∈ GB := gb_in (List.mem_append_right _ (List.mem_of_getElem? (i := 1054) (by decide +kernel))) rfl
theorem ml_X8_207 : Cond.methodLink RX8 207 yX8_houseWrap ∈ GB := gb_in (List.mem_append_right _ (List.mem_of_getElem? (i := 1055) (by decide +kernel))) rfl
theorem im_X8_houseWrap : Cond.instanceMethod yX8_houseWrap ∈ GB := gb_in (List.mem_append_right _ (List.mem_of_getElem? (i := 1057) (by decide +kernel))) rfl
theorem co_X8_houseWrap : Cond.code yX8_houseWrap cX8_houseWrap 5 (some .int) ∈ GB := gb_in (List.mem_append_right _ (List.mem_of_getElem? (i := 1058) (by decide +kernel))) rfl
theorem ml_L_75 : Cond.methodLink RL 75 yX8_leaks ∈ GB := gb_in (List.mem_append_right _ (List.mem_of_getElem? (i := 1059) (by decide +kernel))) rfl
theorem im_X8_leaks : Cond.instanceMethod yX8_leaks ∈ GB := gb_in (List.mem_append_right _ (List.mem_of_getElem? (i := 1060) (by decide +kernel))) rfl
theorem se_X8_leaks : Cond.selects RX8 yX8_leaks yX8_leaks ∈ GB := gb_in (List.mem_append_right _ (List.mem_of_getElem? (i := 1061) (by decide +kernel))) rfl
theorem co_X8_leaks : Cond.code yX8_leaks cX8_leaks 4 (some .int) ∈ GB := gb_in (List.mem_append_right _ (List.mem_of_getElem? (i := 1062) (by decide +kernel))) rfl
theorem ml_L_79 : Cond.methodLink RL 79 yX8_lostBy ∈ GB := gb_in (List.mem_append_right _ (List.mem_of_getElem? (i := 1063) (by decide +kernel))) rfl
theorem im_X8_lostBy : Cond.instanceMethod yX8_lostBy ∈ GB := gb_in (List.mem_append_right _ (List.mem_of_getElem? (i := 1064) (by decide +kernel))) rfl
theorem se_X8_lostBy : Cond.selects RX8 yX8_lostBy yX8_lostBy ∈ GB := gb_in (List.mem_append_right _ (List.mem_of_getElem? (i := 1065) (by decide +kernel))) rfl
theorem co_X8_lostBy : Cond.code yX8_lostBy cX8_lostBy 4 (some .int) ∈ GB := gb_in (List.mem_append_right _ (List.mem_of_getElem? (i := 1066) (by decide +kernel))) rfl
theorem ml_L_83 : Cond.methodLink RL 83 yX8_throwingMakes ∈ GB := gb_in (List.mem_append_right _ (List.mem_of_getElem? (i := 1067) (by decide +kernel))) rfl
theorem im_X8_throwingMakes : Cond.instanceMethod yX8_throwingMakes ∈ GB := gb_in (List.mem_append_right _ (List.mem_of_getElem? (i := 1068) (by decide +kernel))) rfl
theorem se_X8_throwingMakes : Cond.selects RX8 yX8_throwingMakes yX8_throwingMakes ∈ GB := gb_in (List.mem_append_right _ (List.mem_of_getElem? (i := 1069) (by decide +kernel))) rfl
theorem co_X8_throwingMakes : Cond.code yX8_throwingMakes cX8_throwingMakes 3 (some .int) ∈ GB := gb_in (List.mem_append_right _ (List.mem_of_getElem? (i := 1070) (by decide +kernel))) rfl
theorem ml_L_87 : Cond.methodLink RL 87 yX8_mostWorn ∈ GB := gb_in (List.mem_append_right _ (List.mem_of_getElem? (i := 1071) (by decide +kernel))) rfl
theorem im_X8_mostWorn : Cond.instanceMethod yX8_mostWorn ∈ GB := gb_in (List.mem_append_right _ (List.mem_of_getElem? (i := 1072) (by decide +kernel))) rfl
theorem se_X8_mostWorn : Cond.selects RX8 yX8_mostWorn yX8_mostWorn ∈ GB := gb_in (List.mem_append_right _ (List.mem_of_getElem? (i := 1073) (by decide +kernel))) rfl
theorem co_X8_mostWorn : Cond.code yX8_mostWorn cX8_mostWorn 4 (some .int) ∈ GB := gb_in (List.mem_append_right _ (List.mem_of_getElem? (i := 1074) (by decide +kernel))) rfl
theorem ml_X8_210 : Cond.methodLink RX8 210 yX8_leftOf ∈ GB := gb_in (List.mem_append_right _ (List.mem_of_getElem? (i := 1075) (by decide +kernel))) rfl
theorem im_X8_leftOf : Cond.instanceMethod yX8_leftOf ∈ GB := gb_in (List.mem_append_right _ (List.mem_of_getElem? (i := 1077) (by decide +kernel))) rfl
theorem co_X8_leftOf : Cond.code yX8_leftOf cX8_leftOf 3 (some .int) ∈ GB := gb_in (List.mem_append_right _ (List.mem_of_getElem? (i := 1078) (by decide +kernel))) rfl
theorem ml_L_94 : Cond.methodLink RL 94 yX8_put ∈ GB := gb_in (List.mem_append_right _ (List.mem_of_getElem? (i := 1079) (by decide +kernel))) rfl
theorem im_X8_put : Cond.instanceMethod yX8_put ∈ GB := gb_in (List.mem_append_right _ (List.mem_of_getElem? (i := 1080) (by decide +kernel))) rfl
theorem se_X8_put : Cond.selects RX8 yX8_put yX8_put ∈ GB := gb_in (List.mem_append_right _ (List.mem_of_getElem? (i := 1081) (by decide +kernel))) rfl
theorem co_X8_put : Cond.code yX8_put cX8_put 8 (some .int) ∈ GB := gb_in (List.mem_append_right _ (List.mem_of_getElem? (i := 1082) (by decide +kernel))) rfl
theorem k_X8_213 : Cond.constantLong RX8 213 255 ∈ GB := gb_in (List.mem_append_right _ (List.mem_of_getElem? (i := 1083) (by decide +kernel))) rfl
theorem ml_L_99 : Cond.methodLink RL 99 yX8_wipe ∈ GB := gb_in (List.mem_append_right _ (List.mem_of_getElem? (i := 1084) (by decide +kernel))) rfl
theorem im_X8_wipe : Cond.instanceMethod yX8_wipe ∈ GB := gb_in (List.mem_append_right _ (List.mem_of_getElem? (i := 1085) (by decide +kernel))) rfl
theorem se_X8_wipe : Cond.selects RX8 yX8_wipe yX8_wipe ∈ GB := gb_in (List.mem_append_right _ (List.mem_of_getElem? (i := 1086) (by decide +kernel))) rfl
theorem co_X8_wipe : Cond.code yX8_wipe cX8_wipe 2 (some .int) ∈ GB := gb_in (List.mem_append_right _ (List.mem_of_getElem? (i := 1087) (by decide +kernel))) rfl
theorem ml_L_103 : Cond.methodLink RL 103 yX8_fault ∈ GB := gb_in (List.mem_append_right _ (List.mem_of_getElem? (i := 1088) (by decide +kernel))) rfl
theorem im_X8_fault : Cond.instanceMethod yX8_fault ∈ GB := gb_in (List.mem_append_right _ (List.mem_of_getElem? (i := 1089) (by decide +kernel))) rfl
theorem se_X8_fault : Cond.selects RX8 yX8_fault yX8_fault ∈ GB := gb_in (List.mem_append_right _ (List.mem_of_getElem? (i := 1090) (by decide +kernel))) rfl
theorem co_X8_fault : Cond.code yX8_fault cX8_fault 1 (some .int) ∈ GB := gb_in (List.mem_append_right _ (List.mem_of_getElem? (i := 1091) (by decide +kernel))) rfl
theorem ml_X8_243 : Cond.methodLink RX8 243 yX8_findFault ∈ GB := gb_in (List.mem_append_right _ (List.mem_of_getElem? (i := 1092) (by decide +kernel))) rfl
theorem im_X8_findFault : Cond.instanceMethod yX8_findFault ∈ GB := gb_in (List.mem_append_right _ (List.mem_of_getElem? (i := 1094) (by decide +kernel))) rfl
theorem co_X8_findFault : Cond.code yX8_findFault cX8_findFault 1 (some .int) ∈ GB := gb_in (List.mem_append_right _ (List.mem_of_getElem? (i := 1095) (by decide +kernel))) rfl
theorem ml_X8_239 : Cond.methodLink RX8 239 yX8_readsOrder ∈ GB := gb_in (List.mem_append_right _ (List.mem_of_getElem? (i := 1096) (by decide +kernel))) rfl
theorem im_X8_readsOrder : Cond.instanceMethod yX8_readsOrder ∈ GB := gb_in (List.mem_append_right _ (List.mem_of_getElem? (i := 1098) (by decide +kernel))) rfl
theorem co_X8_readsOrder : Cond.code yX8_readsOrder cX8_readsOrder 1 (some .boolean) ∈ GB := gb_in (List.mem_append_right _ (List.mem_of_getElem? (i := 1099) (by decide +kernel))) rfl
theorem ml_X8_218 : Cond.methodLink RX8 218 yX8_character ∈ GB := gb_in (List.mem_append_right _ (List.mem_of_getElem? (i := 1100) (by decide +kernel))) rfl
theorem im_X8_character : Cond.instanceMethod yX8_character ∈ GB := gb_in (List.mem_append_right _ (List.mem_of_getElem? (i := 1102) (by decide +kernel))) rfl
theorem co_X8_character : Cond.code yX8_character cX8_character 2 (some .int) ∈ GB := gb_in (List.mem_append_right _ (List.mem_of_getElem? (i := 1103) (by decide +kernel))) rfl
theorem ml_X8_224 : Cond.methodLink RX8 224 yX8_isOrder ∈ GB := gb_in (List.mem_append_right _ (List.mem_of_getElem? (i := 1104) (by decide +kernel))) rfl
theorem st_X8_isOrder : Cond.static yX8_isOrder ∈ GB := gb_in (List.mem_append_right _ (List.mem_of_getElem? (i := 1105) (by decide +kernel))) rfl
theorem co_X8_isOrder : Cond.code yX8_isOrder cX8_isOrder 1 (some .boolean) ∈ GB := gb_in (List.mem_append_right _ (List.mem_of_getElem? (i := 1106) (by decide +kernel))) rfl
theorem ml_X8_227 : Cond.methodLink RX8 227 yX8_takes ∈ GB := gb_in (List.mem_append_right _ (List.mem_of_getElem? (i := 1107) (by decide +kernel))) rfl
theorem im_X8_takes : Cond.instanceMethod yX8_takes ∈ GB := gb_in (List.mem_append_right _ (List.mem_of_getElem? (i := 1109) (by decide +kernel))) rfl
theorem co_X8_takes : Cond.code yX8_takes cX8_takes 3 (some .boolean) ∈ GB := gb_in (List.mem_append_right _ (List.mem_of_getElem? (i := 1110) (by decide +kernel))) rfl
theorem ml_X8_233 : Cond.methodLink RX8 233 yX8_takeNumber ∈ GB := gb_in (List.mem_append_right _ (List.mem_of_getElem? (i := 1111) (by decide +kernel))) rfl
theorem im_X8_takeNumber : Cond.instanceMethod yX8_takeNumber ∈ GB := gb_in (List.mem_append_right _ (List.mem_of_getElem? (i := 1113) (by decide +kernel))) rfl
theorem co_X8_takeNumber : Cond.code yX8_takeNumber cX8_takeNumber 3 (some .int) ∈ GB := gb_in (List.mem_append_right _ (List.mem_of_getElem? (i := 1114) (by decide +kernel))) rfl
theorem ml_L_107 : Cond.methodLink RL 107 yX8_carryOut ∈ GB := gb_in (List.mem_append_right _ (List.mem_of_getElem? (i := 1115) (by decide +kernel))) rfl
theorem im_X8_carryOut : Cond.instanceMethod yX8_carryOut ∈ GB := gb_in (List.mem_append_right _ (List.mem_of_getElem? (i := 1116) (by decide +kernel))) rfl
theorem se_X8_carryOut : Cond.selects RX8 yX8_carryOut yX8_carryOut ∈ GB := gb_in (List.mem_append_right _ (List.mem_of_getElem? (i := 1117) (by decide +kernel))) rfl
theorem co_X8_carryOut : Cond.code yX8_carryOut cX8_carryOut 3 (some .int) ∈ GB := gb_in (List.mem_append_right _ (List.mem_of_getElem? (i := 1118) (by decide +kernel))) rfl
theorem ml_X8_246 : Cond.methodLink RX8 246 yX8_whyNotDone ∈ GB := gb_in (List.mem_append_right _ (List.mem_of_getElem? (i := 1119) (by decide +kernel))) rfl
theorem im_X8_whyNotDone : Cond.instanceMethod yX8_whyNotDone ∈ GB := gb_in (List.mem_append_right _ (List.mem_of_getElem? (i := 1121) (by decide +kernel))) rfl
theorem co_X8_whyNotDone : Cond.code yX8_whyNotDone cX8_whyNotDone 1 (some .int) ∈ GB := gb_in (List.mem_append_right _ (List.mem_of_getElem? (i := 1122) (by decide +kernel))) rfl
theorem ml_X8_249 : Cond.methodLink RX8 249 yX8_does ∈ GB := gb_in (List.mem_append_right _ (List.mem_of_getElem? (i := 1123) (by decide +kernel))) rfl
theorem im_X8_does : Cond.instanceMethod yX8_does ∈ GB := gb_in (List.mem_append_right _ (List.mem_of_getElem? (i := 1125) (by decide +kernel))) rfl
theorem co_X8_does : Cond.code yX8_does cX8_does 1 none ∈ GB := gb_in (List.mem_append_right _ (List.mem_of_getElem? (i := 1126) (by decide +kernel))) rfl
theorem ml_L_111 : Cond.methodLink RL 111 yX8_undo ∈ GB := gb_in (List.mem_append_right _ (List.mem_of_getElem? (i := 1127) (by decide +kernel))) rfl
theorem im_X8_undo : Cond.instanceMethod yX8_undo ∈ GB := gb_in (List.mem_append_right _ (List.mem_of_getElem? (i := 1128) (by decide +kernel))) rfl
theorem se_X8_undo : Cond.selects RX8 yX8_undo yX8_undo ∈ GB := gb_in (List.mem_append_right _ (List.mem_of_getElem? (i := 1129) (by decide +kernel))) rfl
theorem co_X8_undo : Cond.code yX8_undo cX8_undo 1 (some .int) ∈ GB := gb_in (List.mem_append_right _ (List.mem_of_getElem? (i := 1130) (by decide +kernel))) rfl
theorem ml_L_115 : Cond.methodLink RL 115 yX8_save ∈ GB := gb_in (List.mem_append_right _ (List.mem_of_getElem? (i := 1131) (by decide +kernel))) rfl
theorem im_X8_save : Cond.instanceMethod yX8_save ∈ GB := gb_in (List.mem_append_right _ (List.mem_of_getElem? (i := 1132) (by decide +kernel))) rfl
theorem se_X8_save : Cond.selects RX8 yX8_save yX8_save ∈ GB := gb_in (List.mem_append_right _ (List.mem_of_getElem? (i := 1133) (by decide +kernel))) rfl
theorem co_X8_save : Cond.code yX8_save cX8_save 2 (some .int) ∈ GB := gb_in (List.mem_append_right _ (List.mem_of_getElem? (i := 1134) (by decide +kernel))) rfl
theorem ml_L_119 : Cond.methodLink RL 119 yX8_restore ∈ GB := gb_in (List.mem_append_right _ (List.mem_of_getElem? (i := 1135) (by decide +kernel))) rfl
theorem im_X8_restore : Cond.instanceMethod yX8_restore ∈ GB := gb_in (List.mem_append_right _ (List.mem_of_getElem? (i := 1136) (by decide +kernel))) rfl
theorem se_X8_restore : Cond.selects RX8 yX8_restore yX8_restore ∈ GB := gb_in (List.mem_append_right _ (List.mem_of_getElem? (i := 1137) (by decide +kernel))) rfl
theorem co_X8_restore : Cond.code yX8_restore cX8_restore 2 (some .int) ∈ GB := gb_in (List.mem_append_right _ (List.mem_of_getElem? (i := 1138) (by decide +kernel))) rfl
theorem k_L_88 : Cond.constantLong RL 88 4294967295 ∈ GB := gb_in (List.mem_append_right _ (List.mem_of_getElem? (i := 1139) (by decide +kernel))) rfl
theorem se_X0_stateAt : Cond.selects RX0 yX0_stateAt yX0_stateAt ∈ GB := gb_in (List.mem_append_left _ (List.mem_of_getElem? (i := 0) (by decide +kernel))) rfl
theorem se_X1_wrapKey : Cond.selects RX1 yX1_wrapKey yX1_wrapKey ∈ GB := gb_in (List.mem_append_left _ (List.mem_of_getElem? (i := 1) (by decide +kernel))) rfl
theorem se_X1_wrapBox : Cond.selects RX1 yX1_wrapBox yX1_wrapBox ∈ GB := gb_in (List.mem_append_left _ (List.mem_of_getElem? (i := 2) (by decide +kernel))) rfl
theorem se_X1_hangingWithout : Cond.selects RX1 yX1_hangingWithout yX1_hangingWithout ∈ GB := gb_in (List.mem_append_left _ (List.mem_of_getElem? (i := 3) (by decide +kernel))) rfl
theorem se_X1_startNextMakes : Cond.selects RX1 yX1_startNextMakes yX1_startNextMakes ∈ GB := gb_in (List.mem_append_left _ (List.mem_of_getElem? (i := 4) (by decide +kernel))) rfl
theorem se_X6_burn : Cond.selects RX6 yX6_burn yX6_burn ∈ GB := gb_in (List.mem_append_left _ (List.mem_of_getElem? (i := 5) (by decide +kernel))) rfl
theorem se_X1_wrapAllOn : Cond.selects RX1 yX1_wrapAllOn yX1_wrapAllOn ∈ GB := gb_in (List.mem_append_left _ (List.mem_of_getElem? (i := 6) (by decide +kernel))) rfl
theorem se_X1_canWrapAgain : Cond.selects RX1 yX1_canWrapAgain yX1_canWrapAgain ∈ GB := gb_in (List.mem_append_left _ (List.mem_of_getElem? (i := 7) (by decide +kernel))) rfl
theorem se_X2_startFromSafe : Cond.selects RX2 yX2_startFromSafe yX2_startFromSafe ∈ GB := gb_in (List.mem_append_left _ (List.mem_of_getElem? (i := 8) (by decide +kernel))) rfl
theorem se_X2_openAll : Cond.selects RX2 yX2_openAll yX2_openAll ∈ GB := gb_in (List.mem_append_left _ (List.mem_of_getElem? (i := 9) (by decide +kernel))) rfl
theorem se_X2_openHolding : Cond.selects RX2 yX2_openHolding yX2_openHolding ∈ GB := gb_in (List.mem_append_left _ (List.mem_of_getElem? (i := 10) (by decide +kernel))) rfl
theorem se_X2_isHad : Cond.selects RX2 yX2_isHad yX2_isHad ∈ GB := gb_in (List.mem_append_left _ (List.mem_of_getElem? (i := 11) (by decide +kernel))) rfl
theorem se_X2_openedBoxes : Cond.selects RX2 yX2_openedBoxes yX2_openedBoxes ∈ GB := gb_in (List.mem_append_left _ (List.mem_of_getElem? (i := 12) (by decide +kernel))) rfl
theorem se_X3_skip : Cond.selects RX3 yX3_skip yX3_skip ∈ GB := gb_in (List.mem_append_left _ (List.mem_of_getElem? (i := 13) (by decide +kernel))) rfl
theorem se_X3_nextSign : Cond.selects RX3 yX3_nextSign yX3_nextSign ∈ GB := gb_in (List.mem_append_left _ (List.mem_of_getElem? (i := 14) (by decide +kernel))) rfl
theorem se_X3_readOrder : Cond.selects RX3 yX3_readOrder yX3_readOrder ∈ GB := gb_in (List.mem_append_left _ (List.mem_of_getElem? (i := 15) (by decide +kernel))) rfl
theorem se_X3_readNumber : Cond.selects RX3 yX3_readNumber yX3_readNumber ∈ GB := gb_in (List.mem_append_left _ (List.mem_of_getElem? (i := 16) (by decide +kernel))) rfl
theorem se_X3_readPlace : Cond.selects RX3 yX3_readPlace yX3_readPlace ∈ GB := gb_in (List.mem_append_left _ (List.mem_of_getElem? (i := 17) (by decide +kernel))) rfl
theorem se_X7_carryOutOrder : Cond.selects RX7 yX7_carryOutOrder yX7_carryOutOrder ∈ GB := gb_in (List.mem_append_left _ (List.mem_of_getElem? (i := 18) (by decide +kernel))) rfl
theorem se_X8_record : Cond.selects RX8 yX8_record yX8_record ∈ GB := gb_in (List.mem_append_left _ (List.mem_of_getElem? (i := 19) (by decide +kernel))) rfl
theorem se_X8_whyNoKey : Cond.selects RX8 yX8_whyNoKey yX8_whyNoKey ∈ GB := gb_in (List.mem_append_left _ (List.mem_of_getElem? (i := 20) (by decide +kernel))) rfl
theorem se_X8_isLiveKey : Cond.selects RX8 yX8_isLiveKey yX8_isLiveKey ∈ GB := gb_in (List.mem_append_left _ (List.mem_of_getElem? (i := 21) (by decide +kernel))) rfl
theorem se_X8_isKey : Cond.selects RX8 yX8_isKey yX8_isKey ∈ GB := gb_in (List.mem_append_left _ (List.mem_of_getElem? (i := 22) (by decide +kernel))) rfl
theorem se_X8_keyPart : Cond.selects RX8 yX8_keyPart yX8_keyPart ∈ GB := gb_in (List.mem_append_left _ (List.mem_of_getElem? (i := 23) (by decide +kernel))) rfl
theorem se_X8_canClose : Cond.selects RX8 yX8_canClose yX8_canClose ∈ GB := gb_in (List.mem_append_left _ (List.mem_of_getElem? (i := 24) (by decide +kernel))) rfl
theorem se_X8_makeKey : Cond.selects RX8 yX8_makeKey yX8_makeKey ∈ GB := gb_in (List.mem_append_left _ (List.mem_of_getElem? (i := 25) (by decide +kernel))) rfl
theorem se_X8_setKey : Cond.selects RX8 yX8_setKey yX8_setKey ∈ GB := gb_in (List.mem_append_left _ (List.mem_of_getElem? (i := 26) (by decide +kernel))) rfl
theorem se_X8_wrapKey : Cond.selects RX8 yX8_wrapKey yX8_wrapKey ∈ GB := gb_in (List.mem_append_left _ (List.mem_of_getElem? (i := 27) (by decide +kernel))) rfl
theorem se_X8_makeWrap : Cond.selects RX8 yX8_makeWrap yX8_makeWrap ∈ GB := gb_in (List.mem_append_left _ (List.mem_of_getElem? (i := 28) (by decide +kernel))) rfl
theorem se_X8_setWrap : Cond.selects RX8 yX8_setWrap yX8_setWrap ∈ GB := gb_in (List.mem_append_left _ (List.mem_of_getElem? (i := 29) (by decide +kernel))) rfl
theorem se_X8_whyNoBox : Cond.selects RX8 yX8_whyNoBox yX8_whyNoBox ∈ GB := gb_in (List.mem_append_left _ (List.mem_of_getElem? (i := 30) (by decide +kernel))) rfl
theorem se_X8_makeBox : Cond.selects RX8 yX8_makeBox yX8_makeBox ∈ GB := gb_in (List.mem_append_left _ (List.mem_of_getElem? (i := 31) (by decide +kernel))) rfl
theorem se_X8_setBox : Cond.selects RX8 yX8_setBox yX8_setBox ∈ GB := gb_in (List.mem_append_left _ (List.mem_of_getElem? (i := 32) (by decide +kernel))) rfl
theorem se_X8_wrapBox : Cond.selects RX8 yX8_wrapBox yX8_wrapBox ∈ GB := gb_in (List.mem_append_left _ (List.mem_of_getElem? (i := 33) (by decide +kernel))) rfl
theorem se_X8_boxPart : Cond.selects RX8 yX8_boxPart yX8_boxPart ∈ GB := gb_in (List.mem_append_left _ (List.mem_of_getElem? (i := 34) (by decide +kernel))) rfl
theorem se_X8_whyNoCopy : Cond.selects RX8 yX8_whyNoCopy yX8_whyNoCopy ∈ GB := gb_in (List.mem_append_left _ (List.mem_of_getElem? (i := 35) (by decide +kernel))) rfl
theorem se_X8_wrapPart : Cond.selects RX8 yX8_wrapPart yX8_wrapPart ∈ GB := gb_in (List.mem_append_left _ (List.mem_of_getElem? (i := 36) (by decide +kernel))) rfl
theorem se_X8_copied : Cond.selects RX8 yX8_copied yX8_copied ∈ GB := gb_in (List.mem_append_left _ (List.mem_of_getElem? (i := 37) (by decide +kernel))) rfl
theorem se_X8_whyNotRenewed : Cond.selects RX8 yX8_whyNotRenewed yX8_whyNotRenewed ∈ GB := gb_in (List.mem_append_left _ (List.mem_of_getElem? (i := 38) (by decide +kernel))) rfl
theorem se_X8_renewMakes : Cond.selects RX8 yX8_renewMakes yX8_renewMakes ∈ GB := gb_in (List.mem_append_left _ (List.mem_of_getElem? (i := 39) (by decide +kernel))) rfl
theorem se_X8_hangingFrom : Cond.selects RX8 yX8_hangingFrom yX8_hangingFrom ∈ GB := gb_in (List.mem_append_left _ (List.mem_of_getElem? (i := 40) (by decide +kernel))) rfl
theorem se_X8_hangingKeys : Cond.selects RX8 yX8_hangingKeys yX8_hangingKeys ∈ GB := gb_in (List.mem_append_left _ (List.mem_of_getElem? (i := 41) (by decide +kernel))) rfl
theorem se_X8_hangingBoxes : Cond.selects RX8 yX8_hangingBoxes yX8_hangingBoxes ∈ GB := gb_in (List.mem_append_left _ (List.mem_of_getElem? (i := 42) (by decide +kernel))) rfl
theorem se_X8_isRoot : Cond.selects RX8 yX8_isRoot yX8_isRoot ∈ GB := gb_in (List.mem_append_left _ (List.mem_of_getElem? (i := 43) (by decide +kernel))) rfl
theorem se_X8_renewed : Cond.selects RX8 yX8_renewed yX8_renewed ∈ GB := gb_in (List.mem_append_left _ (List.mem_of_getElem? (i := 44) (by decide +kernel))) rfl
theorem se_X8_makesAnew : Cond.selects RX8 yX8_makesAnew yX8_makesAnew ∈ GB := gb_in (List.mem_append_left _ (List.mem_of_getElem? (i := 45) (by decide +kernel))) rfl
theorem se_X8_burns : Cond.selects RX8 yX8_burns yX8_burns ∈ GB := gb_in (List.mem_append_left _ (List.mem_of_getElem? (i := 46) (by decide +kernel))) rfl
theorem se_X8_wrapAllUnder : Cond.selects RX8 yX8_wrapAllUnder yX8_wrapAllUnder ∈ GB := gb_in (List.mem_append_left _ (List.mem_of_getElem? (i := 47) (by decide +kernel))) rfl
theorem se_X8_whyKeyNotThrown : Cond.selects RX8 yX8_whyKeyNotThrown yX8_whyKeyNotThrown ∈ GB := gb_in (List.mem_append_left _ (List.mem_of_getElem? (i := 48) (by decide +kernel))) rfl
theorem se_X8_whyNotThrown : Cond.selects RX8 yX8_whyNotThrown yX8_whyNotThrown ∈ GB := gb_in (List.mem_append_left _ (List.mem_of_getElem? (i := 49) (by decide +kernel))) rfl
theorem se_X8_throwMakes : Cond.selects RX8 yX8_throwMakes yX8_throwMakes ∈ GB := gb_in (List.mem_append_left _ (List.mem_of_getElem? (i := 50) (by decide +kernel))) rfl
theorem se_X8_keyThrown : Cond.selects RX8 yX8_keyThrown yX8_keyThrown ∈ GB := gb_in (List.mem_append_left _ (List.mem_of_getElem? (i := 51) (by decide +kernel))) rfl
theorem se_X8_isUnder : Cond.selects RX8 yX8_isUnder yX8_isUnder ∈ GB := gb_in (List.mem_append_left _ (List.mem_of_getElem? (i := 52) (by decide +kernel))) rfl
theorem se_X8_makesAboveAnew : Cond.selects RX8 yX8_makesAboveAnew yX8_makesAboveAnew ∈ GB := gb_in (List.mem_append_left _ (List.mem_of_getElem? (i := 53) (by decide +kernel))) rfl
theorem se_X8_above : Cond.selects RX8 yX8_above yX8_above ∈ GB := gb_in (List.mem_append_left _ (List.mem_of_getElem? (i := 54) (by decide +kernel))) rfl
theorem se_X8_higher : Cond.selects RX8 yX8_higher yX8_higher ∈ GB := gb_in (List.mem_append_left _ (List.mem_of_getElem? (i := 55) (by decide +kernel))) rfl
theorem se_X8_whyBoxNotThrown : Cond.selects RX8 yX8_whyBoxNotThrown yX8_whyBoxNotThrown ∈ GB := gb_in (List.mem_append_left _ (List.mem_of_getElem? (i := 56) (by decide +kernel))) rfl
theorem se_X8_isLiveBox : Cond.selects RX8 yX8_isLiveBox yX8_isLiveBox ∈ GB := gb_in (List.mem_append_left _ (List.mem_of_getElem? (i := 57) (by decide +kernel))) rfl
theorem se_X8_isBox : Cond.selects RX8 yX8_isBox yX8_isBox ∈ GB := gb_in (List.mem_append_left _ (List.mem_of_getElem? (i := 58) (by decide +kernel))) rfl
theorem se_X8_boxThrown : Cond.selects RX8 yX8_boxThrown yX8_boxThrown ∈ GB := gb_in (List.mem_append_left _ (List.mem_of_getElem? (i := 59) (by decide +kernel))) rfl
theorem se_X8_openWith : Cond.selects RX8 yX8_openWith yX8_openWith ∈ GB := gb_in (List.mem_append_left _ (List.mem_of_getElem? (i := 60) (by decide +kernel))) rfl
theorem se_X8_open : Cond.selects RX8 yX8_open yX8_open ∈ GB := gb_in (List.mem_append_left _ (List.mem_of_getElem? (i := 61) (by decide +kernel))) rfl
theorem se_X8_isHad : Cond.selects RX8 yX8_isHad yX8_isHad ∈ GB := gb_in (List.mem_append_left _ (List.mem_of_getElem? (i := 62) (by decide +kernel))) rfl
theorem se_X8_isInSafe : Cond.selects RX8 yX8_isInSafe yX8_isInSafe ∈ GB := gb_in (List.mem_append_left _ (List.mem_of_getElem? (i := 63) (by decide +kernel))) rfl
theorem se_X8_openBoxes : Cond.selects RX8 yX8_openBoxes yX8_openBoxes ∈ GB := gb_in (List.mem_append_left _ (List.mem_of_getElem? (i := 64) (by decide +kernel))) rfl
theorem se_X8_liveKeys : Cond.selects RX8 yX8_liveKeys yX8_liveKeys ∈ GB := gb_in (List.mem_append_left _ (List.mem_of_getElem? (i := 65) (by decide +kernel))) rfl
theorem se_X8_liveBoxes : Cond.selects RX8 yX8_liveBoxes yX8_liveBoxes ∈ GB := gb_in (List.mem_append_left _ (List.mem_of_getElem? (i := 66) (by decide +kernel))) rfl
theorem se_X8_inHouse : Cond.selects RX8 yX8_inHouse yX8_inHouse ∈ GB := gb_in (List.mem_append_left _ (List.mem_of_getElem? (i := 67) (by decide +kernel))) rfl
theorem se_X8_outside : Cond.selects RX8 yX8_outside yX8_outside ∈ GB := gb_in (List.mem_append_left _ (List.mem_of_getElem? (i := 68) (by decide +kernel))) rfl
theorem se_X8_wornKeys : Cond.selects RX8 yX8_wornKeys yX8_wornKeys ∈ GB := gb_in (List.mem_append_left _ (List.mem_of_getElem? (i := 69) (by decide +kernel))) rfl
theorem se_X8_houseWrap : Cond.selects RX8 yX8_houseWrap yX8_houseWrap ∈ GB := gb_in (List.mem_append_left _ (List.mem_of_getElem? (i := 70) (by decide +kernel))) rfl
theorem se_X8_leftOf : Cond.selects RX8 yX8_leftOf yX8_leftOf ∈ GB := gb_in (List.mem_append_left _ (List.mem_of_getElem? (i := 71) (by decide +kernel))) rfl
theorem se_X8_findFault : Cond.selects RX8 yX8_findFault yX8_findFault ∈ GB := gb_in (List.mem_append_left _ (List.mem_of_getElem? (i := 72) (by decide +kernel))) rfl
theorem se_X8_readsOrder : Cond.selects RX8 yX8_readsOrder yX8_readsOrder ∈ GB := gb_in (List.mem_append_left _ (List.mem_of_getElem? (i := 73) (by decide +kernel))) rfl
theorem se_X8_character : Cond.selects RX8 yX8_character yX8_character ∈ GB := gb_in (List.mem_append_left _ (List.mem_of_getElem? (i := 74) (by decide +kernel))) rfl
theorem se_X8_takes : Cond.selects RX8 yX8_takes yX8_takes ∈ GB := gb_in (List.mem_append_left _ (List.mem_of_getElem? (i := 75) (by decide +kernel))) rfl
theorem se_X8_takeNumber : Cond.selects RX8 yX8_takeNumber yX8_takeNumber ∈ GB := gb_in (List.mem_append_left _ (List.mem_of_getElem? (i := 76) (by decide +kernel))) rfl
theorem se_X8_whyNotDone : Cond.selects RX8 yX8_whyNotDone yX8_whyNotDone ∈ GB := gb_in (List.mem_append_left _ (List.mem_of_getElem? (i := 77) (by decide +kernel))) rfl
theorem se_X8_does : Cond.selects RX8 yX8_does yX8_does ∈ GB := gb_in (List.mem_append_left _ (List.mem_of_getElem? (i := 78) (by decide +kernel))) rfl
theorem lay_X0 : ∀ w ∈ u_ws RX0 TX0 3, w ∈ GB := fun w hw => gb_in (List.mem_append_right _ ((show ∀ w ∈ u_ws RX0 TX0 3, w ∈ tables_1 by decide +kernel) w hw)) ((List.all_eq_true.mp (show (u_ws RX0 TX0 3).all goodWord = true by decide +kernel)) w hw)
theorem lay_X1 : ∀ w ∈ u_ws RX1 TX1 2, w ∈ GB := fun w hw => gb_in (List.mem_append_right _ ((show ∀ w ∈ u_ws RX1 TX1 2, w ∈ tables_1 by decide +kernel) w hw)) ((List.all_eq_true.mp (show (u_ws RX1 TX1 2).all goodWord = true by decide +kernel)) w hw)
theorem lay_X2 : ∀ w ∈ u_ws RX2 TX2 2, w ∈ GB := fun w hw => gb_in (List.mem_append_right _ ((show ∀ w ∈ u_ws RX2 TX2 2, w ∈ tables_1 by decide +kernel) w hw)) ((List.all_eq_true.mp (show (u_ws RX2 TX2 2).all goodWord = true by decide +kernel)) w hw)
theorem lay_X3 : ∀ w ∈ u_ws RX3 TX3 6, w ∈ GB := fun w hw => gb_in (List.mem_append_right _ ((show ∀ w ∈ u_ws RX3 TX3 6, w ∈ tables_1 by decide +kernel) w hw)) ((List.all_eq_true.mp (show (u_ws RX3 TX3 6).all goodWord = true by decide +kernel)) w hw)
theorem lay_X4 : ∀ w ∈ u_ws RX4 TX4 1, w ∈ GB := fun w hw => gb_in (List.mem_append_right _ ((show ∀ w ∈ u_ws RX4 TX4 1, w ∈ tables_1 by decide +kernel) w hw)) ((List.all_eq_true.mp (show (u_ws RX4 TX4 1).all goodWord = true by decide +kernel)) w hw)
theorem lay_X5 : ∀ w ∈ u_ws RX5 TX5 9, w ∈ GB := fun w hw => gb_in (List.mem_append_right _ ((show ∀ w ∈ u_ws RX5 TX5 9, w ∈ tables_1 by decide +kernel) w hw)) ((List.all_eq_true.mp (show (u_ws RX5 TX5 9).all goodWord = true by decide +kernel)) w hw)
theorem lay_X6 : ∀ w ∈ u_ws RX6 TX6 6, w ∈ GB := fun w hw => gb_in (List.mem_append_right _ ((show ∀ w ∈ u_ws RX6 TX6 6, w ∈ tables_1 by decide +kernel) w hw)) ((List.all_eq_true.mp (show (u_ws RX6 TX6 6).all goodWord = true by decide +kernel)) w hw)
theorem lay_X7 : ∀ w ∈ u_ws RX7 TX7 5, w ∈ GB := fun w hw => gb_in (List.mem_append_right _ ((show ∀ w ∈ u_ws RX7 TX7 5, w ∈ tables_1 by decide +kernel) w hw)) ((List.all_eq_true.mp (show (u_ws RX7 TX7 5).all goodWord = true by decide +kernel)) w hw)
theorem lay_X8 : ∀ w ∈ u_ws RX8 TX8 12, w ∈ GB := fun w hw => gb_in (List.mem_append_right _ ((show ∀ w ∈ u_ws RX8 TX8 12, w ∈ tables_1 by decide +kernel) w hw)) ((List.all_eq_true.mp (show (u_ws RX8 TX8 12).all goodWord = true by decide +kernel)) w hw)
/-- the links to nest mates: they are said of a state, not handed on -/
def nestL : List Cond := [Cond.methodLinkNest RX7 9 yX1_init "HangingKeys",
  Cond.methodLinkNest RX1 11 yX5_init "HangingKeys",
  Cond.fieldLinkNest RX1 25 "HangingKeys$Tree" "mostWear" "I" "HangingKeys",
  Cond.fieldLinkNest RX7 174 "HangingKeys$Tree" "mostWear" "I" "HangingKeys",
  Cond.fieldLinkNest RX1 33 "HangingKeys$Tree" "keys" "I" "HangingKeys",
  Cond.fieldLinkNest RX7 155 "HangingKeys$Tree" "keys" "I" "HangingKeys",
  Cond.fieldLinkNest RX1 50 "HangingKeys$Tree" "boxes" "I" "HangingKeys",
  Cond.fieldLinkNest RX7 162 "HangingKeys$Tree" "boxes" "I" "HangingKeys",
  Cond.fieldLinkNest RX7 159 "HangingKeys$Tree" "liveKeys" "I" "HangingKeys",
  Cond.fieldLinkNest RX7 165 "HangingKeys$Tree" "liveBoxes" "I" "HangingKeys",
  Cond.methodLinkNest RX1 20 yX6_init "HangingKeys",
  Cond.fieldLinkNest RX2 73 "HangingKeys$Wraps" "number" "I" "HangingKeys",
  Cond.fieldLinkNest RX7 168 "HangingKeys$Wraps" "number" "I" "HangingKeys",
  Cond.fieldLinkNest RX2 23 "HangingKeys$House" "tree" "LHangingKeys$Tree;" "HangingKeys",
  Cond.fieldLinkNest RX7 68 "HangingKeys$House" "tree" "LHangingKeys$Tree;" "HangingKeys",
  Cond.fieldLinkNest RX2 33 "HangingKeys$House" "wraps" "LHangingKeys$Wraps;" "HangingKeys",
  Cond.fieldLinkNest RX7 128 "HangingKeys$House" "wraps" "LHangingKeys$Wraps;" "HangingKeys",
  Cond.methodLinkNest RX7 18 yX2_init "HangingKeys",
  Cond.methodLinkNest RX7 25 yX3_init "HangingKeys",
  Cond.fieldLinkNest RX7 181 "HangingKeys$Pad" "length" "I" "HangingKeys",
  Cond.fieldLinkNest RX7 237 "HangingKeys$Pad" "letter" "I" "HangingKeys",
  Cond.fieldLinkNest RX7 240 "HangingKeys$Pad" "target" "I" "HangingKeys",
  Cond.fieldLinkNest RX7 243 "HangingKeys$Pad" "place" "I" "HangingKeys",
  Cond.methodLinkNest RX0 24 yX1_init "HangingKeys",
  Cond.fieldLinkNest RX7 184 "HangingKeys$History" "number" "I" "HangingKeys",
  Cond.methodLinkNest RX5 45 yX7_has "HangingKeys",
  Cond.methodLinkNest RX5 66 yX7_setOf "HangingKeys",
  Cond.methodLinkNest RX1 66 yX7_setOf "HangingKeys",
  Cond.methodLinkNest RX6 60 yX7_setOf "HangingKeys",
  Cond.methodLinkNest RX1 115 yX7_has "HangingKeys",
  Cond.methodLinkNest RX6 63 yX7_has "HangingKeys",
  Cond.methodLinkNest RX2 102 yX7_setOf "HangingKeys"]
theorem nl_X7_9 : Cond.methodLinkNest RX7 9 yX1_init "HangingKeys" ∈ nestL := List.mem_of_getElem? (i := 0) rfl
theorem nl_X1_11 : Cond.methodLinkNest RX1 11 yX5_init "HangingKeys" ∈ nestL := List.mem_of_getElem? (i := 1) rfl
theorem nl_X1_25 : Cond.fieldLinkNest RX1 25 "HangingKeys$Tree" "mostWear" "I" "HangingKeys" ∈ nestL := List.mem_of_getElem? (i := 2) rfl
theorem nl_X7_174 : Cond.fieldLinkNest RX7 174 "HangingKeys$Tree" "mostWear" "I" "HangingKeys" ∈ nestL := List.mem_of_getElem? (i := 3) rfl
theorem nl_X1_33 : Cond.fieldLinkNest RX1 33 "HangingKeys$Tree" "keys" "I" "HangingKeys" ∈ nestL := List.mem_of_getElem? (i := 4) rfl
theorem nl_X7_155 : Cond.fieldLinkNest RX7 155 "HangingKeys$Tree" "keys" "I" "HangingKeys" ∈ nestL := List.mem_of_getElem? (i := 5) rfl
theorem nl_X1_50 : Cond.fieldLinkNest RX1 50 "HangingKeys$Tree" "boxes" "I" "HangingKeys" ∈ nestL := List.mem_of_getElem? (i := 6) rfl
theorem nl_X7_162 : Cond.fieldLinkNest RX7 162 "HangingKeys$Tree" "boxes" "I" "HangingKeys" ∈ nestL := List.mem_of_getElem? (i := 7) rfl
theorem nl_X7_159 : Cond.fieldLinkNest RX7 159 "HangingKeys$Tree" "liveKeys" "I" "HangingKeys" ∈ nestL := List.mem_of_getElem? (i := 8) rfl
theorem nl_X7_165 : Cond.fieldLinkNest RX7 165 "HangingKeys$Tree" "liveBoxes" "I" "HangingKeys" ∈ nestL := List.mem_of_getElem? (i := 9) rfl
theorem nl_X1_20 : Cond.methodLinkNest RX1 20 yX6_init "HangingKeys" ∈ nestL := List.mem_of_getElem? (i := 10) rfl
theorem nl_X2_73 : Cond.fieldLinkNest RX2 73 "HangingKeys$Wraps" "number" "I" "HangingKeys" ∈ nestL := List.mem_of_getElem? (i := 11) rfl
theorem nl_X7_168 : Cond.fieldLinkNest RX7 168 "HangingKeys$Wraps" "number" "I" "HangingKeys" ∈ nestL := List.mem_of_getElem? (i := 12) rfl
theorem nl_X2_23 : Cond.fieldLinkNest RX2 23 "HangingKeys$House" "tree" "LHangingKeys$Tree;" "HangingKeys" ∈ nestL := List.mem_of_getElem? (i := 13) rfl
theorem nl_X7_68 : Cond.fieldLinkNest RX7 68 "HangingKeys$House" "tree" "LHangingKeys$Tree;" "HangingKeys" ∈ nestL := List.mem_of_getElem? (i := 14) rfl
theorem nl_X2_33 : Cond.fieldLinkNest RX2 33 "HangingKeys$House" "wraps" "LHangingKeys$Wraps;" "HangingKeys" ∈ nestL := List.mem_of_getElem? (i := 15) rfl
theorem nl_X7_128 : Cond.fieldLinkNest RX7 128 "HangingKeys$House" "wraps" "LHangingKeys$Wraps;" "HangingKeys" ∈ nestL := List.mem_of_getElem? (i := 16) rfl
theorem nl_X7_18 : Cond.methodLinkNest RX7 18 yX2_init "HangingKeys" ∈ nestL := List.mem_of_getElem? (i := 17) rfl
theorem nl_X7_25 : Cond.methodLinkNest RX7 25 yX3_init "HangingKeys" ∈ nestL := List.mem_of_getElem? (i := 18) rfl
theorem nl_X7_181 : Cond.fieldLinkNest RX7 181 "HangingKeys$Pad" "length" "I" "HangingKeys" ∈ nestL := List.mem_of_getElem? (i := 19) rfl
theorem nl_X7_237 : Cond.fieldLinkNest RX7 237 "HangingKeys$Pad" "letter" "I" "HangingKeys" ∈ nestL := List.mem_of_getElem? (i := 20) rfl
theorem nl_X7_240 : Cond.fieldLinkNest RX7 240 "HangingKeys$Pad" "target" "I" "HangingKeys" ∈ nestL := List.mem_of_getElem? (i := 21) rfl
theorem nl_X7_243 : Cond.fieldLinkNest RX7 243 "HangingKeys$Pad" "place" "I" "HangingKeys" ∈ nestL := List.mem_of_getElem? (i := 22) rfl
theorem nl_X0_24 : Cond.methodLinkNest RX0 24 yX1_init "HangingKeys" ∈ nestL := List.mem_of_getElem? (i := 23) rfl
theorem nl_X7_184 : Cond.fieldLinkNest RX7 184 "HangingKeys$History" "number" "I" "HangingKeys" ∈ nestL := List.mem_of_getElem? (i := 24) rfl
theorem nl_X5_45 : Cond.methodLinkNest RX5 45 yX7_has "HangingKeys" ∈ nestL := List.mem_of_getElem? (i := 25) rfl
theorem nl_X5_66 : Cond.methodLinkNest RX5 66 yX7_setOf "HangingKeys" ∈ nestL := List.mem_of_getElem? (i := 26) rfl
theorem nl_X1_66 : Cond.methodLinkNest RX1 66 yX7_setOf "HangingKeys" ∈ nestL := List.mem_of_getElem? (i := 27) rfl
theorem nl_X6_60 : Cond.methodLinkNest RX6 60 yX7_setOf "HangingKeys" ∈ nestL := List.mem_of_getElem? (i := 28) rfl
theorem nl_X1_115 : Cond.methodLinkNest RX1 115 yX7_has "HangingKeys" ∈ nestL := List.mem_of_getElem? (i := 29) rfl
theorem nl_X6_63 : Cond.methodLinkNest RX6 63 yX7_has "HangingKeys" ∈ nestL := List.mem_of_getElem? (i := 30) rfl
theorem nl_X2_102 : Cond.methodLinkNest RX2 102 yX7_setOf "HangingKeys" ∈ nestL := List.mem_of_getElem? (i := 31) rfl
theorem nest_in : ∀ w ∈ nestL, w ∈ lw_tbl := by
  intro w hw
  refine List.mem_append_right _ ?_
  revert w
  decide +kernel
