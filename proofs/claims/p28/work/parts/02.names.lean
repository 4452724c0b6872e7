/-! names, the tables' words one by one (a program wrote them out of the printed claim) -/
def RX0 : String := "HangingKeys$History"
def TX0 : u_T := fun k => match k with
  | 0 => ("HangingKeys$History", "states", "[LHangingKeys$House;", true)
  | 1 => ("HangingKeys$History", "spare", "I", false)
  | _ => ("HangingKeys$History", "number", "I", false)
def tyX0 : Nat → FieldType := fun k => match k with
  | 0 => .array (.object "HangingKeys$House")
  | 1 => .int
  | _ => .int
abbrev wsX00 : List Cond := u_ws RX0 TX0 3
theorem nmX0 : ∀ a, a < 3 → ∀ b, b < 3 → a ≠ b → (TX0 a).2.1 ≠ (TX0 b).2.1 := by decide +kernel
theorem tyX0_ok : ∀ k, k < 3 → parseFieldDescriptor (TX0 k).2.2.1 = some (tyX0 k) := by decide +kernel
abbrev cX0_init : ByteArray := prog_2_method_1_code
def yX0_init : MethodName := ⟨RX0, "<init>", "()V"⟩
abbrev cX0_noteBefore : ByteArray := prog_2_method_2_code
def yX0_noteBefore : MethodName := ⟨RX0, "noteBefore", "(LHangingKeys$House;)V"⟩
abbrev cX0_settle : ByteArray := prog_2_method_3_code
def yX0_settle : MethodName := ⟨RX0, "settle", "(I)I"⟩
abbrev cX0_stateAt : ByteArray := prog_2_method_5_code
def yX0_stateAt : MethodName := ⟨RX0, "stateAt", "(I)LHangingKeys$House;"⟩
def RX1 : String := "HangingKeys$House"
def TX1 : u_T := fun k => match k with
  | 0 => ("HangingKeys$House", "tree", "LHangingKeys$Tree;", true)
  | _ => ("HangingKeys$House", "wraps", "LHangingKeys$Wraps;", true)
def tyX1 : Nat → FieldType := fun k => match k with
  | 0 => .object "HangingKeys$Tree"
  | _ => .object "HangingKeys$Wraps"
abbrev wsX10 : List Cond := u_ws RX1 TX1 2
theorem nmX1 : ∀ a, a < 2 → ∀ b, b < 2 → a ≠ b → (TX1 a).2.1 ≠ (TX1 b).2.1 := by decide +kernel
theorem tyX1_ok : ∀ k, k < 2 → parseFieldDescriptor (TX1 k).2.2.1 = some (tyX1 k) := by decide +kernel
abbrev cX1_init : ByteArray := prog_3_method_1_code
def yX1_init : MethodName := ⟨RX1, "<init>", "()V"⟩
abbrev cX1_changeWear : ByteArray := prog_3_method_2_code
def yX1_changeWear : MethodName := ⟨RX1, "changeWear", "(I)I"⟩
abbrev cX1_makeKey : ByteArray := prog_3_method_3_code
def yX1_makeKey : MethodName := ⟨RX1, "makeKey", "(I)I"⟩
abbrev cX1_makeBox : ByteArray := prog_3_method_4_code
def yX1_makeBox : MethodName := ⟨RX1, "makeBox", "(I)I"⟩
abbrev cX1_copyOut : ByteArray := prog_3_method_5_code
def yX1_copyOut : MethodName := ⟨RX1, "copyOut", "(II)I"⟩
abbrev cX1_makeAnew : ByteArray := prog_3_method_6_code
def yX1_makeAnew : MethodName := ⟨RX1, "makeAnew", "(I)I"⟩
abbrev cX1_throwAway : ByteArray := prog_3_method_7_code
def yX1_throwAway : MethodName := ⟨RX1, "throwAway", "(II)I"⟩
abbrev cX1_wrapsByThrowing : ByteArray := prog_3_method_8_code
def yX1_wrapsByThrowing : MethodName := ⟨RX1, "wrapsByThrowing", "(II)I"⟩
abbrev cX1_hangingWithout : ByteArray := prog_3_method_9_code
def yX1_hangingWithout : MethodName := ⟨RX1, "hangingWithout", "(III)I"⟩
abbrev cX1_canWrapAgain : ByteArray := prog_3_method_10_code
def yX1_canWrapAgain : MethodName := ⟨RX1, "canWrapAgain", "(III)Z"⟩
abbrev cX1_startNextMakes : ByteArray := prog_3_method_11_code
def yX1_startNextMakes : MethodName := ⟨RX1, "startNextMakes", "(I)V"⟩
abbrev cX1_wrapAllOn : ByteArray := prog_3_method_12_code
def yX1_wrapAllOn : MethodName := ⟨RX1, "wrapAllOn", "(I)V"⟩
abbrev cX1_wrapKey : ByteArray := prog_3_method_13_code
def yX1_wrapKey : MethodName := ⟨RX1, "wrapKey", "(I)V"⟩
abbrev cX1_wrapBox : ByteArray := prog_3_method_14_code
def yX1_wrapBox : MethodName := ⟨RX1, "wrapBox", "(I)V"⟩
abbrev cX1_become : ByteArray := prog_3_method_16_code
def yX1_become : MethodName := ⟨RX1, "become", "(LHangingKeys$House;)V"⟩
def RX2 : String := "HangingKeys$Opening"
def TX2 : u_T := fun k => match k with
  | 0 => ("HangingKeys$Opening", "startMakes", "LHangingKeys$Row;", true)
  | _ => ("HangingKeys$Opening", "opened", "LHangingKeys$Row;", true)
def tyX2 : Nat → FieldType := fun k => match k with
  | 0 => .object "HangingKeys$Row"
  | _ => .object "HangingKeys$Row"
abbrev wsX20 : List Cond := u_ws RX2 TX2 2
theorem nmX2 : ∀ a, a < 2 → ∀ b, b < 2 → a ≠ b → (TX2 a).2.1 ≠ (TX2 b).2.1 := by decide +kernel
theorem tyX2_ok : ∀ k, k < 2 → parseFieldDescriptor (TX2 k).2.2.1 = some (tyX2 k) := by decide +kernel
abbrev cX2_init : ByteArray := prog_4_method_1_code
def yX2_init : MethodName := ⟨RX2, "<init>", "()V"⟩
abbrev cX2_boxesWith : ByteArray := prog_4_method_2_code
def yX2_boxesWith : MethodName := ⟨RX2, "boxesWith", "(LHangingKeys$House;I)I"⟩
abbrev cX2_canHaveKey : ByteArray := prog_4_method_3_code
def yX2_canHaveKey : MethodName := ⟨RX2, "canHaveKey", "(LHangingKeys$House;III)Z"⟩
abbrev cX2_boxesByLeak : ByteArray := prog_4_method_4_code
def yX2_boxesByLeak : MethodName := ⟨RX2, "boxesByLeak", "(LHangingKeys$House;III)I"⟩
abbrev cX2_startFromSafe : ByteArray := prog_4_method_5_code
def yX2_startFromSafe : MethodName := ⟨RX2, "startFromSafe", "(LHangingKeys$Tree;)V"⟩
abbrev cX2_openAll : ByteArray := prog_4_method_6_code
def yX2_openAll : MethodName := ⟨RX2, "openAll", "(LHangingKeys$Wraps;I)V"⟩
abbrev cX2_openHolding : ByteArray := prog_4_method_7_code
def yX2_openHolding : MethodName := ⟨RX2, "openHolding", "(LHangingKeys$Wraps;II)V"⟩
abbrev cX2_isHad : ByteArray := prog_4_method_8_code
def yX2_isHad : MethodName := ⟨RX2, "isHad", "(LHangingKeys$Wraps;II)Z"⟩
abbrev cX2_openedBoxes : ByteArray := prog_4_method_9_code
def yX2_openedBoxes : MethodName := ⟨RX2, "openedBoxes", "(LHangingKeys$Wraps;)I"⟩
def RX3 : String := "HangingKeys$Pad"
def TX3 : u_T := fun k => match k with
  | 0 => ("HangingKeys$Pad", "signs", "LHangingKeys$Row;", true)
  | 1 => ("HangingKeys$Pad", "length", "I", false)
  | 2 => ("HangingKeys$Pad", "next", "I", false)
  | 3 => ("HangingKeys$Pad", "letter", "I", false)
  | 4 => ("HangingKeys$Pad", "target", "I", false)
  | _ => ("HangingKeys$Pad", "place", "I", false)
def tyX3 : Nat → FieldType := fun k => match k with
  | 0 => .object "HangingKeys$Row"
  | 1 => .int
  | 2 => .int
  | 3 => .int
  | 4 => .int
  | _ => .int
abbrev wsX30 : List Cond := u_ws RX3 TX3 6
theorem nmX3 : ∀ a, a < 6 → ∀ b, b < 6 → a ≠ b → (TX3 a).2.1 ≠ (TX3 b).2.1 := by decide +kernel
theorem tyX3_ok : ∀ k, k < 6 → parseFieldDescriptor (TX3 k).2.2.1 = some (tyX3 k) := by decide +kernel
abbrev cX3_init : ByteArray := prog_5_method_1_code
def yX3_init : MethodName := ⟨RX3, "<init>", "()V"⟩
def RX4 : String := "HangingKeys$Row"
def TX4 : u_T := fun k => match k with
  | _ => ("HangingKeys$Row", "cells", "[I", true)
def tyX4 : Nat → FieldType := fun k => match k with
  | _ => .array .int
abbrev wsX40 : List Cond := u_ws RX4 TX4 1
theorem nmX4 : ∀ a, a < 1 → ∀ b, b < 1 → a ≠ b → (TX4 a).2.1 ≠ (TX4 b).2.1 := by decide +kernel
theorem tyX4_ok : ∀ k, k < 1 → parseFieldDescriptor (TX4 k).2.2.1 = some (tyX4 k) := by decide +kernel
abbrev cX4_init : ByteArray := prog_6_method_1_code
def yX4_init : MethodName := ⟨RX4, "<init>", "(I)V"⟩
abbrev cX4_at : ByteArray := prog_6_method_2_code
def yX4_at : MethodName := ⟨RX4, "at", "(I)I"⟩
abbrev cX4_set : ByteArray := prog_6_method_3_code
def yX4_set : MethodName := ⟨RX4, "set", "(II)V"⟩
abbrev cX4_add : ByteArray := prog_6_method_4_code
def yX4_add : MethodName := ⟨RX4, "add", "(II)V"⟩
abbrev cX4_fill : ByteArray := prog_6_method_5_code
def yX4_fill : MethodName := ⟨RX4, "fill", "(I)V"⟩
abbrev cX4_become : ByteArray := prog_6_method_6_code
def yX4_become : MethodName := ⟨RX4, "become", "(LHangingKeys$Row;)V"⟩
def RX5 : String := "HangingKeys$Tree"
def TX5 : u_T := fun k => match k with
  | 0 => ("HangingKeys$Tree", "mostWear", "I", false)
  | 1 => ("HangingKeys$Tree", "keys", "I", false)
  | 2 => ("HangingKeys$Tree", "boxes", "I", false)
  | 3 => ("HangingKeys$Tree", "liveKeys", "I", false)
  | 4 => ("HangingKeys$Tree", "liveBoxes", "I", false)
  | 5 => ("HangingKeys$Tree", "parents", "LHangingKeys$Row;", true)
  | 6 => ("HangingKeys$Tree", "makes", "LHangingKeys$Row;", true)
  | 7 => ("HangingKeys$Tree", "wears", "LHangingKeys$Row;", true)
  | _ => ("HangingKeys$Tree", "keysOfBoxes", "LHangingKeys$Row;", true)
def tyX5 : Nat → FieldType := fun k => match k with
  | 0 => .int
  | 1 => .int
  | 2 => .int
  | 3 => .int
  | 4 => .int
  | 5 => .object "HangingKeys$Row"
  | 6 => .object "HangingKeys$Row"
  | 7 => .object "HangingKeys$Row"
  | _ => .object "HangingKeys$Row"
abbrev wsX50 : List Cond := u_ws RX5 TX5 9
theorem nmX5 : ∀ a, a < 9 → ∀ b, b < 9 → a ≠ b → (TX5 a).2.1 ≠ (TX5 b).2.1 := by decide +kernel
theorem tyX5_ok : ∀ k, k < 9 → parseFieldDescriptor (TX5 k).2.2.1 = some (tyX5 k) := by decide +kernel
abbrev cX5_init : ByteArray := prog_7_method_1_code
def yX5_init : MethodName := ⟨RX5, "<init>", "()V"⟩
abbrev cX5_hasKey : ByteArray := prog_7_method_2_code
def yX5_hasKey : MethodName := ⟨RX5, "hasKey", "(I)Z"⟩
abbrev cX5_hasBox : ByteArray := prog_7_method_3_code
def yX5_hasBox : MethodName := ⟨RX5, "hasBox", "(I)Z"⟩
abbrev cX5_isLiveKey : ByteArray := prog_7_method_4_code
def yX5_isLiveKey : MethodName := ⟨RX5, "isLiveKey", "(I)Z"⟩
abbrev cX5_isLiveBox : ByteArray := prog_7_method_5_code
def yX5_isLiveBox : MethodName := ⟨RX5, "isLiveBox", "(I)Z"⟩
abbrev cX5_isLive : ByteArray := prog_7_method_6_code
def yX5_isLive : MethodName := ⟨RX5, "isLive", "(II)Z"⟩
abbrev cX5_isRoot : ByteArray := prog_7_method_7_code
def yX5_isRoot : MethodName := ⟨RX5, "isRoot", "(I)Z"⟩
abbrev cX5_parentOf : ByteArray := prog_7_method_8_code
def yX5_parentOf : MethodName := ⟨RX5, "parentOf", "(I)I"⟩
abbrev cX5_makeOf : ByteArray := prog_7_method_9_code
def yX5_makeOf : MethodName := ⟨RX5, "makeOf", "(I)I"⟩
abbrev cX5_wearOf : ByteArray := prog_7_method_10_code
def yX5_wearOf : MethodName := ⟨RX5, "wearOf", "(I)I"⟩
abbrev cX5_keyOfBox : ByteArray := prog_7_method_11_code
def yX5_keyOfBox : MethodName := ⟨RX5, "keyOfBox", "(I)I"⟩
abbrev cX5_leftToClose : ByteArray := prog_7_method_12_code
def yX5_leftToClose : MethodName := ⟨RX5, "leftToClose", "(I)I"⟩
abbrev cX5_above : ByteArray := prog_7_method_13_code
def yX5_above : MethodName := ⟨RX5, "above", "(I)I"⟩
abbrev cX5_aboveBox : ByteArray := prog_7_method_14_code
def yX5_aboveBox : MethodName := ⟨RX5, "aboveBox", "(I)I"⟩
abbrev cX5_aboveThat : ByteArray := prog_7_method_15_code
def yX5_aboveThat : MethodName := ⟨RX5, "aboveThat", "(II)I"⟩
abbrev cX5_withAllBelow : ByteArray := prog_7_method_16_code
def yX5_withAllBelow : MethodName := ⟨RX5, "withAllBelow", "(I)I"⟩
abbrev cX5_liveKeysOn : ByteArray := prog_7_method_17_code
def yX5_liveKeysOn : MethodName := ⟨RX5, "liveKeysOn", "(I)I"⟩
abbrev cX5_liveBoxesOn : ByteArray := prog_7_method_18_code
def yX5_liveBoxesOn : MethodName := ⟨RX5, "liveBoxesOn", "(I)I"⟩
abbrev cX5_wornKeys : ByteArray := prog_7_method_19_code
def yX5_wornKeys : MethodName := ⟨RX5, "wornKeys", "()I"⟩
abbrev cX5_addKey : ByteArray := prog_7_method_21_code
def yX5_addKey : MethodName := ⟨RX5, "addKey", "(I)I"⟩
abbrev cX5_addBox : ByteArray := prog_7_method_22_code
def yX5_addBox : MethodName := ⟨RX5, "addBox", "(I)I"⟩
abbrev cX5_startNextMake : ByteArray := prog_7_method_23_code
def yX5_startNextMake : MethodName := ⟨RX5, "startNextMake", "(I)V"⟩
abbrev cX5_wearDown : ByteArray := prog_7_method_24_code
def yX5_wearDown : MethodName := ⟨RX5, "wearDown", "(I)V"⟩
abbrev cX5_endLife : ByteArray := prog_7_method_25_code
def yX5_endLife : MethodName := ⟨RX5, "endLife", "(II)V"⟩
abbrev cX5_become : ByteArray := prog_7_method_26_code
def yX5_become : MethodName := ⟨RX5, "become", "(LHangingKeys$Tree;)V"⟩
def RX6 : String := "HangingKeys$Wraps"
def TX6 : u_T := fun k => match k with
  | 0 => ("HangingKeys$Wraps", "number", "I", false)
  | 1 => ("HangingKeys$Wraps", "heldKeys", "LHangingKeys$Row;", true)
  | 2 => ("HangingKeys$Wraps", "heldWhats", "LHangingKeys$Row;", true)
  | 3 => ("HangingKeys$Wraps", "closers", "LHangingKeys$Row;", true)
  | 4 => ("HangingKeys$Wraps", "closerMakes", "LHangingKeys$Row;", true)
  | _ => ("HangingKeys$Wraps", "stands", "LHangingKeys$Row;", true)
def tyX6 : Nat → FieldType := fun k => match k with
  | 0 => .int
  | 1 => .object "HangingKeys$Row"
  | 2 => .object "HangingKeys$Row"
  | 3 => .object "HangingKeys$Row"
  | 4 => .object "HangingKeys$Row"
  | _ => .object "HangingKeys$Row"
abbrev wsX60 : List Cond := u_ws RX6 TX6 6
theorem nmX6 : ∀ a, a < 6 → ∀ b, b < 6 → a ≠ b → (TX6 a).2.1 ≠ (TX6 b).2.1 := by decide +kernel
theorem tyX6_ok : ∀ k, k < 6 → parseFieldDescriptor (TX6 k).2.2.1 = some (tyX6 k) := by decide +kernel
abbrev cX6_init : ByteArray := prog_8_method_1_code
def yX6_init : MethodName := ⟨RX6, "<init>", "()V"⟩
abbrev cX6_isOne : ByteArray := prog_8_method_2_code
def yX6_isOne : MethodName := ⟨RX6, "isOne", "(I)Z"⟩
abbrev cX6_haveRoomFor : ByteArray := prog_8_method_3_code
def yX6_haveRoomFor : MethodName := ⟨RX6, "haveRoomFor", "(I)Z"⟩
abbrev cX6_heldKey : ByteArray := prog_8_method_4_code
def yX6_heldKey : MethodName := ⟨RX6, "heldKey", "(I)I"⟩
abbrev cX6_heldWhat : ByteArray := prog_8_method_5_code
def yX6_heldWhat : MethodName := ⟨RX6, "heldWhat", "(I)I"⟩
abbrev cX6_closer : ByteArray := prog_8_method_6_code
def yX6_closer : MethodName := ⟨RX6, "closer", "(I)I"⟩
abbrev cX6_closerMake : ByteArray := prog_8_method_7_code
def yX6_closerMake : MethodName := ⟨RX6, "closerMake", "(I)I"⟩
abbrev cX6_standsIn : ByteArray := prog_8_method_8_code
def yX6_standsIn : MethodName := ⟨RX6, "standsIn", "(II)Z"⟩
abbrev cX6_placesOf : ByteArray := prog_8_method_9_code
def yX6_placesOf : MethodName := ⟨RX6, "placesOf", "(I)I"⟩
abbrev cX6_standingIn : ByteArray := prog_8_method_10_code
def yX6_standingIn : MethodName := ⟨RX6, "standingIn", "(I)I"⟩
abbrev cX6_holdsMake : ByteArray := prog_8_method_11_code
def yX6_holdsMake : MethodName := ⟨RX6, "holdsMake", "(III)Z"⟩
abbrev cX6_add : ByteArray := prog_8_method_15_code
def yX6_add : MethodName := ⟨RX6, "add", "(IIII)V"⟩
abbrev cX6_standAlsoIn : ByteArray := prog_8_method_16_code
def yX6_standAlsoIn : MethodName := ⟨RX6, "standAlsoIn", "(II)V"⟩
abbrev cX6_burnHolding : ByteArray := prog_8_method_17_code
def yX6_burnHolding : MethodName := ⟨RX6, "burnHolding", "(II)V"⟩
abbrev cX6_burnOlderThan : ByteArray := prog_8_method_18_code
def yX6_burnOlderThan : MethodName := ⟨RX6, "burnOlderThan", "(II)V"⟩
abbrev cX6_burn : ByteArray := prog_8_method_19_code
def yX6_burn : MethodName := ⟨RX6, "burn", "(I)V"⟩
abbrev cX6_become : ByteArray := prog_8_method_20_code
def yX6_become : MethodName := ⟨RX6, "become", "(LHangingKeys$Wraps;)V"⟩
def RX7 : String := "HangingKeys"
def TX7 : u_T := fun k => match k with
  | 0 => ("HangingKeys", "house", "LHangingKeys$House;", true)
  | 1 => ("HangingKeys", "opening", "LHangingKeys$Opening;", true)
  | 2 => ("HangingKeys", "pad", "LHangingKeys$Pad;", true)
  | 3 => ("HangingKeys", "history", "LHangingKeys$History;", true)
  | _ => ("HangingKeys", "slots", "[LHangingKeys$House;", true)
def tyX7 : Nat → FieldType := fun k => match k with
  | 0 => .object "HangingKeys$House"
  | 1 => .object "HangingKeys$Opening"
  | 2 => .object "HangingKeys$Pad"
  | 3 => .object "HangingKeys$History"
  | _ => .array (.object "HangingKeys$House")
abbrev wsX70 : List Cond := u_ws RX7 TX7 5
theorem nmX7 : ∀ a, a < 5 → ∀ b, b < 5 → a ≠ b → (TX7 a).2.1 ≠ (TX7 b).2.1 := by decide +kernel
theorem tyX7_ok : ∀ k, k < 5 → parseFieldDescriptor (TX7 k).2.2.1 = some (tyX7 k) := by decide +kernel
abbrev cX7_init : ByteArray := prog_1_method_1_code
def yX7_init : MethodName := ⟨RX7, "<init>", "()V"⟩
abbrev cX7_wear : ByteArray := prog_1_method_2_code
def yX7_wear : MethodName := ⟨RX7, "wear", "(I)I"⟩
abbrev cX7_key : ByteArray := prog_1_method_3_code
def yX7_key : MethodName := ⟨RX7, "key", "(I)I"⟩
abbrev cX7_box : ByteArray := prog_1_method_4_code
def yX7_box : MethodName := ⟨RX7, "box", "(I)I"⟩
abbrev cX7_copy : ByteArray := prog_1_method_5_code
def yX7_copy : MethodName := ⟨RX7, "copy", "(II)I"⟩
abbrev cX7_renew : ByteArray := prog_1_method_6_code
def yX7_renew : MethodName := ⟨RX7, "renew", "(I)I"⟩
abbrev cX7_throwKey : ByteArray := prog_1_method_7_code
def yX7_throwKey : MethodName := ⟨RX7, "throwKey", "(I)I"⟩
abbrev cX7_throwBox : ByteArray := prog_1_method_8_code
def yX7_throwBox : MethodName := ⟨RX7, "throwBox", "(I)I"⟩
abbrev cX7_ofKey : ByteArray := prog_1_method_9_code
def yX7_ofKey : MethodName := ⟨RX7, "ofKey", "(II)I"⟩
abbrev cX7_ofBox : ByteArray := prog_1_method_10_code
def yX7_ofBox : MethodName := ⟨RX7, "ofBox", "(II)I"⟩
abbrev cX7_wrap : ByteArray := prog_1_method_11_code
def yX7_wrap : MethodName := ⟨RX7, "wrap", "(II)I"⟩
abbrev cX7_count : ByteArray := prog_1_method_12_code
def yX7_count : MethodName := ⟨RX7, "count", "(I)I"⟩
abbrev cX7_canOpen : ByteArray := prog_1_method_13_code
def yX7_canOpen : MethodName := ⟨RX7, "canOpen", "(II)I"⟩
abbrev cX7_canHave : ByteArray := prog_1_method_14_code
def yX7_canHave : MethodName := ⟨RX7, "canHave", "(III)I"⟩
abbrev cX7_leaks : ByteArray := prog_1_method_16_code
def yX7_leaks : MethodName := ⟨RX7, "leaks", "(III)I"⟩
abbrev cX7_lostBy : ByteArray := prog_1_method_17_code
def yX7_lostBy : MethodName := ⟨RX7, "lostBy", "(I)I"⟩
abbrev cX7_throwingMakes : ByteArray := prog_1_method_18_code
def yX7_throwingMakes : MethodName := ⟨RX7, "throwingMakes", "(II)I"⟩
abbrev cX7_oneIf : ByteArray := prog_1_method_28_code
def yX7_oneIf : MethodName := ⟨RX7, "oneIf", "(Z)I"⟩
abbrev cX7_setOf : ByteArray := prog_1_method_29_code
def yX7_setOf : MethodName := ⟨RX7, "setOf", "(I)I"⟩
abbrev cX7_has : ByteArray := prog_1_method_30_code
def yX7_has : MethodName := ⟨RX7, "has", "(II)Z"⟩
abbrev cX7_arePlaces : ByteArray := prog_1_method_31_code
def yX7_arePlaces : MethodName := ⟨RX7, "arePlaces", "(I)Z"⟩
def RX8 : String := "HangingKeysModel"
def TX8 : u_T := fun k => match k with
  | _ => ("", "", "", false)
def tyX8 : Nat → FieldType := fun k => match k with
  | _ => .int
abbrev wsX80 : List Cond := u_ws RX8 TX8 0
theorem nmX8 : ∀ a, a < 0 → ∀ b, b < 0 → a ≠ b → (TX8 a).2.1 ≠ (TX8 b).2.1 := by decide +kernel
theorem tyX8_ok : ∀ k, k < 0 → parseFieldDescriptor (TX8 k).2.2.1 = some (tyX8 k) := by decide +kernel
def RJ6 : String := "java/lang/Integer"
abbrev cJ6_bitCount_0f7a4 : ByteArray := prog_11_method_49_code
def yJ6_bitCount_0f7a4 : MethodName := ⟨RJ6, "bitCount", "(I)I"⟩
def RJ9 : String := "java/lang/Math"
abbrev cJ9_max_7cf53 : ByteArray := prog_12_method_65_code
def yJ9_max_7cf53 : MethodName := ⟨RJ9, "max", "(II)I"⟩
abbrev cJ9_min_7cf53 : ByteArray := prog_12_method_69_code
def yJ9_min_7cf53 : MethodName := ⟨RJ9, "min", "(II)I"⟩
def RJ10 : String := "java/lang/System"
def RL : String := "HangingKeysLaw"
abbrev cL_cell : ByteArray := method_2_code
def yL_cell : MethodName := ⟨RL, "cell", "([II)I"⟩
abbrev cL_low : ByteArray := method_3_code
def yL_low : MethodName := ⟨RL, "low", "(II)I"⟩
abbrev cL_made : ByteArray := method_4_code
def yL_made : MethodName := ⟨RL, "made", "(IIII)I"⟩
abbrev cL_key : ByteArray := method_5_code
def yL_key : MethodName := ⟨RL, "key", "(I)I"⟩
abbrev cL_which : ByteArray := method_6_code
def yL_which : MethodName := ⟨RL, "which", "(I)I"⟩
abbrev cL_closer : ByteArray := method_7_code
def yL_closer : MethodName := ⟨RL, "closer", "(I)I"⟩
abbrev cL_closed : ByteArray := method_8_code
def yL_closed : MethodName := ⟨RL, "closed", "(I)I"⟩
abbrev cL_wrap : ByteArray := method_9_code
def yL_wrap : MethodName := ⟨RL, "wrap", "(III[I[I[I)V"⟩
abbrev cL_hang : ByteArray := method_10_code
def yL_hang : MethodName := ⟨RL, "hang", "(I[I[I[I)I"⟩
abbrev cL_wrapAll : ByteArray := method_11_code
def yL_wrapAll : MethodName := ⟨RL, "wrapAll", "(I[I[I[I[I)I"⟩
abbrev cL_burn : ByteArray := method_12_code
def yL_burn : MethodName := ⟨RL, "burn", "(I[I[I[I[I)V"⟩
abbrev cL_under : ByteArray := method_13_code
def yL_under : MethodName := ⟨RL, "under", "(II[I)Z"⟩
abbrev cL_anew : ByteArray := method_14_code
def yL_anew : MethodName := ⟨RL, "anew", "(I[I[I[I[I)I"⟩
abbrev cL_open : ByteArray := method_15_code
def yL_open : MethodName := ⟨RL, "open", "(III[I[I[I[J)V"⟩
abbrev cL_had : ByteArray := method_16_code
def yL_had : MethodName := ⟨RL, "had", "(IIII[I[I[I[J)Z"⟩
abbrev cL_boxes : ByteArray := method_17_code
def yL_boxes : MethodName := ⟨RL, "boxes", "([I[I[J)I"⟩
abbrev cL_same : ByteArray := method_18_code
def yL_same : MethodName := ⟨RL, "same", "(LHangingKeys;I[I[I[I[I[J)Z"⟩
abbrev cL_law : ByteArray := code
def yL_law : MethodName := ⟨RL, "law", "([I)Z"⟩
abbrev vwCl : List vw_C := [(RX0, TX0, 3), (RX1, TX1, 2), (RX2, TX2, 2), (RX3, TX3, 6), (RX4, TX4, 1), (RX5, TX5, 9), (RX6, TX6, 6), (RX7, TX7, 5)]
/-- the tables' words that a call hands on -/
noncomputable def GB : List Cond := lw_tbl.filter goodWord
theorem gb_in {w : Cond} (h : w ∈ lw_tbl) (hg : goodWord w = true) : w ∈ GB := List.mem_filter.mpr ⟨h, hg⟩
theorem gb_good {w : Cond} (h : w ∈ GB) : (w.onTables && w.keeps) = true ∨ ∃ ty, w = .arrayClass ty := good_of_word (List.mem_filter.mp h).2
theorem gb_tbl {w : Cond} (h : w ∈ GB) : w ∈ lw_tbl := (List.mem_filter.mp h).1
theorem in_L : Cond.initialized RL ∈ GB := gb_in (List.mem_append_right _ (List.mem_of_getElem? (i := 0) (by decide +kernel))) rfl
theorem in_X7 : Cond.initialized RX7 ∈ GB := gb_in (List.mem_append_right _ (List.mem_of_getElem? (i := 1) (by decide +kernel))) rfl
theorem in_X1 : Cond.initialized RX1 ∈ GB := gb_in (List.mem_append_right _ (List.mem_of_getElem? (i := 2) (by decide +kernel))) rfl
theorem in_X5 : Cond.initialized RX5 ∈ GB := gb_in (List.mem_append_right _ (List.mem_of_getElem? (i := 3) (by decide +kernel))) rfl
theorem in_X4 : Cond.initialized RX4 ∈ GB := gb_in (List.mem_append_right _ (List.mem_of_getElem? (i := 4) (by decide +kernel))) rfl
theorem in_J9 : Cond.initialized RJ9 ∈ GB := gb_in (List.mem_append_right _ (List.mem_of_getElem? (i := 5) (by decide +kernel))) rfl
theorem in_X6 : Cond.initialized RX6 ∈ GB := gb_in (List.mem_append_right _ (List.mem_of_getElem? (i := 6) (by decide +kernel))) rfl
theorem in_X2 : Cond.initialized RX2 ∈ GB := gb_in (List.mem_append_right _ (List.mem_of_getElem? (i := 7) (by decide +kernel))) rfl
theorem in_X3 : Cond.initialized RX3 ∈ GB := gb_in (List.mem_append_right _ (List.mem_of_getElem? (i := 8) (by decide +kernel))) rfl
theorem in_X0 : Cond.initialized RX0 ∈ GB := gb_in (List.mem_append_right _ (List.mem_of_getElem? (i := 9) (by decide +kernel))) rfl
theorem in_J10 : Cond.initialized RJ10 ∈ GB := gb_in (List.mem_append_right _ (List.mem_of_getElem? (i := 10) (by decide +kernel))) rfl
theorem in_J6 : Cond.initialized RJ6 ∈ GB := gb_in (List.mem_append_right _ (List.mem_of_getElem? (i := 11) (by decide +kernel))) rfl
theorem cl_L_48 : Cond.classLink RL 48 RX7 ∈ GB := gb_in (List.mem_append_right _ (List.mem_of_getElem? (i := 12) (by decide +kernel))) rfl
theorem ia_X7 : Cond.instantiable RX7 5 ∈ GB := gb_in (List.mem_append_right _ (List.mem_of_getElem? (i := 13) (by decide +kernel))) rfl
theorem ml_L_89 : Cond.methodLink RL 89 yX7_init ∈ GB := gb_in (List.mem_append_right _ (List.mem_of_getElem? (i := 14) (by decide +kernel))) rfl
theorem im_X7_init : Cond.instanceMethod yX7_init ∈ GB := gb_in (List.mem_append_right _ (List.mem_of_getElem? (i := 15) (by decide +kernel))) rfl
theorem co_X7_init : Cond.code yX7_init cX7_init 1 none ∈ GB := gb_in (List.mem_append_right _ (List.mem_of_getElem? (i := 16) (by decide +kernel))) rfl
theorem ml_X7_1 : Cond.methodLink RX7 1 ⟨"java/lang/Object", "<init>", "()V"⟩ ∈ GB := gb_in (List.mem_append_right _ (List.mem_of_getElem? (i := 17) (by decide +kernel))) rfl
theorem im_objInit : Cond.instanceMethod ⟨"java/lang/Object", "<init>", "()V"⟩ ∈ GB := gb_in (List.mem_append_right _ (List.mem_of_getElem? (i := 18) (by decide +kernel))) rfl
theorem co_objInit : Cond.code objectInit ⟨#[0xb1]⟩ 1 none ∈ GB := gb_in (List.mem_append_right _ (List.mem_of_getElem? (i := 19) (by decide +kernel))) rfl
theorem cl_X7_7 : Cond.classLink RX7 7 RX1 ∈ GB := gb_in (List.mem_append_right _ (List.mem_of_getElem? (i := 20) (by decide +kernel))) rfl
theorem ia_X1 : Cond.instantiable RX1 2 ∈ GB := gb_in (List.mem_append_right _ (List.mem_of_getElem? (i := 21) (by decide +kernel))) rfl
theorem im_X1_init : Cond.instanceMethod yX1_init ∈ GB := gb_in (List.mem_append_right _ (List.mem_of_getElem? (i := 23) (by decide +kernel))) rfl
theorem co_X1_init : Cond.code yX1_init cX1_init 1 none ∈ GB := gb_in (List.mem_append_right _ (List.mem_of_getElem? (i := 24) (by decide +kernel))) rfl
theorem ml_X1_3 : Cond.methodLink RX1 3 ⟨"java/lang/Object", "<init>", "()V"⟩ ∈ GB := gb_in (List.mem_append_right _ (List.mem_of_getElem? (i := 25) (by decide +kernel))) rfl
theorem cl_X1_9 : Cond.classLink RX1 9 RX5 ∈ GB := gb_in (List.mem_append_right _ (List.mem_of_getElem? (i := 26) (by decide +kernel))) rfl
theorem ia_X5 : Cond.instantiable RX5 9 ∈ GB := gb_in (List.mem_append_right _ (List.mem_of_getElem? (i := 27) (by decide +kernel))) rfl
theorem im_X5_init : Cond.instanceMethod yX5_init ∈ GB := gb_in (List.mem_append_right _ (List.mem_of_getElem? (i := 29) (by decide +kernel))) rfl
theorem co_X5_init : Cond.code yX5_init cX5_init 1 none ∈ GB := gb_in (List.mem_append_right _ (List.mem_of_getElem? (i := 30) (by decide +kernel))) rfl
theorem ml_X5_3 : Cond.methodLink RX5 3 ⟨"java/lang/Object", "<init>", "()V"⟩ ∈ GB := gb_in (List.mem_append_right _ (List.mem_of_getElem? (i := 31) (by decide +kernel))) rfl
theorem cl_X5_27 : Cond.classLink RX5 27 RX4 ∈ GB := gb_in (List.mem_append_right _ (List.mem_of_getElem? (i := 32) (by decide +kernel))) rfl
theorem ia_X4 : Cond.instantiable RX4 1 ∈ GB := gb_in (List.mem_append_right _ (List.mem_of_getElem? (i := 33) (by decide +kernel))) rfl
theorem ml_X5_29 : Cond.methodLink RX5 29 yX4_init ∈ GB := gb_in (List.mem_append_right _ (List.mem_of_getElem? (i := 34) (by decide +kernel))) rfl
theorem im_X4_init : Cond.instanceMethod yX4_init ∈ GB := gb_in (List.mem_append_right _ (List.mem_of_getElem? (i := 35) (by decide +kernel))) rfl
theorem co_X4_init : Cond.code yX4_init cX4_init 2 none ∈ GB := gb_in (List.mem_append_right _ (List.mem_of_getElem? (i := 36) (by decide +kernel))) rfl
theorem ml_X4_1 : Cond.methodLink RX4 1 ⟨"java/lang/Object", "<init>", "()V"⟩ ∈ GB := gb_in (List.mem_append_right _ (List.mem_of_getElem? (i := 37) (by decide +kernel))) rfl
theorem ml_X4_7 : Cond.methodLink RX4 7 yJ9_max_7cf53 ∈ GB := gb_in (List.mem_append_right _ (List.mem_of_getElem? (i := 38) (by decide +kernel))) rfl
theorem st_J9_max_7cf53 : Cond.static yJ9_max_7cf53 ∈ GB := gb_in (List.mem_append_right _ (List.mem_of_getElem? (i := 39) (by decide +kernel))) rfl
theorem co_J9_max_7cf53 : Cond.code yJ9_max_7cf53 cJ9_max_7cf53 2 (some .int) ∈ GB := gb_in (List.mem_append_right _ (List.mem_of_getElem? (i := 40) (by decide +kernel))) rfl
theorem fl_X4_13 : Cond.fieldLink RX4 13 "HangingKeys$Row" "cells" "[I" ∈ GB := gb_in (List.mem_append_right _ (List.mem_of_getElem? (i := 41) (by decide +kernel))) rfl
theorem ac_int : Cond.arrayClass .int ∈ GB := gb_in (List.mem_append_right _ (List.mem_of_getElem? (i := 45) (by decide +kernel))) rfl
theorem fl_X5_9 : Cond.fieldLink RX5 9 "HangingKeys$Tree" "mostWear" "I" ∈ GB := gb_in (List.mem_append_right _ (List.mem_of_getElem? (i := 46) (by decide +kernel))) rfl
theorem fl_X5_15 : Cond.fieldLink RX5 15 "HangingKeys$Tree" "keys" "I" ∈ GB := gb_in (List.mem_append_right _ (List.mem_of_getElem? (i := 49) (by decide +kernel))) rfl
theorem fl_X5_18 : Cond.fieldLink RX5 18 "HangingKeys$Tree" "boxes" "I" ∈ GB := gb_in (List.mem_append_right _ (List.mem_of_getElem? (i := 52) (by decide +kernel))) rfl
theorem fl_X5_21 : Cond.fieldLink RX5 21 "HangingKeys$Tree" "liveKeys" "I" ∈ GB := gb_in (List.mem_append_right _ (List.mem_of_getElem? (i := 55) (by decide +kernel))) rfl
theorem fl_X5_24 : Cond.fieldLink RX5 24 "HangingKeys$Tree" "liveBoxes" "I" ∈ GB := gb_in (List.mem_append_right _ (List.mem_of_getElem? (i := 57) (by decide +kernel))) rfl
theorem fl_X5_32 : Cond.fieldLink RX5 32 "HangingKeys$Tree" "parents" "LHangingKeys$Row;" ∈ GB := gb_in (List.mem_append_right _ (List.mem_of_getElem? (i := 59) (by decide +kernel))) rfl
theorem fl_X5_36 : Cond.fieldLink RX5 36 "HangingKeys$Tree" "makes" "LHangingKeys$Row;" ∈ GB := gb_in (List.mem_append_right _ (List.mem_of_getElem? (i := 60) (by decide +kernel))) rfl
theorem fl_X5_39 : Cond.fieldLink RX5 39 "HangingKeys$Tree" "wears" "LHangingKeys$Row;" ∈ GB := gb_in (List.mem_append_right _ (List.mem_of_getElem? (i := 61) (by decide +kernel))) rfl
theorem fl_X5_42 : Cond.fieldLink RX5 42 "HangingKeys$Tree" "keysOfBoxes" "LHangingKeys$Row;" ∈ GB := gb_in (List.mem_append_right _ (List.mem_of_getElem? (i := 62) (by decide +kernel))) rfl
theorem cl_X1_18 : Cond.classLink RX1 18 RX6 ∈ GB := gb_in (List.mem_append_right _ (List.mem_of_getElem? (i := 82) (by decide +kernel))) rfl
theorem ia_X6 : Cond.instantiable RX6 6 ∈ GB := gb_in (List.mem_append_right _ (List.mem_of_getElem? (i := 83) (by decide +kernel))) rfl
theorem im_X6_init : Cond.instanceMethod yX6_init ∈ GB := gb_in (List.mem_append_right _ (List.mem_of_getElem? (i := 85) (by decide +kernel))) rfl
theorem co_X6_init : Cond.code yX6_init cX6_init 1 none ∈ GB := gb_in (List.mem_append_right _ (List.mem_of_getElem? (i := 86) (by decide +kernel))) rfl
theorem ml_X6_3 : Cond.methodLink RX6 3 ⟨"java/lang/Object", "<init>", "()V"⟩ ∈ GB := gb_in (List.mem_append_right _ (List.mem_of_getElem? (i := 87) (by decide +kernel))) rfl
theorem cl_X6_15 : Cond.classLink RX6 15 RX4 ∈ GB := gb_in (List.mem_append_right _ (List.mem_of_getElem? (i := 88) (by decide +kernel))) rfl
theorem ml_X6_17 : Cond.methodLink RX6 17 yX4_init ∈ GB := gb_in (List.mem_append_right _ (List.mem_of_getElem? (i := 89) (by decide +kernel))) rfl
theorem fl_X6_9 : Cond.fieldLink RX6 9 "HangingKeys$Wraps" "number" "I" ∈ GB := gb_in (List.mem_append_right _ (List.mem_of_getElem? (i := 90) (by decide +kernel))) rfl
theorem fl_X6_20 : Cond.fieldLink RX6 20 "HangingKeys$Wraps" "heldKeys" "LHangingKeys$Row;" ∈ GB := gb_in (List.mem_append_right _ (List.mem_of_getElem? (i := 93) (by decide +kernel))) rfl
theorem fl_X6_24 : Cond.fieldLink RX6 24 "HangingKeys$Wraps" "heldWhats" "LHangingKeys$Row;" ∈ GB := gb_in (List.mem_append_right _ (List.mem_of_getElem? (i := 94) (by decide +kernel))) rfl
theorem fl_X6_27 : Cond.fieldLink RX6 27 "HangingKeys$Wraps" "closers" "LHangingKeys$Row;" ∈ GB := gb_in (List.mem_append_right _ (List.mem_of_getElem? (i := 95) (by decide +kernel))) rfl
theorem fl_X6_30 : Cond.fieldLink RX6 30 "HangingKeys$Wraps" "closerMakes" "LHangingKeys$Row;" ∈ GB := gb_in (List.mem_append_right _ (List.mem_of_getElem? (i := 96) (by decide +kernel))) rfl
theorem fl_X6_33 : Cond.fieldLink RX6 33 "HangingKeys$Wraps" "stands" "LHangingKeys$Row;" ∈ GB := gb_in (List.mem_append_right _ (List.mem_of_getElem? (i := 97) (by decide +kernel))) rfl
theorem fl_X1_12 : Cond.fieldLink RX1 12 "HangingKeys$House" "tree" "LHangingKeys$Tree;" ∈ GB := gb_in (List.mem_append_right _ (List.mem_of_getElem? (i := 111) (by decide +kernel))) rfl
theorem fl_X1_21 : Cond.fieldLink RX1 21 "HangingKeys$House" "wraps" "LHangingKeys$Wraps;" ∈ GB := gb_in (List.mem_append_right _ (List.mem_of_getElem? (i := 114) (by decide +kernel))) rfl
theorem cl_X7_16 : Cond.classLink RX7 16 RX2 ∈ GB := gb_in (List.mem_append_right _ (List.mem_of_getElem? (i := 122) (by decide +kernel))) rfl
theorem ia_X2 : Cond.instantiable RX2 2 ∈ GB := gb_in (List.mem_append_right _ (List.mem_of_getElem? (i := 123) (by decide +kernel))) rfl
theorem im_X2_init : Cond.instanceMethod yX2_init ∈ GB := gb_in (List.mem_append_right _ (List.mem_of_getElem? (i := 125) (by decide +kernel))) rfl
theorem co_X2_init : Cond.code yX2_init cX2_init 1 none ∈ GB := gb_in (List.mem_append_right _ (List.mem_of_getElem? (i := 126) (by decide +kernel))) rfl
theorem ml_X2_3 : Cond.methodLink RX2 3 ⟨"java/lang/Object", "<init>", "()V"⟩ ∈ GB := gb_in (List.mem_append_right _ (List.mem_of_getElem? (i := 127) (by decide +kernel))) rfl
theorem cl_X2_9 : Cond.classLink RX2 9 RX4 ∈ GB := gb_in (List.mem_append_right _ (List.mem_of_getElem? (i := 128) (by decide +kernel))) rfl
theorem ml_X2_11 : Cond.methodLink RX2 11 yX4_init ∈ GB := gb_in (List.mem_append_right _ (List.mem_of_getElem? (i := 129) (by decide +kernel))) rfl
theorem fl_X2_14 : Cond.fieldLink RX2 14 "HangingKeys$Opening" "startMakes" "LHangingKeys$Row;" ∈ GB := gb_in (List.mem_append_right _ (List.mem_of_getElem? (i := 130) (by decide +kernel))) rfl
theorem fl_X2_20 : Cond.fieldLink RX2 20 "HangingKeys$Opening" "opened" "LHangingKeys$Row;" ∈ GB := gb_in (List.mem_append_right _ (List.mem_of_getElem? (i := 131) (by decide +kernel))) rfl
theorem cl_X7_23 : Cond.classLink RX7 23 RX3 ∈ GB := gb_in (List.mem_append_right _ (List.mem_of_getElem? (i := 137) (by decide +kernel))) rfl
theorem ia_X3 : Cond.instantiable RX3 6 ∈ GB := gb_in (List.mem_append_right _ (List.mem_of_getElem? (i := 138) (by decide +kernel))) rfl
theorem im_X3_init : Cond.instanceMethod yX3_init ∈ GB := gb_in (List.mem_append_right _ (List.mem_of_getElem? (i := 140) (by decide +kernel))) rfl
theorem co_X3_init : Cond.code yX3_init cX3_init 1 none ∈ GB := gb_in (List.mem_append_right _ (List.mem_of_getElem? (i := 141) (by decide +kernel))) rfl
theorem ml_X3_3 : Cond.methodLink RX3 3 ⟨"java/lang/Object", "<init>", "()V"⟩ ∈ GB := gb_in (List.mem_append_right _ (List.mem_of_getElem? (i := 142) (by decide +kernel))) rfl
theorem cl_X3_9 : Cond.classLink RX3 9 RX4 ∈ GB := gb_in (List.mem_append_right _ (List.mem_of_getElem? (i := 143) (by decide +kernel))) rfl
theorem ml_X3_11 : Cond.methodLink RX3 11 yX4_init ∈ GB := gb_in (List.mem_append_right _ (List.mem_of_getElem? (i := 144) (by decide +kernel))) rfl
theorem fl_X3_14 : Cond.fieldLink RX3 14 "HangingKeys$Pad" "signs" "LHangingKeys$Row;" ∈ GB := gb_in (List.mem_append_right _ (List.mem_of_getElem? (i := 145) (by decide +kernel))) rfl
theorem fl_X3_20 : Cond.fieldLink RX3 20 "HangingKeys$Pad" "length" "I" ∈ GB := gb_in (List.mem_append_right _ (List.mem_of_getElem? (i := 146) (by decide +kernel))) rfl
theorem fl_X3_24 : Cond.fieldLink RX3 24 "HangingKeys$Pad" "next" "I" ∈ GB := gb_in (List.mem_append_right _ (List.mem_of_getElem? (i := 148) (by decide +kernel))) rfl
theorem fl_X3_27 : Cond.fieldLink RX3 27 "HangingKeys$Pad" "letter" "I" ∈ GB := gb_in (List.mem_append_right _ (List.mem_of_getElem? (i := 149) (by decide +kernel))) rfl
theorem fl_X3_30 : Cond.fieldLink RX3 30 "HangingKeys$Pad" "target" "I" ∈ GB := gb_in (List.mem_append_right _ (List.mem_of_getElem? (i := 150) (by decide +kernel))) rfl
theorem fl_X3_33 : Cond.fieldLink RX3 33 "HangingKeys$Pad" "place" "I" ∈ GB := gb_in (List.mem_append_right _ (List.mem_of_getElem? (i := 151) (by decide +kernel))) rfl
theorem cl_X7_30 : Cond.classLink RX7 30 RX0 ∈ GB := gb_in (List.mem_append_right _ (List.mem_of_getElem? (i := 165) (by decide +kernel))) rfl
theorem ia_X0 : Cond.instantiable RX0 3 ∈ GB := gb_in (List.mem_append_right _ (List.mem_of_getElem? (i := 166) (by decide +kernel))) rfl
theorem ml_X7_32 : Cond.methodLink RX7 32 yX0_init ∈ GB := gb_in (List.mem_append_right _ (List.mem_of_getElem? (i := 167) (by decide +kernel))) rfl
theorem im_X0_init : Cond.instanceMethod yX0_init ∈ GB := gb_in (List.mem_append_right _ (List.mem_of_getElem? (i := 168) (by decide +kernel))) rfl
theorem co_X0_init : Cond.code yX0_init cX0_init 2 none ∈ GB := gb_in (List.mem_append_right _ (List.mem_of_getElem? (i := 169) (by decide +kernel))) rfl
theorem ml_X0_3 : Cond.methodLink RX0 3 ⟨"java/lang/Object", "<init>", "()V"⟩ ∈ GB := gb_in (List.mem_append_right _ (List.mem_of_getElem? (i := 170) (by decide +kernel))) rfl
theorem cl_X0_9 : Cond.classLink RX0 9 RX1 ∈ GB := gb_in (List.mem_append_right _ (List.mem_of_getElem? (i := 171) (by decide +kernel))) rfl
theorem ao_House : Cond.arrayOver (.object "HangingKeys$House") ∈ lw_tbl := List.mem_append_right _ (List.mem_of_getElem? (i := 172) (by decide +kernel))
theorem fl_X0_11 : Cond.fieldLink RX0 11 "HangingKeys$History" "states" "[LHangingKeys$House;" ∈ GB := gb_in (List.mem_append_right _ (List.mem_of_getElem? (i := 174) (by decide +kernel))) rfl
theorem fl_X0_17 : Cond.fieldLink RX0 17 "HangingKeys$History" "spare" "I" ∈ GB := gb_in (List.mem_append_right _ (List.mem_of_getElem? (i := 175) (by decide +kernel))) rfl
theorem fl_X0_21 : Cond.fieldLink RX0 21 "HangingKeys$History" "number" "I" ∈ GB := gb_in (List.mem_append_right _ (List.mem_of_getElem? (i := 176) (by decide +kernel))) rfl
theorem fl_X7_10 : Cond.fieldLink RX7 10 "HangingKeys" "house" "LHangingKeys$House;" ∈ GB := gb_in (List.mem_append_right _ (List.mem_of_getElem? (i := 185) (by decide +kernel))) rfl
theorem fl_X7_19 : Cond.fieldLink RX7 19 "HangingKeys" "opening" "LHangingKeys$Opening;" ∈ GB := gb_in (List.mem_append_right _ (List.mem_of_getElem? (i := 186) (by decide +kernel))) rfl
theorem fl_X7_26 : Cond.fieldLink RX7 26 "HangingKeys" "pad" "LHangingKeys$Pad;" ∈ GB := gb_in (List.mem_append_right _ (List.mem_of_getElem? (i := 187) (by decide +kernel))) rfl
theorem fl_X7_33 : Cond.fieldLink RX7 33 "HangingKeys" "history" "LHangingKeys$History;" ∈ GB := gb_in (List.mem_append_right _ (List.mem_of_getElem? (i := 188) (by decide +kernel))) rfl
theorem fl_X7_37 : Cond.fieldLink RX7 37 "HangingKeys" "slots" "[LHangingKeys$House;" ∈ GB := gb_in (List.mem_append_right _ (List.mem_of_getElem? (i := 189) (by decide +kernel))) rfl
theorem ml_L_108 : Cond.methodLink RL 108 yX7_wear ∈ GB := gb_in (List.mem_append_right _ (List.mem_of_getElem? (i := 201) (by decide +kernel))) rfl
theorem im_X7_wear : Cond.instanceMethod yX7_wear ∈ GB := gb_in (List.mem_append_right _ (List.mem_of_getElem? (i := 202) (by decide +kernel))) rfl
theorem se_X7_wear : Cond.selects RX7 yX7_wear yX7_wear ∈ GB := gb_in (List.mem_append_right _ (List.mem_of_getElem? (i := 203) (by decide +kernel))) rfl
theorem co_X7_wear : Cond.code yX7_wear cX7_wear 2 (some .int) ∈ GB := gb_in (List.mem_append_right _ (List.mem_of_getElem? (i := 204) (by decide +kernel))) rfl
theorem ml_X7_41 : Cond.methodLink RX7 41 yX0_noteBefore ∈ GB := gb_in (List.mem_append_right _ (List.mem_of_getElem? (i := 205) (by decide +kernel))) rfl
theorem im_X0_noteBefore : Cond.instanceMethod yX0_noteBefore ∈ GB := gb_in (List.mem_append_right _ (List.mem_of_getElem? (i := 206) (by decide +kernel))) rfl
theorem se_X0_noteBefore : Cond.selects RX0 yX0_noteBefore yX0_noteBefore ∈ GB := gb_in (List.mem_append_right _ (List.mem_of_getElem? (i := 207) (by decide +kernel))) rfl
theorem co_X0_noteBefore : Cond.code yX0_noteBefore cX0_noteBefore 3 none ∈ GB := gb_in (List.mem_append_right _ (List.mem_of_getElem? (i := 208) (by decide +kernel))) rfl
theorem ml_X0_25 : Cond.methodLink RX0 25 yX0_stateAt ∈ GB := gb_in (List.mem_append_right _ (List.mem_of_getElem? (i := 209) (by decide +kernel))) rfl
theorem im_X0_stateAt : Cond.instanceMethod yX0_stateAt ∈ GB := gb_in (List.mem_append_right _ (List.mem_of_getElem? (i := 211) (by decide +kernel))) rfl
theorem co_X0_stateAt : Cond.code yX0_stateAt cX0_stateAt 2 (some (.object "HangingKeys$House")) ∈ GB := gb_in (List.mem_append_right _ (List.mem_of_getElem? (i := 212) (by decide +kernel))) rfl
theorem ml_X0_29 : Cond.methodLink RX0 29 yX1_become ∈ GB := gb_in (List.mem_append_right _ (List.mem_of_getElem? (i := 213) (by decide +kernel))) rfl
theorem im_X1_become : Cond.instanceMethod yX1_become ∈ GB := gb_in (List.mem_append_right _ (List.mem_of_getElem? (i := 214) (by decide +kernel))) rfl
theorem se_X1_become : Cond.selects RX1 yX1_become yX1_become ∈ GB := gb_in (List.mem_append_right _ (List.mem_of_getElem? (i := 215) (by decide +kernel))) rfl
theorem co_X1_become : Cond.code yX1_become cX1_become 2 none ∈ GB := gb_in (List.mem_append_right _ (List.mem_of_getElem? (i := 216) (by decide +kernel))) rfl
theorem ml_X1_154 : Cond.methodLink RX1 154 yX5_become ∈ GB := gb_in (List.mem_append_right _ (List.mem_of_getElem? (i := 217) (by decide +kernel))) rfl
theorem im_X5_become : Cond.instanceMethod yX5_become ∈ GB := gb_in (List.mem_append_right _ (List.mem_of_getElem? (i := 218) (by decide +kernel))) rfl
theorem se_X5_become : Cond.selects RX5 yX5_become yX5_become ∈ GB := gb_in (List.mem_append_right _ (List.mem_of_getElem? (i := 219) (by decide +kernel))) rfl
theorem co_X5_become : Cond.code yX5_become cX5_become 2 none ∈ GB := gb_in (List.mem_append_right _ (List.mem_of_getElem? (i := 220) (by decide +kernel))) rfl
theorem ml_X5_85 : Cond.methodLink RX5 85 yX4_become ∈ GB := gb_in (List.mem_append_right _ (List.mem_of_getElem? (i := 221) (by decide +kernel))) rfl
theorem im_X4_become : Cond.instanceMethod yX4_become ∈ GB := gb_in (List.mem_append_right _ (List.mem_of_getElem? (i := 222) (by decide +kernel))) rfl
theorem se_X4_become : Cond.selects RX4 yX4_become yX4_become ∈ GB := gb_in (List.mem_append_right _ (List.mem_of_getElem? (i := 223) (by decide +kernel))) rfl
theorem co_X4_become : Cond.code yX4_become cX4_become 2 none ∈ GB := gb_in (List.mem_append_right _ (List.mem_of_getElem? (i := 224) (by decide +kernel))) rfl
theorem ml_X4_19 : Cond.methodLink RX4 19 yJ9_min_7cf53 ∈ GB := gb_in (List.mem_append_right _ (List.mem_of_getElem? (i := 225) (by decide +kernel))) rfl
theorem st_J9_min_7cf53 : Cond.static yJ9_min_7cf53 ∈ GB := gb_in (List.mem_append_right _ (List.mem_of_getElem? (i := 226) (by decide +kernel))) rfl
theorem co_J9_min_7cf53 : Cond.code yJ9_min_7cf53 cJ9_min_7cf53 2 (some .int) ∈ GB := gb_in (List.mem_append_right _ (List.mem_of_getElem? (i := 227) (by decide +kernel))) rfl
theorem ml_X4_22 : Cond.methodLink RX4 22 ⟨"java/lang/System", "arraycopy", "(Ljava/lang/Object;ILjava/lang/Object;II)V"⟩ ∈ GB := gb_in (List.mem_append_right _ (List.mem_of_getElem? (i := 228) (by decide +kernel))) rfl
theorem st_arraycopy : Cond.static ⟨"java/lang/System", "arraycopy", "(Ljava/lang/Object;ILjava/lang/Object;II)V"⟩ ∈ GB := gb_in (List.mem_append_right _ (List.mem_of_getElem? (i := 229) (by decide +kernel))) rfl
theorem na_arraycopy : Cond.native ⟨"java/lang/System", "arraycopy", "(Ljava/lang/Object;ILjava/lang/Object;II)V"⟩ ∈ GB := gb_in (List.mem_append_right _ (List.mem_of_getElem? (i := 230) (by decide +kernel))) rfl
theorem ml_X1_158 : Cond.methodLink RX1 158 yX6_become ∈ GB := gb_in (List.mem_append_right _ (List.mem_of_getElem? (i := 231) (by decide +kernel))) rfl
theorem im_X6_become : Cond.instanceMethod yX6_become ∈ GB := gb_in (List.mem_append_right _ (List.mem_of_getElem? (i := 232) (by decide +kernel))) rfl
theorem se_X6_become : Cond.selects RX6 yX6_become yX6_become ∈ GB := gb_in (List.mem_append_right _ (List.mem_of_getElem? (i := 233) (by decide +kernel))) rfl
theorem co_X6_become : Cond.code yX6_become cX6_become 2 none ∈ GB := gb_in (List.mem_append_right _ (List.mem_of_getElem? (i := 234) (by decide +kernel))) rfl
theorem ml_X6_69 : Cond.methodLink RX6 69 yX4_become ∈ GB := gb_in (List.mem_append_right _ (List.mem_of_getElem? (i := 235) (by decide +kernel))) rfl
theorem ml_X7_45 : Cond.methodLink RX7 45 yX1_changeWear ∈ GB := gb_in (List.mem_append_right _ (List.mem_of_getElem? (i := 236) (by decide +kernel))) rfl
theorem im_X1_changeWear : Cond.instanceMethod yX1_changeWear ∈ GB := gb_in (List.mem_append_right _ (List.mem_of_getElem? (i := 237) (by decide +kernel))) rfl
theorem se_X1_changeWear : Cond.selects RX1 yX1_changeWear yX1_changeWear ∈ GB := gb_in (List.mem_append_right _ (List.mem_of_getElem? (i := 238) (by decide +kernel))) rfl
theorem co_X1_changeWear : Cond.code yX1_changeWear cX1_changeWear 3 (some .int) ∈ GB := gb_in (List.mem_append_right _ (List.mem_of_getElem? (i := 239) (by decide +kernel))) rfl
theorem ml_X7_49 : Cond.methodLink RX7 49 yX0_settle ∈ GB := gb_in (List.mem_append_right _ (List.mem_of_getElem? (i := 240) (by decide +kernel))) rfl
theorem im_X0_settle : Cond.instanceMethod yX0_settle ∈ GB := gb_in (List.mem_append_right _ (List.mem_of_getElem? (i := 241) (by decide +kernel))) rfl
theorem se_X0_settle : Cond.selects RX0 yX0_settle yX0_settle ∈ GB := gb_in (List.mem_append_right _ (List.mem_of_getElem? (i := 242) (by decide +kernel))) rfl
theorem co_X0_settle : Cond.code yX0_settle cX0_settle 2 (some .int) ∈ GB := gb_in (List.mem_append_right _ (List.mem_of_getElem? (i := 243) (by decide +kernel))) rfl
theorem ml_X0_33 : Cond.methodLink RX0 33 yJ9_min_7cf53 ∈ GB := gb_in (List.mem_append_right _ (List.mem_of_getElem? (i := 244) (by decide +kernel))) rfl
theorem ml_L_94 : Cond.methodLink RL 94 yX7_key ∈ GB := gb_in (List.mem_append_right _ (List.mem_of_getElem? (i := 245) (by decide +kernel))) rfl
theorem im_X7_key : Cond.instanceMethod yX7_key ∈ GB := gb_in (List.mem_append_right _ (List.mem_of_getElem? (i := 246) (by decide +kernel))) rfl
theorem se_X7_key : Cond.selects RX7 yX7_key yX7_key ∈ GB := gb_in (List.mem_append_right _ (List.mem_of_getElem? (i := 247) (by decide +kernel))) rfl
theorem co_X7_key : Cond.code yX7_key cX7_key 2 (some .int) ∈ GB := gb_in (List.mem_append_right _ (List.mem_of_getElem? (i := 248) (by decide +kernel))) rfl
theorem ml_X7_52 : Cond.methodLink RX7 52 yX1_makeKey ∈ GB := gb_in (List.mem_append_right _ (List.mem_of_getElem? (i := 249) (by decide +kernel))) rfl
theorem im_X1_makeKey : Cond.instanceMethod yX1_makeKey ∈ GB := gb_in (List.mem_append_right _ (List.mem_of_getElem? (i := 250) (by decide +kernel))) rfl
theorem se_X1_makeKey : Cond.selects RX1 yX1_makeKey yX1_makeKey ∈ GB := gb_in (List.mem_append_right _ (List.mem_of_getElem? (i := 251) (by decide +kernel))) rfl
theorem co_X1_makeKey : Cond.code yX1_makeKey cX1_makeKey 4 (some .int) ∈ GB := gb_in (List.mem_append_right _ (List.mem_of_getElem? (i := 252) (by decide +kernel))) rfl
theorem ml_X1_29 : Cond.methodLink RX1 29 yX5_isLiveKey ∈ GB := gb_in (List.mem_append_right _ (List.mem_of_getElem? (i := 253) (by decide +kernel))) rfl
theorem im_X5_isLiveKey : Cond.instanceMethod yX5_isLiveKey ∈ GB := gb_in (List.mem_append_right _ (List.mem_of_getElem? (i := 254) (by decide +kernel))) rfl
theorem se_X5_isLiveKey : Cond.selects RX5 yX5_isLiveKey yX5_isLiveKey ∈ GB := gb_in (List.mem_append_right _ (List.mem_of_getElem? (i := 255) (by decide +kernel))) rfl
theorem co_X5_isLiveKey : Cond.code yX5_isLiveKey cX5_isLiveKey 2 (some .boolean) ∈ GB := gb_in (List.mem_append_right _ (List.mem_of_getElem? (i := 256) (by decide +kernel))) rfl
theorem st_X7_has : Cond.static yX7_has ∈ GB := gb_in (List.mem_append_right _ (List.mem_of_getElem? (i := 258) (by decide +kernel))) rfl
theorem co_X7_has : Cond.code yX7_has cX7_has 2 (some .boolean) ∈ GB := gb_in (List.mem_append_right _ (List.mem_of_getElem? (i := 259) (by decide +kernel))) rfl
theorem ml_X1_36 : Cond.methodLink RX1 36 yX6_haveRoomFor ∈ GB := gb_in (List.mem_append_right _ (List.mem_of_getElem? (i := 260) (by decide +kernel))) rfl
theorem im_X6_haveRoomFor : Cond.instanceMethod yX6_haveRoomFor ∈ GB := gb_in (List.mem_append_right _ (List.mem_of_getElem? (i := 261) (by decide +kernel))) rfl
theorem se_X6_haveRoomFor : Cond.selects RX6 yX6_haveRoomFor yX6_haveRoomFor ∈ GB := gb_in (List.mem_append_right _ (List.mem_of_getElem? (i := 262) (by decide +kernel))) rfl
theorem co_X6_haveRoomFor : Cond.code yX6_haveRoomFor cX6_haveRoomFor 2 (some .boolean) ∈ GB := gb_in (List.mem_append_right _ (List.mem_of_getElem? (i := 263) (by decide +kernel))) rfl
theorem ml_X1_39 : Cond.methodLink RX1 39 yX5_leftToClose ∈ GB := gb_in (List.mem_append_right _ (List.mem_of_getElem? (i := 264) (by decide +kernel))) rfl
theorem im_X5_leftToClose : Cond.instanceMethod yX5_leftToClose ∈ GB := gb_in (List.mem_append_right _ (List.mem_of_getElem? (i := 265) (by decide +kernel))) rfl
theorem se_X5_leftToClose : Cond.selects RX5 yX5_leftToClose yX5_leftToClose ∈ GB := gb_in (List.mem_append_right _ (List.mem_of_getElem? (i := 266) (by decide +kernel))) rfl
theorem co_X5_leftToClose : Cond.code yX5_leftToClose cX5_leftToClose 2 (some .int) ∈ GB := gb_in (List.mem_append_right _ (List.mem_of_getElem? (i := 267) (by decide +kernel))) rfl
theorem ml_X5_56 : Cond.methodLink RX5 56 yX4_at ∈ GB := gb_in (List.mem_append_right _ (List.mem_of_getElem? (i := 268) (by decide +kernel))) rfl
theorem im_X4_at : Cond.instanceMethod yX4_at ∈ GB := gb_in (List.mem_append_right _ (List.mem_of_getElem? (i := 269) (by decide +kernel))) rfl
theorem se_X4_at : Cond.selects RX4 yX4_at yX4_at ∈ GB := gb_in (List.mem_append_right _ (List.mem_of_getElem? (i := 270) (by decide +kernel))) rfl
theorem co_X4_at : Cond.code yX4_at cX4_at 2 (some .int) ∈ GB := gb_in (List.mem_append_right _ (List.mem_of_getElem? (i := 271) (by decide +kernel))) rfl
theorem ml_X5_60 : Cond.methodLink RX5 60 yJ9_max_7cf53 ∈ GB := gb_in (List.mem_append_right _ (List.mem_of_getElem? (i := 272) (by decide +kernel))) rfl
theorem ml_X1_43 : Cond.methodLink RX1 43 yX5_addKey ∈ GB := gb_in (List.mem_append_right _ (List.mem_of_getElem? (i := 273) (by decide +kernel))) rfl
theorem im_X5_addKey : Cond.instanceMethod yX5_addKey ∈ GB := gb_in (List.mem_append_right _ (List.mem_of_getElem? (i := 274) (by decide +kernel))) rfl
theorem se_X5_addKey : Cond.selects RX5 yX5_addKey yX5_addKey ∈ GB := gb_in (List.mem_append_right _ (List.mem_of_getElem? (i := 275) (by decide +kernel))) rfl
theorem co_X5_addKey : Cond.code yX5_addKey cX5_addKey 2 (some .int) ∈ GB := gb_in (List.mem_append_right _ (List.mem_of_getElem? (i := 276) (by decide +kernel))) rfl
theorem ml_X5_78 : Cond.methodLink RX5 78 yX4_set ∈ GB := gb_in (List.mem_append_right _ (List.mem_of_getElem? (i := 277) (by decide +kernel))) rfl
theorem im_X4_set : Cond.instanceMethod yX4_set ∈ GB := gb_in (List.mem_append_right _ (List.mem_of_getElem? (i := 278) (by decide +kernel))) rfl
theorem se_X4_set : Cond.selects RX4 yX4_set yX4_set ∈ GB := gb_in (List.mem_append_right _ (List.mem_of_getElem? (i := 279) (by decide +kernel))) rfl
theorem co_X4_set : Cond.code yX4_set cX4_set 3 none ∈ GB := gb_in (List.mem_append_right _ (List.mem_of_getElem? (i := 280) (by decide +kernel))) rfl
theorem st_X7_setOf : Cond.static yX7_setOf ∈ GB := gb_in (List.mem_append_right _ (List.mem_of_getElem? (i := 282) (by decide +kernel))) rfl
theorem co_X7_setOf : Cond.code yX7_setOf cX7_setOf 1 (some .int) ∈ GB := gb_in (List.mem_append_right _ (List.mem_of_getElem? (i := 283) (by decide +kernel))) rfl
theorem ml_X1_46 : Cond.methodLink RX1 46 yX1_wrapKey ∈ GB := gb_in (List.mem_append_right _ (List.mem_of_getElem? (i := 284) (by decide +kernel))) rfl
theorem im_X1_wrapKey : Cond.instanceMethod yX1_wrapKey ∈ GB := gb_in (List.mem_append_right _ (List.mem_of_getElem? (i := 286) (by decide +kernel))) rfl
theorem co_X1_wrapKey : Cond.code yX1_wrapKey cX1_wrapKey 3 none ∈ GB := gb_in (List.mem_append_right _ (List.mem_of_getElem? (i := 287) (by decide +kernel))) rfl
theorem ml_X1_83 : Cond.methodLink RX1 83 yX5_parentOf ∈ GB := gb_in (List.mem_append_right _ (List.mem_of_getElem? (i := 288) (by decide +kernel))) rfl
theorem im_X5_parentOf : Cond.instanceMethod yX5_parentOf ∈ GB := gb_in (List.mem_append_right _ (List.mem_of_getElem? (i := 289) (by decide +kernel))) rfl
theorem se_X5_parentOf : Cond.selects RX5 yX5_parentOf yX5_parentOf ∈ GB := gb_in (List.mem_append_right _ (List.mem_of_getElem? (i := 290) (by decide +kernel))) rfl
theorem co_X5_parentOf : Cond.code yX5_parentOf cX5_parentOf 2 (some .int) ∈ GB := gb_in (List.mem_append_right _ (List.mem_of_getElem? (i := 291) (by decide +kernel))) rfl
theorem ml_X1_129 : Cond.methodLink RX1 129 yX5_makeOf ∈ GB := gb_in (List.mem_append_right _ (List.mem_of_getElem? (i := 292) (by decide +kernel))) rfl
theorem im_X5_makeOf : Cond.instanceMethod yX5_makeOf ∈ GB := gb_in (List.mem_append_right _ (List.mem_of_getElem? (i := 293) (by decide +kernel))) rfl
theorem se_X5_makeOf : Cond.selects RX5 yX5_makeOf yX5_makeOf ∈ GB := gb_in (List.mem_append_right _ (List.mem_of_getElem? (i := 294) (by decide +kernel))) rfl
theorem co_X5_makeOf : Cond.code yX5_makeOf cX5_makeOf 2 (some .int) ∈ GB := gb_in (List.mem_append_right _ (List.mem_of_getElem? (i := 295) (by decide +kernel))) rfl
theorem ml_X1_135 : Cond.methodLink RX1 135 yX6_add ∈ GB := gb_in (List.mem_append_right _ (List.mem_of_getElem? (i := 296) (by decide +kernel))) rfl
theorem im_X6_add : Cond.instanceMethod yX6_add ∈ GB := gb_in (List.mem_append_right _ (List.mem_of_getElem? (i := 297) (by decide +kernel))) rfl
theorem se_X6_add : Cond.selects RX6 yX6_add yX6_add ∈ GB := gb_in (List.mem_append_right _ (List.mem_of_getElem? (i := 298) (by decide +kernel))) rfl
theorem co_X6_add : Cond.code yX6_add cX6_add 5 none ∈ GB := gb_in (List.mem_append_right _ (List.mem_of_getElem? (i := 299) (by decide +kernel))) rfl
theorem ml_X6_56 : Cond.methodLink RX6 56 yX4_set ∈ GB := gb_in (List.mem_append_right _ (List.mem_of_getElem? (i := 300) (by decide +kernel))) rfl
theorem ml_X1_139 : Cond.methodLink RX1 139 yX5_wearDown ∈ GB := gb_in (List.mem_append_right _ (List.mem_of_getElem? (i := 301) (by decide +kernel))) rfl
theorem im_X5_wearDown : Cond.instanceMethod yX5_wearDown ∈ GB := gb_in (List.mem_append_right _ (List.mem_of_getElem? (i := 302) (by decide +kernel))) rfl
theorem se_X5_wearDown : Cond.selects RX5 yX5_wearDown yX5_wearDown ∈ GB := gb_in (List.mem_append_right _ (List.mem_of_getElem? (i := 303) (by decide +kernel))) rfl
theorem co_X5_wearDown : Cond.code yX5_wearDown cX5_wearDown 2 none ∈ GB := gb_in (List.mem_append_right _ (List.mem_of_getElem? (i := 304) (by decide +kernel))) rfl
theorem ml_X5_82 : Cond.methodLink RX5 82 yX4_add ∈ GB := gb_in (List.mem_append_right _ (List.mem_of_getElem? (i := 305) (by decide +kernel))) rfl
theorem im_X4_add : Cond.instanceMethod yX4_add ∈ GB := gb_in (List.mem_append_right _ (List.mem_of_getElem? (i := 306) (by decide +kernel))) rfl
theorem se_X4_add : Cond.selects RX4 yX4_add yX4_add ∈ GB := gb_in (List.mem_append_right _ (List.mem_of_getElem? (i := 307) (by decide +kernel))) rfl
theorem co_X4_add : Cond.code yX4_add cX4_add 3 none ∈ GB := gb_in (List.mem_append_right _ (List.mem_of_getElem? (i := 308) (by decide +kernel))) rfl
theorem ml_L_95 : Cond.methodLink RL 95 yX7_box ∈ GB := gb_in (List.mem_append_right _ (List.mem_of_getElem? (i := 309) (by decide +kernel))) rfl
theorem im_X7_box : Cond.instanceMethod yX7_box ∈ GB := gb_in (List.mem_append_right _ (List.mem_of_getElem? (i := 310) (by decide +kernel))) rfl
theorem se_X7_box : Cond.selects RX7 yX7_box yX7_box ∈ GB := gb_in (List.mem_append_right _ (List.mem_of_getElem? (i := 311) (by decide +kernel))) rfl
theorem co_X7_box : Cond.code yX7_box cX7_box 2 (some .int) ∈ GB := gb_in (List.mem_append_right _ (List.mem_of_getElem? (i := 312) (by decide +kernel))) rfl
theorem ml_X7_55 : Cond.methodLink RX7 55 yX1_makeBox ∈ GB := gb_in (List.mem_append_right _ (List.mem_of_getElem? (i := 313) (by decide +kernel))) rfl
theorem im_X1_makeBox : Cond.instanceMethod yX1_makeBox ∈ GB := gb_in (List.mem_append_right _ (List.mem_of_getElem? (i := 314) (by decide +kernel))) rfl
theorem se_X1_makeBox : Cond.selects RX1 yX1_makeBox yX1_makeBox ∈ GB := gb_in (List.mem_append_right _ (List.mem_of_getElem? (i := 315) (by decide +kernel))) rfl
theorem co_X1_makeBox : Cond.code yX1_makeBox cX1_makeBox 3 (some .int) ∈ GB := gb_in (List.mem_append_right _ (List.mem_of_getElem? (i := 316) (by decide +kernel))) rfl
theorem ml_X1_53 : Cond.methodLink RX1 53 yX5_addBox ∈ GB := gb_in (List.mem_append_right _ (List.mem_of_getElem? (i := 317) (by decide +kernel))) rfl
theorem im_X5_addBox : Cond.instanceMethod yX5_addBox ∈ GB := gb_in (List.mem_append_right _ (List.mem_of_getElem? (i := 318) (by decide +kernel))) rfl
theorem se_X5_addBox : Cond.selects RX5 yX5_addBox yX5_addBox ∈ GB := gb_in (List.mem_append_right _ (List.mem_of_getElem? (i := 319) (by decide +kernel))) rfl
theorem co_X5_addBox : Cond.code yX5_addBox cX5_addBox 2 (some .int) ∈ GB := gb_in (List.mem_append_right _ (List.mem_of_getElem? (i := 320) (by decide +kernel))) rfl
theorem ml_X1_56 : Cond.methodLink RX1 56 yX1_wrapBox ∈ GB := gb_in (List.mem_append_right _ (List.mem_of_getElem? (i := 321) (by decide +kernel))) rfl
theorem im_X1_wrapBox : Cond.instanceMethod yX1_wrapBox ∈ GB := gb_in (List.mem_append_right _ (List.mem_of_getElem? (i := 323) (by decide +kernel))) rfl
theorem co_X1_wrapBox : Cond.code yX1_wrapBox cX1_wrapBox 3 none ∈ GB := gb_in (List.mem_append_right _ (List.mem_of_getElem? (i := 324) (by decide +kernel))) rfl
theorem ml_X1_142 : Cond.methodLink RX1 142 yX5_keyOfBox ∈ GB := gb_in (List.mem_append_right _ (List.mem_of_getElem? (i := 325) (by decide +kernel))) rfl
theorem im_X5_keyOfBox : Cond.instanceMethod yX5_keyOfBox ∈ GB := gb_in (List.mem_append_right _ (List.mem_of_getElem? (i := 326) (by decide +kernel))) rfl
theorem se_X5_keyOfBox : Cond.selects RX5 yX5_keyOfBox yX5_keyOfBox ∈ GB := gb_in (List.mem_append_right _ (List.mem_of_getElem? (i := 327) (by decide +kernel))) rfl
theorem co_X5_keyOfBox : Cond.code yX5_keyOfBox cX5_keyOfBox 2 (some .int) ∈ GB := gb_in (List.mem_append_right _ (List.mem_of_getElem? (i := 328) (by decide +kernel))) rfl
theorem ml_L_98 : Cond.methodLink RL 98 yX7_copy ∈ GB := gb_in (List.mem_append_right _ (List.mem_of_getElem? (i := 329) (by decide +kernel))) rfl
theorem im_X7_copy : Cond.instanceMethod yX7_copy ∈ GB := gb_in (List.mem_append_right _ (List.mem_of_getElem? (i := 330) (by decide +kernel))) rfl
theorem se_X7_copy : Cond.selects RX7 yX7_copy yX7_copy ∈ GB := gb_in (List.mem_append_right _ (List.mem_of_getElem? (i := 331) (by decide +kernel))) rfl
theorem co_X7_copy : Cond.code yX7_copy cX7_copy 3 (some .int) ∈ GB := gb_in (List.mem_append_right _ (List.mem_of_getElem? (i := 332) (by decide +kernel))) rfl
theorem ml_X7_58 : Cond.methodLink RX7 58 yX1_copyOut ∈ GB := gb_in (List.mem_append_right _ (List.mem_of_getElem? (i := 333) (by decide +kernel))) rfl
theorem im_X1_copyOut : Cond.instanceMethod yX1_copyOut ∈ GB := gb_in (List.mem_append_right _ (List.mem_of_getElem? (i := 334) (by decide +kernel))) rfl
theorem se_X1_copyOut : Cond.selects RX1 yX1_copyOut yX1_copyOut ∈ GB := gb_in (List.mem_append_right _ (List.mem_of_getElem? (i := 335) (by decide +kernel))) rfl
theorem co_X1_copyOut : Cond.code yX1_copyOut cX1_copyOut 3 (some .int) ∈ GB := gb_in (List.mem_append_right _ (List.mem_of_getElem? (i := 336) (by decide +kernel))) rfl
theorem ml_X1_59 : Cond.methodLink RX1 59 yX6_isOne ∈ GB := gb_in (List.mem_append_right _ (List.mem_of_getElem? (i := 337) (by decide +kernel))) rfl
theorem im_X6_isOne : Cond.instanceMethod yX6_isOne ∈ GB := gb_in (List.mem_append_right _ (List.mem_of_getElem? (i := 338) (by decide +kernel))) rfl
theorem se_X6_isOne : Cond.selects RX6 yX6_isOne yX6_isOne ∈ GB := gb_in (List.mem_append_right _ (List.mem_of_getElem? (i := 339) (by decide +kernel))) rfl
theorem co_X6_isOne : Cond.code yX6_isOne cX6_isOne 2 (some .boolean) ∈ GB := gb_in (List.mem_append_right _ (List.mem_of_getElem? (i := 340) (by decide +kernel))) rfl
theorem ml_X1_62 : Cond.methodLink RX1 62 yX6_standsIn ∈ GB := gb_in (List.mem_append_right _ (List.mem_of_getElem? (i := 341) (by decide +kernel))) rfl
theorem im_X6_standsIn : Cond.instanceMethod yX6_standsIn ∈ GB := gb_in (List.mem_append_right _ (List.mem_of_getElem? (i := 342) (by decide +kernel))) rfl
theorem se_X6_standsIn : Cond.selects RX6 yX6_standsIn yX6_standsIn ∈ GB := gb_in (List.mem_append_right _ (List.mem_of_getElem? (i := 343) (by decide +kernel))) rfl
theorem co_X6_standsIn : Cond.code yX6_standsIn cX6_standsIn 3 (some .boolean) ∈ GB := gb_in (List.mem_append_right _ (List.mem_of_getElem? (i := 344) (by decide +kernel))) rfl
theorem ml_X6_36 : Cond.methodLink RX6 36 yX4_at ∈ GB := gb_in (List.mem_append_right _ (List.mem_of_getElem? (i := 345) (by decide +kernel))) rfl
theorem ml_X1_69 : Cond.methodLink RX1 69 yX6_standAlsoIn ∈ GB := gb_in (List.mem_append_right _ (List.mem_of_getElem? (i := 347) (by decide +kernel))) rfl
theorem im_X6_standAlsoIn : Cond.instanceMethod yX6_standAlsoIn ∈ GB := gb_in (List.mem_append_right _ (List.mem_of_getElem? (i := 348) (by decide +kernel))) rfl
theorem se_X6_standAlsoIn : Cond.selects RX6 yX6_standAlsoIn yX6_standAlsoIn ∈ GB := gb_in (List.mem_append_right _ (List.mem_of_getElem? (i := 349) (by decide +kernel))) rfl
theorem co_X6_standAlsoIn : Cond.code yX6_standAlsoIn cX6_standAlsoIn 3 none ∈ GB := gb_in (List.mem_append_right _ (List.mem_of_getElem? (i := 350) (by decide +kernel))) rfl
theorem ml_X1_73 : Cond.methodLink RX1 73 yX6_standingIn ∈ GB := gb_in (List.mem_append_right _ (List.mem_of_getElem? (i := 352) (by decide +kernel))) rfl
theorem im_X6_standingIn : Cond.instanceMethod yX6_standingIn ∈ GB := gb_in (List.mem_append_right _ (List.mem_of_getElem? (i := 353) (by decide +kernel))) rfl
theorem se_X6_standingIn : Cond.selects RX6 yX6_standingIn yX6_standingIn ∈ GB := gb_in (List.mem_append_right _ (List.mem_of_getElem? (i := 354) (by decide +kernel))) rfl
theorem co_X6_standingIn : Cond.code yX6_standingIn cX6_standingIn 4 (some .int) ∈ GB := gb_in (List.mem_append_right _ (List.mem_of_getElem? (i := 355) (by decide +kernel))) rfl
theorem ml_X6_40 : Cond.methodLink RX6 40 yJ6_bitCount_0f7a4 ∈ GB := gb_in (List.mem_append_right _ (List.mem_of_getElem? (i := 356) (by decide +kernel))) rfl
theorem st_J6_bitCount_0f7a4 : Cond.static yJ6_bitCount_0f7a4 ∈ GB := gb_in (List.mem_append_right _ (List.mem_of_getElem? (i := 357) (by decide +kernel))) rfl
theorem co_J6_bitCount_0f7a4 : Cond.code yJ6_bitCount_0f7a4 cJ6_bitCount_0f7a4 1 (some .int) ∈ GB := gb_in (List.mem_append_right _ (List.mem_of_getElem? (i := 358) (by decide +kernel))) rfl
theorem k_J6_265 : Cond.constant RJ6 265 1431655765 ∈ GB := gb_in (List.mem_append_right _ (List.mem_of_getElem? (i := 359) (by decide +kernel))) rfl
theorem k_J6_266 : Cond.constant RJ6 266 858993459 ∈ GB := gb_in (List.mem_append_right _ (List.mem_of_getElem? (i := 360) (by decide +kernel))) rfl
theorem k_J6_267 : Cond.constant RJ6 267 252645135 ∈ GB := gb_in (List.mem_append_right _ (List.mem_of_getElem? (i := 361) (by decide +kernel))) rfl
theorem ml_L_105 : Cond.methodLink RL 105 yX7_renew ∈ GB := gb_in (List.mem_append_right _ (List.mem_of_getElem? (i := 362) (by decide +kernel))) rfl
theorem im_X7_renew : Cond.instanceMethod yX7_renew ∈ GB := gb_in (List.mem_append_right _ (List.mem_of_getElem? (i := 363) (by decide +kernel))) rfl
theorem se_X7_renew : Cond.selects RX7 yX7_renew yX7_renew ∈ GB := gb_in (List.mem_append_right _ (List.mem_of_getElem? (i := 364) (by decide +kernel))) rfl
theorem co_X7_renew : Cond.code yX7_renew cX7_renew 2 (some .int) ∈ GB := gb_in (List.mem_append_right _ (List.mem_of_getElem? (i := 365) (by decide +kernel))) rfl
theorem ml_X7_62 : Cond.methodLink RX7 62 yX1_makeAnew ∈ GB := gb_in (List.mem_append_right _ (List.mem_of_getElem? (i := 366) (by decide +kernel))) rfl
theorem im_X1_makeAnew : Cond.instanceMethod yX1_makeAnew ∈ GB := gb_in (List.mem_append_right _ (List.mem_of_getElem? (i := 367) (by decide +kernel))) rfl
theorem se_X1_makeAnew : Cond.selects RX1 yX1_makeAnew yX1_makeAnew ∈ GB := gb_in (List.mem_append_right _ (List.mem_of_getElem? (i := 368) (by decide +kernel))) rfl
theorem co_X1_makeAnew : Cond.code yX1_makeAnew cX1_makeAnew 5 (some .int) ∈ GB := gb_in (List.mem_append_right _ (List.mem_of_getElem? (i := 369) (by decide +kernel))) rfl
theorem ml_X1_76 : Cond.methodLink RX1 76 yX5_isRoot ∈ GB := gb_in (List.mem_append_right _ (List.mem_of_getElem? (i := 370) (by decide +kernel))) rfl
theorem im_X5_isRoot : Cond.instanceMethod yX5_isRoot ∈ GB := gb_in (List.mem_append_right _ (List.mem_of_getElem? (i := 371) (by decide +kernel))) rfl
theorem se_X5_isRoot : Cond.selects RX5 yX5_isRoot yX5_isRoot ∈ GB := gb_in (List.mem_append_right _ (List.mem_of_getElem? (i := 372) (by decide +kernel))) rfl
theorem co_X5_isRoot : Cond.code yX5_isRoot cX5_isRoot 2 (some .boolean) ∈ GB := gb_in (List.mem_append_right _ (List.mem_of_getElem? (i := 373) (by decide +kernel))) rfl
theorem ml_X1_79 : Cond.methodLink RX1 79 yX1_hangingWithout ∈ GB := gb_in (List.mem_append_right _ (List.mem_of_getElem? (i := 374) (by decide +kernel))) rfl
theorem im_X1_hangingWithout : Cond.instanceMethod yX1_hangingWithout ∈ GB := gb_in (List.mem_append_right _ (List.mem_of_getElem? (i := 376) (by decide +kernel))) rfl
theorem co_X1_hangingWithout : Cond.code yX1_hangingWithout cX1_hangingWithout 4 (some .int) ∈ GB := gb_in (List.mem_append_right _ (List.mem_of_getElem? (i := 377) (by decide +kernel))) rfl
theorem ml_X1_118 : Cond.methodLink RX1 118 yX5_liveKeysOn ∈ GB := gb_in (List.mem_append_right _ (List.mem_of_getElem? (i := 378) (by decide +kernel))) rfl
theorem im_X5_liveKeysOn : Cond.instanceMethod yX5_liveKeysOn ∈ GB := gb_in (List.mem_append_right _ (List.mem_of_getElem? (i := 379) (by decide +kernel))) rfl
theorem se_X5_liveKeysOn : Cond.selects RX5 yX5_liveKeysOn yX5_liveKeysOn ∈ GB := gb_in (List.mem_append_right _ (List.mem_of_getElem? (i := 380) (by decide +kernel))) rfl
theorem co_X5_liveKeysOn : Cond.code yX5_liveKeysOn cX5_liveKeysOn 4 (some .int) ∈ GB := gb_in (List.mem_append_right _ (List.mem_of_getElem? (i := 381) (by decide +kernel))) rfl
theorem ml_X1_121 : Cond.methodLink RX1 121 yJ6_bitCount_0f7a4 ∈ GB := gb_in (List.mem_append_right _ (List.mem_of_getElem? (i := 382) (by decide +kernel))) rfl
theorem ml_X1_102 : Cond.methodLink RX1 102 yX5_liveBoxesOn ∈ GB := gb_in (List.mem_append_right _ (List.mem_of_getElem? (i := 383) (by decide +kernel))) rfl
theorem im_X5_liveBoxesOn : Cond.instanceMethod yX5_liveBoxesOn ∈ GB := gb_in (List.mem_append_right _ (List.mem_of_getElem? (i := 384) (by decide +kernel))) rfl
theorem se_X5_liveBoxesOn : Cond.selects RX5 yX5_liveBoxesOn yX5_liveBoxesOn ∈ GB := gb_in (List.mem_append_right _ (List.mem_of_getElem? (i := 385) (by decide +kernel))) rfl
theorem co_X5_liveBoxesOn : Cond.code yX5_liveBoxesOn cX5_liveBoxesOn 4 (some .int) ∈ GB := gb_in (List.mem_append_right _ (List.mem_of_getElem? (i := 386) (by decide +kernel))) rfl
theorem ml_X1_86 : Cond.methodLink RX1 86 yX1_startNextMakes ∈ GB := gb_in (List.mem_append_right _ (List.mem_of_getElem? (i := 387) (by decide +kernel))) rfl
theorem im_X1_startNextMakes : Cond.instanceMethod yX1_startNextMakes ∈ GB := gb_in (List.mem_append_right _ (List.mem_of_getElem? (i := 389) (by decide +kernel))) rfl
theorem co_X1_startNextMakes : Cond.code yX1_startNextMakes cX1_startNextMakes 3 none ∈ GB := gb_in (List.mem_append_right _ (List.mem_of_getElem? (i := 390) (by decide +kernel))) rfl
theorem ml_X1_126 : Cond.methodLink RX1 126 yX5_startNextMake ∈ GB := gb_in (List.mem_append_right _ (List.mem_of_getElem? (i := 392) (by decide +kernel))) rfl
theorem im_X5_startNextMake : Cond.instanceMethod yX5_startNextMake ∈ GB := gb_in (List.mem_append_right _ (List.mem_of_getElem? (i := 393) (by decide +kernel))) rfl
theorem se_X5_startNextMake : Cond.selects RX5 yX5_startNextMake yX5_startNextMake ∈ GB := gb_in (List.mem_append_right _ (List.mem_of_getElem? (i := 394) (by decide +kernel))) rfl
theorem co_X5_startNextMake : Cond.code yX5_startNextMake cX5_startNextMake 2 none ∈ GB := gb_in (List.mem_append_right _ (List.mem_of_getElem? (i := 395) (by decide +kernel))) rfl
theorem ml_X1_132 : Cond.methodLink RX1 132 yX6_burnOlderThan ∈ GB := gb_in (List.mem_append_right _ (List.mem_of_getElem? (i := 396) (by decide +kernel))) rfl
theorem im_X6_burnOlderThan : Cond.instanceMethod yX6_burnOlderThan ∈ GB := gb_in (List.mem_append_right _ (List.mem_of_getElem? (i := 397) (by decide +kernel))) rfl
theorem se_X6_burnOlderThan : Cond.selects RX6 yX6_burnOlderThan yX6_burnOlderThan ∈ GB := gb_in (List.mem_append_right _ (List.mem_of_getElem? (i := 398) (by decide +kernel))) rfl
theorem co_X6_burnOlderThan : Cond.code yX6_burnOlderThan cX6_burnOlderThan 6 none ∈ GB := gb_in (List.mem_append_right _ (List.mem_of_getElem? (i := 399) (by decide +kernel))) rfl
theorem ml_X6_66 : Cond.methodLink RX6 66 yX6_burn ∈ GB := gb_in (List.mem_append_right _ (List.mem_of_getElem? (i := 400) (by decide +kernel))) rfl
theorem im_X6_burn : Cond.instanceMethod yX6_burn ∈ GB := gb_in (List.mem_append_right _ (List.mem_of_getElem? (i := 402) (by decide +kernel))) rfl
theorem co_X6_burn : Cond.code yX6_burn cX6_burn 2 none ∈ GB := gb_in (List.mem_append_right _ (List.mem_of_getElem? (i := 403) (by decide +kernel))) rfl
theorem ml_X1_89 : Cond.methodLink RX1 89 yX1_wrapAllOn ∈ GB := gb_in (List.mem_append_right _ (List.mem_of_getElem? (i := 404) (by decide +kernel))) rfl
theorem im_X1_wrapAllOn : Cond.instanceMethod yX1_wrapAllOn ∈ GB := gb_in (List.mem_append_right _ (List.mem_of_getElem? (i := 406) (by decide +kernel))) rfl
theorem co_X1_wrapAllOn : Cond.code yX1_wrapAllOn cX1_wrapAllOn 5 none ∈ GB := gb_in (List.mem_append_right _ (List.mem_of_getElem? (i := 407) (by decide +kernel))) rfl
theorem ml_L_114 : Cond.methodLink RL 114 yX7_throwKey ∈ GB := gb_in (List.mem_append_right _ (List.mem_of_getElem? (i := 408) (by decide +kernel))) rfl
theorem im_X7_throwKey : Cond.instanceMethod yX7_throwKey ∈ GB := gb_in (List.mem_append_right _ (List.mem_of_getElem? (i := 409) (by decide +kernel))) rfl
theorem se_X7_throwKey : Cond.selects RX7 yX7_throwKey yX7_throwKey ∈ GB := gb_in (List.mem_append_right _ (List.mem_of_getElem? (i := 410) (by decide +kernel))) rfl
theorem co_X7_throwKey : Cond.code yX7_throwKey cX7_throwKey 2 (some .int) ∈ GB := gb_in (List.mem_append_right _ (List.mem_of_getElem? (i := 411) (by decide +kernel))) rfl
theorem ml_X7_65 : Cond.methodLink RX7 65 yX1_throwAway ∈ GB := gb_in (List.mem_append_right _ (List.mem_of_getElem? (i := 412) (by decide +kernel))) rfl
theorem im_X1_throwAway : Cond.instanceMethod yX1_throwAway ∈ GB := gb_in (List.mem_append_right _ (List.mem_of_getElem? (i := 413) (by decide +kernel))) rfl
theorem se_X1_throwAway : Cond.selects RX1 yX1_throwAway yX1_throwAway ∈ GB := gb_in (List.mem_append_right _ (List.mem_of_getElem? (i := 414) (by decide +kernel))) rfl
theorem co_X1_throwAway : Cond.code yX1_throwAway cX1_throwAway 8 (some .int) ∈ GB := gb_in (List.mem_append_right _ (List.mem_of_getElem? (i := 415) (by decide +kernel))) rfl
theorem ml_X1_92 : Cond.methodLink RX1 92 yX5_isLive ∈ GB := gb_in (List.mem_append_right _ (List.mem_of_getElem? (i := 416) (by decide +kernel))) rfl
theorem im_X5_isLive : Cond.instanceMethod yX5_isLive ∈ GB := gb_in (List.mem_append_right _ (List.mem_of_getElem? (i := 417) (by decide +kernel))) rfl
theorem se_X5_isLive : Cond.selects RX5 yX5_isLive yX5_isLive ∈ GB := gb_in (List.mem_append_right _ (List.mem_of_getElem? (i := 418) (by decide +kernel))) rfl
theorem co_X5_isLive : Cond.code yX5_isLive cX5_isLive 3 (some .boolean) ∈ GB := gb_in (List.mem_append_right _ (List.mem_of_getElem? (i := 419) (by decide +kernel))) rfl
theorem ml_X5_49 : Cond.methodLink RX5 49 yX5_isLiveKey ∈ GB := gb_in (List.mem_append_right _ (List.mem_of_getElem? (i := 420) (by decide +kernel))) rfl
theorem ml_X5_53 : Cond.methodLink RX5 53 yX5_isLiveBox ∈ GB := gb_in (List.mem_append_right _ (List.mem_of_getElem? (i := 421) (by decide +kernel))) rfl
theorem im_X5_isLiveBox : Cond.instanceMethod yX5_isLiveBox ∈ GB := gb_in (List.mem_append_right _ (List.mem_of_getElem? (i := 422) (by decide +kernel))) rfl
theorem se_X5_isLiveBox : Cond.selects RX5 yX5_isLiveBox yX5_isLiveBox ∈ GB := gb_in (List.mem_append_right _ (List.mem_of_getElem? (i := 423) (by decide +kernel))) rfl
theorem co_X5_isLiveBox : Cond.code yX5_isLiveBox cX5_isLiveBox 2 (some .boolean) ∈ GB := gb_in (List.mem_append_right _ (List.mem_of_getElem? (i := 424) (by decide +kernel))) rfl
theorem ml_X1_95 : Cond.methodLink RX1 95 yX5_aboveThat ∈ GB := gb_in (List.mem_append_right _ (List.mem_of_getElem? (i := 425) (by decide +kernel))) rfl
theorem im_X5_aboveThat : Cond.instanceMethod yX5_aboveThat ∈ GB := gb_in (List.mem_append_right _ (List.mem_of_getElem? (i := 426) (by decide +kernel))) rfl
theorem se_X5_aboveThat : Cond.selects RX5 yX5_aboveThat yX5_aboveThat ∈ GB := gb_in (List.mem_append_right _ (List.mem_of_getElem? (i := 427) (by decide +kernel))) rfl
theorem co_X5_aboveThat : Cond.code yX5_aboveThat cX5_aboveThat 3 (some .int) ∈ GB := gb_in (List.mem_append_right _ (List.mem_of_getElem? (i := 428) (by decide +kernel))) rfl
theorem ml_X5_69 : Cond.methodLink RX5 69 yX5_above ∈ GB := gb_in (List.mem_append_right _ (List.mem_of_getElem? (i := 429) (by decide +kernel))) rfl
theorem im_X5_above : Cond.instanceMethod yX5_above ∈ GB := gb_in (List.mem_append_right _ (List.mem_of_getElem? (i := 430) (by decide +kernel))) rfl
theorem se_X5_above : Cond.selects RX5 yX5_above yX5_above ∈ GB := gb_in (List.mem_append_right _ (List.mem_of_getElem? (i := 431) (by decide +kernel))) rfl
theorem co_X5_above : Cond.code yX5_above cX5_above 5 (some .int) ∈ GB := gb_in (List.mem_append_right _ (List.mem_of_getElem? (i := 432) (by decide +kernel))) rfl
theorem ml_X5_72 : Cond.methodLink RX5 72 yX5_aboveBox ∈ GB := gb_in (List.mem_append_right _ (List.mem_of_getElem? (i := 433) (by decide +kernel))) rfl
theorem im_X5_aboveBox : Cond.instanceMethod yX5_aboveBox ∈ GB := gb_in (List.mem_append_right _ (List.mem_of_getElem? (i := 434) (by decide +kernel))) rfl
theorem se_X5_aboveBox : Cond.selects RX5 yX5_aboveBox yX5_aboveBox ∈ GB := gb_in (List.mem_append_right _ (List.mem_of_getElem? (i := 435) (by decide +kernel))) rfl
theorem co_X5_aboveBox : Cond.code yX5_aboveBox cX5_aboveBox 3 (some .int) ∈ GB := gb_in (List.mem_append_right _ (List.mem_of_getElem? (i := 436) (by decide +kernel))) rfl
theorem ml_X1_99 : Cond.methodLink RX1 99 yX5_withAllBelow ∈ GB := gb_in (List.mem_append_right _ (List.mem_of_getElem? (i := 437) (by decide +kernel))) rfl
theorem im_X5_withAllBelow : Cond.instanceMethod yX5_withAllBelow ∈ GB := gb_in (List.mem_append_right _ (List.mem_of_getElem? (i := 438) (by decide +kernel))) rfl
theorem se_X5_withAllBelow : Cond.selects RX5 yX5_withAllBelow yX5_withAllBelow ∈ GB := gb_in (List.mem_append_right _ (List.mem_of_getElem? (i := 439) (by decide +kernel))) rfl
theorem co_X5_withAllBelow : Cond.code yX5_withAllBelow cX5_withAllBelow 4 (some .int) ∈ GB := gb_in (List.mem_append_right _ (List.mem_of_getElem? (i := 440) (by decide +kernel))) rfl
theorem ml_X1_105 : Cond.methodLink RX1 105 yX1_canWrapAgain ∈ GB := gb_in (List.mem_append_right _ (List.mem_of_getElem? (i := 441) (by decide +kernel))) rfl
theorem im_X1_canWrapAgain : Cond.instanceMethod yX1_canWrapAgain ∈ GB := gb_in (List.mem_append_right _ (List.mem_of_getElem? (i := 443) (by decide +kernel))) rfl
theorem co_X1_canWrapAgain : Cond.code yX1_canWrapAgain cX1_canWrapAgain 5 (some .boolean) ∈ GB := gb_in (List.mem_append_right _ (List.mem_of_getElem? (i := 444) (by decide +kernel))) rfl
theorem ml_X1_109 : Cond.methodLink RX1 109 yX5_endLife ∈ GB := gb_in (List.mem_append_right _ (List.mem_of_getElem? (i := 445) (by decide +kernel))) rfl
theorem im_X5_endLife : Cond.instanceMethod yX5_endLife ∈ GB := gb_in (List.mem_append_right _ (List.mem_of_getElem? (i := 446) (by decide +kernel))) rfl
theorem se_X5_endLife : Cond.selects RX5 yX5_endLife yX5_endLife ∈ GB := gb_in (List.mem_append_right _ (List.mem_of_getElem? (i := 447) (by decide +kernel))) rfl
theorem co_X5_endLife : Cond.code yX5_endLife cX5_endLife 3 none ∈ GB := gb_in (List.mem_append_right _ (List.mem_of_getElem? (i := 448) (by decide +kernel))) rfl
theorem ml_X1_112 : Cond.methodLink RX1 112 yX6_burnHolding ∈ GB := gb_in (List.mem_append_right _ (List.mem_of_getElem? (i := 449) (by decide +kernel))) rfl
theorem im_X6_burnHolding : Cond.instanceMethod yX6_burnHolding ∈ GB := gb_in (List.mem_append_right _ (List.mem_of_getElem? (i := 450) (by decide +kernel))) rfl
theorem se_X6_burnHolding : Cond.selects RX6 yX6_burnHolding yX6_burnHolding ∈ GB := gb_in (List.mem_append_right _ (List.mem_of_getElem? (i := 451) (by decide +kernel))) rfl
theorem co_X6_burnHolding : Cond.code yX6_burnHolding cX6_burnHolding 5 none ∈ GB := gb_in (List.mem_append_right _ (List.mem_of_getElem? (i := 452) (by decide +kernel))) rfl
theorem ml_L_117 : Cond.methodLink RL 117 yX7_throwBox ∈ GB := gb_in (List.mem_append_right _ (List.mem_of_getElem? (i := 454) (by decide +kernel))) rfl
theorem im_X7_throwBox : Cond.instanceMethod yX7_throwBox ∈ GB := gb_in (List.mem_append_right _ (List.mem_of_getElem? (i := 455) (by decide +kernel))) rfl
theorem se_X7_throwBox : Cond.selects RX7 yX7_throwBox yX7_throwBox ∈ GB := gb_in (List.mem_append_right _ (List.mem_of_getElem? (i := 456) (by decide +kernel))) rfl
theorem co_X7_throwBox : Cond.code yX7_throwBox cX7_throwBox 2 (some .int) ∈ GB := gb_in (List.mem_append_right _ (List.mem_of_getElem? (i := 457) (by decide +kernel))) rfl
theorem ml_L_111 : Cond.methodLink RL 111 yX7_throwingMakes ∈ GB := gb_in (List.mem_append_right _ (List.mem_of_getElem? (i := 458) (by decide +kernel))) rfl
theorem im_X7_throwingMakes : Cond.instanceMethod yX7_throwingMakes ∈ GB := gb_in (List.mem_append_right _ (List.mem_of_getElem? (i := 459) (by decide +kernel))) rfl
theorem se_X7_throwingMakes : Cond.selects RX7 yX7_throwingMakes yX7_throwingMakes ∈ GB := gb_in (List.mem_append_right _ (List.mem_of_getElem? (i := 460) (by decide +kernel))) rfl
theorem co_X7_throwingMakes : Cond.code yX7_throwingMakes cX7_throwingMakes 3 (some .int) ∈ GB := gb_in (List.mem_append_right _ (List.mem_of_getElem? (i := 461) (by decide +kernel))) rfl
theorem ml_X7_205 : Cond.methodLink RX7 205 yX1_wrapsByThrowing ∈ GB := gb_in (List.mem_append_right _ (List.mem_of_getElem? (i := 462) (by decide +kernel))) rfl
theorem im_X1_wrapsByThrowing : Cond.instanceMethod yX1_wrapsByThrowing ∈ GB := gb_in (List.mem_append_right _ (List.mem_of_getElem? (i := 463) (by decide +kernel))) rfl
theorem se_X1_wrapsByThrowing : Cond.selects RX1 yX1_wrapsByThrowing yX1_wrapsByThrowing ∈ GB := gb_in (List.mem_append_right _ (List.mem_of_getElem? (i := 464) (by decide +kernel))) rfl
theorem co_X1_wrapsByThrowing : Cond.code yX1_wrapsByThrowing cX1_wrapsByThrowing 6 (some .int) ∈ GB := gb_in (List.mem_append_right _ (List.mem_of_getElem? (i := 465) (by decide +kernel))) rfl
theorem ml_L_90 : Cond.methodLink RL 90 yL_cell ∈ GB := gb_in (List.mem_append_right _ (List.mem_of_getElem? (i := 466) (by decide +kernel))) rfl
theorem st_L_cell : Cond.static yL_cell ∈ GB := gb_in (List.mem_append_right _ (List.mem_of_getElem? (i := 467) (by decide +kernel))) rfl
theorem co_L_cell : Cond.code yL_cell cL_cell 2 (some .int) ∈ GB := gb_in (List.mem_append_right _ (List.mem_of_getElem? (i := 468) (by decide +kernel))) rfl
theorem k_L_7 : Cond.constant RL 7 919782101 ∈ GB := gb_in (List.mem_append_right _ (List.mem_of_getElem? (i := 469) (by decide +kernel))) rfl
theorem k_L_8 : Cond.constant RL 8 439050061 ∈ GB := gb_in (List.mem_append_right _ (List.mem_of_getElem? (i := 470) (by decide +kernel))) rfl
theorem ml_L_60 : Cond.methodLink RL 60 yL_low ∈ GB := gb_in (List.mem_append_right _ (List.mem_of_getElem? (i := 471) (by decide +kernel))) rfl
theorem st_L_low : Cond.static yL_low ∈ GB := gb_in (List.mem_append_right _ (List.mem_of_getElem? (i := 472) (by decide +kernel))) rfl
theorem co_L_low : Cond.code yL_low cL_low 2 (some .int) ∈ GB := gb_in (List.mem_append_right _ (List.mem_of_getElem? (i := 473) (by decide +kernel))) rfl
theorem k_L_9 : Cond.constant RL 9 2147483647 ∈ GB := gb_in (List.mem_append_right _ (List.mem_of_getElem? (i := 474) (by decide +kernel))) rfl
theorem ml_L_17 : Cond.methodLink RL 17 yL_wrap ∈ GB := gb_in (List.mem_append_right _ (List.mem_of_getElem? (i := 475) (by decide +kernel))) rfl
theorem st_L_wrap : Cond.static yL_wrap ∈ GB := gb_in (List.mem_append_right _ (List.mem_of_getElem? (i := 476) (by decide +kernel))) rfl
theorem co_L_wrap : Cond.code yL_wrap cL_wrap 6 none ∈ GB := gb_in (List.mem_append_right _ (List.mem_of_getElem? (i := 477) (by decide +kernel))) rfl
theorem ml_L_11 : Cond.methodLink RL 11 yL_made ∈ GB := gb_in (List.mem_append_right _ (List.mem_of_getElem? (i := 478) (by decide +kernel))) rfl
theorem st_L_made : Cond.static yL_made ∈ GB := gb_in (List.mem_append_right _ (List.mem_of_getElem? (i := 479) (by decide +kernel))) rfl
theorem co_L_made : Cond.code yL_made cL_made 4 (some .int) ∈ GB := gb_in (List.mem_append_right _ (List.mem_of_getElem? (i := 480) (by decide +kernel))) rfl
theorem k_L_10 : Cond.constant RL 10 262144 ∈ GB := gb_in (List.mem_append_right _ (List.mem_of_getElem? (i := 481) (by decide +kernel))) rfl
theorem ml_L_101 : Cond.methodLink RL 101 yL_hang ∈ GB := gb_in (List.mem_append_right _ (List.mem_of_getElem? (i := 482) (by decide +kernel))) rfl
theorem st_L_hang : Cond.static yL_hang ∈ GB := gb_in (List.mem_append_right _ (List.mem_of_getElem? (i := 483) (by decide +kernel))) rfl
theorem co_L_hang : Cond.code yL_hang cL_hang 6 (some .int) ∈ GB := gb_in (List.mem_append_right _ (List.mem_of_getElem? (i := 484) (by decide +kernel))) rfl
theorem ml_L_36 : Cond.methodLink RL 36 yL_wrapAll ∈ GB := gb_in (List.mem_append_right _ (List.mem_of_getElem? (i := 485) (by decide +kernel))) rfl
theorem st_L_wrapAll : Cond.static yL_wrapAll ∈ GB := gb_in (List.mem_append_right _ (List.mem_of_getElem? (i := 486) (by decide +kernel))) rfl
theorem co_L_wrapAll : Cond.code yL_wrapAll cL_wrapAll 7 (some .int) ∈ GB := gb_in (List.mem_append_right _ (List.mem_of_getElem? (i := 487) (by decide +kernel))) rfl
theorem ml_L_32 : Cond.methodLink RL 32 yL_burn ∈ GB := gb_in (List.mem_append_right _ (List.mem_of_getElem? (i := 488) (by decide +kernel))) rfl
theorem st_L_burn : Cond.static yL_burn ∈ GB := gb_in (List.mem_append_right _ (List.mem_of_getElem? (i := 489) (by decide +kernel))) rfl
theorem co_L_burn : Cond.code yL_burn cL_burn 8 none ∈ GB := gb_in (List.mem_append_right _ (List.mem_of_getElem? (i := 490) (by decide +kernel))) rfl
theorem ml_L_21 : Cond.methodLink RL 21 yL_key ∈ GB := gb_in (List.mem_append_right _ (List.mem_of_getElem? (i := 491) (by decide +kernel))) rfl
theorem st_L_key : Cond.static yL_key ∈ GB := gb_in (List.mem_append_right _ (List.mem_of_getElem? (i := 492) (by decide +kernel))) rfl
theorem co_L_key : Cond.code yL_key cL_key 1 (some .int) ∈ GB := gb_in (List.mem_append_right _ (List.mem_of_getElem? (i := 493) (by decide +kernel))) rfl
theorem ml_L_25 : Cond.methodLink RL 25 yL_closer ∈ GB := gb_in (List.mem_append_right _ (List.mem_of_getElem? (i := 494) (by decide +kernel))) rfl
theorem st_L_closer : Cond.static yL_closer ∈ GB := gb_in (List.mem_append_right _ (List.mem_of_getElem? (i := 495) (by decide +kernel))) rfl
theorem co_L_closer : Cond.code yL_closer cL_closer 1 (some .int) ∈ GB := gb_in (List.mem_append_right _ (List.mem_of_getElem? (i := 496) (by decide +kernel))) rfl
theorem ml_L_28 : Cond.methodLink RL 28 yL_which ∈ GB := gb_in (List.mem_append_right _ (List.mem_of_getElem? (i := 497) (by decide +kernel))) rfl
theorem st_L_which : Cond.static yL_which ∈ GB := gb_in (List.mem_append_right _ (List.mem_of_getElem? (i := 498) (by decide +kernel))) rfl
theorem co_L_which : Cond.code yL_which cL_which 1 (some .int) ∈ GB := gb_in (List.mem_append_right _ (List.mem_of_getElem? (i := 499) (by decide +kernel))) rfl
theorem k_L_31 : Cond.constant RL 31 (-262145) ∈ GB := gb_in (List.mem_append_right _ (List.mem_of_getElem? (i := 500) (by decide +kernel))) rfl
theorem ml_L_53 : Cond.methodLink RL 53 yL_under ∈ GB := gb_in (List.mem_append_right _ (List.mem_of_getElem? (i := 501) (by decide +kernel))) rfl
theorem st_L_under : Cond.static yL_under ∈ GB := gb_in (List.mem_append_right _ (List.mem_of_getElem? (i := 502) (by decide +kernel))) rfl
theorem co_L_under : Cond.code yL_under cL_under 4 (some .boolean) ∈ GB := gb_in (List.mem_append_right _ (List.mem_of_getElem? (i := 503) (by decide +kernel))) rfl
theorem ml_L_120 : Cond.methodLink RL 120 yL_anew ∈ GB := gb_in (List.mem_append_right _ (List.mem_of_getElem? (i := 504) (by decide +kernel))) rfl
theorem st_L_anew : Cond.static yL_anew ∈ GB := gb_in (List.mem_append_right _ (List.mem_of_getElem? (i := 505) (by decide +kernel))) rfl
theorem co_L_anew : Cond.code yL_anew cL_anew 8 (some .int) ∈ GB := gb_in (List.mem_append_right _ (List.mem_of_getElem? (i := 506) (by decide +kernel))) rfl
theorem ml_L_123 : Cond.methodLink RL 123 yL_same ∈ GB := gb_in (List.mem_append_right _ (List.mem_of_getElem? (i := 507) (by decide +kernel))) rfl
theorem st_L_same : Cond.static yL_same ∈ GB := gb_in (List.mem_append_right _ (List.mem_of_getElem? (i := 508) (by decide +kernel))) rfl
set_option maxRecDepth 1000000 in
theorem co_L_same : Cond.code yL_same cL_same 17 (some .boolean) ∈ GB := gb_in (List.mem_append_right _ (List.mem_of_getElem? (i := 509) (rfl))) rfl
theorem ml_L_47 : Cond.methodLink RL 47 yX7_ofKey ∈ GB := gb_in (List.mem_append_right _ (List.mem_of_getElem? (i := 510) (by decide +kernel))) rfl
theorem im_X7_ofKey : Cond.instanceMethod yX7_ofKey ∈ GB := gb_in (List.mem_append_right _ (List.mem_of_getElem? (i := 511) (by decide +kernel))) rfl
theorem se_X7_ofKey : Cond.selects RX7 yX7_ofKey yX7_ofKey ∈ GB := gb_in (List.mem_append_right _ (List.mem_of_getElem? (i := 512) (by decide +kernel))) rfl
theorem co_X7_ofKey : Cond.code yX7_ofKey cX7_ofKey 4 (some .int) ∈ GB := gb_in (List.mem_append_right _ (List.mem_of_getElem? (i := 513) (by decide +kernel))) rfl
theorem ml_X7_72 : Cond.methodLink RX7 72 yX5_hasKey ∈ GB := gb_in (List.mem_append_right _ (List.mem_of_getElem? (i := 514) (by decide +kernel))) rfl
theorem im_X5_hasKey : Cond.instanceMethod yX5_hasKey ∈ GB := gb_in (List.mem_append_right _ (List.mem_of_getElem? (i := 515) (by decide +kernel))) rfl
theorem se_X5_hasKey : Cond.selects RX5 yX5_hasKey yX5_hasKey ∈ GB := gb_in (List.mem_append_right _ (List.mem_of_getElem? (i := 516) (by decide +kernel))) rfl
theorem co_X5_hasKey : Cond.code yX5_hasKey cX5_hasKey 2 (some .boolean) ∈ GB := gb_in (List.mem_append_right _ (List.mem_of_getElem? (i := 517) (by decide +kernel))) rfl
theorem ml_X7_78 : Cond.methodLink RX7 78 yX5_parentOf ∈ GB := gb_in (List.mem_append_right _ (List.mem_of_getElem? (i := 518) (by decide +kernel))) rfl
theorem ml_X7_81 : Cond.methodLink RX7 81 yX5_isLiveKey ∈ GB := gb_in (List.mem_append_right _ (List.mem_of_getElem? (i := 519) (by decide +kernel))) rfl
theorem ml_X7_84 : Cond.methodLink RX7 84 yX7_oneIf ∈ GB := gb_in (List.mem_append_right _ (List.mem_of_getElem? (i := 520) (by decide +kernel))) rfl
theorem st_X7_oneIf : Cond.static yX7_oneIf ∈ GB := gb_in (List.mem_append_right _ (List.mem_of_getElem? (i := 521) (by decide +kernel))) rfl
theorem co_X7_oneIf : Cond.code yX7_oneIf cX7_oneIf 1 (some .int) ∈ GB := gb_in (List.mem_append_right _ (List.mem_of_getElem? (i := 522) (by decide +kernel))) rfl
theorem ml_X7_88 : Cond.methodLink RX7 88 yX5_makeOf ∈ GB := gb_in (List.mem_append_right _ (List.mem_of_getElem? (i := 523) (by decide +kernel))) rfl
theorem ml_X7_91 : Cond.methodLink RX7 91 yX5_wearOf ∈ GB := gb_in (List.mem_append_right _ (List.mem_of_getElem? (i := 524) (by decide +kernel))) rfl
theorem im_X5_wearOf : Cond.instanceMethod yX5_wearOf ∈ GB := gb_in (List.mem_append_right _ (List.mem_of_getElem? (i := 525) (by decide +kernel))) rfl
theorem se_X5_wearOf : Cond.selects RX5 yX5_wearOf yX5_wearOf ∈ GB := gb_in (List.mem_append_right _ (List.mem_of_getElem? (i := 526) (by decide +kernel))) rfl
theorem co_X5_wearOf : Cond.code yX5_wearOf cX5_wearOf 2 (some .int) ∈ GB := gb_in (List.mem_append_right _ (List.mem_of_getElem? (i := 527) (by decide +kernel))) rfl
theorem ml_X7_94 : Cond.methodLink RX7 94 yX7_setOf ∈ GB := gb_in (List.mem_append_right _ (List.mem_of_getElem? (i := 528) (by decide +kernel))) rfl
theorem ml_X7_97 : Cond.methodLink RX7 97 yX5_liveKeysOn ∈ GB := gb_in (List.mem_append_right _ (List.mem_of_getElem? (i := 529) (by decide +kernel))) rfl
theorem ml_X7_100 : Cond.methodLink RX7 100 yX5_liveBoxesOn ∈ GB := gb_in (List.mem_append_right _ (List.mem_of_getElem? (i := 530) (by decide +kernel))) rfl
theorem ml_X7_103 : Cond.methodLink RX7 103 yX5_above ∈ GB := gb_in (List.mem_append_right _ (List.mem_of_getElem? (i := 531) (by decide +kernel))) rfl
theorem ml_X7_106 : Cond.methodLink RX7 106 yJ6_bitCount_0f7a4 ∈ GB := gb_in (List.mem_append_right _ (List.mem_of_getElem? (i := 532) (by decide +kernel))) rfl
theorem ml_L_57 : Cond.methodLink RL 57 yX7_lostBy ∈ GB := gb_in (List.mem_append_right _ (List.mem_of_getElem? (i := 533) (by decide +kernel))) rfl
theorem im_X7_lostBy : Cond.instanceMethod yX7_lostBy ∈ GB := gb_in (List.mem_append_right _ (List.mem_of_getElem? (i := 534) (by decide +kernel))) rfl
theorem se_X7_lostBy : Cond.selects RX7 yX7_lostBy yX7_lostBy ∈ GB := gb_in (List.mem_append_right _ (List.mem_of_getElem? (i := 535) (by decide +kernel))) rfl
theorem co_X7_lostBy : Cond.code yX7_lostBy cX7_lostBy 3 (some .int) ∈ GB := gb_in (List.mem_append_right _ (List.mem_of_getElem? (i := 536) (by decide +kernel))) rfl
theorem ml_X7_202 : Cond.methodLink RX7 202 yX5_withAllBelow ∈ GB := gb_in (List.mem_append_right _ (List.mem_of_getElem? (i := 537) (by decide +kernel))) rfl
theorem ml_L_63 : Cond.methodLink RL 63 yL_open ∈ GB := gb_in (List.mem_append_right _ (List.mem_of_getElem? (i := 538) (by decide +kernel))) rfl
theorem st_L_open : Cond.static yL_open ∈ GB := gb_in (List.mem_append_right _ (List.mem_of_getElem? (i := 539) (by decide +kernel))) rfl
theorem co_L_open : Cond.code yL_open cL_open 11 none ∈ GB := gb_in (List.mem_append_right _ (List.mem_of_getElem? (i := 540) (by decide +kernel))) rfl
theorem ml_L_40 : Cond.methodLink RL 40 yL_closed ∈ GB := gb_in (List.mem_append_right _ (List.mem_of_getElem? (i := 541) (by decide +kernel))) rfl
theorem st_L_closed : Cond.static yL_closed ∈ GB := gb_in (List.mem_append_right _ (List.mem_of_getElem? (i := 542) (by decide +kernel))) rfl
theorem co_L_closed : Cond.code yL_closed cL_closed 1 (some .int) ∈ GB := gb_in (List.mem_append_right _ (List.mem_of_getElem? (i := 543) (by decide +kernel))) rfl
theorem ml_L_43 : Cond.methodLink RL 43 yL_had ∈ GB := gb_in (List.mem_append_right _ (List.mem_of_getElem? (i := 544) (by decide +kernel))) rfl
theorem st_L_had : Cond.static yL_had ∈ GB := gb_in (List.mem_append_right _ (List.mem_of_getElem? (i := 545) (by decide +kernel))) rfl
theorem co_L_had : Cond.code yL_had cL_had 9 (some .boolean) ∈ GB := gb_in (List.mem_append_right _ (List.mem_of_getElem? (i := 546) (by decide +kernel))) rfl
theorem ml_L_67 : Cond.methodLink RL 67 yX7_canHave ∈ GB := gb_in (List.mem_append_right _ (List.mem_of_getElem? (i := 547) (by decide +kernel))) rfl
theorem im_X7_canHave : Cond.instanceMethod yX7_canHave ∈ GB := gb_in (List.mem_append_right _ (List.mem_of_getElem? (i := 548) (by decide +kernel))) rfl
theorem se_X7_canHave : Cond.selects RX7 yX7_canHave yX7_canHave ∈ GB := gb_in (List.mem_append_right _ (List.mem_of_getElem? (i := 549) (by decide +kernel))) rfl
theorem co_X7_canHave : Cond.code yX7_canHave cX7_canHave 4 (some .int) ∈ GB := gb_in (List.mem_append_right _ (List.mem_of_getElem? (i := 550) (by decide +kernel))) rfl
theorem ml_X7_185 : Cond.methodLink RX7 185 yX7_arePlaces ∈ GB := gb_in (List.mem_append_right _ (List.mem_of_getElem? (i := 551) (by decide +kernel))) rfl
theorem st_X7_arePlaces : Cond.static yX7_arePlaces ∈ GB := gb_in (List.mem_append_right _ (List.mem_of_getElem? (i := 552) (by decide +kernel))) rfl
theorem co_X7_arePlaces : Cond.code yX7_arePlaces cX7_arePlaces 1 (some .boolean) ∈ GB := gb_in (List.mem_append_right _ (List.mem_of_getElem? (i := 553) (by decide +kernel))) rfl
theorem ml_X7_188 : Cond.methodLink RX7 188 yX2_canHaveKey ∈ GB := gb_in (List.mem_append_right _ (List.mem_of_getElem? (i := 554) (by decide +kernel))) rfl
theorem im_X2_canHaveKey : Cond.instanceMethod yX2_canHaveKey ∈ GB := gb_in (List.mem_append_right _ (List.mem_of_getElem? (i := 555) (by decide +kernel))) rfl
theorem se_X2_canHaveKey : Cond.selects RX2 yX2_canHaveKey yX2_canHaveKey ∈ GB := gb_in (List.mem_append_right _ (List.mem_of_getElem? (i := 556) (by decide +kernel))) rfl
theorem co_X2_canHaveKey : Cond.code yX2_canHaveKey cX2_canHaveKey 5 (some .boolean) ∈ GB := gb_in (List.mem_append_right _ (List.mem_of_getElem? (i := 557) (by decide +kernel))) rfl
theorem ml_X2_29 : Cond.methodLink RX2 29 yX2_startFromSafe ∈ GB := gb_in (List.mem_append_right _ (List.mem_of_getElem? (i := 558) (by decide +kernel))) rfl
theorem im_X2_startFromSafe : Cond.instanceMethod yX2_startFromSafe ∈ GB := gb_in (List.mem_append_right _ (List.mem_of_getElem? (i := 560) (by decide +kernel))) rfl
theorem co_X2_startFromSafe : Cond.code yX2_startFromSafe cX2_startFromSafe 3 none ∈ GB := gb_in (List.mem_append_right _ (List.mem_of_getElem? (i := 561) (by decide +kernel))) rfl
theorem ml_X2_49 : Cond.methodLink RX2 49 yX4_fill ∈ GB := gb_in (List.mem_append_right _ (List.mem_of_getElem? (i := 562) (by decide +kernel))) rfl
theorem im_X4_fill : Cond.instanceMethod yX4_fill ∈ GB := gb_in (List.mem_append_right _ (List.mem_of_getElem? (i := 563) (by decide +kernel))) rfl
theorem se_X4_fill : Cond.selects RX4 yX4_fill yX4_fill ∈ GB := gb_in (List.mem_append_right _ (List.mem_of_getElem? (i := 564) (by decide +kernel))) rfl
theorem co_X4_fill : Cond.code yX4_fill cX4_fill 3 none ∈ GB := gb_in (List.mem_append_right _ (List.mem_of_getElem? (i := 565) (by decide +kernel))) rfl
theorem ml_X2_56 : Cond.methodLink RX2 56 yX5_isLiveKey ∈ GB := gb_in (List.mem_append_right _ (List.mem_of_getElem? (i := 566) (by decide +kernel))) rfl
theorem ml_X2_62 : Cond.methodLink RX2 62 yX5_isRoot ∈ GB := gb_in (List.mem_append_right _ (List.mem_of_getElem? (i := 567) (by decide +kernel))) rfl
theorem ml_X2_65 : Cond.methodLink RX2 65 yX5_makeOf ∈ GB := gb_in (List.mem_append_right _ (List.mem_of_getElem? (i := 568) (by decide +kernel))) rfl
theorem ml_X2_52 : Cond.methodLink RX2 52 yX4_set ∈ GB := gb_in (List.mem_append_right _ (List.mem_of_getElem? (i := 569) (by decide +kernel))) rfl
theorem ml_X2_37 : Cond.methodLink RX2 37 yX2_openAll ∈ GB := gb_in (List.mem_append_right _ (List.mem_of_getElem? (i := 570) (by decide +kernel))) rfl
theorem im_X2_openAll : Cond.instanceMethod yX2_openAll ∈ GB := gb_in (List.mem_append_right _ (List.mem_of_getElem? (i := 572) (by decide +kernel))) rfl
theorem co_X2_openAll : Cond.code yX2_openAll cX2_openAll 4 none ∈ GB := gb_in (List.mem_append_right _ (List.mem_of_getElem? (i := 573) (by decide +kernel))) rfl
theorem ml_X2_69 : Cond.methodLink RX2 69 yX2_openHolding ∈ GB := gb_in (List.mem_append_right _ (List.mem_of_getElem? (i := 574) (by decide +kernel))) rfl
theorem im_X2_openHolding : Cond.instanceMethod yX2_openHolding ∈ GB := gb_in (List.mem_append_right _ (List.mem_of_getElem? (i := 576) (by decide +kernel))) rfl
theorem co_X2_openHolding : Cond.code yX2_openHolding cX2_openHolding 5 none ∈ GB := gb_in (List.mem_append_right _ (List.mem_of_getElem? (i := 577) (by decide +kernel))) rfl
theorem ml_X2_79 : Cond.methodLink RX2 79 yX6_heldKey ∈ GB := gb_in (List.mem_append_right _ (List.mem_of_getElem? (i := 578) (by decide +kernel))) rfl
theorem im_X6_heldKey : Cond.instanceMethod yX6_heldKey ∈ GB := gb_in (List.mem_append_right _ (List.mem_of_getElem? (i := 579) (by decide +kernel))) rfl
theorem se_X6_heldKey : Cond.selects RX6 yX6_heldKey yX6_heldKey ∈ GB := gb_in (List.mem_append_right _ (List.mem_of_getElem? (i := 580) (by decide +kernel))) rfl
theorem co_X6_heldKey : Cond.code yX6_heldKey cX6_heldKey 2 (some .int) ∈ GB := gb_in (List.mem_append_right _ (List.mem_of_getElem? (i := 581) (by decide +kernel))) rfl
theorem ml_X2_82 : Cond.methodLink RX2 82 yX6_standsIn ∈ GB := gb_in (List.mem_append_right _ (List.mem_of_getElem? (i := 582) (by decide +kernel))) rfl
theorem ml_X2_86 : Cond.methodLink RX2 86 yX6_closer ∈ GB := gb_in (List.mem_append_right _ (List.mem_of_getElem? (i := 583) (by decide +kernel))) rfl
theorem im_X6_closer : Cond.instanceMethod yX6_closer ∈ GB := gb_in (List.mem_append_right _ (List.mem_of_getElem? (i := 584) (by decide +kernel))) rfl
theorem se_X6_closer : Cond.selects RX6 yX6_closer yX6_closer ∈ GB := gb_in (List.mem_append_right _ (List.mem_of_getElem? (i := 585) (by decide +kernel))) rfl
theorem co_X6_closer : Cond.code yX6_closer cX6_closer 2 (some .int) ∈ GB := gb_in (List.mem_append_right _ (List.mem_of_getElem? (i := 586) (by decide +kernel))) rfl
theorem ml_X2_89 : Cond.methodLink RX2 89 yX6_closerMake ∈ GB := gb_in (List.mem_append_right _ (List.mem_of_getElem? (i := 587) (by decide +kernel))) rfl
theorem im_X6_closerMake : Cond.instanceMethod yX6_closerMake ∈ GB := gb_in (List.mem_append_right _ (List.mem_of_getElem? (i := 588) (by decide +kernel))) rfl
theorem se_X6_closerMake : Cond.selects RX6 yX6_closerMake yX6_closerMake ∈ GB := gb_in (List.mem_append_right _ (List.mem_of_getElem? (i := 589) (by decide +kernel))) rfl
theorem co_X6_closerMake : Cond.code yX6_closerMake cX6_closerMake 2 (some .int) ∈ GB := gb_in (List.mem_append_right _ (List.mem_of_getElem? (i := 590) (by decide +kernel))) rfl
theorem ml_X2_45 : Cond.methodLink RX2 45 yX2_isHad ∈ GB := gb_in (List.mem_append_right _ (List.mem_of_getElem? (i := 591) (by decide +kernel))) rfl
theorem im_X2_isHad : Cond.instanceMethod yX2_isHad ∈ GB := gb_in (List.mem_append_right _ (List.mem_of_getElem? (i := 593) (by decide +kernel))) rfl
theorem co_X2_isHad : Cond.code yX2_isHad cX2_isHad 5 (some .boolean) ∈ GB := gb_in (List.mem_append_right _ (List.mem_of_getElem? (i := 594) (by decide +kernel))) rfl
theorem ml_X2_92 : Cond.methodLink RX2 92 yX4_at ∈ GB := gb_in (List.mem_append_right _ (List.mem_of_getElem? (i := 595) (by decide +kernel))) rfl
theorem ml_X2_95 : Cond.methodLink RX2 95 yX6_holdsMake ∈ GB := gb_in (List.mem_append_right _ (List.mem_of_getElem? (i := 596) (by decide +kernel))) rfl
theorem im_X6_holdsMake : Cond.instanceMethod yX6_holdsMake ∈ GB := gb_in (List.mem_append_right _ (List.mem_of_getElem? (i := 597) (by decide +kernel))) rfl
theorem se_X6_holdsMake : Cond.selects RX6 yX6_holdsMake yX6_holdsMake ∈ GB := gb_in (List.mem_append_right _ (List.mem_of_getElem? (i := 598) (by decide +kernel))) rfl
theorem co_X6_holdsMake : Cond.code yX6_holdsMake cX6_holdsMake 4 (some .boolean) ∈ GB := gb_in (List.mem_append_right _ (List.mem_of_getElem? (i := 599) (by decide +kernel))) rfl
theorem ml_L_71 : Cond.methodLink RL 71 yX7_leaks ∈ GB := gb_in (List.mem_append_right _ (List.mem_of_getElem? (i := 600) (by decide +kernel))) rfl
theorem im_X7_leaks : Cond.instanceMethod yX7_leaks ∈ GB := gb_in (List.mem_append_right _ (List.mem_of_getElem? (i := 601) (by decide +kernel))) rfl
theorem se_X7_leaks : Cond.selects RX7 yX7_leaks yX7_leaks ∈ GB := gb_in (List.mem_append_right _ (List.mem_of_getElem? (i := 602) (by decide +kernel))) rfl
theorem co_X7_leaks : Cond.code yX7_leaks cX7_leaks 4 (some .int) ∈ GB := gb_in (List.mem_append_right _ (List.mem_of_getElem? (i := 603) (by decide +kernel))) rfl
theorem ml_X7_195 : Cond.methodLink RX7 195 yX5_isRoot ∈ GB := gb_in (List.mem_append_right _ (List.mem_of_getElem? (i := 604) (by decide +kernel))) rfl
theorem ml_X7_198 : Cond.methodLink RX7 198 yX2_boxesByLeak ∈ GB := gb_in (List.mem_append_right _ (List.mem_of_getElem? (i := 605) (by decide +kernel))) rfl
theorem im_X2_boxesByLeak : Cond.instanceMethod yX2_boxesByLeak ∈ GB := gb_in (List.mem_append_right _ (List.mem_of_getElem? (i := 606) (by decide +kernel))) rfl
theorem se_X2_boxesByLeak : Cond.selects RX2 yX2_boxesByLeak yX2_boxesByLeak ∈ GB := gb_in (List.mem_append_right _ (List.mem_of_getElem? (i := 607) (by decide +kernel))) rfl
theorem co_X2_boxesByLeak : Cond.code yX2_boxesByLeak cX2_boxesByLeak 5 (some .int) ∈ GB := gb_in (List.mem_append_right _ (List.mem_of_getElem? (i := 608) (by decide +kernel))) rfl
theorem ml_X2_41 : Cond.methodLink RX2 41 yX2_openedBoxes ∈ GB := gb_in (List.mem_append_right _ (List.mem_of_getElem? (i := 609) (by decide +kernel))) rfl
theorem im_X2_openedBoxes : Cond.instanceMethod yX2_openedBoxes ∈ GB := gb_in (List.mem_append_right _ (List.mem_of_getElem? (i := 611) (by decide +kernel))) rfl
theorem co_X2_openedBoxes : Cond.code yX2_openedBoxes cX2_openedBoxes 4 (some .int) ∈ GB := gb_in (List.mem_append_right _ (List.mem_of_getElem? (i := 612) (by decide +kernel))) rfl
theorem ml_X2_99 : Cond.methodLink RX2 99 yX6_heldWhat ∈ GB := gb_in (List.mem_append_right _ (List.mem_of_getElem? (i := 613) (by decide +kernel))) rfl
theorem im_X6_heldWhat : Cond.instanceMethod yX6_heldWhat ∈ GB := gb_in (List.mem_append_right _ (List.mem_of_getElem? (i := 614) (by decide +kernel))) rfl
theorem se_X6_heldWhat : Cond.selects RX6 yX6_heldWhat yX6_heldWhat ∈ GB := gb_in (List.mem_append_right _ (List.mem_of_getElem? (i := 615) (by decide +kernel))) rfl
theorem co_X6_heldWhat : Cond.code yX6_heldWhat cX6_heldWhat 2 (some .int) ∈ GB := gb_in (List.mem_append_right _ (List.mem_of_getElem? (i := 616) (by decide +kernel))) rfl
theorem ml_L_74 : Cond.methodLink RL 74 yL_boxes ∈ GB := gb_in (List.mem_append_right _ (List.mem_of_getElem? (i := 618) (by decide +kernel))) rfl
theorem st_L_boxes : Cond.static yL_boxes ∈ GB := gb_in (List.mem_append_right _ (List.mem_of_getElem? (i := 619) (by decide +kernel))) rfl
theorem co_L_boxes : Cond.code yL_boxes cL_boxes 5 (some .int) ∈ GB := gb_in (List.mem_append_right _ (List.mem_of_getElem? (i := 620) (by decide +kernel))) rfl
theorem ml_L_78 : Cond.methodLink RL 78 yX7_canOpen ∈ GB := gb_in (List.mem_append_right _ (List.mem_of_getElem? (i := 621) (by decide +kernel))) rfl
theorem im_X7_canOpen : Cond.instanceMethod yX7_canOpen ∈ GB := gb_in (List.mem_append_right _ (List.mem_of_getElem? (i := 622) (by decide +kernel))) rfl
theorem se_X7_canOpen : Cond.selects RX7 yX7_canOpen yX7_canOpen ∈ GB := gb_in (List.mem_append_right _ (List.mem_of_getElem? (i := 623) (by decide +kernel))) rfl
theorem co_X7_canOpen : Cond.code yX7_canOpen cX7_canOpen 3 (some .int) ∈ GB := gb_in (List.mem_append_right _ (List.mem_of_getElem? (i := 624) (by decide +kernel))) rfl
theorem ml_X7_111 : Cond.methodLink RX7 111 yX5_hasBox ∈ GB := gb_in (List.mem_append_right _ (List.mem_of_getElem? (i := 625) (by decide +kernel))) rfl
theorem im_X5_hasBox : Cond.instanceMethod yX5_hasBox ∈ GB := gb_in (List.mem_append_right _ (List.mem_of_getElem? (i := 626) (by decide +kernel))) rfl
theorem se_X5_hasBox : Cond.selects RX5 yX5_hasBox yX5_hasBox ∈ GB := gb_in (List.mem_append_right _ (List.mem_of_getElem? (i := 627) (by decide +kernel))) rfl
theorem co_X5_hasBox : Cond.code yX5_hasBox cX5_hasBox 2 (some .boolean) ∈ GB := gb_in (List.mem_append_right _ (List.mem_of_getElem? (i := 628) (by decide +kernel))) rfl
theorem ml_X7_120 : Cond.methodLink RX7 120 yX2_boxesWith ∈ GB := gb_in (List.mem_append_right _ (List.mem_of_getElem? (i := 629) (by decide +kernel))) rfl
theorem im_X2_boxesWith : Cond.instanceMethod yX2_boxesWith ∈ GB := gb_in (List.mem_append_right _ (List.mem_of_getElem? (i := 630) (by decide +kernel))) rfl
theorem se_X2_boxesWith : Cond.selects RX2 yX2_boxesWith yX2_boxesWith ∈ GB := gb_in (List.mem_append_right _ (List.mem_of_getElem? (i := 631) (by decide +kernel))) rfl
theorem co_X2_boxesWith : Cond.code yX2_boxesWith cX2_boxesWith 3 (some .int) ∈ GB := gb_in (List.mem_append_right _ (List.mem_of_getElem? (i := 632) (by decide +kernel))) rfl
theorem ml_X7_124 : Cond.methodLink RX7 124 yX7_has ∈ GB := gb_in (List.mem_append_right _ (List.mem_of_getElem? (i := 633) (by decide +kernel))) rfl
theorem ml_L_81 : Cond.methodLink RL 81 yX7_count ∈ GB := gb_in (List.mem_append_right _ (List.mem_of_getElem? (i := 634) (by decide +kernel))) rfl
theorem im_X7_count : Cond.instanceMethod yX7_count ∈ GB := gb_in (List.mem_append_right _ (List.mem_of_getElem? (i := 635) (by decide +kernel))) rfl
theorem se_X7_count : Cond.selects RX7 yX7_count yX7_count ∈ GB := gb_in (List.mem_append_right _ (List.mem_of_getElem? (i := 636) (by decide +kernel))) rfl
theorem co_X7_count : Cond.code yX7_count cX7_count 3 (some .int) ∈ GB := gb_in (List.mem_append_right _ (List.mem_of_getElem? (i := 637) (by decide +kernel))) rfl
theorem ml_X7_171 : Cond.methodLink RX7 171 yX6_standingIn ∈ GB := gb_in (List.mem_append_right _ (List.mem_of_getElem? (i := 638) (by decide +kernel))) rfl
theorem ml_X7_177 : Cond.methodLink RX7 177 yX5_wornKeys ∈ GB := gb_in (List.mem_append_right _ (List.mem_of_getElem? (i := 639) (by decide +kernel))) rfl
theorem im_X5_wornKeys : Cond.instanceMethod yX5_wornKeys ∈ GB := gb_in (List.mem_append_right _ (List.mem_of_getElem? (i := 640) (by decide +kernel))) rfl
theorem se_X5_wornKeys : Cond.selects RX5 yX5_wornKeys yX5_wornKeys ∈ GB := gb_in (List.mem_append_right _ (List.mem_of_getElem? (i := 641) (by decide +kernel))) rfl
theorem co_X5_wornKeys : Cond.code yX5_wornKeys cX5_wornKeys 3 (some .int) ∈ GB := gb_in (List.mem_append_right _ (List.mem_of_getElem? (i := 642) (by decide +kernel))) rfl
theorem ml_X5_75 : Cond.methodLink RX5 75 yX5_leftToClose ∈ GB := gb_in (List.mem_append_right _ (List.mem_of_getElem? (i := 643) (by decide +kernel))) rfl
theorem ml_L_84 : Cond.methodLink RL 84 yX7_ofBox ∈ GB := gb_in (List.mem_append_right _ (List.mem_of_getElem? (i := 644) (by decide +kernel))) rfl
theorem im_X7_ofBox : Cond.instanceMethod yX7_ofBox ∈ GB := gb_in (List.mem_append_right _ (List.mem_of_getElem? (i := 645) (by decide +kernel))) rfl
theorem se_X7_ofBox : Cond.selects RX7 yX7_ofBox yX7_ofBox ∈ GB := gb_in (List.mem_append_right _ (List.mem_of_getElem? (i := 646) (by decide +kernel))) rfl
theorem co_X7_ofBox : Cond.code yX7_ofBox cX7_ofBox 4 (some .int) ∈ GB := gb_in (List.mem_append_right _ (List.mem_of_getElem? (i := 647) (by decide +kernel))) rfl
theorem ml_X7_114 : Cond.methodLink RX7 114 yX5_keyOfBox ∈ GB := gb_in (List.mem_append_right _ (List.mem_of_getElem? (i := 648) (by decide +kernel))) rfl
theorem ml_X7_117 : Cond.methodLink RX7 117 yX5_isLiveBox ∈ GB := gb_in (List.mem_append_right _ (List.mem_of_getElem? (i := 649) (by decide +kernel))) rfl
theorem ml_L_87 : Cond.methodLink RL 87 yX7_wrap ∈ GB := gb_in (List.mem_append_right _ (List.mem_of_getElem? (i := 650) (by decide +kernel))) rfl
theorem im_X7_wrap : Cond.instanceMethod yX7_wrap ∈ GB := gb_in (List.mem_append_right _ (List.mem_of_getElem? (i := 651) (by decide +kernel))) rfl
theorem se_X7_wrap : Cond.selects RX7 yX7_wrap yX7_wrap ∈ GB := gb_in (List.mem_append_right _ (List.mem_of_getElem? (i := 652) (by decide +kernel))) rfl
theorem co_X7_wrap : Cond.code yX7_wrap cX7_wrap 4 (some .int) ∈ GB := gb_in (List.mem_append_right _ (List.mem_of_getElem? (i := 653) (by decide +kernel))) rfl
theorem ml_X7_132 : Cond.methodLink RX7 132 yX6_isOne ∈ GB := gb_in (List.mem_append_right _ (List.mem_of_getElem? (i := 654) (by decide +kernel))) rfl
theorem ml_X7_137 : Cond.methodLink RX7 137 yX6_heldKey ∈ GB := gb_in (List.mem_append_right _ (List.mem_of_getElem? (i := 655) (by decide +kernel))) rfl
theorem ml_X7_140 : Cond.methodLink RX7 140 yX6_heldWhat ∈ GB := gb_in (List.mem_append_right _ (List.mem_of_getElem? (i := 656) (by decide +kernel))) rfl
theorem ml_X7_143 : Cond.methodLink RX7 143 yX6_closer ∈ GB := gb_in (List.mem_append_right _ (List.mem_of_getElem? (i := 657) (by decide +kernel))) rfl
theorem ml_X7_146 : Cond.methodLink RX7 146 yX6_closerMake ∈ GB := gb_in (List.mem_append_right _ (List.mem_of_getElem? (i := 658) (by decide +kernel))) rfl
theorem ml_X7_149 : Cond.methodLink RX7 149 yX6_standsIn ∈ GB := gb_in (List.mem_append_right _ (List.mem_of_getElem? (i := 659) (by decide +kernel))) rfl
theorem ml_X7_152 : Cond.methodLink RX7 152 yX6_placesOf ∈ GB := gb_in (List.mem_append_right _ (List.mem_of_getElem? (i := 660) (by decide +kernel))) rfl
theorem im_X6_placesOf : Cond.instanceMethod yX6_placesOf ∈ GB := gb_in (List.mem_append_right _ (List.mem_of_getElem? (i := 661) (by decide +kernel))) rfl
theorem se_X6_placesOf : Cond.selects RX6 yX6_placesOf yX6_placesOf ∈ GB := gb_in (List.mem_append_right _ (List.mem_of_getElem? (i := 662) (by decide +kernel))) rfl
theorem co_X6_placesOf : Cond.code yX6_placesOf cX6_placesOf 2 (some .int) ∈ GB := gb_in (List.mem_append_right _ (List.mem_of_getElem? (i := 663) (by decide +kernel))) rfl
theorem ac_long : Cond.arrayClass .long ∈ GB := gb_in (List.mem_append_right _ (List.mem_of_getElem? (i := 664) (by decide +kernel))) rfl
theorem se_X0_stateAt : Cond.selects RX0 yX0_stateAt yX0_stateAt ∈ GB := gb_in (List.mem_append_left _ (List.mem_of_getElem? (i := 0) (by decide +kernel))) rfl
theorem se_X1_wrapKey : Cond.selects RX1 yX1_wrapKey yX1_wrapKey ∈ GB := gb_in (List.mem_append_left _ (List.mem_of_getElem? (i := 1) (by decide +kernel))) rfl
theorem se_X1_wrapBox : Cond.selects RX1 yX1_wrapBox yX1_wrapBox ∈ GB := gb_in (List.mem_append_left _ (List.mem_of_getElem? (i := 2) (by decide +kernel))) rfl
theorem se_X1_hangingWithout : Cond.selects RX1 yX1_hangingWithout yX1_hangingWithout ∈ GB := gb_in (List.mem_append_left _ (List.mem_of_getElem? (i := 3) (by decide +kernel))) rfl
theorem se_X1_startNextMakes : Cond.selects RX1 yX1_startNextMakes yX1_startNextMakes ∈ GB := gb_in (List.mem_append_left _ (List.mem_of_getElem? (i := 4) (by decide +kernel))) rfl
theorem se_X6_burn : Cond.selects RX6 yX6_burn yX6_burn ∈ GB := gb_in (List.mem_append_left _ (List.mem_of_getElem? (i := 5) (by decide +kernel))) rfl
theorem se_X1_wrapAllOn : Cond.selects RX1 yX1_wrapAllOn yX1_wrapAllOn ∈ GB := gb_in (List.mem_append_left _ (List.mem_of_getElem? (i := 6) (by decide +kernel))) rfl
theorem se_X1_canWrapAgain : Cond.selects RX1 yX1_canWrapAgain yX1_canWrapAgain ∈ GB := gb_in (List.mem_append_left _ (List.mem_of_getElem? (i := 7) (by decide +kernel))) rfl
theorem se_X2_startFromSafe : Cond.selects RX2 yX2_startFromSafe yX2_startFromSafe ∈ GB := gb_in (List.mem_append_left _ (List.mem_of_getElem? (i := 8) (by decide +kernel))) rfl
theorem se_X2_openAll : Cond.selects RX2 yX2_openAll yX2_openAll ∈ GB := gb_in (List.mem_append_left _ (List.mem_of_getElem? (i := 9) (by decide +kernel))) rfl
theorem se_X2_openHolding : Cond.selects RX2 yX2_openHolding yX2_openHolding ∈ GB := gb_in (List.mem_append_left _ (List.mem_of_getElem? (i := 10) (by decide +kernel))) rfl
theorem se_X2_isHad : Cond.selects RX2 yX2_isHad yX2_isHad ∈ GB := gb_in (List.mem_append_left _ (List.mem_of_getElem? (i := 11) (by decide +kernel))) rfl
theorem se_X2_openedBoxes : Cond.selects RX2 yX2_openedBoxes yX2_openedBoxes ∈ GB := gb_in (List.mem_append_left _ (List.mem_of_getElem? (i := 12) (by decide +kernel))) rfl
theorem lay_X0 : ∀ w ∈ u_ws RX0 TX0 3, w ∈ GB := fun w hw => gb_in (List.mem_append_right _ ((show ∀ w ∈ u_ws RX0 TX0 3, w ∈ tables_1 by decide +kernel) w hw)) ((List.all_eq_true.mp (show (u_ws RX0 TX0 3).all goodWord = true by decide +kernel)) w hw)
theorem lay_X1 : ∀ w ∈ u_ws RX1 TX1 2, w ∈ GB := fun w hw => gb_in (List.mem_append_right _ ((show ∀ w ∈ u_ws RX1 TX1 2, w ∈ tables_1 by decide +kernel) w hw)) ((List.all_eq_true.mp (show (u_ws RX1 TX1 2).all goodWord = true by decide +kernel)) w hw)
theorem lay_X2 : ∀ w ∈ u_ws RX2 TX2 2, w ∈ GB := fun w hw => gb_in (List.mem_append_right _ ((show ∀ w ∈ u_ws RX2 TX2 2, w ∈ tables_1 by decide +kernel) w hw)) ((List.all_eq_true.mp (show (u_ws RX2 TX2 2).all goodWord = true by decide +kernel)) w hw)
theorem lay_X3 : ∀ w ∈ u_ws RX3 TX3 6, w ∈ GB := fun w hw => gb_in (List.mem_append_right _ ((show ∀ w ∈ u_ws RX3 TX3 6, w ∈ tables_1 by decide +kernel) w hw)) ((List.all_eq_true.mp (show (u_ws RX3 TX3 6).all goodWord = true by decide +kernel)) w hw)
theorem lay_X4 : ∀ w ∈ u_ws RX4 TX4 1, w ∈ GB := fun w hw => gb_in (List.mem_append_right _ ((show ∀ w ∈ u_ws RX4 TX4 1, w ∈ tables_1 by decide +kernel) w hw)) ((List.all_eq_true.mp (show (u_ws RX4 TX4 1).all goodWord = true by decide +kernel)) w hw)
theorem lay_X5 : ∀ w ∈ u_ws RX5 TX5 9, w ∈ GB := fun w hw => gb_in (List.mem_append_right _ ((show ∀ w ∈ u_ws RX5 TX5 9, w ∈ tables_1 by decide +kernel) w hw)) ((List.all_eq_true.mp (show (u_ws RX5 TX5 9).all goodWord = true by decide +kernel)) w hw)
theorem lay_X6 : ∀ w ∈ u_ws RX6 TX6 6, w ∈ GB := fun w hw => gb_in (List.mem_append_right _ ((show ∀ w ∈ u_ws RX6 TX6 6, w ∈ tables_1 by decide +kernel) w hw)) ((List.all_eq_true.mp (show (u_ws RX6 TX6 6).all goodWord = true by decide +kernel)) w hw)
theorem lay_X7 : ∀ w ∈ u_ws RX7 TX7 5, w ∈ GB := fun w hw => gb_in (List.mem_append_right _ ((show ∀ w ∈ u_ws RX7 TX7 5, w ∈ tables_1 by decide +kernel) w hw)) ((List.all_eq_true.mp (show (u_ws RX7 TX7 5).all goodWord = true by decide +kernel)) w hw)
/-- the links to nest mates: they are said of a state, not handed on -/
def nestL : List Cond := [Cond.methodLinkNest RX7 9 yX1_init "HangingKeys",
  Cond.methodLinkNest RX1 11 yX5_init "HangingKeys",
  Cond.fieldLinkNest RX1 25 "HangingKeys$Tree" "mostWear" "I" "HangingKeys",
  Cond.fieldLinkNest RX7 174 "HangingKeys$Tree" "mostWear" "I" "HangingKeys",
  Cond.fieldLinkNest RX1 33 "HangingKeys$Tree" "keys" "I" "HangingKeys",
  Cond.fieldLinkNest RX7 155 "HangingKeys$Tree" "keys" "I" "HangingKeys",
  Cond.fieldLinkNest RX1 50 "HangingKeys$Tree" "boxes" "I" "HangingKeys",
  Cond.fieldLinkNest RX7 162 "HangingKeys$Tree" "boxes" "I" "HangingKeys",
  Cond.fieldLinkNest RX7 159 "HangingKeys$Tree" "liveKeys" "I" "HangingKeys",
  Cond.fieldLinkNest RX7 165 "HangingKeys$Tree" "liveBoxes" "I" "HangingKeys",
  Cond.methodLinkNest RX1 20 yX6_init "HangingKeys",
  Cond.fieldLinkNest RX2 73 "HangingKeys$Wraps" "number" "I" "HangingKeys",
  Cond.fieldLinkNest RX7 168 "HangingKeys$Wraps" "number" "I" "HangingKeys",
  Cond.fieldLinkNest RX2 23 "HangingKeys$House" "tree" "LHangingKeys$Tree;" "HangingKeys",
  Cond.fieldLinkNest RX7 68 "HangingKeys$House" "tree" "LHangingKeys$Tree;" "HangingKeys",
  Cond.fieldLinkNest RX2 33 "HangingKeys$House" "wraps" "LHangingKeys$Wraps;" "HangingKeys",
  Cond.fieldLinkNest RX7 128 "HangingKeys$House" "wraps" "LHangingKeys$Wraps;" "HangingKeys",
  Cond.methodLinkNest RX7 18 yX2_init "HangingKeys",
  Cond.methodLinkNest RX7 25 yX3_init "HangingKeys",
  Cond.fieldLinkNest RX7 181 "HangingKeys$Pad" "length" "I" "HangingKeys",
  Cond.methodLinkNest RX0 24 yX1_init "HangingKeys",
  Cond.fieldLinkNest RX7 184 "HangingKeys$History" "number" "I" "HangingKeys",
  Cond.methodLinkNest RX5 45 yX7_has "HangingKeys",
  Cond.methodLinkNest RX5 66 yX7_setOf "HangingKeys",
  Cond.methodLinkNest RX1 66 yX7_setOf "HangingKeys",
  Cond.methodLinkNest RX6 60 yX7_setOf "HangingKeys",
  Cond.methodLinkNest RX1 115 yX7_has "HangingKeys",
  Cond.methodLinkNest RX6 63 yX7_has "HangingKeys",
  Cond.methodLinkNest RX2 102 yX7_setOf "HangingKeys"]
theorem nl_X7_9 : Cond.methodLinkNest RX7 9 yX1_init "HangingKeys" ∈ nestL := List.mem_of_getElem? (i := 0) rfl
theorem nl_X1_11 : Cond.methodLinkNest RX1 11 yX5_init "HangingKeys" ∈ nestL := List.mem_of_getElem? (i := 1) rfl
theorem nl_X1_25 : Cond.fieldLinkNest RX1 25 "HangingKeys$Tree" "mostWear" "I" "HangingKeys" ∈ nestL := List.mem_of_getElem? (i := 2) rfl
theorem nl_X7_174 : Cond.fieldLinkNest RX7 174 "HangingKeys$Tree" "mostWear" "I" "HangingKeys" ∈ nestL := List.mem_of_getElem? (i := 3) rfl
theorem nl_X1_33 : Cond.fieldLinkNest RX1 33 "HangingKeys$Tree" "keys" "I" "HangingKeys" ∈ nestL := List.mem_of_getElem? (i := 4) rfl
theorem nl_X7_155 : Cond.fieldLinkNest RX7 155 "HangingKeys$Tree" "keys" "I" "HangingKeys" ∈ nestL := List.mem_of_getElem? (i := 5) rfl
theorem nl_X1_50 : Cond.fieldLinkNest RX1 50 "HangingKeys$Tree" "boxes" "I" "HangingKeys" ∈ nestL := List.mem_of_getElem? (i := 6) rfl
theorem nl_X7_162 : Cond.fieldLinkNest RX7 162 "HangingKeys$Tree" "boxes" "I" "HangingKeys" ∈ nestL := List.mem_of_getElem? (i := 7) rfl
theorem nl_X7_159 : Cond.fieldLinkNest RX7 159 "HangingKeys$Tree" "liveKeys" "I" "HangingKeys" ∈ nestL := List.mem_of_getElem? (i := 8) rfl
theorem nl_X7_165 : Cond.fieldLinkNest RX7 165 "HangingKeys$Tree" "liveBoxes" "I" "HangingKeys" ∈ nestL := List.mem_of_getElem? (i := 9) rfl
theorem nl_X1_20 : Cond.methodLinkNest RX1 20 yX6_init "HangingKeys" ∈ nestL := List.mem_of_getElem? (i := 10) rfl
theorem nl_X2_73 : Cond.fieldLinkNest RX2 73 "HangingKeys$Wraps" "number" "I" "HangingKeys" ∈ nestL := List.mem_of_getElem? (i := 11) rfl
theorem nl_X7_168 : Cond.fieldLinkNest RX7 168 "HangingKeys$Wraps" "number" "I" "HangingKeys" ∈ nestL := List.mem_of_getElem? (i := 12) rfl
theorem nl_X2_23 : Cond.fieldLinkNest RX2 23 "HangingKeys$House" "tree" "LHangingKeys$Tree;" "HangingKeys" ∈ nestL := List.mem_of_getElem? (i := 13) rfl
theorem nl_X7_68 : Cond.fieldLinkNest RX7 68 "HangingKeys$House" "tree" "LHangingKeys$Tree;" "HangingKeys" ∈ nestL := List.mem_of_getElem? (i := 14) rfl
theorem nl_X2_33 : Cond.fieldLinkNest RX2 33 "HangingKeys$House" "wraps" "LHangingKeys$Wraps;" "HangingKeys" ∈ nestL := List.mem_of_getElem? (i := 15) rfl
theorem nl_X7_128 : Cond.fieldLinkNest RX7 128 "HangingKeys$House" "wraps" "LHangingKeys$Wraps;" "HangingKeys" ∈ nestL := List.mem_of_getElem? (i := 16) rfl
theorem nl_X7_18 : Cond.methodLinkNest RX7 18 yX2_init "HangingKeys" ∈ nestL := List.mem_of_getElem? (i := 17) rfl
theorem nl_X7_25 : Cond.methodLinkNest RX7 25 yX3_init "HangingKeys" ∈ nestL := List.mem_of_getElem? (i := 18) rfl
theorem nl_X7_181 : Cond.fieldLinkNest RX7 181 "HangingKeys$Pad" "length" "I" "HangingKeys" ∈ nestL := List.mem_of_getElem? (i := 19) rfl
theorem nl_X0_24 : Cond.methodLinkNest RX0 24 yX1_init "HangingKeys" ∈ nestL := List.mem_of_getElem? (i := 20) rfl
theorem nl_X7_184 : Cond.fieldLinkNest RX7 184 "HangingKeys$History" "number" "I" "HangingKeys" ∈ nestL := List.mem_of_getElem? (i := 21) rfl
theorem nl_X5_45 : Cond.methodLinkNest RX5 45 yX7_has "HangingKeys" ∈ nestL := List.mem_of_getElem? (i := 22) rfl
theorem nl_X5_66 : Cond.methodLinkNest RX5 66 yX7_setOf "HangingKeys" ∈ nestL := List.mem_of_getElem? (i := 23) rfl
theorem nl_X1_66 : Cond.methodLinkNest RX1 66 yX7_setOf "HangingKeys" ∈ nestL := List.mem_of_getElem? (i := 24) rfl
theorem nl_X6_60 : Cond.methodLinkNest RX6 60 yX7_setOf "HangingKeys" ∈ nestL := List.mem_of_getElem? (i := 25) rfl
theorem nl_X1_115 : Cond.methodLinkNest RX1 115 yX7_has "HangingKeys" ∈ nestL := List.mem_of_getElem? (i := 26) rfl
theorem nl_X6_63 : Cond.methodLinkNest RX6 63 yX7_has "HangingKeys" ∈ nestL := List.mem_of_getElem? (i := 27) rfl
theorem nl_X2_102 : Cond.methodLinkNest RX2 102 yX7_setOf "HangingKeys" ∈ nestL := List.mem_of_getElem? (i := 28) rfl
theorem nest_in : ∀ w ∈ nestL, w ∈ lw_tbl := by
  intro w hw
  refine List.mem_append_right _ ?_
  revert w
  decide +kernel
