/-! ===== BEGIN printed: names, fields, word lists, decode rows ===== -/
def RX0 : String := "DogBoard$Board"
def TX0 : u_T := fun k => match k with
  | 0 => ("DogBoard$Board", "quarter", "LDogBoard$Quarter;", true)
  | 1 => ("DogBoard$Board", "dogs", "LDogBoard$Rows;", true)
  | 2 => ("DogBoard$Board", "sightings", "LDogBoard$Rows;", true)
  | 3 => ("DogBoard$Board", "purses", "[I", true)
  | 4 => ("DogBoard$Board", "places", "[I", true)
  | 5 => ("DogBoard$Board", "hour", "I", false)
  | 6 => ("DogBoard$Board", "paid", "I", false)
  | 7 => ("DogBoard$Board", "given", "I", false)
  | 8 => ("DogBoard$Board", "stayed", "I", false)
  | 9 => ("DogBoard$Board", "growth", "I", false)
  | _ => ("DogBoard$Board", "mostUnlike", "I", false)
def tyX0 : Nat → FieldType := fun k => match k with
  | 0 => .object "DogBoard$Quarter"
  | 1 => .object "DogBoard$Rows"
  | 2 => .object "DogBoard$Rows"
  | 3 => .array .int
  | 4 => .array .int
  | 5 => .int
  | 6 => .int
  | 7 => .int
  | 8 => .int
  | 9 => .int
  | _ => .int
abbrev wsX00 : List Cond := u_ws RX0 TX0 11
theorem nmX0 : ∀ a, a < 11 → ∀ b, b < 11 → a ≠ b → (TX0 a).2.1 ≠ (TX0 b).2.1 := by decide +kernel
theorem tyX0_ok : ∀ k, k < 11 → parseFieldDescriptor (TX0 k).2.2.1 = some (tyX0 k) := by decide +kernel
abbrev cX0_init : ByteArray := prog_2_method_1_code
def yX0_init : MethodName := ⟨RX0, "<init>", "()V"⟩
abbrev cX0_makeNew : ByteArray := prog_2_method_2_code
def yX0_makeNew : MethodName := ⟨RX0, "makeNew", "()V"⟩
abbrev cX0_copyFrom : ByteArray := prog_2_method_3_code
def yX0_copyFrom : MethodName := ⟨RX0, "copyFrom", "(LDogBoard$Board;)V"⟩
abbrev cX0_numberOfBoard : ByteArray := prog_2_method_4_code
def yX0_numberOfBoard : MethodName := ⟨RX0, "numberOfBoard", "(I)I"⟩
abbrev cX0_numberOfDog : ByteArray := prog_2_method_5_code
def yX0_numberOfDog : MethodName := ⟨RX0, "numberOfDog", "(II)I"⟩
abbrev cX0_numberOfSighting : ByteArray := prog_2_method_6_code
def yX0_numberOfSighting : MethodName := ⟨RX0, "numberOfSighting", "(II)I"⟩
abbrev cX0_coinsOf : ByteArray := prog_2_method_7_code
def yX0_coinsOf : MethodName := ⟨RX0, "coinsOf", "(I)I"⟩
abbrev cX0_isMissing : ByteArray := prog_2_method_8_code
def yX0_isMissing : MethodName := ⟨RX0, "isMissing", "(I)Z"⟩
abbrev cX0_missingDogs : ByteArray := prog_2_method_9_code
def yX0_missingDogs : MethodName := ⟨RX0, "missingDogs", "()I"⟩
abbrev cX0_missingRewards : ByteArray := prog_2_method_10_code
def yX0_missingRewards : MethodName := ⟨RX0, "missingRewards", "()I"⟩
abbrev cX0_fraudsInAll : ByteArray := prog_2_method_11_code
def yX0_fraudsInAll : MethodName := ⟨RX0, "fraudsInAll", "()I"⟩
abbrev cX0_unlikeMarks : ByteArray := prog_2_method_12_code
def yX0_unlikeMarks : MethodName := ⟨RX0, "unlikeMarks", "(II)I"⟩
abbrev cX0_dogMeantBy : ByteArray := prog_2_method_13_code
def yX0_dogMeantBy : MethodName := ⟨RX0, "dogMeantBy", "(II)I"⟩
abbrev cX0_isMeantBefore : ByteArray := prog_2_method_14_code
def yX0_isMeantBefore : MethodName := ⟨RX0, "isMeantBefore", "(III)Z"⟩
abbrev cX0_sightingsMeaning : ByteArray := prog_2_method_15_code
def yX0_sightingsMeaning : MethodName := ⟨RX0, "sightingsMeaning", "(I)I"⟩
abbrev cX0_trueFor : ByteArray := prog_2_method_16_code
def yX0_trueFor : MethodName := ⟨RX0, "trueFor", "(I)I"⟩
abbrev cX0_trueNowFor : ByteArray := prog_2_method_17_code
def yX0_trueNowFor : MethodName := ⟨RX0, "trueNowFor", "(I)I"⟩
abbrev cX0_fraudsFor : ByteArray := prog_2_method_18_code
def yX0_fraudsFor : MethodName := ⟨RX0, "fraudsFor", "(I)I"⟩
abbrev cX0_fitsOneOf : ByteArray := prog_2_method_19_code
def yX0_fitsOneOf : MethodName := ⟨RX0, "fitsOneOf", "(III)Z"⟩
abbrev cX0_honestFor : ByteArray := prog_2_method_20_code
def yX0_honestFor : MethodName := ⟨RX0, "honestFor", "(I)I"⟩
abbrev cX0_faultOfAsking : ByteArray := prog_2_method_21_code
def yX0_faultOfAsking : MethodName := ⟨RX0, "faultOfAsking", "(I)I"⟩
abbrev cX0_placesOf : ByteArray := prog_2_method_22_code
def yX0_placesOf : MethodName := ⟨RX0, "placesOf", "(I)I"⟩
abbrev cX0_canReach : ByteArray := prog_2_method_23_code
def yX0_canReach : MethodName := ⟨RX0, "canReach", "(III)Z"⟩
abbrev cX0_cornerToWatch : ByteArray := prog_2_method_24_code
def yX0_cornerToWatch : MethodName := ⟨RX0, "cornerToWatch", "()I"⟩
abbrev cX0_dogsAt : ByteArray := prog_2_method_25_code
def yX0_dogsAt : MethodName := ⟨RX0, "dogsAt", "(I)I"⟩
abbrev cX0_rewardsAt : ByteArray := prog_2_method_26_code
def yX0_rewardsAt : MethodName := ⟨RX0, "rewardsAt", "(I)I"⟩
abbrev cX0_faultOfLosing : ByteArray := prog_2_method_27_code
def yX0_faultOfLosing : MethodName := ⟨RX0, "faultOfLosing", "(IIII)I"⟩
abbrev cX0_loseDog : ByteArray := prog_2_method_28_code
def yX0_loseDog : MethodName := ⟨RX0, "loseDog", "(IIII)I"⟩
abbrev cX0_faultOfTelling : ByteArray := prog_2_method_29_code
def yX0_faultOfTelling : MethodName := ⟨RX0, "faultOfTelling", "(IIII)I"⟩
abbrev cX0_tellSighting : ByteArray := prog_2_method_30_code
def yX0_tellSighting : MethodName := ⟨RX0, "tellSighting", "(IIIIZ)I"⟩
abbrev cX0_faultOfFinding : ByteArray := prog_2_method_31_code
def yX0_faultOfFinding : MethodName := ⟨RX0, "faultOfFinding", "(III)I"⟩
abbrev cX0_findDog : ByteArray := prog_2_method_32_code
def yX0_findDog : MethodName := ⟨RX0, "findDog", "(III)I"⟩
abbrev cX0_shareOf : ByteArray := prog_2_method_33_code
def yX0_shareOf : MethodName := ⟨RX0, "shareOf", "(IIII)I"⟩
abbrev cX0_shareBy : ByteArray := prog_2_method_34_code
def yX0_shareBy : MethodName := ⟨RX0, "shareBy", "(IIIII)I"⟩
abbrev cX0_helpOf : ByteArray := prog_2_method_35_code
def yX0_helpOf : MethodName := ⟨RX0, "helpOf", "(II)I"⟩
abbrev cX0_faultOfClosing : ByteArray := prog_2_method_36_code
def yX0_faultOfClosing : MethodName := ⟨RX0, "faultOfClosing", "(II)I"⟩
abbrev cX0_closeStreet : ByteArray := prog_2_method_37_code
def yX0_closeStreet : MethodName := ⟨RX0, "closeStreet", "(IIZ)I"⟩
abbrev cX0_faultOfPassing : ByteArray := prog_2_method_38_code
def yX0_faultOfPassing : MethodName := ⟨RX0, "faultOfPassing", "(I)I"⟩
abbrev cX0_passHours : ByteArray := prog_2_method_39_code
def yX0_passHours : MethodName := ⟨RX0, "passHours", "(I)I"⟩
abbrev cX0_faultOfSetting : ByteArray := prog_2_method_40_code
def yX0_faultOfSetting : MethodName := ⟨RX0, "faultOfSetting", "(II)I"⟩
abbrev cX0_changeSetting : ByteArray := prog_2_method_41_code
def yX0_changeSetting : MethodName := ⟨RX0, "changeSetting", "(II)I"⟩
def RX1 : String := "DogBoard$History"
def TX1 : u_T := fun k => match k with
  | 0 => ("DogBoard$History", "states", "[LDogBoard$Board;", true)
  | 1 => ("DogBoard$History", "oldest", "I", false)
  | _ => ("DogBoard$History", "count", "I", false)
def tyX1 : Nat → FieldType := fun k => match k with
  | 0 => .array (.object "DogBoard$Board")
  | 1 => .int
  | _ => .int
abbrev wsX10 : List Cond := u_ws RX1 TX1 3
theorem nmX1 : ∀ a, a < 3 → ∀ b, b < 3 → a ≠ b → (TX1 a).2.1 ≠ (TX1 b).2.1 := by decide +kernel
theorem tyX1_ok : ∀ k, k < 3 → parseFieldDescriptor (TX1 k).2.2.1 = some (tyX1 k) := by decide +kernel
abbrev cX1_init : ByteArray := prog_3_method_1_code
def yX1_init : MethodName := ⟨RX1, "<init>", "()V"⟩
abbrev cX1_isEmpty : ByteArray := prog_3_method_2_code
def yX1_isEmpty : MethodName := ⟨RX1, "isEmpty", "()Z"⟩
abbrev cX1_forgetAll : ByteArray := prog_3_method_3_code
def yX1_forgetAll : MethodName := ⟨RX1, "forgetAll", "()V"⟩
abbrev cX1_stateAt : ByteArray := prog_3_method_4_code
def yX1_stateAt : MethodName := ⟨RX1, "stateAt", "(I)LDogBoard$Board;"⟩
abbrev cX1_remember : ByteArray := prog_3_method_5_code
def yX1_remember : MethodName := ⟨RX1, "remember", "(LDogBoard$Board;)V"⟩
abbrev cX1_giveBack : ByteArray := prog_3_method_6_code
def yX1_giveBack : MethodName := ⟨RX1, "giveBack", "(LDogBoard$Board;)I"⟩
def RX2 : String := "DogBoard$Quarter"
def TX2 : u_T := fun k => match k with
  | 0 => ("DogBoard$Quarter", "ways", "[I", true)
  | 1 => ("DogBoard$Quarter", "sweep", "[I", true)
  | _ => ("DogBoard$Quarter", "closed", "I", false)
def tyX2 : Nat → FieldType := fun k => match k with
  | 0 => .array .int
  | 1 => .array .int
  | _ => .int
abbrev wsX20 : List Cond := u_ws RX2 TX2 3
theorem nmX2 : ∀ a, a < 3 → ∀ b, b < 3 → a ≠ b → (TX2 a).2.1 ≠ (TX2 b).2.1 := by decide +kernel
theorem tyX2_ok : ∀ k, k < 3 → parseFieldDescriptor (TX2 k).2.2.1 = some (tyX2 k) := by decide +kernel
abbrev cX2_init : ByteArray := prog_4_method_1_code
def yX2_init : MethodName := ⟨RX2, "<init>", "()V"⟩
abbrev cX2_openAll : ByteArray := prog_4_method_2_code
def yX2_openAll : MethodName := ⟨RX2, "openAll", "()V"⟩
abbrev cX2_copyFrom : ByteArray := prog_4_method_3_code
def yX2_copyFrom : MethodName := ⟨RX2, "copyFrom", "(LDogBoard$Quarter;)V"⟩
abbrev cX2_closedStreets : ByteArray := prog_4_method_4_code
def yX2_closedStreets : MethodName := ⟨RX2, "closedStreets", "()I"⟩
abbrev cX2_streetBetween : ByteArray := prog_4_method_5_code
def yX2_streetBetween : MethodName := ⟨RX2, "streetBetween", "(II)I"⟩
abbrev cX2_setClosed : ByteArray := prog_4_method_6_code
def yX2_setClosed : MethodName := ⟨RX2, "setClosed", "(IZ)V"⟩
abbrev cX2_wayBetween : ByteArray := prog_4_method_7_code
def yX2_wayBetween : MethodName := ⟨RX2, "wayBetween", "(II)I"⟩
abbrev cX2_isWithin : ByteArray := prog_4_method_8_code
def yX2_isWithin : MethodName := ⟨RX2, "isWithin", "(III)Z"⟩
abbrev cX2_measureAll : ByteArray := prog_4_method_9_code
def yX2_measureAll : MethodName := ⟨RX2, "measureAll", "()V"⟩
abbrev cX2_noteWays : ByteArray := prog_4_method_10_code
def yX2_noteWays : MethodName := ⟨RX2, "noteWays", "(III)V"⟩
abbrev cX2_besideAnyOf : ByteArray := prog_4_method_11_code
def yX2_besideAnyOf : MethodName := ⟨RX2, "besideAnyOf", "(I)I"⟩
abbrev cX2_wayBySweeps : ByteArray := prog_4_method_12_code
def yX2_wayBySweeps : MethodName := ⟨RX2, "wayBySweeps", "(II)I"⟩
abbrev cX2_sweepOnce : ByteArray := prog_4_method_13_code
def yX2_sweepOnce : MethodName := ⟨RX2, "sweepOnce", "()Z"⟩
abbrev cX2_shortens : ByteArray := prog_4_method_14_code
def yX2_shortens : MethodName := ⟨RX2, "shortens", "(II)Z"⟩
def RX3 : String := "DogBoard$Rows"
def TX3 : u_T := fun k => match k with
  | 0 => ("DogBoard$Rows", "most", "I", true)
  | 1 => ("DogBoard$Rows", "width", "I", true)
  | 2 => ("DogBoard$Rows", "cells", "[I", true)
  | _ => ("DogBoard$Rows", "count", "I", false)
def tyX3 : Nat → FieldType := fun k => match k with
  | 0 => .int
  | 1 => .int
  | 2 => .array .int
  | _ => .int
abbrev wsX30 : List Cond := u_ws RX3 TX3 4
theorem nmX3 : ∀ a, a < 4 → ∀ b, b < 4 → a ≠ b → (TX3 a).2.1 ≠ (TX3 b).2.1 := by decide +kernel
theorem tyX3_ok : ∀ k, k < 4 → parseFieldDescriptor (TX3 k).2.2.1 = some (tyX3 k) := by decide +kernel
abbrev cX3_init : ByteArray := prog_5_method_1_code
def yX3_init : MethodName := ⟨RX3, "<init>", "(II)V"⟩
abbrev cX3_count : ByteArray := prog_5_method_2_code
def yX3_count : MethodName := ⟨RX3, "count", "()I"⟩
abbrev cX3_isFull : ByteArray := prog_5_method_3_code
def yX3_isFull : MethodName := ⟨RX3, "isFull", "()Z"⟩
abbrev cX3_has : ByteArray := prog_5_method_4_code
def yX3_has : MethodName := ⟨RX3, "has", "(I)Z"⟩
abbrev cX3_addRow : ByteArray := prog_5_method_5_code
def yX3_addRow : MethodName := ⟨RX3, "addRow", "()I"⟩
abbrev cX3_get : ByteArray := prog_5_method_6_code
def yX3_get : MethodName := ⟨RX3, "get", "(II)I"⟩
abbrev cX3_put : ByteArray := prog_5_method_7_code
def yX3_put : MethodName := ⟨RX3, "put", "(III)V"⟩
abbrev cX3_empty : ByteArray := prog_5_method_8_code
def yX3_empty : MethodName := ⟨RX3, "empty", "()V"⟩
abbrev cX3_copyFrom : ByteArray := prog_5_method_9_code
def yX3_copyFrom : MethodName := ⟨RX3, "copyFrom", "(LDogBoard$Rows;)V"⟩
def RX4 : String := "DogBoard$Script"
def TX4 : u_T := fun k => match k with
  | _ => ("", "", "", false)
def tyX4 : Nat → FieldType := fun k => match k with
  | _ => .int
abbrev wsX40 : List Cond := u_ws RX4 TX4 0
theorem nmX4 : ∀ a, a < 0 → ∀ b, b < 0 → a ≠ b → (TX4 a).2.1 ≠ (TX4 b).2.1 := by decide +kernel
theorem tyX4_ok : ∀ k, k < 0 → parseFieldDescriptor (TX4 k).2.2.1 = some (tyX4 k) := by decide +kernel
abbrev cX4_succeeds : ByteArray := prog_6_method_2_code
def yX4_succeeds : MethodName := ⟨RX4, "succeeds", "(LDogBoard$Board;I)Z"⟩
def RX5 : String := "DogBoard$Simulation"
def TX5 : u_T := fun k => match k with
  | _ => ("", "", "", false)
def tyX5 : Nat → FieldType := fun k => match k with
  | _ => .int
abbrev wsX50 : List Cond := u_ws RX5 TX5 0
theorem nmX5 : ∀ a, a < 0 → ∀ b, b < 0 → a ≠ b → (TX5 a).2.1 ≠ (TX5 b).2.1 := by decide +kernel
theorem tyX5_ok : ∀ k, k < 0 → parseFieldDescriptor (TX5 k).2.2.1 = some (tyX5 k) := by decide +kernel
abbrev cX5_playTurn : ByteArray := prog_7_method_2_code
def yX5_playTurn : MethodName := ⟨RX5, "playTurn", "(LDogBoard$Board;I)I"⟩
def RX6 : String := "DogBoard$Text"
def TX6 : u_T := fun k => match k with
  | 0 => ("DogBoard$Text", "signs", "[I", true)
  | 1 => ("DogBoard$Text", "length", "I", false)
  | 2 => ("DogBoard$Text", "position", "I", false)
  | 3 => ("DogBoard$Text", "letter", "I", false)
  | 4 => ("DogBoard$Text", "parts", "[I", true)
  | _ => ("DogBoard$Text", "partCount", "I", false)
def tyX6 : Nat → FieldType := fun k => match k with
  | 0 => .array .int
  | 1 => .int
  | 2 => .int
  | 3 => .int
  | 4 => .array .int
  | _ => .int
abbrev wsX60 : List Cond := u_ws RX6 TX6 6
theorem nmX6 : ∀ a, a < 6 → ∀ b, b < 6 → a ≠ b → (TX6 a).2.1 ≠ (TX6 b).2.1 := by decide +kernel
theorem tyX6_ok : ∀ k, k < 6 → parseFieldDescriptor (TX6 k).2.2.1 = some (tyX6 k) := by decide +kernel
abbrev cX6_init : ByteArray := prog_8_method_1_code
def yX6_init : MethodName := ⟨RX6, "<init>", "()V"⟩
abbrev cX6_isFull : ByteArray := prog_8_method_2_code
def yX6_isFull : MethodName := ⟨RX6, "isFull", "()Z"⟩
abbrev cX6_add : ByteArray := prog_8_method_3_code
def yX6_add : MethodName := ⟨RX6, "add", "(I)I"⟩
abbrev cX6_empty : ByteArray := prog_8_method_4_code
def yX6_empty : MethodName := ⟨RX6, "empty", "()I"⟩
abbrev cX6_firstError : ByteArray := prog_8_method_5_code
def yX6_firstError : MethodName := ⟨RX6, "firstError", "()I"⟩
abbrev cX6_hasMore : ByteArray := prog_8_method_6_code
def yX6_hasMore : MethodName := ⟨RX6, "hasMore", "()Z"⟩
abbrev cX6_doCommand : ByteArray := prog_8_method_7_code
def yX6_doCommand : MethodName := ⟨RX6, "doCommand", "(LDogBoard$Board;)I"⟩
abbrev cX6_readStart : ByteArray := prog_8_method_8_code
def yX6_readStart : MethodName := ⟨RX6, "readStart", "()Z"⟩
abbrev cX6_readCommand : ByteArray := prog_8_method_9_code
def yX6_readCommand : MethodName := ⟨RX6, "readCommand", "()Z"⟩
abbrev cX6_readCorner : ByteArray := prog_8_method_10_code
def yX6_readCorner : MethodName := ⟨RX6, "readCorner", "()Z"⟩
abbrev cX6_readFinder : ByteArray := prog_8_method_11_code
def yX6_readFinder : MethodName := ⟨RX6, "readFinder", "()Z"⟩
abbrev cX6_readNumber : ByteArray := prog_8_method_12_code
def yX6_readNumber : MethodName := ⟨RX6, "readNumber", "(III)Z"⟩
abbrev cX6_readPlusOrMinus : ByteArray := prog_8_method_13_code
def yX6_readPlusOrMinus : MethodName := ⟨RX6, "readPlusOrMinus", "()Z"⟩
abbrev cX6_keepPart : ByteArray := prog_8_method_14_code
def yX6_keepPart : MethodName := ⟨RX6, "keepPart", "(I)V"⟩
abbrev cX6_signHere : ByteArray := prog_8_method_15_code
def yX6_signHere : MethodName := ⟨RX6, "signHere", "()I"⟩
def RX7 : String := "DogBoard"
def TX7 : u_T := fun k => match k with
  | 0 => ("DogBoard", "now", "LDogBoard$Board;", true)
  | 1 => ("DogBoard", "trial", "LDogBoard$Board;", true)
  | 2 => ("DogBoard", "history", "LDogBoard$History;", true)
  | 3 => ("DogBoard", "slots", "[LDogBoard$Board;", true)
  | 4 => ("DogBoard", "filled", "[Z", true)
  | _ => ("DogBoard", "text", "LDogBoard$Text;", true)
def tyX7 : Nat → FieldType := fun k => match k with
  | 0 => .object "DogBoard$Board"
  | 1 => .object "DogBoard$Board"
  | 2 => .object "DogBoard$History"
  | 3 => .array (.object "DogBoard$Board")
  | 4 => .array .boolean
  | _ => .object "DogBoard$Text"
abbrev wsX70 : List Cond := u_ws RX7 TX7 6
theorem nmX7 : ∀ a, a < 6 → ∀ b, b < 6 → a ≠ b → (TX7 a).2.1 ≠ (TX7 b).2.1 := by decide +kernel
theorem tyX7_ok : ∀ k, k < 6 → parseFieldDescriptor (TX7 k).2.2.1 = some (tyX7 k) := by decide +kernel
abbrev cX7_init : ByteArray := prog_1_method_1_code
def yX7_init : MethodName := ⟨RX7, "<init>", "()V"⟩
abbrev cX7_append : ByteArray := prog_1_method_2_code
def yX7_append : MethodName := ⟨RX7, "append", "(I)I"⟩
abbrev cX7_clearText : ByteArray := prog_1_method_3_code
def yX7_clearText : MethodName := ⟨RX7, "clearText", "()I"⟩
abbrev cX7_errorPosition : ByteArray := prog_1_method_4_code
def yX7_errorPosition : MethodName := ⟨RX7, "errorPosition", "()I"⟩
abbrev cX7_load : ByteArray := prog_1_method_5_code
def yX7_load : MethodName := ⟨RX7, "load", "()I"⟩
abbrev cX7_about : ByteArray := prog_1_method_6_code
def yX7_about : MethodName := ⟨RX7, "about", "(I)I"⟩
abbrev cX7_dogOf : ByteArray := prog_1_method_7_code
def yX7_dogOf : MethodName := ⟨RX7, "dogOf", "(II)I"⟩
abbrev cX7_sightingOf : ByteArray := prog_1_method_8_code
def yX7_sightingOf : MethodName := ⟨RX7, "sightingOf", "(II)I"⟩
abbrev cX7_purse : ByteArray := prog_1_method_9_code
def yX7_purse : MethodName := ⟨RX7, "purse", "(I)I"⟩
abbrev cX7_apart : ByteArray := prog_1_method_10_code
def yX7_apart : MethodName := ⟨RX7, "apart", "(III)I"⟩
abbrev cX7_lose : ByteArray := prog_1_method_11_code
def yX7_lose : MethodName := ⟨RX7, "lose", "(IIII)I"⟩
abbrev cX7_sight : ByteArray := prog_1_method_12_code
def yX7_sight : MethodName := ⟨RX7, "sight", "(IIIIZ)I"⟩
abbrev cX7_find : ByteArray := prog_1_method_13_code
def yX7_find : MethodName := ⟨RX7, "find", "(III)I"⟩
abbrev cX7_close : ByteArray := prog_1_method_14_code
def yX7_close : MethodName := ⟨RX7, "close", "(IIZ)I"⟩
abbrev cX7_hours : ByteArray := prog_1_method_15_code
def yX7_hours : MethodName := ⟨RX7, "hours", "(I)I"⟩
abbrev cX7_set : ByteArray := prog_1_method_16_code
def yX7_set : MethodName := ⟨RX7, "set", "(II)I"⟩
abbrev cX7_undo : ByteArray := prog_1_method_17_code
def yX7_undo : MethodName := ⟨RX7, "undo", "()I"⟩
abbrev cX7_canBe : ByteArray := prog_1_method_18_code
def yX7_canBe : MethodName := ⟨RX7, "canBe", "(I)I"⟩
abbrev cX7_watch : ByteArray := prog_1_method_19_code
def yX7_watch : MethodName := ⟨RX7, "watch", "()I"⟩
abbrev cX7_meant : ByteArray := prog_1_method_20_code
def yX7_meant : MethodName := ⟨RX7, "meant", "(I)I"⟩
abbrev cX7_ifFound : ByteArray := prog_1_method_21_code
def yX7_ifFound : MethodName := ⟨RX7, "ifFound", "(IIII)I"⟩
abbrev cX7_runScript : ByteArray := prog_1_method_22_code
def yX7_runScript : MethodName := ⟨RX7, "runScript", "(IJ)I"⟩
abbrev cX7_simulate : ByteArray := prog_1_method_23_code
def yX7_simulate : MethodName := ⟨RX7, "simulate", "(JI)I"⟩
abbrev cX7_save : ByteArray := prog_1_method_24_code
def yX7_save : MethodName := ⟨RX7, "save", "(I)I"⟩
abbrev cX7_restore : ByteArray := prog_1_method_25_code
def yX7_restore : MethodName := ⟨RX7, "restore", "(I)I"⟩
abbrev cX7_isSlot : ByteArray := prog_1_method_26_code
def yX7_isSlot : MethodName := ⟨RX7, "isSlot", "(I)Z"⟩
abbrev cX7_isIn : ByteArray := prog_1_method_27_code
def yX7_isIn : MethodName := ⟨RX7, "isIn", "(III)Z"⟩
abbrev cX7_isCorner : ByteArray := prog_1_method_28_code
def yX7_isCorner : MethodName := ⟨RX7, "isCorner", "(I)Z"⟩
abbrev cX7_isFinder : ByteArray := prog_1_method_29_code
def yX7_isFinder : MethodName := ⟨RX7, "isFinder", "(I)Z"⟩
abbrev cX7_hasBit : ByteArray := prog_1_method_30_code
def yX7_hasBit : MethodName := ⟨RX7, "hasBit", "(II)Z"⟩
abbrev cX7_throwFor : ByteArray := prog_1_method_31_code
def yX7_throwFor : MethodName := ⟨RX7, "throwFor", "(I)V"⟩
def RX8 : String := "DogBoardModel"
def TX8 : u_T := fun k => match k with
  | 0 => ("DogBoardModel", "refusal", "I", false)
  | 1 => ("DogBoardModel", "text", "[I", true)
  | 2 => ("DogBoardModel", "size", "I", false)
  | 3 => ("DogBoardModel", "now", "[I", true)
  | 4 => ("DogBoardModel", "trial", "[I", true)
  | 5 => ("DogBoardModel", "diary", "[I", true)
  | 6 => ("DogBoardModel", "acts", "I", false)
  | 7 => ("DogBoardModel", "kept", "[I", true)
  | 8 => ("DogBoardModel", "isKept", "[Z", true)
  | 9 => ("DogBoardModel", "way", "[I", true)
  | 10 => ("DogBoardModel", "help", "[I", true)
  | 11 => ("DogBoardModel", "spot", "I", false)
  | _ => ("DogBoardModel", "out", "I", false)
def tyX8 : Nat → FieldType := fun k => match k with
  | 0 => .int
  | 1 => .array .int
  | 2 => .int
  | 3 => .array .int
  | 4 => .array .int
  | 5 => .array .int
  | 6 => .int
  | 7 => .array .int
  | 8 => .array .boolean
  | 9 => .array .int
  | 10 => .array .int
  | 11 => .int
  | _ => .int
abbrev wsX80 : List Cond := u_ws RX8 TX8 13
theorem nmX8 : ∀ a, a < 13 → ∀ b, b < 13 → a ≠ b → (TX8 a).2.1 ≠ (TX8 b).2.1 := by decide +kernel
theorem tyX8_ok : ∀ k, k < 13 → parseFieldDescriptor (TX8 k).2.2.1 = some (tyX8 k) := by decide +kernel
abbrev cX8_init : ByteArray := prog_10_method_1_code
def yX8_init : MethodName := ⟨RX8, "<init>", "()V"⟩
abbrev cX8_thrown : ByteArray := prog_10_method_2_code
def yX8_thrown : MethodName := ⟨RX8, "thrown", "()I"⟩
abbrev cX8_refused : ByteArray := prog_10_method_3_code
def yX8_refused : MethodName := ⟨RX8, "refused", "(I)Z"⟩
abbrev cX8_in : ByteArray := prog_10_method_4_code
def yX8_in : MethodName := ⟨RX8, "in", "(JJJ)Z"⟩
abbrev cX8_copyState : ByteArray := prog_10_method_5_code
def yX8_copyState : MethodName := ⟨RX8, "copyState", "([II[II)V"⟩
abbrev cX8_clear : ByteArray := prog_10_method_6_code
def yX8_clear : MethodName := ⟨RX8, "clear", "([I)V"⟩
abbrev cX8_ofDog : ByteArray := prog_10_method_7_code
def yX8_ofDog : MethodName := ⟨RX8, "ofDog", "([III)I"⟩
abbrev cX8_ofSight : ByteArray := prog_10_method_8_code
def yX8_ofSight : MethodName := ⟨RX8, "ofSight", "([III)I"⟩
abbrev cX8_isDog : ByteArray := prog_10_method_9_code
def yX8_isDog : MethodName := ⟨RX8, "isDog", "([II)Z"⟩
abbrev cX8_isMissing : ByteArray := prog_10_method_10_code
def yX8_isMissing : MethodName := ⟨RX8, "isMissing", "([II)Z"⟩
abbrev cX8_isCorner : ByteArray := prog_10_method_11_code
def yX8_isCorner : MethodName := ⟨RX8, "isCorner", "(I)Z"⟩
abbrev cX8_isFinder : ByteArray := prog_10_method_12_code
def yX8_isFinder : MethodName := ⟨RX8, "isFinder", "(I)Z"⟩
abbrev cX8_isSetting : ByteArray := prog_10_method_13_code
def yX8_isSetting : MethodName := ⟨RX8, "isSetting", "(II)Z"⟩
abbrev cX8_street : ByteArray := prog_10_method_14_code
def yX8_street : MethodName := ⟨RX8, "street", "(II)I"⟩
abbrev cX8_closedMany : ByteArray := prog_10_method_15_code
def yX8_closedMany : MethodName := ⟨RX8, "closedMany", "([I)I"⟩
abbrev cX8_measure : ByteArray := prog_10_method_16_code
def yX8_measure : MethodName := ⟨RX8, "measure", "([I)V"⟩
abbrev cX8_reaches : ByteArray := prog_10_method_17_code
def yX8_reaches : MethodName := ⟨RX8, "reaches", "(III)Z"⟩
abbrev cX8_bits : ByteArray := prog_10_method_18_code
def yX8_bits : MethodName := ⟨RX8, "bits", "(I)I"⟩
abbrev cX8_unlike : ByteArray := prog_10_method_19_code
def yX8_unlike : MethodName := ⟨RX8, "unlike", "([III)I"⟩
abbrev cX8_means : ByteArray := prog_10_method_20_code
def yX8_means : MethodName := ⟨RX8, "means", "([III)I"⟩
abbrev cX8_isTrue : ByteArray := prog_10_method_21_code
def yX8_isTrue : MethodName := ⟨RX8, "isTrue", "([II)Z"⟩
abbrev cX8_fits : ByteArray := prog_10_method_22_code
def yX8_fits : MethodName := ⟨RX8, "fits", "([III)Z"⟩
abbrev cX8_isFraud : ByteArray := prog_10_method_23_code
def yX8_isFraud : MethodName := ⟨RX8, "isFraud", "([II)Z"⟩
abbrev cX8_frauds : ByteArray := prog_10_method_24_code
def yX8_frauds : MethodName := ⟨RX8, "frauds", "([I)I"⟩
abbrev cX8_canBeAt : ByteArray := prog_10_method_25_code
def yX8_canBeAt : MethodName := ⟨RX8, "canBeAt", "([III)Z"⟩
abbrev cX8_loseOn : ByteArray := prog_10_method_26_code
def yX8_loseOn : MethodName := ⟨RX8, "loseOn", "([IIIII)I"⟩
abbrev cX8_sightOn : ByteArray := prog_10_method_27_code
def yX8_sightOn : MethodName := ⟨RX8, "sightOn", "([IIIIIZ)I"⟩
abbrev cX8_helps : ByteArray := prog_10_method_28_code
def yX8_helps : MethodName := ⟨RX8, "helps", "([IIII)I"⟩
abbrev cX8_findOn : ByteArray := prog_10_method_29_code
def yX8_findOn : MethodName := ⟨RX8, "findOn", "([IIII)I"⟩
abbrev cX8_settle : ByteArray := prog_10_method_30_code
def yX8_settle : MethodName := ⟨RX8, "settle", "([II)V"⟩
abbrev cX8_closeOn : ByteArray := prog_10_method_31_code
def yX8_closeOn : MethodName := ⟨RX8, "closeOn", "([IIIZ)I"⟩
abbrev cX8_hoursOn : ByteArray := prog_10_method_32_code
def yX8_hoursOn : MethodName := ⟨RX8, "hoursOn", "([II)I"⟩
abbrev cX8_change : ByteArray := prog_10_method_33_code
def yX8_change : MethodName := ⟨RX8, "change", "([III)I"⟩
abbrev cX8_append : ByteArray := prog_10_method_34_code
def yX8_append : MethodName := ⟨RX8, "append", "(I)I"⟩
abbrev cX8_clearText : ByteArray := prog_10_method_35_code
def yX8_clearText : MethodName := ⟨RX8, "clearText", "()I"⟩
abbrev cX8_figures : ByteArray := prog_10_method_36_code
def yX8_figures : MethodName := ⟨RX8, "figures", "(IIII)I"⟩
abbrev cX8_plusSign : ByteArray := prog_10_method_37_code
def yX8_plusSign : MethodName := ⟨RX8, "plusSign", "(I)I"⟩
abbrev cX8_done : ByteArray := prog_10_method_38_code
def yX8_done : MethodName := ⟨RX8, "done", "(Z)Z"⟩
abbrev cX8_cornerSign : ByteArray := prog_10_method_39_code
def yX8_cornerSign : MethodName := ⟨RX8, "cornerSign", "(I)I"⟩
abbrev cX8_finderSign : ByteArray := prog_10_method_40_code
def yX8_finderSign : MethodName := ⟨RX8, "finderSign", "(I)I"⟩
abbrev cX8_readLose : ByteArray := prog_10_method_41_code
def yX8_readLose : MethodName := ⟨RX8, "readLose", "([I)Z"⟩
abbrev cX8_readSight : ByteArray := prog_10_method_42_code
def yX8_readSight : MethodName := ⟨RX8, "readSight", "([I)Z"⟩
abbrev cX8_readFind : ByteArray := prog_10_method_43_code
def yX8_readFind : MethodName := ⟨RX8, "readFind", "([I)Z"⟩
abbrev cX8_readClose : ByteArray := prog_10_method_44_code
def yX8_readClose : MethodName := ⟨RX8, "readClose", "([I)Z"⟩
abbrev cX8_readCommand : ByteArray := prog_10_method_45_code
def yX8_readCommand : MethodName := ⟨RX8, "readCommand", "([I)Z"⟩
abbrev cX8_readText : ByteArray := prog_10_method_46_code
def yX8_readText : MethodName := ⟨RX8, "readText", "([I)I"⟩
abbrev cX8_errorPosition : ByteArray := prog_10_method_47_code
def yX8_errorPosition : MethodName := ⟨RX8, "errorPosition", "()I"⟩
abbrev cX8_load : ByteArray := prog_10_method_48_code
def yX8_load : MethodName := ⟨RX8, "load", "()I"⟩
abbrev cX8_missing : ByteArray := prog_10_method_49_code
def yX8_missing : MethodName := ⟨RX8, "missing", "([I)I"⟩
abbrev cX8_rewards : ByteArray := prog_10_method_50_code
def yX8_rewards : MethodName := ⟨RX8, "rewards", "([I)I"⟩
abbrev cX8_meaningless : ByteArray := prog_10_method_51_code
def yX8_meaningless : MethodName := ⟨RX8, "meaningless", "([I)I"⟩
abbrev cX8_about : ByteArray := prog_10_method_52_code
def yX8_about : MethodName := ⟨RX8, "about", "(I)I"⟩
abbrev cX8_dogOf : ByteArray := prog_10_method_53_code
def yX8_dogOf : MethodName := ⟨RX8, "dogOf", "(II)I"⟩
abbrev cX8_sightingOf : ByteArray := prog_10_method_54_code
def yX8_sightingOf : MethodName := ⟨RX8, "sightingOf", "(II)I"⟩
abbrev cX8_purse : ByteArray := prog_10_method_55_code
def yX8_purse : MethodName := ⟨RX8, "purse", "(I)I"⟩
abbrev cX8_apart : ByteArray := prog_10_method_56_code
def yX8_apart : MethodName := ⟨RX8, "apart", "(III)I"⟩
abbrev cX8_remember : ByteArray := prog_10_method_57_code
def yX8_remember : MethodName := ⟨RX8, "remember", "()V"⟩
abbrev cX8_lose : ByteArray := prog_10_method_58_code
def yX8_lose : MethodName := ⟨RX8, "lose", "(IIII)I"⟩
abbrev cX8_sight : ByteArray := prog_10_method_59_code
def yX8_sight : MethodName := ⟨RX8, "sight", "(IIIIZ)I"⟩
abbrev cX8_find : ByteArray := prog_10_method_60_code
def yX8_find : MethodName := ⟨RX8, "find", "(III)I"⟩
abbrev cX8_close : ByteArray := prog_10_method_61_code
def yX8_close : MethodName := ⟨RX8, "close", "(IIZ)I"⟩
abbrev cX8_hours : ByteArray := prog_10_method_62_code
def yX8_hours : MethodName := ⟨RX8, "hours", "(I)I"⟩
abbrev cX8_set : ByteArray := prog_10_method_63_code
def yX8_set : MethodName := ⟨RX8, "set", "(II)I"⟩
abbrev cX8_undo : ByteArray := prog_10_method_64_code
def yX8_undo : MethodName := ⟨RX8, "undo", "()I"⟩
abbrev cX8_canBe : ByteArray := prog_10_method_65_code
def yX8_canBe : MethodName := ⟨RX8, "canBe", "(I)I"⟩
abbrev cX8_watch : ByteArray := prog_10_method_66_code
def yX8_watch : MethodName := ⟨RX8, "watch", "()I"⟩
abbrev cX8_meant : ByteArray := prog_10_method_67_code
def yX8_meant : MethodName := ⟨RX8, "meant", "(I)I"⟩
abbrev cX8_ifFound : ByteArray := prog_10_method_68_code
def yX8_ifFound : MethodName := ⟨RX8, "ifFound", "(IIII)I"⟩
abbrev cX8_canBeNow : ByteArray := prog_10_method_69_code
def yX8_canBeNow : MethodName := ⟨RX8, "canBeNow", "(II)Z"⟩
abbrev cX8_fraudsNow : ByteArray := prog_10_method_70_code
def yX8_fraudsNow : MethodName := ⟨RX8, "fraudsNow", "()I"⟩
abbrev cX8_command : ByteArray := prog_10_method_71_code
def yX8_command : MethodName := ⟨RX8, "command", "(II)Z"⟩
abbrev cX8_runScript : ByteArray := prog_10_method_72_code
def yX8_runScript : MethodName := ⟨RX8, "runScript", "(IJ)I"⟩
abbrev cX8_turnOf : ByteArray := prog_10_method_73_code
def yX8_turnOf : MethodName := ⟨RX8, "turnOf", "([III)V"⟩
abbrev cX8_simulate : ByteArray := prog_10_method_74_code
def yX8_simulate : MethodName := ⟨RX8, "simulate", "(JI)I"⟩
abbrev cX8_save : ByteArray := prog_10_method_75_code
def yX8_save : MethodName := ⟨RX8, "save", "(I)I"⟩
abbrev cX8_restore : ByteArray := prog_10_method_76_code
def yX8_restore : MethodName := ⟨RX8, "restore", "(I)I"⟩
def RJx145de : String := "java/io/Serializable"
def TJx145de : u_T := fun k => match k with
  | _ => ("", "", "", false)
def tyJx145de : Nat → FieldType := fun k => match k with
  | _ => .int
abbrev wsJx145de0 : List Cond := u_ws RJx145de TJx145de 0
theorem nmJx145de : ∀ a, a < 0 → ∀ b, b < 0 → a ≠ b → (TJx145de a).2.1 ≠ (TJx145de b).2.1 := by decide +kernel
theorem tyJx145de_ok : ∀ k, k < 0 → parseFieldDescriptor (TJx145de k).2.2.1 = some (tyJx145de k) := by decide +kernel
def RJ6 : String := "java/lang/Integer"
def TJ6 : u_T := fun k => match k with
  | _ => ("", "", "", false)
def tyJ6 : Nat → FieldType := fun k => match k with
  | _ => .int
abbrev wsJ60 : List Cond := u_ws RJ6 TJ6 0
theorem nmJ6 : ∀ a, a < 0 → ∀ b, b < 0 → a ≠ b → (TJ6 a).2.1 ≠ (TJ6 b).2.1 := by decide +kernel
theorem tyJ6_ok : ∀ k, k < 0 → parseFieldDescriptor (TJ6 k).2.2.1 = some (tyJ6 k) := by decide +kernel
abbrev cJ6_bitCount_0f7a4 : ByteArray := prog_15_method_49_code
def yJ6_bitCount_0f7a4 : MethodName := ⟨RJ6, "bitCount", "(I)I"⟩
def RJ9 : String := "java/lang/Math"
def TJ9 : u_T := fun k => match k with
  | _ => ("", "", "", false)
def tyJ9 : Nat → FieldType := fun k => match k with
  | _ => .int
abbrev wsJ90 : List Cond := u_ws RJ9 TJ9 0
theorem nmJ9 : ∀ a, a < 0 → ∀ b, b < 0 → a ≠ b → (TJ9 a).2.1 ≠ (TJ9 b).2.1 := by decide +kernel
theorem tyJ9_ok : ∀ k, k < 0 → parseFieldDescriptor (TJ9 k).2.2.1 = some (tyJ9 k) := by decide +kernel
abbrev cJ9_abs_0f7a4 : ByteArray := prog_16_method_59_code
def yJ9_abs_0f7a4 : MethodName := ⟨RJ9, "abs", "(I)I"⟩
abbrev cJ9_max_7cf53 : ByteArray := prog_16_method_65_code
def yJ9_max_7cf53 : MethodName := ⟨RJ9, "max", "(II)I"⟩
abbrev cJ9_min_7cf53 : ByteArray := prog_16_method_69_code
def yJ9_min_7cf53 : MethodName := ⟨RJ9, "min", "(II)I"⟩
def RJ0 : String := "java/lang/String"
def TJ0 : u_T := fun k => match k with
  | _ => ("", "", "", false)
def tyJ0 : Nat → FieldType := fun k => match k with
  | _ => .int
abbrev wsJ00 : List Cond := u_ws RJ0 TJ0 0
theorem nmJ0 : ∀ a, a < 0 → ∀ b, b < 0 → a ≠ b → (TJ0 a).2.1 ≠ (TJ0 b).2.1 := by decide +kernel
theorem tyJ0_ok : ∀ k, k < 0 → parseFieldDescriptor (TJ0 k).2.2.1 = some (tyJ0 k) := by decide +kernel
def RJ10 : String := "java/lang/System"
def TJ10 : u_T := fun k => match k with
  | _ => ("", "", "", false)
def tyJ10 : Nat → FieldType := fun k => match k with
  | _ => .int
abbrev wsJ100 : List Cond := u_ws RJ10 TJ10 0
theorem nmJ10 : ∀ a, a < 0 → ∀ b, b < 0 → a ≠ b → (TJ10 a).2.1 ≠ (TJ10 b).2.1 := by decide +kernel
theorem tyJ10_ok : ∀ k, k < 0 → parseFieldDescriptor (TJ10 k).2.2.1 = some (tyJ10 k) := by decide +kernel
def RJ7 : String := "java/util/Arrays"
def TJ7 : u_T := fun k => match k with
  | _ => ("", "", "", false)
def tyJ7 : Nat → FieldType := fun k => match k with
  | _ => .int
abbrev wsJ70 : List Cond := u_ws RJ7 TJ7 0
theorem nmJ7 : ∀ a, a < 0 → ∀ b, b < 0 → a ≠ b → (TJ7 a).2.1 ≠ (TJ7 b).2.1 := by decide +kernel
theorem tyJ7_ok : ∀ k, k < 0 → parseFieldDescriptor (TJ7 k).2.2.1 = some (tyJ7 k) := by decide +kernel
abbrev cJ7_fill_53178 : ByteArray := prog_21_method_103_code
def yJ7_fill_53178 : MethodName := ⟨RJ7, "fill", "([II)V"⟩
def RL : String := "DogBoardLaw"
abbrev cL_append : ByteArray := method_3_code
def yL_append : MethodName := ⟨RL, "append", "(LDogBoard;I[J)I"⟩
abbrev cL_load : ByteArray := method_4_code
def yL_load : MethodName := ⟨RL, "load", "(LDogBoard;[J)I"⟩
abbrev cL_about : ByteArray := method_5_code
def yL_about : MethodName := ⟨RL, "about", "(LDogBoard;I[J)I"⟩
abbrev cL_dogOf : ByteArray := method_6_code
def yL_dogOf : MethodName := ⟨RL, "dogOf", "(LDogBoard;II[J)I"⟩
abbrev cL_sightingOf : ByteArray := method_7_code
def yL_sightingOf : MethodName := ⟨RL, "sightingOf", "(LDogBoard;II[J)I"⟩
abbrev cL_purse : ByteArray := method_8_code
def yL_purse : MethodName := ⟨RL, "purse", "(LDogBoard;I[J)I"⟩
abbrev cL_apart : ByteArray := method_9_code
def yL_apart : MethodName := ⟨RL, "apart", "(LDogBoard;III[J)I"⟩
abbrev cL_lose : ByteArray := method_10_code
def yL_lose : MethodName := ⟨RL, "lose", "(LDogBoard;IIII[J)I"⟩
abbrev cL_sight : ByteArray := method_11_code
def yL_sight : MethodName := ⟨RL, "sight", "(LDogBoard;IIIIZ[J)I"⟩
abbrev cL_find : ByteArray := method_12_code
def yL_find : MethodName := ⟨RL, "find", "(LDogBoard;III[J)I"⟩
abbrev cL_close : ByteArray := method_13_code
def yL_close : MethodName := ⟨RL, "close", "(LDogBoard;IIZ[J)I"⟩
abbrev cL_hours : ByteArray := method_14_code
def yL_hours : MethodName := ⟨RL, "hours", "(LDogBoard;I[J)I"⟩
abbrev cL_set : ByteArray := method_15_code
def yL_set : MethodName := ⟨RL, "set", "(LDogBoard;II[J)I"⟩
abbrev cL_undo : ByteArray := method_16_code
def yL_undo : MethodName := ⟨RL, "undo", "(LDogBoard;[J)I"⟩
abbrev cL_canBe : ByteArray := method_17_code
def yL_canBe : MethodName := ⟨RL, "canBe", "(LDogBoard;I[J)I"⟩
abbrev cL_meant : ByteArray := method_18_code
def yL_meant : MethodName := ⟨RL, "meant", "(LDogBoard;I[J)I"⟩
abbrev cL_ifFound : ByteArray := method_19_code
def yL_ifFound : MethodName := ⟨RL, "ifFound", "(LDogBoard;IIII[J)I"⟩
abbrev cL_runScript : ByteArray := method_20_code
def yL_runScript : MethodName := ⟨RL, "runScript", "(LDogBoard;IJ[J)I"⟩
abbrev cL_simulate : ByteArray := method_21_code
def yL_simulate : MethodName := ⟨RL, "simulate", "(LDogBoard;JI[J)I"⟩
abbrev cL_save : ByteArray := method_22_code
def yL_save : MethodName := ⟨RL, "save", "(LDogBoard;I[J)I"⟩
abbrev cL_restore : ByteArray := method_23_code
def yL_restore : MethodName := ⟨RL, "restore", "(LDogBoard;I[J)I"⟩
abbrev cL_law : ByteArray := code
def yL_law : MethodName := ⟨RL, "law", "([I)Z"⟩
def wsX2_init : List Cond := .code yX2_init cX2_init 1 none :: ([.methodLink RX2 3 objectInit, .instanceMethod objectInit, .code objectInit ⟨#[0xb1]⟩ 1 none, .arrayClass .int, .fieldLink RX2 9 "DogBoard$Quarter" "ways" "[I", .fieldLink RX2 15 "DogBoard$Quarter" "sweep" "[I"] ++ wsX20)
def wsX3_init : List Cond := .code yX3_init cX3_init 3 none :: ([.methodLink RX3 3 objectInit, .instanceMethod objectInit, .code objectInit ⟨#[0xb1]⟩ 1 none, .fieldLink RX3 9 "DogBoard$Rows" "most" "I", .fieldLink RX3 15 "DogBoard$Rows" "width" "I", .methodLink RX3 18 Lib.Math.max.name, .static Lib.Math.max.name, .initialized "java/lang/Math", .code Lib.Math.max.name Lib.Math.max.code 2 (some .int), .arrayClass .int, .fieldLink RX3 24 "DogBoard$Rows" "cells" "[I"] ++ wsX30)
def wsX0_init_r1 : List Cond := [Cond.methodLink RX0 3 objectInit, Cond.instanceMethod objectInit, Cond.code objectInit ⟨#[0xb1]⟩ 1 none, Cond.classLink RX0 9 RX2, Cond.instantiable RX2 3, Cond.initialized RX2, Cond.fieldLink RX0 12 "DogBoard$Board" "quarter" "LDogBoard$Quarter;", Cond.classLink RX0 18 RX3, Cond.instantiable RX3 4, Cond.initialized RX3, Cond.fieldLink RX0 23 "DogBoard$Board" "dogs" "LDogBoard$Rows;", Cond.fieldLink RX0 27 "DogBoard$Board" "sightings" "LDogBoard$Rows;", Cond.arrayClass .int, Cond.fieldLink RX0 30 "DogBoard$Board" "purses" "[I", Cond.fieldLink RX0 34 "DogBoard$Board" "places" "[I", Cond.instanceMethod yX2_init, Cond.code yX2_init cX2_init 1 none, Cond.methodLink RX2 3 objectInit, Cond.fieldLink RX2 9 "DogBoard$Quarter" "ways" "[I", Cond.fieldLink RX2 15 "DogBoard$Quarter" "sweep" "[I", Cond.methodLink RX0 20 yX3_init, Cond.instanceMethod yX3_init, Cond.code yX3_init cX3_init 3 none, Cond.methodLink RX3 3 objectInit]
def wsX0_init_r2 : List Cond := [Cond.fieldLink RX3 9 "DogBoard$Rows" "most" "I", Cond.fieldLink RX3 15 "DogBoard$Rows" "width" "I", Cond.methodLink RX3 18 Lib.Math.max.name, Cond.static Lib.Math.max.name, Cond.initialized "java/lang/Math", Cond.code Lib.Math.max.name Lib.Math.max.code 2 (some .int), Cond.fieldLink RX3 24 "DogBoard$Rows" "cells" "[I"]
def wsX0_init : List Cond := .code yX0_init cX0_init 1 none :: ((wsX0_init_r1 ++ wsX0_init_r2) ++ wsX20 ++ wsX00 ++ wsX30)
def wsJ7_fill_53178 : List Cond := .code yJ7_fill_53178 cJ7_fill_53178 4 none :: ([])
def wsX7_hasBit : List Cond := .code yX7_hasBit cX7_hasBit 2 (some .boolean) :: ([])
def wsX2_noteWays : List Cond := .code yX2_noteWays cX2_noteWays 6 none :: ([.fieldLink RX2 9 "DogBoard$Quarter" "ways" "[I", .static yX7_hasBit, .initialized RX7, .code yX7_hasBit cX7_hasBit 2 (some .boolean)] ++ wsX20)
def wsX2_besideAnyOf : List Cond := .code yX2_besideAnyOf cX2_besideAnyOf 4 (some .int) :: ([.fieldLink RX2 43 "DogBoard$Quarter" "ENDS" "[I", .fieldLink RX2 18 "DogBoard$Quarter" "closed" "I", .static yX7_hasBit, .initialized RX7, .code yX7_hasBit cX7_hasBit 2 (some .boolean)] ++ wsX20)
def wsX2_measureAll : List Cond := .code yX2_measureAll cX2_measureAll 5 none :: ([.fieldLink RX2 9 "DogBoard$Quarter" "ways" "[I", .methodLink RX2 46 yJ7_fill_53178, .static yJ7_fill_53178, .initialized RJ7, .code yJ7_fill_53178 cJ7_fill_53178 4 none, .methodLink RX2 52 yX2_noteWays, .instanceMethod yX2_noteWays, .selects RX2 yX2_noteWays yX2_noteWays, .initialized RX2, .code yX2_noteWays cX2_noteWays 6 none, .static yX7_hasBit, .initialized RX7, .code yX7_hasBit cX7_hasBit 2 (some .boolean), .methodLink RX2 56 yX2_besideAnyOf, .instanceMethod yX2_besideAnyOf, .selects RX2 yX2_besideAnyOf yX2_besideAnyOf, .code yX2_besideAnyOf cX2_besideAnyOf 4 (some .int), .fieldLink RX2 43 "DogBoard$Quarter" "ENDS" "[I", .fieldLink RX2 18 "DogBoard$Quarter" "closed" "I"] ++ wsX20)
def wsX2_openAll : List Cond := .code yX2_openAll cX2_openAll 1 none :: ([.fieldLink RX2 18 "DogBoard$Quarter" "closed" "I", .methodLink RX2 22 yX2_measureAll, .instanceMethod yX2_measureAll, .selects RX2 yX2_measureAll yX2_measureAll, .initialized RX2, .code yX2_measureAll cX2_measureAll 5 none, .fieldLink RX2 9 "DogBoard$Quarter" "ways" "[I", .methodLink RX2 46 yJ7_fill_53178, .static yJ7_fill_53178, .initialized RJ7, .code yJ7_fill_53178 cJ7_fill_53178 4 none, .methodLink RX2 52 yX2_noteWays, .instanceMethod yX2_noteWays, .selects RX2 yX2_noteWays yX2_noteWays, .code yX2_noteWays cX2_noteWays 6 none, .static yX7_hasBit, .initialized RX7, .code yX7_hasBit cX7_hasBit 2 (some .boolean), .methodLink RX2 56 yX2_besideAnyOf, .instanceMethod yX2_besideAnyOf, .selects RX2 yX2_besideAnyOf yX2_besideAnyOf, .code yX2_besideAnyOf cX2_besideAnyOf 4 (some .int), .fieldLink RX2 43 "DogBoard$Quarter" "ENDS" "[I"] ++ wsX20)
def wsX3_empty : List Cond := .code yX3_empty cX3_empty 1 none :: ([.fieldLink RX3 28 "DogBoard$Rows" "count" "I"] ++ wsX30)
def wsX0_makeNew_r1 : List Cond := [Cond.fieldLink RX0 12 "DogBoard$Board" "quarter" "LDogBoard$Quarter;", Cond.fieldLink RX0 23 "DogBoard$Board" "dogs" "LDogBoard$Rows;", Cond.fieldLink RX0 27 "DogBoard$Board" "sightings" "LDogBoard$Rows;", Cond.fieldLink RX0 30 "DogBoard$Board" "purses" "[I", Cond.fieldLink RX0 49 "DogBoard$Board" "hour" "I", Cond.fieldLink RX0 53 "DogBoard$Board" "paid" "I", Cond.fieldLink RX0 56 "DogBoard$Board" "given" "I", Cond.fieldLink RX0 59 "DogBoard$Board" "stayed" "I", Cond.fieldLink RX0 62 "DogBoard$Board" "growth" "I", Cond.fieldLink RX0 65 "DogBoard$Board" "mostUnlike" "I", Cond.methodLink RX0 37 yX2_openAll, Cond.instanceMethod yX2_openAll, Cond.selects RX2 yX2_openAll yX2_openAll, Cond.initialized RX2, Cond.code yX2_openAll cX2_openAll 1 none, Cond.fieldLink RX2 18 "DogBoard$Quarter" "closed" "I", Cond.methodLink RX2 22 yX2_measureAll, Cond.instanceMethod yX2_measureAll, Cond.selects RX2 yX2_measureAll yX2_measureAll, Cond.code yX2_measureAll cX2_measureAll 5 none, Cond.fieldLink RX2 9 "DogBoard$Quarter" "ways" "[I", Cond.methodLink RX2 46 yJ7_fill_53178, Cond.static yJ7_fill_53178, Cond.initialized RJ7]
def wsX0_makeNew_r2 : List Cond := [Cond.code yJ7_fill_53178 cJ7_fill_53178 4 none, Cond.methodLink RX2 52 yX2_noteWays, Cond.instanceMethod yX2_noteWays, Cond.selects RX2 yX2_noteWays yX2_noteWays, Cond.code yX2_noteWays cX2_noteWays 6 none, Cond.static yX7_hasBit, Cond.initialized RX7, Cond.code yX7_hasBit cX7_hasBit 2 (some .boolean), Cond.methodLink RX2 56 yX2_besideAnyOf, Cond.instanceMethod yX2_besideAnyOf, Cond.selects RX2 yX2_besideAnyOf yX2_besideAnyOf, Cond.code yX2_besideAnyOf cX2_besideAnyOf 4 (some .int), Cond.fieldLink RX2 43 "DogBoard$Quarter" "ENDS" "[I", Cond.methodLink RX0 40 yX3_empty, Cond.instanceMethod yX3_empty, Cond.selects RX3 yX3_empty yX3_empty, Cond.initialized RX3, Cond.code yX3_empty cX3_empty 1 none, Cond.fieldLink RX3 28 "DogBoard$Rows" "count" "I", Cond.methodLink RX0 43 yJ7_fill_53178]
def wsX0_makeNew : List Cond := .code yX0_makeNew cX0_makeNew 1 none :: ((wsX0_makeNew_r1 ++ wsX0_makeNew_r2) ++ wsX00 ++ wsX20 ++ wsX30)
def wsX2_copyFrom : List Cond := .code yX2_copyFrom cX2_copyFrom 2 none :: ([.fieldLink RX2 9 "DogBoard$Quarter" "ways" "[I", .methodLink RX2 25 Lib.Math.min.name, .static Lib.Math.min.name, .initialized "java/lang/Math", .code Lib.Math.min.name Lib.Math.min.code 2 (some .int), .methodLink RX2 31 arraycopyName, .native arraycopyName, .static arraycopyName, .initialized "java/lang/System", .fieldLink RX2 18 "DogBoard$Quarter" "closed" "I"] ++ wsX20)
def wsX3_copyFrom : List Cond := .code yX3_copyFrom cX3_copyFrom 2 none :: ([.fieldLink RX3 24 "DogBoard$Rows" "cells" "[I", .methodLink RX3 39 Lib.Math.min.name, .static Lib.Math.min.name, .initialized "java/lang/Math", .code Lib.Math.min.name Lib.Math.min.code 2 (some .int), .methodLink RX3 42 arraycopyName, .native arraycopyName, .static arraycopyName, .initialized "java/lang/System", .fieldLink RX3 28 "DogBoard$Rows" "count" "I"] ++ wsX30)
def wsX0_copyFrom_r1 : List Cond := [Cond.fieldLink RX0 12 "DogBoard$Board" "quarter" "LDogBoard$Quarter;", Cond.fieldLink RX0 23 "DogBoard$Board" "dogs" "LDogBoard$Rows;", Cond.fieldLink RX0 27 "DogBoard$Board" "sightings" "LDogBoard$Rows;", Cond.fieldLink RX0 30 "DogBoard$Board" "purses" "[I", Cond.methodLink RX0 75 Lib.Math.min.name, Cond.static Lib.Math.min.name, Cond.initialized "java/lang/Math", Cond.code Lib.Math.min.name Lib.Math.min.code 2 (some .int), Cond.methodLink RX0 81 arraycopyName, Cond.native arraycopyName, Cond.static arraycopyName, Cond.initialized "java/lang/System", Cond.fieldLink RX0 49 "DogBoard$Board" "hour" "I", Cond.fieldLink RX0 53 "DogBoard$Board" "paid" "I", Cond.fieldLink RX0 56 "DogBoard$Board" "given" "I", Cond.fieldLink RX0 59 "DogBoard$Board" "stayed" "I", Cond.fieldLink RX0 62 "DogBoard$Board" "growth" "I", Cond.fieldLink RX0 65 "DogBoard$Board" "mostUnlike" "I", Cond.methodLink RX0 68 yX2_copyFrom, Cond.instanceMethod yX2_copyFrom, Cond.selects RX2 yX2_copyFrom yX2_copyFrom, Cond.initialized RX2, Cond.code yX2_copyFrom cX2_copyFrom 2 none, Cond.fieldLink RX2 9 "DogBoard$Quarter" "ways" "[I"]
def wsX0_copyFrom_r2 : List Cond := [Cond.methodLink RX2 25 Lib.Math.min.name, Cond.methodLink RX2 31 arraycopyName, Cond.fieldLink RX2 18 "DogBoard$Quarter" "closed" "I", Cond.methodLink RX0 72 yX3_copyFrom, Cond.instanceMethod yX3_copyFrom, Cond.selects RX3 yX3_copyFrom yX3_copyFrom, Cond.initialized RX3, Cond.code yX3_copyFrom cX3_copyFrom 2 none, Cond.fieldLink RX3 24 "DogBoard$Rows" "cells" "[I", Cond.methodLink RX3 39 Lib.Math.min.name, Cond.methodLink RX3 42 arraycopyName, Cond.fieldLink RX3 28 "DogBoard$Rows" "count" "I"]
def wsX0_copyFrom : List Cond := .code yX0_copyFrom cX0_copyFrom 2 none :: ((wsX0_copyFrom_r1 ++ wsX0_copyFrom_r2) ++ wsX00 ++ wsX20 ++ wsX30)
def wsX3_count : List Cond := .code yX3_count cX3_count 1 (some .int) :: ([.fieldLink RX3 28 "DogBoard$Rows" "count" "I"] ++ wsX30)
def wsX3_get : List Cond := .code yX3_get cX3_get 4 (some .int) :: ([.fieldLink RX3 15 "DogBoard$Rows" "width" "I", .fieldLink RX3 28 "DogBoard$Rows" "count" "I", .fieldLink RX3 24 "DogBoard$Rows" "cells" "[I"] ++ wsX30)
def wsX0_missingDogs : List Cond := .code yX0_missingDogs cX0_missingDogs 3 (some .int) :: ([.fieldLink RX0 23 "DogBoard$Board" "dogs" "LDogBoard$Rows;", .methodLink RX0 87 yX3_count, .instanceMethod yX3_count, .selects RX3 yX3_count yX3_count, .initialized RX3, .code yX3_count cX3_count 1 (some .int), .fieldLink RX3 28 "DogBoard$Rows" "count" "I", .methodLink RX0 112 yX3_get, .instanceMethod yX3_get, .selects RX3 yX3_get yX3_get, .code yX3_get cX3_get 4 (some .int), .fieldLink RX3 15 "DogBoard$Rows" "width" "I", .fieldLink RX3 24 "DogBoard$Rows" "cells" "[I"] ++ wsX00 ++ wsX30)
def wsX0_isMissing : List Cond := .code yX0_isMissing cX0_isMissing 2 (some .boolean) :: ([.fieldLink RX0 23 "DogBoard$Board" "dogs" "LDogBoard$Rows;", .methodLink RX0 112 yX3_get, .instanceMethod yX3_get, .selects RX3 yX3_get yX3_get, .initialized RX3, .code yX3_get cX3_get 4 (some .int), .fieldLink RX3 15 "DogBoard$Rows" "width" "I", .fieldLink RX3 28 "DogBoard$Rows" "count" "I", .fieldLink RX3 24 "DogBoard$Rows" "cells" "[I"] ++ wsX00 ++ wsX30)
def wsX0_missingRewards : List Cond := .code yX0_missingRewards cX0_missingRewards 3 (some .int) :: ([.fieldLink RX0 23 "DogBoard$Board" "dogs" "LDogBoard$Rows;", .methodLink RX0 87 yX3_count, .instanceMethod yX3_count, .selects RX3 yX3_count yX3_count, .initialized RX3, .code yX3_count cX3_count 1 (some .int), .fieldLink RX3 28 "DogBoard$Rows" "count" "I", .methodLink RX0 127 yX0_isMissing, .instanceMethod yX0_isMissing, .selects RX0 yX0_isMissing yX0_isMissing, .initialized RX0, .code yX0_isMissing cX0_isMissing 2 (some .boolean), .methodLink RX0 112 yX3_get, .instanceMethod yX3_get, .selects RX3 yX3_get yX3_get, .code yX3_get cX3_get 4 (some .int), .fieldLink RX3 15 "DogBoard$Rows" "width" "I", .fieldLink RX3 24 "DogBoard$Rows" "cells" "[I"] ++ wsX00 ++ wsX30)
def wsX2_isWithin : List Cond := .code yX2_isWithin cX2_isWithin 5 (some .boolean) :: ([.fieldLink RX2 9 "DogBoard$Quarter" "ways" "[I"] ++ wsX20)
def wsX0_trueNowFor : List Cond := .code yX0_trueNowFor cX0_trueNowFor 7 (some .int) :: ([.fieldLink RX0 27 "DogBoard$Board" "sightings" "LDogBoard$Rows;", .fieldLink RX0 23 "DogBoard$Board" "dogs" "LDogBoard$Rows;", .fieldLink RX0 12 "DogBoard$Board" "quarter" "LDogBoard$Quarter;", .methodLink RX0 87 yX3_count, .instanceMethod yX3_count, .selects RX3 yX3_count yX3_count, .initialized RX3, .code yX3_count cX3_count 1 (some .int), .fieldLink RX3 28 "DogBoard$Rows" "count" "I", .methodLink RX0 112 yX3_get, .instanceMethod yX3_get, .selects RX3 yX3_get yX3_get, .code yX3_get cX3_get 4 (some .int), .fieldLink RX3 15 "DogBoard$Rows" "width" "I", .fieldLink RX3 24 "DogBoard$Rows" "cells" "[I", .methodLink RX0 138 yX2_isWithin, .instanceMethod yX2_isWithin, .selects RX2 yX2_isWithin yX2_isWithin, .initialized RX2, .code yX2_isWithin cX2_isWithin 5 (some .boolean), .fieldLink RX2 9 "DogBoard$Quarter" "ways" "[I"] ++ wsX00 ++ wsX30 ++ wsX20)
def wsX0_sightingsMeaning : List Cond := .code yX0_sightingsMeaning cX0_sightingsMeaning 4 (some .int) :: ([.fieldLink RX0 27 "DogBoard$Board" "sightings" "LDogBoard$Rows;", .methodLink RX0 87 yX3_count, .instanceMethod yX3_count, .selects RX3 yX3_count yX3_count, .initialized RX3, .code yX3_count cX3_count 1 (some .int), .fieldLink RX3 28 "DogBoard$Rows" "count" "I", .methodLink RX0 112 yX3_get, .instanceMethod yX3_get, .selects RX3 yX3_get yX3_get, .code yX3_get cX3_get 4 (some .int), .fieldLink RX3 15 "DogBoard$Rows" "width" "I", .fieldLink RX3 24 "DogBoard$Rows" "cells" "[I"] ++ wsX00 ++ wsX30)
def wsX0_fitsOneOf_r1 : List Cond := [Cond.fieldLink RX0 27 "DogBoard$Board" "sightings" "LDogBoard$Rows;", Cond.methodLink RX0 148 Lib.Math.abs.name, Cond.static Lib.Math.abs.name, Cond.initialized "java/lang/Math", Cond.code Lib.Math.abs.name Lib.Math.abs.code 1 (some .int), Cond.fieldLink RX0 12 "DogBoard$Board" "quarter" "LDogBoard$Quarter;", Cond.methodLink RX0 87 yX3_count, Cond.instanceMethod yX3_count, Cond.selects RX3 yX3_count yX3_count, Cond.initialized RX3, Cond.code yX3_count cX3_count 1 (some .int), Cond.fieldLink RX3 28 "DogBoard$Rows" "count" "I", Cond.methodLink RX0 112 yX3_get, Cond.instanceMethod yX3_get, Cond.selects RX3 yX3_get yX3_get, Cond.code yX3_get cX3_get 4 (some .int), Cond.fieldLink RX3 15 "DogBoard$Rows" "width" "I", Cond.fieldLink RX3 24 "DogBoard$Rows" "cells" "[I", Cond.static yX7_hasBit, Cond.initialized RX7, Cond.code yX7_hasBit cX7_hasBit 2 (some .boolean), Cond.methodLink RX0 138 yX2_isWithin, Cond.instanceMethod yX2_isWithin, Cond.selects RX2 yX2_isWithin yX2_isWithin]
def wsX0_fitsOneOf_r2 : List Cond := [Cond.initialized RX2, Cond.code yX2_isWithin cX2_isWithin 5 (some .boolean), Cond.fieldLink RX2 9 "DogBoard$Quarter" "ways" "[I"]
def wsX0_fitsOneOf : List Cond := .code yX0_fitsOneOf cX0_fitsOneOf 6 (some .boolean) :: ((wsX0_fitsOneOf_r1 ++ wsX0_fitsOneOf_r2) ++ wsX00 ++ wsX30 ++ wsX20)
def wsX0_fraudsFor_r1 : List Cond := [Cond.fieldLink RX0 23 "DogBoard$Board" "dogs" "LDogBoard$Rows;", Cond.fieldLink RX0 27 "DogBoard$Board" "sightings" "LDogBoard$Rows;", Cond.methodLink RX0 127 yX0_isMissing, Cond.instanceMethod yX0_isMissing, Cond.selects RX0 yX0_isMissing yX0_isMissing, Cond.initialized RX0, Cond.code yX0_isMissing cX0_isMissing 2 (some .boolean), Cond.methodLink RX0 112 yX3_get, Cond.instanceMethod yX3_get, Cond.selects RX3 yX3_get yX3_get, Cond.initialized RX3, Cond.code yX3_get cX3_get 4 (some .int), Cond.fieldLink RX3 15 "DogBoard$Rows" "width" "I", Cond.fieldLink RX3 28 "DogBoard$Rows" "count" "I", Cond.fieldLink RX3 24 "DogBoard$Rows" "cells" "[I", Cond.methodLink RX0 135 yX0_trueNowFor, Cond.instanceMethod yX0_trueNowFor, Cond.selects RX0 yX0_trueNowFor yX0_trueNowFor, Cond.code yX0_trueNowFor cX0_trueNowFor 7 (some .int), Cond.fieldLink RX0 12 "DogBoard$Board" "quarter" "LDogBoard$Quarter;", Cond.methodLink RX0 87 yX3_count, Cond.instanceMethod yX3_count, Cond.selects RX3 yX3_count yX3_count, Cond.code yX3_count cX3_count 1 (some .int)]
def wsX0_fraudsFor_r2 : List Cond := [Cond.methodLink RX0 138 yX2_isWithin, Cond.instanceMethod yX2_isWithin, Cond.selects RX2 yX2_isWithin yX2_isWithin, Cond.initialized RX2, Cond.code yX2_isWithin cX2_isWithin 5 (some .boolean), Cond.fieldLink RX2 9 "DogBoard$Quarter" "ways" "[I", Cond.methodLink RX0 100 yX0_sightingsMeaning, Cond.instanceMethod yX0_sightingsMeaning, Cond.selects RX0 yX0_sightingsMeaning yX0_sightingsMeaning, Cond.code yX0_sightingsMeaning cX0_sightingsMeaning 4 (some .int), Cond.static yX7_hasBit, Cond.initialized RX7, Cond.code yX7_hasBit cX7_hasBit 2 (some .boolean), Cond.methodLink RX0 145 yX0_fitsOneOf, Cond.instanceMethod yX0_fitsOneOf, Cond.selects RX0 yX0_fitsOneOf yX0_fitsOneOf, Cond.code yX0_fitsOneOf cX0_fitsOneOf 6 (some .boolean), Cond.methodLink RX0 148 Lib.Math.abs.name, Cond.static Lib.Math.abs.name, Cond.initialized "java/lang/Math", Cond.code Lib.Math.abs.name Lib.Math.abs.code 1 (some .int)]
def wsX0_fraudsFor : List Cond := .code yX0_fraudsFor cX0_fraudsFor 7 (some .int) :: ((wsX0_fraudsFor_r1 ++ wsX0_fraudsFor_r2) ++ wsX00 ++ wsX30 ++ wsX20)
def wsJ6_bitCount_0f7a4 : List Cond := .code yJ6_bitCount_0f7a4 cJ6_bitCount_0f7a4 1 (some .int) :: ([.constant RJ6 265 (1431655765), .constant RJ6 266 (858993459), .constant RJ6 267 (252645135)])
def wsX0_fraudsInAll_r1 : List Cond := [Cond.fieldLink RX0 23 "DogBoard$Board" "dogs" "LDogBoard$Rows;", Cond.methodLink RX0 87 yX3_count, Cond.instanceMethod yX3_count, Cond.selects RX3 yX3_count yX3_count, Cond.initialized RX3, Cond.code yX3_count cX3_count 1 (some .int), Cond.fieldLink RX3 28 "DogBoard$Rows" "count" "I", Cond.methodLink RX0 124 yX0_fraudsFor, Cond.instanceMethod yX0_fraudsFor, Cond.selects RX0 yX0_fraudsFor yX0_fraudsFor, Cond.initialized RX0, Cond.code yX0_fraudsFor cX0_fraudsFor 7 (some .int), Cond.fieldLink RX0 27 "DogBoard$Board" "sightings" "LDogBoard$Rows;", Cond.methodLink RX0 127 yX0_isMissing, Cond.instanceMethod yX0_isMissing, Cond.selects RX0 yX0_isMissing yX0_isMissing, Cond.code yX0_isMissing cX0_isMissing 2 (some .boolean), Cond.methodLink RX0 112 yX3_get, Cond.instanceMethod yX3_get, Cond.selects RX3 yX3_get yX3_get, Cond.code yX3_get cX3_get 4 (some .int), Cond.fieldLink RX3 15 "DogBoard$Rows" "width" "I", Cond.fieldLink RX3 24 "DogBoard$Rows" "cells" "[I", Cond.methodLink RX0 135 yX0_trueNowFor]
def wsX0_fraudsInAll_r2 : List Cond := [Cond.instanceMethod yX0_trueNowFor, Cond.selects RX0 yX0_trueNowFor yX0_trueNowFor, Cond.code yX0_trueNowFor cX0_trueNowFor 7 (some .int), Cond.fieldLink RX0 12 "DogBoard$Board" "quarter" "LDogBoard$Quarter;", Cond.methodLink RX0 138 yX2_isWithin, Cond.instanceMethod yX2_isWithin, Cond.selects RX2 yX2_isWithin yX2_isWithin, Cond.initialized RX2, Cond.code yX2_isWithin cX2_isWithin 5 (some .boolean), Cond.fieldLink RX2 9 "DogBoard$Quarter" "ways" "[I", Cond.methodLink RX0 100 yX0_sightingsMeaning, Cond.instanceMethod yX0_sightingsMeaning, Cond.selects RX0 yX0_sightingsMeaning yX0_sightingsMeaning, Cond.code yX0_sightingsMeaning cX0_sightingsMeaning 4 (some .int), Cond.static yX7_hasBit, Cond.initialized RX7, Cond.code yX7_hasBit cX7_hasBit 2 (some .boolean), Cond.methodLink RX0 145 yX0_fitsOneOf, Cond.instanceMethod yX0_fitsOneOf, Cond.selects RX0 yX0_fitsOneOf yX0_fitsOneOf, Cond.code yX0_fitsOneOf cX0_fitsOneOf 6 (some .boolean), Cond.methodLink RX0 148 Lib.Math.abs.name, Cond.static Lib.Math.abs.name, Cond.initialized "java/lang/Math"]
def wsX0_fraudsInAll_r3 : List Cond := [Cond.code Lib.Math.abs.name Lib.Math.abs.code 1 (some .int), Cond.methodLink RX0 104 yJ6_bitCount_0f7a4, Cond.static yJ6_bitCount_0f7a4, Cond.initialized RJ6, Cond.code yJ6_bitCount_0f7a4 cJ6_bitCount_0f7a4 1 (some .int), Cond.constant RJ6 265 (1431655765), Cond.constant RJ6 266 (858993459), Cond.constant RJ6 267 (252645135)]
def wsX0_fraudsInAll : List Cond := .code yX0_fraudsInAll cX0_fraudsInAll 3 (some .int) :: ((wsX0_fraudsInAll_r1 ++ (wsX0_fraudsInAll_r2 ++ wsX0_fraudsInAll_r3)) ++ wsX00 ++ wsX30 ++ wsX20)
def wsX2_closedStreets : List Cond := .code yX2_closedStreets cX2_closedStreets 1 (some .int) :: ([.fieldLink RX2 18 "DogBoard$Quarter" "closed" "I", .methodLink RX2 37 yJ6_bitCount_0f7a4, .static yJ6_bitCount_0f7a4, .initialized RJ6, .code yJ6_bitCount_0f7a4 cJ6_bitCount_0f7a4 1 (some .int), .constant RJ6 265 (1431655765), .constant RJ6 266 (858993459), .constant RJ6 267 (252645135)] ++ wsX20)
def wsX0_numberOfBoard_r1 : List Cond := [Cond.fieldLink RX0 23 "DogBoard$Board" "dogs" "LDogBoard$Rows;", Cond.fieldLink RX0 27 "DogBoard$Board" "sightings" "LDogBoard$Rows;", Cond.fieldLink RX0 49 "DogBoard$Board" "hour" "I", Cond.fieldLink RX0 53 "DogBoard$Board" "paid" "I", Cond.fieldLink RX0 56 "DogBoard$Board" "given" "I", Cond.fieldLink RX0 59 "DogBoard$Board" "stayed" "I", Cond.fieldLink RX0 12 "DogBoard$Board" "quarter" "LDogBoard$Quarter;", Cond.methodLink RX0 87 yX3_count, Cond.instanceMethod yX3_count, Cond.selects RX3 yX3_count yX3_count, Cond.initialized RX3, Cond.code yX3_count cX3_count 1 (some .int), Cond.fieldLink RX3 28 "DogBoard$Rows" "count" "I", Cond.methodLink RX0 91 yX0_missingDogs, Cond.instanceMethod yX0_missingDogs, Cond.selects RX0 yX0_missingDogs yX0_missingDogs, Cond.initialized RX0, Cond.code yX0_missingDogs cX0_missingDogs 3 (some .int), Cond.methodLink RX0 112 yX3_get, Cond.instanceMethod yX3_get, Cond.selects RX3 yX3_get yX3_get, Cond.code yX3_get cX3_get 4 (some .int), Cond.fieldLink RX3 15 "DogBoard$Rows" "width" "I", Cond.fieldLink RX3 24 "DogBoard$Rows" "cells" "[I"]
def wsX0_numberOfBoard_r2 : List Cond := [Cond.methodLink RX0 94 yX0_missingRewards, Cond.instanceMethod yX0_missingRewards, Cond.selects RX0 yX0_missingRewards yX0_missingRewards, Cond.code yX0_missingRewards cX0_missingRewards 3 (some .int), Cond.methodLink RX0 127 yX0_isMissing, Cond.instanceMethod yX0_isMissing, Cond.selects RX0 yX0_isMissing yX0_isMissing, Cond.code yX0_isMissing cX0_isMissing 2 (some .boolean), Cond.methodLink RX0 97 yX0_fraudsInAll, Cond.instanceMethod yX0_fraudsInAll, Cond.selects RX0 yX0_fraudsInAll yX0_fraudsInAll, Cond.code yX0_fraudsInAll cX0_fraudsInAll 3 (some .int), Cond.methodLink RX0 124 yX0_fraudsFor, Cond.instanceMethod yX0_fraudsFor, Cond.selects RX0 yX0_fraudsFor yX0_fraudsFor, Cond.code yX0_fraudsFor cX0_fraudsFor 7 (some .int), Cond.methodLink RX0 135 yX0_trueNowFor, Cond.instanceMethod yX0_trueNowFor, Cond.selects RX0 yX0_trueNowFor yX0_trueNowFor, Cond.code yX0_trueNowFor cX0_trueNowFor 7 (some .int), Cond.methodLink RX0 138 yX2_isWithin, Cond.instanceMethod yX2_isWithin, Cond.selects RX2 yX2_isWithin yX2_isWithin, Cond.initialized RX2]
def wsX0_numberOfBoard_r3 : List Cond := [Cond.code yX2_isWithin cX2_isWithin 5 (some .boolean), Cond.fieldLink RX2 9 "DogBoard$Quarter" "ways" "[I", Cond.methodLink RX0 100 yX0_sightingsMeaning, Cond.instanceMethod yX0_sightingsMeaning, Cond.selects RX0 yX0_sightingsMeaning yX0_sightingsMeaning, Cond.code yX0_sightingsMeaning cX0_sightingsMeaning 4 (some .int), Cond.static yX7_hasBit, Cond.initialized RX7, Cond.code yX7_hasBit cX7_hasBit 2 (some .boolean), Cond.methodLink RX0 145 yX0_fitsOneOf, Cond.instanceMethod yX0_fitsOneOf, Cond.selects RX0 yX0_fitsOneOf yX0_fitsOneOf, Cond.code yX0_fitsOneOf cX0_fitsOneOf 6 (some .boolean), Cond.methodLink RX0 148 Lib.Math.abs.name, Cond.static Lib.Math.abs.name, Cond.initialized "java/lang/Math", Cond.code Lib.Math.abs.name Lib.Math.abs.code 1 (some .int), Cond.methodLink RX0 104 yJ6_bitCount_0f7a4, Cond.static yJ6_bitCount_0f7a4, Cond.initialized RJ6, Cond.code yJ6_bitCount_0f7a4 cJ6_bitCount_0f7a4 1 (some .int), Cond.constant RJ6 265 (1431655765), Cond.constant RJ6 266 (858993459), Cond.constant RJ6 267 (252645135)]
def wsX0_numberOfBoard_r4 : List Cond := [Cond.methodLink RX0 109 yX2_closedStreets, Cond.instanceMethod yX2_closedStreets, Cond.selects RX2 yX2_closedStreets yX2_closedStreets, Cond.code yX2_closedStreets cX2_closedStreets 1 (some .int), Cond.fieldLink RX2 18 "DogBoard$Quarter" "closed" "I", Cond.methodLink RX2 37 yJ6_bitCount_0f7a4]
def wsX0_numberOfBoard : List Cond := .code yX0_numberOfBoard cX0_numberOfBoard 2 (some .int) :: ((wsX0_numberOfBoard_r1 ++ (wsX0_numberOfBoard_r2 ++ (wsX0_numberOfBoard_r3 ++ wsX0_numberOfBoard_r4))) ++ wsX00 ++ wsX30 ++ wsX20)
def wsX0_honestFor_r1 : List Cond := [Cond.methodLink RX0 100 yX0_sightingsMeaning, Cond.instanceMethod yX0_sightingsMeaning, Cond.selects RX0 yX0_sightingsMeaning yX0_sightingsMeaning, Cond.initialized RX0, Cond.code yX0_sightingsMeaning cX0_sightingsMeaning 4 (some .int), Cond.fieldLink RX0 27 "DogBoard$Board" "sightings" "LDogBoard$Rows;", Cond.methodLink RX0 87 yX3_count, Cond.instanceMethod yX3_count, Cond.selects RX3 yX3_count yX3_count, Cond.initialized RX3, Cond.code yX3_count cX3_count 1 (some .int), Cond.fieldLink RX3 28 "DogBoard$Rows" "count" "I", Cond.methodLink RX0 112 yX3_get, Cond.instanceMethod yX3_get, Cond.selects RX3 yX3_get yX3_get, Cond.code yX3_get cX3_get 4 (some .int), Cond.fieldLink RX3 15 "DogBoard$Rows" "width" "I", Cond.fieldLink RX3 24 "DogBoard$Rows" "cells" "[I", Cond.methodLink RX0 124 yX0_fraudsFor, Cond.instanceMethod yX0_fraudsFor, Cond.selects RX0 yX0_fraudsFor yX0_fraudsFor, Cond.code yX0_fraudsFor cX0_fraudsFor 7 (some .int), Cond.fieldLink RX0 23 "DogBoard$Board" "dogs" "LDogBoard$Rows;", Cond.methodLink RX0 127 yX0_isMissing]
def wsX0_honestFor_r2 : List Cond := [Cond.instanceMethod yX0_isMissing, Cond.selects RX0 yX0_isMissing yX0_isMissing, Cond.code yX0_isMissing cX0_isMissing 2 (some .boolean), Cond.methodLink RX0 135 yX0_trueNowFor, Cond.instanceMethod yX0_trueNowFor, Cond.selects RX0 yX0_trueNowFor yX0_trueNowFor, Cond.code yX0_trueNowFor cX0_trueNowFor 7 (some .int), Cond.fieldLink RX0 12 "DogBoard$Board" "quarter" "LDogBoard$Quarter;", Cond.methodLink RX0 138 yX2_isWithin, Cond.instanceMethod yX2_isWithin, Cond.selects RX2 yX2_isWithin yX2_isWithin, Cond.initialized RX2, Cond.code yX2_isWithin cX2_isWithin 5 (some .boolean), Cond.fieldLink RX2 9 "DogBoard$Quarter" "ways" "[I", Cond.static yX7_hasBit, Cond.initialized RX7, Cond.code yX7_hasBit cX7_hasBit 2 (some .boolean), Cond.methodLink RX0 145 yX0_fitsOneOf, Cond.instanceMethod yX0_fitsOneOf, Cond.selects RX0 yX0_fitsOneOf yX0_fitsOneOf, Cond.code yX0_fitsOneOf cX0_fitsOneOf 6 (some .boolean), Cond.methodLink RX0 148 Lib.Math.abs.name, Cond.static Lib.Math.abs.name, Cond.initialized "java/lang/Math"]
def wsX0_honestFor_r3 : List Cond := [Cond.code Lib.Math.abs.name Lib.Math.abs.code 1 (some .int)]
def wsX0_honestFor : List Cond := .code yX0_honestFor cX0_honestFor 2 (some .int) :: ((wsX0_honestFor_r1 ++ (wsX0_honestFor_r2 ++ wsX0_honestFor_r3)) ++ wsX00 ++ wsX30 ++ wsX20)
def wsX0_numberOfDog_r1 : List Cond := [Cond.fieldLink RX0 23 "DogBoard$Board" "dogs" "LDogBoard$Rows;", Cond.methodLink RX0 112 yX3_get, Cond.instanceMethod yX3_get, Cond.selects RX3 yX3_get yX3_get, Cond.initialized RX3, Cond.code yX3_get cX3_get 4 (some .int), Cond.fieldLink RX3 15 "DogBoard$Rows" "width" "I", Cond.fieldLink RX3 28 "DogBoard$Rows" "count" "I", Cond.fieldLink RX3 24 "DogBoard$Rows" "cells" "[I", Cond.methodLink RX0 100 yX0_sightingsMeaning, Cond.instanceMethod yX0_sightingsMeaning, Cond.selects RX0 yX0_sightingsMeaning yX0_sightingsMeaning, Cond.initialized RX0, Cond.code yX0_sightingsMeaning cX0_sightingsMeaning 4 (some .int), Cond.fieldLink RX0 27 "DogBoard$Board" "sightings" "LDogBoard$Rows;", Cond.methodLink RX0 87 yX3_count, Cond.instanceMethod yX3_count, Cond.selects RX3 yX3_count yX3_count, Cond.code yX3_count cX3_count 1 (some .int), Cond.methodLink RX0 104 yJ6_bitCount_0f7a4, Cond.static yJ6_bitCount_0f7a4, Cond.initialized RJ6, Cond.code yJ6_bitCount_0f7a4 cJ6_bitCount_0f7a4 1 (some .int), Cond.constant RJ6 265 (1431655765)]
def wsX0_numberOfDog_r2 : List Cond := [Cond.constant RJ6 266 (858993459), Cond.constant RJ6 267 (252645135), Cond.methodLink RX0 115 yX0_honestFor, Cond.instanceMethod yX0_honestFor, Cond.selects RX0 yX0_honestFor yX0_honestFor, Cond.code yX0_honestFor cX0_honestFor 2 (some .int), Cond.methodLink RX0 124 yX0_fraudsFor, Cond.instanceMethod yX0_fraudsFor, Cond.selects RX0 yX0_fraudsFor yX0_fraudsFor, Cond.code yX0_fraudsFor cX0_fraudsFor 7 (some .int), Cond.methodLink RX0 127 yX0_isMissing, Cond.instanceMethod yX0_isMissing, Cond.selects RX0 yX0_isMissing yX0_isMissing, Cond.code yX0_isMissing cX0_isMissing 2 (some .boolean), Cond.methodLink RX0 135 yX0_trueNowFor, Cond.instanceMethod yX0_trueNowFor, Cond.selects RX0 yX0_trueNowFor yX0_trueNowFor, Cond.code yX0_trueNowFor cX0_trueNowFor 7 (some .int), Cond.fieldLink RX0 12 "DogBoard$Board" "quarter" "LDogBoard$Quarter;", Cond.methodLink RX0 138 yX2_isWithin, Cond.instanceMethod yX2_isWithin, Cond.selects RX2 yX2_isWithin yX2_isWithin, Cond.initialized RX2, Cond.code yX2_isWithin cX2_isWithin 5 (some .boolean)]
def wsX0_numberOfDog_r3 : List Cond := [Cond.fieldLink RX2 9 "DogBoard$Quarter" "ways" "[I", Cond.static yX7_hasBit, Cond.initialized RX7, Cond.code yX7_hasBit cX7_hasBit 2 (some .boolean), Cond.methodLink RX0 145 yX0_fitsOneOf, Cond.instanceMethod yX0_fitsOneOf, Cond.selects RX0 yX0_fitsOneOf yX0_fitsOneOf, Cond.code yX0_fitsOneOf cX0_fitsOneOf 6 (some .boolean), Cond.methodLink RX0 148 Lib.Math.abs.name, Cond.static Lib.Math.abs.name, Cond.initialized "java/lang/Math", Cond.code Lib.Math.abs.name Lib.Math.abs.code 1 (some .int)]
def wsX0_numberOfDog : List Cond := .code yX0_numberOfDog cX0_numberOfDog 3 (some .int) :: ((wsX0_numberOfDog_r1 ++ (wsX0_numberOfDog_r2 ++ wsX0_numberOfDog_r3)) ++ wsX00 ++ wsX30 ++ wsX20)
def wsX0_unlikeMarks : List Cond := .code yX0_unlikeMarks cX0_unlikeMarks 3 (some .int) :: ([.fieldLink RX0 23 "DogBoard$Board" "dogs" "LDogBoard$Rows;", .methodLink RX0 112 yX3_get, .instanceMethod yX3_get, .selects RX3 yX3_get yX3_get, .initialized RX3, .code yX3_get cX3_get 4 (some .int), .fieldLink RX3 15 "DogBoard$Rows" "width" "I", .fieldLink RX3 28 "DogBoard$Rows" "count" "I", .fieldLink RX3 24 "DogBoard$Rows" "cells" "[I", .methodLink RX0 104 yJ6_bitCount_0f7a4, .static yJ6_bitCount_0f7a4, .initialized RJ6, .code yJ6_bitCount_0f7a4 cJ6_bitCount_0f7a4 1 (some .int), .constant RJ6 265 (1431655765), .constant RJ6 266 (858993459), .constant RJ6 267 (252645135)] ++ wsX00 ++ wsX30)
def wsX0_trueFor_r1 : List Cond := [Cond.fieldLink RX0 23 "DogBoard$Board" "dogs" "LDogBoard$Rows;", Cond.methodLink RX0 127 yX0_isMissing, Cond.instanceMethod yX0_isMissing, Cond.selects RX0 yX0_isMissing yX0_isMissing, Cond.initialized RX0, Cond.code yX0_isMissing cX0_isMissing 2 (some .boolean), Cond.methodLink RX0 112 yX3_get, Cond.instanceMethod yX3_get, Cond.selects RX3 yX3_get yX3_get, Cond.initialized RX3, Cond.code yX3_get cX3_get 4 (some .int), Cond.fieldLink RX3 15 "DogBoard$Rows" "width" "I", Cond.fieldLink RX3 28 "DogBoard$Rows" "count" "I", Cond.fieldLink RX3 24 "DogBoard$Rows" "cells" "[I", Cond.methodLink RX0 135 yX0_trueNowFor, Cond.instanceMethod yX0_trueNowFor, Cond.selects RX0 yX0_trueNowFor yX0_trueNowFor, Cond.code yX0_trueNowFor cX0_trueNowFor 7 (some .int), Cond.fieldLink RX0 27 "DogBoard$Board" "sightings" "LDogBoard$Rows;", Cond.fieldLink RX0 12 "DogBoard$Board" "quarter" "LDogBoard$Quarter;", Cond.methodLink RX0 87 yX3_count, Cond.instanceMethod yX3_count, Cond.selects RX3 yX3_count yX3_count, Cond.code yX3_count cX3_count 1 (some .int)]
def wsX0_trueFor_r2 : List Cond := [Cond.methodLink RX0 138 yX2_isWithin, Cond.instanceMethod yX2_isWithin, Cond.selects RX2 yX2_isWithin yX2_isWithin, Cond.initialized RX2, Cond.code yX2_isWithin cX2_isWithin 5 (some .boolean), Cond.fieldLink RX2 9 "DogBoard$Quarter" "ways" "[I"]
def wsX0_trueFor : List Cond := .code yX0_trueFor cX0_trueFor 2 (some .int) :: ((wsX0_trueFor_r1 ++ wsX0_trueFor_r2) ++ wsX00 ++ wsX30 ++ wsX20)
def wsX0_numberOfSighting_r1 : List Cond := [Cond.fieldLink RX0 27 "DogBoard$Board" "sightings" "LDogBoard$Rows;", Cond.methodLink RX0 112 yX3_get, Cond.instanceMethod yX3_get, Cond.selects RX3 yX3_get yX3_get, Cond.initialized RX3, Cond.code yX3_get cX3_get 4 (some .int), Cond.fieldLink RX3 15 "DogBoard$Rows" "width" "I", Cond.fieldLink RX3 28 "DogBoard$Rows" "count" "I", Cond.fieldLink RX3 24 "DogBoard$Rows" "cells" "[I", Cond.methodLink RX0 118 yX0_unlikeMarks, Cond.instanceMethod yX0_unlikeMarks, Cond.selects RX0 yX0_unlikeMarks yX0_unlikeMarks, Cond.initialized RX0, Cond.code yX0_unlikeMarks cX0_unlikeMarks 3 (some .int), Cond.fieldLink RX0 23 "DogBoard$Board" "dogs" "LDogBoard$Rows;", Cond.methodLink RX0 104 yJ6_bitCount_0f7a4, Cond.static yJ6_bitCount_0f7a4, Cond.initialized RJ6, Cond.code yJ6_bitCount_0f7a4 cJ6_bitCount_0f7a4 1 (some .int), Cond.constant RJ6 265 (1431655765), Cond.constant RJ6 266 (858993459), Cond.constant RJ6 267 (252645135), Cond.methodLink RX0 121 yX0_trueFor, Cond.instanceMethod yX0_trueFor]
def wsX0_numberOfSighting_r2 : List Cond := [Cond.selects RX0 yX0_trueFor yX0_trueFor, Cond.code yX0_trueFor cX0_trueFor 2 (some .int), Cond.methodLink RX0 127 yX0_isMissing, Cond.instanceMethod yX0_isMissing, Cond.selects RX0 yX0_isMissing yX0_isMissing, Cond.code yX0_isMissing cX0_isMissing 2 (some .boolean), Cond.methodLink RX0 135 yX0_trueNowFor, Cond.instanceMethod yX0_trueNowFor, Cond.selects RX0 yX0_trueNowFor yX0_trueNowFor, Cond.code yX0_trueNowFor cX0_trueNowFor 7 (some .int), Cond.fieldLink RX0 12 "DogBoard$Board" "quarter" "LDogBoard$Quarter;", Cond.methodLink RX0 87 yX3_count, Cond.instanceMethod yX3_count, Cond.selects RX3 yX3_count yX3_count, Cond.code yX3_count cX3_count 1 (some .int), Cond.methodLink RX0 138 yX2_isWithin, Cond.instanceMethod yX2_isWithin, Cond.selects RX2 yX2_isWithin yX2_isWithin, Cond.initialized RX2, Cond.code yX2_isWithin cX2_isWithin 5 (some .boolean), Cond.fieldLink RX2 9 "DogBoard$Quarter" "ways" "[I", Cond.methodLink RX0 124 yX0_fraudsFor, Cond.instanceMethod yX0_fraudsFor, Cond.selects RX0 yX0_fraudsFor yX0_fraudsFor]
def wsX0_numberOfSighting_r3 : List Cond := [Cond.code yX0_fraudsFor cX0_fraudsFor 7 (some .int), Cond.methodLink RX0 100 yX0_sightingsMeaning, Cond.instanceMethod yX0_sightingsMeaning, Cond.selects RX0 yX0_sightingsMeaning yX0_sightingsMeaning, Cond.code yX0_sightingsMeaning cX0_sightingsMeaning 4 (some .int), Cond.static yX7_hasBit, Cond.initialized RX7, Cond.code yX7_hasBit cX7_hasBit 2 (some .boolean), Cond.methodLink RX0 145 yX0_fitsOneOf, Cond.instanceMethod yX0_fitsOneOf, Cond.selects RX0 yX0_fitsOneOf yX0_fitsOneOf, Cond.code yX0_fitsOneOf cX0_fitsOneOf 6 (some .boolean), Cond.methodLink RX0 148 Lib.Math.abs.name, Cond.static Lib.Math.abs.name, Cond.initialized "java/lang/Math", Cond.code Lib.Math.abs.name Lib.Math.abs.code 1 (some .int)]
def wsX0_numberOfSighting : List Cond := .code yX0_numberOfSighting cX0_numberOfSighting 4 (some .int) :: ((wsX0_numberOfSighting_r1 ++ (wsX0_numberOfSighting_r2 ++ wsX0_numberOfSighting_r3)) ++ wsX00 ++ wsX30 ++ wsX20)
def wsX0_coinsOf : List Cond := .code yX0_coinsOf cX0_coinsOf 2 (some .int) :: ([.fieldLink RX0 30 "DogBoard$Board" "purses" "[I"] ++ wsX00)
def wsX0_isMeantBefore : List Cond := .code yX0_isMeantBefore cX0_isMeantBefore 6 (some .boolean) :: ([.fieldLink RX0 23 "DogBoard$Board" "dogs" "LDogBoard$Rows;", .methodLink RX0 118 yX0_unlikeMarks, .instanceMethod yX0_unlikeMarks, .selects RX0 yX0_unlikeMarks yX0_unlikeMarks, .initialized RX0, .code yX0_unlikeMarks cX0_unlikeMarks 3 (some .int), .methodLink RX0 112 yX3_get, .instanceMethod yX3_get, .selects RX3 yX3_get yX3_get, .initialized RX3, .code yX3_get cX3_get 4 (some .int), .fieldLink RX3 15 "DogBoard$Rows" "width" "I", .fieldLink RX3 28 "DogBoard$Rows" "count" "I", .fieldLink RX3 24 "DogBoard$Rows" "cells" "[I", .methodLink RX0 104 yJ6_bitCount_0f7a4, .static yJ6_bitCount_0f7a4, .initialized RJ6, .code yJ6_bitCount_0f7a4 cJ6_bitCount_0f7a4 1 (some .int), .constant RJ6 265 (1431655765), .constant RJ6 266 (858993459), .constant RJ6 267 (252645135)] ++ wsX00 ++ wsX30)
def wsX0_dogMeantBy_r1 : List Cond := [Cond.fieldLink RX0 23 "DogBoard$Board" "dogs" "LDogBoard$Rows;", Cond.fieldLink RX0 65 "DogBoard$Board" "mostUnlike" "I", Cond.methodLink RX0 87 yX3_count, Cond.instanceMethod yX3_count, Cond.selects RX3 yX3_count yX3_count, Cond.initialized RX3, Cond.code yX3_count cX3_count 1 (some .int), Cond.fieldLink RX3 28 "DogBoard$Rows" "count" "I", Cond.methodLink RX0 127 yX0_isMissing, Cond.instanceMethod yX0_isMissing, Cond.selects RX0 yX0_isMissing yX0_isMissing, Cond.initialized RX0, Cond.code yX0_isMissing cX0_isMissing 2 (some .boolean), Cond.methodLink RX0 112 yX3_get, Cond.instanceMethod yX3_get, Cond.selects RX3 yX3_get yX3_get, Cond.code yX3_get cX3_get 4 (some .int), Cond.fieldLink RX3 15 "DogBoard$Rows" "width" "I", Cond.fieldLink RX3 24 "DogBoard$Rows" "cells" "[I", Cond.methodLink RX0 118 yX0_unlikeMarks, Cond.instanceMethod yX0_unlikeMarks, Cond.selects RX0 yX0_unlikeMarks yX0_unlikeMarks, Cond.code yX0_unlikeMarks cX0_unlikeMarks 3 (some .int), Cond.methodLink RX0 104 yJ6_bitCount_0f7a4]
def wsX0_dogMeantBy_r2 : List Cond := [Cond.static yJ6_bitCount_0f7a4, Cond.initialized RJ6, Cond.code yJ6_bitCount_0f7a4 cJ6_bitCount_0f7a4 1 (some .int), Cond.constant RJ6 265 (1431655765), Cond.constant RJ6 266 (858993459), Cond.constant RJ6 267 (252645135), Cond.methodLink RX0 131 yX0_isMeantBefore, Cond.instanceMethod yX0_isMeantBefore, Cond.selects RX0 yX0_isMeantBefore yX0_isMeantBefore, Cond.code yX0_isMeantBefore cX0_isMeantBefore 6 (some .boolean)]
def wsX0_dogMeantBy : List Cond := .code yX0_dogMeantBy cX0_dogMeantBy 6 (some .int) :: ((wsX0_dogMeantBy_r1 ++ wsX0_dogMeantBy_r2) ++ wsX00 ++ wsX30)
def wsX3_has : List Cond := .code yX3_has cX3_has 2 (some .boolean) :: ([.fieldLink RX3 28 "DogBoard$Rows" "count" "I"] ++ wsX30)
def wsX0_faultOfAsking : List Cond := .code yX0_faultOfAsking cX0_faultOfAsking 2 (some .int) :: ([.fieldLink RX0 23 "DogBoard$Board" "dogs" "LDogBoard$Rows;", .methodLink RX0 151 yX3_has, .instanceMethod yX3_has, .selects RX3 yX3_has yX3_has, .initialized RX3, .code yX3_has cX3_has 2 (some .boolean), .fieldLink RX3 28 "DogBoard$Rows" "count" "I", .methodLink RX0 127 yX0_isMissing, .instanceMethod yX0_isMissing, .selects RX0 yX0_isMissing yX0_isMissing, .initialized RX0, .code yX0_isMissing cX0_isMissing 2 (some .boolean), .methodLink RX0 112 yX3_get, .instanceMethod yX3_get, .selects RX3 yX3_get yX3_get, .code yX3_get cX3_get 4 (some .int), .fieldLink RX3 15 "DogBoard$Rows" "width" "I", .fieldLink RX3 24 "DogBoard$Rows" "cells" "[I"] ++ wsX00 ++ wsX30)
def wsX0_canReach_r1 : List Cond := [Cond.fieldLink RX0 23 "DogBoard$Board" "dogs" "LDogBoard$Rows;", Cond.fieldLink RX0 49 "DogBoard$Board" "hour" "I", Cond.fieldLink RX0 12 "DogBoard$Board" "quarter" "LDogBoard$Quarter;", Cond.fieldLink RX0 27 "DogBoard$Board" "sightings" "LDogBoard$Rows;", Cond.methodLink RX0 112 yX3_get, Cond.instanceMethod yX3_get, Cond.selects RX3 yX3_get yX3_get, Cond.initialized RX3, Cond.code yX3_get cX3_get 4 (some .int), Cond.fieldLink RX3 15 "DogBoard$Rows" "width" "I", Cond.fieldLink RX3 28 "DogBoard$Rows" "count" "I", Cond.fieldLink RX3 24 "DogBoard$Rows" "cells" "[I", Cond.methodLink RX0 138 yX2_isWithin, Cond.instanceMethod yX2_isWithin, Cond.selects RX2 yX2_isWithin yX2_isWithin, Cond.initialized RX2, Cond.code yX2_isWithin cX2_isWithin 5 (some .boolean), Cond.fieldLink RX2 9 "DogBoard$Quarter" "ways" "[I", Cond.methodLink RX0 87 yX3_count, Cond.instanceMethod yX3_count, Cond.selects RX3 yX3_count yX3_count, Cond.code yX3_count cX3_count 1 (some .int), Cond.static yX7_hasBit, Cond.initialized RX7]
def wsX0_canReach_r2 : List Cond := [Cond.code yX7_hasBit cX7_hasBit 2 (some .boolean)]
def wsX0_canReach : List Cond := .code yX0_canReach cX0_canReach 8 (some .boolean) :: ((wsX0_canReach_r1 ++ wsX0_canReach_r2) ++ wsX00 ++ wsX30 ++ wsX20)
def wsX0_placesOf_r1 : List Cond := [Cond.methodLink RX0 115 yX0_honestFor, Cond.instanceMethod yX0_honestFor, Cond.selects RX0 yX0_honestFor yX0_honestFor, Cond.initialized RX0, Cond.code yX0_honestFor cX0_honestFor 2 (some .int), Cond.methodLink RX0 100 yX0_sightingsMeaning, Cond.instanceMethod yX0_sightingsMeaning, Cond.selects RX0 yX0_sightingsMeaning yX0_sightingsMeaning, Cond.code yX0_sightingsMeaning cX0_sightingsMeaning 4 (some .int), Cond.fieldLink RX0 27 "DogBoard$Board" "sightings" "LDogBoard$Rows;", Cond.methodLink RX0 87 yX3_count, Cond.instanceMethod yX3_count, Cond.selects RX3 yX3_count yX3_count, Cond.initialized RX3, Cond.code yX3_count cX3_count 1 (some .int), Cond.fieldLink RX3 28 "DogBoard$Rows" "count" "I", Cond.methodLink RX0 112 yX3_get, Cond.instanceMethod yX3_get, Cond.selects RX3 yX3_get yX3_get, Cond.code yX3_get cX3_get 4 (some .int), Cond.fieldLink RX3 15 "DogBoard$Rows" "width" "I", Cond.fieldLink RX3 24 "DogBoard$Rows" "cells" "[I", Cond.methodLink RX0 124 yX0_fraudsFor, Cond.instanceMethod yX0_fraudsFor]
def wsX0_placesOf_r2 : List Cond := [Cond.selects RX0 yX0_fraudsFor yX0_fraudsFor, Cond.code yX0_fraudsFor cX0_fraudsFor 7 (some .int), Cond.fieldLink RX0 23 "DogBoard$Board" "dogs" "LDogBoard$Rows;", Cond.methodLink RX0 127 yX0_isMissing, Cond.instanceMethod yX0_isMissing, Cond.selects RX0 yX0_isMissing yX0_isMissing, Cond.code yX0_isMissing cX0_isMissing 2 (some .boolean), Cond.methodLink RX0 135 yX0_trueNowFor, Cond.instanceMethod yX0_trueNowFor, Cond.selects RX0 yX0_trueNowFor yX0_trueNowFor, Cond.code yX0_trueNowFor cX0_trueNowFor 7 (some .int), Cond.fieldLink RX0 12 "DogBoard$Board" "quarter" "LDogBoard$Quarter;", Cond.methodLink RX0 138 yX2_isWithin, Cond.instanceMethod yX2_isWithin, Cond.selects RX2 yX2_isWithin yX2_isWithin, Cond.initialized RX2, Cond.code yX2_isWithin cX2_isWithin 5 (some .boolean), Cond.fieldLink RX2 9 "DogBoard$Quarter" "ways" "[I", Cond.static yX7_hasBit, Cond.initialized RX7, Cond.code yX7_hasBit cX7_hasBit 2 (some .boolean), Cond.methodLink RX0 145 yX0_fitsOneOf, Cond.instanceMethod yX0_fitsOneOf, Cond.selects RX0 yX0_fitsOneOf yX0_fitsOneOf]
def wsX0_placesOf_r3 : List Cond := [Cond.code yX0_fitsOneOf cX0_fitsOneOf 6 (some .boolean), Cond.methodLink RX0 148 Lib.Math.abs.name, Cond.static Lib.Math.abs.name, Cond.initialized "java/lang/Math", Cond.code Lib.Math.abs.name Lib.Math.abs.code 1 (some .int), Cond.methodLink RX0 154 yX0_canReach, Cond.instanceMethod yX0_canReach, Cond.selects RX0 yX0_canReach yX0_canReach, Cond.code yX0_canReach cX0_canReach 8 (some .boolean), Cond.fieldLink RX0 49 "DogBoard$Board" "hour" "I"]
def wsX0_placesOf : List Cond := .code yX0_placesOf cX0_placesOf 5 (some .int) :: ((wsX0_placesOf_r1 ++ (wsX0_placesOf_r2 ++ wsX0_placesOf_r3)) ++ wsX00 ++ wsX30 ++ wsX20)
def wsX0_dogsAt : List Cond := .code yX0_dogsAt cX0_dogsAt 4 (some .int) :: ([.fieldLink RX0 34 "DogBoard$Board" "places" "[I"] ++ wsX00)
def wsX0_rewardsAt : List Cond := .code yX0_rewardsAt cX0_rewardsAt 4 (some .int) :: ([.fieldLink RX0 34 "DogBoard$Board" "places" "[I", .fieldLink RX0 23 "DogBoard$Board" "dogs" "LDogBoard$Rows;", .static yX7_hasBit, .initialized RX7, .code yX7_hasBit cX7_hasBit 2 (some .boolean), .methodLink RX0 112 yX3_get, .instanceMethod yX3_get, .selects RX3 yX3_get yX3_get, .initialized RX3, .code yX3_get cX3_get 4 (some .int), .fieldLink RX3 15 "DogBoard$Rows" "width" "I", .fieldLink RX3 28 "DogBoard$Rows" "count" "I", .fieldLink RX3 24 "DogBoard$Rows" "cells" "[I"] ++ wsX00 ++ wsX30)
def wsX0_cornerToWatch_r1 : List Cond := [Cond.fieldLink RX0 34 "DogBoard$Board" "places" "[I", Cond.methodLink RX0 91 yX0_missingDogs, Cond.instanceMethod yX0_missingDogs, Cond.selects RX0 yX0_missingDogs yX0_missingDogs, Cond.initialized RX0, Cond.code yX0_missingDogs cX0_missingDogs 3 (some .int), Cond.fieldLink RX0 23 "DogBoard$Board" "dogs" "LDogBoard$Rows;", Cond.methodLink RX0 87 yX3_count, Cond.instanceMethod yX3_count, Cond.selects RX3 yX3_count yX3_count, Cond.initialized RX3, Cond.code yX3_count cX3_count 1 (some .int), Cond.fieldLink RX3 28 "DogBoard$Rows" "count" "I", Cond.methodLink RX0 112 yX3_get, Cond.instanceMethod yX3_get, Cond.selects RX3 yX3_get yX3_get, Cond.code yX3_get cX3_get 4 (some .int), Cond.fieldLink RX3 15 "DogBoard$Rows" "width" "I", Cond.fieldLink RX3 24 "DogBoard$Rows" "cells" "[I", Cond.methodLink RX0 127 yX0_isMissing, Cond.instanceMethod yX0_isMissing, Cond.selects RX0 yX0_isMissing yX0_isMissing, Cond.code yX0_isMissing cX0_isMissing 2 (some .boolean), Cond.methodLink RX0 157 yX0_placesOf]
def wsX0_cornerToWatch_r2 : List Cond := [Cond.instanceMethod yX0_placesOf, Cond.selects RX0 yX0_placesOf yX0_placesOf, Cond.code yX0_placesOf cX0_placesOf 5 (some .int), Cond.methodLink RX0 115 yX0_honestFor, Cond.instanceMethod yX0_honestFor, Cond.selects RX0 yX0_honestFor yX0_honestFor, Cond.code yX0_honestFor cX0_honestFor 2 (some .int), Cond.methodLink RX0 100 yX0_sightingsMeaning, Cond.instanceMethod yX0_sightingsMeaning, Cond.selects RX0 yX0_sightingsMeaning yX0_sightingsMeaning, Cond.code yX0_sightingsMeaning cX0_sightingsMeaning 4 (some .int), Cond.fieldLink RX0 27 "DogBoard$Board" "sightings" "LDogBoard$Rows;", Cond.methodLink RX0 124 yX0_fraudsFor, Cond.instanceMethod yX0_fraudsFor, Cond.selects RX0 yX0_fraudsFor yX0_fraudsFor, Cond.code yX0_fraudsFor cX0_fraudsFor 7 (some .int), Cond.methodLink RX0 135 yX0_trueNowFor, Cond.instanceMethod yX0_trueNowFor, Cond.selects RX0 yX0_trueNowFor yX0_trueNowFor, Cond.code yX0_trueNowFor cX0_trueNowFor 7 (some .int), Cond.fieldLink RX0 12 "DogBoard$Board" "quarter" "LDogBoard$Quarter;", Cond.methodLink RX0 138 yX2_isWithin, Cond.instanceMethod yX2_isWithin, Cond.selects RX2 yX2_isWithin yX2_isWithin]
def wsX0_cornerToWatch_r3 : List Cond := [Cond.initialized RX2, Cond.code yX2_isWithin cX2_isWithin 5 (some .boolean), Cond.fieldLink RX2 9 "DogBoard$Quarter" "ways" "[I", Cond.static yX7_hasBit, Cond.initialized RX7, Cond.code yX7_hasBit cX7_hasBit 2 (some .boolean), Cond.methodLink RX0 145 yX0_fitsOneOf, Cond.instanceMethod yX0_fitsOneOf, Cond.selects RX0 yX0_fitsOneOf yX0_fitsOneOf, Cond.code yX0_fitsOneOf cX0_fitsOneOf 6 (some .boolean), Cond.methodLink RX0 148 Lib.Math.abs.name, Cond.static Lib.Math.abs.name, Cond.initialized "java/lang/Math", Cond.code Lib.Math.abs.name Lib.Math.abs.code 1 (some .int), Cond.methodLink RX0 154 yX0_canReach, Cond.instanceMethod yX0_canReach, Cond.selects RX0 yX0_canReach yX0_canReach, Cond.code yX0_canReach cX0_canReach 8 (some .boolean), Cond.fieldLink RX0 49 "DogBoard$Board" "hour" "I", Cond.methodLink RX0 160 yX0_dogsAt, Cond.instanceMethod yX0_dogsAt, Cond.selects RX0 yX0_dogsAt yX0_dogsAt, Cond.code yX0_dogsAt cX0_dogsAt 4 (some .int), Cond.methodLink RX0 163 yX0_rewardsAt]
def wsX0_cornerToWatch_r4 : List Cond := [Cond.instanceMethod yX0_rewardsAt, Cond.selects RX0 yX0_rewardsAt yX0_rewardsAt, Cond.code yX0_rewardsAt cX0_rewardsAt 4 (some .int)]
def wsX0_cornerToWatch : List Cond := .code yX0_cornerToWatch cX0_cornerToWatch 4 (some .int) :: ((wsX0_cornerToWatch_r1 ++ (wsX0_cornerToWatch_r2 ++ (wsX0_cornerToWatch_r3 ++ wsX0_cornerToWatch_r4))) ++ wsX00 ++ wsX30 ++ wsX20)
def wsX7_isIn : List Cond := .code yX7_isIn cX7_isIn 3 (some .boolean) :: ([])
def wsX7_isCorner : List Cond := .code yX7_isCorner cX7_isCorner 1 (some .boolean) :: ([.methodLink RX7 44 yX7_isIn, .static yX7_isIn, .initialized RX7, .code yX7_isIn cX7_isIn 3 (some .boolean)])
def wsX3_isFull : List Cond := .code yX3_isFull cX3_isFull 1 (some .boolean) :: ([.fieldLink RX3 28 "DogBoard$Rows" "count" "I", .fieldLink RX3 9 "DogBoard$Rows" "most" "I"] ++ wsX30)
def wsX0_faultOfLosing : List Cond := .code yX0_faultOfLosing cX0_faultOfLosing 5 (some .int) :: ([.fieldLink RX0 23 "DogBoard$Board" "dogs" "LDogBoard$Rows;", .static yX7_isCorner, .initialized RX7, .code yX7_isCorner cX7_isCorner 1 (some .boolean), .methodLink RX7 44 yX7_isIn, .static yX7_isIn, .code yX7_isIn cX7_isIn 3 (some .boolean), .methodLink RX0 172 yX3_isFull, .instanceMethod yX3_isFull, .selects RX3 yX3_isFull yX3_isFull, .initialized RX3, .code yX3_isFull cX3_isFull 1 (some .boolean), .fieldLink RX3 28 "DogBoard$Rows" "count" "I", .fieldLink RX3 9 "DogBoard$Rows" "most" "I"] ++ wsX00 ++ wsX30)
def wsX3_put : List Cond := .code yX3_put cX3_put 5 none :: ([.fieldLink RX3 15 "DogBoard$Rows" "width" "I", .fieldLink RX3 28 "DogBoard$Rows" "count" "I", .fieldLink RX3 24 "DogBoard$Rows" "cells" "[I"] ++ wsX30)
def wsX3_addRow : List Cond := .code yX3_addRow cX3_addRow 3 (some .int) :: ([.fieldLink RX3 28 "DogBoard$Rows" "count" "I", .fieldLink RX3 15 "DogBoard$Rows" "width" "I", .methodLink RX3 31 yX3_isFull, .instanceMethod yX3_isFull, .selects RX3 yX3_isFull yX3_isFull, .initialized RX3, .code yX3_isFull cX3_isFull 1 (some .boolean), .fieldLink RX3 9 "DogBoard$Rows" "most" "I", .methodLink RX3 35 yX3_put, .instanceMethod yX3_put, .selects RX3 yX3_put yX3_put, .code yX3_put cX3_put 5 none, .fieldLink RX3 24 "DogBoard$Rows" "cells" "[I"] ++ wsX30)
def wsX0_loseDog_r1 : List Cond := [Cond.fieldLink RX0 23 "DogBoard$Board" "dogs" "LDogBoard$Rows;", Cond.fieldLink RX0 49 "DogBoard$Board" "hour" "I", Cond.fieldLink RX0 53 "DogBoard$Board" "paid" "I", Cond.methodLink RX0 176 yX0_faultOfLosing, Cond.instanceMethod yX0_faultOfLosing, Cond.selects RX0 yX0_faultOfLosing yX0_faultOfLosing, Cond.initialized RX0, Cond.code yX0_faultOfLosing cX0_faultOfLosing 5 (some .int), Cond.static yX7_isCorner, Cond.initialized RX7, Cond.code yX7_isCorner cX7_isCorner 1 (some .boolean), Cond.methodLink RX7 44 yX7_isIn, Cond.static yX7_isIn, Cond.code yX7_isIn cX7_isIn 3 (some .boolean), Cond.methodLink RX0 172 yX3_isFull, Cond.instanceMethod yX3_isFull, Cond.selects RX3 yX3_isFull yX3_isFull, Cond.initialized RX3, Cond.code yX3_isFull cX3_isFull 1 (some .boolean), Cond.fieldLink RX3 28 "DogBoard$Rows" "count" "I", Cond.fieldLink RX3 9 "DogBoard$Rows" "most" "I", Cond.methodLink RX0 180 yX3_addRow, Cond.instanceMethod yX3_addRow, Cond.selects RX3 yX3_addRow yX3_addRow]
def wsX0_loseDog_r2 : List Cond := [Cond.code yX3_addRow cX3_addRow 3 (some .int), Cond.fieldLink RX3 15 "DogBoard$Rows" "width" "I", Cond.methodLink RX3 31 yX3_isFull, Cond.methodLink RX3 35 yX3_put, Cond.instanceMethod yX3_put, Cond.selects RX3 yX3_put yX3_put, Cond.code yX3_put cX3_put 5 none, Cond.fieldLink RX3 24 "DogBoard$Rows" "cells" "[I", Cond.methodLink RX0 183 yX3_put]
def wsX0_loseDog : List Cond := .code yX0_loseDog cX0_loseDog 6 (some .int) :: ((wsX0_loseDog_r1 ++ wsX0_loseDog_r2) ++ wsX00 ++ wsX30)
def wsX7_isFinder : List Cond := .code yX7_isFinder cX7_isFinder 1 (some .boolean) :: ([.methodLink RX7 44 yX7_isIn, .static yX7_isIn, .initialized RX7, .code yX7_isIn cX7_isIn 3 (some .boolean)])
def wsX0_faultOfTelling : List Cond := .code yX0_faultOfTelling cX0_faultOfTelling 5 (some .int) :: ([.fieldLink RX0 49 "DogBoard$Board" "hour" "I", .fieldLink RX0 27 "DogBoard$Board" "sightings" "LDogBoard$Rows;", .static yX7_isFinder, .initialized RX7, .code yX7_isFinder cX7_isFinder 1 (some .boolean), .methodLink RX7 44 yX7_isIn, .static yX7_isIn, .code yX7_isIn cX7_isIn 3 (some .boolean), .static yX7_isCorner, .code yX7_isCorner cX7_isCorner 1 (some .boolean), .methodLink RX0 172 yX3_isFull, .instanceMethod yX3_isFull, .selects RX3 yX3_isFull yX3_isFull, .initialized RX3, .code yX3_isFull cX3_isFull 1 (some .boolean), .fieldLink RX3 28 "DogBoard$Rows" "count" "I", .fieldLink RX3 9 "DogBoard$Rows" "most" "I"] ++ wsX00 ++ wsX30)
def wsX0_tellSighting_r1 : List Cond := [Cond.fieldLink RX0 49 "DogBoard$Board" "hour" "I", Cond.fieldLink RX0 27 "DogBoard$Board" "sightings" "LDogBoard$Rows;", Cond.methodLink RX0 190 yX0_faultOfTelling, Cond.instanceMethod yX0_faultOfTelling, Cond.selects RX0 yX0_faultOfTelling yX0_faultOfTelling, Cond.initialized RX0, Cond.code yX0_faultOfTelling cX0_faultOfTelling 5 (some .int), Cond.static yX7_isFinder, Cond.initialized RX7, Cond.code yX7_isFinder cX7_isFinder 1 (some .boolean), Cond.methodLink RX7 44 yX7_isIn, Cond.static yX7_isIn, Cond.code yX7_isIn cX7_isIn 3 (some .boolean), Cond.static yX7_isCorner, Cond.code yX7_isCorner cX7_isCorner 1 (some .boolean), Cond.methodLink RX0 172 yX3_isFull, Cond.instanceMethod yX3_isFull, Cond.selects RX3 yX3_isFull yX3_isFull, Cond.initialized RX3, Cond.code yX3_isFull cX3_isFull 1 (some .boolean), Cond.fieldLink RX3 28 "DogBoard$Rows" "count" "I", Cond.fieldLink RX3 9 "DogBoard$Rows" "most" "I", Cond.methodLink RX0 193 yX0_dogMeantBy, Cond.instanceMethod yX0_dogMeantBy]
def wsX0_tellSighting_r2 : List Cond := [Cond.selects RX0 yX0_dogMeantBy yX0_dogMeantBy, Cond.code yX0_dogMeantBy cX0_dogMeantBy 6 (some .int), Cond.fieldLink RX0 23 "DogBoard$Board" "dogs" "LDogBoard$Rows;", Cond.fieldLink RX0 65 "DogBoard$Board" "mostUnlike" "I", Cond.methodLink RX0 87 yX3_count, Cond.instanceMethod yX3_count, Cond.selects RX3 yX3_count yX3_count, Cond.code yX3_count cX3_count 1 (some .int), Cond.methodLink RX0 127 yX0_isMissing, Cond.instanceMethod yX0_isMissing, Cond.selects RX0 yX0_isMissing yX0_isMissing, Cond.code yX0_isMissing cX0_isMissing 2 (some .boolean), Cond.methodLink RX0 112 yX3_get, Cond.instanceMethod yX3_get, Cond.selects RX3 yX3_get yX3_get, Cond.code yX3_get cX3_get 4 (some .int), Cond.fieldLink RX3 15 "DogBoard$Rows" "width" "I", Cond.fieldLink RX3 24 "DogBoard$Rows" "cells" "[I", Cond.methodLink RX0 118 yX0_unlikeMarks, Cond.instanceMethod yX0_unlikeMarks, Cond.selects RX0 yX0_unlikeMarks yX0_unlikeMarks, Cond.code yX0_unlikeMarks cX0_unlikeMarks 3 (some .int), Cond.methodLink RX0 104 yJ6_bitCount_0f7a4, Cond.static yJ6_bitCount_0f7a4]
def wsX0_tellSighting_r3 : List Cond := [Cond.initialized RJ6, Cond.code yJ6_bitCount_0f7a4 cJ6_bitCount_0f7a4 1 (some .int), Cond.constant RJ6 265 (1431655765), Cond.constant RJ6 266 (858993459), Cond.constant RJ6 267 (252645135), Cond.methodLink RX0 131 yX0_isMeantBefore, Cond.instanceMethod yX0_isMeantBefore, Cond.selects RX0 yX0_isMeantBefore yX0_isMeantBefore, Cond.code yX0_isMeantBefore cX0_isMeantBefore 6 (some .boolean), Cond.methodLink RX0 180 yX3_addRow, Cond.instanceMethod yX3_addRow, Cond.selects RX3 yX3_addRow yX3_addRow, Cond.code yX3_addRow cX3_addRow 3 (some .int), Cond.methodLink RX3 31 yX3_isFull, Cond.methodLink RX3 35 yX3_put, Cond.instanceMethod yX3_put, Cond.selects RX3 yX3_put yX3_put, Cond.code yX3_put cX3_put 5 none, Cond.methodLink RX0 183 yX3_put]
def wsX0_tellSighting : List Cond := .code yX0_tellSighting cX0_tellSighting 8 (some .int) :: ((wsX0_tellSighting_r1 ++ (wsX0_tellSighting_r2 ++ wsX0_tellSighting_r3)) ++ wsX00 ++ wsX30)
def wsX0_faultOfFinding_r1 : List Cond := [Cond.static yX7_isFinder, Cond.initialized RX7, Cond.code yX7_isFinder cX7_isFinder 1 (some .boolean), Cond.methodLink RX7 44 yX7_isIn, Cond.static yX7_isIn, Cond.code yX7_isIn cX7_isIn 3 (some .boolean), Cond.static yX7_isCorner, Cond.code yX7_isCorner cX7_isCorner 1 (some .boolean), Cond.methodLink RX0 196 yX0_faultOfAsking, Cond.instanceMethod yX0_faultOfAsking, Cond.selects RX0 yX0_faultOfAsking yX0_faultOfAsking, Cond.initialized RX0, Cond.code yX0_faultOfAsking cX0_faultOfAsking 2 (some .int), Cond.fieldLink RX0 23 "DogBoard$Board" "dogs" "LDogBoard$Rows;", Cond.methodLink RX0 151 yX3_has, Cond.instanceMethod yX3_has, Cond.selects RX3 yX3_has yX3_has, Cond.initialized RX3, Cond.code yX3_has cX3_has 2 (some .boolean), Cond.fieldLink RX3 28 "DogBoard$Rows" "count" "I", Cond.methodLink RX0 127 yX0_isMissing, Cond.instanceMethod yX0_isMissing, Cond.selects RX0 yX0_isMissing yX0_isMissing, Cond.code yX0_isMissing cX0_isMissing 2 (some .boolean)]
def wsX0_faultOfFinding_r2 : List Cond := [Cond.methodLink RX0 112 yX3_get, Cond.instanceMethod yX3_get, Cond.selects RX3 yX3_get yX3_get, Cond.code yX3_get cX3_get 4 (some .int), Cond.fieldLink RX3 15 "DogBoard$Rows" "width" "I", Cond.fieldLink RX3 24 "DogBoard$Rows" "cells" "[I"]
def wsX0_faultOfFinding : List Cond := .code yX0_faultOfFinding cX0_faultOfFinding 4 (some .int) :: ((wsX0_faultOfFinding_r1 ++ wsX0_faultOfFinding_r2) ++ wsX00 ++ wsX30)
def wsX0_helpOf : List Cond := .code yX0_helpOf cX0_helpOf 4 (some .int) :: ([.fieldLink RX0 12 "DogBoard$Board" "quarter" "LDogBoard$Quarter;", .fieldLink RX0 27 "DogBoard$Board" "sightings" "LDogBoard$Rows;", .methodLink RX0 112 yX3_get, .instanceMethod yX3_get, .selects RX3 yX3_get yX3_get, .initialized RX3, .code yX3_get cX3_get 4 (some .int), .fieldLink RX3 15 "DogBoard$Rows" "width" "I", .fieldLink RX3 28 "DogBoard$Rows" "count" "I", .fieldLink RX3 24 "DogBoard$Rows" "cells" "[I", .methodLink RX0 138 yX2_isWithin, .instanceMethod yX2_isWithin, .selects RX2 yX2_isWithin yX2_isWithin, .initialized RX2, .code yX2_isWithin cX2_isWithin 5 (some .boolean), .fieldLink RX2 9 "DogBoard$Quarter" "ways" "[I"] ++ wsX00 ++ wsX30 ++ wsX20)
def wsX0_shareBy_r1 : List Cond := [Cond.fieldLink RX0 27 "DogBoard$Board" "sightings" "LDogBoard$Rows;", Cond.fieldLink RX0 23 "DogBoard$Board" "dogs" "LDogBoard$Rows;", Cond.methodLink RX0 87 yX3_count, Cond.instanceMethod yX3_count, Cond.selects RX3 yX3_count yX3_count, Cond.initialized RX3, Cond.code yX3_count cX3_count 1 (some .int), Cond.fieldLink RX3 28 "DogBoard$Rows" "count" "I", Cond.static yX7_hasBit, Cond.initialized RX7, Cond.code yX7_hasBit cX7_hasBit 2 (some .boolean), Cond.methodLink RX0 210 yX0_helpOf, Cond.instanceMethod yX0_helpOf, Cond.selects RX0 yX0_helpOf yX0_helpOf, Cond.initialized RX0, Cond.code yX0_helpOf cX0_helpOf 4 (some .int), Cond.fieldLink RX0 12 "DogBoard$Board" "quarter" "LDogBoard$Quarter;", Cond.methodLink RX0 112 yX3_get, Cond.instanceMethod yX3_get, Cond.selects RX3 yX3_get yX3_get, Cond.code yX3_get cX3_get 4 (some .int), Cond.fieldLink RX3 15 "DogBoard$Rows" "width" "I", Cond.fieldLink RX3 24 "DogBoard$Rows" "cells" "[I", Cond.methodLink RX0 138 yX2_isWithin]
def wsX0_shareBy_r2 : List Cond := [Cond.instanceMethod yX2_isWithin, Cond.selects RX2 yX2_isWithin yX2_isWithin, Cond.initialized RX2, Cond.code yX2_isWithin cX2_isWithin 5 (some .boolean), Cond.fieldLink RX2 9 "DogBoard$Quarter" "ways" "[I"]
def wsX0_shareBy : List Cond := .code yX0_shareBy cX0_shareBy 10 (some .int) :: ((wsX0_shareBy_r1 ++ wsX0_shareBy_r2) ++ wsX00 ++ wsX30 ++ wsX20)
def wsX0_findDog_r1 : List Cond := [Cond.fieldLink RX0 23 "DogBoard$Board" "dogs" "LDogBoard$Rows;", Cond.fieldLink RX0 30 "DogBoard$Board" "purses" "[I", Cond.fieldLink RX0 56 "DogBoard$Board" "given" "I", Cond.fieldLink RX0 59 "DogBoard$Board" "stayed" "I", Cond.fieldLink RX0 49 "DogBoard$Board" "hour" "I", Cond.methodLink RX0 199 yX0_faultOfFinding, Cond.instanceMethod yX0_faultOfFinding, Cond.selects RX0 yX0_faultOfFinding yX0_faultOfFinding, Cond.initialized RX0, Cond.code yX0_faultOfFinding cX0_faultOfFinding 4 (some .int), Cond.static yX7_isFinder, Cond.initialized RX7, Cond.code yX7_isFinder cX7_isFinder 1 (some .boolean), Cond.methodLink RX7 44 yX7_isIn, Cond.static yX7_isIn, Cond.code yX7_isIn cX7_isIn 3 (some .boolean), Cond.static yX7_isCorner, Cond.code yX7_isCorner cX7_isCorner 1 (some .boolean), Cond.methodLink RX0 196 yX0_faultOfAsking, Cond.instanceMethod yX0_faultOfAsking, Cond.selects RX0 yX0_faultOfAsking yX0_faultOfAsking, Cond.code yX0_faultOfAsking cX0_faultOfAsking 2 (some .int), Cond.methodLink RX0 151 yX3_has, Cond.instanceMethod yX3_has]
def wsX0_findDog_r2 : List Cond := [Cond.selects RX3 yX3_has yX3_has, Cond.initialized RX3, Cond.code yX3_has cX3_has 2 (some .boolean), Cond.fieldLink RX3 28 "DogBoard$Rows" "count" "I", Cond.methodLink RX0 127 yX0_isMissing, Cond.instanceMethod yX0_isMissing, Cond.selects RX0 yX0_isMissing yX0_isMissing, Cond.code yX0_isMissing cX0_isMissing 2 (some .boolean), Cond.methodLink RX0 112 yX3_get, Cond.instanceMethod yX3_get, Cond.selects RX3 yX3_get yX3_get, Cond.code yX3_get cX3_get 4 (some .int), Cond.fieldLink RX3 15 "DogBoard$Rows" "width" "I", Cond.fieldLink RX3 24 "DogBoard$Rows" "cells" "[I", Cond.methodLink RX0 121 yX0_trueFor, Cond.instanceMethod yX0_trueFor, Cond.selects RX0 yX0_trueFor yX0_trueFor, Cond.code yX0_trueFor cX0_trueFor 2 (some .int), Cond.methodLink RX0 135 yX0_trueNowFor, Cond.instanceMethod yX0_trueNowFor, Cond.selects RX0 yX0_trueNowFor yX0_trueNowFor, Cond.code yX0_trueNowFor cX0_trueNowFor 7 (some .int), Cond.fieldLink RX0 27 "DogBoard$Board" "sightings" "LDogBoard$Rows;", Cond.fieldLink RX0 12 "DogBoard$Board" "quarter" "LDogBoard$Quarter;"]
def wsX0_findDog_r3 : List Cond := [Cond.methodLink RX0 87 yX3_count, Cond.instanceMethod yX3_count, Cond.selects RX3 yX3_count yX3_count, Cond.code yX3_count cX3_count 1 (some .int), Cond.methodLink RX0 138 yX2_isWithin, Cond.instanceMethod yX2_isWithin, Cond.selects RX2 yX2_isWithin yX2_isWithin, Cond.initialized RX2, Cond.code yX2_isWithin cX2_isWithin 5 (some .boolean), Cond.fieldLink RX2 9 "DogBoard$Quarter" "ways" "[I", Cond.methodLink RX0 124 yX0_fraudsFor, Cond.instanceMethod yX0_fraudsFor, Cond.selects RX0 yX0_fraudsFor yX0_fraudsFor, Cond.code yX0_fraudsFor cX0_fraudsFor 7 (some .int), Cond.methodLink RX0 100 yX0_sightingsMeaning, Cond.instanceMethod yX0_sightingsMeaning, Cond.selects RX0 yX0_sightingsMeaning yX0_sightingsMeaning, Cond.code yX0_sightingsMeaning cX0_sightingsMeaning 4 (some .int), Cond.static yX7_hasBit, Cond.code yX7_hasBit cX7_hasBit 2 (some .boolean), Cond.methodLink RX0 145 yX0_fitsOneOf, Cond.instanceMethod yX0_fitsOneOf, Cond.selects RX0 yX0_fitsOneOf yX0_fitsOneOf, Cond.code yX0_fitsOneOf cX0_fitsOneOf 6 (some .boolean)]
def wsX0_findDog_r4 : List Cond := [Cond.methodLink RX0 148 Lib.Math.abs.name, Cond.static Lib.Math.abs.name, Cond.initialized "java/lang/Math", Cond.code Lib.Math.abs.name Lib.Math.abs.code 1 (some .int), Cond.methodLink RX0 203 yX0_coinsOf, Cond.instanceMethod yX0_coinsOf, Cond.selects RX0 yX0_coinsOf yX0_coinsOf, Cond.code yX0_coinsOf cX0_coinsOf 2 (some .int), Cond.methodLink RX0 206 yX0_shareBy, Cond.instanceMethod yX0_shareBy, Cond.selects RX0 yX0_shareBy yX0_shareBy, Cond.code yX0_shareBy cX0_shareBy 10 (some .int), Cond.methodLink RX0 210 yX0_helpOf, Cond.instanceMethod yX0_helpOf, Cond.selects RX0 yX0_helpOf yX0_helpOf, Cond.code yX0_helpOf cX0_helpOf 4 (some .int), Cond.methodLink RX0 183 yX3_put, Cond.instanceMethod yX3_put, Cond.selects RX3 yX3_put yX3_put, Cond.code yX3_put cX3_put 5 none]
def wsX0_findDog : List Cond := .code yX0_findDog cX0_findDog 11 (some .int) :: ((wsX0_findDog_r1 ++ (wsX0_findDog_r2 ++ (wsX0_findDog_r3 ++ wsX0_findDog_r4))) ++ wsX00 ++ wsX30 ++ wsX20)
def wsX0_shareOf_r1 : List Cond := [Cond.methodLink RX0 115 yX0_honestFor, Cond.instanceMethod yX0_honestFor, Cond.selects RX0 yX0_honestFor yX0_honestFor, Cond.initialized RX0, Cond.code yX0_honestFor cX0_honestFor 2 (some .int), Cond.methodLink RX0 100 yX0_sightingsMeaning, Cond.instanceMethod yX0_sightingsMeaning, Cond.selects RX0 yX0_sightingsMeaning yX0_sightingsMeaning, Cond.code yX0_sightingsMeaning cX0_sightingsMeaning 4 (some .int), Cond.fieldLink RX0 27 "DogBoard$Board" "sightings" "LDogBoard$Rows;", Cond.methodLink RX0 87 yX3_count, Cond.instanceMethod yX3_count, Cond.selects RX3 yX3_count yX3_count, Cond.initialized RX3, Cond.code yX3_count cX3_count 1 (some .int), Cond.fieldLink RX3 28 "DogBoard$Rows" "count" "I", Cond.methodLink RX0 112 yX3_get, Cond.instanceMethod yX3_get, Cond.selects RX3 yX3_get yX3_get, Cond.code yX3_get cX3_get 4 (some .int), Cond.fieldLink RX3 15 "DogBoard$Rows" "width" "I", Cond.fieldLink RX3 24 "DogBoard$Rows" "cells" "[I", Cond.methodLink RX0 124 yX0_fraudsFor, Cond.instanceMethod yX0_fraudsFor]
def wsX0_shareOf_r2 : List Cond := [Cond.selects RX0 yX0_fraudsFor yX0_fraudsFor, Cond.code yX0_fraudsFor cX0_fraudsFor 7 (some .int), Cond.fieldLink RX0 23 "DogBoard$Board" "dogs" "LDogBoard$Rows;", Cond.methodLink RX0 127 yX0_isMissing, Cond.instanceMethod yX0_isMissing, Cond.selects RX0 yX0_isMissing yX0_isMissing, Cond.code yX0_isMissing cX0_isMissing 2 (some .boolean), Cond.methodLink RX0 135 yX0_trueNowFor, Cond.instanceMethod yX0_trueNowFor, Cond.selects RX0 yX0_trueNowFor yX0_trueNowFor, Cond.code yX0_trueNowFor cX0_trueNowFor 7 (some .int), Cond.fieldLink RX0 12 "DogBoard$Board" "quarter" "LDogBoard$Quarter;", Cond.methodLink RX0 138 yX2_isWithin, Cond.instanceMethod yX2_isWithin, Cond.selects RX2 yX2_isWithin yX2_isWithin, Cond.initialized RX2, Cond.code yX2_isWithin cX2_isWithin 5 (some .boolean), Cond.fieldLink RX2 9 "DogBoard$Quarter" "ways" "[I", Cond.static yX7_hasBit, Cond.initialized RX7, Cond.code yX7_hasBit cX7_hasBit 2 (some .boolean), Cond.methodLink RX0 145 yX0_fitsOneOf, Cond.instanceMethod yX0_fitsOneOf, Cond.selects RX0 yX0_fitsOneOf yX0_fitsOneOf]
def wsX0_shareOf_r3 : List Cond := [Cond.code yX0_fitsOneOf cX0_fitsOneOf 6 (some .boolean), Cond.methodLink RX0 148 Lib.Math.abs.name, Cond.static Lib.Math.abs.name, Cond.initialized "java/lang/Math", Cond.code Lib.Math.abs.name Lib.Math.abs.code 1 (some .int), Cond.methodLink RX0 206 yX0_shareBy, Cond.instanceMethod yX0_shareBy, Cond.selects RX0 yX0_shareBy yX0_shareBy, Cond.code yX0_shareBy cX0_shareBy 10 (some .int), Cond.methodLink RX0 210 yX0_helpOf, Cond.instanceMethod yX0_helpOf, Cond.selects RX0 yX0_helpOf yX0_helpOf, Cond.code yX0_helpOf cX0_helpOf 4 (some .int)]
def wsX0_shareOf : List Cond := .code yX0_shareOf cX0_shareOf 5 (some .int) :: ((wsX0_shareOf_r1 ++ (wsX0_shareOf_r2 ++ wsX0_shareOf_r3)) ++ wsX00 ++ wsX30 ++ wsX20)
def wsX2_streetBetween : List Cond := .code yX2_streetBetween cX2_streetBetween 3 (some .int) :: ([.fieldLink RX2 43 "DogBoard$Quarter" "ENDS" "[I"])
def wsX0_faultOfClosing : List Cond := .code yX0_faultOfClosing cX0_faultOfClosing 3 (some .int) :: ([.static yX7_isCorner, .initialized RX7, .code yX7_isCorner cX7_isCorner 1 (some .boolean), .methodLink RX7 44 yX7_isIn, .static yX7_isIn, .code yX7_isIn cX7_isIn 3 (some .boolean), .methodLink RX0 213 yX2_streetBetween, .static yX2_streetBetween, .initialized RX2, .code yX2_streetBetween cX2_streetBetween 3 (some .int), .fieldLink RX2 43 "DogBoard$Quarter" "ENDS" "[I"])
def wsX2_setClosed : List Cond := .code yX2_setClosed cX2_setClosed 4 none :: ([.fieldLink RX2 18 "DogBoard$Quarter" "closed" "I", .methodLink RX2 22 yX2_measureAll, .instanceMethod yX2_measureAll, .selects RX2 yX2_measureAll yX2_measureAll, .initialized RX2, .code yX2_measureAll cX2_measureAll 5 none, .fieldLink RX2 9 "DogBoard$Quarter" "ways" "[I", .methodLink RX2 46 yJ7_fill_53178, .static yJ7_fill_53178, .initialized RJ7, .code yJ7_fill_53178 cJ7_fill_53178 4 none, .methodLink RX2 52 yX2_noteWays, .instanceMethod yX2_noteWays, .selects RX2 yX2_noteWays yX2_noteWays, .code yX2_noteWays cX2_noteWays 6 none, .static yX7_hasBit, .initialized RX7, .code yX7_hasBit cX7_hasBit 2 (some .boolean), .methodLink RX2 56 yX2_besideAnyOf, .instanceMethod yX2_besideAnyOf, .selects RX2 yX2_besideAnyOf yX2_besideAnyOf, .code yX2_besideAnyOf cX2_besideAnyOf 4 (some .int), .fieldLink RX2 43 "DogBoard$Quarter" "ENDS" "[I"] ++ wsX20)
def wsX0_closeStreet_r1 : List Cond := [Cond.fieldLink RX0 12 "DogBoard$Board" "quarter" "LDogBoard$Quarter;", Cond.methodLink RX0 216 yX0_faultOfClosing, Cond.instanceMethod yX0_faultOfClosing, Cond.selects RX0 yX0_faultOfClosing yX0_faultOfClosing, Cond.initialized RX0, Cond.code yX0_faultOfClosing cX0_faultOfClosing 3 (some .int), Cond.static yX7_isCorner, Cond.initialized RX7, Cond.code yX7_isCorner cX7_isCorner 1 (some .boolean), Cond.methodLink RX7 44 yX7_isIn, Cond.static yX7_isIn, Cond.code yX7_isIn cX7_isIn 3 (some .boolean), Cond.methodLink RX0 213 yX2_streetBetween, Cond.static yX2_streetBetween, Cond.initialized RX2, Cond.code yX2_streetBetween cX2_streetBetween 3 (some .int), Cond.fieldLink RX2 43 "DogBoard$Quarter" "ENDS" "[I", Cond.methodLink RX0 219 yX2_setClosed, Cond.instanceMethod yX2_setClosed, Cond.selects RX2 yX2_setClosed yX2_setClosed, Cond.code yX2_setClosed cX2_setClosed 4 none, Cond.fieldLink RX2 18 "DogBoard$Quarter" "closed" "I", Cond.methodLink RX2 22 yX2_measureAll, Cond.instanceMethod yX2_measureAll]
def wsX0_closeStreet_r2 : List Cond := [Cond.selects RX2 yX2_measureAll yX2_measureAll, Cond.code yX2_measureAll cX2_measureAll 5 none, Cond.fieldLink RX2 9 "DogBoard$Quarter" "ways" "[I", Cond.methodLink RX2 46 yJ7_fill_53178, Cond.static yJ7_fill_53178, Cond.initialized RJ7, Cond.code yJ7_fill_53178 cJ7_fill_53178 4 none, Cond.methodLink RX2 52 yX2_noteWays, Cond.instanceMethod yX2_noteWays, Cond.selects RX2 yX2_noteWays yX2_noteWays, Cond.code yX2_noteWays cX2_noteWays 6 none, Cond.static yX7_hasBit, Cond.code yX7_hasBit cX7_hasBit 2 (some .boolean), Cond.methodLink RX2 56 yX2_besideAnyOf, Cond.instanceMethod yX2_besideAnyOf, Cond.selects RX2 yX2_besideAnyOf yX2_besideAnyOf, Cond.code yX2_besideAnyOf cX2_besideAnyOf 4 (some .int), Cond.methodLink RX0 109 yX2_closedStreets, Cond.instanceMethod yX2_closedStreets, Cond.selects RX2 yX2_closedStreets yX2_closedStreets, Cond.code yX2_closedStreets cX2_closedStreets 1 (some .int), Cond.methodLink RX2 37 yJ6_bitCount_0f7a4, Cond.static yJ6_bitCount_0f7a4, Cond.initialized RJ6]
def wsX0_closeStreet_r3 : List Cond := [Cond.code yJ6_bitCount_0f7a4 cJ6_bitCount_0f7a4 1 (some .int), Cond.constant RJ6 265 (1431655765), Cond.constant RJ6 266 (858993459), Cond.constant RJ6 267 (252645135)]
def wsX0_closeStreet : List Cond := .code yX0_closeStreet cX0_closeStreet 4 (some .int) :: ((wsX0_closeStreet_r1 ++ (wsX0_closeStreet_r2 ++ wsX0_closeStreet_r3)) ++ wsX00 ++ wsX20)
def wsX0_faultOfPassing : List Cond := .code yX0_faultOfPassing cX0_faultOfPassing 2 (some .int) :: ([.static yX7_isIn, .initialized RX7, .code yX7_isIn cX7_isIn 3 (some .boolean)])
def wsX0_passHours_r1 : List Cond := [Cond.fieldLink RX0 23 "DogBoard$Board" "dogs" "LDogBoard$Rows;", Cond.fieldLink RX0 49 "DogBoard$Board" "hour" "I", Cond.fieldLink RX0 62 "DogBoard$Board" "growth" "I", Cond.fieldLink RX0 53 "DogBoard$Board" "paid" "I", Cond.methodLink RX0 223 yX0_faultOfPassing, Cond.instanceMethod yX0_faultOfPassing, Cond.selects RX0 yX0_faultOfPassing yX0_faultOfPassing, Cond.initialized RX0, Cond.code yX0_faultOfPassing cX0_faultOfPassing 2 (some .int), Cond.static yX7_isIn, Cond.initialized RX7, Cond.code yX7_isIn cX7_isIn 3 (some .boolean), Cond.methodLink RX0 87 yX3_count, Cond.instanceMethod yX3_count, Cond.selects RX3 yX3_count yX3_count, Cond.initialized RX3, Cond.code yX3_count cX3_count 1 (some .int), Cond.fieldLink RX3 28 "DogBoard$Rows" "count" "I", Cond.methodLink RX0 112 yX3_get, Cond.instanceMethod yX3_get, Cond.selects RX3 yX3_get yX3_get, Cond.code yX3_get cX3_get 4 (some .int), Cond.fieldLink RX3 15 "DogBoard$Rows" "width" "I", Cond.fieldLink RX3 24 "DogBoard$Rows" "cells" "[I"]
def wsX0_passHours_r2 : List Cond := [Cond.methodLink RX0 127 yX0_isMissing, Cond.instanceMethod yX0_isMissing, Cond.selects RX0 yX0_isMissing yX0_isMissing, Cond.code yX0_isMissing cX0_isMissing 2 (some .boolean), Cond.methodLink RX0 183 yX3_put, Cond.instanceMethod yX3_put, Cond.selects RX3 yX3_put yX3_put, Cond.code yX3_put cX3_put 5 none]
def wsX0_passHours : List Cond := .code yX0_passHours cX0_passHours 7 (some .int) :: ((wsX0_passHours_r1 ++ wsX0_passHours_r2) ++ wsX00 ++ wsX30)
def wsX0_faultOfSetting : List Cond := .code yX0_faultOfSetting cX0_faultOfSetting 4 (some .int) :: ([.static yX7_isIn, .initialized RX7, .code yX7_isIn cX7_isIn 3 (some .boolean)])
def wsX0_changeSetting : List Cond := .code yX0_changeSetting cX0_changeSetting 4 (some .int) :: ([.fieldLink RX0 62 "DogBoard$Board" "growth" "I", .fieldLink RX0 65 "DogBoard$Board" "mostUnlike" "I", .methodLink RX0 226 yX0_faultOfSetting, .instanceMethod yX0_faultOfSetting, .selects RX0 yX0_faultOfSetting yX0_faultOfSetting, .initialized RX0, .code yX0_faultOfSetting cX0_faultOfSetting 4 (some .int), .static yX7_isIn, .initialized RX7, .code yX7_isIn cX7_isIn 3 (some .boolean)] ++ wsX00)
def wsX1_init_r1 : List Cond := [Cond.methodLink RX1 3 objectInit, Cond.instanceMethod objectInit, Cond.code objectInit ⟨#[0xb1]⟩ 1 none, Cond.classLink RX1 9 RX0, Cond.fieldLink RX1 11 "DogBoard$History" "states" "[LDogBoard$Board;", Cond.instantiable RX0 11, Cond.initialized RX0, Cond.instanceMethod yX0_init, Cond.code yX0_init cX0_init 1 none, Cond.methodLink RX0 3 objectInit, Cond.classLink RX0 9 RX2, Cond.instantiable RX2 3, Cond.initialized RX2, Cond.fieldLink RX0 12 "DogBoard$Board" "quarter" "LDogBoard$Quarter;", Cond.classLink RX0 18 RX3, Cond.instantiable RX3 4, Cond.initialized RX3, Cond.fieldLink RX0 23 "DogBoard$Board" "dogs" "LDogBoard$Rows;", Cond.fieldLink RX0 27 "DogBoard$Board" "sightings" "LDogBoard$Rows;", Cond.arrayClass .int, Cond.fieldLink RX0 30 "DogBoard$Board" "purses" "[I", Cond.fieldLink RX0 34 "DogBoard$Board" "places" "[I", Cond.instanceMethod yX2_init, Cond.code yX2_init cX2_init 1 none]
def wsX1_init_r2 : List Cond := [Cond.methodLink RX2 3 objectInit, Cond.fieldLink RX2 9 "DogBoard$Quarter" "ways" "[I", Cond.fieldLink RX2 15 "DogBoard$Quarter" "sweep" "[I", Cond.methodLink RX0 20 yX3_init, Cond.instanceMethod yX3_init, Cond.code yX3_init cX3_init 3 none, Cond.methodLink RX3 3 objectInit, Cond.fieldLink RX3 9 "DogBoard$Rows" "most" "I", Cond.fieldLink RX3 15 "DogBoard$Rows" "width" "I", Cond.methodLink RX3 18 Lib.Math.max.name, Cond.static Lib.Math.max.name, Cond.initialized "java/lang/Math", Cond.code Lib.Math.max.name Lib.Math.max.code 2 (some .int), Cond.fieldLink RX3 24 "DogBoard$Rows" "cells" "[I"]
def wsX1_init : List Cond := .code yX1_init cX1_init 2 none :: ((wsX1_init_r1 ++ wsX1_init_r2) ++ wsX10 ++ wsX00 ++ wsX20 ++ wsX30)
def wsX1_isEmpty : List Cond := .code yX1_isEmpty cX1_isEmpty 1 (some .boolean) :: ([.fieldLink RX1 18 "DogBoard$History" "count" "I"] ++ wsX10)
def wsX1_forgetAll : List Cond := .code yX1_forgetAll cX1_forgetAll 1 none :: ([.fieldLink RX1 22 "DogBoard$History" "oldest" "I", .fieldLink RX1 18 "DogBoard$History" "count" "I"] ++ wsX10)
def wsX1_stateAt : List Cond := .code yX1_stateAt cX1_stateAt 3 (some (.object "DogBoard$Board")) :: ([.fieldLink RX1 22 "DogBoard$History" "oldest" "I", .fieldLink RX1 11 "DogBoard$History" "states" "[LDogBoard$Board;"] ++ wsX10)
def wsX1_remember_r1 : List Cond := [Cond.fieldLink RX1 18 "DogBoard$History" "count" "I", Cond.fieldLink RX1 22 "DogBoard$History" "oldest" "I", Cond.methodLink RX1 25 yX1_stateAt, Cond.instanceMethod yX1_stateAt, Cond.selects RX1 yX1_stateAt yX1_stateAt, Cond.initialized RX1, Cond.code yX1_stateAt cX1_stateAt 3 (some (.object "DogBoard$Board")), Cond.fieldLink RX1 11 "DogBoard$History" "states" "[LDogBoard$Board;", Cond.methodLink RX1 29 yX0_copyFrom, Cond.instanceMethod yX0_copyFrom, Cond.selects RX0 yX0_copyFrom yX0_copyFrom, Cond.initialized RX0, Cond.code yX0_copyFrom cX0_copyFrom 2 none, Cond.fieldLink RX0 12 "DogBoard$Board" "quarter" "LDogBoard$Quarter;", Cond.fieldLink RX0 23 "DogBoard$Board" "dogs" "LDogBoard$Rows;", Cond.fieldLink RX0 27 "DogBoard$Board" "sightings" "LDogBoard$Rows;", Cond.fieldLink RX0 30 "DogBoard$Board" "purses" "[I", Cond.methodLink RX0 75 Lib.Math.min.name, Cond.static Lib.Math.min.name, Cond.initialized "java/lang/Math", Cond.code Lib.Math.min.name Lib.Math.min.code 2 (some .int), Cond.methodLink RX0 81 arraycopyName, Cond.native arraycopyName, Cond.static arraycopyName]
def wsX1_remember_r2 : List Cond := [Cond.initialized "java/lang/System", Cond.fieldLink RX0 49 "DogBoard$Board" "hour" "I", Cond.fieldLink RX0 53 "DogBoard$Board" "paid" "I", Cond.fieldLink RX0 56 "DogBoard$Board" "given" "I", Cond.fieldLink RX0 59 "DogBoard$Board" "stayed" "I", Cond.fieldLink RX0 62 "DogBoard$Board" "growth" "I", Cond.fieldLink RX0 65 "DogBoard$Board" "mostUnlike" "I", Cond.methodLink RX0 68 yX2_copyFrom, Cond.instanceMethod yX2_copyFrom, Cond.selects RX2 yX2_copyFrom yX2_copyFrom, Cond.initialized RX2, Cond.code yX2_copyFrom cX2_copyFrom 2 none, Cond.fieldLink RX2 9 "DogBoard$Quarter" "ways" "[I", Cond.methodLink RX2 25 Lib.Math.min.name, Cond.methodLink RX2 31 arraycopyName, Cond.fieldLink RX2 18 "DogBoard$Quarter" "closed" "I", Cond.methodLink RX0 72 yX3_copyFrom, Cond.instanceMethod yX3_copyFrom, Cond.selects RX3 yX3_copyFrom yX3_copyFrom, Cond.initialized RX3, Cond.code yX3_copyFrom cX3_copyFrom 2 none, Cond.fieldLink RX3 24 "DogBoard$Rows" "cells" "[I", Cond.methodLink RX3 39 Lib.Math.min.name, Cond.methodLink RX3 42 arraycopyName]
def wsX1_remember_r3 : List Cond := [Cond.fieldLink RX3 28 "DogBoard$Rows" "count" "I"]
def wsX1_remember : List Cond := .code yX1_remember cX1_remember 3 none :: ((wsX1_remember_r1 ++ (wsX1_remember_r2 ++ wsX1_remember_r3)) ++ wsX10 ++ wsX00 ++ wsX20 ++ wsX30)
def wsX1_giveBack_r1 : List Cond := [Cond.fieldLink RX1 18 "DogBoard$History" "count" "I", Cond.methodLink RX1 25 yX1_stateAt, Cond.instanceMethod yX1_stateAt, Cond.selects RX1 yX1_stateAt yX1_stateAt, Cond.initialized RX1, Cond.code yX1_stateAt cX1_stateAt 3 (some (.object "DogBoard$Board")), Cond.fieldLink RX1 22 "DogBoard$History" "oldest" "I", Cond.fieldLink RX1 11 "DogBoard$History" "states" "[LDogBoard$Board;", Cond.methodLink RX1 29 yX0_copyFrom, Cond.instanceMethod yX0_copyFrom, Cond.selects RX0 yX0_copyFrom yX0_copyFrom, Cond.initialized RX0, Cond.code yX0_copyFrom cX0_copyFrom 2 none, Cond.fieldLink RX0 12 "DogBoard$Board" "quarter" "LDogBoard$Quarter;", Cond.fieldLink RX0 23 "DogBoard$Board" "dogs" "LDogBoard$Rows;", Cond.fieldLink RX0 27 "DogBoard$Board" "sightings" "LDogBoard$Rows;", Cond.fieldLink RX0 30 "DogBoard$Board" "purses" "[I", Cond.methodLink RX0 75 Lib.Math.min.name, Cond.static Lib.Math.min.name, Cond.initialized "java/lang/Math", Cond.code Lib.Math.min.name Lib.Math.min.code 2 (some .int), Cond.methodLink RX0 81 arraycopyName, Cond.native arraycopyName, Cond.static arraycopyName]
def wsX1_giveBack_r2 : List Cond := [Cond.initialized "java/lang/System", Cond.fieldLink RX0 49 "DogBoard$Board" "hour" "I", Cond.fieldLink RX0 53 "DogBoard$Board" "paid" "I", Cond.fieldLink RX0 56 "DogBoard$Board" "given" "I", Cond.fieldLink RX0 59 "DogBoard$Board" "stayed" "I", Cond.fieldLink RX0 62 "DogBoard$Board" "growth" "I", Cond.fieldLink RX0 65 "DogBoard$Board" "mostUnlike" "I", Cond.methodLink RX0 68 yX2_copyFrom, Cond.instanceMethod yX2_copyFrom, Cond.selects RX2 yX2_copyFrom yX2_copyFrom, Cond.initialized RX2, Cond.code yX2_copyFrom cX2_copyFrom 2 none, Cond.fieldLink RX2 9 "DogBoard$Quarter" "ways" "[I", Cond.methodLink RX2 25 Lib.Math.min.name, Cond.methodLink RX2 31 arraycopyName, Cond.fieldLink RX2 18 "DogBoard$Quarter" "closed" "I", Cond.methodLink RX0 72 yX3_copyFrom, Cond.instanceMethod yX3_copyFrom, Cond.selects RX3 yX3_copyFrom yX3_copyFrom, Cond.initialized RX3, Cond.code yX3_copyFrom cX3_copyFrom 2 none, Cond.fieldLink RX3 24 "DogBoard$Rows" "cells" "[I", Cond.methodLink RX3 39 Lib.Math.min.name, Cond.methodLink RX3 42 arraycopyName]
def wsX1_giveBack_r3 : List Cond := [Cond.fieldLink RX3 28 "DogBoard$Rows" "count" "I"]
def wsX1_giveBack : List Cond := .code yX1_giveBack cX1_giveBack 3 (some .int) :: ((wsX1_giveBack_r1 ++ (wsX1_giveBack_r2 ++ wsX1_giveBack_r3)) ++ wsX10 ++ wsX00 ++ wsX20 ++ wsX30)
def wsX2_wayBetween : List Cond := .code yX2_wayBetween cX2_wayBetween 4 (some .int) :: ([.fieldLink RX2 9 "DogBoard$Quarter" "ways" "[I"] ++ wsX20)
def wsX2_shortens : List Cond := .code yX2_shortens cX2_shortens 3 (some .boolean) :: ([.fieldLink RX2 15 "DogBoard$Quarter" "sweep" "[I"] ++ wsX20)
def wsX2_sweepOnce : List Cond := .code yX2_sweepOnce cX2_sweepOnce 3 (some .boolean) :: ([.fieldLink RX2 43 "DogBoard$Quarter" "ENDS" "[I", .fieldLink RX2 18 "DogBoard$Quarter" "closed" "I", .static yX7_hasBit, .initialized RX7, .code yX7_hasBit cX7_hasBit 2 (some .boolean), .methodLink RX2 67 yX2_shortens, .instanceMethod yX2_shortens, .selects RX2 yX2_shortens yX2_shortens, .initialized RX2, .code yX2_shortens cX2_shortens 3 (some .boolean), .fieldLink RX2 15 "DogBoard$Quarter" "sweep" "[I"] ++ wsX20)
def wsX2_wayBySweeps : List Cond := .code yX2_wayBySweeps cX2_wayBySweeps 5 (some .int) :: ([.fieldLink RX2 15 "DogBoard$Quarter" "sweep" "[I", .methodLink RX2 46 yJ7_fill_53178, .static yJ7_fill_53178, .initialized RJ7, .code yJ7_fill_53178 cJ7_fill_53178 4 none, .methodLink RX2 63 yX2_sweepOnce, .instanceMethod yX2_sweepOnce, .selects RX2 yX2_sweepOnce yX2_sweepOnce, .initialized RX2, .code yX2_sweepOnce cX2_sweepOnce 3 (some .boolean), .fieldLink RX2 43 "DogBoard$Quarter" "ENDS" "[I", .fieldLink RX2 18 "DogBoard$Quarter" "closed" "I", .static yX7_hasBit, .initialized RX7, .code yX7_hasBit cX7_hasBit 2 (some .boolean), .methodLink RX2 67 yX2_shortens, .instanceMethod yX2_shortens, .selects RX2 yX2_shortens yX2_shortens, .code yX2_shortens cX2_shortens 3 (some .boolean)] ++ wsX20)
def wsX4_succeeds_r1 : List Cond := [Cond.constant RX4 9 (100000), Cond.methodLink RX4 10 yX0_passHours, Cond.instanceMethod yX0_passHours, Cond.selects RX0 yX0_passHours yX0_passHours, Cond.initialized RX0, Cond.code yX0_passHours cX0_passHours 7 (some .int), Cond.fieldLink RX0 23 "DogBoard$Board" "dogs" "LDogBoard$Rows;", Cond.fieldLink RX0 49 "DogBoard$Board" "hour" "I", Cond.fieldLink RX0 62 "DogBoard$Board" "growth" "I", Cond.fieldLink RX0 53 "DogBoard$Board" "paid" "I", Cond.methodLink RX0 223 yX0_faultOfPassing, Cond.instanceMethod yX0_faultOfPassing, Cond.selects RX0 yX0_faultOfPassing yX0_faultOfPassing, Cond.code yX0_faultOfPassing cX0_faultOfPassing 2 (some .int), Cond.static yX7_isIn, Cond.initialized RX7, Cond.code yX7_isIn cX7_isIn 3 (some .boolean), Cond.methodLink RX0 87 yX3_count, Cond.instanceMethod yX3_count, Cond.selects RX3 yX3_count yX3_count, Cond.initialized RX3, Cond.code yX3_count cX3_count 1 (some .int), Cond.fieldLink RX3 28 "DogBoard$Rows" "count" "I", Cond.methodLink RX0 112 yX3_get]
def wsX4_succeeds_r2 : List Cond := [Cond.instanceMethod yX3_get, Cond.selects RX3 yX3_get yX3_get, Cond.code yX3_get cX3_get 4 (some .int), Cond.fieldLink RX3 15 "DogBoard$Rows" "width" "I", Cond.fieldLink RX3 24 "DogBoard$Rows" "cells" "[I", Cond.methodLink RX0 127 yX0_isMissing, Cond.instanceMethod yX0_isMissing, Cond.selects RX0 yX0_isMissing yX0_isMissing, Cond.code yX0_isMissing cX0_isMissing 2 (some .boolean), Cond.methodLink RX0 183 yX3_put, Cond.instanceMethod yX3_put, Cond.selects RX3 yX3_put yX3_put, Cond.code yX3_put cX3_put 5 none, Cond.methodLink RX4 16 yX0_tellSighting, Cond.instanceMethod yX0_tellSighting, Cond.selects RX0 yX0_tellSighting yX0_tellSighting, Cond.code yX0_tellSighting cX0_tellSighting 8 (some .int), Cond.fieldLink RX0 27 "DogBoard$Board" "sightings" "LDogBoard$Rows;", Cond.methodLink RX0 190 yX0_faultOfTelling, Cond.instanceMethod yX0_faultOfTelling, Cond.selects RX0 yX0_faultOfTelling yX0_faultOfTelling, Cond.code yX0_faultOfTelling cX0_faultOfTelling 5 (some .int), Cond.static yX7_isFinder, Cond.code yX7_isFinder cX7_isFinder 1 (some .boolean)]
def wsX4_succeeds_r3 : List Cond := [Cond.methodLink RX7 44 yX7_isIn, Cond.static yX7_isCorner, Cond.code yX7_isCorner cX7_isCorner 1 (some .boolean), Cond.methodLink RX0 172 yX3_isFull, Cond.instanceMethod yX3_isFull, Cond.selects RX3 yX3_isFull yX3_isFull, Cond.code yX3_isFull cX3_isFull 1 (some .boolean), Cond.fieldLink RX3 9 "DogBoard$Rows" "most" "I", Cond.methodLink RX0 193 yX0_dogMeantBy, Cond.instanceMethod yX0_dogMeantBy, Cond.selects RX0 yX0_dogMeantBy yX0_dogMeantBy, Cond.code yX0_dogMeantBy cX0_dogMeantBy 6 (some .int), Cond.fieldLink RX0 65 "DogBoard$Board" "mostUnlike" "I", Cond.methodLink RX0 118 yX0_unlikeMarks, Cond.instanceMethod yX0_unlikeMarks, Cond.selects RX0 yX0_unlikeMarks yX0_unlikeMarks, Cond.code yX0_unlikeMarks cX0_unlikeMarks 3 (some .int), Cond.methodLink RX0 104 yJ6_bitCount_0f7a4, Cond.static yJ6_bitCount_0f7a4, Cond.initialized RJ6, Cond.code yJ6_bitCount_0f7a4 cJ6_bitCount_0f7a4 1 (some .int), Cond.constant RJ6 265 (1431655765), Cond.constant RJ6 266 (858993459), Cond.constant RJ6 267 (252645135)]
def wsX4_succeeds_r4 : List Cond := [Cond.methodLink RX0 131 yX0_isMeantBefore, Cond.instanceMethod yX0_isMeantBefore, Cond.selects RX0 yX0_isMeantBefore yX0_isMeantBefore, Cond.code yX0_isMeantBefore cX0_isMeantBefore 6 (some .boolean), Cond.methodLink RX0 180 yX3_addRow, Cond.instanceMethod yX3_addRow, Cond.selects RX3 yX3_addRow yX3_addRow, Cond.code yX3_addRow cX3_addRow 3 (some .int), Cond.methodLink RX3 31 yX3_isFull, Cond.methodLink RX3 35 yX3_put, Cond.methodLink RX4 20 yX0_findDog, Cond.instanceMethod yX0_findDog, Cond.selects RX0 yX0_findDog yX0_findDog, Cond.code yX0_findDog cX0_findDog 11 (some .int), Cond.fieldLink RX0 30 "DogBoard$Board" "purses" "[I", Cond.fieldLink RX0 56 "DogBoard$Board" "given" "I", Cond.fieldLink RX0 59 "DogBoard$Board" "stayed" "I", Cond.methodLink RX0 199 yX0_faultOfFinding, Cond.instanceMethod yX0_faultOfFinding, Cond.selects RX0 yX0_faultOfFinding yX0_faultOfFinding, Cond.code yX0_faultOfFinding cX0_faultOfFinding 4 (some .int), Cond.methodLink RX0 196 yX0_faultOfAsking, Cond.instanceMethod yX0_faultOfAsking, Cond.selects RX0 yX0_faultOfAsking yX0_faultOfAsking]
def wsX4_succeeds_r5 : List Cond := [Cond.code yX0_faultOfAsking cX0_faultOfAsking 2 (some .int), Cond.methodLink RX0 151 yX3_has, Cond.instanceMethod yX3_has, Cond.selects RX3 yX3_has yX3_has, Cond.code yX3_has cX3_has 2 (some .boolean), Cond.methodLink RX0 121 yX0_trueFor, Cond.instanceMethod yX0_trueFor, Cond.selects RX0 yX0_trueFor yX0_trueFor, Cond.code yX0_trueFor cX0_trueFor 2 (some .int), Cond.methodLink RX0 135 yX0_trueNowFor, Cond.instanceMethod yX0_trueNowFor, Cond.selects RX0 yX0_trueNowFor yX0_trueNowFor, Cond.code yX0_trueNowFor cX0_trueNowFor 7 (some .int), Cond.fieldLink RX0 12 "DogBoard$Board" "quarter" "LDogBoard$Quarter;", Cond.methodLink RX0 138 yX2_isWithin, Cond.instanceMethod yX2_isWithin, Cond.selects RX2 yX2_isWithin yX2_isWithin, Cond.initialized RX2, Cond.code yX2_isWithin cX2_isWithin 5 (some .boolean), Cond.fieldLink RX2 9 "DogBoard$Quarter" "ways" "[I", Cond.methodLink RX0 124 yX0_fraudsFor, Cond.instanceMethod yX0_fraudsFor, Cond.selects RX0 yX0_fraudsFor yX0_fraudsFor, Cond.code yX0_fraudsFor cX0_fraudsFor 7 (some .int)]
def wsX4_succeeds_r6 : List Cond := [Cond.methodLink RX0 100 yX0_sightingsMeaning, Cond.instanceMethod yX0_sightingsMeaning, Cond.selects RX0 yX0_sightingsMeaning yX0_sightingsMeaning, Cond.code yX0_sightingsMeaning cX0_sightingsMeaning 4 (some .int), Cond.static yX7_hasBit, Cond.code yX7_hasBit cX7_hasBit 2 (some .boolean), Cond.methodLink RX0 145 yX0_fitsOneOf, Cond.instanceMethod yX0_fitsOneOf, Cond.selects RX0 yX0_fitsOneOf yX0_fitsOneOf, Cond.code yX0_fitsOneOf cX0_fitsOneOf 6 (some .boolean), Cond.methodLink RX0 148 Lib.Math.abs.name, Cond.static Lib.Math.abs.name, Cond.initialized "java/lang/Math", Cond.code Lib.Math.abs.name Lib.Math.abs.code 1 (some .int), Cond.methodLink RX0 203 yX0_coinsOf, Cond.instanceMethod yX0_coinsOf, Cond.selects RX0 yX0_coinsOf yX0_coinsOf, Cond.code yX0_coinsOf cX0_coinsOf 2 (some .int), Cond.methodLink RX0 206 yX0_shareBy, Cond.instanceMethod yX0_shareBy, Cond.selects RX0 yX0_shareBy yX0_shareBy, Cond.code yX0_shareBy cX0_shareBy 10 (some .int), Cond.methodLink RX0 210 yX0_helpOf, Cond.instanceMethod yX0_helpOf]
def wsX4_succeeds_r7 : List Cond := [Cond.selects RX0 yX0_helpOf yX0_helpOf, Cond.code yX0_helpOf cX0_helpOf 4 (some .int), Cond.methodLink RX4 24 yX0_closeStreet, Cond.instanceMethod yX0_closeStreet, Cond.selects RX0 yX0_closeStreet yX0_closeStreet, Cond.code yX0_closeStreet cX0_closeStreet 4 (some .int), Cond.methodLink RX0 216 yX0_faultOfClosing, Cond.instanceMethod yX0_faultOfClosing, Cond.selects RX0 yX0_faultOfClosing yX0_faultOfClosing, Cond.code yX0_faultOfClosing cX0_faultOfClosing 3 (some .int), Cond.methodLink RX0 213 yX2_streetBetween, Cond.static yX2_streetBetween, Cond.code yX2_streetBetween cX2_streetBetween 3 (some .int), Cond.fieldLink RX2 43 "DogBoard$Quarter" "ENDS" "[I", Cond.methodLink RX0 219 yX2_setClosed, Cond.instanceMethod yX2_setClosed, Cond.selects RX2 yX2_setClosed yX2_setClosed, Cond.code yX2_setClosed cX2_setClosed 4 none, Cond.fieldLink RX2 18 "DogBoard$Quarter" "closed" "I", Cond.methodLink RX2 22 yX2_measureAll, Cond.instanceMethod yX2_measureAll, Cond.selects RX2 yX2_measureAll yX2_measureAll, Cond.code yX2_measureAll cX2_measureAll 5 none, Cond.methodLink RX2 46 yJ7_fill_53178]
def wsX4_succeeds_r8 : List Cond := [Cond.static yJ7_fill_53178, Cond.initialized RJ7, Cond.code yJ7_fill_53178 cJ7_fill_53178 4 none, Cond.methodLink RX2 52 yX2_noteWays, Cond.instanceMethod yX2_noteWays, Cond.selects RX2 yX2_noteWays yX2_noteWays, Cond.code yX2_noteWays cX2_noteWays 6 none, Cond.methodLink RX2 56 yX2_besideAnyOf, Cond.instanceMethod yX2_besideAnyOf, Cond.selects RX2 yX2_besideAnyOf yX2_besideAnyOf, Cond.code yX2_besideAnyOf cX2_besideAnyOf 4 (some .int), Cond.methodLink RX0 109 yX2_closedStreets, Cond.instanceMethod yX2_closedStreets, Cond.selects RX2 yX2_closedStreets yX2_closedStreets, Cond.code yX2_closedStreets cX2_closedStreets 1 (some .int), Cond.methodLink RX2 37 yJ6_bitCount_0f7a4, Cond.methodLink RX4 28 yX0_changeSetting, Cond.instanceMethod yX0_changeSetting, Cond.selects RX0 yX0_changeSetting yX0_changeSetting, Cond.code yX0_changeSetting cX0_changeSetting 4 (some .int), Cond.methodLink RX0 226 yX0_faultOfSetting, Cond.instanceMethod yX0_faultOfSetting, Cond.selects RX0 yX0_faultOfSetting yX0_faultOfSetting, Cond.code yX0_faultOfSetting cX0_faultOfSetting 4 (some .int)]
def wsX4_succeeds_r9 : List Cond := [Cond.methodLink RX4 36 yX0_isMissing, Cond.methodLink RX4 39 yX0_placesOf, Cond.instanceMethod yX0_placesOf, Cond.selects RX0 yX0_placesOf yX0_placesOf, Cond.code yX0_placesOf cX0_placesOf 5 (some .int), Cond.methodLink RX0 115 yX0_honestFor, Cond.instanceMethod yX0_honestFor, Cond.selects RX0 yX0_honestFor yX0_honestFor, Cond.code yX0_honestFor cX0_honestFor 2 (some .int), Cond.methodLink RX0 154 yX0_canReach, Cond.instanceMethod yX0_canReach, Cond.selects RX0 yX0_canReach yX0_canReach, Cond.code yX0_canReach cX0_canReach 8 (some .boolean), Cond.methodLink RX4 46 yX0_fraudsInAll, Cond.instanceMethod yX0_fraudsInAll, Cond.selects RX0 yX0_fraudsInAll yX0_fraudsInAll, Cond.code yX0_fraudsInAll cX0_fraudsInAll 3 (some .int), Cond.methodLink RX4 54 yX3_has, Cond.methodLink RX4 59 yX3_get, Cond.methodLink RX4 65 yX0_coinsOf]
def wsX4_succeeds : List Cond := .code yX4_succeeds cX4_succeeds 9 (some .boolean) :: ((wsX4_succeeds_r1 ++ (wsX4_succeeds_r2 ++ (wsX4_succeeds_r3 ++ (wsX4_succeeds_r4 ++ (wsX4_succeeds_r5 ++ (wsX4_succeeds_r6 ++ (wsX4_succeeds_r7 ++ (wsX4_succeeds_r8 ++ wsX4_succeeds_r9)))))))) ++ wsX00 ++ wsX30 ++ wsX20)
def wsX5_playTurn_r1 : List Cond := [Cond.constant RX5 13 (32768), Cond.constant RX5 14 (262144), Cond.methodLink RX5 7 yX0_loseDog, Cond.instanceMethod yX0_loseDog, Cond.selects RX0 yX0_loseDog yX0_loseDog, Cond.initialized RX0, Cond.code yX0_loseDog cX0_loseDog 6 (some .int), Cond.fieldLink RX0 23 "DogBoard$Board" "dogs" "LDogBoard$Rows;", Cond.fieldLink RX0 49 "DogBoard$Board" "hour" "I", Cond.fieldLink RX0 53 "DogBoard$Board" "paid" "I", Cond.methodLink RX0 176 yX0_faultOfLosing, Cond.instanceMethod yX0_faultOfLosing, Cond.selects RX0 yX0_faultOfLosing yX0_faultOfLosing, Cond.code yX0_faultOfLosing cX0_faultOfLosing 5 (some .int), Cond.static yX7_isCorner, Cond.initialized RX7, Cond.code yX7_isCorner cX7_isCorner 1 (some .boolean), Cond.methodLink RX7 44 yX7_isIn, Cond.static yX7_isIn, Cond.code yX7_isIn cX7_isIn 3 (some .boolean), Cond.methodLink RX0 172 yX3_isFull, Cond.instanceMethod yX3_isFull, Cond.selects RX3 yX3_isFull yX3_isFull, Cond.initialized RX3]
def wsX5_playTurn_r2 : List Cond := [Cond.code yX3_isFull cX3_isFull 1 (some .boolean), Cond.fieldLink RX3 28 "DogBoard$Rows" "count" "I", Cond.fieldLink RX3 9 "DogBoard$Rows" "most" "I", Cond.methodLink RX0 180 yX3_addRow, Cond.instanceMethod yX3_addRow, Cond.selects RX3 yX3_addRow yX3_addRow, Cond.code yX3_addRow cX3_addRow 3 (some .int), Cond.fieldLink RX3 15 "DogBoard$Rows" "width" "I", Cond.methodLink RX3 31 yX3_isFull, Cond.methodLink RX3 35 yX3_put, Cond.instanceMethod yX3_put, Cond.selects RX3 yX3_put yX3_put, Cond.code yX3_put cX3_put 5 none, Cond.fieldLink RX3 24 "DogBoard$Rows" "cells" "[I", Cond.methodLink RX0 183 yX3_put, Cond.methodLink RX5 15 yX0_tellSighting, Cond.instanceMethod yX0_tellSighting, Cond.selects RX0 yX0_tellSighting yX0_tellSighting, Cond.code yX0_tellSighting cX0_tellSighting 8 (some .int), Cond.fieldLink RX0 27 "DogBoard$Board" "sightings" "LDogBoard$Rows;", Cond.methodLink RX0 190 yX0_faultOfTelling, Cond.instanceMethod yX0_faultOfTelling, Cond.selects RX0 yX0_faultOfTelling yX0_faultOfTelling, Cond.code yX0_faultOfTelling cX0_faultOfTelling 5 (some .int)]
def wsX5_playTurn_r3 : List Cond := [Cond.static yX7_isFinder, Cond.code yX7_isFinder cX7_isFinder 1 (some .boolean), Cond.methodLink RX0 193 yX0_dogMeantBy, Cond.instanceMethod yX0_dogMeantBy, Cond.selects RX0 yX0_dogMeantBy yX0_dogMeantBy, Cond.code yX0_dogMeantBy cX0_dogMeantBy 6 (some .int), Cond.fieldLink RX0 65 "DogBoard$Board" "mostUnlike" "I", Cond.methodLink RX0 87 yX3_count, Cond.instanceMethod yX3_count, Cond.selects RX3 yX3_count yX3_count, Cond.code yX3_count cX3_count 1 (some .int), Cond.methodLink RX0 127 yX0_isMissing, Cond.instanceMethod yX0_isMissing, Cond.selects RX0 yX0_isMissing yX0_isMissing, Cond.code yX0_isMissing cX0_isMissing 2 (some .boolean), Cond.methodLink RX0 112 yX3_get, Cond.instanceMethod yX3_get, Cond.selects RX3 yX3_get yX3_get, Cond.code yX3_get cX3_get 4 (some .int), Cond.methodLink RX0 118 yX0_unlikeMarks, Cond.instanceMethod yX0_unlikeMarks, Cond.selects RX0 yX0_unlikeMarks yX0_unlikeMarks, Cond.code yX0_unlikeMarks cX0_unlikeMarks 3 (some .int), Cond.methodLink RX0 104 yJ6_bitCount_0f7a4]
def wsX5_playTurn_r4 : List Cond := [Cond.static yJ6_bitCount_0f7a4, Cond.initialized RJ6, Cond.code yJ6_bitCount_0f7a4 cJ6_bitCount_0f7a4 1 (some .int), Cond.constant RJ6 265 (1431655765), Cond.constant RJ6 266 (858993459), Cond.constant RJ6 267 (252645135), Cond.methodLink RX0 131 yX0_isMeantBefore, Cond.instanceMethod yX0_isMeantBefore, Cond.selects RX0 yX0_isMeantBefore yX0_isMeantBefore, Cond.code yX0_isMeantBefore cX0_isMeantBefore 6 (some .boolean), Cond.methodLink RX5 19 yX0_findDog, Cond.instanceMethod yX0_findDog, Cond.selects RX0 yX0_findDog yX0_findDog, Cond.code yX0_findDog cX0_findDog 11 (some .int), Cond.fieldLink RX0 30 "DogBoard$Board" "purses" "[I", Cond.fieldLink RX0 56 "DogBoard$Board" "given" "I", Cond.fieldLink RX0 59 "DogBoard$Board" "stayed" "I", Cond.methodLink RX0 199 yX0_faultOfFinding, Cond.instanceMethod yX0_faultOfFinding, Cond.selects RX0 yX0_faultOfFinding yX0_faultOfFinding, Cond.code yX0_faultOfFinding cX0_faultOfFinding 4 (some .int), Cond.methodLink RX0 196 yX0_faultOfAsking, Cond.instanceMethod yX0_faultOfAsking, Cond.selects RX0 yX0_faultOfAsking yX0_faultOfAsking]
def wsX5_playTurn_r5 : List Cond := [Cond.code yX0_faultOfAsking cX0_faultOfAsking 2 (some .int), Cond.methodLink RX0 151 yX3_has, Cond.instanceMethod yX3_has, Cond.selects RX3 yX3_has yX3_has, Cond.code yX3_has cX3_has 2 (some .boolean), Cond.methodLink RX0 121 yX0_trueFor, Cond.instanceMethod yX0_trueFor, Cond.selects RX0 yX0_trueFor yX0_trueFor, Cond.code yX0_trueFor cX0_trueFor 2 (some .int), Cond.methodLink RX0 135 yX0_trueNowFor, Cond.instanceMethod yX0_trueNowFor, Cond.selects RX0 yX0_trueNowFor yX0_trueNowFor, Cond.code yX0_trueNowFor cX0_trueNowFor 7 (some .int), Cond.fieldLink RX0 12 "DogBoard$Board" "quarter" "LDogBoard$Quarter;", Cond.methodLink RX0 138 yX2_isWithin, Cond.instanceMethod yX2_isWithin, Cond.selects RX2 yX2_isWithin yX2_isWithin, Cond.initialized RX2, Cond.code yX2_isWithin cX2_isWithin 5 (some .boolean), Cond.fieldLink RX2 9 "DogBoard$Quarter" "ways" "[I", Cond.methodLink RX0 124 yX0_fraudsFor, Cond.instanceMethod yX0_fraudsFor, Cond.selects RX0 yX0_fraudsFor yX0_fraudsFor, Cond.code yX0_fraudsFor cX0_fraudsFor 7 (some .int)]
def wsX5_playTurn_r6 : List Cond := [Cond.methodLink RX0 100 yX0_sightingsMeaning, Cond.instanceMethod yX0_sightingsMeaning, Cond.selects RX0 yX0_sightingsMeaning yX0_sightingsMeaning, Cond.code yX0_sightingsMeaning cX0_sightingsMeaning 4 (some .int), Cond.static yX7_hasBit, Cond.code yX7_hasBit cX7_hasBit 2 (some .boolean), Cond.methodLink RX0 145 yX0_fitsOneOf, Cond.instanceMethod yX0_fitsOneOf, Cond.selects RX0 yX0_fitsOneOf yX0_fitsOneOf, Cond.code yX0_fitsOneOf cX0_fitsOneOf 6 (some .boolean), Cond.methodLink RX0 148 Lib.Math.abs.name, Cond.static Lib.Math.abs.name, Cond.initialized "java/lang/Math", Cond.code Lib.Math.abs.name Lib.Math.abs.code 1 (some .int), Cond.methodLink RX0 203 yX0_coinsOf, Cond.instanceMethod yX0_coinsOf, Cond.selects RX0 yX0_coinsOf yX0_coinsOf, Cond.code yX0_coinsOf cX0_coinsOf 2 (some .int), Cond.methodLink RX0 206 yX0_shareBy, Cond.instanceMethod yX0_shareBy, Cond.selects RX0 yX0_shareBy yX0_shareBy, Cond.code yX0_shareBy cX0_shareBy 10 (some .int), Cond.methodLink RX0 210 yX0_helpOf, Cond.instanceMethod yX0_helpOf]
def wsX5_playTurn_r7 : List Cond := [Cond.selects RX0 yX0_helpOf yX0_helpOf, Cond.code yX0_helpOf cX0_helpOf 4 (some .int), Cond.methodLink RX5 23 yX0_closeStreet, Cond.instanceMethod yX0_closeStreet, Cond.selects RX0 yX0_closeStreet yX0_closeStreet, Cond.code yX0_closeStreet cX0_closeStreet 4 (some .int), Cond.methodLink RX0 216 yX0_faultOfClosing, Cond.instanceMethod yX0_faultOfClosing, Cond.selects RX0 yX0_faultOfClosing yX0_faultOfClosing, Cond.code yX0_faultOfClosing cX0_faultOfClosing 3 (some .int), Cond.methodLink RX0 213 yX2_streetBetween, Cond.static yX2_streetBetween, Cond.code yX2_streetBetween cX2_streetBetween 3 (some .int), Cond.fieldLink RX2 43 "DogBoard$Quarter" "ENDS" "[I", Cond.methodLink RX0 219 yX2_setClosed, Cond.instanceMethod yX2_setClosed, Cond.selects RX2 yX2_setClosed yX2_setClosed, Cond.code yX2_setClosed cX2_setClosed 4 none, Cond.fieldLink RX2 18 "DogBoard$Quarter" "closed" "I", Cond.methodLink RX2 22 yX2_measureAll, Cond.instanceMethod yX2_measureAll, Cond.selects RX2 yX2_measureAll yX2_measureAll, Cond.code yX2_measureAll cX2_measureAll 5 none, Cond.methodLink RX2 46 yJ7_fill_53178]
def wsX5_playTurn_r8 : List Cond := [Cond.static yJ7_fill_53178, Cond.initialized RJ7, Cond.code yJ7_fill_53178 cJ7_fill_53178 4 none, Cond.methodLink RX2 52 yX2_noteWays, Cond.instanceMethod yX2_noteWays, Cond.selects RX2 yX2_noteWays yX2_noteWays, Cond.code yX2_noteWays cX2_noteWays 6 none, Cond.methodLink RX2 56 yX2_besideAnyOf, Cond.instanceMethod yX2_besideAnyOf, Cond.selects RX2 yX2_besideAnyOf yX2_besideAnyOf, Cond.code yX2_besideAnyOf cX2_besideAnyOf 4 (some .int), Cond.methodLink RX0 109 yX2_closedStreets, Cond.instanceMethod yX2_closedStreets, Cond.selects RX2 yX2_closedStreets yX2_closedStreets, Cond.code yX2_closedStreets cX2_closedStreets 1 (some .int), Cond.methodLink RX2 37 yJ6_bitCount_0f7a4, Cond.methodLink RX5 27 yX0_passHours, Cond.instanceMethod yX0_passHours, Cond.selects RX0 yX0_passHours yX0_passHours, Cond.code yX0_passHours cX0_passHours 7 (some .int), Cond.fieldLink RX0 62 "DogBoard$Board" "growth" "I", Cond.methodLink RX0 223 yX0_faultOfPassing, Cond.instanceMethod yX0_faultOfPassing, Cond.selects RX0 yX0_faultOfPassing yX0_faultOfPassing]
def wsX5_playTurn_r9 : List Cond := [Cond.code yX0_faultOfPassing cX0_faultOfPassing 2 (some .int)]
def wsX5_playTurn : List Cond := .code yX5_playTurn cX5_playTurn 3 (some .int) :: ((wsX5_playTurn_r1 ++ (wsX5_playTurn_r2 ++ (wsX5_playTurn_r3 ++ (wsX5_playTurn_r4 ++ (wsX5_playTurn_r5 ++ (wsX5_playTurn_r6 ++ (wsX5_playTurn_r7 ++ (wsX5_playTurn_r8 ++ wsX5_playTurn_r9)))))))) ++ wsX00 ++ wsX30 ++ wsX20)
def wsX6_init : List Cond := .code yX6_init cX6_init 1 none :: ([.methodLink RX6 3 objectInit, .instanceMethod objectInit, .code objectInit ⟨#[0xb1]⟩ 1 none, .arrayClass .int, .fieldLink RX6 9 "DogBoard$Text" "signs" "[I", .fieldLink RX6 15 "DogBoard$Text" "parts" "[I"] ++ wsX60)
def wsX6_isFull : List Cond := .code yX6_isFull cX6_isFull 1 (some .boolean) :: ([.fieldLink RX6 18 "DogBoard$Text" "length" "I", .fieldLink RX6 9 "DogBoard$Text" "signs" "[I"] ++ wsX60)
def wsX6_add : List Cond := .code yX6_add cX6_add 2 (some .int) :: ([.fieldLink RX6 18 "DogBoard$Text" "length" "I", .fieldLink RX6 9 "DogBoard$Text" "signs" "[I"] ++ wsX60)
def wsX6_empty : List Cond := .code yX6_empty cX6_empty 2 (some .int) :: ([.fieldLink RX6 18 "DogBoard$Text" "length" "I"] ++ wsX60)
def wsX6_signHere : List Cond := .code yX6_signHere cX6_signHere 2 (some .int) :: ([.fieldLink RX6 32 "DogBoard$Text" "position" "I", .fieldLink RX6 18 "DogBoard$Text" "length" "I", .fieldLink RX6 9 "DogBoard$Text" "signs" "[I"] ++ wsX60)
def wsX6_readStart : List Cond := .code yX6_readStart cX6_readStart 1 (some .boolean) :: ([.fieldLink RX6 32 "DogBoard$Text" "position" "I", .methodLink RX6 60 yX6_signHere, .instanceMethod yX6_signHere, .selects RX6 yX6_signHere yX6_signHere, .initialized RX6, .code yX6_signHere cX6_signHere 2 (some .int), .fieldLink RX6 18 "DogBoard$Text" "length" "I", .fieldLink RX6 9 "DogBoard$Text" "signs" "[I"] ++ wsX60)
def wsX6_hasMore : List Cond := .code yX6_hasMore cX6_hasMore 1 (some .boolean) :: ([.fieldLink RX6 32 "DogBoard$Text" "position" "I", .fieldLink RX6 18 "DogBoard$Text" "length" "I"] ++ wsX60)
def wsX6_keepPart : List Cond := .code yX6_keepPart cX6_keepPart 2 none :: ([.fieldLink RX6 64 "DogBoard$Text" "partCount" "I", .fieldLink RX6 15 "DogBoard$Text" "parts" "[I"] ++ wsX60)
def wsX6_readNumber : List Cond := .code yX6_readNumber cX6_readNumber 8 (some .boolean) :: ([.fieldLink RX6 32 "DogBoard$Text" "position" "I", .methodLink RX6 60 yX6_signHere, .instanceMethod yX6_signHere, .selects RX6 yX6_signHere yX6_signHere, .initialized RX6, .code yX6_signHere cX6_signHere 2 (some .int), .fieldLink RX6 18 "DogBoard$Text" "length" "I", .fieldLink RX6 9 "DogBoard$Text" "signs" "[I", .methodLink RX6 80 yX6_keepPart, .instanceMethod yX6_keepPart, .selects RX6 yX6_keepPart yX6_keepPart, .code yX6_keepPart cX6_keepPart 2 none, .fieldLink RX6 64 "DogBoard$Text" "partCount" "I", .fieldLink RX6 15 "DogBoard$Text" "parts" "[I"] ++ wsX60)
def wsX6_readCorner : List Cond := .code yX6_readCorner cX6_readCorner 1 (some .boolean) :: ([.methodLink RX6 67 yX6_readNumber, .instanceMethod yX6_readNumber, .selects RX6 yX6_readNumber yX6_readNumber, .initialized RX6, .code yX6_readNumber cX6_readNumber 8 (some .boolean), .fieldLink RX6 32 "DogBoard$Text" "position" "I", .methodLink RX6 60 yX6_signHere, .instanceMethod yX6_signHere, .selects RX6 yX6_signHere yX6_signHere, .code yX6_signHere cX6_signHere 2 (some .int), .fieldLink RX6 18 "DogBoard$Text" "length" "I", .fieldLink RX6 9 "DogBoard$Text" "signs" "[I", .methodLink RX6 80 yX6_keepPart, .instanceMethod yX6_keepPart, .selects RX6 yX6_keepPart yX6_keepPart, .code yX6_keepPart cX6_keepPart 2 none, .fieldLink RX6 64 "DogBoard$Text" "partCount" "I", .fieldLink RX6 15 "DogBoard$Text" "parts" "[I"] ++ wsX60)
def wsX6_readFinder : List Cond := .code yX6_readFinder cX6_readFinder 1 (some .boolean) :: ([.methodLink RX6 67 yX6_readNumber, .instanceMethod yX6_readNumber, .selects RX6 yX6_readNumber yX6_readNumber, .initialized RX6, .code yX6_readNumber cX6_readNumber 8 (some .boolean), .fieldLink RX6 32 "DogBoard$Text" "position" "I", .methodLink RX6 60 yX6_signHere, .instanceMethod yX6_signHere, .selects RX6 yX6_signHere yX6_signHere, .code yX6_signHere cX6_signHere 2 (some .int), .fieldLink RX6 18 "DogBoard$Text" "length" "I", .fieldLink RX6 9 "DogBoard$Text" "signs" "[I", .methodLink RX6 80 yX6_keepPart, .instanceMethod yX6_keepPart, .selects RX6 yX6_keepPart yX6_keepPart, .code yX6_keepPart cX6_keepPart 2 none, .fieldLink RX6 64 "DogBoard$Text" "partCount" "I", .fieldLink RX6 15 "DogBoard$Text" "parts" "[I"] ++ wsX60)
def wsX6_readPlusOrMinus : List Cond := .code yX6_readPlusOrMinus cX6_readPlusOrMinus 2 (some .boolean) :: ([.fieldLink RX6 32 "DogBoard$Text" "position" "I", .methodLink RX6 60 yX6_signHere, .instanceMethod yX6_signHere, .selects RX6 yX6_signHere yX6_signHere, .initialized RX6, .code yX6_signHere cX6_signHere 2 (some .int), .fieldLink RX6 18 "DogBoard$Text" "length" "I", .fieldLink RX6 9 "DogBoard$Text" "signs" "[I", .methodLink RX6 80 yX6_keepPart, .instanceMethod yX6_keepPart, .selects RX6 yX6_keepPart yX6_keepPart, .code yX6_keepPart cX6_keepPart 2 none, .fieldLink RX6 64 "DogBoard$Text" "partCount" "I", .fieldLink RX6 15 "DogBoard$Text" "parts" "[I"] ++ wsX60)
def wsX6_readCommand_r1 : List Cond := [Cond.fieldLink RX6 35 "DogBoard$Text" "letter" "I", Cond.fieldLink RX6 64 "DogBoard$Text" "partCount" "I", Cond.fieldLink RX6 32 "DogBoard$Text" "position" "I", Cond.methodLink RX6 60 yX6_signHere, Cond.instanceMethod yX6_signHere, Cond.selects RX6 yX6_signHere yX6_signHere, Cond.initialized RX6, Cond.code yX6_signHere cX6_signHere 2 (some .int), Cond.fieldLink RX6 18 "DogBoard$Text" "length" "I", Cond.fieldLink RX6 9 "DogBoard$Text" "signs" "[I", Cond.methodLink RX6 67 yX6_readNumber, Cond.instanceMethod yX6_readNumber, Cond.selects RX6 yX6_readNumber yX6_readNumber, Cond.code yX6_readNumber cX6_readNumber 8 (some .boolean), Cond.methodLink RX6 80 yX6_keepPart, Cond.instanceMethod yX6_keepPart, Cond.selects RX6 yX6_keepPart yX6_keepPart, Cond.code yX6_keepPart cX6_keepPart 2 none, Cond.fieldLink RX6 15 "DogBoard$Text" "parts" "[I", Cond.methodLink RX6 71 yX6_readCorner, Cond.instanceMethod yX6_readCorner, Cond.selects RX6 yX6_readCorner yX6_readCorner, Cond.code yX6_readCorner cX6_readCorner 1 (some .boolean), Cond.methodLink RX6 74 yX6_readFinder]
def wsX6_readCommand_r2 : List Cond := [Cond.instanceMethod yX6_readFinder, Cond.selects RX6 yX6_readFinder yX6_readFinder, Cond.code yX6_readFinder cX6_readFinder 1 (some .boolean), Cond.methodLink RX6 77 yX6_readPlusOrMinus, Cond.instanceMethod yX6_readPlusOrMinus, Cond.selects RX6 yX6_readPlusOrMinus yX6_readPlusOrMinus, Cond.code yX6_readPlusOrMinus cX6_readPlusOrMinus 2 (some .boolean)]
def wsX6_readCommand : List Cond := .code yX6_readCommand cX6_readCommand 1 (some .boolean) :: ((wsX6_readCommand_r1 ++ wsX6_readCommand_r2) ++ wsX60)
def wsX6_firstError_r1 : List Cond := [Cond.fieldLink RX6 32 "DogBoard$Text" "position" "I", Cond.methodLink RX6 22 yX6_readStart, Cond.instanceMethod yX6_readStart, Cond.selects RX6 yX6_readStart yX6_readStart, Cond.initialized RX6, Cond.code yX6_readStart cX6_readStart 1 (some .boolean), Cond.methodLink RX6 60 yX6_signHere, Cond.instanceMethod yX6_signHere, Cond.selects RX6 yX6_signHere yX6_signHere, Cond.code yX6_signHere cX6_signHere 2 (some .int), Cond.fieldLink RX6 18 "DogBoard$Text" "length" "I", Cond.fieldLink RX6 9 "DogBoard$Text" "signs" "[I", Cond.methodLink RX6 26 yX6_hasMore, Cond.instanceMethod yX6_hasMore, Cond.selects RX6 yX6_hasMore yX6_hasMore, Cond.code yX6_hasMore cX6_hasMore 1 (some .boolean), Cond.methodLink RX6 29 yX6_readCommand, Cond.instanceMethod yX6_readCommand, Cond.selects RX6 yX6_readCommand yX6_readCommand, Cond.code yX6_readCommand cX6_readCommand 1 (some .boolean), Cond.fieldLink RX6 35 "DogBoard$Text" "letter" "I", Cond.fieldLink RX6 64 "DogBoard$Text" "partCount" "I", Cond.methodLink RX6 67 yX6_readNumber, Cond.instanceMethod yX6_readNumber]
def wsX6_firstError_r2 : List Cond := [Cond.selects RX6 yX6_readNumber yX6_readNumber, Cond.code yX6_readNumber cX6_readNumber 8 (some .boolean), Cond.methodLink RX6 80 yX6_keepPart, Cond.instanceMethod yX6_keepPart, Cond.selects RX6 yX6_keepPart yX6_keepPart, Cond.code yX6_keepPart cX6_keepPart 2 none, Cond.fieldLink RX6 15 "DogBoard$Text" "parts" "[I", Cond.methodLink RX6 71 yX6_readCorner, Cond.instanceMethod yX6_readCorner, Cond.selects RX6 yX6_readCorner yX6_readCorner, Cond.code yX6_readCorner cX6_readCorner 1 (some .boolean), Cond.methodLink RX6 74 yX6_readFinder, Cond.instanceMethod yX6_readFinder, Cond.selects RX6 yX6_readFinder yX6_readFinder, Cond.code yX6_readFinder cX6_readFinder 1 (some .boolean), Cond.methodLink RX6 77 yX6_readPlusOrMinus, Cond.instanceMethod yX6_readPlusOrMinus, Cond.selects RX6 yX6_readPlusOrMinus yX6_readPlusOrMinus, Cond.code yX6_readPlusOrMinus cX6_readPlusOrMinus 2 (some .boolean)]
def wsX6_firstError : List Cond := .code yX6_firstError cX6_firstError 3 (some .int) :: ((wsX6_firstError_r1 ++ wsX6_firstError_r2) ++ wsX60)
def wsX6_doCommand_r1 : List Cond := [Cond.fieldLink RX6 35 "DogBoard$Text" "letter" "I", Cond.fieldLink RX6 15 "DogBoard$Text" "parts" "[I", Cond.methodLink RX6 38 yX0_loseDog, Cond.instanceMethod yX0_loseDog, Cond.selects RX0 yX0_loseDog yX0_loseDog, Cond.initialized RX0, Cond.code yX0_loseDog cX0_loseDog 6 (some .int), Cond.fieldLink RX0 23 "DogBoard$Board" "dogs" "LDogBoard$Rows;", Cond.fieldLink RX0 49 "DogBoard$Board" "hour" "I", Cond.fieldLink RX0 53 "DogBoard$Board" "paid" "I", Cond.methodLink RX0 176 yX0_faultOfLosing, Cond.instanceMethod yX0_faultOfLosing, Cond.selects RX0 yX0_faultOfLosing yX0_faultOfLosing, Cond.code yX0_faultOfLosing cX0_faultOfLosing 5 (some .int), Cond.static yX7_isCorner, Cond.initialized RX7, Cond.code yX7_isCorner cX7_isCorner 1 (some .boolean), Cond.methodLink RX7 44 yX7_isIn, Cond.static yX7_isIn, Cond.code yX7_isIn cX7_isIn 3 (some .boolean), Cond.methodLink RX0 172 yX3_isFull, Cond.instanceMethod yX3_isFull, Cond.selects RX3 yX3_isFull yX3_isFull, Cond.initialized RX3]
def wsX6_doCommand_r2 : List Cond := [Cond.code yX3_isFull cX3_isFull 1 (some .boolean), Cond.fieldLink RX3 28 "DogBoard$Rows" "count" "I", Cond.fieldLink RX3 9 "DogBoard$Rows" "most" "I", Cond.methodLink RX0 180 yX3_addRow, Cond.instanceMethod yX3_addRow, Cond.selects RX3 yX3_addRow yX3_addRow, Cond.code yX3_addRow cX3_addRow 3 (some .int), Cond.fieldLink RX3 15 "DogBoard$Rows" "width" "I", Cond.methodLink RX3 31 yX3_isFull, Cond.methodLink RX3 35 yX3_put, Cond.instanceMethod yX3_put, Cond.selects RX3 yX3_put yX3_put, Cond.code yX3_put cX3_put 5 none, Cond.fieldLink RX3 24 "DogBoard$Rows" "cells" "[I", Cond.methodLink RX0 183 yX3_put, Cond.methodLink RX6 44 yX0_tellSighting, Cond.instanceMethod yX0_tellSighting, Cond.selects RX0 yX0_tellSighting yX0_tellSighting, Cond.code yX0_tellSighting cX0_tellSighting 8 (some .int), Cond.fieldLink RX0 27 "DogBoard$Board" "sightings" "LDogBoard$Rows;", Cond.methodLink RX0 190 yX0_faultOfTelling, Cond.instanceMethod yX0_faultOfTelling, Cond.selects RX0 yX0_faultOfTelling yX0_faultOfTelling, Cond.code yX0_faultOfTelling cX0_faultOfTelling 5 (some .int)]
def wsX6_doCommand_r3 : List Cond := [Cond.static yX7_isFinder, Cond.code yX7_isFinder cX7_isFinder 1 (some .boolean), Cond.methodLink RX0 193 yX0_dogMeantBy, Cond.instanceMethod yX0_dogMeantBy, Cond.selects RX0 yX0_dogMeantBy yX0_dogMeantBy, Cond.code yX0_dogMeantBy cX0_dogMeantBy 6 (some .int), Cond.fieldLink RX0 65 "DogBoard$Board" "mostUnlike" "I", Cond.methodLink RX0 87 yX3_count, Cond.instanceMethod yX3_count, Cond.selects RX3 yX3_count yX3_count, Cond.code yX3_count cX3_count 1 (some .int), Cond.methodLink RX0 127 yX0_isMissing, Cond.instanceMethod yX0_isMissing, Cond.selects RX0 yX0_isMissing yX0_isMissing, Cond.code yX0_isMissing cX0_isMissing 2 (some .boolean), Cond.methodLink RX0 112 yX3_get, Cond.instanceMethod yX3_get, Cond.selects RX3 yX3_get yX3_get, Cond.code yX3_get cX3_get 4 (some .int), Cond.methodLink RX0 118 yX0_unlikeMarks, Cond.instanceMethod yX0_unlikeMarks, Cond.selects RX0 yX0_unlikeMarks yX0_unlikeMarks, Cond.code yX0_unlikeMarks cX0_unlikeMarks 3 (some .int), Cond.methodLink RX0 104 yJ6_bitCount_0f7a4]
def wsX6_doCommand_r4 : List Cond := [Cond.static yJ6_bitCount_0f7a4, Cond.initialized RJ6, Cond.code yJ6_bitCount_0f7a4 cJ6_bitCount_0f7a4 1 (some .int), Cond.constant RJ6 265 (1431655765), Cond.constant RJ6 266 (858993459), Cond.constant RJ6 267 (252645135), Cond.methodLink RX0 131 yX0_isMeantBefore, Cond.instanceMethod yX0_isMeantBefore, Cond.selects RX0 yX0_isMeantBefore yX0_isMeantBefore, Cond.code yX0_isMeantBefore cX0_isMeantBefore 6 (some .boolean), Cond.methodLink RX6 48 yX0_findDog, Cond.instanceMethod yX0_findDog, Cond.selects RX0 yX0_findDog yX0_findDog, Cond.code yX0_findDog cX0_findDog 11 (some .int), Cond.fieldLink RX0 30 "DogBoard$Board" "purses" "[I", Cond.fieldLink RX0 56 "DogBoard$Board" "given" "I", Cond.fieldLink RX0 59 "DogBoard$Board" "stayed" "I", Cond.methodLink RX0 199 yX0_faultOfFinding, Cond.instanceMethod yX0_faultOfFinding, Cond.selects RX0 yX0_faultOfFinding yX0_faultOfFinding, Cond.code yX0_faultOfFinding cX0_faultOfFinding 4 (some .int), Cond.methodLink RX0 196 yX0_faultOfAsking, Cond.instanceMethod yX0_faultOfAsking, Cond.selects RX0 yX0_faultOfAsking yX0_faultOfAsking]
def wsX6_doCommand_r5 : List Cond := [Cond.code yX0_faultOfAsking cX0_faultOfAsking 2 (some .int), Cond.methodLink RX0 151 yX3_has, Cond.instanceMethod yX3_has, Cond.selects RX3 yX3_has yX3_has, Cond.code yX3_has cX3_has 2 (some .boolean), Cond.methodLink RX0 121 yX0_trueFor, Cond.instanceMethod yX0_trueFor, Cond.selects RX0 yX0_trueFor yX0_trueFor, Cond.code yX0_trueFor cX0_trueFor 2 (some .int), Cond.methodLink RX0 135 yX0_trueNowFor, Cond.instanceMethod yX0_trueNowFor, Cond.selects RX0 yX0_trueNowFor yX0_trueNowFor, Cond.code yX0_trueNowFor cX0_trueNowFor 7 (some .int), Cond.fieldLink RX0 12 "DogBoard$Board" "quarter" "LDogBoard$Quarter;", Cond.methodLink RX0 138 yX2_isWithin, Cond.instanceMethod yX2_isWithin, Cond.selects RX2 yX2_isWithin yX2_isWithin, Cond.initialized RX2, Cond.code yX2_isWithin cX2_isWithin 5 (some .boolean), Cond.fieldLink RX2 9 "DogBoard$Quarter" "ways" "[I", Cond.methodLink RX0 124 yX0_fraudsFor, Cond.instanceMethod yX0_fraudsFor, Cond.selects RX0 yX0_fraudsFor yX0_fraudsFor, Cond.code yX0_fraudsFor cX0_fraudsFor 7 (some .int)]
def wsX6_doCommand_r6 : List Cond := [Cond.methodLink RX0 100 yX0_sightingsMeaning, Cond.instanceMethod yX0_sightingsMeaning, Cond.selects RX0 yX0_sightingsMeaning yX0_sightingsMeaning, Cond.code yX0_sightingsMeaning cX0_sightingsMeaning 4 (some .int), Cond.static yX7_hasBit, Cond.code yX7_hasBit cX7_hasBit 2 (some .boolean), Cond.methodLink RX0 145 yX0_fitsOneOf, Cond.instanceMethod yX0_fitsOneOf, Cond.selects RX0 yX0_fitsOneOf yX0_fitsOneOf, Cond.code yX0_fitsOneOf cX0_fitsOneOf 6 (some .boolean), Cond.methodLink RX0 148 Lib.Math.abs.name, Cond.static Lib.Math.abs.name, Cond.initialized "java/lang/Math", Cond.code Lib.Math.abs.name Lib.Math.abs.code 1 (some .int), Cond.methodLink RX0 203 yX0_coinsOf, Cond.instanceMethod yX0_coinsOf, Cond.selects RX0 yX0_coinsOf yX0_coinsOf, Cond.code yX0_coinsOf cX0_coinsOf 2 (some .int), Cond.methodLink RX0 206 yX0_shareBy, Cond.instanceMethod yX0_shareBy, Cond.selects RX0 yX0_shareBy yX0_shareBy, Cond.code yX0_shareBy cX0_shareBy 10 (some .int), Cond.methodLink RX0 210 yX0_helpOf, Cond.instanceMethod yX0_helpOf]
def wsX6_doCommand_r7 : List Cond := [Cond.selects RX0 yX0_helpOf yX0_helpOf, Cond.code yX0_helpOf cX0_helpOf 4 (some .int), Cond.methodLink RX6 52 yX0_closeStreet, Cond.instanceMethod yX0_closeStreet, Cond.selects RX0 yX0_closeStreet yX0_closeStreet, Cond.code yX0_closeStreet cX0_closeStreet 4 (some .int), Cond.methodLink RX0 216 yX0_faultOfClosing, Cond.instanceMethod yX0_faultOfClosing, Cond.selects RX0 yX0_faultOfClosing yX0_faultOfClosing, Cond.code yX0_faultOfClosing cX0_faultOfClosing 3 (some .int), Cond.methodLink RX0 213 yX2_streetBetween, Cond.static yX2_streetBetween, Cond.code yX2_streetBetween cX2_streetBetween 3 (some .int), Cond.fieldLink RX2 43 "DogBoard$Quarter" "ENDS" "[I", Cond.methodLink RX0 219 yX2_setClosed, Cond.instanceMethod yX2_setClosed, Cond.selects RX2 yX2_setClosed yX2_setClosed, Cond.code yX2_setClosed cX2_setClosed 4 none, Cond.fieldLink RX2 18 "DogBoard$Quarter" "closed" "I", Cond.methodLink RX2 22 yX2_measureAll, Cond.instanceMethod yX2_measureAll, Cond.selects RX2 yX2_measureAll yX2_measureAll, Cond.code yX2_measureAll cX2_measureAll 5 none, Cond.methodLink RX2 46 yJ7_fill_53178]
def wsX6_doCommand_r8 : List Cond := [Cond.static yJ7_fill_53178, Cond.initialized RJ7, Cond.code yJ7_fill_53178 cJ7_fill_53178 4 none, Cond.methodLink RX2 52 yX2_noteWays, Cond.instanceMethod yX2_noteWays, Cond.selects RX2 yX2_noteWays yX2_noteWays, Cond.code yX2_noteWays cX2_noteWays 6 none, Cond.methodLink RX2 56 yX2_besideAnyOf, Cond.instanceMethod yX2_besideAnyOf, Cond.selects RX2 yX2_besideAnyOf yX2_besideAnyOf, Cond.code yX2_besideAnyOf cX2_besideAnyOf 4 (some .int), Cond.methodLink RX0 109 yX2_closedStreets, Cond.instanceMethod yX2_closedStreets, Cond.selects RX2 yX2_closedStreets yX2_closedStreets, Cond.code yX2_closedStreets cX2_closedStreets 1 (some .int), Cond.methodLink RX2 37 yJ6_bitCount_0f7a4, Cond.methodLink RX6 56 yX0_passHours, Cond.instanceMethod yX0_passHours, Cond.selects RX0 yX0_passHours yX0_passHours, Cond.code yX0_passHours cX0_passHours 7 (some .int), Cond.fieldLink RX0 62 "DogBoard$Board" "growth" "I", Cond.methodLink RX0 223 yX0_faultOfPassing, Cond.instanceMethod yX0_faultOfPassing, Cond.selects RX0 yX0_faultOfPassing yX0_faultOfPassing]
def wsX6_doCommand_r9 : List Cond := [Cond.code yX0_faultOfPassing cX0_faultOfPassing 2 (some .int)]
def wsX6_doCommand : List Cond := .code yX6_doCommand cX6_doCommand 2 (some .int) :: ((wsX6_doCommand_r1 ++ (wsX6_doCommand_r2 ++ (wsX6_doCommand_r3 ++ (wsX6_doCommand_r4 ++ (wsX6_doCommand_r5 ++ (wsX6_doCommand_r6 ++ (wsX6_doCommand_r7 ++ (wsX6_doCommand_r8 ++ wsX6_doCommand_r9)))))))) ++ wsX60 ++ wsX00 ++ wsX30 ++ wsX20)
def wsX7_init_r1 : List Cond := [Cond.methodLink RX7 1 objectInit, Cond.instanceMethod objectInit, Cond.code objectInit ⟨#[0xb1]⟩ 1 none, Cond.classLink RX7 7 RX0, Cond.instantiable RX0 11, Cond.initialized RX0, Cond.fieldLink RX7 10 "DogBoard" "now" "LDogBoard$Board;", Cond.fieldLink RX7 16 "DogBoard" "trial" "LDogBoard$Board;", Cond.classLink RX7 19 RX1, Cond.instantiable RX1 3, Cond.initialized RX1, Cond.fieldLink RX7 22 "DogBoard" "history" "LDogBoard$History;", Cond.fieldLink RX7 26 "DogBoard" "slots" "[LDogBoard$Board;", Cond.arrayClass .boolean, Cond.fieldLink RX7 30 "DogBoard" "filled" "[Z", Cond.classLink RX7 34 RX6, Cond.instantiable RX6 6, Cond.initialized RX6, Cond.fieldLink RX7 37 "DogBoard" "text" "LDogBoard$Text;", Cond.instanceMethod yX0_init, Cond.code yX0_init cX0_init 1 none, Cond.methodLink RX0 3 objectInit, Cond.classLink RX0 9 RX2, Cond.instantiable RX2 3]
def wsX7_init_r2 : List Cond := [Cond.initialized RX2, Cond.fieldLink RX0 12 "DogBoard$Board" "quarter" "LDogBoard$Quarter;", Cond.classLink RX0 18 RX3, Cond.instantiable RX3 4, Cond.initialized RX3, Cond.fieldLink RX0 23 "DogBoard$Board" "dogs" "LDogBoard$Rows;", Cond.fieldLink RX0 27 "DogBoard$Board" "sightings" "LDogBoard$Rows;", Cond.arrayClass .int, Cond.fieldLink RX0 30 "DogBoard$Board" "purses" "[I", Cond.fieldLink RX0 34 "DogBoard$Board" "places" "[I", Cond.instanceMethod yX2_init, Cond.code yX2_init cX2_init 1 none, Cond.methodLink RX2 3 objectInit, Cond.fieldLink RX2 9 "DogBoard$Quarter" "ways" "[I", Cond.fieldLink RX2 15 "DogBoard$Quarter" "sweep" "[I", Cond.methodLink RX0 20 yX3_init, Cond.instanceMethod yX3_init, Cond.code yX3_init cX3_init 3 none, Cond.methodLink RX3 3 objectInit, Cond.fieldLink RX3 9 "DogBoard$Rows" "most" "I", Cond.fieldLink RX3 15 "DogBoard$Rows" "width" "I", Cond.methodLink RX3 18 Lib.Math.max.name, Cond.static Lib.Math.max.name, Cond.initialized "java/lang/Math"]
def wsX7_init_r3 : List Cond := [Cond.code Lib.Math.max.name Lib.Math.max.code 2 (some .int), Cond.fieldLink RX3 24 "DogBoard$Rows" "cells" "[I", Cond.methodLink RX7 21 yX1_init, Cond.instanceMethod yX1_init, Cond.code yX1_init cX1_init 2 none, Cond.methodLink RX1 3 objectInit, Cond.classLink RX1 9 RX0, Cond.fieldLink RX1 11 "DogBoard$History" "states" "[LDogBoard$Board;", Cond.instanceMethod yX6_init, Cond.code yX6_init cX6_init 1 none, Cond.methodLink RX6 3 objectInit, Cond.fieldLink RX6 9 "DogBoard$Text" "signs" "[I", Cond.fieldLink RX6 15 "DogBoard$Text" "parts" "[I", Cond.methodLink RX7 41 yX0_makeNew, Cond.instanceMethod yX0_makeNew, Cond.selects RX0 yX0_makeNew yX0_makeNew, Cond.code yX0_makeNew cX0_makeNew 1 none, Cond.fieldLink RX0 49 "DogBoard$Board" "hour" "I", Cond.fieldLink RX0 53 "DogBoard$Board" "paid" "I", Cond.fieldLink RX0 56 "DogBoard$Board" "given" "I", Cond.fieldLink RX0 59 "DogBoard$Board" "stayed" "I", Cond.fieldLink RX0 62 "DogBoard$Board" "growth" "I", Cond.fieldLink RX0 65 "DogBoard$Board" "mostUnlike" "I", Cond.methodLink RX0 37 yX2_openAll]
def wsX7_init_r4 : List Cond := [Cond.instanceMethod yX2_openAll, Cond.selects RX2 yX2_openAll yX2_openAll, Cond.code yX2_openAll cX2_openAll 1 none, Cond.fieldLink RX2 18 "DogBoard$Quarter" "closed" "I", Cond.methodLink RX2 22 yX2_measureAll, Cond.instanceMethod yX2_measureAll, Cond.selects RX2 yX2_measureAll yX2_measureAll, Cond.code yX2_measureAll cX2_measureAll 5 none, Cond.methodLink RX2 46 yJ7_fill_53178, Cond.static yJ7_fill_53178, Cond.initialized RJ7, Cond.code yJ7_fill_53178 cJ7_fill_53178 4 none, Cond.methodLink RX2 52 yX2_noteWays, Cond.instanceMethod yX2_noteWays, Cond.selects RX2 yX2_noteWays yX2_noteWays, Cond.code yX2_noteWays cX2_noteWays 6 none, Cond.static yX7_hasBit, Cond.initialized RX7, Cond.code yX7_hasBit cX7_hasBit 2 (some .boolean), Cond.methodLink RX2 56 yX2_besideAnyOf, Cond.instanceMethod yX2_besideAnyOf, Cond.selects RX2 yX2_besideAnyOf yX2_besideAnyOf, Cond.code yX2_besideAnyOf cX2_besideAnyOf 4 (some .int), Cond.fieldLink RX2 43 "DogBoard$Quarter" "ENDS" "[I"]
def wsX7_init_r5 : List Cond := [Cond.methodLink RX0 40 yX3_empty, Cond.instanceMethod yX3_empty, Cond.selects RX3 yX3_empty yX3_empty, Cond.code yX3_empty cX3_empty 1 none, Cond.fieldLink RX3 28 "DogBoard$Rows" "count" "I", Cond.methodLink RX0 43 yJ7_fill_53178]
def wsX7_init : List Cond := .code yX7_init cX7_init 2 none :: ((wsX7_init_r1 ++ (wsX7_init_r2 ++ (wsX7_init_r3 ++ (wsX7_init_r4 ++ wsX7_init_r5)))) ++ wsX00 ++ wsX70 ++ wsX10 ++ wsX60 ++ wsX20 ++ wsX30)
def wsX7_append : List Cond := .code yX7_append cX7_append 2 (some .int) :: ([.classLink RX7 48 "java/lang/IllegalArgumentException", .initialized "java/lang/IllegalArgumentException", .classLink RX7 59 "java/lang/IllegalStateException", .initialized "java/lang/IllegalStateException", .fieldLink RX7 37 "DogBoard" "text" "LDogBoard$Text;", .methodLink RX7 44 yX7_isIn, .static yX7_isIn, .initialized RX7, .code yX7_isIn cX7_isIn 3 (some .boolean), .methodLink RX7 55 yX6_isFull, .instanceMethod yX6_isFull, .selects RX6 yX6_isFull yX6_isFull, .initialized RX6, .code yX6_isFull cX6_isFull 1 (some .boolean), .fieldLink RX6 18 "DogBoard$Text" "length" "I", .fieldLink RX6 9 "DogBoard$Text" "signs" "[I", .methodLink RX7 64 yX6_add, .instanceMethod yX6_add, .selects RX6 yX6_add yX6_add, .code yX6_add cX6_add 2 (some .int)] ++ wsX70 ++ wsX60 ++ (vx_atS RX7 52 "java/lang/IllegalArgumentException" ["java/lang/RuntimeException", "java/lang/Exception"]).filter goodWord ++ (vx_atS RX7 63 "java/lang/IllegalStateException" ["java/lang/RuntimeException", "java/lang/Exception"]).filter goodWord)
def wsX7_clearText : List Cond := .code yX7_clearText cX7_clearText 1 (some .int) :: ([.fieldLink RX7 37 "DogBoard" "text" "LDogBoard$Text;", .methodLink RX7 68 yX6_empty, .instanceMethod yX6_empty, .selects RX6 yX6_empty yX6_empty, .initialized RX6, .code yX6_empty cX6_empty 2 (some .int), .fieldLink RX6 18 "DogBoard$Text" "length" "I"] ++ wsX70 ++ wsX60)
def wsX7_errorPosition_r1 : List Cond := [Cond.fieldLink RX7 37 "DogBoard" "text" "LDogBoard$Text;", Cond.methodLink RX7 72 yX6_firstError, Cond.instanceMethod yX6_firstError, Cond.selects RX6 yX6_firstError yX6_firstError, Cond.initialized RX6, Cond.code yX6_firstError cX6_firstError 3 (some .int), Cond.fieldLink RX6 32 "DogBoard$Text" "position" "I", Cond.methodLink RX6 22 yX6_readStart, Cond.instanceMethod yX6_readStart, Cond.selects RX6 yX6_readStart yX6_readStart, Cond.code yX6_readStart cX6_readStart 1 (some .boolean), Cond.methodLink RX6 60 yX6_signHere, Cond.instanceMethod yX6_signHere, Cond.selects RX6 yX6_signHere yX6_signHere, Cond.code yX6_signHere cX6_signHere 2 (some .int), Cond.fieldLink RX6 18 "DogBoard$Text" "length" "I", Cond.fieldLink RX6 9 "DogBoard$Text" "signs" "[I", Cond.methodLink RX6 26 yX6_hasMore, Cond.instanceMethod yX6_hasMore, Cond.selects RX6 yX6_hasMore yX6_hasMore, Cond.code yX6_hasMore cX6_hasMore 1 (some .boolean), Cond.methodLink RX6 29 yX6_readCommand, Cond.instanceMethod yX6_readCommand, Cond.selects RX6 yX6_readCommand yX6_readCommand]
def wsX7_errorPosition_r2 : List Cond := [Cond.code yX6_readCommand cX6_readCommand 1 (some .boolean), Cond.fieldLink RX6 35 "DogBoard$Text" "letter" "I", Cond.fieldLink RX6 64 "DogBoard$Text" "partCount" "I", Cond.methodLink RX6 67 yX6_readNumber, Cond.instanceMethod yX6_readNumber, Cond.selects RX6 yX6_readNumber yX6_readNumber, Cond.code yX6_readNumber cX6_readNumber 8 (some .boolean), Cond.methodLink RX6 80 yX6_keepPart, Cond.instanceMethod yX6_keepPart, Cond.selects RX6 yX6_keepPart yX6_keepPart, Cond.code yX6_keepPart cX6_keepPart 2 none, Cond.fieldLink RX6 15 "DogBoard$Text" "parts" "[I", Cond.methodLink RX6 71 yX6_readCorner, Cond.instanceMethod yX6_readCorner, Cond.selects RX6 yX6_readCorner yX6_readCorner, Cond.code yX6_readCorner cX6_readCorner 1 (some .boolean), Cond.methodLink RX6 74 yX6_readFinder, Cond.instanceMethod yX6_readFinder, Cond.selects RX6 yX6_readFinder yX6_readFinder, Cond.code yX6_readFinder cX6_readFinder 1 (some .boolean), Cond.methodLink RX6 77 yX6_readPlusOrMinus, Cond.instanceMethod yX6_readPlusOrMinus, Cond.selects RX6 yX6_readPlusOrMinus yX6_readPlusOrMinus, Cond.code yX6_readPlusOrMinus cX6_readPlusOrMinus 2 (some .boolean)]
def wsX7_errorPosition : List Cond := .code yX7_errorPosition cX7_errorPosition 1 (some .int) :: ((wsX7_errorPosition_r1 ++ wsX7_errorPosition_r2) ++ wsX70 ++ wsX60)
def wsX7_load_r1 : List Cond := [Cond.classLink RX7 59 "java/lang/IllegalStateException", Cond.initialized "java/lang/IllegalStateException", Cond.fieldLink RX7 37 "DogBoard" "text" "LDogBoard$Text;", Cond.fieldLink RX7 10 "DogBoard" "now" "LDogBoard$Board;", Cond.fieldLink RX7 22 "DogBoard" "history" "LDogBoard$History;", Cond.fieldLink RX7 30 "DogBoard" "filled" "[Z", Cond.methodLink RX7 72 yX6_firstError, Cond.instanceMethod yX6_firstError, Cond.selects RX6 yX6_firstError yX6_firstError, Cond.initialized RX6, Cond.code yX6_firstError cX6_firstError 3 (some .int), Cond.fieldLink RX6 32 "DogBoard$Text" "position" "I", Cond.methodLink RX6 22 yX6_readStart, Cond.instanceMethod yX6_readStart, Cond.selects RX6 yX6_readStart yX6_readStart, Cond.code yX6_readStart cX6_readStart 1 (some .boolean), Cond.methodLink RX6 60 yX6_signHere, Cond.instanceMethod yX6_signHere, Cond.selects RX6 yX6_signHere yX6_signHere, Cond.code yX6_signHere cX6_signHere 2 (some .int), Cond.fieldLink RX6 18 "DogBoard$Text" "length" "I", Cond.fieldLink RX6 9 "DogBoard$Text" "signs" "[I", Cond.methodLink RX6 26 yX6_hasMore, Cond.instanceMethod yX6_hasMore]
def wsX7_load_r2 : List Cond := [Cond.selects RX6 yX6_hasMore yX6_hasMore, Cond.code yX6_hasMore cX6_hasMore 1 (some .boolean), Cond.methodLink RX6 29 yX6_readCommand, Cond.instanceMethod yX6_readCommand, Cond.selects RX6 yX6_readCommand yX6_readCommand, Cond.code yX6_readCommand cX6_readCommand 1 (some .boolean), Cond.fieldLink RX6 35 "DogBoard$Text" "letter" "I", Cond.fieldLink RX6 64 "DogBoard$Text" "partCount" "I", Cond.methodLink RX6 67 yX6_readNumber, Cond.instanceMethod yX6_readNumber, Cond.selects RX6 yX6_readNumber yX6_readNumber, Cond.code yX6_readNumber cX6_readNumber 8 (some .boolean), Cond.methodLink RX6 80 yX6_keepPart, Cond.instanceMethod yX6_keepPart, Cond.selects RX6 yX6_keepPart yX6_keepPart, Cond.code yX6_keepPart cX6_keepPart 2 none, Cond.fieldLink RX6 15 "DogBoard$Text" "parts" "[I", Cond.methodLink RX6 71 yX6_readCorner, Cond.instanceMethod yX6_readCorner, Cond.selects RX6 yX6_readCorner yX6_readCorner, Cond.code yX6_readCorner cX6_readCorner 1 (some .boolean), Cond.methodLink RX6 74 yX6_readFinder, Cond.instanceMethod yX6_readFinder, Cond.selects RX6 yX6_readFinder yX6_readFinder]
def wsX7_load_r3 : List Cond := [Cond.code yX6_readFinder cX6_readFinder 1 (some .boolean), Cond.methodLink RX6 77 yX6_readPlusOrMinus, Cond.instanceMethod yX6_readPlusOrMinus, Cond.selects RX6 yX6_readPlusOrMinus yX6_readPlusOrMinus, Cond.code yX6_readPlusOrMinus cX6_readPlusOrMinus 2 (some .boolean), Cond.methodLink RX7 41 yX0_makeNew, Cond.instanceMethod yX0_makeNew, Cond.selects RX0 yX0_makeNew yX0_makeNew, Cond.initialized RX0, Cond.code yX0_makeNew cX0_makeNew 1 none, Cond.fieldLink RX0 12 "DogBoard$Board" "quarter" "LDogBoard$Quarter;", Cond.fieldLink RX0 23 "DogBoard$Board" "dogs" "LDogBoard$Rows;", Cond.fieldLink RX0 27 "DogBoard$Board" "sightings" "LDogBoard$Rows;", Cond.fieldLink RX0 30 "DogBoard$Board" "purses" "[I", Cond.fieldLink RX0 49 "DogBoard$Board" "hour" "I", Cond.fieldLink RX0 53 "DogBoard$Board" "paid" "I", Cond.fieldLink RX0 56 "DogBoard$Board" "given" "I", Cond.fieldLink RX0 59 "DogBoard$Board" "stayed" "I", Cond.fieldLink RX0 62 "DogBoard$Board" "growth" "I", Cond.fieldLink RX0 65 "DogBoard$Board" "mostUnlike" "I", Cond.methodLink RX0 37 yX2_openAll, Cond.instanceMethod yX2_openAll, Cond.selects RX2 yX2_openAll yX2_openAll, Cond.initialized RX2]
def wsX7_load_r4 : List Cond := [Cond.code yX2_openAll cX2_openAll 1 none, Cond.fieldLink RX2 18 "DogBoard$Quarter" "closed" "I", Cond.methodLink RX2 22 yX2_measureAll, Cond.instanceMethod yX2_measureAll, Cond.selects RX2 yX2_measureAll yX2_measureAll, Cond.code yX2_measureAll cX2_measureAll 5 none, Cond.fieldLink RX2 9 "DogBoard$Quarter" "ways" "[I", Cond.methodLink RX2 46 yJ7_fill_53178, Cond.static yJ7_fill_53178, Cond.initialized RJ7, Cond.code yJ7_fill_53178 cJ7_fill_53178 4 none, Cond.methodLink RX2 52 yX2_noteWays, Cond.instanceMethod yX2_noteWays, Cond.selects RX2 yX2_noteWays yX2_noteWays, Cond.code yX2_noteWays cX2_noteWays 6 none, Cond.static yX7_hasBit, Cond.initialized RX7, Cond.code yX7_hasBit cX7_hasBit 2 (some .boolean), Cond.methodLink RX2 56 yX2_besideAnyOf, Cond.instanceMethod yX2_besideAnyOf, Cond.selects RX2 yX2_besideAnyOf yX2_besideAnyOf, Cond.code yX2_besideAnyOf cX2_besideAnyOf 4 (some .int), Cond.fieldLink RX2 43 "DogBoard$Quarter" "ENDS" "[I", Cond.methodLink RX0 40 yX3_empty]
def wsX7_load_r5 : List Cond := [Cond.instanceMethod yX3_empty, Cond.selects RX3 yX3_empty yX3_empty, Cond.initialized RX3, Cond.code yX3_empty cX3_empty 1 none, Cond.fieldLink RX3 28 "DogBoard$Rows" "count" "I", Cond.methodLink RX0 43 yJ7_fill_53178, Cond.methodLink RX7 77 yX1_forgetAll, Cond.instanceMethod yX1_forgetAll, Cond.selects RX1 yX1_forgetAll yX1_forgetAll, Cond.initialized RX1, Cond.code yX1_forgetAll cX1_forgetAll 1 none, Cond.fieldLink RX1 22 "DogBoard$History" "oldest" "I", Cond.fieldLink RX1 18 "DogBoard$History" "count" "I", Cond.methodLink RX7 80 yX6_readStart, Cond.methodLink RX7 83 yX6_hasMore, Cond.methodLink RX7 86 yX6_readCommand, Cond.methodLink RX7 89 yX6_doCommand, Cond.instanceMethod yX6_doCommand, Cond.selects RX6 yX6_doCommand yX6_doCommand, Cond.code yX6_doCommand cX6_doCommand 2 (some .int), Cond.methodLink RX6 38 yX0_loseDog, Cond.instanceMethod yX0_loseDog, Cond.selects RX0 yX0_loseDog yX0_loseDog, Cond.code yX0_loseDog cX0_loseDog 6 (some .int)]
def wsX7_load_r6 : List Cond := [Cond.methodLink RX0 176 yX0_faultOfLosing, Cond.instanceMethod yX0_faultOfLosing, Cond.selects RX0 yX0_faultOfLosing yX0_faultOfLosing, Cond.code yX0_faultOfLosing cX0_faultOfLosing 5 (some .int), Cond.static yX7_isCorner, Cond.code yX7_isCorner cX7_isCorner 1 (some .boolean), Cond.methodLink RX7 44 yX7_isIn, Cond.static yX7_isIn, Cond.code yX7_isIn cX7_isIn 3 (some .boolean), Cond.methodLink RX0 172 yX3_isFull, Cond.instanceMethod yX3_isFull, Cond.selects RX3 yX3_isFull yX3_isFull, Cond.code yX3_isFull cX3_isFull 1 (some .boolean), Cond.fieldLink RX3 9 "DogBoard$Rows" "most" "I", Cond.methodLink RX0 180 yX3_addRow, Cond.instanceMethod yX3_addRow, Cond.selects RX3 yX3_addRow yX3_addRow, Cond.code yX3_addRow cX3_addRow 3 (some .int), Cond.fieldLink RX3 15 "DogBoard$Rows" "width" "I", Cond.methodLink RX3 31 yX3_isFull, Cond.methodLink RX3 35 yX3_put, Cond.instanceMethod yX3_put, Cond.selects RX3 yX3_put yX3_put, Cond.code yX3_put cX3_put 5 none]
def wsX7_load_r7 : List Cond := [Cond.fieldLink RX3 24 "DogBoard$Rows" "cells" "[I", Cond.methodLink RX0 183 yX3_put, Cond.methodLink RX6 44 yX0_tellSighting, Cond.instanceMethod yX0_tellSighting, Cond.selects RX0 yX0_tellSighting yX0_tellSighting, Cond.code yX0_tellSighting cX0_tellSighting 8 (some .int), Cond.methodLink RX0 190 yX0_faultOfTelling, Cond.instanceMethod yX0_faultOfTelling, Cond.selects RX0 yX0_faultOfTelling yX0_faultOfTelling, Cond.code yX0_faultOfTelling cX0_faultOfTelling 5 (some .int), Cond.static yX7_isFinder, Cond.code yX7_isFinder cX7_isFinder 1 (some .boolean), Cond.methodLink RX0 193 yX0_dogMeantBy, Cond.instanceMethod yX0_dogMeantBy, Cond.selects RX0 yX0_dogMeantBy yX0_dogMeantBy, Cond.code yX0_dogMeantBy cX0_dogMeantBy 6 (some .int), Cond.methodLink RX0 87 yX3_count, Cond.instanceMethod yX3_count, Cond.selects RX3 yX3_count yX3_count, Cond.code yX3_count cX3_count 1 (some .int), Cond.methodLink RX0 127 yX0_isMissing, Cond.instanceMethod yX0_isMissing, Cond.selects RX0 yX0_isMissing yX0_isMissing, Cond.code yX0_isMissing cX0_isMissing 2 (some .boolean)]
def wsX7_load_r8 : List Cond := [Cond.methodLink RX0 112 yX3_get, Cond.instanceMethod yX3_get, Cond.selects RX3 yX3_get yX3_get, Cond.code yX3_get cX3_get 4 (some .int), Cond.methodLink RX0 118 yX0_unlikeMarks, Cond.instanceMethod yX0_unlikeMarks, Cond.selects RX0 yX0_unlikeMarks yX0_unlikeMarks, Cond.code yX0_unlikeMarks cX0_unlikeMarks 3 (some .int), Cond.methodLink RX0 104 yJ6_bitCount_0f7a4, Cond.static yJ6_bitCount_0f7a4, Cond.initialized RJ6, Cond.code yJ6_bitCount_0f7a4 cJ6_bitCount_0f7a4 1 (some .int), Cond.constant RJ6 265 (1431655765), Cond.constant RJ6 266 (858993459), Cond.constant RJ6 267 (252645135), Cond.methodLink RX0 131 yX0_isMeantBefore, Cond.instanceMethod yX0_isMeantBefore, Cond.selects RX0 yX0_isMeantBefore yX0_isMeantBefore, Cond.code yX0_isMeantBefore cX0_isMeantBefore 6 (some .boolean), Cond.methodLink RX6 48 yX0_findDog, Cond.instanceMethod yX0_findDog, Cond.selects RX0 yX0_findDog yX0_findDog, Cond.code yX0_findDog cX0_findDog 11 (some .int), Cond.methodLink RX0 199 yX0_faultOfFinding]
def wsX7_load_r9 : List Cond := [Cond.instanceMethod yX0_faultOfFinding, Cond.selects RX0 yX0_faultOfFinding yX0_faultOfFinding, Cond.code yX0_faultOfFinding cX0_faultOfFinding 4 (some .int), Cond.methodLink RX0 196 yX0_faultOfAsking, Cond.instanceMethod yX0_faultOfAsking, Cond.selects RX0 yX0_faultOfAsking yX0_faultOfAsking, Cond.code yX0_faultOfAsking cX0_faultOfAsking 2 (some .int), Cond.methodLink RX0 151 yX3_has, Cond.instanceMethod yX3_has, Cond.selects RX3 yX3_has yX3_has, Cond.code yX3_has cX3_has 2 (some .boolean), Cond.methodLink RX0 121 yX0_trueFor, Cond.instanceMethod yX0_trueFor, Cond.selects RX0 yX0_trueFor yX0_trueFor, Cond.code yX0_trueFor cX0_trueFor 2 (some .int), Cond.methodLink RX0 135 yX0_trueNowFor, Cond.instanceMethod yX0_trueNowFor, Cond.selects RX0 yX0_trueNowFor yX0_trueNowFor, Cond.code yX0_trueNowFor cX0_trueNowFor 7 (some .int), Cond.methodLink RX0 138 yX2_isWithin, Cond.instanceMethod yX2_isWithin, Cond.selects RX2 yX2_isWithin yX2_isWithin, Cond.code yX2_isWithin cX2_isWithin 5 (some .boolean), Cond.methodLink RX0 124 yX0_fraudsFor]
def wsX7_load_r10 : List Cond := [Cond.instanceMethod yX0_fraudsFor, Cond.selects RX0 yX0_fraudsFor yX0_fraudsFor, Cond.code yX0_fraudsFor cX0_fraudsFor 7 (some .int), Cond.methodLink RX0 100 yX0_sightingsMeaning, Cond.instanceMethod yX0_sightingsMeaning, Cond.selects RX0 yX0_sightingsMeaning yX0_sightingsMeaning, Cond.code yX0_sightingsMeaning cX0_sightingsMeaning 4 (some .int), Cond.methodLink RX0 145 yX0_fitsOneOf, Cond.instanceMethod yX0_fitsOneOf, Cond.selects RX0 yX0_fitsOneOf yX0_fitsOneOf, Cond.code yX0_fitsOneOf cX0_fitsOneOf 6 (some .boolean), Cond.methodLink RX0 148 Lib.Math.abs.name, Cond.static Lib.Math.abs.name, Cond.initialized "java/lang/Math", Cond.code Lib.Math.abs.name Lib.Math.abs.code 1 (some .int), Cond.methodLink RX0 203 yX0_coinsOf, Cond.instanceMethod yX0_coinsOf, Cond.selects RX0 yX0_coinsOf yX0_coinsOf, Cond.code yX0_coinsOf cX0_coinsOf 2 (some .int), Cond.methodLink RX0 206 yX0_shareBy, Cond.instanceMethod yX0_shareBy, Cond.selects RX0 yX0_shareBy yX0_shareBy, Cond.code yX0_shareBy cX0_shareBy 10 (some .int), Cond.methodLink RX0 210 yX0_helpOf]
def wsX7_load_r11 : List Cond := [Cond.instanceMethod yX0_helpOf, Cond.selects RX0 yX0_helpOf yX0_helpOf, Cond.code yX0_helpOf cX0_helpOf 4 (some .int), Cond.methodLink RX6 52 yX0_closeStreet, Cond.instanceMethod yX0_closeStreet, Cond.selects RX0 yX0_closeStreet yX0_closeStreet, Cond.code yX0_closeStreet cX0_closeStreet 4 (some .int), Cond.methodLink RX0 216 yX0_faultOfClosing, Cond.instanceMethod yX0_faultOfClosing, Cond.selects RX0 yX0_faultOfClosing yX0_faultOfClosing, Cond.code yX0_faultOfClosing cX0_faultOfClosing 3 (some .int), Cond.methodLink RX0 213 yX2_streetBetween, Cond.static yX2_streetBetween, Cond.code yX2_streetBetween cX2_streetBetween 3 (some .int), Cond.methodLink RX0 219 yX2_setClosed, Cond.instanceMethod yX2_setClosed, Cond.selects RX2 yX2_setClosed yX2_setClosed, Cond.code yX2_setClosed cX2_setClosed 4 none, Cond.methodLink RX0 109 yX2_closedStreets, Cond.instanceMethod yX2_closedStreets, Cond.selects RX2 yX2_closedStreets yX2_closedStreets, Cond.code yX2_closedStreets cX2_closedStreets 1 (some .int), Cond.methodLink RX2 37 yJ6_bitCount_0f7a4, Cond.methodLink RX6 56 yX0_passHours]
def wsX7_load_r12 : List Cond := [Cond.instanceMethod yX0_passHours, Cond.selects RX0 yX0_passHours yX0_passHours, Cond.code yX0_passHours cX0_passHours 7 (some .int), Cond.methodLink RX0 223 yX0_faultOfPassing, Cond.instanceMethod yX0_faultOfPassing, Cond.selects RX0 yX0_faultOfPassing yX0_faultOfPassing, Cond.code yX0_faultOfPassing cX0_faultOfPassing 2 (some .int)]
def wsX7_load : List Cond := .code yX7_load cX7_load 4 (some .int) :: ((wsX7_load_r1 ++ (wsX7_load_r2 ++ (wsX7_load_r3 ++ (wsX7_load_r4 ++ (wsX7_load_r5 ++ (wsX7_load_r6 ++ (wsX7_load_r7 ++ (wsX7_load_r8 ++ (wsX7_load_r9 ++ (wsX7_load_r10 ++ (wsX7_load_r11 ++ wsX7_load_r12))))))))))) ++ wsX70 ++ wsX60 ++ wsX00 ++ wsX20 ++ wsX30 ++ wsX10 ++ (vx_atS RX7 63 "java/lang/IllegalStateException" ["java/lang/RuntimeException", "java/lang/Exception"]).filter goodWord)
def wsX7_about_r1 : List Cond := [Cond.classLink RX7 48 "java/lang/IllegalArgumentException", Cond.initialized "java/lang/IllegalArgumentException", Cond.fieldLink RX7 10 "DogBoard" "now" "LDogBoard$Board;", Cond.methodLink RX7 44 yX7_isIn, Cond.static yX7_isIn, Cond.initialized RX7, Cond.code yX7_isIn cX7_isIn 3 (some .boolean), Cond.methodLink RX7 95 yX0_numberOfBoard, Cond.instanceMethod yX0_numberOfBoard, Cond.selects RX0 yX0_numberOfBoard yX0_numberOfBoard, Cond.initialized RX0, Cond.code yX0_numberOfBoard cX0_numberOfBoard 2 (some .int), Cond.fieldLink RX0 23 "DogBoard$Board" "dogs" "LDogBoard$Rows;", Cond.fieldLink RX0 27 "DogBoard$Board" "sightings" "LDogBoard$Rows;", Cond.fieldLink RX0 49 "DogBoard$Board" "hour" "I", Cond.fieldLink RX0 53 "DogBoard$Board" "paid" "I", Cond.fieldLink RX0 56 "DogBoard$Board" "given" "I", Cond.fieldLink RX0 59 "DogBoard$Board" "stayed" "I", Cond.fieldLink RX0 12 "DogBoard$Board" "quarter" "LDogBoard$Quarter;", Cond.methodLink RX0 87 yX3_count, Cond.instanceMethod yX3_count, Cond.selects RX3 yX3_count yX3_count, Cond.initialized RX3, Cond.code yX3_count cX3_count 1 (some .int)]
def wsX7_about_r2 : List Cond := [Cond.fieldLink RX3 28 "DogBoard$Rows" "count" "I", Cond.methodLink RX0 91 yX0_missingDogs, Cond.instanceMethod yX0_missingDogs, Cond.selects RX0 yX0_missingDogs yX0_missingDogs, Cond.code yX0_missingDogs cX0_missingDogs 3 (some .int), Cond.methodLink RX0 112 yX3_get, Cond.instanceMethod yX3_get, Cond.selects RX3 yX3_get yX3_get, Cond.code yX3_get cX3_get 4 (some .int), Cond.fieldLink RX3 15 "DogBoard$Rows" "width" "I", Cond.fieldLink RX3 24 "DogBoard$Rows" "cells" "[I", Cond.methodLink RX0 94 yX0_missingRewards, Cond.instanceMethod yX0_missingRewards, Cond.selects RX0 yX0_missingRewards yX0_missingRewards, Cond.code yX0_missingRewards cX0_missingRewards 3 (some .int), Cond.methodLink RX0 127 yX0_isMissing, Cond.instanceMethod yX0_isMissing, Cond.selects RX0 yX0_isMissing yX0_isMissing, Cond.code yX0_isMissing cX0_isMissing 2 (some .boolean), Cond.methodLink RX0 97 yX0_fraudsInAll, Cond.instanceMethod yX0_fraudsInAll, Cond.selects RX0 yX0_fraudsInAll yX0_fraudsInAll, Cond.code yX0_fraudsInAll cX0_fraudsInAll 3 (some .int), Cond.methodLink RX0 124 yX0_fraudsFor]
def wsX7_about_r3 : List Cond := [Cond.instanceMethod yX0_fraudsFor, Cond.selects RX0 yX0_fraudsFor yX0_fraudsFor, Cond.code yX0_fraudsFor cX0_fraudsFor 7 (some .int), Cond.methodLink RX0 135 yX0_trueNowFor, Cond.instanceMethod yX0_trueNowFor, Cond.selects RX0 yX0_trueNowFor yX0_trueNowFor, Cond.code yX0_trueNowFor cX0_trueNowFor 7 (some .int), Cond.methodLink RX0 138 yX2_isWithin, Cond.instanceMethod yX2_isWithin, Cond.selects RX2 yX2_isWithin yX2_isWithin, Cond.initialized RX2, Cond.code yX2_isWithin cX2_isWithin 5 (some .boolean), Cond.fieldLink RX2 9 "DogBoard$Quarter" "ways" "[I", Cond.methodLink RX0 100 yX0_sightingsMeaning, Cond.instanceMethod yX0_sightingsMeaning, Cond.selects RX0 yX0_sightingsMeaning yX0_sightingsMeaning, Cond.code yX0_sightingsMeaning cX0_sightingsMeaning 4 (some .int), Cond.static yX7_hasBit, Cond.code yX7_hasBit cX7_hasBit 2 (some .boolean), Cond.methodLink RX0 145 yX0_fitsOneOf, Cond.instanceMethod yX0_fitsOneOf, Cond.selects RX0 yX0_fitsOneOf yX0_fitsOneOf, Cond.code yX0_fitsOneOf cX0_fitsOneOf 6 (some .boolean), Cond.methodLink RX0 148 Lib.Math.abs.name]
def wsX7_about_r4 : List Cond := [Cond.static Lib.Math.abs.name, Cond.initialized "java/lang/Math", Cond.code Lib.Math.abs.name Lib.Math.abs.code 1 (some .int), Cond.methodLink RX0 104 yJ6_bitCount_0f7a4, Cond.static yJ6_bitCount_0f7a4, Cond.initialized RJ6, Cond.code yJ6_bitCount_0f7a4 cJ6_bitCount_0f7a4 1 (some .int), Cond.constant RJ6 265 (1431655765), Cond.constant RJ6 266 (858993459), Cond.constant RJ6 267 (252645135), Cond.methodLink RX0 109 yX2_closedStreets, Cond.instanceMethod yX2_closedStreets, Cond.selects RX2 yX2_closedStreets yX2_closedStreets, Cond.code yX2_closedStreets cX2_closedStreets 1 (some .int), Cond.fieldLink RX2 18 "DogBoard$Quarter" "closed" "I", Cond.methodLink RX2 37 yJ6_bitCount_0f7a4]
def wsX7_about : List Cond := .code yX7_about cX7_about 2 (some .int) :: ((wsX7_about_r1 ++ (wsX7_about_r2 ++ (wsX7_about_r3 ++ wsX7_about_r4))) ++ wsX70 ++ wsX00 ++ wsX30 ++ wsX20 ++ (vx_atS RX7 52 "java/lang/IllegalArgumentException" ["java/lang/RuntimeException", "java/lang/Exception"]).filter goodWord)
def wsX7_dogOf_r1 : List Cond := [Cond.classLink RX7 108 "java/lang/IndexOutOfBoundsException", Cond.initialized "java/lang/IndexOutOfBoundsException", Cond.classLink RX7 48 "java/lang/IllegalArgumentException", Cond.initialized "java/lang/IllegalArgumentException", Cond.fieldLink RX7 10 "DogBoard" "now" "LDogBoard$Board;", Cond.methodLink RX7 102 yX3_has, Cond.instanceMethod yX3_has, Cond.selects RX3 yX3_has yX3_has, Cond.initialized RX3, Cond.code yX3_has cX3_has 2 (some .boolean), Cond.fieldLink RX3 28 "DogBoard$Rows" "count" "I", Cond.methodLink RX7 44 yX7_isIn, Cond.static yX7_isIn, Cond.initialized RX7, Cond.code yX7_isIn cX7_isIn 3 (some .boolean), Cond.methodLink RX7 115 yX0_numberOfDog, Cond.instanceMethod yX0_numberOfDog, Cond.selects RX0 yX0_numberOfDog yX0_numberOfDog, Cond.initialized RX0, Cond.code yX0_numberOfDog cX0_numberOfDog 3 (some .int), Cond.fieldLink RX0 23 "DogBoard$Board" "dogs" "LDogBoard$Rows;", Cond.methodLink RX0 112 yX3_get, Cond.instanceMethod yX3_get, Cond.selects RX3 yX3_get yX3_get]
def wsX7_dogOf_r2 : List Cond := [Cond.code yX3_get cX3_get 4 (some .int), Cond.fieldLink RX3 15 "DogBoard$Rows" "width" "I", Cond.fieldLink RX3 24 "DogBoard$Rows" "cells" "[I", Cond.methodLink RX0 100 yX0_sightingsMeaning, Cond.instanceMethod yX0_sightingsMeaning, Cond.selects RX0 yX0_sightingsMeaning yX0_sightingsMeaning, Cond.code yX0_sightingsMeaning cX0_sightingsMeaning 4 (some .int), Cond.fieldLink RX0 27 "DogBoard$Board" "sightings" "LDogBoard$Rows;", Cond.methodLink RX0 87 yX3_count, Cond.instanceMethod yX3_count, Cond.selects RX3 yX3_count yX3_count, Cond.code yX3_count cX3_count 1 (some .int), Cond.methodLink RX0 104 yJ6_bitCount_0f7a4, Cond.static yJ6_bitCount_0f7a4, Cond.initialized RJ6, Cond.code yJ6_bitCount_0f7a4 cJ6_bitCount_0f7a4 1 (some .int), Cond.constant RJ6 265 (1431655765), Cond.constant RJ6 266 (858993459), Cond.constant RJ6 267 (252645135), Cond.methodLink RX0 115 yX0_honestFor, Cond.instanceMethod yX0_honestFor, Cond.selects RX0 yX0_honestFor yX0_honestFor, Cond.code yX0_honestFor cX0_honestFor 2 (some .int), Cond.methodLink RX0 124 yX0_fraudsFor]
def wsX7_dogOf_r3 : List Cond := [Cond.instanceMethod yX0_fraudsFor, Cond.selects RX0 yX0_fraudsFor yX0_fraudsFor, Cond.code yX0_fraudsFor cX0_fraudsFor 7 (some .int), Cond.methodLink RX0 127 yX0_isMissing, Cond.instanceMethod yX0_isMissing, Cond.selects RX0 yX0_isMissing yX0_isMissing, Cond.code yX0_isMissing cX0_isMissing 2 (some .boolean), Cond.methodLink RX0 135 yX0_trueNowFor, Cond.instanceMethod yX0_trueNowFor, Cond.selects RX0 yX0_trueNowFor yX0_trueNowFor, Cond.code yX0_trueNowFor cX0_trueNowFor 7 (some .int), Cond.fieldLink RX0 12 "DogBoard$Board" "quarter" "LDogBoard$Quarter;", Cond.methodLink RX0 138 yX2_isWithin, Cond.instanceMethod yX2_isWithin, Cond.selects RX2 yX2_isWithin yX2_isWithin, Cond.initialized RX2, Cond.code yX2_isWithin cX2_isWithin 5 (some .boolean), Cond.fieldLink RX2 9 "DogBoard$Quarter" "ways" "[I", Cond.static yX7_hasBit, Cond.code yX7_hasBit cX7_hasBit 2 (some .boolean), Cond.methodLink RX0 145 yX0_fitsOneOf, Cond.instanceMethod yX0_fitsOneOf, Cond.selects RX0 yX0_fitsOneOf yX0_fitsOneOf, Cond.code yX0_fitsOneOf cX0_fitsOneOf 6 (some .boolean)]
def wsX7_dogOf_r4 : List Cond := [Cond.methodLink RX0 148 Lib.Math.abs.name, Cond.static Lib.Math.abs.name, Cond.initialized "java/lang/Math", Cond.code Lib.Math.abs.name Lib.Math.abs.code 1 (some .int)]
def wsX7_dogOf : List Cond := .code yX7_dogOf cX7_dogOf 3 (some .int) :: ((wsX7_dogOf_r1 ++ (wsX7_dogOf_r2 ++ (wsX7_dogOf_r3 ++ wsX7_dogOf_r4))) ++ wsX70 ++ wsX00 ++ wsX30 ++ wsX20 ++ (vx_atS RX7 112 "java/lang/IndexOutOfBoundsException" ["java/lang/RuntimeException", "java/lang/Exception"]).filter goodWord ++ (vx_atS RX7 52 "java/lang/IllegalArgumentException" ["java/lang/RuntimeException", "java/lang/Exception"]).filter goodWord)
def wsX7_sightingOf_r1 : List Cond := [Cond.classLink RX7 108 "java/lang/IndexOutOfBoundsException", Cond.initialized "java/lang/IndexOutOfBoundsException", Cond.classLink RX7 48 "java/lang/IllegalArgumentException", Cond.initialized "java/lang/IllegalArgumentException", Cond.fieldLink RX7 10 "DogBoard" "now" "LDogBoard$Board;", Cond.methodLink RX7 102 yX3_has, Cond.instanceMethod yX3_has, Cond.selects RX3 yX3_has yX3_has, Cond.initialized RX3, Cond.code yX3_has cX3_has 2 (some .boolean), Cond.fieldLink RX3 28 "DogBoard$Rows" "count" "I", Cond.methodLink RX7 44 yX7_isIn, Cond.static yX7_isIn, Cond.initialized RX7, Cond.code yX7_isIn cX7_isIn 3 (some .boolean), Cond.methodLink RX7 126 yX0_numberOfSighting, Cond.instanceMethod yX0_numberOfSighting, Cond.selects RX0 yX0_numberOfSighting yX0_numberOfSighting, Cond.initialized RX0, Cond.code yX0_numberOfSighting cX0_numberOfSighting 4 (some .int), Cond.fieldLink RX0 27 "DogBoard$Board" "sightings" "LDogBoard$Rows;", Cond.methodLink RX0 112 yX3_get, Cond.instanceMethod yX3_get, Cond.selects RX3 yX3_get yX3_get]
def wsX7_sightingOf_r2 : List Cond := [Cond.code yX3_get cX3_get 4 (some .int), Cond.fieldLink RX3 15 "DogBoard$Rows" "width" "I", Cond.fieldLink RX3 24 "DogBoard$Rows" "cells" "[I", Cond.methodLink RX0 118 yX0_unlikeMarks, Cond.instanceMethod yX0_unlikeMarks, Cond.selects RX0 yX0_unlikeMarks yX0_unlikeMarks, Cond.code yX0_unlikeMarks cX0_unlikeMarks 3 (some .int), Cond.fieldLink RX0 23 "DogBoard$Board" "dogs" "LDogBoard$Rows;", Cond.methodLink RX0 104 yJ6_bitCount_0f7a4, Cond.static yJ6_bitCount_0f7a4, Cond.initialized RJ6, Cond.code yJ6_bitCount_0f7a4 cJ6_bitCount_0f7a4 1 (some .int), Cond.constant RJ6 265 (1431655765), Cond.constant RJ6 266 (858993459), Cond.constant RJ6 267 (252645135), Cond.methodLink RX0 121 yX0_trueFor, Cond.instanceMethod yX0_trueFor, Cond.selects RX0 yX0_trueFor yX0_trueFor, Cond.code yX0_trueFor cX0_trueFor 2 (some .int), Cond.methodLink RX0 127 yX0_isMissing, Cond.instanceMethod yX0_isMissing, Cond.selects RX0 yX0_isMissing yX0_isMissing, Cond.code yX0_isMissing cX0_isMissing 2 (some .boolean), Cond.methodLink RX0 135 yX0_trueNowFor]
def wsX7_sightingOf_r3 : List Cond := [Cond.instanceMethod yX0_trueNowFor, Cond.selects RX0 yX0_trueNowFor yX0_trueNowFor, Cond.code yX0_trueNowFor cX0_trueNowFor 7 (some .int), Cond.fieldLink RX0 12 "DogBoard$Board" "quarter" "LDogBoard$Quarter;", Cond.methodLink RX0 87 yX3_count, Cond.instanceMethod yX3_count, Cond.selects RX3 yX3_count yX3_count, Cond.code yX3_count cX3_count 1 (some .int), Cond.methodLink RX0 138 yX2_isWithin, Cond.instanceMethod yX2_isWithin, Cond.selects RX2 yX2_isWithin yX2_isWithin, Cond.initialized RX2, Cond.code yX2_isWithin cX2_isWithin 5 (some .boolean), Cond.fieldLink RX2 9 "DogBoard$Quarter" "ways" "[I", Cond.methodLink RX0 124 yX0_fraudsFor, Cond.instanceMethod yX0_fraudsFor, Cond.selects RX0 yX0_fraudsFor yX0_fraudsFor, Cond.code yX0_fraudsFor cX0_fraudsFor 7 (some .int), Cond.methodLink RX0 100 yX0_sightingsMeaning, Cond.instanceMethod yX0_sightingsMeaning, Cond.selects RX0 yX0_sightingsMeaning yX0_sightingsMeaning, Cond.code yX0_sightingsMeaning cX0_sightingsMeaning 4 (some .int), Cond.static yX7_hasBit, Cond.code yX7_hasBit cX7_hasBit 2 (some .boolean)]
def wsX7_sightingOf_r4 : List Cond := [Cond.methodLink RX0 145 yX0_fitsOneOf, Cond.instanceMethod yX0_fitsOneOf, Cond.selects RX0 yX0_fitsOneOf yX0_fitsOneOf, Cond.code yX0_fitsOneOf cX0_fitsOneOf 6 (some .boolean), Cond.methodLink RX0 148 Lib.Math.abs.name, Cond.static Lib.Math.abs.name, Cond.initialized "java/lang/Math", Cond.code Lib.Math.abs.name Lib.Math.abs.code 1 (some .int)]
def wsX7_sightingOf : List Cond := .code yX7_sightingOf cX7_sightingOf 3 (some .int) :: ((wsX7_sightingOf_r1 ++ (wsX7_sightingOf_r2 ++ (wsX7_sightingOf_r3 ++ wsX7_sightingOf_r4))) ++ wsX70 ++ wsX00 ++ wsX30 ++ wsX20 ++ (vx_atS RX7 112 "java/lang/IndexOutOfBoundsException" ["java/lang/RuntimeException", "java/lang/Exception"]).filter goodWord ++ (vx_atS RX7 52 "java/lang/IllegalArgumentException" ["java/lang/RuntimeException", "java/lang/Exception"]).filter goodWord)
def wsX7_purse : List Cond := .code yX7_purse cX7_purse 2 (some .int) :: ([.classLink RX7 108 "java/lang/IndexOutOfBoundsException", .initialized "java/lang/IndexOutOfBoundsException", .fieldLink RX7 10 "DogBoard" "now" "LDogBoard$Board;", .methodLink RX7 129 yX7_isFinder, .static yX7_isFinder, .initialized RX7, .code yX7_isFinder cX7_isFinder 1 (some .boolean), .methodLink RX7 44 yX7_isIn, .static yX7_isIn, .code yX7_isIn cX7_isIn 3 (some .boolean), .methodLink RX7 134 yX0_coinsOf, .instanceMethod yX0_coinsOf, .selects RX0 yX0_coinsOf yX0_coinsOf, .initialized RX0, .code yX0_coinsOf cX0_coinsOf 2 (some .int), .fieldLink RX0 30 "DogBoard$Board" "purses" "[I"] ++ wsX70 ++ wsX00 ++ (vx_atS RX7 112 "java/lang/IndexOutOfBoundsException" ["java/lang/RuntimeException", "java/lang/Exception"]).filter goodWord)
def wsX7_apart_r1 : List Cond := [Cond.classLink RX7 108 "java/lang/IndexOutOfBoundsException", Cond.initialized "java/lang/IndexOutOfBoundsException", Cond.classLink RX7 48 "java/lang/IllegalArgumentException", Cond.initialized "java/lang/IllegalArgumentException", Cond.fieldLink RX7 10 "DogBoard" "now" "LDogBoard$Board;", Cond.methodLink RX7 137 yX7_isCorner, Cond.static yX7_isCorner, Cond.initialized RX7, Cond.code yX7_isCorner cX7_isCorner 1 (some .boolean), Cond.methodLink RX7 44 yX7_isIn, Cond.static yX7_isIn, Cond.code yX7_isIn cX7_isIn 3 (some .boolean), Cond.methodLink RX7 148 yX2_wayBetween, Cond.instanceMethod yX2_wayBetween, Cond.selects RX2 yX2_wayBetween yX2_wayBetween, Cond.initialized RX2, Cond.code yX2_wayBetween cX2_wayBetween 4 (some .int), Cond.fieldLink RX2 9 "DogBoard$Quarter" "ways" "[I", Cond.methodLink RX7 153 yX2_wayBySweeps, Cond.instanceMethod yX2_wayBySweeps, Cond.selects RX2 yX2_wayBySweeps yX2_wayBySweeps, Cond.code yX2_wayBySweeps cX2_wayBySweeps 5 (some .int), Cond.fieldLink RX2 15 "DogBoard$Quarter" "sweep" "[I", Cond.methodLink RX2 46 yJ7_fill_53178]
def wsX7_apart_r2 : List Cond := [Cond.static yJ7_fill_53178, Cond.initialized RJ7, Cond.code yJ7_fill_53178 cJ7_fill_53178 4 none, Cond.methodLink RX2 63 yX2_sweepOnce, Cond.instanceMethod yX2_sweepOnce, Cond.selects RX2 yX2_sweepOnce yX2_sweepOnce, Cond.code yX2_sweepOnce cX2_sweepOnce 3 (some .boolean), Cond.fieldLink RX2 43 "DogBoard$Quarter" "ENDS" "[I", Cond.fieldLink RX2 18 "DogBoard$Quarter" "closed" "I", Cond.static yX7_hasBit, Cond.code yX7_hasBit cX7_hasBit 2 (some .boolean), Cond.methodLink RX2 67 yX2_shortens, Cond.instanceMethod yX2_shortens, Cond.selects RX2 yX2_shortens yX2_shortens, Cond.code yX2_shortens cX2_shortens 3 (some .boolean)]
def wsX7_apart : List Cond := .code yX7_apart cX7_apart 4 (some .int) :: ((wsX7_apart_r1 ++ wsX7_apart_r2) ++ wsX70 ++ wsX00 ++ wsX20 ++ (vx_atS RX7 112 "java/lang/IndexOutOfBoundsException" ["java/lang/RuntimeException", "java/lang/Exception"]).filter goodWord ++ (vx_atS RX7 52 "java/lang/IllegalArgumentException" ["java/lang/RuntimeException", "java/lang/Exception"]).filter goodWord)
def wsX7_throwFor : List Cond := .code yX7_throwFor cX7_throwFor 1 none :: ([.classLink RX7 108 "java/lang/IndexOutOfBoundsException", .initialized "java/lang/IndexOutOfBoundsException", .classLink RX7 48 "java/lang/IllegalArgumentException", .initialized "java/lang/IllegalArgumentException", .classLink RX7 59 "java/lang/IllegalStateException", .initialized "java/lang/IllegalStateException"] ++ (vx_atS RX7 112 "java/lang/IndexOutOfBoundsException" ["java/lang/RuntimeException", "java/lang/Exception"]).filter goodWord ++ (vx_atS RX7 52 "java/lang/IllegalArgumentException" ["java/lang/RuntimeException", "java/lang/Exception"]).filter goodWord ++ (vx_atS RX7 63 "java/lang/IllegalStateException" ["java/lang/RuntimeException", "java/lang/Exception"]).filter goodWord)
def wsX7_lose_r1 : List Cond := [Cond.fieldLink RX7 10 "DogBoard" "now" "LDogBoard$Board;", Cond.fieldLink RX7 22 "DogBoard" "history" "LDogBoard$History;", Cond.methodLink RX7 156 yX0_faultOfLosing, Cond.instanceMethod yX0_faultOfLosing, Cond.selects RX0 yX0_faultOfLosing yX0_faultOfLosing, Cond.initialized RX0, Cond.code yX0_faultOfLosing cX0_faultOfLosing 5 (some .int), Cond.fieldLink RX0 23 "DogBoard$Board" "dogs" "LDogBoard$Rows;", Cond.static yX7_isCorner, Cond.initialized RX7, Cond.code yX7_isCorner cX7_isCorner 1 (some .boolean), Cond.methodLink RX7 44 yX7_isIn, Cond.static yX7_isIn, Cond.code yX7_isIn cX7_isIn 3 (some .boolean), Cond.methodLink RX0 172 yX3_isFull, Cond.instanceMethod yX3_isFull, Cond.selects RX3 yX3_isFull yX3_isFull, Cond.initialized RX3, Cond.code yX3_isFull cX3_isFull 1 (some .boolean), Cond.fieldLink RX3 28 "DogBoard$Rows" "count" "I", Cond.fieldLink RX3 9 "DogBoard$Rows" "most" "I", Cond.methodLink RX7 160 yX7_throwFor, Cond.static yX7_throwFor, Cond.code yX7_throwFor cX7_throwFor 1 none]
def wsX7_lose_r2 : List Cond := [Cond.classLink RX7 108 "java/lang/IndexOutOfBoundsException", Cond.initialized "java/lang/IndexOutOfBoundsException", Cond.classLink RX7 48 "java/lang/IllegalArgumentException", Cond.initialized "java/lang/IllegalArgumentException", Cond.classLink RX7 59 "java/lang/IllegalStateException", Cond.initialized "java/lang/IllegalStateException", Cond.methodLink RX7 164 yX1_remember, Cond.instanceMethod yX1_remember, Cond.selects RX1 yX1_remember yX1_remember, Cond.initialized RX1, Cond.code yX1_remember cX1_remember 3 none, Cond.fieldLink RX1 18 "DogBoard$History" "count" "I", Cond.fieldLink RX1 22 "DogBoard$History" "oldest" "I", Cond.methodLink RX1 25 yX1_stateAt, Cond.instanceMethod yX1_stateAt, Cond.selects RX1 yX1_stateAt yX1_stateAt, Cond.code yX1_stateAt cX1_stateAt 3 (some (.object "DogBoard$Board")), Cond.fieldLink RX1 11 "DogBoard$History" "states" "[LDogBoard$Board;", Cond.methodLink RX1 29 yX0_copyFrom, Cond.instanceMethod yX0_copyFrom, Cond.selects RX0 yX0_copyFrom yX0_copyFrom, Cond.code yX0_copyFrom cX0_copyFrom 2 none, Cond.fieldLink RX0 12 "DogBoard$Board" "quarter" "LDogBoard$Quarter;", Cond.fieldLink RX0 27 "DogBoard$Board" "sightings" "LDogBoard$Rows;"]
def wsX7_lose_r3 : List Cond := [Cond.fieldLink RX0 30 "DogBoard$Board" "purses" "[I", Cond.methodLink RX0 75 Lib.Math.min.name, Cond.static Lib.Math.min.name, Cond.initialized "java/lang/Math", Cond.code Lib.Math.min.name Lib.Math.min.code 2 (some .int), Cond.methodLink RX0 81 arraycopyName, Cond.native arraycopyName, Cond.static arraycopyName, Cond.initialized "java/lang/System", Cond.fieldLink RX0 49 "DogBoard$Board" "hour" "I", Cond.fieldLink RX0 53 "DogBoard$Board" "paid" "I", Cond.fieldLink RX0 56 "DogBoard$Board" "given" "I", Cond.fieldLink RX0 59 "DogBoard$Board" "stayed" "I", Cond.fieldLink RX0 62 "DogBoard$Board" "growth" "I", Cond.fieldLink RX0 65 "DogBoard$Board" "mostUnlike" "I", Cond.methodLink RX0 68 yX2_copyFrom, Cond.instanceMethod yX2_copyFrom, Cond.selects RX2 yX2_copyFrom yX2_copyFrom, Cond.initialized RX2, Cond.code yX2_copyFrom cX2_copyFrom 2 none, Cond.fieldLink RX2 9 "DogBoard$Quarter" "ways" "[I", Cond.methodLink RX2 25 Lib.Math.min.name, Cond.methodLink RX2 31 arraycopyName, Cond.fieldLink RX2 18 "DogBoard$Quarter" "closed" "I"]
def wsX7_lose_r4 : List Cond := [Cond.methodLink RX0 72 yX3_copyFrom, Cond.instanceMethod yX3_copyFrom, Cond.selects RX3 yX3_copyFrom yX3_copyFrom, Cond.code yX3_copyFrom cX3_copyFrom 2 none, Cond.fieldLink RX3 24 "DogBoard$Rows" "cells" "[I", Cond.methodLink RX3 39 Lib.Math.min.name, Cond.methodLink RX3 42 arraycopyName, Cond.methodLink RX7 168 yX0_loseDog, Cond.instanceMethod yX0_loseDog, Cond.selects RX0 yX0_loseDog yX0_loseDog, Cond.code yX0_loseDog cX0_loseDog 6 (some .int), Cond.methodLink RX0 176 yX0_faultOfLosing, Cond.methodLink RX0 180 yX3_addRow, Cond.instanceMethod yX3_addRow, Cond.selects RX3 yX3_addRow yX3_addRow, Cond.code yX3_addRow cX3_addRow 3 (some .int), Cond.fieldLink RX3 15 "DogBoard$Rows" "width" "I", Cond.methodLink RX3 31 yX3_isFull, Cond.methodLink RX3 35 yX3_put, Cond.instanceMethod yX3_put, Cond.selects RX3 yX3_put yX3_put, Cond.code yX3_put cX3_put 5 none, Cond.methodLink RX0 183 yX3_put]
def wsX7_lose : List Cond := .code yX7_lose cX7_lose 5 (some .int) :: ((wsX7_lose_r1 ++ (wsX7_lose_r2 ++ (wsX7_lose_r3 ++ wsX7_lose_r4))) ++ wsX70 ++ wsX00 ++ wsX30 ++ wsX10 ++ wsX20 ++ (vx_atS RX7 112 "java/lang/IndexOutOfBoundsException" ["java/lang/RuntimeException", "java/lang/Exception"]).filter goodWord ++ (vx_atS RX7 52 "java/lang/IllegalArgumentException" ["java/lang/RuntimeException", "java/lang/Exception"]).filter goodWord ++ (vx_atS RX7 63 "java/lang/IllegalStateException" ["java/lang/RuntimeException", "java/lang/Exception"]).filter goodWord)
def wsX7_sight_r1 : List Cond := [Cond.fieldLink RX7 10 "DogBoard" "now" "LDogBoard$Board;", Cond.fieldLink RX7 22 "DogBoard" "history" "LDogBoard$History;", Cond.methodLink RX7 171 yX0_faultOfTelling, Cond.instanceMethod yX0_faultOfTelling, Cond.selects RX0 yX0_faultOfTelling yX0_faultOfTelling, Cond.initialized RX0, Cond.code yX0_faultOfTelling cX0_faultOfTelling 5 (some .int), Cond.fieldLink RX0 49 "DogBoard$Board" "hour" "I", Cond.fieldLink RX0 27 "DogBoard$Board" "sightings" "LDogBoard$Rows;", Cond.static yX7_isFinder, Cond.initialized RX7, Cond.code yX7_isFinder cX7_isFinder 1 (some .boolean), Cond.methodLink RX7 44 yX7_isIn, Cond.static yX7_isIn, Cond.code yX7_isIn cX7_isIn 3 (some .boolean), Cond.static yX7_isCorner, Cond.code yX7_isCorner cX7_isCorner 1 (some .boolean), Cond.methodLink RX0 172 yX3_isFull, Cond.instanceMethod yX3_isFull, Cond.selects RX3 yX3_isFull yX3_isFull, Cond.initialized RX3, Cond.code yX3_isFull cX3_isFull 1 (some .boolean), Cond.fieldLink RX3 28 "DogBoard$Rows" "count" "I", Cond.fieldLink RX3 9 "DogBoard$Rows" "most" "I"]
def wsX7_sight_r2 : List Cond := [Cond.methodLink RX7 160 yX7_throwFor, Cond.static yX7_throwFor, Cond.code yX7_throwFor cX7_throwFor 1 none, Cond.classLink RX7 108 "java/lang/IndexOutOfBoundsException", Cond.initialized "java/lang/IndexOutOfBoundsException", Cond.classLink RX7 48 "java/lang/IllegalArgumentException", Cond.initialized "java/lang/IllegalArgumentException", Cond.classLink RX7 59 "java/lang/IllegalStateException", Cond.initialized "java/lang/IllegalStateException", Cond.methodLink RX7 164 yX1_remember, Cond.instanceMethod yX1_remember, Cond.selects RX1 yX1_remember yX1_remember, Cond.initialized RX1, Cond.code yX1_remember cX1_remember 3 none, Cond.fieldLink RX1 18 "DogBoard$History" "count" "I", Cond.fieldLink RX1 22 "DogBoard$History" "oldest" "I", Cond.methodLink RX1 25 yX1_stateAt, Cond.instanceMethod yX1_stateAt, Cond.selects RX1 yX1_stateAt yX1_stateAt, Cond.code yX1_stateAt cX1_stateAt 3 (some (.object "DogBoard$Board")), Cond.fieldLink RX1 11 "DogBoard$History" "states" "[LDogBoard$Board;", Cond.methodLink RX1 29 yX0_copyFrom, Cond.instanceMethod yX0_copyFrom, Cond.selects RX0 yX0_copyFrom yX0_copyFrom]
def wsX7_sight_r3 : List Cond := [Cond.code yX0_copyFrom cX0_copyFrom 2 none, Cond.fieldLink RX0 12 "DogBoard$Board" "quarter" "LDogBoard$Quarter;", Cond.fieldLink RX0 23 "DogBoard$Board" "dogs" "LDogBoard$Rows;", Cond.fieldLink RX0 30 "DogBoard$Board" "purses" "[I", Cond.methodLink RX0 75 Lib.Math.min.name, Cond.static Lib.Math.min.name, Cond.initialized "java/lang/Math", Cond.code Lib.Math.min.name Lib.Math.min.code 2 (some .int), Cond.methodLink RX0 81 arraycopyName, Cond.native arraycopyName, Cond.static arraycopyName, Cond.initialized "java/lang/System", Cond.fieldLink RX0 53 "DogBoard$Board" "paid" "I", Cond.fieldLink RX0 56 "DogBoard$Board" "given" "I", Cond.fieldLink RX0 59 "DogBoard$Board" "stayed" "I", Cond.fieldLink RX0 62 "DogBoard$Board" "growth" "I", Cond.fieldLink RX0 65 "DogBoard$Board" "mostUnlike" "I", Cond.methodLink RX0 68 yX2_copyFrom, Cond.instanceMethod yX2_copyFrom, Cond.selects RX2 yX2_copyFrom yX2_copyFrom, Cond.initialized RX2, Cond.code yX2_copyFrom cX2_copyFrom 2 none, Cond.fieldLink RX2 9 "DogBoard$Quarter" "ways" "[I", Cond.methodLink RX2 25 Lib.Math.min.name]
def wsX7_sight_r4 : List Cond := [Cond.methodLink RX2 31 arraycopyName, Cond.fieldLink RX2 18 "DogBoard$Quarter" "closed" "I", Cond.methodLink RX0 72 yX3_copyFrom, Cond.instanceMethod yX3_copyFrom, Cond.selects RX3 yX3_copyFrom yX3_copyFrom, Cond.code yX3_copyFrom cX3_copyFrom 2 none, Cond.fieldLink RX3 24 "DogBoard$Rows" "cells" "[I", Cond.methodLink RX3 39 Lib.Math.min.name, Cond.methodLink RX3 42 arraycopyName, Cond.methodLink RX7 174 yX0_tellSighting, Cond.instanceMethod yX0_tellSighting, Cond.selects RX0 yX0_tellSighting yX0_tellSighting, Cond.code yX0_tellSighting cX0_tellSighting 8 (some .int), Cond.methodLink RX0 190 yX0_faultOfTelling, Cond.methodLink RX0 193 yX0_dogMeantBy, Cond.instanceMethod yX0_dogMeantBy, Cond.selects RX0 yX0_dogMeantBy yX0_dogMeantBy, Cond.code yX0_dogMeantBy cX0_dogMeantBy 6 (some .int), Cond.methodLink RX0 87 yX3_count, Cond.instanceMethod yX3_count, Cond.selects RX3 yX3_count yX3_count, Cond.code yX3_count cX3_count 1 (some .int), Cond.methodLink RX0 127 yX0_isMissing, Cond.instanceMethod yX0_isMissing]
def wsX7_sight_r5 : List Cond := [Cond.selects RX0 yX0_isMissing yX0_isMissing, Cond.code yX0_isMissing cX0_isMissing 2 (some .boolean), Cond.methodLink RX0 112 yX3_get, Cond.instanceMethod yX3_get, Cond.selects RX3 yX3_get yX3_get, Cond.code yX3_get cX3_get 4 (some .int), Cond.fieldLink RX3 15 "DogBoard$Rows" "width" "I", Cond.methodLink RX0 118 yX0_unlikeMarks, Cond.instanceMethod yX0_unlikeMarks, Cond.selects RX0 yX0_unlikeMarks yX0_unlikeMarks, Cond.code yX0_unlikeMarks cX0_unlikeMarks 3 (some .int), Cond.methodLink RX0 104 yJ6_bitCount_0f7a4, Cond.static yJ6_bitCount_0f7a4, Cond.initialized RJ6, Cond.code yJ6_bitCount_0f7a4 cJ6_bitCount_0f7a4 1 (some .int), Cond.constant RJ6 265 (1431655765), Cond.constant RJ6 266 (858993459), Cond.constant RJ6 267 (252645135), Cond.methodLink RX0 131 yX0_isMeantBefore, Cond.instanceMethod yX0_isMeantBefore, Cond.selects RX0 yX0_isMeantBefore yX0_isMeantBefore, Cond.code yX0_isMeantBefore cX0_isMeantBefore 6 (some .boolean), Cond.methodLink RX0 180 yX3_addRow, Cond.instanceMethod yX3_addRow]
def wsX7_sight_r6 : List Cond := [Cond.selects RX3 yX3_addRow yX3_addRow, Cond.code yX3_addRow cX3_addRow 3 (some .int), Cond.methodLink RX3 31 yX3_isFull, Cond.methodLink RX3 35 yX3_put, Cond.instanceMethod yX3_put, Cond.selects RX3 yX3_put yX3_put, Cond.code yX3_put cX3_put 5 none, Cond.methodLink RX0 183 yX3_put]
def wsX7_sight : List Cond := .code yX7_sight cX7_sight 6 (some .int) :: ((wsX7_sight_r1 ++ (wsX7_sight_r2 ++ (wsX7_sight_r3 ++ (wsX7_sight_r4 ++ (wsX7_sight_r5 ++ wsX7_sight_r6))))) ++ wsX70 ++ wsX00 ++ wsX30 ++ wsX10 ++ wsX20 ++ (vx_atS RX7 112 "java/lang/IndexOutOfBoundsException" ["java/lang/RuntimeException", "java/lang/Exception"]).filter goodWord ++ (vx_atS RX7 52 "java/lang/IllegalArgumentException" ["java/lang/RuntimeException", "java/lang/Exception"]).filter goodWord ++ (vx_atS RX7 63 "java/lang/IllegalStateException" ["java/lang/RuntimeException", "java/lang/Exception"]).filter goodWord)
def wsX7_find_r1 : List Cond := [Cond.fieldLink RX7 10 "DogBoard" "now" "LDogBoard$Board;", Cond.fieldLink RX7 22 "DogBoard" "history" "LDogBoard$History;", Cond.methodLink RX7 178 yX0_faultOfFinding, Cond.instanceMethod yX0_faultOfFinding, Cond.selects RX0 yX0_faultOfFinding yX0_faultOfFinding, Cond.initialized RX0, Cond.code yX0_faultOfFinding cX0_faultOfFinding 4 (some .int), Cond.static yX7_isFinder, Cond.initialized RX7, Cond.code yX7_isFinder cX7_isFinder 1 (some .boolean), Cond.methodLink RX7 44 yX7_isIn, Cond.static yX7_isIn, Cond.code yX7_isIn cX7_isIn 3 (some .boolean), Cond.static yX7_isCorner, Cond.code yX7_isCorner cX7_isCorner 1 (some .boolean), Cond.methodLink RX0 196 yX0_faultOfAsking, Cond.instanceMethod yX0_faultOfAsking, Cond.selects RX0 yX0_faultOfAsking yX0_faultOfAsking, Cond.code yX0_faultOfAsking cX0_faultOfAsking 2 (some .int), Cond.fieldLink RX0 23 "DogBoard$Board" "dogs" "LDogBoard$Rows;", Cond.methodLink RX0 151 yX3_has, Cond.instanceMethod yX3_has, Cond.selects RX3 yX3_has yX3_has, Cond.initialized RX3]
def wsX7_find_r2 : List Cond := [Cond.code yX3_has cX3_has 2 (some .boolean), Cond.fieldLink RX3 28 "DogBoard$Rows" "count" "I", Cond.methodLink RX0 127 yX0_isMissing, Cond.instanceMethod yX0_isMissing, Cond.selects RX0 yX0_isMissing yX0_isMissing, Cond.code yX0_isMissing cX0_isMissing 2 (some .boolean), Cond.methodLink RX0 112 yX3_get, Cond.instanceMethod yX3_get, Cond.selects RX3 yX3_get yX3_get, Cond.code yX3_get cX3_get 4 (some .int), Cond.fieldLink RX3 15 "DogBoard$Rows" "width" "I", Cond.fieldLink RX3 24 "DogBoard$Rows" "cells" "[I", Cond.methodLink RX7 160 yX7_throwFor, Cond.static yX7_throwFor, Cond.code yX7_throwFor cX7_throwFor 1 none, Cond.classLink RX7 108 "java/lang/IndexOutOfBoundsException", Cond.initialized "java/lang/IndexOutOfBoundsException", Cond.classLink RX7 48 "java/lang/IllegalArgumentException", Cond.initialized "java/lang/IllegalArgumentException", Cond.classLink RX7 59 "java/lang/IllegalStateException", Cond.initialized "java/lang/IllegalStateException", Cond.methodLink RX7 164 yX1_remember, Cond.instanceMethod yX1_remember, Cond.selects RX1 yX1_remember yX1_remember]
def wsX7_find_r3 : List Cond := [Cond.initialized RX1, Cond.code yX1_remember cX1_remember 3 none, Cond.fieldLink RX1 18 "DogBoard$History" "count" "I", Cond.fieldLink RX1 22 "DogBoard$History" "oldest" "I", Cond.methodLink RX1 25 yX1_stateAt, Cond.instanceMethod yX1_stateAt, Cond.selects RX1 yX1_stateAt yX1_stateAt, Cond.code yX1_stateAt cX1_stateAt 3 (some (.object "DogBoard$Board")), Cond.fieldLink RX1 11 "DogBoard$History" "states" "[LDogBoard$Board;", Cond.methodLink RX1 29 yX0_copyFrom, Cond.instanceMethod yX0_copyFrom, Cond.selects RX0 yX0_copyFrom yX0_copyFrom, Cond.code yX0_copyFrom cX0_copyFrom 2 none, Cond.fieldLink RX0 12 "DogBoard$Board" "quarter" "LDogBoard$Quarter;", Cond.fieldLink RX0 27 "DogBoard$Board" "sightings" "LDogBoard$Rows;", Cond.fieldLink RX0 30 "DogBoard$Board" "purses" "[I", Cond.methodLink RX0 75 Lib.Math.min.name, Cond.static Lib.Math.min.name, Cond.initialized "java/lang/Math", Cond.code Lib.Math.min.name Lib.Math.min.code 2 (some .int), Cond.methodLink RX0 81 arraycopyName, Cond.native arraycopyName, Cond.static arraycopyName, Cond.initialized "java/lang/System"]
def wsX7_find_r4 : List Cond := [Cond.fieldLink RX0 49 "DogBoard$Board" "hour" "I", Cond.fieldLink RX0 53 "DogBoard$Board" "paid" "I", Cond.fieldLink RX0 56 "DogBoard$Board" "given" "I", Cond.fieldLink RX0 59 "DogBoard$Board" "stayed" "I", Cond.fieldLink RX0 62 "DogBoard$Board" "growth" "I", Cond.fieldLink RX0 65 "DogBoard$Board" "mostUnlike" "I", Cond.methodLink RX0 68 yX2_copyFrom, Cond.instanceMethod yX2_copyFrom, Cond.selects RX2 yX2_copyFrom yX2_copyFrom, Cond.initialized RX2, Cond.code yX2_copyFrom cX2_copyFrom 2 none, Cond.fieldLink RX2 9 "DogBoard$Quarter" "ways" "[I", Cond.methodLink RX2 25 Lib.Math.min.name, Cond.methodLink RX2 31 arraycopyName, Cond.fieldLink RX2 18 "DogBoard$Quarter" "closed" "I", Cond.methodLink RX0 72 yX3_copyFrom, Cond.instanceMethod yX3_copyFrom, Cond.selects RX3 yX3_copyFrom yX3_copyFrom, Cond.code yX3_copyFrom cX3_copyFrom 2 none, Cond.methodLink RX3 39 Lib.Math.min.name, Cond.methodLink RX3 42 arraycopyName, Cond.methodLink RX7 182 yX0_findDog, Cond.instanceMethod yX0_findDog, Cond.selects RX0 yX0_findDog yX0_findDog]
def wsX7_find_r5 : List Cond := [Cond.code yX0_findDog cX0_findDog 11 (some .int), Cond.methodLink RX0 199 yX0_faultOfFinding, Cond.methodLink RX0 121 yX0_trueFor, Cond.instanceMethod yX0_trueFor, Cond.selects RX0 yX0_trueFor yX0_trueFor, Cond.code yX0_trueFor cX0_trueFor 2 (some .int), Cond.methodLink RX0 135 yX0_trueNowFor, Cond.instanceMethod yX0_trueNowFor, Cond.selects RX0 yX0_trueNowFor yX0_trueNowFor, Cond.code yX0_trueNowFor cX0_trueNowFor 7 (some .int), Cond.methodLink RX0 87 yX3_count, Cond.instanceMethod yX3_count, Cond.selects RX3 yX3_count yX3_count, Cond.code yX3_count cX3_count 1 (some .int), Cond.methodLink RX0 138 yX2_isWithin, Cond.instanceMethod yX2_isWithin, Cond.selects RX2 yX2_isWithin yX2_isWithin, Cond.code yX2_isWithin cX2_isWithin 5 (some .boolean), Cond.methodLink RX0 124 yX0_fraudsFor, Cond.instanceMethod yX0_fraudsFor, Cond.selects RX0 yX0_fraudsFor yX0_fraudsFor, Cond.code yX0_fraudsFor cX0_fraudsFor 7 (some .int), Cond.methodLink RX0 100 yX0_sightingsMeaning, Cond.instanceMethod yX0_sightingsMeaning]
def wsX7_find_r6 : List Cond := [Cond.selects RX0 yX0_sightingsMeaning yX0_sightingsMeaning, Cond.code yX0_sightingsMeaning cX0_sightingsMeaning 4 (some .int), Cond.static yX7_hasBit, Cond.code yX7_hasBit cX7_hasBit 2 (some .boolean), Cond.methodLink RX0 145 yX0_fitsOneOf, Cond.instanceMethod yX0_fitsOneOf, Cond.selects RX0 yX0_fitsOneOf yX0_fitsOneOf, Cond.code yX0_fitsOneOf cX0_fitsOneOf 6 (some .boolean), Cond.methodLink RX0 148 Lib.Math.abs.name, Cond.static Lib.Math.abs.name, Cond.code Lib.Math.abs.name Lib.Math.abs.code 1 (some .int), Cond.methodLink RX0 203 yX0_coinsOf, Cond.instanceMethod yX0_coinsOf, Cond.selects RX0 yX0_coinsOf yX0_coinsOf, Cond.code yX0_coinsOf cX0_coinsOf 2 (some .int), Cond.methodLink RX0 206 yX0_shareBy, Cond.instanceMethod yX0_shareBy, Cond.selects RX0 yX0_shareBy yX0_shareBy, Cond.code yX0_shareBy cX0_shareBy 10 (some .int), Cond.methodLink RX0 210 yX0_helpOf, Cond.instanceMethod yX0_helpOf, Cond.selects RX0 yX0_helpOf yX0_helpOf, Cond.code yX0_helpOf cX0_helpOf 4 (some .int), Cond.methodLink RX0 183 yX3_put]
def wsX7_find_r7 : List Cond := [Cond.instanceMethod yX3_put, Cond.selects RX3 yX3_put yX3_put, Cond.code yX3_put cX3_put 5 none]
def wsX7_find : List Cond := .code yX7_find cX7_find 4 (some .int) :: ((wsX7_find_r1 ++ (wsX7_find_r2 ++ (wsX7_find_r3 ++ (wsX7_find_r4 ++ (wsX7_find_r5 ++ (wsX7_find_r6 ++ wsX7_find_r7)))))) ++ wsX70 ++ wsX00 ++ wsX30 ++ wsX10 ++ wsX20 ++ (vx_atS RX7 112 "java/lang/IndexOutOfBoundsException" ["java/lang/RuntimeException", "java/lang/Exception"]).filter goodWord ++ (vx_atS RX7 52 "java/lang/IllegalArgumentException" ["java/lang/RuntimeException", "java/lang/Exception"]).filter goodWord ++ (vx_atS RX7 63 "java/lang/IllegalStateException" ["java/lang/RuntimeException", "java/lang/Exception"]).filter goodWord)
def wsX7_close_r1 : List Cond := [Cond.fieldLink RX7 10 "DogBoard" "now" "LDogBoard$Board;", Cond.fieldLink RX7 22 "DogBoard" "history" "LDogBoard$History;", Cond.methodLink RX7 185 yX0_faultOfClosing, Cond.instanceMethod yX0_faultOfClosing, Cond.selects RX0 yX0_faultOfClosing yX0_faultOfClosing, Cond.initialized RX0, Cond.code yX0_faultOfClosing cX0_faultOfClosing 3 (some .int), Cond.static yX7_isCorner, Cond.initialized RX7, Cond.code yX7_isCorner cX7_isCorner 1 (some .boolean), Cond.methodLink RX7 44 yX7_isIn, Cond.static yX7_isIn, Cond.code yX7_isIn cX7_isIn 3 (some .boolean), Cond.methodLink RX0 213 yX2_streetBetween, Cond.static yX2_streetBetween, Cond.initialized RX2, Cond.code yX2_streetBetween cX2_streetBetween 3 (some .int), Cond.fieldLink RX2 43 "DogBoard$Quarter" "ENDS" "[I", Cond.methodLink RX7 160 yX7_throwFor, Cond.static yX7_throwFor, Cond.code yX7_throwFor cX7_throwFor 1 none, Cond.classLink RX7 108 "java/lang/IndexOutOfBoundsException", Cond.initialized "java/lang/IndexOutOfBoundsException", Cond.classLink RX7 48 "java/lang/IllegalArgumentException"]
def wsX7_close_r2 : List Cond := [Cond.initialized "java/lang/IllegalArgumentException", Cond.classLink RX7 59 "java/lang/IllegalStateException", Cond.initialized "java/lang/IllegalStateException", Cond.methodLink RX7 164 yX1_remember, Cond.instanceMethod yX1_remember, Cond.selects RX1 yX1_remember yX1_remember, Cond.initialized RX1, Cond.code yX1_remember cX1_remember 3 none, Cond.fieldLink RX1 18 "DogBoard$History" "count" "I", Cond.fieldLink RX1 22 "DogBoard$History" "oldest" "I", Cond.methodLink RX1 25 yX1_stateAt, Cond.instanceMethod yX1_stateAt, Cond.selects RX1 yX1_stateAt yX1_stateAt, Cond.code yX1_stateAt cX1_stateAt 3 (some (.object "DogBoard$Board")), Cond.fieldLink RX1 11 "DogBoard$History" "states" "[LDogBoard$Board;", Cond.methodLink RX1 29 yX0_copyFrom, Cond.instanceMethod yX0_copyFrom, Cond.selects RX0 yX0_copyFrom yX0_copyFrom, Cond.code yX0_copyFrom cX0_copyFrom 2 none, Cond.fieldLink RX0 12 "DogBoard$Board" "quarter" "LDogBoard$Quarter;", Cond.fieldLink RX0 23 "DogBoard$Board" "dogs" "LDogBoard$Rows;", Cond.fieldLink RX0 27 "DogBoard$Board" "sightings" "LDogBoard$Rows;", Cond.fieldLink RX0 30 "DogBoard$Board" "purses" "[I", Cond.methodLink RX0 75 Lib.Math.min.name]
def wsX7_close_r3 : List Cond := [Cond.static Lib.Math.min.name, Cond.initialized "java/lang/Math", Cond.code Lib.Math.min.name Lib.Math.min.code 2 (some .int), Cond.methodLink RX0 81 arraycopyName, Cond.native arraycopyName, Cond.static arraycopyName, Cond.initialized "java/lang/System", Cond.fieldLink RX0 49 "DogBoard$Board" "hour" "I", Cond.fieldLink RX0 53 "DogBoard$Board" "paid" "I", Cond.fieldLink RX0 56 "DogBoard$Board" "given" "I", Cond.fieldLink RX0 59 "DogBoard$Board" "stayed" "I", Cond.fieldLink RX0 62 "DogBoard$Board" "growth" "I", Cond.fieldLink RX0 65 "DogBoard$Board" "mostUnlike" "I", Cond.methodLink RX0 68 yX2_copyFrom, Cond.instanceMethod yX2_copyFrom, Cond.selects RX2 yX2_copyFrom yX2_copyFrom, Cond.code yX2_copyFrom cX2_copyFrom 2 none, Cond.fieldLink RX2 9 "DogBoard$Quarter" "ways" "[I", Cond.methodLink RX2 25 Lib.Math.min.name, Cond.methodLink RX2 31 arraycopyName, Cond.fieldLink RX2 18 "DogBoard$Quarter" "closed" "I", Cond.methodLink RX0 72 yX3_copyFrom, Cond.instanceMethod yX3_copyFrom, Cond.selects RX3 yX3_copyFrom yX3_copyFrom]
def wsX7_close_r4 : List Cond := [Cond.initialized RX3, Cond.code yX3_copyFrom cX3_copyFrom 2 none, Cond.fieldLink RX3 24 "DogBoard$Rows" "cells" "[I", Cond.methodLink RX3 39 Lib.Math.min.name, Cond.methodLink RX3 42 arraycopyName, Cond.fieldLink RX3 28 "DogBoard$Rows" "count" "I", Cond.methodLink RX7 188 yX0_closeStreet, Cond.instanceMethod yX0_closeStreet, Cond.selects RX0 yX0_closeStreet yX0_closeStreet, Cond.code yX0_closeStreet cX0_closeStreet 4 (some .int), Cond.methodLink RX0 216 yX0_faultOfClosing, Cond.methodLink RX0 219 yX2_setClosed, Cond.instanceMethod yX2_setClosed, Cond.selects RX2 yX2_setClosed yX2_setClosed, Cond.code yX2_setClosed cX2_setClosed 4 none, Cond.methodLink RX2 22 yX2_measureAll, Cond.instanceMethod yX2_measureAll, Cond.selects RX2 yX2_measureAll yX2_measureAll, Cond.code yX2_measureAll cX2_measureAll 5 none, Cond.methodLink RX2 46 yJ7_fill_53178, Cond.static yJ7_fill_53178, Cond.initialized RJ7, Cond.code yJ7_fill_53178 cJ7_fill_53178 4 none, Cond.methodLink RX2 52 yX2_noteWays]
def wsX7_close_r5 : List Cond := [Cond.instanceMethod yX2_noteWays, Cond.selects RX2 yX2_noteWays yX2_noteWays, Cond.code yX2_noteWays cX2_noteWays 6 none, Cond.static yX7_hasBit, Cond.code yX7_hasBit cX7_hasBit 2 (some .boolean), Cond.methodLink RX2 56 yX2_besideAnyOf, Cond.instanceMethod yX2_besideAnyOf, Cond.selects RX2 yX2_besideAnyOf yX2_besideAnyOf, Cond.code yX2_besideAnyOf cX2_besideAnyOf 4 (some .int), Cond.methodLink RX0 109 yX2_closedStreets, Cond.instanceMethod yX2_closedStreets, Cond.selects RX2 yX2_closedStreets yX2_closedStreets, Cond.code yX2_closedStreets cX2_closedStreets 1 (some .int), Cond.methodLink RX2 37 yJ6_bitCount_0f7a4, Cond.static yJ6_bitCount_0f7a4, Cond.initialized RJ6, Cond.code yJ6_bitCount_0f7a4 cJ6_bitCount_0f7a4 1 (some .int), Cond.constant RJ6 265 (1431655765), Cond.constant RJ6 266 (858993459), Cond.constant RJ6 267 (252645135)]
def wsX7_close : List Cond := .code yX7_close cX7_close 4 (some .int) :: ((wsX7_close_r1 ++ (wsX7_close_r2 ++ (wsX7_close_r3 ++ (wsX7_close_r4 ++ wsX7_close_r5)))) ++ wsX70 ++ wsX10 ++ wsX00 ++ wsX20 ++ wsX30 ++ (vx_atS RX7 112 "java/lang/IndexOutOfBoundsException" ["java/lang/RuntimeException", "java/lang/Exception"]).filter goodWord ++ (vx_atS RX7 52 "java/lang/IllegalArgumentException" ["java/lang/RuntimeException", "java/lang/Exception"]).filter goodWord ++ (vx_atS RX7 63 "java/lang/IllegalStateException" ["java/lang/RuntimeException", "java/lang/Exception"]).filter goodWord)
def wsX7_hours_r1 : List Cond := [Cond.fieldLink RX7 10 "DogBoard" "now" "LDogBoard$Board;", Cond.fieldLink RX7 22 "DogBoard" "history" "LDogBoard$History;", Cond.methodLink RX7 192 yX0_faultOfPassing, Cond.instanceMethod yX0_faultOfPassing, Cond.selects RX0 yX0_faultOfPassing yX0_faultOfPassing, Cond.initialized RX0, Cond.code yX0_faultOfPassing cX0_faultOfPassing 2 (some .int), Cond.static yX7_isIn, Cond.initialized RX7, Cond.code yX7_isIn cX7_isIn 3 (some .boolean), Cond.methodLink RX7 160 yX7_throwFor, Cond.static yX7_throwFor, Cond.code yX7_throwFor cX7_throwFor 1 none, Cond.classLink RX7 108 "java/lang/IndexOutOfBoundsException", Cond.initialized "java/lang/IndexOutOfBoundsException", Cond.classLink RX7 48 "java/lang/IllegalArgumentException", Cond.initialized "java/lang/IllegalArgumentException", Cond.classLink RX7 59 "java/lang/IllegalStateException", Cond.initialized "java/lang/IllegalStateException", Cond.methodLink RX7 164 yX1_remember, Cond.instanceMethod yX1_remember, Cond.selects RX1 yX1_remember yX1_remember, Cond.initialized RX1, Cond.code yX1_remember cX1_remember 3 none]
def wsX7_hours_r2 : List Cond := [Cond.fieldLink RX1 18 "DogBoard$History" "count" "I", Cond.fieldLink RX1 22 "DogBoard$History" "oldest" "I", Cond.methodLink RX1 25 yX1_stateAt, Cond.instanceMethod yX1_stateAt, Cond.selects RX1 yX1_stateAt yX1_stateAt, Cond.code yX1_stateAt cX1_stateAt 3 (some (.object "DogBoard$Board")), Cond.fieldLink RX1 11 "DogBoard$History" "states" "[LDogBoard$Board;", Cond.methodLink RX1 29 yX0_copyFrom, Cond.instanceMethod yX0_copyFrom, Cond.selects RX0 yX0_copyFrom yX0_copyFrom, Cond.code yX0_copyFrom cX0_copyFrom 2 none, Cond.fieldLink RX0 12 "DogBoard$Board" "quarter" "LDogBoard$Quarter;", Cond.fieldLink RX0 23 "DogBoard$Board" "dogs" "LDogBoard$Rows;", Cond.fieldLink RX0 27 "DogBoard$Board" "sightings" "LDogBoard$Rows;", Cond.fieldLink RX0 30 "DogBoard$Board" "purses" "[I", Cond.methodLink RX0 75 Lib.Math.min.name, Cond.static Lib.Math.min.name, Cond.initialized "java/lang/Math", Cond.code Lib.Math.min.name Lib.Math.min.code 2 (some .int), Cond.methodLink RX0 81 arraycopyName, Cond.native arraycopyName, Cond.static arraycopyName, Cond.initialized "java/lang/System", Cond.fieldLink RX0 49 "DogBoard$Board" "hour" "I"]
def wsX7_hours_r3 : List Cond := [Cond.fieldLink RX0 53 "DogBoard$Board" "paid" "I", Cond.fieldLink RX0 56 "DogBoard$Board" "given" "I", Cond.fieldLink RX0 59 "DogBoard$Board" "stayed" "I", Cond.fieldLink RX0 62 "DogBoard$Board" "growth" "I", Cond.fieldLink RX0 65 "DogBoard$Board" "mostUnlike" "I", Cond.methodLink RX0 68 yX2_copyFrom, Cond.instanceMethod yX2_copyFrom, Cond.selects RX2 yX2_copyFrom yX2_copyFrom, Cond.initialized RX2, Cond.code yX2_copyFrom cX2_copyFrom 2 none, Cond.fieldLink RX2 9 "DogBoard$Quarter" "ways" "[I", Cond.methodLink RX2 25 Lib.Math.min.name, Cond.methodLink RX2 31 arraycopyName, Cond.fieldLink RX2 18 "DogBoard$Quarter" "closed" "I", Cond.methodLink RX0 72 yX3_copyFrom, Cond.instanceMethod yX3_copyFrom, Cond.selects RX3 yX3_copyFrom yX3_copyFrom, Cond.initialized RX3, Cond.code yX3_copyFrom cX3_copyFrom 2 none, Cond.fieldLink RX3 24 "DogBoard$Rows" "cells" "[I", Cond.methodLink RX3 39 Lib.Math.min.name, Cond.methodLink RX3 42 arraycopyName, Cond.fieldLink RX3 28 "DogBoard$Rows" "count" "I", Cond.methodLink RX7 195 yX0_passHours]
def wsX7_hours_r4 : List Cond := [Cond.instanceMethod yX0_passHours, Cond.selects RX0 yX0_passHours yX0_passHours, Cond.code yX0_passHours cX0_passHours 7 (some .int), Cond.methodLink RX0 223 yX0_faultOfPassing, Cond.methodLink RX0 87 yX3_count, Cond.instanceMethod yX3_count, Cond.selects RX3 yX3_count yX3_count, Cond.code yX3_count cX3_count 1 (some .int), Cond.methodLink RX0 112 yX3_get, Cond.instanceMethod yX3_get, Cond.selects RX3 yX3_get yX3_get, Cond.code yX3_get cX3_get 4 (some .int), Cond.fieldLink RX3 15 "DogBoard$Rows" "width" "I", Cond.methodLink RX0 127 yX0_isMissing, Cond.instanceMethod yX0_isMissing, Cond.selects RX0 yX0_isMissing yX0_isMissing, Cond.code yX0_isMissing cX0_isMissing 2 (some .boolean), Cond.methodLink RX0 183 yX3_put, Cond.instanceMethod yX3_put, Cond.selects RX3 yX3_put yX3_put, Cond.code yX3_put cX3_put 5 none]
def wsX7_hours : List Cond := .code yX7_hours cX7_hours 2 (some .int) :: ((wsX7_hours_r1 ++ (wsX7_hours_r2 ++ (wsX7_hours_r3 ++ wsX7_hours_r4))) ++ wsX70 ++ wsX10 ++ wsX00 ++ wsX20 ++ wsX30 ++ (vx_atS RX7 112 "java/lang/IndexOutOfBoundsException" ["java/lang/RuntimeException", "java/lang/Exception"]).filter goodWord ++ (vx_atS RX7 52 "java/lang/IllegalArgumentException" ["java/lang/RuntimeException", "java/lang/Exception"]).filter goodWord ++ (vx_atS RX7 63 "java/lang/IllegalStateException" ["java/lang/RuntimeException", "java/lang/Exception"]).filter goodWord)
def wsX7_set_r1 : List Cond := [Cond.fieldLink RX7 10 "DogBoard" "now" "LDogBoard$Board;", Cond.fieldLink RX7 22 "DogBoard" "history" "LDogBoard$History;", Cond.methodLink RX7 198 yX0_faultOfSetting, Cond.instanceMethod yX0_faultOfSetting, Cond.selects RX0 yX0_faultOfSetting yX0_faultOfSetting, Cond.initialized RX0, Cond.code yX0_faultOfSetting cX0_faultOfSetting 4 (some .int), Cond.static yX7_isIn, Cond.initialized RX7, Cond.code yX7_isIn cX7_isIn 3 (some .boolean), Cond.methodLink RX7 160 yX7_throwFor, Cond.static yX7_throwFor, Cond.code yX7_throwFor cX7_throwFor 1 none, Cond.classLink RX7 108 "java/lang/IndexOutOfBoundsException", Cond.initialized "java/lang/IndexOutOfBoundsException", Cond.classLink RX7 48 "java/lang/IllegalArgumentException", Cond.initialized "java/lang/IllegalArgumentException", Cond.classLink RX7 59 "java/lang/IllegalStateException", Cond.initialized "java/lang/IllegalStateException", Cond.methodLink RX7 164 yX1_remember, Cond.instanceMethod yX1_remember, Cond.selects RX1 yX1_remember yX1_remember, Cond.initialized RX1, Cond.code yX1_remember cX1_remember 3 none]
def wsX7_set_r2 : List Cond := [Cond.fieldLink RX1 18 "DogBoard$History" "count" "I", Cond.fieldLink RX1 22 "DogBoard$History" "oldest" "I", Cond.methodLink RX1 25 yX1_stateAt, Cond.instanceMethod yX1_stateAt, Cond.selects RX1 yX1_stateAt yX1_stateAt, Cond.code yX1_stateAt cX1_stateAt 3 (some (.object "DogBoard$Board")), Cond.fieldLink RX1 11 "DogBoard$History" "states" "[LDogBoard$Board;", Cond.methodLink RX1 29 yX0_copyFrom, Cond.instanceMethod yX0_copyFrom, Cond.selects RX0 yX0_copyFrom yX0_copyFrom, Cond.code yX0_copyFrom cX0_copyFrom 2 none, Cond.fieldLink RX0 12 "DogBoard$Board" "quarter" "LDogBoard$Quarter;", Cond.fieldLink RX0 23 "DogBoard$Board" "dogs" "LDogBoard$Rows;", Cond.fieldLink RX0 27 "DogBoard$Board" "sightings" "LDogBoard$Rows;", Cond.fieldLink RX0 30 "DogBoard$Board" "purses" "[I", Cond.methodLink RX0 75 Lib.Math.min.name, Cond.static Lib.Math.min.name, Cond.initialized "java/lang/Math", Cond.code Lib.Math.min.name Lib.Math.min.code 2 (some .int), Cond.methodLink RX0 81 arraycopyName, Cond.native arraycopyName, Cond.static arraycopyName, Cond.initialized "java/lang/System", Cond.fieldLink RX0 49 "DogBoard$Board" "hour" "I"]
def wsX7_set_r3 : List Cond := [Cond.fieldLink RX0 53 "DogBoard$Board" "paid" "I", Cond.fieldLink RX0 56 "DogBoard$Board" "given" "I", Cond.fieldLink RX0 59 "DogBoard$Board" "stayed" "I", Cond.fieldLink RX0 62 "DogBoard$Board" "growth" "I", Cond.fieldLink RX0 65 "DogBoard$Board" "mostUnlike" "I", Cond.methodLink RX0 68 yX2_copyFrom, Cond.instanceMethod yX2_copyFrom, Cond.selects RX2 yX2_copyFrom yX2_copyFrom, Cond.initialized RX2, Cond.code yX2_copyFrom cX2_copyFrom 2 none, Cond.fieldLink RX2 9 "DogBoard$Quarter" "ways" "[I", Cond.methodLink RX2 25 Lib.Math.min.name, Cond.methodLink RX2 31 arraycopyName, Cond.fieldLink RX2 18 "DogBoard$Quarter" "closed" "I", Cond.methodLink RX0 72 yX3_copyFrom, Cond.instanceMethod yX3_copyFrom, Cond.selects RX3 yX3_copyFrom yX3_copyFrom, Cond.initialized RX3, Cond.code yX3_copyFrom cX3_copyFrom 2 none, Cond.fieldLink RX3 24 "DogBoard$Rows" "cells" "[I", Cond.methodLink RX3 39 Lib.Math.min.name, Cond.methodLink RX3 42 arraycopyName, Cond.fieldLink RX3 28 "DogBoard$Rows" "count" "I", Cond.methodLink RX7 201 yX0_changeSetting]
def wsX7_set_r4 : List Cond := [Cond.instanceMethod yX0_changeSetting, Cond.selects RX0 yX0_changeSetting yX0_changeSetting, Cond.code yX0_changeSetting cX0_changeSetting 4 (some .int), Cond.methodLink RX0 226 yX0_faultOfSetting]
def wsX7_set : List Cond := .code yX7_set cX7_set 3 (some .int) :: ((wsX7_set_r1 ++ (wsX7_set_r2 ++ (wsX7_set_r3 ++ wsX7_set_r4))) ++ wsX70 ++ wsX10 ++ wsX00 ++ wsX20 ++ wsX30 ++ (vx_atS RX7 112 "java/lang/IndexOutOfBoundsException" ["java/lang/RuntimeException", "java/lang/Exception"]).filter goodWord ++ (vx_atS RX7 52 "java/lang/IllegalArgumentException" ["java/lang/RuntimeException", "java/lang/Exception"]).filter goodWord ++ (vx_atS RX7 63 "java/lang/IllegalStateException" ["java/lang/RuntimeException", "java/lang/Exception"]).filter goodWord)
def wsX7_undo_r1 : List Cond := [Cond.classLink RX7 59 "java/lang/IllegalStateException", Cond.initialized "java/lang/IllegalStateException", Cond.fieldLink RX7 22 "DogBoard" "history" "LDogBoard$History;", Cond.fieldLink RX7 10 "DogBoard" "now" "LDogBoard$Board;", Cond.methodLink RX7 204 yX1_isEmpty, Cond.instanceMethod yX1_isEmpty, Cond.selects RX1 yX1_isEmpty yX1_isEmpty, Cond.initialized RX1, Cond.code yX1_isEmpty cX1_isEmpty 1 (some .boolean), Cond.fieldLink RX1 18 "DogBoard$History" "count" "I", Cond.methodLink RX7 209 yX1_giveBack, Cond.instanceMethod yX1_giveBack, Cond.selects RX1 yX1_giveBack yX1_giveBack, Cond.code yX1_giveBack cX1_giveBack 3 (some .int), Cond.methodLink RX1 25 yX1_stateAt, Cond.instanceMethod yX1_stateAt, Cond.selects RX1 yX1_stateAt yX1_stateAt, Cond.code yX1_stateAt cX1_stateAt 3 (some (.object "DogBoard$Board")), Cond.fieldLink RX1 22 "DogBoard$History" "oldest" "I", Cond.fieldLink RX1 11 "DogBoard$History" "states" "[LDogBoard$Board;", Cond.methodLink RX1 29 yX0_copyFrom, Cond.instanceMethod yX0_copyFrom, Cond.selects RX0 yX0_copyFrom yX0_copyFrom, Cond.initialized RX0]
def wsX7_undo_r2 : List Cond := [Cond.code yX0_copyFrom cX0_copyFrom 2 none, Cond.fieldLink RX0 12 "DogBoard$Board" "quarter" "LDogBoard$Quarter;", Cond.fieldLink RX0 23 "DogBoard$Board" "dogs" "LDogBoard$Rows;", Cond.fieldLink RX0 27 "DogBoard$Board" "sightings" "LDogBoard$Rows;", Cond.fieldLink RX0 30 "DogBoard$Board" "purses" "[I", Cond.methodLink RX0 75 Lib.Math.min.name, Cond.static Lib.Math.min.name, Cond.initialized "java/lang/Math", Cond.code Lib.Math.min.name Lib.Math.min.code 2 (some .int), Cond.methodLink RX0 81 arraycopyName, Cond.native arraycopyName, Cond.static arraycopyName, Cond.initialized "java/lang/System", Cond.fieldLink RX0 49 "DogBoard$Board" "hour" "I", Cond.fieldLink RX0 53 "DogBoard$Board" "paid" "I", Cond.fieldLink RX0 56 "DogBoard$Board" "given" "I", Cond.fieldLink RX0 59 "DogBoard$Board" "stayed" "I", Cond.fieldLink RX0 62 "DogBoard$Board" "growth" "I", Cond.fieldLink RX0 65 "DogBoard$Board" "mostUnlike" "I", Cond.methodLink RX0 68 yX2_copyFrom, Cond.instanceMethod yX2_copyFrom, Cond.selects RX2 yX2_copyFrom yX2_copyFrom, Cond.initialized RX2, Cond.code yX2_copyFrom cX2_copyFrom 2 none]
def wsX7_undo_r3 : List Cond := [Cond.fieldLink RX2 9 "DogBoard$Quarter" "ways" "[I", Cond.methodLink RX2 25 Lib.Math.min.name, Cond.methodLink RX2 31 arraycopyName, Cond.fieldLink RX2 18 "DogBoard$Quarter" "closed" "I", Cond.methodLink RX0 72 yX3_copyFrom, Cond.instanceMethod yX3_copyFrom, Cond.selects RX3 yX3_copyFrom yX3_copyFrom, Cond.initialized RX3, Cond.code yX3_copyFrom cX3_copyFrom 2 none, Cond.fieldLink RX3 24 "DogBoard$Rows" "cells" "[I", Cond.methodLink RX3 39 Lib.Math.min.name, Cond.methodLink RX3 42 arraycopyName, Cond.fieldLink RX3 28 "DogBoard$Rows" "count" "I"]
def wsX7_undo : List Cond := .code yX7_undo cX7_undo 1 (some .int) :: ((wsX7_undo_r1 ++ (wsX7_undo_r2 ++ wsX7_undo_r3)) ++ wsX70 ++ wsX10 ++ wsX00 ++ wsX20 ++ wsX30 ++ (vx_atS RX7 63 "java/lang/IllegalStateException" ["java/lang/RuntimeException", "java/lang/Exception"]).filter goodWord)
def wsX7_canBe_r1 : List Cond := [Cond.fieldLink RX7 10 "DogBoard" "now" "LDogBoard$Board;", Cond.methodLink RX7 212 yX0_faultOfAsking, Cond.instanceMethod yX0_faultOfAsking, Cond.selects RX0 yX0_faultOfAsking yX0_faultOfAsking, Cond.initialized RX0, Cond.code yX0_faultOfAsking cX0_faultOfAsking 2 (some .int), Cond.fieldLink RX0 23 "DogBoard$Board" "dogs" "LDogBoard$Rows;", Cond.methodLink RX0 151 yX3_has, Cond.instanceMethod yX3_has, Cond.selects RX3 yX3_has yX3_has, Cond.initialized RX3, Cond.code yX3_has cX3_has 2 (some .boolean), Cond.fieldLink RX3 28 "DogBoard$Rows" "count" "I", Cond.methodLink RX0 127 yX0_isMissing, Cond.instanceMethod yX0_isMissing, Cond.selects RX0 yX0_isMissing yX0_isMissing, Cond.code yX0_isMissing cX0_isMissing 2 (some .boolean), Cond.methodLink RX0 112 yX3_get, Cond.instanceMethod yX3_get, Cond.selects RX3 yX3_get yX3_get, Cond.code yX3_get cX3_get 4 (some .int), Cond.fieldLink RX3 15 "DogBoard$Rows" "width" "I", Cond.fieldLink RX3 24 "DogBoard$Rows" "cells" "[I", Cond.methodLink RX7 160 yX7_throwFor]
def wsX7_canBe_r2 : List Cond := [Cond.static yX7_throwFor, Cond.initialized RX7, Cond.code yX7_throwFor cX7_throwFor 1 none, Cond.classLink RX7 108 "java/lang/IndexOutOfBoundsException", Cond.initialized "java/lang/IndexOutOfBoundsException", Cond.classLink RX7 48 "java/lang/IllegalArgumentException", Cond.initialized "java/lang/IllegalArgumentException", Cond.classLink RX7 59 "java/lang/IllegalStateException", Cond.initialized "java/lang/IllegalStateException", Cond.methodLink RX7 215 yX0_placesOf, Cond.instanceMethod yX0_placesOf, Cond.selects RX0 yX0_placesOf yX0_placesOf, Cond.code yX0_placesOf cX0_placesOf 5 (some .int), Cond.methodLink RX0 115 yX0_honestFor, Cond.instanceMethod yX0_honestFor, Cond.selects RX0 yX0_honestFor yX0_honestFor, Cond.code yX0_honestFor cX0_honestFor 2 (some .int), Cond.methodLink RX0 100 yX0_sightingsMeaning, Cond.instanceMethod yX0_sightingsMeaning, Cond.selects RX0 yX0_sightingsMeaning yX0_sightingsMeaning, Cond.code yX0_sightingsMeaning cX0_sightingsMeaning 4 (some .int), Cond.fieldLink RX0 27 "DogBoard$Board" "sightings" "LDogBoard$Rows;", Cond.methodLink RX0 87 yX3_count, Cond.instanceMethod yX3_count]
def wsX7_canBe_r3 : List Cond := [Cond.selects RX3 yX3_count yX3_count, Cond.code yX3_count cX3_count 1 (some .int), Cond.methodLink RX0 124 yX0_fraudsFor, Cond.instanceMethod yX0_fraudsFor, Cond.selects RX0 yX0_fraudsFor yX0_fraudsFor, Cond.code yX0_fraudsFor cX0_fraudsFor 7 (some .int), Cond.methodLink RX0 135 yX0_trueNowFor, Cond.instanceMethod yX0_trueNowFor, Cond.selects RX0 yX0_trueNowFor yX0_trueNowFor, Cond.code yX0_trueNowFor cX0_trueNowFor 7 (some .int), Cond.fieldLink RX0 12 "DogBoard$Board" "quarter" "LDogBoard$Quarter;", Cond.methodLink RX0 138 yX2_isWithin, Cond.instanceMethod yX2_isWithin, Cond.selects RX2 yX2_isWithin yX2_isWithin, Cond.initialized RX2, Cond.code yX2_isWithin cX2_isWithin 5 (some .boolean), Cond.fieldLink RX2 9 "DogBoard$Quarter" "ways" "[I", Cond.static yX7_hasBit, Cond.code yX7_hasBit cX7_hasBit 2 (some .boolean), Cond.methodLink RX0 145 yX0_fitsOneOf, Cond.instanceMethod yX0_fitsOneOf, Cond.selects RX0 yX0_fitsOneOf yX0_fitsOneOf, Cond.code yX0_fitsOneOf cX0_fitsOneOf 6 (some .boolean), Cond.methodLink RX0 148 Lib.Math.abs.name]
def wsX7_canBe_r4 : List Cond := [Cond.static Lib.Math.abs.name, Cond.initialized "java/lang/Math", Cond.code Lib.Math.abs.name Lib.Math.abs.code 1 (some .int), Cond.methodLink RX0 154 yX0_canReach, Cond.instanceMethod yX0_canReach, Cond.selects RX0 yX0_canReach yX0_canReach, Cond.code yX0_canReach cX0_canReach 8 (some .boolean), Cond.fieldLink RX0 49 "DogBoard$Board" "hour" "I"]
def wsX7_canBe : List Cond := .code yX7_canBe cX7_canBe 2 (some .int) :: ((wsX7_canBe_r1 ++ (wsX7_canBe_r2 ++ (wsX7_canBe_r3 ++ wsX7_canBe_r4))) ++ wsX70 ++ wsX00 ++ wsX30 ++ wsX20 ++ (vx_atS RX7 112 "java/lang/IndexOutOfBoundsException" ["java/lang/RuntimeException", "java/lang/Exception"]).filter goodWord ++ (vx_atS RX7 52 "java/lang/IllegalArgumentException" ["java/lang/RuntimeException", "java/lang/Exception"]).filter goodWord ++ (vx_atS RX7 63 "java/lang/IllegalStateException" ["java/lang/RuntimeException", "java/lang/Exception"]).filter goodWord)
def wsX7_watch_r1 : List Cond := [Cond.fieldLink RX7 10 "DogBoard" "now" "LDogBoard$Board;", Cond.methodLink RX7 218 yX0_cornerToWatch, Cond.instanceMethod yX0_cornerToWatch, Cond.selects RX0 yX0_cornerToWatch yX0_cornerToWatch, Cond.initialized RX0, Cond.code yX0_cornerToWatch cX0_cornerToWatch 4 (some .int), Cond.fieldLink RX0 34 "DogBoard$Board" "places" "[I", Cond.methodLink RX0 91 yX0_missingDogs, Cond.instanceMethod yX0_missingDogs, Cond.selects RX0 yX0_missingDogs yX0_missingDogs, Cond.code yX0_missingDogs cX0_missingDogs 3 (some .int), Cond.fieldLink RX0 23 "DogBoard$Board" "dogs" "LDogBoard$Rows;", Cond.methodLink RX0 87 yX3_count, Cond.instanceMethod yX3_count, Cond.selects RX3 yX3_count yX3_count, Cond.initialized RX3, Cond.code yX3_count cX3_count 1 (some .int), Cond.fieldLink RX3 28 "DogBoard$Rows" "count" "I", Cond.methodLink RX0 112 yX3_get, Cond.instanceMethod yX3_get, Cond.selects RX3 yX3_get yX3_get, Cond.code yX3_get cX3_get 4 (some .int), Cond.fieldLink RX3 15 "DogBoard$Rows" "width" "I", Cond.fieldLink RX3 24 "DogBoard$Rows" "cells" "[I"]
def wsX7_watch_r2 : List Cond := [Cond.methodLink RX0 127 yX0_isMissing, Cond.instanceMethod yX0_isMissing, Cond.selects RX0 yX0_isMissing yX0_isMissing, Cond.code yX0_isMissing cX0_isMissing 2 (some .boolean), Cond.methodLink RX0 157 yX0_placesOf, Cond.instanceMethod yX0_placesOf, Cond.selects RX0 yX0_placesOf yX0_placesOf, Cond.code yX0_placesOf cX0_placesOf 5 (some .int), Cond.methodLink RX0 115 yX0_honestFor, Cond.instanceMethod yX0_honestFor, Cond.selects RX0 yX0_honestFor yX0_honestFor, Cond.code yX0_honestFor cX0_honestFor 2 (some .int), Cond.methodLink RX0 100 yX0_sightingsMeaning, Cond.instanceMethod yX0_sightingsMeaning, Cond.selects RX0 yX0_sightingsMeaning yX0_sightingsMeaning, Cond.code yX0_sightingsMeaning cX0_sightingsMeaning 4 (some .int), Cond.fieldLink RX0 27 "DogBoard$Board" "sightings" "LDogBoard$Rows;", Cond.methodLink RX0 124 yX0_fraudsFor, Cond.instanceMethod yX0_fraudsFor, Cond.selects RX0 yX0_fraudsFor yX0_fraudsFor, Cond.code yX0_fraudsFor cX0_fraudsFor 7 (some .int), Cond.methodLink RX0 135 yX0_trueNowFor, Cond.instanceMethod yX0_trueNowFor, Cond.selects RX0 yX0_trueNowFor yX0_trueNowFor]
def wsX7_watch_r3 : List Cond := [Cond.code yX0_trueNowFor cX0_trueNowFor 7 (some .int), Cond.fieldLink RX0 12 "DogBoard$Board" "quarter" "LDogBoard$Quarter;", Cond.methodLink RX0 138 yX2_isWithin, Cond.instanceMethod yX2_isWithin, Cond.selects RX2 yX2_isWithin yX2_isWithin, Cond.initialized RX2, Cond.code yX2_isWithin cX2_isWithin 5 (some .boolean), Cond.fieldLink RX2 9 "DogBoard$Quarter" "ways" "[I", Cond.static yX7_hasBit, Cond.initialized RX7, Cond.code yX7_hasBit cX7_hasBit 2 (some .boolean), Cond.methodLink RX0 145 yX0_fitsOneOf, Cond.instanceMethod yX0_fitsOneOf, Cond.selects RX0 yX0_fitsOneOf yX0_fitsOneOf, Cond.code yX0_fitsOneOf cX0_fitsOneOf 6 (some .boolean), Cond.methodLink RX0 148 Lib.Math.abs.name, Cond.static Lib.Math.abs.name, Cond.initialized "java/lang/Math", Cond.code Lib.Math.abs.name Lib.Math.abs.code 1 (some .int), Cond.methodLink RX0 154 yX0_canReach, Cond.instanceMethod yX0_canReach, Cond.selects RX0 yX0_canReach yX0_canReach, Cond.code yX0_canReach cX0_canReach 8 (some .boolean), Cond.fieldLink RX0 49 "DogBoard$Board" "hour" "I"]
def wsX7_watch_r4 : List Cond := [Cond.methodLink RX0 160 yX0_dogsAt, Cond.instanceMethod yX0_dogsAt, Cond.selects RX0 yX0_dogsAt yX0_dogsAt, Cond.code yX0_dogsAt cX0_dogsAt 4 (some .int), Cond.methodLink RX0 163 yX0_rewardsAt, Cond.instanceMethod yX0_rewardsAt, Cond.selects RX0 yX0_rewardsAt yX0_rewardsAt, Cond.code yX0_rewardsAt cX0_rewardsAt 4 (some .int)]
def wsX7_watch : List Cond := .code yX7_watch cX7_watch 1 (some .int) :: ((wsX7_watch_r1 ++ (wsX7_watch_r2 ++ (wsX7_watch_r3 ++ wsX7_watch_r4))) ++ wsX70 ++ wsX00 ++ wsX30 ++ wsX20)
def wsX7_meant_r1 : List Cond := [Cond.classLink RX7 48 "java/lang/IllegalArgumentException", Cond.initialized "java/lang/IllegalArgumentException", Cond.fieldLink RX7 10 "DogBoard" "now" "LDogBoard$Board;", Cond.methodLink RX7 44 yX7_isIn, Cond.static yX7_isIn, Cond.initialized RX7, Cond.code yX7_isIn cX7_isIn 3 (some .boolean), Cond.methodLink RX7 227 yX0_dogMeantBy, Cond.instanceMethod yX0_dogMeantBy, Cond.selects RX0 yX0_dogMeantBy yX0_dogMeantBy, Cond.initialized RX0, Cond.code yX0_dogMeantBy cX0_dogMeantBy 6 (some .int), Cond.fieldLink RX0 23 "DogBoard$Board" "dogs" "LDogBoard$Rows;", Cond.fieldLink RX0 65 "DogBoard$Board" "mostUnlike" "I", Cond.methodLink RX0 87 yX3_count, Cond.instanceMethod yX3_count, Cond.selects RX3 yX3_count yX3_count, Cond.initialized RX3, Cond.code yX3_count cX3_count 1 (some .int), Cond.fieldLink RX3 28 "DogBoard$Rows" "count" "I", Cond.methodLink RX0 127 yX0_isMissing, Cond.instanceMethod yX0_isMissing, Cond.selects RX0 yX0_isMissing yX0_isMissing, Cond.code yX0_isMissing cX0_isMissing 2 (some .boolean)]
def wsX7_meant_r2 : List Cond := [Cond.methodLink RX0 112 yX3_get, Cond.instanceMethod yX3_get, Cond.selects RX3 yX3_get yX3_get, Cond.code yX3_get cX3_get 4 (some .int), Cond.fieldLink RX3 15 "DogBoard$Rows" "width" "I", Cond.fieldLink RX3 24 "DogBoard$Rows" "cells" "[I", Cond.methodLink RX0 118 yX0_unlikeMarks, Cond.instanceMethod yX0_unlikeMarks, Cond.selects RX0 yX0_unlikeMarks yX0_unlikeMarks, Cond.code yX0_unlikeMarks cX0_unlikeMarks 3 (some .int), Cond.methodLink RX0 104 yJ6_bitCount_0f7a4, Cond.static yJ6_bitCount_0f7a4, Cond.initialized RJ6, Cond.code yJ6_bitCount_0f7a4 cJ6_bitCount_0f7a4 1 (some .int), Cond.constant RJ6 265 (1431655765), Cond.constant RJ6 266 (858993459), Cond.constant RJ6 267 (252645135), Cond.methodLink RX0 131 yX0_isMeantBefore, Cond.instanceMethod yX0_isMeantBefore, Cond.selects RX0 yX0_isMeantBefore yX0_isMeantBefore, Cond.code yX0_isMeantBefore cX0_isMeantBefore 6 (some .boolean)]
def wsX7_meant : List Cond := .code yX7_meant cX7_meant 2 (some .int) :: ((wsX7_meant_r1 ++ wsX7_meant_r2) ++ wsX70 ++ wsX00 ++ wsX30 ++ (vx_atS RX7 52 "java/lang/IllegalArgumentException" ["java/lang/RuntimeException", "java/lang/Exception"]).filter goodWord)
def wsX7_ifFound_r1 : List Cond := [Cond.fieldLink RX7 10 "DogBoard" "now" "LDogBoard$Board;", Cond.methodLink RX7 129 yX7_isFinder, Cond.static yX7_isFinder, Cond.initialized RX7, Cond.code yX7_isFinder cX7_isFinder 1 (some .boolean), Cond.methodLink RX7 44 yX7_isIn, Cond.static yX7_isIn, Cond.code yX7_isIn cX7_isIn 3 (some .boolean), Cond.methodLink RX7 178 yX0_faultOfFinding, Cond.instanceMethod yX0_faultOfFinding, Cond.selects RX0 yX0_faultOfFinding yX0_faultOfFinding, Cond.initialized RX0, Cond.code yX0_faultOfFinding cX0_faultOfFinding 4 (some .int), Cond.static yX7_isCorner, Cond.code yX7_isCorner cX7_isCorner 1 (some .boolean), Cond.methodLink RX0 196 yX0_faultOfAsking, Cond.instanceMethod yX0_faultOfAsking, Cond.selects RX0 yX0_faultOfAsking yX0_faultOfAsking, Cond.code yX0_faultOfAsking cX0_faultOfAsking 2 (some .int), Cond.fieldLink RX0 23 "DogBoard$Board" "dogs" "LDogBoard$Rows;", Cond.methodLink RX0 151 yX3_has, Cond.instanceMethod yX3_has, Cond.selects RX3 yX3_has yX3_has, Cond.initialized RX3]
def wsX7_ifFound_r2 : List Cond := [Cond.code yX3_has cX3_has 2 (some .boolean), Cond.fieldLink RX3 28 "DogBoard$Rows" "count" "I", Cond.methodLink RX0 127 yX0_isMissing, Cond.instanceMethod yX0_isMissing, Cond.selects RX0 yX0_isMissing yX0_isMissing, Cond.code yX0_isMissing cX0_isMissing 2 (some .boolean), Cond.methodLink RX0 112 yX3_get, Cond.instanceMethod yX3_get, Cond.selects RX3 yX3_get yX3_get, Cond.code yX3_get cX3_get 4 (some .int), Cond.fieldLink RX3 15 "DogBoard$Rows" "width" "I", Cond.fieldLink RX3 24 "DogBoard$Rows" "cells" "[I", Cond.methodLink RX7 160 yX7_throwFor, Cond.static yX7_throwFor, Cond.code yX7_throwFor cX7_throwFor 1 none, Cond.classLink RX7 108 "java/lang/IndexOutOfBoundsException", Cond.initialized "java/lang/IndexOutOfBoundsException", Cond.classLink RX7 48 "java/lang/IllegalArgumentException", Cond.initialized "java/lang/IllegalArgumentException", Cond.classLink RX7 59 "java/lang/IllegalStateException", Cond.initialized "java/lang/IllegalStateException", Cond.methodLink RX7 230 yX0_shareOf, Cond.instanceMethod yX0_shareOf, Cond.selects RX0 yX0_shareOf yX0_shareOf]
def wsX7_ifFound_r3 : List Cond := [Cond.code yX0_shareOf cX0_shareOf 5 (some .int), Cond.methodLink RX0 115 yX0_honestFor, Cond.instanceMethod yX0_honestFor, Cond.selects RX0 yX0_honestFor yX0_honestFor, Cond.code yX0_honestFor cX0_honestFor 2 (some .int), Cond.methodLink RX0 100 yX0_sightingsMeaning, Cond.instanceMethod yX0_sightingsMeaning, Cond.selects RX0 yX0_sightingsMeaning yX0_sightingsMeaning, Cond.code yX0_sightingsMeaning cX0_sightingsMeaning 4 (some .int), Cond.fieldLink RX0 27 "DogBoard$Board" "sightings" "LDogBoard$Rows;", Cond.methodLink RX0 87 yX3_count, Cond.instanceMethod yX3_count, Cond.selects RX3 yX3_count yX3_count, Cond.code yX3_count cX3_count 1 (some .int), Cond.methodLink RX0 124 yX0_fraudsFor, Cond.instanceMethod yX0_fraudsFor, Cond.selects RX0 yX0_fraudsFor yX0_fraudsFor, Cond.code yX0_fraudsFor cX0_fraudsFor 7 (some .int), Cond.methodLink RX0 135 yX0_trueNowFor, Cond.instanceMethod yX0_trueNowFor, Cond.selects RX0 yX0_trueNowFor yX0_trueNowFor, Cond.code yX0_trueNowFor cX0_trueNowFor 7 (some .int), Cond.fieldLink RX0 12 "DogBoard$Board" "quarter" "LDogBoard$Quarter;", Cond.methodLink RX0 138 yX2_isWithin]
def wsX7_ifFound_r4 : List Cond := [Cond.instanceMethod yX2_isWithin, Cond.selects RX2 yX2_isWithin yX2_isWithin, Cond.initialized RX2, Cond.code yX2_isWithin cX2_isWithin 5 (some .boolean), Cond.fieldLink RX2 9 "DogBoard$Quarter" "ways" "[I", Cond.static yX7_hasBit, Cond.code yX7_hasBit cX7_hasBit 2 (some .boolean), Cond.methodLink RX0 145 yX0_fitsOneOf, Cond.instanceMethod yX0_fitsOneOf, Cond.selects RX0 yX0_fitsOneOf yX0_fitsOneOf, Cond.code yX0_fitsOneOf cX0_fitsOneOf 6 (some .boolean), Cond.methodLink RX0 148 Lib.Math.abs.name, Cond.static Lib.Math.abs.name, Cond.initialized "java/lang/Math", Cond.code Lib.Math.abs.name Lib.Math.abs.code 1 (some .int), Cond.methodLink RX0 206 yX0_shareBy, Cond.instanceMethod yX0_shareBy, Cond.selects RX0 yX0_shareBy yX0_shareBy, Cond.code yX0_shareBy cX0_shareBy 10 (some .int), Cond.methodLink RX0 210 yX0_helpOf, Cond.instanceMethod yX0_helpOf, Cond.selects RX0 yX0_helpOf yX0_helpOf, Cond.code yX0_helpOf cX0_helpOf 4 (some .int)]
def wsX7_ifFound : List Cond := .code yX7_ifFound cX7_ifFound 5 (some .int) :: ((wsX7_ifFound_r1 ++ (wsX7_ifFound_r2 ++ (wsX7_ifFound_r3 ++ wsX7_ifFound_r4))) ++ wsX70 ++ wsX00 ++ wsX30 ++ wsX20 ++ (vx_atS RX7 112 "java/lang/IndexOutOfBoundsException" ["java/lang/RuntimeException", "java/lang/Exception"]).filter goodWord ++ (vx_atS RX7 52 "java/lang/IllegalArgumentException" ["java/lang/RuntimeException", "java/lang/Exception"]).filter goodWord ++ (vx_atS RX7 63 "java/lang/IllegalStateException" ["java/lang/RuntimeException", "java/lang/Exception"]).filter goodWord)
def wsX7_runScript_r1 : List Cond := [Cond.classLink RX7 48 "java/lang/IllegalArgumentException", Cond.initialized "java/lang/IllegalArgumentException", Cond.constantLong RX7 235 (1000000), Cond.fieldLink RX7 16 "DogBoard" "trial" "LDogBoard$Board;", Cond.fieldLink RX7 10 "DogBoard" "now" "LDogBoard$Board;", Cond.methodLink RX7 44 yX7_isIn, Cond.static yX7_isIn, Cond.initialized RX7, Cond.code yX7_isIn cX7_isIn 3 (some .boolean), Cond.methodLink RX7 239 yX0_copyFrom, Cond.instanceMethod yX0_copyFrom, Cond.selects RX0 yX0_copyFrom yX0_copyFrom, Cond.initialized RX0, Cond.code yX0_copyFrom cX0_copyFrom 2 none, Cond.fieldLink RX0 12 "DogBoard$Board" "quarter" "LDogBoard$Quarter;", Cond.fieldLink RX0 23 "DogBoard$Board" "dogs" "LDogBoard$Rows;", Cond.fieldLink RX0 27 "DogBoard$Board" "sightings" "LDogBoard$Rows;", Cond.fieldLink RX0 30 "DogBoard$Board" "purses" "[I", Cond.methodLink RX0 75 Lib.Math.min.name, Cond.static Lib.Math.min.name, Cond.initialized "java/lang/Math", Cond.code Lib.Math.min.name Lib.Math.min.code 2 (some .int), Cond.methodLink RX0 81 arraycopyName, Cond.native arraycopyName]
def wsX7_runScript_r2 : List Cond := [Cond.static arraycopyName, Cond.initialized "java/lang/System", Cond.fieldLink RX0 49 "DogBoard$Board" "hour" "I", Cond.fieldLink RX0 53 "DogBoard$Board" "paid" "I", Cond.fieldLink RX0 56 "DogBoard$Board" "given" "I", Cond.fieldLink RX0 59 "DogBoard$Board" "stayed" "I", Cond.fieldLink RX0 62 "DogBoard$Board" "growth" "I", Cond.fieldLink RX0 65 "DogBoard$Board" "mostUnlike" "I", Cond.methodLink RX0 68 yX2_copyFrom, Cond.instanceMethod yX2_copyFrom, Cond.selects RX2 yX2_copyFrom yX2_copyFrom, Cond.initialized RX2, Cond.code yX2_copyFrom cX2_copyFrom 2 none, Cond.fieldLink RX2 9 "DogBoard$Quarter" "ways" "[I", Cond.methodLink RX2 25 Lib.Math.min.name, Cond.methodLink RX2 31 arraycopyName, Cond.fieldLink RX2 18 "DogBoard$Quarter" "closed" "I", Cond.methodLink RX0 72 yX3_copyFrom, Cond.instanceMethod yX3_copyFrom, Cond.selects RX3 yX3_copyFrom yX3_copyFrom, Cond.initialized RX3, Cond.code yX3_copyFrom cX3_copyFrom 2 none, Cond.fieldLink RX3 24 "DogBoard$Rows" "cells" "[I", Cond.methodLink RX3 39 Lib.Math.min.name]
def wsX7_runScript_r3 : List Cond := [Cond.methodLink RX3 42 arraycopyName, Cond.fieldLink RX3 28 "DogBoard$Rows" "count" "I", Cond.methodLink RX7 242 yX4_succeeds, Cond.static yX4_succeeds, Cond.initialized RX4, Cond.code yX4_succeeds cX4_succeeds 9 (some .boolean), Cond.constant RX4 9 (100000), Cond.methodLink RX4 10 yX0_passHours, Cond.instanceMethod yX0_passHours, Cond.selects RX0 yX0_passHours yX0_passHours, Cond.code yX0_passHours cX0_passHours 7 (some .int), Cond.methodLink RX0 223 yX0_faultOfPassing, Cond.instanceMethod yX0_faultOfPassing, Cond.selects RX0 yX0_faultOfPassing yX0_faultOfPassing, Cond.code yX0_faultOfPassing cX0_faultOfPassing 2 (some .int), Cond.methodLink RX0 87 yX3_count, Cond.instanceMethod yX3_count, Cond.selects RX3 yX3_count yX3_count, Cond.code yX3_count cX3_count 1 (some .int), Cond.methodLink RX0 112 yX3_get, Cond.instanceMethod yX3_get, Cond.selects RX3 yX3_get yX3_get, Cond.code yX3_get cX3_get 4 (some .int), Cond.fieldLink RX3 15 "DogBoard$Rows" "width" "I"]
def wsX7_runScript_r4 : List Cond := [Cond.methodLink RX0 127 yX0_isMissing, Cond.instanceMethod yX0_isMissing, Cond.selects RX0 yX0_isMissing yX0_isMissing, Cond.code yX0_isMissing cX0_isMissing 2 (some .boolean), Cond.methodLink RX0 183 yX3_put, Cond.instanceMethod yX3_put, Cond.selects RX3 yX3_put yX3_put, Cond.code yX3_put cX3_put 5 none, Cond.methodLink RX4 16 yX0_tellSighting, Cond.instanceMethod yX0_tellSighting, Cond.selects RX0 yX0_tellSighting yX0_tellSighting, Cond.code yX0_tellSighting cX0_tellSighting 8 (some .int), Cond.methodLink RX0 190 yX0_faultOfTelling, Cond.instanceMethod yX0_faultOfTelling, Cond.selects RX0 yX0_faultOfTelling yX0_faultOfTelling, Cond.code yX0_faultOfTelling cX0_faultOfTelling 5 (some .int), Cond.static yX7_isFinder, Cond.code yX7_isFinder cX7_isFinder 1 (some .boolean), Cond.static yX7_isCorner, Cond.code yX7_isCorner cX7_isCorner 1 (some .boolean), Cond.methodLink RX0 172 yX3_isFull, Cond.instanceMethod yX3_isFull, Cond.selects RX3 yX3_isFull yX3_isFull, Cond.code yX3_isFull cX3_isFull 1 (some .boolean)]
def wsX7_runScript_r5 : List Cond := [Cond.fieldLink RX3 9 "DogBoard$Rows" "most" "I", Cond.methodLink RX0 193 yX0_dogMeantBy, Cond.instanceMethod yX0_dogMeantBy, Cond.selects RX0 yX0_dogMeantBy yX0_dogMeantBy, Cond.code yX0_dogMeantBy cX0_dogMeantBy 6 (some .int), Cond.methodLink RX0 118 yX0_unlikeMarks, Cond.instanceMethod yX0_unlikeMarks, Cond.selects RX0 yX0_unlikeMarks yX0_unlikeMarks, Cond.code yX0_unlikeMarks cX0_unlikeMarks 3 (some .int), Cond.methodLink RX0 104 yJ6_bitCount_0f7a4, Cond.static yJ6_bitCount_0f7a4, Cond.initialized RJ6, Cond.code yJ6_bitCount_0f7a4 cJ6_bitCount_0f7a4 1 (some .int), Cond.constant RJ6 265 (1431655765), Cond.constant RJ6 266 (858993459), Cond.constant RJ6 267 (252645135), Cond.methodLink RX0 131 yX0_isMeantBefore, Cond.instanceMethod yX0_isMeantBefore, Cond.selects RX0 yX0_isMeantBefore yX0_isMeantBefore, Cond.code yX0_isMeantBefore cX0_isMeantBefore 6 (some .boolean), Cond.methodLink RX0 180 yX3_addRow, Cond.instanceMethod yX3_addRow, Cond.selects RX3 yX3_addRow yX3_addRow, Cond.code yX3_addRow cX3_addRow 3 (some .int)]
def wsX7_runScript_r6 : List Cond := [Cond.methodLink RX3 31 yX3_isFull, Cond.methodLink RX3 35 yX3_put, Cond.methodLink RX4 20 yX0_findDog, Cond.instanceMethod yX0_findDog, Cond.selects RX0 yX0_findDog yX0_findDog, Cond.code yX0_findDog cX0_findDog 11 (some .int), Cond.methodLink RX0 199 yX0_faultOfFinding, Cond.instanceMethod yX0_faultOfFinding, Cond.selects RX0 yX0_faultOfFinding yX0_faultOfFinding, Cond.code yX0_faultOfFinding cX0_faultOfFinding 4 (some .int), Cond.methodLink RX0 196 yX0_faultOfAsking, Cond.instanceMethod yX0_faultOfAsking, Cond.selects RX0 yX0_faultOfAsking yX0_faultOfAsking, Cond.code yX0_faultOfAsking cX0_faultOfAsking 2 (some .int), Cond.methodLink RX0 151 yX3_has, Cond.instanceMethod yX3_has, Cond.selects RX3 yX3_has yX3_has, Cond.code yX3_has cX3_has 2 (some .boolean), Cond.methodLink RX0 121 yX0_trueFor, Cond.instanceMethod yX0_trueFor, Cond.selects RX0 yX0_trueFor yX0_trueFor, Cond.code yX0_trueFor cX0_trueFor 2 (some .int), Cond.methodLink RX0 135 yX0_trueNowFor, Cond.instanceMethod yX0_trueNowFor]
def wsX7_runScript_r7 : List Cond := [Cond.selects RX0 yX0_trueNowFor yX0_trueNowFor, Cond.code yX0_trueNowFor cX0_trueNowFor 7 (some .int), Cond.methodLink RX0 138 yX2_isWithin, Cond.instanceMethod yX2_isWithin, Cond.selects RX2 yX2_isWithin yX2_isWithin, Cond.code yX2_isWithin cX2_isWithin 5 (some .boolean), Cond.methodLink RX0 124 yX0_fraudsFor, Cond.instanceMethod yX0_fraudsFor, Cond.selects RX0 yX0_fraudsFor yX0_fraudsFor, Cond.code yX0_fraudsFor cX0_fraudsFor 7 (some .int), Cond.methodLink RX0 100 yX0_sightingsMeaning, Cond.instanceMethod yX0_sightingsMeaning, Cond.selects RX0 yX0_sightingsMeaning yX0_sightingsMeaning, Cond.code yX0_sightingsMeaning cX0_sightingsMeaning 4 (some .int), Cond.static yX7_hasBit, Cond.code yX7_hasBit cX7_hasBit 2 (some .boolean), Cond.methodLink RX0 145 yX0_fitsOneOf, Cond.instanceMethod yX0_fitsOneOf, Cond.selects RX0 yX0_fitsOneOf yX0_fitsOneOf, Cond.code yX0_fitsOneOf cX0_fitsOneOf 6 (some .boolean), Cond.methodLink RX0 148 Lib.Math.abs.name, Cond.static Lib.Math.abs.name, Cond.code Lib.Math.abs.name Lib.Math.abs.code 1 (some .int), Cond.methodLink RX0 203 yX0_coinsOf]
def wsX7_runScript_r8 : List Cond := [Cond.instanceMethod yX0_coinsOf, Cond.selects RX0 yX0_coinsOf yX0_coinsOf, Cond.code yX0_coinsOf cX0_coinsOf 2 (some .int), Cond.methodLink RX0 206 yX0_shareBy, Cond.instanceMethod yX0_shareBy, Cond.selects RX0 yX0_shareBy yX0_shareBy, Cond.code yX0_shareBy cX0_shareBy 10 (some .int), Cond.methodLink RX0 210 yX0_helpOf, Cond.instanceMethod yX0_helpOf, Cond.selects RX0 yX0_helpOf yX0_helpOf, Cond.code yX0_helpOf cX0_helpOf 4 (some .int), Cond.methodLink RX4 24 yX0_closeStreet, Cond.instanceMethod yX0_closeStreet, Cond.selects RX0 yX0_closeStreet yX0_closeStreet, Cond.code yX0_closeStreet cX0_closeStreet 4 (some .int), Cond.methodLink RX0 216 yX0_faultOfClosing, Cond.instanceMethod yX0_faultOfClosing, Cond.selects RX0 yX0_faultOfClosing yX0_faultOfClosing, Cond.code yX0_faultOfClosing cX0_faultOfClosing 3 (some .int), Cond.methodLink RX0 213 yX2_streetBetween, Cond.static yX2_streetBetween, Cond.code yX2_streetBetween cX2_streetBetween 3 (some .int), Cond.fieldLink RX2 43 "DogBoard$Quarter" "ENDS" "[I", Cond.methodLink RX0 219 yX2_setClosed]
def wsX7_runScript_r9 : List Cond := [Cond.instanceMethod yX2_setClosed, Cond.selects RX2 yX2_setClosed yX2_setClosed, Cond.code yX2_setClosed cX2_setClosed 4 none, Cond.methodLink RX2 22 yX2_measureAll, Cond.instanceMethod yX2_measureAll, Cond.selects RX2 yX2_measureAll yX2_measureAll, Cond.code yX2_measureAll cX2_measureAll 5 none, Cond.methodLink RX2 46 yJ7_fill_53178, Cond.static yJ7_fill_53178, Cond.initialized RJ7, Cond.code yJ7_fill_53178 cJ7_fill_53178 4 none, Cond.methodLink RX2 52 yX2_noteWays, Cond.instanceMethod yX2_noteWays, Cond.selects RX2 yX2_noteWays yX2_noteWays, Cond.code yX2_noteWays cX2_noteWays 6 none, Cond.methodLink RX2 56 yX2_besideAnyOf, Cond.instanceMethod yX2_besideAnyOf, Cond.selects RX2 yX2_besideAnyOf yX2_besideAnyOf, Cond.code yX2_besideAnyOf cX2_besideAnyOf 4 (some .int), Cond.methodLink RX0 109 yX2_closedStreets, Cond.instanceMethod yX2_closedStreets, Cond.selects RX2 yX2_closedStreets yX2_closedStreets, Cond.code yX2_closedStreets cX2_closedStreets 1 (some .int), Cond.methodLink RX2 37 yJ6_bitCount_0f7a4]
def wsX7_runScript_r10 : List Cond := [Cond.methodLink RX4 28 yX0_changeSetting, Cond.instanceMethod yX0_changeSetting, Cond.selects RX0 yX0_changeSetting yX0_changeSetting, Cond.code yX0_changeSetting cX0_changeSetting 4 (some .int), Cond.methodLink RX0 226 yX0_faultOfSetting, Cond.instanceMethod yX0_faultOfSetting, Cond.selects RX0 yX0_faultOfSetting yX0_faultOfSetting, Cond.code yX0_faultOfSetting cX0_faultOfSetting 4 (some .int), Cond.methodLink RX4 36 yX0_isMissing, Cond.methodLink RX4 39 yX0_placesOf, Cond.instanceMethod yX0_placesOf, Cond.selects RX0 yX0_placesOf yX0_placesOf, Cond.code yX0_placesOf cX0_placesOf 5 (some .int), Cond.methodLink RX0 115 yX0_honestFor, Cond.instanceMethod yX0_honestFor, Cond.selects RX0 yX0_honestFor yX0_honestFor, Cond.code yX0_honestFor cX0_honestFor 2 (some .int), Cond.methodLink RX0 154 yX0_canReach, Cond.instanceMethod yX0_canReach, Cond.selects RX0 yX0_canReach yX0_canReach, Cond.code yX0_canReach cX0_canReach 8 (some .boolean), Cond.methodLink RX4 46 yX0_fraudsInAll, Cond.instanceMethod yX0_fraudsInAll, Cond.selects RX0 yX0_fraudsInAll yX0_fraudsInAll]
def wsX7_runScript_r11 : List Cond := [Cond.code yX0_fraudsInAll cX0_fraudsInAll 3 (some .int), Cond.methodLink RX4 54 yX3_has, Cond.methodLink RX4 59 yX3_get, Cond.methodLink RX4 65 yX0_coinsOf]
def wsX7_runScript : List Cond := .code yX7_runScript cX7_runScript 8 (some .int) :: ((wsX7_runScript_r1 ++ (wsX7_runScript_r2 ++ (wsX7_runScript_r3 ++ (wsX7_runScript_r4 ++ (wsX7_runScript_r5 ++ (wsX7_runScript_r6 ++ (wsX7_runScript_r7 ++ (wsX7_runScript_r8 ++ (wsX7_runScript_r9 ++ (wsX7_runScript_r10 ++ wsX7_runScript_r11)))))))))) ++ wsX70 ++ wsX00 ++ wsX20 ++ wsX30 ++ (vx_atS RX7 52 "java/lang/IllegalArgumentException" ["java/lang/RuntimeException", "java/lang/Exception"]).filter goodWord)
def wsX7_simulate_r1 : List Cond := [Cond.classLink RX7 48 "java/lang/IllegalArgumentException", Cond.initialized "java/lang/IllegalArgumentException", Cond.fieldLink RX7 16 "DogBoard" "trial" "LDogBoard$Board;", Cond.fieldLink RX7 10 "DogBoard" "now" "LDogBoard$Board;", Cond.constantLong RX7 250 (6364136223846793005), Cond.constantLong RX7 252 (1442695040888963407), Cond.methodLink RX7 44 yX7_isIn, Cond.static yX7_isIn, Cond.initialized RX7, Cond.code yX7_isIn cX7_isIn 3 (some .boolean), Cond.methodLink RX7 239 yX0_copyFrom, Cond.instanceMethod yX0_copyFrom, Cond.selects RX0 yX0_copyFrom yX0_copyFrom, Cond.initialized RX0, Cond.code yX0_copyFrom cX0_copyFrom 2 none, Cond.fieldLink RX0 12 "DogBoard$Board" "quarter" "LDogBoard$Quarter;", Cond.fieldLink RX0 23 "DogBoard$Board" "dogs" "LDogBoard$Rows;", Cond.fieldLink RX0 27 "DogBoard$Board" "sightings" "LDogBoard$Rows;", Cond.fieldLink RX0 30 "DogBoard$Board" "purses" "[I", Cond.methodLink RX0 75 Lib.Math.min.name, Cond.static Lib.Math.min.name, Cond.initialized "java/lang/Math", Cond.code Lib.Math.min.name Lib.Math.min.code 2 (some .int), Cond.methodLink RX0 81 arraycopyName]
def wsX7_simulate_r2 : List Cond := [Cond.native arraycopyName, Cond.static arraycopyName, Cond.initialized "java/lang/System", Cond.fieldLink RX0 49 "DogBoard$Board" "hour" "I", Cond.fieldLink RX0 53 "DogBoard$Board" "paid" "I", Cond.fieldLink RX0 56 "DogBoard$Board" "given" "I", Cond.fieldLink RX0 59 "DogBoard$Board" "stayed" "I", Cond.fieldLink RX0 62 "DogBoard$Board" "growth" "I", Cond.fieldLink RX0 65 "DogBoard$Board" "mostUnlike" "I", Cond.methodLink RX0 68 yX2_copyFrom, Cond.instanceMethod yX2_copyFrom, Cond.selects RX2 yX2_copyFrom yX2_copyFrom, Cond.initialized RX2, Cond.code yX2_copyFrom cX2_copyFrom 2 none, Cond.fieldLink RX2 9 "DogBoard$Quarter" "ways" "[I", Cond.methodLink RX2 25 Lib.Math.min.name, Cond.methodLink RX2 31 arraycopyName, Cond.fieldLink RX2 18 "DogBoard$Quarter" "closed" "I", Cond.methodLink RX0 72 yX3_copyFrom, Cond.instanceMethod yX3_copyFrom, Cond.selects RX3 yX3_copyFrom yX3_copyFrom, Cond.initialized RX3, Cond.code yX3_copyFrom cX3_copyFrom 2 none, Cond.fieldLink RX3 24 "DogBoard$Rows" "cells" "[I"]
def wsX7_simulate_r3 : List Cond := [Cond.methodLink RX3 39 Lib.Math.min.name, Cond.methodLink RX3 42 arraycopyName, Cond.fieldLink RX3 28 "DogBoard$Rows" "count" "I", Cond.methodLink RX7 254 yX5_playTurn, Cond.static yX5_playTurn, Cond.initialized RX5, Cond.code yX5_playTurn cX5_playTurn 3 (some .int), Cond.constant RX5 13 (32768), Cond.constant RX5 14 (262144), Cond.methodLink RX5 7 yX0_loseDog, Cond.instanceMethod yX0_loseDog, Cond.selects RX0 yX0_loseDog yX0_loseDog, Cond.code yX0_loseDog cX0_loseDog 6 (some .int), Cond.methodLink RX0 176 yX0_faultOfLosing, Cond.instanceMethod yX0_faultOfLosing, Cond.selects RX0 yX0_faultOfLosing yX0_faultOfLosing, Cond.code yX0_faultOfLosing cX0_faultOfLosing 5 (some .int), Cond.static yX7_isCorner, Cond.code yX7_isCorner cX7_isCorner 1 (some .boolean), Cond.methodLink RX0 172 yX3_isFull, Cond.instanceMethod yX3_isFull, Cond.selects RX3 yX3_isFull yX3_isFull, Cond.code yX3_isFull cX3_isFull 1 (some .boolean), Cond.fieldLink RX3 9 "DogBoard$Rows" "most" "I"]
def wsX7_simulate_r4 : List Cond := [Cond.methodLink RX0 180 yX3_addRow, Cond.instanceMethod yX3_addRow, Cond.selects RX3 yX3_addRow yX3_addRow, Cond.code yX3_addRow cX3_addRow 3 (some .int), Cond.fieldLink RX3 15 "DogBoard$Rows" "width" "I", Cond.methodLink RX3 31 yX3_isFull, Cond.methodLink RX3 35 yX3_put, Cond.instanceMethod yX3_put, Cond.selects RX3 yX3_put yX3_put, Cond.code yX3_put cX3_put 5 none, Cond.methodLink RX0 183 yX3_put, Cond.methodLink RX5 15 yX0_tellSighting, Cond.instanceMethod yX0_tellSighting, Cond.selects RX0 yX0_tellSighting yX0_tellSighting, Cond.code yX0_tellSighting cX0_tellSighting 8 (some .int), Cond.methodLink RX0 190 yX0_faultOfTelling, Cond.instanceMethod yX0_faultOfTelling, Cond.selects RX0 yX0_faultOfTelling yX0_faultOfTelling, Cond.code yX0_faultOfTelling cX0_faultOfTelling 5 (some .int), Cond.static yX7_isFinder, Cond.code yX7_isFinder cX7_isFinder 1 (some .boolean), Cond.methodLink RX0 193 yX0_dogMeantBy, Cond.instanceMethod yX0_dogMeantBy, Cond.selects RX0 yX0_dogMeantBy yX0_dogMeantBy]
def wsX7_simulate_r5 : List Cond := [Cond.code yX0_dogMeantBy cX0_dogMeantBy 6 (some .int), Cond.methodLink RX0 87 yX3_count, Cond.instanceMethod yX3_count, Cond.selects RX3 yX3_count yX3_count, Cond.code yX3_count cX3_count 1 (some .int), Cond.methodLink RX0 127 yX0_isMissing, Cond.instanceMethod yX0_isMissing, Cond.selects RX0 yX0_isMissing yX0_isMissing, Cond.code yX0_isMissing cX0_isMissing 2 (some .boolean), Cond.methodLink RX0 112 yX3_get, Cond.instanceMethod yX3_get, Cond.selects RX3 yX3_get yX3_get, Cond.code yX3_get cX3_get 4 (some .int), Cond.methodLink RX0 118 yX0_unlikeMarks, Cond.instanceMethod yX0_unlikeMarks, Cond.selects RX0 yX0_unlikeMarks yX0_unlikeMarks, Cond.code yX0_unlikeMarks cX0_unlikeMarks 3 (some .int), Cond.methodLink RX0 104 yJ6_bitCount_0f7a4, Cond.static yJ6_bitCount_0f7a4, Cond.initialized RJ6, Cond.code yJ6_bitCount_0f7a4 cJ6_bitCount_0f7a4 1 (some .int), Cond.constant RJ6 265 (1431655765), Cond.constant RJ6 266 (858993459), Cond.constant RJ6 267 (252645135)]
def wsX7_simulate_r6 : List Cond := [Cond.methodLink RX0 131 yX0_isMeantBefore, Cond.instanceMethod yX0_isMeantBefore, Cond.selects RX0 yX0_isMeantBefore yX0_isMeantBefore, Cond.code yX0_isMeantBefore cX0_isMeantBefore 6 (some .boolean), Cond.methodLink RX5 19 yX0_findDog, Cond.instanceMethod yX0_findDog, Cond.selects RX0 yX0_findDog yX0_findDog, Cond.code yX0_findDog cX0_findDog 11 (some .int), Cond.methodLink RX0 199 yX0_faultOfFinding, Cond.instanceMethod yX0_faultOfFinding, Cond.selects RX0 yX0_faultOfFinding yX0_faultOfFinding, Cond.code yX0_faultOfFinding cX0_faultOfFinding 4 (some .int), Cond.methodLink RX0 196 yX0_faultOfAsking, Cond.instanceMethod yX0_faultOfAsking, Cond.selects RX0 yX0_faultOfAsking yX0_faultOfAsking, Cond.code yX0_faultOfAsking cX0_faultOfAsking 2 (some .int), Cond.methodLink RX0 151 yX3_has, Cond.instanceMethod yX3_has, Cond.selects RX3 yX3_has yX3_has, Cond.code yX3_has cX3_has 2 (some .boolean), Cond.methodLink RX0 121 yX0_trueFor, Cond.instanceMethod yX0_trueFor, Cond.selects RX0 yX0_trueFor yX0_trueFor, Cond.code yX0_trueFor cX0_trueFor 2 (some .int)]
def wsX7_simulate_r7 : List Cond := [Cond.methodLink RX0 135 yX0_trueNowFor, Cond.instanceMethod yX0_trueNowFor, Cond.selects RX0 yX0_trueNowFor yX0_trueNowFor, Cond.code yX0_trueNowFor cX0_trueNowFor 7 (some .int), Cond.methodLink RX0 138 yX2_isWithin, Cond.instanceMethod yX2_isWithin, Cond.selects RX2 yX2_isWithin yX2_isWithin, Cond.code yX2_isWithin cX2_isWithin 5 (some .boolean), Cond.methodLink RX0 124 yX0_fraudsFor, Cond.instanceMethod yX0_fraudsFor, Cond.selects RX0 yX0_fraudsFor yX0_fraudsFor, Cond.code yX0_fraudsFor cX0_fraudsFor 7 (some .int), Cond.methodLink RX0 100 yX0_sightingsMeaning, Cond.instanceMethod yX0_sightingsMeaning, Cond.selects RX0 yX0_sightingsMeaning yX0_sightingsMeaning, Cond.code yX0_sightingsMeaning cX0_sightingsMeaning 4 (some .int), Cond.static yX7_hasBit, Cond.code yX7_hasBit cX7_hasBit 2 (some .boolean), Cond.methodLink RX0 145 yX0_fitsOneOf, Cond.instanceMethod yX0_fitsOneOf, Cond.selects RX0 yX0_fitsOneOf yX0_fitsOneOf, Cond.code yX0_fitsOneOf cX0_fitsOneOf 6 (some .boolean), Cond.methodLink RX0 148 Lib.Math.abs.name, Cond.static Lib.Math.abs.name]
def wsX7_simulate_r8 : List Cond := [Cond.code Lib.Math.abs.name Lib.Math.abs.code 1 (some .int), Cond.methodLink RX0 203 yX0_coinsOf, Cond.instanceMethod yX0_coinsOf, Cond.selects RX0 yX0_coinsOf yX0_coinsOf, Cond.code yX0_coinsOf cX0_coinsOf 2 (some .int), Cond.methodLink RX0 206 yX0_shareBy, Cond.instanceMethod yX0_shareBy, Cond.selects RX0 yX0_shareBy yX0_shareBy, Cond.code yX0_shareBy cX0_shareBy 10 (some .int), Cond.methodLink RX0 210 yX0_helpOf, Cond.instanceMethod yX0_helpOf, Cond.selects RX0 yX0_helpOf yX0_helpOf, Cond.code yX0_helpOf cX0_helpOf 4 (some .int), Cond.methodLink RX5 23 yX0_closeStreet, Cond.instanceMethod yX0_closeStreet, Cond.selects RX0 yX0_closeStreet yX0_closeStreet, Cond.code yX0_closeStreet cX0_closeStreet 4 (some .int), Cond.methodLink RX0 216 yX0_faultOfClosing, Cond.instanceMethod yX0_faultOfClosing, Cond.selects RX0 yX0_faultOfClosing yX0_faultOfClosing, Cond.code yX0_faultOfClosing cX0_faultOfClosing 3 (some .int), Cond.methodLink RX0 213 yX2_streetBetween, Cond.static yX2_streetBetween, Cond.code yX2_streetBetween cX2_streetBetween 3 (some .int)]
def wsX7_simulate_r9 : List Cond := [Cond.fieldLink RX2 43 "DogBoard$Quarter" "ENDS" "[I", Cond.methodLink RX0 219 yX2_setClosed, Cond.instanceMethod yX2_setClosed, Cond.selects RX2 yX2_setClosed yX2_setClosed, Cond.code yX2_setClosed cX2_setClosed 4 none, Cond.methodLink RX2 22 yX2_measureAll, Cond.instanceMethod yX2_measureAll, Cond.selects RX2 yX2_measureAll yX2_measureAll, Cond.code yX2_measureAll cX2_measureAll 5 none, Cond.methodLink RX2 46 yJ7_fill_53178, Cond.static yJ7_fill_53178, Cond.initialized RJ7, Cond.code yJ7_fill_53178 cJ7_fill_53178 4 none, Cond.methodLink RX2 52 yX2_noteWays, Cond.instanceMethod yX2_noteWays, Cond.selects RX2 yX2_noteWays yX2_noteWays, Cond.code yX2_noteWays cX2_noteWays 6 none, Cond.methodLink RX2 56 yX2_besideAnyOf, Cond.instanceMethod yX2_besideAnyOf, Cond.selects RX2 yX2_besideAnyOf yX2_besideAnyOf, Cond.code yX2_besideAnyOf cX2_besideAnyOf 4 (some .int), Cond.methodLink RX0 109 yX2_closedStreets, Cond.instanceMethod yX2_closedStreets, Cond.selects RX2 yX2_closedStreets yX2_closedStreets]
def wsX7_simulate_r10 : List Cond := [Cond.code yX2_closedStreets cX2_closedStreets 1 (some .int), Cond.methodLink RX2 37 yJ6_bitCount_0f7a4, Cond.methodLink RX5 27 yX0_passHours, Cond.instanceMethod yX0_passHours, Cond.selects RX0 yX0_passHours yX0_passHours, Cond.code yX0_passHours cX0_passHours 7 (some .int), Cond.methodLink RX0 223 yX0_faultOfPassing, Cond.instanceMethod yX0_faultOfPassing, Cond.selects RX0 yX0_faultOfPassing yX0_faultOfPassing, Cond.code yX0_faultOfPassing cX0_faultOfPassing 2 (some .int), Cond.methodLink RX7 263 yX0_fraudsInAll, Cond.instanceMethod yX0_fraudsInAll, Cond.selects RX0 yX0_fraudsInAll yX0_fraudsInAll, Cond.code yX0_fraudsInAll cX0_fraudsInAll 3 (some .int), Cond.methodLink RX7 266 yX0_missingDogs, Cond.instanceMethod yX0_missingDogs, Cond.selects RX0 yX0_missingDogs yX0_missingDogs, Cond.code yX0_missingDogs cX0_missingDogs 3 (some .int)]
def wsX7_simulate : List Cond := .code yX7_simulate cX7_simulate 7 (some .int) :: ((wsX7_simulate_r1 ++ (wsX7_simulate_r2 ++ (wsX7_simulate_r3 ++ (wsX7_simulate_r4 ++ (wsX7_simulate_r5 ++ (wsX7_simulate_r6 ++ (wsX7_simulate_r7 ++ (wsX7_simulate_r8 ++ (wsX7_simulate_r9 ++ wsX7_simulate_r10))))))))) ++ wsX70 ++ wsX00 ++ wsX20 ++ wsX30 ++ (vx_atS RX7 52 "java/lang/IllegalArgumentException" ["java/lang/RuntimeException", "java/lang/Exception"]).filter goodWord)
def wsX7_isSlot : List Cond := .code yX7_isSlot cX7_isSlot 2 (some .boolean) :: ([.fieldLink RX7 26 "DogBoard" "slots" "[LDogBoard$Board;", .fieldLink RX7 30 "DogBoard" "filled" "[Z"] ++ wsX70)
def wsX7_save_r1 : List Cond := [Cond.classLink RX7 108 "java/lang/IndexOutOfBoundsException", Cond.initialized "java/lang/IndexOutOfBoundsException", Cond.fieldLink RX7 26 "DogBoard" "slots" "[LDogBoard$Board;", Cond.fieldLink RX7 10 "DogBoard" "now" "LDogBoard$Board;", Cond.fieldLink RX7 30 "DogBoard" "filled" "[Z", Cond.methodLink RX7 269 yX7_isSlot, Cond.instanceMethod yX7_isSlot, Cond.selects RX7 yX7_isSlot yX7_isSlot, Cond.initialized RX7, Cond.code yX7_isSlot cX7_isSlot 2 (some .boolean), Cond.methodLink RX7 239 yX0_copyFrom, Cond.instanceMethod yX0_copyFrom, Cond.selects RX0 yX0_copyFrom yX0_copyFrom, Cond.initialized RX0, Cond.code yX0_copyFrom cX0_copyFrom 2 none, Cond.fieldLink RX0 12 "DogBoard$Board" "quarter" "LDogBoard$Quarter;", Cond.fieldLink RX0 23 "DogBoard$Board" "dogs" "LDogBoard$Rows;", Cond.fieldLink RX0 27 "DogBoard$Board" "sightings" "LDogBoard$Rows;", Cond.fieldLink RX0 30 "DogBoard$Board" "purses" "[I", Cond.methodLink RX0 75 Lib.Math.min.name, Cond.static Lib.Math.min.name, Cond.initialized "java/lang/Math", Cond.code Lib.Math.min.name Lib.Math.min.code 2 (some .int), Cond.methodLink RX0 81 arraycopyName]
def wsX7_save_r2 : List Cond := [Cond.native arraycopyName, Cond.static arraycopyName, Cond.initialized "java/lang/System", Cond.fieldLink RX0 49 "DogBoard$Board" "hour" "I", Cond.fieldLink RX0 53 "DogBoard$Board" "paid" "I", Cond.fieldLink RX0 56 "DogBoard$Board" "given" "I", Cond.fieldLink RX0 59 "DogBoard$Board" "stayed" "I", Cond.fieldLink RX0 62 "DogBoard$Board" "growth" "I", Cond.fieldLink RX0 65 "DogBoard$Board" "mostUnlike" "I", Cond.methodLink RX0 68 yX2_copyFrom, Cond.instanceMethod yX2_copyFrom, Cond.selects RX2 yX2_copyFrom yX2_copyFrom, Cond.initialized RX2, Cond.code yX2_copyFrom cX2_copyFrom 2 none, Cond.fieldLink RX2 9 "DogBoard$Quarter" "ways" "[I", Cond.methodLink RX2 25 Lib.Math.min.name, Cond.methodLink RX2 31 arraycopyName, Cond.fieldLink RX2 18 "DogBoard$Quarter" "closed" "I", Cond.methodLink RX0 72 yX3_copyFrom, Cond.instanceMethod yX3_copyFrom, Cond.selects RX3 yX3_copyFrom yX3_copyFrom, Cond.initialized RX3, Cond.code yX3_copyFrom cX3_copyFrom 2 none, Cond.fieldLink RX3 24 "DogBoard$Rows" "cells" "[I"]
def wsX7_save_r3 : List Cond := [Cond.methodLink RX3 39 Lib.Math.min.name, Cond.methodLink RX3 42 arraycopyName, Cond.fieldLink RX3 28 "DogBoard$Rows" "count" "I"]
def wsX7_save : List Cond := .code yX7_save cX7_save 3 (some .int) :: ((wsX7_save_r1 ++ (wsX7_save_r2 ++ wsX7_save_r3)) ++ wsX70 ++ wsX00 ++ wsX20 ++ wsX30 ++ (vx_atS RX7 112 "java/lang/IndexOutOfBoundsException" ["java/lang/RuntimeException", "java/lang/Exception"]).filter goodWord)
def wsX7_restore_r1 : List Cond := [Cond.classLink RX7 108 "java/lang/IndexOutOfBoundsException", Cond.initialized "java/lang/IndexOutOfBoundsException", Cond.classLink RX7 59 "java/lang/IllegalStateException", Cond.initialized "java/lang/IllegalStateException", Cond.fieldLink RX7 26 "DogBoard" "slots" "[LDogBoard$Board;", Cond.fieldLink RX7 30 "DogBoard" "filled" "[Z", Cond.fieldLink RX7 10 "DogBoard" "now" "LDogBoard$Board;", Cond.fieldLink RX7 22 "DogBoard" "history" "LDogBoard$History;", Cond.methodLink RX7 269 yX7_isSlot, Cond.instanceMethod yX7_isSlot, Cond.selects RX7 yX7_isSlot yX7_isSlot, Cond.initialized RX7, Cond.code yX7_isSlot cX7_isSlot 2 (some .boolean), Cond.methodLink RX7 239 yX0_copyFrom, Cond.instanceMethod yX0_copyFrom, Cond.selects RX0 yX0_copyFrom yX0_copyFrom, Cond.initialized RX0, Cond.code yX0_copyFrom cX0_copyFrom 2 none, Cond.fieldLink RX0 12 "DogBoard$Board" "quarter" "LDogBoard$Quarter;", Cond.fieldLink RX0 23 "DogBoard$Board" "dogs" "LDogBoard$Rows;", Cond.fieldLink RX0 27 "DogBoard$Board" "sightings" "LDogBoard$Rows;", Cond.fieldLink RX0 30 "DogBoard$Board" "purses" "[I", Cond.methodLink RX0 75 Lib.Math.min.name, Cond.static Lib.Math.min.name]
def wsX7_restore_r2 : List Cond := [Cond.initialized "java/lang/Math", Cond.code Lib.Math.min.name Lib.Math.min.code 2 (some .int), Cond.methodLink RX0 81 arraycopyName, Cond.native arraycopyName, Cond.static arraycopyName, Cond.initialized "java/lang/System", Cond.fieldLink RX0 49 "DogBoard$Board" "hour" "I", Cond.fieldLink RX0 53 "DogBoard$Board" "paid" "I", Cond.fieldLink RX0 56 "DogBoard$Board" "given" "I", Cond.fieldLink RX0 59 "DogBoard$Board" "stayed" "I", Cond.fieldLink RX0 62 "DogBoard$Board" "growth" "I", Cond.fieldLink RX0 65 "DogBoard$Board" "mostUnlike" "I", Cond.methodLink RX0 68 yX2_copyFrom, Cond.instanceMethod yX2_copyFrom, Cond.selects RX2 yX2_copyFrom yX2_copyFrom, Cond.initialized RX2, Cond.code yX2_copyFrom cX2_copyFrom 2 none, Cond.fieldLink RX2 9 "DogBoard$Quarter" "ways" "[I", Cond.methodLink RX2 25 Lib.Math.min.name, Cond.methodLink RX2 31 arraycopyName, Cond.fieldLink RX2 18 "DogBoard$Quarter" "closed" "I", Cond.methodLink RX0 72 yX3_copyFrom, Cond.instanceMethod yX3_copyFrom, Cond.selects RX3 yX3_copyFrom yX3_copyFrom]
def wsX7_restore_r3 : List Cond := [Cond.initialized RX3, Cond.code yX3_copyFrom cX3_copyFrom 2 none, Cond.fieldLink RX3 24 "DogBoard$Rows" "cells" "[I", Cond.methodLink RX3 39 Lib.Math.min.name, Cond.methodLink RX3 42 arraycopyName, Cond.fieldLink RX3 28 "DogBoard$Rows" "count" "I", Cond.methodLink RX7 77 yX1_forgetAll, Cond.instanceMethod yX1_forgetAll, Cond.selects RX1 yX1_forgetAll yX1_forgetAll, Cond.initialized RX1, Cond.code yX1_forgetAll cX1_forgetAll 1 none, Cond.fieldLink RX1 22 "DogBoard$History" "oldest" "I", Cond.fieldLink RX1 18 "DogBoard$History" "count" "I"]
def wsX7_restore : List Cond := .code yX7_restore cX7_restore 3 (some .int) :: ((wsX7_restore_r1 ++ (wsX7_restore_r2 ++ wsX7_restore_r3)) ++ wsX70 ++ wsX00 ++ wsX20 ++ wsX30 ++ wsX10 ++ (vx_atS RX7 112 "java/lang/IndexOutOfBoundsException" ["java/lang/RuntimeException", "java/lang/Exception"]).filter goodWord ++ (vx_atS RX7 63 "java/lang/IllegalStateException" ["java/lang/RuntimeException", "java/lang/Exception"]).filter goodWord)
def wsX8_clear : List Cond := .code yX8_clear cX8_clear 2 none :: ([])
def wsX8_init : List Cond := .code yX8_init cX8_init 1 none :: ([.methodLink RX8 1 objectInit, .instanceMethod objectInit, .code objectInit ⟨#[0xb1]⟩ 1 none, .arrayClass .int, .fieldLink RX8 7 "DogBoardModel" "text" "[I", .fieldLink RX8 13 "DogBoardModel" "now" "[I", .fieldLink RX8 16 "DogBoardModel" "trial" "[I", .fieldLink RX8 19 "DogBoardModel" "diary" "[I", .fieldLink RX8 22 "DogBoardModel" "kept" "[I", .arrayClass .boolean, .fieldLink RX8 25 "DogBoardModel" "isKept" "[Z", .fieldLink RX8 29 "DogBoardModel" "way" "[I", .fieldLink RX8 32 "DogBoardModel" "help" "[I", .methodLink RX8 35 yX8_clear, .static yX8_clear, .initialized RX8, .code yX8_clear cX8_clear 2 none] ++ wsX80)
def wsX8_thrown : List Cond := .code yX8_thrown cX8_thrown 1 (some .int) :: ([.fieldLink RX8 39 "DogBoardModel" "refusal" "I"] ++ wsX80)
def wsX8_refused : List Cond := .code yX8_refused cX8_refused 2 (some .boolean) :: ([.fieldLink RX8 39 "DogBoardModel" "refusal" "I"] ++ wsX80)
def wsX8_in : List Cond := .code yX8_in cX8_in 6 (some .boolean) :: ([])
def wsX8_copyState : List Cond := .code yX8_copyState cX8_copyState 5 none :: ([])
def wsX8_ofDog : List Cond := .code yX8_ofDog cX8_ofDog 3 (some .int) :: ([])
def wsX8_ofSight : List Cond := .code yX8_ofSight cX8_ofSight 3 (some .int) :: ([])
def wsX8_isDog : List Cond := .code yX8_isDog cX8_isDog 2 (some .boolean) :: ([.methodLink RX8 43 yX8_in, .static yX8_in, .initialized RX8, .code yX8_in cX8_in 6 (some .boolean)])
def wsX8_isMissing : List Cond := .code yX8_isMissing cX8_isMissing 2 (some .boolean) :: ([.methodLink RX8 47 yX8_ofDog, .static yX8_ofDog, .initialized RX8, .code yX8_ofDog cX8_ofDog 3 (some .int)])
def wsX8_isCorner : List Cond := .code yX8_isCorner cX8_isCorner 1 (some .boolean) :: ([.constantLong RX8 51 (11), .methodLink RX8 43 yX8_in, .static yX8_in, .initialized RX8, .code yX8_in cX8_in 6 (some .boolean)])
def wsX8_isFinder : List Cond := .code yX8_isFinder cX8_isFinder 1 (some .boolean) :: ([.constantLong RX8 53 (7), .methodLink RX8 43 yX8_in, .static yX8_in, .initialized RX8, .code yX8_in cX8_in 6 (some .boolean)])
def wsX8_isSetting : List Cond := .code yX8_isSetting cX8_isSetting 2 (some .boolean) :: ([.constantLong RX8 55 (50), .constantLong RX8 57 (8), .methodLink RX8 43 yX8_in, .static yX8_in, .initialized RX8, .code yX8_in cX8_in 6 (some .boolean)])
def wsX8_street : List Cond := .code yX8_street cX8_street 4 (some .int) :: ([])
def wsX8_closedMany : List Cond := .code yX8_closedMany cX8_closedMany 3 (some .int) :: ([])
def wsX8_measure : List Cond := .code yX8_measure cX8_measure 5 none :: ([.fieldLink RX8 29 "DogBoardModel" "way" "[I", .methodLink RX8 59 yX8_street, .static yX8_street, .initialized RX8, .code yX8_street cX8_street 4 (some .int)] ++ wsX80)
def wsX8_reaches : List Cond := .code yX8_reaches cX8_reaches 5 (some .boolean) :: ([.fieldLink RX8 29 "DogBoardModel" "way" "[I"] ++ wsX80)
def wsX8_bits : List Cond := .code yX8_bits cX8_bits 3 (some .int) :: ([])
def wsX8_unlike : List Cond := .code yX8_unlike cX8_unlike 3 (some .int) :: ([.methodLink RX8 47 yX8_ofDog, .static yX8_ofDog, .initialized RX8, .code yX8_ofDog cX8_ofDog 3 (some .int), .methodLink RX8 63 yX8_bits, .static yX8_bits, .code yX8_bits cX8_bits 3 (some .int)])
def wsX8_means : List Cond := .code yX8_means cX8_means 6 (some .int) :: ([.methodLink RX8 67 yX8_isMissing, .static yX8_isMissing, .initialized RX8, .code yX8_isMissing cX8_isMissing 2 (some .boolean), .methodLink RX8 47 yX8_ofDog, .static yX8_ofDog, .code yX8_ofDog cX8_ofDog 3 (some .int), .methodLink RX8 71 yX8_unlike, .static yX8_unlike, .code yX8_unlike cX8_unlike 3 (some .int), .methodLink RX8 63 yX8_bits, .static yX8_bits, .code yX8_bits cX8_bits 3 (some .int)])
def wsX8_isTrue : List Cond := .code yX8_isTrue cX8_isTrue 4 (some .boolean) :: ([.methodLink RX8 74 yX8_ofSight, .static yX8_ofSight, .initialized RX8, .code yX8_ofSight cX8_ofSight 3 (some .int), .methodLink RX8 67 yX8_isMissing, .static yX8_isMissing, .code yX8_isMissing cX8_isMissing 2 (some .boolean), .methodLink RX8 47 yX8_ofDog, .static yX8_ofDog, .code yX8_ofDog cX8_ofDog 3 (some .int), .methodLink RX8 77 yX8_reaches, .instanceMethod yX8_reaches, .selects RX8 yX8_reaches yX8_reaches, .code yX8_reaches cX8_reaches 5 (some .boolean), .fieldLink RX8 29 "DogBoardModel" "way" "[I"] ++ wsX80)
def wsX8_fits : List Cond := .code yX8_fits cX8_fits 5 (some .boolean) :: ([.methodLink RX8 74 yX8_ofSight, .static yX8_ofSight, .initialized RX8, .code yX8_ofSight cX8_ofSight 3 (some .int), .methodLink RX8 47 yX8_ofDog, .static yX8_ofDog, .code yX8_ofDog cX8_ofDog 3 (some .int), .methodLink RX8 77 yX8_reaches, .instanceMethod yX8_reaches, .selects RX8 yX8_reaches yX8_reaches, .code yX8_reaches cX8_reaches 5 (some .boolean), .fieldLink RX8 29 "DogBoardModel" "way" "[I"] ++ wsX80)
def wsX8_isFraud : List Cond := .code yX8_isFraud cX8_isFraud 7 (some .boolean) :: ([.methodLink RX8 74 yX8_ofSight, .static yX8_ofSight, .initialized RX8, .code yX8_ofSight cX8_ofSight 3 (some .int), .methodLink RX8 67 yX8_isMissing, .static yX8_isMissing, .code yX8_isMissing cX8_isMissing 2 (some .boolean), .methodLink RX8 47 yX8_ofDog, .static yX8_ofDog, .code yX8_ofDog cX8_ofDog 3 (some .int), .methodLink RX8 81 yX8_isTrue, .instanceMethod yX8_isTrue, .selects RX8 yX8_isTrue yX8_isTrue, .code yX8_isTrue cX8_isTrue 4 (some .boolean), .methodLink RX8 77 yX8_reaches, .instanceMethod yX8_reaches, .selects RX8 yX8_reaches yX8_reaches, .code yX8_reaches cX8_reaches 5 (some .boolean), .fieldLink RX8 29 "DogBoardModel" "way" "[I", .methodLink RX8 84 yX8_fits, .instanceMethod yX8_fits, .selects RX8 yX8_fits yX8_fits, .code yX8_fits cX8_fits 5 (some .boolean)] ++ wsX80)
def wsX8_frauds_r1 : List Cond := [Cond.methodLink RX8 88 yX8_isFraud, Cond.instanceMethod yX8_isFraud, Cond.selects RX8 yX8_isFraud yX8_isFraud, Cond.initialized RX8, Cond.code yX8_isFraud cX8_isFraud 7 (some .boolean), Cond.methodLink RX8 74 yX8_ofSight, Cond.static yX8_ofSight, Cond.code yX8_ofSight cX8_ofSight 3 (some .int), Cond.methodLink RX8 67 yX8_isMissing, Cond.static yX8_isMissing, Cond.code yX8_isMissing cX8_isMissing 2 (some .boolean), Cond.methodLink RX8 47 yX8_ofDog, Cond.static yX8_ofDog, Cond.code yX8_ofDog cX8_ofDog 3 (some .int), Cond.methodLink RX8 81 yX8_isTrue, Cond.instanceMethod yX8_isTrue, Cond.selects RX8 yX8_isTrue yX8_isTrue, Cond.code yX8_isTrue cX8_isTrue 4 (some .boolean), Cond.methodLink RX8 77 yX8_reaches, Cond.instanceMethod yX8_reaches, Cond.selects RX8 yX8_reaches yX8_reaches, Cond.code yX8_reaches cX8_reaches 5 (some .boolean), Cond.fieldLink RX8 29 "DogBoardModel" "way" "[I", Cond.methodLink RX8 84 yX8_fits]
def wsX8_frauds_r2 : List Cond := [Cond.instanceMethod yX8_fits, Cond.selects RX8 yX8_fits yX8_fits, Cond.code yX8_fits cX8_fits 5 (some .boolean)]
def wsX8_frauds : List Cond := .code yX8_frauds cX8_frauds 4 (some .int) :: ((wsX8_frauds_r1 ++ wsX8_frauds_r2) ++ wsX80)
def wsX8_canBeAt_r1 : List Cond := [Cond.methodLink RX8 47 yX8_ofDog, Cond.static yX8_ofDog, Cond.initialized RX8, Cond.code yX8_ofDog cX8_ofDog 3 (some .int), Cond.methodLink RX8 77 yX8_reaches, Cond.instanceMethod yX8_reaches, Cond.selects RX8 yX8_reaches yX8_reaches, Cond.code yX8_reaches cX8_reaches 5 (some .boolean), Cond.fieldLink RX8 29 "DogBoardModel" "way" "[I", Cond.methodLink RX8 74 yX8_ofSight, Cond.static yX8_ofSight, Cond.code yX8_ofSight cX8_ofSight 3 (some .int), Cond.methodLink RX8 88 yX8_isFraud, Cond.instanceMethod yX8_isFraud, Cond.selects RX8 yX8_isFraud yX8_isFraud, Cond.code yX8_isFraud cX8_isFraud 7 (some .boolean), Cond.methodLink RX8 67 yX8_isMissing, Cond.static yX8_isMissing, Cond.code yX8_isMissing cX8_isMissing 2 (some .boolean), Cond.methodLink RX8 81 yX8_isTrue, Cond.instanceMethod yX8_isTrue, Cond.selects RX8 yX8_isTrue yX8_isTrue, Cond.code yX8_isTrue cX8_isTrue 4 (some .boolean), Cond.methodLink RX8 84 yX8_fits]
def wsX8_canBeAt_r2 : List Cond := [Cond.instanceMethod yX8_fits, Cond.selects RX8 yX8_fits yX8_fits, Cond.code yX8_fits cX8_fits 5 (some .boolean)]
def wsX8_canBeAt : List Cond := .code yX8_canBeAt cX8_canBeAt 6 (some .boolean) :: ((wsX8_canBeAt_r1 ++ wsX8_canBeAt_r2) ++ wsX80)
def wsX8_loseOn : List Cond := .code yX8_loseOn cX8_loseOn 7 (some .int) :: ([])
def wsX8_sightOn : List Cond := .code yX8_sightOn cX8_sightOn 7 (some .int) :: ([.methodLink RX8 91 yX8_means, .static yX8_means, .initialized RX8, .code yX8_means cX8_means 6 (some .int), .methodLink RX8 67 yX8_isMissing, .static yX8_isMissing, .code yX8_isMissing cX8_isMissing 2 (some .boolean), .methodLink RX8 47 yX8_ofDog, .static yX8_ofDog, .code yX8_ofDog cX8_ofDog 3 (some .int), .methodLink RX8 71 yX8_unlike, .static yX8_unlike, .code yX8_unlike cX8_unlike 3 (some .int), .methodLink RX8 63 yX8_bits, .static yX8_bits, .code yX8_bits cX8_bits 3 (some .int)])
def wsX8_helps_r1 : List Cond := [Cond.fieldLink RX8 32 "DogBoardModel" "help" "[I", Cond.methodLink RX8 74 yX8_ofSight, Cond.static yX8_ofSight, Cond.initialized RX8, Cond.code yX8_ofSight cX8_ofSight 3 (some .int), Cond.methodLink RX8 88 yX8_isFraud, Cond.instanceMethod yX8_isFraud, Cond.selects RX8 yX8_isFraud yX8_isFraud, Cond.code yX8_isFraud cX8_isFraud 7 (some .boolean), Cond.methodLink RX8 67 yX8_isMissing, Cond.static yX8_isMissing, Cond.code yX8_isMissing cX8_isMissing 2 (some .boolean), Cond.methodLink RX8 47 yX8_ofDog, Cond.static yX8_ofDog, Cond.code yX8_ofDog cX8_ofDog 3 (some .int), Cond.methodLink RX8 81 yX8_isTrue, Cond.instanceMethod yX8_isTrue, Cond.selects RX8 yX8_isTrue yX8_isTrue, Cond.code yX8_isTrue cX8_isTrue 4 (some .boolean), Cond.methodLink RX8 77 yX8_reaches, Cond.instanceMethod yX8_reaches, Cond.selects RX8 yX8_reaches yX8_reaches, Cond.code yX8_reaches cX8_reaches 5 (some .boolean), Cond.fieldLink RX8 29 "DogBoardModel" "way" "[I"]
def wsX8_helps_r2 : List Cond := [Cond.methodLink RX8 84 yX8_fits, Cond.instanceMethod yX8_fits, Cond.selects RX8 yX8_fits yX8_fits, Cond.code yX8_fits cX8_fits 5 (some .boolean)]
def wsX8_helps : List Cond := .code yX8_helps cX8_helps 8 (some .int) :: ((wsX8_helps_r1 ++ wsX8_helps_r2) ++ wsX80)
def wsX8_settle_r1 : List Cond := [Cond.methodLink RX8 74 yX8_ofSight, Cond.static yX8_ofSight, Cond.initialized RX8, Cond.code yX8_ofSight cX8_ofSight 3 (some .int), Cond.methodLink RX8 81 yX8_isTrue, Cond.instanceMethod yX8_isTrue, Cond.selects RX8 yX8_isTrue yX8_isTrue, Cond.code yX8_isTrue cX8_isTrue 4 (some .boolean), Cond.methodLink RX8 67 yX8_isMissing, Cond.static yX8_isMissing, Cond.code yX8_isMissing cX8_isMissing 2 (some .boolean), Cond.methodLink RX8 47 yX8_ofDog, Cond.static yX8_ofDog, Cond.code yX8_ofDog cX8_ofDog 3 (some .int), Cond.methodLink RX8 77 yX8_reaches, Cond.instanceMethod yX8_reaches, Cond.selects RX8 yX8_reaches yX8_reaches, Cond.code yX8_reaches cX8_reaches 5 (some .boolean), Cond.fieldLink RX8 29 "DogBoardModel" "way" "[I", Cond.methodLink RX8 88 yX8_isFraud, Cond.instanceMethod yX8_isFraud, Cond.selects RX8 yX8_isFraud yX8_isFraud, Cond.code yX8_isFraud cX8_isFraud 7 (some .boolean), Cond.methodLink RX8 84 yX8_fits]
def wsX8_settle_r2 : List Cond := [Cond.instanceMethod yX8_fits, Cond.selects RX8 yX8_fits yX8_fits, Cond.code yX8_fits cX8_fits 5 (some .boolean)]
def wsX8_settle : List Cond := .code yX8_settle cX8_settle 4 none :: ((wsX8_settle_r1 ++ wsX8_settle_r2) ++ wsX80)
def wsX8_findOn_r1 : List Cond := [Cond.fieldLink RX8 32 "DogBoardModel" "help" "[I", Cond.methodLink RX8 94 yX8_measure, Cond.instanceMethod yX8_measure, Cond.selects RX8 yX8_measure yX8_measure, Cond.initialized RX8, Cond.code yX8_measure cX8_measure 5 none, Cond.fieldLink RX8 29 "DogBoardModel" "way" "[I", Cond.methodLink RX8 59 yX8_street, Cond.static yX8_street, Cond.code yX8_street cX8_street 4 (some .int), Cond.methodLink RX8 97 yX8_helps, Cond.instanceMethod yX8_helps, Cond.selects RX8 yX8_helps yX8_helps, Cond.code yX8_helps cX8_helps 8 (some .int), Cond.methodLink RX8 74 yX8_ofSight, Cond.static yX8_ofSight, Cond.code yX8_ofSight cX8_ofSight 3 (some .int), Cond.methodLink RX8 88 yX8_isFraud, Cond.instanceMethod yX8_isFraud, Cond.selects RX8 yX8_isFraud yX8_isFraud, Cond.code yX8_isFraud cX8_isFraud 7 (some .boolean), Cond.methodLink RX8 67 yX8_isMissing, Cond.static yX8_isMissing, Cond.code yX8_isMissing cX8_isMissing 2 (some .boolean)]
def wsX8_findOn_r2 : List Cond := [Cond.methodLink RX8 47 yX8_ofDog, Cond.static yX8_ofDog, Cond.code yX8_ofDog cX8_ofDog 3 (some .int), Cond.methodLink RX8 81 yX8_isTrue, Cond.instanceMethod yX8_isTrue, Cond.selects RX8 yX8_isTrue yX8_isTrue, Cond.code yX8_isTrue cX8_isTrue 4 (some .boolean), Cond.methodLink RX8 77 yX8_reaches, Cond.instanceMethod yX8_reaches, Cond.selects RX8 yX8_reaches yX8_reaches, Cond.code yX8_reaches cX8_reaches 5 (some .boolean), Cond.methodLink RX8 84 yX8_fits, Cond.instanceMethod yX8_fits, Cond.selects RX8 yX8_fits yX8_fits, Cond.code yX8_fits cX8_fits 5 (some .boolean), Cond.methodLink RX8 101 yX8_settle, Cond.instanceMethod yX8_settle, Cond.selects RX8 yX8_settle yX8_settle, Cond.code yX8_settle cX8_settle 4 none]
def wsX8_findOn : List Cond := .code yX8_findOn cX8_findOn 10 (some .int) :: ((wsX8_findOn_r1 ++ wsX8_findOn_r2) ++ wsX80)
def wsX8_closeOn : List Cond := .code yX8_closeOn cX8_closeOn 4 (some .int) :: ([.methodLink RX8 59 yX8_street, .static yX8_street, .initialized RX8, .code yX8_street cX8_street 4 (some .int), .methodLink RX8 105 yX8_closedMany, .static yX8_closedMany, .code yX8_closedMany cX8_closedMany 3 (some .int)])
def wsX8_hoursOn : List Cond := .code yX8_hoursOn cX8_hoursOn 5 (some .int) :: ([.methodLink RX8 67 yX8_isMissing, .static yX8_isMissing, .initialized RX8, .code yX8_isMissing cX8_isMissing 2 (some .boolean), .methodLink RX8 47 yX8_ofDog, .static yX8_ofDog, .code yX8_ofDog cX8_ofDog 3 (some .int)])
def wsX8_change : List Cond := .code yX8_change cX8_change 4 (some .int) :: ([])
def wsX8_append : List Cond := .code yX8_append cX8_append 2 (some .int) :: ([.constantLong RX8 109 (255), .fieldLink RX8 111 "DogBoardModel" "size" "I", .fieldLink RX8 7 "DogBoardModel" "text" "[I", .methodLink RX8 43 yX8_in, .static yX8_in, .initialized RX8, .code yX8_in cX8_in 6 (some .boolean), .methodLink RX8 114 yX8_refused, .instanceMethod yX8_refused, .selects RX8 yX8_refused yX8_refused, .code yX8_refused cX8_refused 2 (some .boolean), .fieldLink RX8 39 "DogBoardModel" "refusal" "I"] ++ wsX80)
def wsX8_clearText : List Cond := .code yX8_clearText cX8_clearText 2 (some .int) :: ([.fieldLink RX8 39 "DogBoardModel" "refusal" "I", .fieldLink RX8 111 "DogBoardModel" "size" "I"] ++ wsX80)
def wsX8_figures : List Cond := .code yX8_figures cX8_figures 9 (some .int) :: ([.fieldLink RX8 118 "DogBoardModel" "spot" "I", .fieldLink RX8 111 "DogBoardModel" "size" "I", .fieldLink RX8 7 "DogBoardModel" "text" "[I", .constantLong RX8 121 (9), .methodLink RX8 43 yX8_in, .static yX8_in, .initialized RX8, .code yX8_in cX8_in 6 (some .boolean)] ++ wsX80)
def wsX8_plusSign : List Cond := .code yX8_plusSign cX8_plusSign 4 (some .int) :: ([.fieldLink RX8 118 "DogBoardModel" "spot" "I", .fieldLink RX8 111 "DogBoardModel" "size" "I", .fieldLink RX8 7 "DogBoardModel" "text" "[I"] ++ wsX80)
def wsX8_done : List Cond := .code yX8_done cX8_done 2 (some .boolean) :: ([.fieldLink RX8 123 "DogBoardModel" "out" "I"] ++ wsX80)
def wsX8_cornerSign : List Cond := .code yX8_cornerSign cX8_cornerSign 2 (some .int) :: ([.methodLink RX8 126 yX8_figures, .instanceMethod yX8_figures, .selects RX8 yX8_figures yX8_figures, .initialized RX8, .code yX8_figures cX8_figures 9 (some .int), .fieldLink RX8 118 "DogBoardModel" "spot" "I", .fieldLink RX8 111 "DogBoardModel" "size" "I", .fieldLink RX8 7 "DogBoardModel" "text" "[I", .constantLong RX8 121 (9), .methodLink RX8 43 yX8_in, .static yX8_in, .code yX8_in cX8_in 6 (some .boolean)] ++ wsX80)
def wsX8_finderSign : List Cond := .code yX8_finderSign cX8_finderSign 2 (some .int) :: ([.methodLink RX8 126 yX8_figures, .instanceMethod yX8_figures, .selects RX8 yX8_figures yX8_figures, .initialized RX8, .code yX8_figures cX8_figures 9 (some .int), .fieldLink RX8 118 "DogBoardModel" "spot" "I", .fieldLink RX8 111 "DogBoardModel" "size" "I", .fieldLink RX8 7 "DogBoardModel" "text" "[I", .constantLong RX8 121 (9), .methodLink RX8 43 yX8_in, .static yX8_in, .code yX8_in cX8_in 6 (some .boolean)] ++ wsX80)
def wsX8_readLose : List Cond := .code yX8_readLose cX8_readLose 6 (some .boolean) :: ([.methodLink RX8 126 yX8_figures, .instanceMethod yX8_figures, .selects RX8 yX8_figures yX8_figures, .initialized RX8, .code yX8_figures cX8_figures 9 (some .int), .fieldLink RX8 118 "DogBoardModel" "spot" "I", .fieldLink RX8 111 "DogBoardModel" "size" "I", .fieldLink RX8 7 "DogBoardModel" "text" "[I", .constantLong RX8 121 (9), .methodLink RX8 43 yX8_in, .static yX8_in, .code yX8_in cX8_in 6 (some .boolean), .methodLink RX8 130 yX8_cornerSign, .instanceMethod yX8_cornerSign, .selects RX8 yX8_cornerSign yX8_cornerSign, .code yX8_cornerSign cX8_cornerSign 2 (some .int), .methodLink RX8 133 yX8_loseOn, .static yX8_loseOn, .code yX8_loseOn cX8_loseOn 7 (some .int), .methodLink RX8 137 yX8_done, .instanceMethod yX8_done, .selects RX8 yX8_done yX8_done, .code yX8_done cX8_done 2 (some .boolean), .fieldLink RX8 123 "DogBoardModel" "out" "I"] ++ wsX80)
def wsX8_readSight_r1 : List Cond := [Cond.methodLink RX8 141 yX8_finderSign, Cond.instanceMethod yX8_finderSign, Cond.selects RX8 yX8_finderSign yX8_finderSign, Cond.initialized RX8, Cond.code yX8_finderSign cX8_finderSign 2 (some .int), Cond.methodLink RX8 126 yX8_figures, Cond.instanceMethod yX8_figures, Cond.selects RX8 yX8_figures yX8_figures, Cond.code yX8_figures cX8_figures 9 (some .int), Cond.fieldLink RX8 118 "DogBoardModel" "spot" "I", Cond.fieldLink RX8 111 "DogBoardModel" "size" "I", Cond.fieldLink RX8 7 "DogBoardModel" "text" "[I", Cond.constantLong RX8 121 (9), Cond.methodLink RX8 43 yX8_in, Cond.static yX8_in, Cond.code yX8_in cX8_in 6 (some .boolean), Cond.methodLink RX8 130 yX8_cornerSign, Cond.instanceMethod yX8_cornerSign, Cond.selects RX8 yX8_cornerSign yX8_cornerSign, Cond.code yX8_cornerSign cX8_cornerSign 2 (some .int), Cond.methodLink RX8 144 yX8_plusSign, Cond.instanceMethod yX8_plusSign, Cond.selects RX8 yX8_plusSign yX8_plusSign, Cond.code yX8_plusSign cX8_plusSign 4 (some .int)]
def wsX8_readSight_r2 : List Cond := [Cond.methodLink RX8 147 yX8_sightOn, Cond.static yX8_sightOn, Cond.code yX8_sightOn cX8_sightOn 7 (some .int), Cond.methodLink RX8 91 yX8_means, Cond.static yX8_means, Cond.code yX8_means cX8_means 6 (some .int), Cond.methodLink RX8 67 yX8_isMissing, Cond.static yX8_isMissing, Cond.code yX8_isMissing cX8_isMissing 2 (some .boolean), Cond.methodLink RX8 47 yX8_ofDog, Cond.static yX8_ofDog, Cond.code yX8_ofDog cX8_ofDog 3 (some .int), Cond.methodLink RX8 71 yX8_unlike, Cond.static yX8_unlike, Cond.code yX8_unlike cX8_unlike 3 (some .int), Cond.methodLink RX8 63 yX8_bits, Cond.static yX8_bits, Cond.code yX8_bits cX8_bits 3 (some .int), Cond.methodLink RX8 137 yX8_done, Cond.instanceMethod yX8_done, Cond.selects RX8 yX8_done yX8_done, Cond.code yX8_done cX8_done 2 (some .boolean), Cond.fieldLink RX8 123 "DogBoardModel" "out" "I"]
def wsX8_readSight : List Cond := .code yX8_readSight cX8_readSight 6 (some .boolean) :: ((wsX8_readSight_r1 ++ wsX8_readSight_r2) ++ wsX80)
def wsX8_readFind_r1 : List Cond := [Cond.methodLink RX8 126 yX8_figures, Cond.instanceMethod yX8_figures, Cond.selects RX8 yX8_figures yX8_figures, Cond.initialized RX8, Cond.code yX8_figures cX8_figures 9 (some .int), Cond.fieldLink RX8 118 "DogBoardModel" "spot" "I", Cond.fieldLink RX8 111 "DogBoardModel" "size" "I", Cond.fieldLink RX8 7 "DogBoardModel" "text" "[I", Cond.constantLong RX8 121 (9), Cond.methodLink RX8 43 yX8_in, Cond.static yX8_in, Cond.code yX8_in cX8_in 6 (some .boolean), Cond.methodLink RX8 141 yX8_finderSign, Cond.instanceMethod yX8_finderSign, Cond.selects RX8 yX8_finderSign yX8_finderSign, Cond.code yX8_finderSign cX8_finderSign 2 (some .int), Cond.methodLink RX8 130 yX8_cornerSign, Cond.instanceMethod yX8_cornerSign, Cond.selects RX8 yX8_cornerSign yX8_cornerSign, Cond.code yX8_cornerSign cX8_cornerSign 2 (some .int), Cond.methodLink RX8 151 yX8_isDog, Cond.static yX8_isDog, Cond.code yX8_isDog cX8_isDog 2 (some .boolean), Cond.methodLink RX8 67 yX8_isMissing]
def wsX8_readFind_r2 : List Cond := [Cond.static yX8_isMissing, Cond.code yX8_isMissing cX8_isMissing 2 (some .boolean), Cond.methodLink RX8 47 yX8_ofDog, Cond.static yX8_ofDog, Cond.code yX8_ofDog cX8_ofDog 3 (some .int), Cond.methodLink RX8 154 yX8_findOn, Cond.instanceMethod yX8_findOn, Cond.selects RX8 yX8_findOn yX8_findOn, Cond.code yX8_findOn cX8_findOn 10 (some .int), Cond.fieldLink RX8 32 "DogBoardModel" "help" "[I", Cond.methodLink RX8 94 yX8_measure, Cond.instanceMethod yX8_measure, Cond.selects RX8 yX8_measure yX8_measure, Cond.code yX8_measure cX8_measure 5 none, Cond.fieldLink RX8 29 "DogBoardModel" "way" "[I", Cond.methodLink RX8 59 yX8_street, Cond.static yX8_street, Cond.code yX8_street cX8_street 4 (some .int), Cond.methodLink RX8 97 yX8_helps, Cond.instanceMethod yX8_helps, Cond.selects RX8 yX8_helps yX8_helps, Cond.code yX8_helps cX8_helps 8 (some .int), Cond.methodLink RX8 74 yX8_ofSight, Cond.static yX8_ofSight]
def wsX8_readFind_r3 : List Cond := [Cond.code yX8_ofSight cX8_ofSight 3 (some .int), Cond.methodLink RX8 88 yX8_isFraud, Cond.instanceMethod yX8_isFraud, Cond.selects RX8 yX8_isFraud yX8_isFraud, Cond.code yX8_isFraud cX8_isFraud 7 (some .boolean), Cond.methodLink RX8 81 yX8_isTrue, Cond.instanceMethod yX8_isTrue, Cond.selects RX8 yX8_isTrue yX8_isTrue, Cond.code yX8_isTrue cX8_isTrue 4 (some .boolean), Cond.methodLink RX8 77 yX8_reaches, Cond.instanceMethod yX8_reaches, Cond.selects RX8 yX8_reaches yX8_reaches, Cond.code yX8_reaches cX8_reaches 5 (some .boolean), Cond.methodLink RX8 84 yX8_fits, Cond.instanceMethod yX8_fits, Cond.selects RX8 yX8_fits yX8_fits, Cond.code yX8_fits cX8_fits 5 (some .boolean), Cond.methodLink RX8 101 yX8_settle, Cond.instanceMethod yX8_settle, Cond.selects RX8 yX8_settle yX8_settle, Cond.code yX8_settle cX8_settle 4 none, Cond.methodLink RX8 137 yX8_done, Cond.instanceMethod yX8_done, Cond.selects RX8 yX8_done yX8_done]
def wsX8_readFind_r4 : List Cond := [Cond.code yX8_done cX8_done 2 (some .boolean), Cond.fieldLink RX8 123 "DogBoardModel" "out" "I"]
def wsX8_readFind : List Cond := .code yX8_readFind cX8_readFind 5 (some .boolean) :: ((wsX8_readFind_r1 ++ (wsX8_readFind_r2 ++ (wsX8_readFind_r3 ++ wsX8_readFind_r4))) ++ wsX80)
def wsX8_readClose_r1 : List Cond := [Cond.methodLink RX8 130 yX8_cornerSign, Cond.instanceMethod yX8_cornerSign, Cond.selects RX8 yX8_cornerSign yX8_cornerSign, Cond.initialized RX8, Cond.code yX8_cornerSign cX8_cornerSign 2 (some .int), Cond.methodLink RX8 126 yX8_figures, Cond.instanceMethod yX8_figures, Cond.selects RX8 yX8_figures yX8_figures, Cond.code yX8_figures cX8_figures 9 (some .int), Cond.fieldLink RX8 118 "DogBoardModel" "spot" "I", Cond.fieldLink RX8 111 "DogBoardModel" "size" "I", Cond.fieldLink RX8 7 "DogBoardModel" "text" "[I", Cond.constantLong RX8 121 (9), Cond.methodLink RX8 43 yX8_in, Cond.static yX8_in, Cond.code yX8_in cX8_in 6 (some .boolean), Cond.methodLink RX8 144 yX8_plusSign, Cond.instanceMethod yX8_plusSign, Cond.selects RX8 yX8_plusSign yX8_plusSign, Cond.code yX8_plusSign cX8_plusSign 4 (some .int), Cond.methodLink RX8 59 yX8_street, Cond.static yX8_street, Cond.code yX8_street cX8_street 4 (some .int), Cond.methodLink RX8 157 yX8_closeOn]
def wsX8_readClose_r2 : List Cond := [Cond.static yX8_closeOn, Cond.code yX8_closeOn cX8_closeOn 4 (some .int), Cond.methodLink RX8 105 yX8_closedMany, Cond.static yX8_closedMany, Cond.code yX8_closedMany cX8_closedMany 3 (some .int), Cond.methodLink RX8 137 yX8_done, Cond.instanceMethod yX8_done, Cond.selects RX8 yX8_done yX8_done, Cond.code yX8_done cX8_done 2 (some .boolean), Cond.fieldLink RX8 123 "DogBoardModel" "out" "I"]
def wsX8_readClose : List Cond := .code yX8_readClose cX8_readClose 5 (some .boolean) :: ((wsX8_readClose_r1 ++ wsX8_readClose_r2) ++ wsX80)
def wsX8_readCommand_r1 : List Cond := [Cond.fieldLink RX8 7 "DogBoardModel" "text" "[I", Cond.fieldLink RX8 118 "DogBoardModel" "spot" "I", Cond.methodLink RX8 161 yX8_readLose, Cond.instanceMethod yX8_readLose, Cond.selects RX8 yX8_readLose yX8_readLose, Cond.initialized RX8, Cond.code yX8_readLose cX8_readLose 6 (some .boolean), Cond.methodLink RX8 126 yX8_figures, Cond.instanceMethod yX8_figures, Cond.selects RX8 yX8_figures yX8_figures, Cond.code yX8_figures cX8_figures 9 (some .int), Cond.fieldLink RX8 111 "DogBoardModel" "size" "I", Cond.constantLong RX8 121 (9), Cond.methodLink RX8 43 yX8_in, Cond.static yX8_in, Cond.code yX8_in cX8_in 6 (some .boolean), Cond.methodLink RX8 130 yX8_cornerSign, Cond.instanceMethod yX8_cornerSign, Cond.selects RX8 yX8_cornerSign yX8_cornerSign, Cond.code yX8_cornerSign cX8_cornerSign 2 (some .int), Cond.methodLink RX8 133 yX8_loseOn, Cond.static yX8_loseOn, Cond.code yX8_loseOn cX8_loseOn 7 (some .int), Cond.methodLink RX8 137 yX8_done]
def wsX8_readCommand_r2 : List Cond := [Cond.instanceMethod yX8_done, Cond.selects RX8 yX8_done yX8_done, Cond.code yX8_done cX8_done 2 (some .boolean), Cond.fieldLink RX8 123 "DogBoardModel" "out" "I", Cond.methodLink RX8 165 yX8_readSight, Cond.instanceMethod yX8_readSight, Cond.selects RX8 yX8_readSight yX8_readSight, Cond.code yX8_readSight cX8_readSight 6 (some .boolean), Cond.methodLink RX8 141 yX8_finderSign, Cond.instanceMethod yX8_finderSign, Cond.selects RX8 yX8_finderSign yX8_finderSign, Cond.code yX8_finderSign cX8_finderSign 2 (some .int), Cond.methodLink RX8 144 yX8_plusSign, Cond.instanceMethod yX8_plusSign, Cond.selects RX8 yX8_plusSign yX8_plusSign, Cond.code yX8_plusSign cX8_plusSign 4 (some .int), Cond.methodLink RX8 147 yX8_sightOn, Cond.static yX8_sightOn, Cond.code yX8_sightOn cX8_sightOn 7 (some .int), Cond.methodLink RX8 91 yX8_means, Cond.static yX8_means, Cond.code yX8_means cX8_means 6 (some .int), Cond.methodLink RX8 67 yX8_isMissing, Cond.static yX8_isMissing]
def wsX8_readCommand_r3 : List Cond := [Cond.code yX8_isMissing cX8_isMissing 2 (some .boolean), Cond.methodLink RX8 47 yX8_ofDog, Cond.static yX8_ofDog, Cond.code yX8_ofDog cX8_ofDog 3 (some .int), Cond.methodLink RX8 71 yX8_unlike, Cond.static yX8_unlike, Cond.code yX8_unlike cX8_unlike 3 (some .int), Cond.methodLink RX8 63 yX8_bits, Cond.static yX8_bits, Cond.code yX8_bits cX8_bits 3 (some .int), Cond.methodLink RX8 168 yX8_readFind, Cond.instanceMethod yX8_readFind, Cond.selects RX8 yX8_readFind yX8_readFind, Cond.code yX8_readFind cX8_readFind 5 (some .boolean), Cond.methodLink RX8 151 yX8_isDog, Cond.static yX8_isDog, Cond.code yX8_isDog cX8_isDog 2 (some .boolean), Cond.methodLink RX8 154 yX8_findOn, Cond.instanceMethod yX8_findOn, Cond.selects RX8 yX8_findOn yX8_findOn, Cond.code yX8_findOn cX8_findOn 10 (some .int), Cond.fieldLink RX8 32 "DogBoardModel" "help" "[I", Cond.methodLink RX8 94 yX8_measure, Cond.instanceMethod yX8_measure]
def wsX8_readCommand_r4 : List Cond := [Cond.selects RX8 yX8_measure yX8_measure, Cond.code yX8_measure cX8_measure 5 none, Cond.fieldLink RX8 29 "DogBoardModel" "way" "[I", Cond.methodLink RX8 59 yX8_street, Cond.static yX8_street, Cond.code yX8_street cX8_street 4 (some .int), Cond.methodLink RX8 97 yX8_helps, Cond.instanceMethod yX8_helps, Cond.selects RX8 yX8_helps yX8_helps, Cond.code yX8_helps cX8_helps 8 (some .int), Cond.methodLink RX8 74 yX8_ofSight, Cond.static yX8_ofSight, Cond.code yX8_ofSight cX8_ofSight 3 (some .int), Cond.methodLink RX8 88 yX8_isFraud, Cond.instanceMethod yX8_isFraud, Cond.selects RX8 yX8_isFraud yX8_isFraud, Cond.code yX8_isFraud cX8_isFraud 7 (some .boolean), Cond.methodLink RX8 81 yX8_isTrue, Cond.instanceMethod yX8_isTrue, Cond.selects RX8 yX8_isTrue yX8_isTrue, Cond.code yX8_isTrue cX8_isTrue 4 (some .boolean), Cond.methodLink RX8 77 yX8_reaches, Cond.instanceMethod yX8_reaches, Cond.selects RX8 yX8_reaches yX8_reaches]
def wsX8_readCommand_r5 : List Cond := [Cond.code yX8_reaches cX8_reaches 5 (some .boolean), Cond.methodLink RX8 84 yX8_fits, Cond.instanceMethod yX8_fits, Cond.selects RX8 yX8_fits yX8_fits, Cond.code yX8_fits cX8_fits 5 (some .boolean), Cond.methodLink RX8 101 yX8_settle, Cond.instanceMethod yX8_settle, Cond.selects RX8 yX8_settle yX8_settle, Cond.code yX8_settle cX8_settle 4 none, Cond.methodLink RX8 171 yX8_readClose, Cond.instanceMethod yX8_readClose, Cond.selects RX8 yX8_readClose yX8_readClose, Cond.code yX8_readClose cX8_readClose 5 (some .boolean), Cond.methodLink RX8 157 yX8_closeOn, Cond.static yX8_closeOn, Cond.code yX8_closeOn cX8_closeOn 4 (some .int), Cond.methodLink RX8 105 yX8_closedMany, Cond.static yX8_closedMany, Cond.code yX8_closedMany cX8_closedMany 3 (some .int), Cond.methodLink RX8 174 yX8_hoursOn, Cond.static yX8_hoursOn, Cond.code yX8_hoursOn cX8_hoursOn 5 (some .int)]
def wsX8_readCommand : List Cond := .code yX8_readCommand cX8_readCommand 4 (some .boolean) :: ((wsX8_readCommand_r1 ++ (wsX8_readCommand_r2 ++ (wsX8_readCommand_r3 ++ (wsX8_readCommand_r4 ++ wsX8_readCommand_r5)))) ++ wsX80)
def wsX8_readText_r1 : List Cond := [Cond.fieldLink RX8 123 "DogBoardModel" "out" "I", Cond.fieldLink RX8 118 "DogBoardModel" "spot" "I", Cond.fieldLink RX8 111 "DogBoardModel" "size" "I", Cond.fieldLink RX8 7 "DogBoardModel" "text" "[I", Cond.methodLink RX8 35 yX8_clear, Cond.static yX8_clear, Cond.initialized RX8, Cond.code yX8_clear cX8_clear 2 none, Cond.methodLink RX8 178 yX8_readCommand, Cond.instanceMethod yX8_readCommand, Cond.selects RX8 yX8_readCommand yX8_readCommand, Cond.code yX8_readCommand cX8_readCommand 4 (some .boolean), Cond.methodLink RX8 161 yX8_readLose, Cond.instanceMethod yX8_readLose, Cond.selects RX8 yX8_readLose yX8_readLose, Cond.code yX8_readLose cX8_readLose 6 (some .boolean), Cond.methodLink RX8 126 yX8_figures, Cond.instanceMethod yX8_figures, Cond.selects RX8 yX8_figures yX8_figures, Cond.code yX8_figures cX8_figures 9 (some .int), Cond.constantLong RX8 121 (9), Cond.methodLink RX8 43 yX8_in, Cond.static yX8_in, Cond.code yX8_in cX8_in 6 (some .boolean)]
def wsX8_readText_r2 : List Cond := [Cond.methodLink RX8 130 yX8_cornerSign, Cond.instanceMethod yX8_cornerSign, Cond.selects RX8 yX8_cornerSign yX8_cornerSign, Cond.code yX8_cornerSign cX8_cornerSign 2 (some .int), Cond.methodLink RX8 133 yX8_loseOn, Cond.static yX8_loseOn, Cond.code yX8_loseOn cX8_loseOn 7 (some .int), Cond.methodLink RX8 137 yX8_done, Cond.instanceMethod yX8_done, Cond.selects RX8 yX8_done yX8_done, Cond.code yX8_done cX8_done 2 (some .boolean), Cond.methodLink RX8 165 yX8_readSight, Cond.instanceMethod yX8_readSight, Cond.selects RX8 yX8_readSight yX8_readSight, Cond.code yX8_readSight cX8_readSight 6 (some .boolean), Cond.methodLink RX8 141 yX8_finderSign, Cond.instanceMethod yX8_finderSign, Cond.selects RX8 yX8_finderSign yX8_finderSign, Cond.code yX8_finderSign cX8_finderSign 2 (some .int), Cond.methodLink RX8 144 yX8_plusSign, Cond.instanceMethod yX8_plusSign, Cond.selects RX8 yX8_plusSign yX8_plusSign, Cond.code yX8_plusSign cX8_plusSign 4 (some .int), Cond.methodLink RX8 147 yX8_sightOn]
def wsX8_readText_r3 : List Cond := [Cond.static yX8_sightOn, Cond.code yX8_sightOn cX8_sightOn 7 (some .int), Cond.methodLink RX8 91 yX8_means, Cond.static yX8_means, Cond.code yX8_means cX8_means 6 (some .int), Cond.methodLink RX8 67 yX8_isMissing, Cond.static yX8_isMissing, Cond.code yX8_isMissing cX8_isMissing 2 (some .boolean), Cond.methodLink RX8 47 yX8_ofDog, Cond.static yX8_ofDog, Cond.code yX8_ofDog cX8_ofDog 3 (some .int), Cond.methodLink RX8 71 yX8_unlike, Cond.static yX8_unlike, Cond.code yX8_unlike cX8_unlike 3 (some .int), Cond.methodLink RX8 63 yX8_bits, Cond.static yX8_bits, Cond.code yX8_bits cX8_bits 3 (some .int), Cond.methodLink RX8 168 yX8_readFind, Cond.instanceMethod yX8_readFind, Cond.selects RX8 yX8_readFind yX8_readFind, Cond.code yX8_readFind cX8_readFind 5 (some .boolean), Cond.methodLink RX8 151 yX8_isDog, Cond.static yX8_isDog, Cond.code yX8_isDog cX8_isDog 2 (some .boolean)]
def wsX8_readText_r4 : List Cond := [Cond.methodLink RX8 154 yX8_findOn, Cond.instanceMethod yX8_findOn, Cond.selects RX8 yX8_findOn yX8_findOn, Cond.code yX8_findOn cX8_findOn 10 (some .int), Cond.fieldLink RX8 32 "DogBoardModel" "help" "[I", Cond.methodLink RX8 94 yX8_measure, Cond.instanceMethod yX8_measure, Cond.selects RX8 yX8_measure yX8_measure, Cond.code yX8_measure cX8_measure 5 none, Cond.fieldLink RX8 29 "DogBoardModel" "way" "[I", Cond.methodLink RX8 59 yX8_street, Cond.static yX8_street, Cond.code yX8_street cX8_street 4 (some .int), Cond.methodLink RX8 97 yX8_helps, Cond.instanceMethod yX8_helps, Cond.selects RX8 yX8_helps yX8_helps, Cond.code yX8_helps cX8_helps 8 (some .int), Cond.methodLink RX8 74 yX8_ofSight, Cond.static yX8_ofSight, Cond.code yX8_ofSight cX8_ofSight 3 (some .int), Cond.methodLink RX8 88 yX8_isFraud, Cond.instanceMethod yX8_isFraud, Cond.selects RX8 yX8_isFraud yX8_isFraud, Cond.code yX8_isFraud cX8_isFraud 7 (some .boolean)]
def wsX8_readText_r5 : List Cond := [Cond.methodLink RX8 81 yX8_isTrue, Cond.instanceMethod yX8_isTrue, Cond.selects RX8 yX8_isTrue yX8_isTrue, Cond.code yX8_isTrue cX8_isTrue 4 (some .boolean), Cond.methodLink RX8 77 yX8_reaches, Cond.instanceMethod yX8_reaches, Cond.selects RX8 yX8_reaches yX8_reaches, Cond.code yX8_reaches cX8_reaches 5 (some .boolean), Cond.methodLink RX8 84 yX8_fits, Cond.instanceMethod yX8_fits, Cond.selects RX8 yX8_fits yX8_fits, Cond.code yX8_fits cX8_fits 5 (some .boolean), Cond.methodLink RX8 101 yX8_settle, Cond.instanceMethod yX8_settle, Cond.selects RX8 yX8_settle yX8_settle, Cond.code yX8_settle cX8_settle 4 none, Cond.methodLink RX8 171 yX8_readClose, Cond.instanceMethod yX8_readClose, Cond.selects RX8 yX8_readClose yX8_readClose, Cond.code yX8_readClose cX8_readClose 5 (some .boolean), Cond.methodLink RX8 157 yX8_closeOn, Cond.static yX8_closeOn, Cond.code yX8_closeOn cX8_closeOn 4 (some .int), Cond.methodLink RX8 105 yX8_closedMany]
def wsX8_readText_r6 : List Cond := [Cond.static yX8_closedMany, Cond.code yX8_closedMany cX8_closedMany 3 (some .int), Cond.methodLink RX8 174 yX8_hoursOn, Cond.static yX8_hoursOn, Cond.code yX8_hoursOn cX8_hoursOn 5 (some .int)]
def wsX8_readText : List Cond := .code yX8_readText cX8_readText 2 (some .int) :: ((wsX8_readText_r1 ++ (wsX8_readText_r2 ++ (wsX8_readText_r3 ++ (wsX8_readText_r4 ++ (wsX8_readText_r5 ++ wsX8_readText_r6))))) ++ wsX80)
def wsX8_errorPosition_r1 : List Cond := [Cond.fieldLink RX8 39 "DogBoardModel" "refusal" "I", Cond.fieldLink RX8 16 "DogBoardModel" "trial" "[I", Cond.methodLink RX8 181 yX8_readText, Cond.instanceMethod yX8_readText, Cond.selects RX8 yX8_readText yX8_readText, Cond.initialized RX8, Cond.code yX8_readText cX8_readText 2 (some .int), Cond.fieldLink RX8 123 "DogBoardModel" "out" "I", Cond.fieldLink RX8 118 "DogBoardModel" "spot" "I", Cond.fieldLink RX8 111 "DogBoardModel" "size" "I", Cond.fieldLink RX8 7 "DogBoardModel" "text" "[I", Cond.methodLink RX8 35 yX8_clear, Cond.static yX8_clear, Cond.code yX8_clear cX8_clear 2 none, Cond.methodLink RX8 178 yX8_readCommand, Cond.instanceMethod yX8_readCommand, Cond.selects RX8 yX8_readCommand yX8_readCommand, Cond.code yX8_readCommand cX8_readCommand 4 (some .boolean), Cond.methodLink RX8 161 yX8_readLose, Cond.instanceMethod yX8_readLose, Cond.selects RX8 yX8_readLose yX8_readLose, Cond.code yX8_readLose cX8_readLose 6 (some .boolean), Cond.methodLink RX8 126 yX8_figures, Cond.instanceMethod yX8_figures]
def wsX8_errorPosition_r2 : List Cond := [Cond.selects RX8 yX8_figures yX8_figures, Cond.code yX8_figures cX8_figures 9 (some .int), Cond.constantLong RX8 121 (9), Cond.methodLink RX8 43 yX8_in, Cond.static yX8_in, Cond.code yX8_in cX8_in 6 (some .boolean), Cond.methodLink RX8 130 yX8_cornerSign, Cond.instanceMethod yX8_cornerSign, Cond.selects RX8 yX8_cornerSign yX8_cornerSign, Cond.code yX8_cornerSign cX8_cornerSign 2 (some .int), Cond.methodLink RX8 133 yX8_loseOn, Cond.static yX8_loseOn, Cond.code yX8_loseOn cX8_loseOn 7 (some .int), Cond.methodLink RX8 137 yX8_done, Cond.instanceMethod yX8_done, Cond.selects RX8 yX8_done yX8_done, Cond.code yX8_done cX8_done 2 (some .boolean), Cond.methodLink RX8 165 yX8_readSight, Cond.instanceMethod yX8_readSight, Cond.selects RX8 yX8_readSight yX8_readSight, Cond.code yX8_readSight cX8_readSight 6 (some .boolean), Cond.methodLink RX8 141 yX8_finderSign, Cond.instanceMethod yX8_finderSign, Cond.selects RX8 yX8_finderSign yX8_finderSign]
def wsX8_errorPosition_r3 : List Cond := [Cond.code yX8_finderSign cX8_finderSign 2 (some .int), Cond.methodLink RX8 144 yX8_plusSign, Cond.instanceMethod yX8_plusSign, Cond.selects RX8 yX8_plusSign yX8_plusSign, Cond.code yX8_plusSign cX8_plusSign 4 (some .int), Cond.methodLink RX8 147 yX8_sightOn, Cond.static yX8_sightOn, Cond.code yX8_sightOn cX8_sightOn 7 (some .int), Cond.methodLink RX8 91 yX8_means, Cond.static yX8_means, Cond.code yX8_means cX8_means 6 (some .int), Cond.methodLink RX8 67 yX8_isMissing, Cond.static yX8_isMissing, Cond.code yX8_isMissing cX8_isMissing 2 (some .boolean), Cond.methodLink RX8 47 yX8_ofDog, Cond.static yX8_ofDog, Cond.code yX8_ofDog cX8_ofDog 3 (some .int), Cond.methodLink RX8 71 yX8_unlike, Cond.static yX8_unlike, Cond.code yX8_unlike cX8_unlike 3 (some .int), Cond.methodLink RX8 63 yX8_bits, Cond.static yX8_bits, Cond.code yX8_bits cX8_bits 3 (some .int), Cond.methodLink RX8 168 yX8_readFind]
def wsX8_errorPosition_r4 : List Cond := [Cond.instanceMethod yX8_readFind, Cond.selects RX8 yX8_readFind yX8_readFind, Cond.code yX8_readFind cX8_readFind 5 (some .boolean), Cond.methodLink RX8 151 yX8_isDog, Cond.static yX8_isDog, Cond.code yX8_isDog cX8_isDog 2 (some .boolean), Cond.methodLink RX8 154 yX8_findOn, Cond.instanceMethod yX8_findOn, Cond.selects RX8 yX8_findOn yX8_findOn, Cond.code yX8_findOn cX8_findOn 10 (some .int), Cond.fieldLink RX8 32 "DogBoardModel" "help" "[I", Cond.methodLink RX8 94 yX8_measure, Cond.instanceMethod yX8_measure, Cond.selects RX8 yX8_measure yX8_measure, Cond.code yX8_measure cX8_measure 5 none, Cond.fieldLink RX8 29 "DogBoardModel" "way" "[I", Cond.methodLink RX8 59 yX8_street, Cond.static yX8_street, Cond.code yX8_street cX8_street 4 (some .int), Cond.methodLink RX8 97 yX8_helps, Cond.instanceMethod yX8_helps, Cond.selects RX8 yX8_helps yX8_helps, Cond.code yX8_helps cX8_helps 8 (some .int), Cond.methodLink RX8 74 yX8_ofSight]
def wsX8_errorPosition_r5 : List Cond := [Cond.static yX8_ofSight, Cond.code yX8_ofSight cX8_ofSight 3 (some .int), Cond.methodLink RX8 88 yX8_isFraud, Cond.instanceMethod yX8_isFraud, Cond.selects RX8 yX8_isFraud yX8_isFraud, Cond.code yX8_isFraud cX8_isFraud 7 (some .boolean), Cond.methodLink RX8 81 yX8_isTrue, Cond.instanceMethod yX8_isTrue, Cond.selects RX8 yX8_isTrue yX8_isTrue, Cond.code yX8_isTrue cX8_isTrue 4 (some .boolean), Cond.methodLink RX8 77 yX8_reaches, Cond.instanceMethod yX8_reaches, Cond.selects RX8 yX8_reaches yX8_reaches, Cond.code yX8_reaches cX8_reaches 5 (some .boolean), Cond.methodLink RX8 84 yX8_fits, Cond.instanceMethod yX8_fits, Cond.selects RX8 yX8_fits yX8_fits, Cond.code yX8_fits cX8_fits 5 (some .boolean), Cond.methodLink RX8 101 yX8_settle, Cond.instanceMethod yX8_settle, Cond.selects RX8 yX8_settle yX8_settle, Cond.code yX8_settle cX8_settle 4 none, Cond.methodLink RX8 171 yX8_readClose, Cond.instanceMethod yX8_readClose]
def wsX8_errorPosition_r6 : List Cond := [Cond.selects RX8 yX8_readClose yX8_readClose, Cond.code yX8_readClose cX8_readClose 5 (some .boolean), Cond.methodLink RX8 157 yX8_closeOn, Cond.static yX8_closeOn, Cond.code yX8_closeOn cX8_closeOn 4 (some .int), Cond.methodLink RX8 105 yX8_closedMany, Cond.static yX8_closedMany, Cond.code yX8_closedMany cX8_closedMany 3 (some .int), Cond.methodLink RX8 174 yX8_hoursOn, Cond.static yX8_hoursOn, Cond.code yX8_hoursOn cX8_hoursOn 5 (some .int)]
def wsX8_errorPosition : List Cond := .code yX8_errorPosition cX8_errorPosition 1 (some .int) :: ((wsX8_errorPosition_r1 ++ (wsX8_errorPosition_r2 ++ (wsX8_errorPosition_r3 ++ (wsX8_errorPosition_r4 ++ (wsX8_errorPosition_r5 ++ wsX8_errorPosition_r6))))) ++ wsX80)
def wsX8_load_r1 : List Cond := [Cond.fieldLink RX8 16 "DogBoardModel" "trial" "[I", Cond.fieldLink RX8 13 "DogBoardModel" "now" "[I", Cond.fieldLink RX8 188 "DogBoardModel" "acts" "I", Cond.fieldLink RX8 25 "DogBoardModel" "isKept" "[Z", Cond.fieldLink RX8 123 "DogBoardModel" "out" "I", Cond.methodLink RX8 181 yX8_readText, Cond.instanceMethod yX8_readText, Cond.selects RX8 yX8_readText yX8_readText, Cond.initialized RX8, Cond.code yX8_readText cX8_readText 2 (some .int), Cond.fieldLink RX8 118 "DogBoardModel" "spot" "I", Cond.fieldLink RX8 111 "DogBoardModel" "size" "I", Cond.fieldLink RX8 7 "DogBoardModel" "text" "[I", Cond.methodLink RX8 35 yX8_clear, Cond.static yX8_clear, Cond.code yX8_clear cX8_clear 2 none, Cond.methodLink RX8 178 yX8_readCommand, Cond.instanceMethod yX8_readCommand, Cond.selects RX8 yX8_readCommand yX8_readCommand, Cond.code yX8_readCommand cX8_readCommand 4 (some .boolean), Cond.methodLink RX8 161 yX8_readLose, Cond.instanceMethod yX8_readLose, Cond.selects RX8 yX8_readLose yX8_readLose, Cond.code yX8_readLose cX8_readLose 6 (some .boolean)]
def wsX8_load_r2 : List Cond := [Cond.methodLink RX8 126 yX8_figures, Cond.instanceMethod yX8_figures, Cond.selects RX8 yX8_figures yX8_figures, Cond.code yX8_figures cX8_figures 9 (some .int), Cond.constantLong RX8 121 (9), Cond.methodLink RX8 43 yX8_in, Cond.static yX8_in, Cond.code yX8_in cX8_in 6 (some .boolean), Cond.methodLink RX8 130 yX8_cornerSign, Cond.instanceMethod yX8_cornerSign, Cond.selects RX8 yX8_cornerSign yX8_cornerSign, Cond.code yX8_cornerSign cX8_cornerSign 2 (some .int), Cond.methodLink RX8 133 yX8_loseOn, Cond.static yX8_loseOn, Cond.code yX8_loseOn cX8_loseOn 7 (some .int), Cond.methodLink RX8 137 yX8_done, Cond.instanceMethod yX8_done, Cond.selects RX8 yX8_done yX8_done, Cond.code yX8_done cX8_done 2 (some .boolean), Cond.methodLink RX8 165 yX8_readSight, Cond.instanceMethod yX8_readSight, Cond.selects RX8 yX8_readSight yX8_readSight, Cond.code yX8_readSight cX8_readSight 6 (some .boolean), Cond.methodLink RX8 141 yX8_finderSign]
def wsX8_load_r3 : List Cond := [Cond.instanceMethod yX8_finderSign, Cond.selects RX8 yX8_finderSign yX8_finderSign, Cond.code yX8_finderSign cX8_finderSign 2 (some .int), Cond.methodLink RX8 144 yX8_plusSign, Cond.instanceMethod yX8_plusSign, Cond.selects RX8 yX8_plusSign yX8_plusSign, Cond.code yX8_plusSign cX8_plusSign 4 (some .int), Cond.methodLink RX8 147 yX8_sightOn, Cond.static yX8_sightOn, Cond.code yX8_sightOn cX8_sightOn 7 (some .int), Cond.methodLink RX8 91 yX8_means, Cond.static yX8_means, Cond.code yX8_means cX8_means 6 (some .int), Cond.methodLink RX8 67 yX8_isMissing, Cond.static yX8_isMissing, Cond.code yX8_isMissing cX8_isMissing 2 (some .boolean), Cond.methodLink RX8 47 yX8_ofDog, Cond.static yX8_ofDog, Cond.code yX8_ofDog cX8_ofDog 3 (some .int), Cond.methodLink RX8 71 yX8_unlike, Cond.static yX8_unlike, Cond.code yX8_unlike cX8_unlike 3 (some .int), Cond.methodLink RX8 63 yX8_bits, Cond.static yX8_bits]
def wsX8_load_r4 : List Cond := [Cond.code yX8_bits cX8_bits 3 (some .int), Cond.methodLink RX8 168 yX8_readFind, Cond.instanceMethod yX8_readFind, Cond.selects RX8 yX8_readFind yX8_readFind, Cond.code yX8_readFind cX8_readFind 5 (some .boolean), Cond.methodLink RX8 151 yX8_isDog, Cond.static yX8_isDog, Cond.code yX8_isDog cX8_isDog 2 (some .boolean), Cond.methodLink RX8 154 yX8_findOn, Cond.instanceMethod yX8_findOn, Cond.selects RX8 yX8_findOn yX8_findOn, Cond.code yX8_findOn cX8_findOn 10 (some .int), Cond.fieldLink RX8 32 "DogBoardModel" "help" "[I", Cond.methodLink RX8 94 yX8_measure, Cond.instanceMethod yX8_measure, Cond.selects RX8 yX8_measure yX8_measure, Cond.code yX8_measure cX8_measure 5 none, Cond.fieldLink RX8 29 "DogBoardModel" "way" "[I", Cond.methodLink RX8 59 yX8_street, Cond.static yX8_street, Cond.code yX8_street cX8_street 4 (some .int), Cond.methodLink RX8 97 yX8_helps, Cond.instanceMethod yX8_helps, Cond.selects RX8 yX8_helps yX8_helps]
def wsX8_load_r5 : List Cond := [Cond.code yX8_helps cX8_helps 8 (some .int), Cond.methodLink RX8 74 yX8_ofSight, Cond.static yX8_ofSight, Cond.code yX8_ofSight cX8_ofSight 3 (some .int), Cond.methodLink RX8 88 yX8_isFraud, Cond.instanceMethod yX8_isFraud, Cond.selects RX8 yX8_isFraud yX8_isFraud, Cond.code yX8_isFraud cX8_isFraud 7 (some .boolean), Cond.methodLink RX8 81 yX8_isTrue, Cond.instanceMethod yX8_isTrue, Cond.selects RX8 yX8_isTrue yX8_isTrue, Cond.code yX8_isTrue cX8_isTrue 4 (some .boolean), Cond.methodLink RX8 77 yX8_reaches, Cond.instanceMethod yX8_reaches, Cond.selects RX8 yX8_reaches yX8_reaches, Cond.code yX8_reaches cX8_reaches 5 (some .boolean), Cond.methodLink RX8 84 yX8_fits, Cond.instanceMethod yX8_fits, Cond.selects RX8 yX8_fits yX8_fits, Cond.code yX8_fits cX8_fits 5 (some .boolean), Cond.methodLink RX8 101 yX8_settle, Cond.instanceMethod yX8_settle, Cond.selects RX8 yX8_settle yX8_settle, Cond.code yX8_settle cX8_settle 4 none]
def wsX8_load_r6 : List Cond := [Cond.methodLink RX8 171 yX8_readClose, Cond.instanceMethod yX8_readClose, Cond.selects RX8 yX8_readClose yX8_readClose, Cond.code yX8_readClose cX8_readClose 5 (some .boolean), Cond.methodLink RX8 157 yX8_closeOn, Cond.static yX8_closeOn, Cond.code yX8_closeOn cX8_closeOn 4 (some .int), Cond.methodLink RX8 105 yX8_closedMany, Cond.static yX8_closedMany, Cond.code yX8_closedMany cX8_closedMany 3 (some .int), Cond.methodLink RX8 174 yX8_hoursOn, Cond.static yX8_hoursOn, Cond.code yX8_hoursOn cX8_hoursOn 5 (some .int), Cond.methodLink RX8 114 yX8_refused, Cond.instanceMethod yX8_refused, Cond.selects RX8 yX8_refused yX8_refused, Cond.code yX8_refused cX8_refused 2 (some .boolean), Cond.fieldLink RX8 39 "DogBoardModel" "refusal" "I", Cond.methodLink RX8 184 yX8_copyState, Cond.static yX8_copyState, Cond.code yX8_copyState cX8_copyState 5 none]
def wsX8_load : List Cond := .code yX8_load cX8_load 1 (some .int) :: ((wsX8_load_r1 ++ (wsX8_load_r2 ++ (wsX8_load_r3 ++ (wsX8_load_r4 ++ (wsX8_load_r5 ++ wsX8_load_r6))))) ++ wsX80)
def wsX8_missing : List Cond := .code yX8_missing cX8_missing 3 (some .int) :: ([.methodLink RX8 67 yX8_isMissing, .static yX8_isMissing, .initialized RX8, .code yX8_isMissing cX8_isMissing 2 (some .boolean), .methodLink RX8 47 yX8_ofDog, .static yX8_ofDog, .code yX8_ofDog cX8_ofDog 3 (some .int)])
def wsX8_rewards : List Cond := .code yX8_rewards cX8_rewards 3 (some .int) :: ([.methodLink RX8 67 yX8_isMissing, .static yX8_isMissing, .initialized RX8, .code yX8_isMissing cX8_isMissing 2 (some .boolean), .methodLink RX8 47 yX8_ofDog, .static yX8_ofDog, .code yX8_ofDog cX8_ofDog 3 (some .int)])
def wsX8_meaningless : List Cond := .code yX8_meaningless cX8_meaningless 3 (some .int) :: ([.methodLink RX8 74 yX8_ofSight, .static yX8_ofSight, .initialized RX8, .code yX8_ofSight cX8_ofSight 3 (some .int)])
def wsX8_about_r1 : List Cond := [Cond.constantLong RX8 191 (10), Cond.fieldLink RX8 13 "DogBoardModel" "now" "[I", Cond.methodLink RX8 43 yX8_in, Cond.static yX8_in, Cond.initialized RX8, Cond.code yX8_in cX8_in 6 (some .boolean), Cond.methodLink RX8 114 yX8_refused, Cond.instanceMethod yX8_refused, Cond.selects RX8 yX8_refused yX8_refused, Cond.code yX8_refused cX8_refused 2 (some .boolean), Cond.fieldLink RX8 39 "DogBoardModel" "refusal" "I", Cond.methodLink RX8 94 yX8_measure, Cond.instanceMethod yX8_measure, Cond.selects RX8 yX8_measure yX8_measure, Cond.code yX8_measure cX8_measure 5 none, Cond.fieldLink RX8 29 "DogBoardModel" "way" "[I", Cond.methodLink RX8 59 yX8_street, Cond.static yX8_street, Cond.code yX8_street cX8_street 4 (some .int), Cond.methodLink RX8 193 yX8_missing, Cond.static yX8_missing, Cond.code yX8_missing cX8_missing 3 (some .int), Cond.methodLink RX8 67 yX8_isMissing, Cond.static yX8_isMissing]
def wsX8_about_r2 : List Cond := [Cond.code yX8_isMissing cX8_isMissing 2 (some .boolean), Cond.methodLink RX8 47 yX8_ofDog, Cond.static yX8_ofDog, Cond.code yX8_ofDog cX8_ofDog 3 (some .int), Cond.methodLink RX8 196 yX8_rewards, Cond.static yX8_rewards, Cond.code yX8_rewards cX8_rewards 3 (some .int), Cond.methodLink RX8 199 yX8_frauds, Cond.instanceMethod yX8_frauds, Cond.selects RX8 yX8_frauds yX8_frauds, Cond.code yX8_frauds cX8_frauds 4 (some .int), Cond.methodLink RX8 88 yX8_isFraud, Cond.instanceMethod yX8_isFraud, Cond.selects RX8 yX8_isFraud yX8_isFraud, Cond.code yX8_isFraud cX8_isFraud 7 (some .boolean), Cond.methodLink RX8 74 yX8_ofSight, Cond.static yX8_ofSight, Cond.code yX8_ofSight cX8_ofSight 3 (some .int), Cond.methodLink RX8 81 yX8_isTrue, Cond.instanceMethod yX8_isTrue, Cond.selects RX8 yX8_isTrue yX8_isTrue, Cond.code yX8_isTrue cX8_isTrue 4 (some .boolean), Cond.methodLink RX8 77 yX8_reaches, Cond.instanceMethod yX8_reaches]
def wsX8_about_r3 : List Cond := [Cond.selects RX8 yX8_reaches yX8_reaches, Cond.code yX8_reaches cX8_reaches 5 (some .boolean), Cond.methodLink RX8 84 yX8_fits, Cond.instanceMethod yX8_fits, Cond.selects RX8 yX8_fits yX8_fits, Cond.code yX8_fits cX8_fits 5 (some .boolean), Cond.methodLink RX8 202 yX8_meaningless, Cond.static yX8_meaningless, Cond.code yX8_meaningless cX8_meaningless 3 (some .int), Cond.methodLink RX8 105 yX8_closedMany, Cond.static yX8_closedMany, Cond.code yX8_closedMany cX8_closedMany 3 (some .int)]
def wsX8_about : List Cond := .code yX8_about cX8_about 2 (some .int) :: ((wsX8_about_r1 ++ (wsX8_about_r2 ++ wsX8_about_r3)) ++ wsX80)
def wsX8_dogOf_r1 : List Cond := [Cond.fieldLink RX8 13 "DogBoardModel" "now" "[I", Cond.constantLong RX8 191 (10), Cond.methodLink RX8 151 yX8_isDog, Cond.static yX8_isDog, Cond.initialized RX8, Cond.code yX8_isDog cX8_isDog 2 (some .boolean), Cond.methodLink RX8 43 yX8_in, Cond.static yX8_in, Cond.code yX8_in cX8_in 6 (some .boolean), Cond.methodLink RX8 114 yX8_refused, Cond.instanceMethod yX8_refused, Cond.selects RX8 yX8_refused yX8_refused, Cond.code yX8_refused cX8_refused 2 (some .boolean), Cond.fieldLink RX8 39 "DogBoardModel" "refusal" "I", Cond.methodLink RX8 94 yX8_measure, Cond.instanceMethod yX8_measure, Cond.selects RX8 yX8_measure yX8_measure, Cond.code yX8_measure cX8_measure 5 none, Cond.fieldLink RX8 29 "DogBoardModel" "way" "[I", Cond.methodLink RX8 59 yX8_street, Cond.static yX8_street, Cond.code yX8_street cX8_street 4 (some .int), Cond.methodLink RX8 74 yX8_ofSight, Cond.static yX8_ofSight]
def wsX8_dogOf_r2 : List Cond := [Cond.code yX8_ofSight cX8_ofSight 3 (some .int), Cond.methodLink RX8 88 yX8_isFraud, Cond.instanceMethod yX8_isFraud, Cond.selects RX8 yX8_isFraud yX8_isFraud, Cond.code yX8_isFraud cX8_isFraud 7 (some .boolean), Cond.methodLink RX8 67 yX8_isMissing, Cond.static yX8_isMissing, Cond.code yX8_isMissing cX8_isMissing 2 (some .boolean), Cond.methodLink RX8 47 yX8_ofDog, Cond.static yX8_ofDog, Cond.code yX8_ofDog cX8_ofDog 3 (some .int), Cond.methodLink RX8 81 yX8_isTrue, Cond.instanceMethod yX8_isTrue, Cond.selects RX8 yX8_isTrue yX8_isTrue, Cond.code yX8_isTrue cX8_isTrue 4 (some .boolean), Cond.methodLink RX8 77 yX8_reaches, Cond.instanceMethod yX8_reaches, Cond.selects RX8 yX8_reaches yX8_reaches, Cond.code yX8_reaches cX8_reaches 5 (some .boolean), Cond.methodLink RX8 84 yX8_fits, Cond.instanceMethod yX8_fits, Cond.selects RX8 yX8_fits yX8_fits, Cond.code yX8_fits cX8_fits 5 (some .boolean)]
def wsX8_dogOf : List Cond := .code yX8_dogOf cX8_dogOf 7 (some .int) :: ((wsX8_dogOf_r1 ++ wsX8_dogOf_r2) ++ wsX80)
def wsX8_sightingOf_r1 : List Cond := [Cond.fieldLink RX8 13 "DogBoardModel" "now" "[I", Cond.constantLong RX8 57 (8), Cond.methodLink RX8 43 yX8_in, Cond.static yX8_in, Cond.initialized RX8, Cond.code yX8_in cX8_in 6 (some .boolean), Cond.methodLink RX8 114 yX8_refused, Cond.instanceMethod yX8_refused, Cond.selects RX8 yX8_refused yX8_refused, Cond.code yX8_refused cX8_refused 2 (some .boolean), Cond.fieldLink RX8 39 "DogBoardModel" "refusal" "I", Cond.methodLink RX8 94 yX8_measure, Cond.instanceMethod yX8_measure, Cond.selects RX8 yX8_measure yX8_measure, Cond.code yX8_measure cX8_measure 5 none, Cond.fieldLink RX8 29 "DogBoardModel" "way" "[I", Cond.methodLink RX8 59 yX8_street, Cond.static yX8_street, Cond.code yX8_street cX8_street 4 (some .int), Cond.methodLink RX8 74 yX8_ofSight, Cond.static yX8_ofSight, Cond.code yX8_ofSight cX8_ofSight 3 (some .int), Cond.methodLink RX8 71 yX8_unlike, Cond.static yX8_unlike]
def wsX8_sightingOf_r2 : List Cond := [Cond.code yX8_unlike cX8_unlike 3 (some .int), Cond.methodLink RX8 47 yX8_ofDog, Cond.static yX8_ofDog, Cond.code yX8_ofDog cX8_ofDog 3 (some .int), Cond.methodLink RX8 63 yX8_bits, Cond.static yX8_bits, Cond.code yX8_bits cX8_bits 3 (some .int), Cond.methodLink RX8 81 yX8_isTrue, Cond.instanceMethod yX8_isTrue, Cond.selects RX8 yX8_isTrue yX8_isTrue, Cond.code yX8_isTrue cX8_isTrue 4 (some .boolean), Cond.methodLink RX8 67 yX8_isMissing, Cond.static yX8_isMissing, Cond.code yX8_isMissing cX8_isMissing 2 (some .boolean), Cond.methodLink RX8 77 yX8_reaches, Cond.instanceMethod yX8_reaches, Cond.selects RX8 yX8_reaches yX8_reaches, Cond.code yX8_reaches cX8_reaches 5 (some .boolean), Cond.methodLink RX8 88 yX8_isFraud, Cond.instanceMethod yX8_isFraud, Cond.selects RX8 yX8_isFraud yX8_isFraud, Cond.code yX8_isFraud cX8_isFraud 7 (some .boolean), Cond.methodLink RX8 84 yX8_fits, Cond.instanceMethod yX8_fits]
def wsX8_sightingOf_r3 : List Cond := [Cond.selects RX8 yX8_fits yX8_fits, Cond.code yX8_fits cX8_fits 5 (some .boolean)]
def wsX8_sightingOf : List Cond := .code yX8_sightingOf cX8_sightingOf 4 (some .int) :: ((wsX8_sightingOf_r1 ++ (wsX8_sightingOf_r2 ++ wsX8_sightingOf_r3)) ++ wsX80)
def wsX8_purse : List Cond := .code yX8_purse cX8_purse 2 (some .int) :: ([.fieldLink RX8 13 "DogBoardModel" "now" "[I", .methodLink RX8 205 yX8_isFinder, .static yX8_isFinder, .initialized RX8, .code yX8_isFinder cX8_isFinder 1 (some .boolean), .constantLong RX8 53 (7), .methodLink RX8 43 yX8_in, .static yX8_in, .code yX8_in cX8_in 6 (some .boolean), .methodLink RX8 114 yX8_refused, .instanceMethod yX8_refused, .selects RX8 yX8_refused yX8_refused, .code yX8_refused cX8_refused 2 (some .boolean), .fieldLink RX8 39 "DogBoardModel" "refusal" "I"] ++ wsX80)
def wsX8_apart : List Cond := .code yX8_apart cX8_apart 4 (some .int) :: ([.fieldLink RX8 13 "DogBoardModel" "now" "[I", .fieldLink RX8 29 "DogBoardModel" "way" "[I", .methodLink RX8 208 yX8_isCorner, .static yX8_isCorner, .initialized RX8, .code yX8_isCorner cX8_isCorner 1 (some .boolean), .constantLong RX8 51 (11), .methodLink RX8 43 yX8_in, .static yX8_in, .code yX8_in cX8_in 6 (some .boolean), .methodLink RX8 114 yX8_refused, .instanceMethod yX8_refused, .selects RX8 yX8_refused yX8_refused, .code yX8_refused cX8_refused 2 (some .boolean), .fieldLink RX8 39 "DogBoardModel" "refusal" "I", .methodLink RX8 94 yX8_measure, .instanceMethod yX8_measure, .selects RX8 yX8_measure yX8_measure, .code yX8_measure cX8_measure 5 none, .methodLink RX8 59 yX8_street, .static yX8_street, .code yX8_street cX8_street 4 (some .int)] ++ wsX80)
def wsX8_remember : List Cond := .code yX8_remember cX8_remember 2 none :: ([.fieldLink RX8 188 "DogBoardModel" "acts" "I", .fieldLink RX8 19 "DogBoardModel" "diary" "[I", .fieldLink RX8 13 "DogBoardModel" "now" "[I", .methodLink RX8 184 yX8_copyState, .static yX8_copyState, .initialized RX8, .code yX8_copyState cX8_copyState 5 none] ++ wsX80)
def wsX8_lose_r1 : List Cond := [Cond.constantLong RX8 109 (255), Cond.constantLong RX8 211 (3), Cond.constantLong RX8 213 (500), Cond.fieldLink RX8 13 "DogBoardModel" "now" "[I", Cond.methodLink RX8 43 yX8_in, Cond.static yX8_in, Cond.initialized RX8, Cond.code yX8_in cX8_in 6 (some .boolean), Cond.methodLink RX8 208 yX8_isCorner, Cond.static yX8_isCorner, Cond.code yX8_isCorner cX8_isCorner 1 (some .boolean), Cond.constantLong RX8 51 (11), Cond.methodLink RX8 114 yX8_refused, Cond.instanceMethod yX8_refused, Cond.selects RX8 yX8_refused yX8_refused, Cond.code yX8_refused cX8_refused 2 (some .boolean), Cond.fieldLink RX8 39 "DogBoardModel" "refusal" "I", Cond.methodLink RX8 215 yX8_remember, Cond.instanceMethod yX8_remember, Cond.selects RX8 yX8_remember yX8_remember, Cond.code yX8_remember cX8_remember 2 none, Cond.fieldLink RX8 188 "DogBoardModel" "acts" "I", Cond.fieldLink RX8 19 "DogBoardModel" "diary" "[I", Cond.methodLink RX8 184 yX8_copyState]
def wsX8_lose_r2 : List Cond := [Cond.static yX8_copyState, Cond.code yX8_copyState cX8_copyState 5 none, Cond.methodLink RX8 133 yX8_loseOn, Cond.static yX8_loseOn, Cond.code yX8_loseOn cX8_loseOn 7 (some .int)]
def wsX8_lose : List Cond := .code yX8_lose cX8_lose 6 (some .int) :: ((wsX8_lose_r1 ++ wsX8_lose_r2) ++ wsX80)
def wsX8_sight_r1 : List Cond := [Cond.constantLong RX8 109 (255), Cond.constantLong RX8 218 (99), Cond.fieldLink RX8 13 "DogBoardModel" "now" "[I", Cond.methodLink RX8 43 yX8_in, Cond.static yX8_in, Cond.initialized RX8, Cond.code yX8_in cX8_in 6 (some .boolean), Cond.methodLink RX8 205 yX8_isFinder, Cond.static yX8_isFinder, Cond.code yX8_isFinder cX8_isFinder 1 (some .boolean), Cond.constantLong RX8 53 (7), Cond.methodLink RX8 208 yX8_isCorner, Cond.static yX8_isCorner, Cond.code yX8_isCorner cX8_isCorner 1 (some .boolean), Cond.constantLong RX8 51 (11), Cond.methodLink RX8 114 yX8_refused, Cond.instanceMethod yX8_refused, Cond.selects RX8 yX8_refused yX8_refused, Cond.code yX8_refused cX8_refused 2 (some .boolean), Cond.fieldLink RX8 39 "DogBoardModel" "refusal" "I", Cond.methodLink RX8 215 yX8_remember, Cond.instanceMethod yX8_remember, Cond.selects RX8 yX8_remember yX8_remember, Cond.code yX8_remember cX8_remember 2 none]
def wsX8_sight_r2 : List Cond := [Cond.fieldLink RX8 188 "DogBoardModel" "acts" "I", Cond.fieldLink RX8 19 "DogBoardModel" "diary" "[I", Cond.methodLink RX8 184 yX8_copyState, Cond.static yX8_copyState, Cond.code yX8_copyState cX8_copyState 5 none, Cond.methodLink RX8 147 yX8_sightOn, Cond.static yX8_sightOn, Cond.code yX8_sightOn cX8_sightOn 7 (some .int), Cond.methodLink RX8 91 yX8_means, Cond.static yX8_means, Cond.code yX8_means cX8_means 6 (some .int), Cond.methodLink RX8 67 yX8_isMissing, Cond.static yX8_isMissing, Cond.code yX8_isMissing cX8_isMissing 2 (some .boolean), Cond.methodLink RX8 47 yX8_ofDog, Cond.static yX8_ofDog, Cond.code yX8_ofDog cX8_ofDog 3 (some .int), Cond.methodLink RX8 71 yX8_unlike, Cond.static yX8_unlike, Cond.code yX8_unlike cX8_unlike 3 (some .int), Cond.methodLink RX8 63 yX8_bits, Cond.static yX8_bits, Cond.code yX8_bits cX8_bits 3 (some .int)]
def wsX8_sight : List Cond := .code yX8_sight cX8_sight 7 (some .int) :: ((wsX8_sight_r1 ++ wsX8_sight_r2) ++ wsX80)
def wsX8_find_r1 : List Cond := [Cond.fieldLink RX8 13 "DogBoardModel" "now" "[I", Cond.methodLink RX8 151 yX8_isDog, Cond.static yX8_isDog, Cond.initialized RX8, Cond.code yX8_isDog cX8_isDog 2 (some .boolean), Cond.methodLink RX8 43 yX8_in, Cond.static yX8_in, Cond.code yX8_in cX8_in 6 (some .boolean), Cond.methodLink RX8 205 yX8_isFinder, Cond.static yX8_isFinder, Cond.code yX8_isFinder cX8_isFinder 1 (some .boolean), Cond.constantLong RX8 53 (7), Cond.methodLink RX8 208 yX8_isCorner, Cond.static yX8_isCorner, Cond.code yX8_isCorner cX8_isCorner 1 (some .boolean), Cond.constantLong RX8 51 (11), Cond.methodLink RX8 67 yX8_isMissing, Cond.static yX8_isMissing, Cond.code yX8_isMissing cX8_isMissing 2 (some .boolean), Cond.methodLink RX8 47 yX8_ofDog, Cond.static yX8_ofDog, Cond.code yX8_ofDog cX8_ofDog 3 (some .int), Cond.methodLink RX8 114 yX8_refused, Cond.instanceMethod yX8_refused]
def wsX8_find_r2 : List Cond := [Cond.selects RX8 yX8_refused yX8_refused, Cond.code yX8_refused cX8_refused 2 (some .boolean), Cond.fieldLink RX8 39 "DogBoardModel" "refusal" "I", Cond.methodLink RX8 215 yX8_remember, Cond.instanceMethod yX8_remember, Cond.selects RX8 yX8_remember yX8_remember, Cond.code yX8_remember cX8_remember 2 none, Cond.fieldLink RX8 188 "DogBoardModel" "acts" "I", Cond.fieldLink RX8 19 "DogBoardModel" "diary" "[I", Cond.methodLink RX8 184 yX8_copyState, Cond.static yX8_copyState, Cond.code yX8_copyState cX8_copyState 5 none, Cond.methodLink RX8 154 yX8_findOn, Cond.instanceMethod yX8_findOn, Cond.selects RX8 yX8_findOn yX8_findOn, Cond.code yX8_findOn cX8_findOn 10 (some .int), Cond.fieldLink RX8 32 "DogBoardModel" "help" "[I", Cond.methodLink RX8 94 yX8_measure, Cond.instanceMethod yX8_measure, Cond.selects RX8 yX8_measure yX8_measure, Cond.code yX8_measure cX8_measure 5 none, Cond.fieldLink RX8 29 "DogBoardModel" "way" "[I", Cond.methodLink RX8 59 yX8_street, Cond.static yX8_street]
def wsX8_find_r3 : List Cond := [Cond.code yX8_street cX8_street 4 (some .int), Cond.methodLink RX8 97 yX8_helps, Cond.instanceMethod yX8_helps, Cond.selects RX8 yX8_helps yX8_helps, Cond.code yX8_helps cX8_helps 8 (some .int), Cond.methodLink RX8 74 yX8_ofSight, Cond.static yX8_ofSight, Cond.code yX8_ofSight cX8_ofSight 3 (some .int), Cond.methodLink RX8 88 yX8_isFraud, Cond.instanceMethod yX8_isFraud, Cond.selects RX8 yX8_isFraud yX8_isFraud, Cond.code yX8_isFraud cX8_isFraud 7 (some .boolean), Cond.methodLink RX8 81 yX8_isTrue, Cond.instanceMethod yX8_isTrue, Cond.selects RX8 yX8_isTrue yX8_isTrue, Cond.code yX8_isTrue cX8_isTrue 4 (some .boolean), Cond.methodLink RX8 77 yX8_reaches, Cond.instanceMethod yX8_reaches, Cond.selects RX8 yX8_reaches yX8_reaches, Cond.code yX8_reaches cX8_reaches 5 (some .boolean), Cond.methodLink RX8 84 yX8_fits, Cond.instanceMethod yX8_fits, Cond.selects RX8 yX8_fits yX8_fits, Cond.code yX8_fits cX8_fits 5 (some .boolean)]
def wsX8_find_r4 : List Cond := [Cond.methodLink RX8 101 yX8_settle, Cond.instanceMethod yX8_settle, Cond.selects RX8 yX8_settle yX8_settle, Cond.code yX8_settle cX8_settle 4 none]
def wsX8_find : List Cond := .code yX8_find cX8_find 4 (some .int) :: ((wsX8_find_r1 ++ (wsX8_find_r2 ++ (wsX8_find_r3 ++ wsX8_find_r4))) ++ wsX80)
def wsX8_close_r1 : List Cond := [Cond.fieldLink RX8 13 "DogBoardModel" "now" "[I", Cond.methodLink RX8 208 yX8_isCorner, Cond.static yX8_isCorner, Cond.initialized RX8, Cond.code yX8_isCorner cX8_isCorner 1 (some .boolean), Cond.constantLong RX8 51 (11), Cond.methodLink RX8 43 yX8_in, Cond.static yX8_in, Cond.code yX8_in cX8_in 6 (some .boolean), Cond.methodLink RX8 59 yX8_street, Cond.static yX8_street, Cond.code yX8_street cX8_street 4 (some .int), Cond.methodLink RX8 114 yX8_refused, Cond.instanceMethod yX8_refused, Cond.selects RX8 yX8_refused yX8_refused, Cond.code yX8_refused cX8_refused 2 (some .boolean), Cond.fieldLink RX8 39 "DogBoardModel" "refusal" "I", Cond.methodLink RX8 215 yX8_remember, Cond.instanceMethod yX8_remember, Cond.selects RX8 yX8_remember yX8_remember, Cond.code yX8_remember cX8_remember 2 none, Cond.fieldLink RX8 188 "DogBoardModel" "acts" "I", Cond.fieldLink RX8 19 "DogBoardModel" "diary" "[I", Cond.methodLink RX8 184 yX8_copyState]
def wsX8_close_r2 : List Cond := [Cond.static yX8_copyState, Cond.code yX8_copyState cX8_copyState 5 none, Cond.methodLink RX8 157 yX8_closeOn, Cond.static yX8_closeOn, Cond.code yX8_closeOn cX8_closeOn 4 (some .int), Cond.methodLink RX8 105 yX8_closedMany, Cond.static yX8_closedMany, Cond.code yX8_closedMany cX8_closedMany 3 (some .int)]
def wsX8_close : List Cond := .code yX8_close cX8_close 4 (some .int) :: ((wsX8_close_r1 ++ wsX8_close_r2) ++ wsX80)
def wsX8_hours_r1 : List Cond := [Cond.constantLong RX8 218 (99), Cond.fieldLink RX8 13 "DogBoardModel" "now" "[I", Cond.methodLink RX8 43 yX8_in, Cond.static yX8_in, Cond.initialized RX8, Cond.code yX8_in cX8_in 6 (some .boolean), Cond.methodLink RX8 114 yX8_refused, Cond.instanceMethod yX8_refused, Cond.selects RX8 yX8_refused yX8_refused, Cond.code yX8_refused cX8_refused 2 (some .boolean), Cond.fieldLink RX8 39 "DogBoardModel" "refusal" "I", Cond.methodLink RX8 215 yX8_remember, Cond.instanceMethod yX8_remember, Cond.selects RX8 yX8_remember yX8_remember, Cond.code yX8_remember cX8_remember 2 none, Cond.fieldLink RX8 188 "DogBoardModel" "acts" "I", Cond.fieldLink RX8 19 "DogBoardModel" "diary" "[I", Cond.methodLink RX8 184 yX8_copyState, Cond.static yX8_copyState, Cond.code yX8_copyState cX8_copyState 5 none, Cond.methodLink RX8 174 yX8_hoursOn, Cond.static yX8_hoursOn, Cond.code yX8_hoursOn cX8_hoursOn 5 (some .int), Cond.methodLink RX8 67 yX8_isMissing]
def wsX8_hours_r2 : List Cond := [Cond.static yX8_isMissing, Cond.code yX8_isMissing cX8_isMissing 2 (some .boolean), Cond.methodLink RX8 47 yX8_ofDog, Cond.static yX8_ofDog, Cond.code yX8_ofDog cX8_ofDog 3 (some .int)]
def wsX8_hours : List Cond := .code yX8_hours cX8_hours 2 (some .int) :: ((wsX8_hours_r1 ++ wsX8_hours_r2) ++ wsX80)
def wsX8_set_r1 : List Cond := [Cond.fieldLink RX8 13 "DogBoardModel" "now" "[I", Cond.methodLink RX8 220 yX8_isSetting, Cond.static yX8_isSetting, Cond.initialized RX8, Cond.code yX8_isSetting cX8_isSetting 2 (some .boolean), Cond.constantLong RX8 55 (50), Cond.constantLong RX8 57 (8), Cond.methodLink RX8 43 yX8_in, Cond.static yX8_in, Cond.code yX8_in cX8_in 6 (some .boolean), Cond.methodLink RX8 114 yX8_refused, Cond.instanceMethod yX8_refused, Cond.selects RX8 yX8_refused yX8_refused, Cond.code yX8_refused cX8_refused 2 (some .boolean), Cond.fieldLink RX8 39 "DogBoardModel" "refusal" "I", Cond.methodLink RX8 215 yX8_remember, Cond.instanceMethod yX8_remember, Cond.selects RX8 yX8_remember yX8_remember, Cond.code yX8_remember cX8_remember 2 none, Cond.fieldLink RX8 188 "DogBoardModel" "acts" "I", Cond.fieldLink RX8 19 "DogBoardModel" "diary" "[I", Cond.methodLink RX8 184 yX8_copyState, Cond.static yX8_copyState, Cond.code yX8_copyState cX8_copyState 5 none]
def wsX8_set_r2 : List Cond := [Cond.methodLink RX8 224 yX8_change, Cond.static yX8_change, Cond.code yX8_change cX8_change 4 (some .int)]
def wsX8_set : List Cond := .code yX8_set cX8_set 3 (some .int) :: ((wsX8_set_r1 ++ wsX8_set_r2) ++ wsX80)
def wsX8_undo : List Cond := .code yX8_undo cX8_undo 1 (some .int) :: ([.fieldLink RX8 188 "DogBoardModel" "acts" "I", .fieldLink RX8 19 "DogBoardModel" "diary" "[I", .fieldLink RX8 13 "DogBoardModel" "now" "[I", .methodLink RX8 114 yX8_refused, .instanceMethod yX8_refused, .selects RX8 yX8_refused yX8_refused, .initialized RX8, .code yX8_refused cX8_refused 2 (some .boolean), .fieldLink RX8 39 "DogBoardModel" "refusal" "I", .methodLink RX8 184 yX8_copyState, .static yX8_copyState, .code yX8_copyState cX8_copyState 5 none] ++ wsX80)
def wsX8_canBe_r1 : List Cond := [Cond.fieldLink RX8 13 "DogBoardModel" "now" "[I", Cond.methodLink RX8 151 yX8_isDog, Cond.static yX8_isDog, Cond.initialized RX8, Cond.code yX8_isDog cX8_isDog 2 (some .boolean), Cond.methodLink RX8 43 yX8_in, Cond.static yX8_in, Cond.code yX8_in cX8_in 6 (some .boolean), Cond.methodLink RX8 67 yX8_isMissing, Cond.static yX8_isMissing, Cond.code yX8_isMissing cX8_isMissing 2 (some .boolean), Cond.methodLink RX8 47 yX8_ofDog, Cond.static yX8_ofDog, Cond.code yX8_ofDog cX8_ofDog 3 (some .int), Cond.methodLink RX8 114 yX8_refused, Cond.instanceMethod yX8_refused, Cond.selects RX8 yX8_refused yX8_refused, Cond.code yX8_refused cX8_refused 2 (some .boolean), Cond.fieldLink RX8 39 "DogBoardModel" "refusal" "I", Cond.methodLink RX8 94 yX8_measure, Cond.instanceMethod yX8_measure, Cond.selects RX8 yX8_measure yX8_measure, Cond.code yX8_measure cX8_measure 5 none, Cond.fieldLink RX8 29 "DogBoardModel" "way" "[I"]
def wsX8_canBe_r2 : List Cond := [Cond.methodLink RX8 59 yX8_street, Cond.static yX8_street, Cond.code yX8_street cX8_street 4 (some .int), Cond.methodLink RX8 227 yX8_canBeAt, Cond.instanceMethod yX8_canBeAt, Cond.selects RX8 yX8_canBeAt yX8_canBeAt, Cond.code yX8_canBeAt cX8_canBeAt 6 (some .boolean), Cond.methodLink RX8 77 yX8_reaches, Cond.instanceMethod yX8_reaches, Cond.selects RX8 yX8_reaches yX8_reaches, Cond.code yX8_reaches cX8_reaches 5 (some .boolean), Cond.methodLink RX8 74 yX8_ofSight, Cond.static yX8_ofSight, Cond.code yX8_ofSight cX8_ofSight 3 (some .int), Cond.methodLink RX8 88 yX8_isFraud, Cond.instanceMethod yX8_isFraud, Cond.selects RX8 yX8_isFraud yX8_isFraud, Cond.code yX8_isFraud cX8_isFraud 7 (some .boolean), Cond.methodLink RX8 81 yX8_isTrue, Cond.instanceMethod yX8_isTrue, Cond.selects RX8 yX8_isTrue yX8_isTrue, Cond.code yX8_isTrue cX8_isTrue 4 (some .boolean), Cond.methodLink RX8 84 yX8_fits, Cond.instanceMethod yX8_fits]
def wsX8_canBe_r3 : List Cond := [Cond.selects RX8 yX8_fits yX8_fits, Cond.code yX8_fits cX8_fits 5 (some .boolean)]
def wsX8_canBe : List Cond := .code yX8_canBe cX8_canBe 4 (some .int) :: ((wsX8_canBe_r1 ++ (wsX8_canBe_r2 ++ wsX8_canBe_r3)) ++ wsX80)
def wsX8_watch_r1 : List Cond := [Cond.fieldLink RX8 39 "DogBoardModel" "refusal" "I", Cond.fieldLink RX8 13 "DogBoardModel" "now" "[I", Cond.constant RX8 230 (10000000), Cond.methodLink RX8 94 yX8_measure, Cond.instanceMethod yX8_measure, Cond.selects RX8 yX8_measure yX8_measure, Cond.initialized RX8, Cond.code yX8_measure cX8_measure 5 none, Cond.fieldLink RX8 29 "DogBoardModel" "way" "[I", Cond.methodLink RX8 59 yX8_street, Cond.static yX8_street, Cond.code yX8_street cX8_street 4 (some .int), Cond.methodLink RX8 193 yX8_missing, Cond.static yX8_missing, Cond.code yX8_missing cX8_missing 3 (some .int), Cond.methodLink RX8 67 yX8_isMissing, Cond.static yX8_isMissing, Cond.code yX8_isMissing cX8_isMissing 2 (some .boolean), Cond.methodLink RX8 47 yX8_ofDog, Cond.static yX8_ofDog, Cond.code yX8_ofDog cX8_ofDog 3 (some .int), Cond.methodLink RX8 227 yX8_canBeAt, Cond.instanceMethod yX8_canBeAt, Cond.selects RX8 yX8_canBeAt yX8_canBeAt]
def wsX8_watch_r2 : List Cond := [Cond.code yX8_canBeAt cX8_canBeAt 6 (some .boolean), Cond.methodLink RX8 77 yX8_reaches, Cond.instanceMethod yX8_reaches, Cond.selects RX8 yX8_reaches yX8_reaches, Cond.code yX8_reaches cX8_reaches 5 (some .boolean), Cond.methodLink RX8 74 yX8_ofSight, Cond.static yX8_ofSight, Cond.code yX8_ofSight cX8_ofSight 3 (some .int), Cond.methodLink RX8 88 yX8_isFraud, Cond.instanceMethod yX8_isFraud, Cond.selects RX8 yX8_isFraud yX8_isFraud, Cond.code yX8_isFraud cX8_isFraud 7 (some .boolean), Cond.methodLink RX8 81 yX8_isTrue, Cond.instanceMethod yX8_isTrue, Cond.selects RX8 yX8_isTrue yX8_isTrue, Cond.code yX8_isTrue cX8_isTrue 4 (some .boolean), Cond.methodLink RX8 84 yX8_fits, Cond.instanceMethod yX8_fits, Cond.selects RX8 yX8_fits yX8_fits, Cond.code yX8_fits cX8_fits 5 (some .boolean)]
def wsX8_watch : List Cond := .code yX8_watch cX8_watch 6 (some .int) :: ((wsX8_watch_r1 ++ wsX8_watch_r2) ++ wsX80)
def wsX8_meant_r1 : List Cond := [Cond.constantLong RX8 109 (255), Cond.fieldLink RX8 13 "DogBoardModel" "now" "[I", Cond.methodLink RX8 43 yX8_in, Cond.static yX8_in, Cond.initialized RX8, Cond.code yX8_in cX8_in 6 (some .boolean), Cond.methodLink RX8 114 yX8_refused, Cond.instanceMethod yX8_refused, Cond.selects RX8 yX8_refused yX8_refused, Cond.code yX8_refused cX8_refused 2 (some .boolean), Cond.fieldLink RX8 39 "DogBoardModel" "refusal" "I", Cond.methodLink RX8 91 yX8_means, Cond.static yX8_means, Cond.code yX8_means cX8_means 6 (some .int), Cond.methodLink RX8 67 yX8_isMissing, Cond.static yX8_isMissing, Cond.code yX8_isMissing cX8_isMissing 2 (some .boolean), Cond.methodLink RX8 47 yX8_ofDog, Cond.static yX8_ofDog, Cond.code yX8_ofDog cX8_ofDog 3 (some .int), Cond.methodLink RX8 71 yX8_unlike, Cond.static yX8_unlike, Cond.code yX8_unlike cX8_unlike 3 (some .int), Cond.methodLink RX8 63 yX8_bits]
def wsX8_meant_r2 : List Cond := [Cond.static yX8_bits, Cond.code yX8_bits cX8_bits 3 (some .int)]
def wsX8_meant : List Cond := .code yX8_meant cX8_meant 2 (some .int) :: ((wsX8_meant_r1 ++ wsX8_meant_r2) ++ wsX80)
def wsX8_ifFound_r1 : List Cond := [Cond.fieldLink RX8 13 "DogBoardModel" "now" "[I", Cond.fieldLink RX8 32 "DogBoardModel" "help" "[I", Cond.methodLink RX8 151 yX8_isDog, Cond.static yX8_isDog, Cond.initialized RX8, Cond.code yX8_isDog cX8_isDog 2 (some .boolean), Cond.methodLink RX8 43 yX8_in, Cond.static yX8_in, Cond.code yX8_in cX8_in 6 (some .boolean), Cond.methodLink RX8 205 yX8_isFinder, Cond.static yX8_isFinder, Cond.code yX8_isFinder cX8_isFinder 1 (some .boolean), Cond.constantLong RX8 53 (7), Cond.methodLink RX8 208 yX8_isCorner, Cond.static yX8_isCorner, Cond.code yX8_isCorner cX8_isCorner 1 (some .boolean), Cond.constantLong RX8 51 (11), Cond.methodLink RX8 67 yX8_isMissing, Cond.static yX8_isMissing, Cond.code yX8_isMissing cX8_isMissing 2 (some .boolean), Cond.methodLink RX8 47 yX8_ofDog, Cond.static yX8_ofDog, Cond.code yX8_ofDog cX8_ofDog 3 (some .int), Cond.methodLink RX8 114 yX8_refused]
def wsX8_ifFound_r2 : List Cond := [Cond.instanceMethod yX8_refused, Cond.selects RX8 yX8_refused yX8_refused, Cond.code yX8_refused cX8_refused 2 (some .boolean), Cond.fieldLink RX8 39 "DogBoardModel" "refusal" "I", Cond.methodLink RX8 94 yX8_measure, Cond.instanceMethod yX8_measure, Cond.selects RX8 yX8_measure yX8_measure, Cond.code yX8_measure cX8_measure 5 none, Cond.fieldLink RX8 29 "DogBoardModel" "way" "[I", Cond.methodLink RX8 59 yX8_street, Cond.static yX8_street, Cond.code yX8_street cX8_street 4 (some .int), Cond.methodLink RX8 97 yX8_helps, Cond.instanceMethod yX8_helps, Cond.selects RX8 yX8_helps yX8_helps, Cond.code yX8_helps cX8_helps 8 (some .int), Cond.methodLink RX8 74 yX8_ofSight, Cond.static yX8_ofSight, Cond.code yX8_ofSight cX8_ofSight 3 (some .int), Cond.methodLink RX8 88 yX8_isFraud, Cond.instanceMethod yX8_isFraud, Cond.selects RX8 yX8_isFraud yX8_isFraud, Cond.code yX8_isFraud cX8_isFraud 7 (some .boolean), Cond.methodLink RX8 81 yX8_isTrue]
def wsX8_ifFound_r3 : List Cond := [Cond.instanceMethod yX8_isTrue, Cond.selects RX8 yX8_isTrue yX8_isTrue, Cond.code yX8_isTrue cX8_isTrue 4 (some .boolean), Cond.methodLink RX8 77 yX8_reaches, Cond.instanceMethod yX8_reaches, Cond.selects RX8 yX8_reaches yX8_reaches, Cond.code yX8_reaches cX8_reaches 5 (some .boolean), Cond.methodLink RX8 84 yX8_fits, Cond.instanceMethod yX8_fits, Cond.selects RX8 yX8_fits yX8_fits, Cond.code yX8_fits cX8_fits 5 (some .boolean)]
def wsX8_ifFound : List Cond := .code yX8_ifFound cX8_ifFound 6 (some .int) :: ((wsX8_ifFound_r1 ++ (wsX8_ifFound_r2 ++ wsX8_ifFound_r3)) ++ wsX80)
def wsX8_canBeNow_r1 : List Cond := [Cond.fieldLink RX8 16 "DogBoardModel" "trial" "[I", Cond.methodLink RX8 94 yX8_measure, Cond.instanceMethod yX8_measure, Cond.selects RX8 yX8_measure yX8_measure, Cond.initialized RX8, Cond.code yX8_measure cX8_measure 5 none, Cond.fieldLink RX8 29 "DogBoardModel" "way" "[I", Cond.methodLink RX8 59 yX8_street, Cond.static yX8_street, Cond.code yX8_street cX8_street 4 (some .int), Cond.methodLink RX8 227 yX8_canBeAt, Cond.instanceMethod yX8_canBeAt, Cond.selects RX8 yX8_canBeAt yX8_canBeAt, Cond.code yX8_canBeAt cX8_canBeAt 6 (some .boolean), Cond.methodLink RX8 47 yX8_ofDog, Cond.static yX8_ofDog, Cond.code yX8_ofDog cX8_ofDog 3 (some .int), Cond.methodLink RX8 77 yX8_reaches, Cond.instanceMethod yX8_reaches, Cond.selects RX8 yX8_reaches yX8_reaches, Cond.code yX8_reaches cX8_reaches 5 (some .boolean), Cond.methodLink RX8 74 yX8_ofSight, Cond.static yX8_ofSight, Cond.code yX8_ofSight cX8_ofSight 3 (some .int)]
def wsX8_canBeNow_r2 : List Cond := [Cond.methodLink RX8 88 yX8_isFraud, Cond.instanceMethod yX8_isFraud, Cond.selects RX8 yX8_isFraud yX8_isFraud, Cond.code yX8_isFraud cX8_isFraud 7 (some .boolean), Cond.methodLink RX8 67 yX8_isMissing, Cond.static yX8_isMissing, Cond.code yX8_isMissing cX8_isMissing 2 (some .boolean), Cond.methodLink RX8 81 yX8_isTrue, Cond.instanceMethod yX8_isTrue, Cond.selects RX8 yX8_isTrue yX8_isTrue, Cond.code yX8_isTrue cX8_isTrue 4 (some .boolean), Cond.methodLink RX8 84 yX8_fits, Cond.instanceMethod yX8_fits, Cond.selects RX8 yX8_fits yX8_fits, Cond.code yX8_fits cX8_fits 5 (some .boolean)]
def wsX8_canBeNow : List Cond := .code yX8_canBeNow cX8_canBeNow 3 (some .boolean) :: ((wsX8_canBeNow_r1 ++ wsX8_canBeNow_r2) ++ wsX80)
def wsX8_fraudsNow_r1 : List Cond := [Cond.fieldLink RX8 16 "DogBoardModel" "trial" "[I", Cond.methodLink RX8 94 yX8_measure, Cond.instanceMethod yX8_measure, Cond.selects RX8 yX8_measure yX8_measure, Cond.initialized RX8, Cond.code yX8_measure cX8_measure 5 none, Cond.fieldLink RX8 29 "DogBoardModel" "way" "[I", Cond.methodLink RX8 59 yX8_street, Cond.static yX8_street, Cond.code yX8_street cX8_street 4 (some .int), Cond.methodLink RX8 199 yX8_frauds, Cond.instanceMethod yX8_frauds, Cond.selects RX8 yX8_frauds yX8_frauds, Cond.code yX8_frauds cX8_frauds 4 (some .int), Cond.methodLink RX8 88 yX8_isFraud, Cond.instanceMethod yX8_isFraud, Cond.selects RX8 yX8_isFraud yX8_isFraud, Cond.code yX8_isFraud cX8_isFraud 7 (some .boolean), Cond.methodLink RX8 74 yX8_ofSight, Cond.static yX8_ofSight, Cond.code yX8_ofSight cX8_ofSight 3 (some .int), Cond.methodLink RX8 67 yX8_isMissing, Cond.static yX8_isMissing, Cond.code yX8_isMissing cX8_isMissing 2 (some .boolean)]
def wsX8_fraudsNow_r2 : List Cond := [Cond.methodLink RX8 47 yX8_ofDog, Cond.static yX8_ofDog, Cond.code yX8_ofDog cX8_ofDog 3 (some .int), Cond.methodLink RX8 81 yX8_isTrue, Cond.instanceMethod yX8_isTrue, Cond.selects RX8 yX8_isTrue yX8_isTrue, Cond.code yX8_isTrue cX8_isTrue 4 (some .boolean), Cond.methodLink RX8 77 yX8_reaches, Cond.instanceMethod yX8_reaches, Cond.selects RX8 yX8_reaches yX8_reaches, Cond.code yX8_reaches cX8_reaches 5 (some .boolean), Cond.methodLink RX8 84 yX8_fits, Cond.instanceMethod yX8_fits, Cond.selects RX8 yX8_fits yX8_fits, Cond.code yX8_fits cX8_fits 5 (some .boolean)]
def wsX8_fraudsNow : List Cond := .code yX8_fraudsNow cX8_fraudsNow 1 (some .int) :: ((wsX8_fraudsNow_r1 ++ wsX8_fraudsNow_r2) ++ wsX80)
def wsX8_command_r1 : List Cond := [Cond.constantLong RX8 218 (99), Cond.fieldLink RX8 16 "DogBoardModel" "trial" "[I", Cond.methodLink RX8 43 yX8_in, Cond.static yX8_in, Cond.initialized RX8, Cond.code yX8_in cX8_in 6 (some .boolean), Cond.methodLink RX8 174 yX8_hoursOn, Cond.static yX8_hoursOn, Cond.code yX8_hoursOn cX8_hoursOn 5 (some .int), Cond.methodLink RX8 67 yX8_isMissing, Cond.static yX8_isMissing, Cond.code yX8_isMissing cX8_isMissing 2 (some .boolean), Cond.methodLink RX8 47 yX8_ofDog, Cond.static yX8_ofDog, Cond.code yX8_ofDog cX8_ofDog 3 (some .int), Cond.methodLink RX8 205 yX8_isFinder, Cond.static yX8_isFinder, Cond.code yX8_isFinder cX8_isFinder 1 (some .boolean), Cond.constantLong RX8 53 (7), Cond.methodLink RX8 208 yX8_isCorner, Cond.static yX8_isCorner, Cond.code yX8_isCorner cX8_isCorner 1 (some .boolean), Cond.constantLong RX8 51 (11), Cond.methodLink RX8 147 yX8_sightOn]
def wsX8_command_r2 : List Cond := [Cond.static yX8_sightOn, Cond.code yX8_sightOn cX8_sightOn 7 (some .int), Cond.methodLink RX8 91 yX8_means, Cond.static yX8_means, Cond.code yX8_means cX8_means 6 (some .int), Cond.methodLink RX8 71 yX8_unlike, Cond.static yX8_unlike, Cond.code yX8_unlike cX8_unlike 3 (some .int), Cond.methodLink RX8 63 yX8_bits, Cond.static yX8_bits, Cond.code yX8_bits cX8_bits 3 (some .int), Cond.methodLink RX8 151 yX8_isDog, Cond.static yX8_isDog, Cond.code yX8_isDog cX8_isDog 2 (some .boolean), Cond.methodLink RX8 154 yX8_findOn, Cond.instanceMethod yX8_findOn, Cond.selects RX8 yX8_findOn yX8_findOn, Cond.code yX8_findOn cX8_findOn 10 (some .int), Cond.fieldLink RX8 32 "DogBoardModel" "help" "[I", Cond.methodLink RX8 94 yX8_measure, Cond.instanceMethod yX8_measure, Cond.selects RX8 yX8_measure yX8_measure, Cond.code yX8_measure cX8_measure 5 none, Cond.fieldLink RX8 29 "DogBoardModel" "way" "[I"]
def wsX8_command_r3 : List Cond := [Cond.methodLink RX8 59 yX8_street, Cond.static yX8_street, Cond.code yX8_street cX8_street 4 (some .int), Cond.methodLink RX8 97 yX8_helps, Cond.instanceMethod yX8_helps, Cond.selects RX8 yX8_helps yX8_helps, Cond.code yX8_helps cX8_helps 8 (some .int), Cond.methodLink RX8 74 yX8_ofSight, Cond.static yX8_ofSight, Cond.code yX8_ofSight cX8_ofSight 3 (some .int), Cond.methodLink RX8 88 yX8_isFraud, Cond.instanceMethod yX8_isFraud, Cond.selects RX8 yX8_isFraud yX8_isFraud, Cond.code yX8_isFraud cX8_isFraud 7 (some .boolean), Cond.methodLink RX8 81 yX8_isTrue, Cond.instanceMethod yX8_isTrue, Cond.selects RX8 yX8_isTrue yX8_isTrue, Cond.code yX8_isTrue cX8_isTrue 4 (some .boolean), Cond.methodLink RX8 77 yX8_reaches, Cond.instanceMethod yX8_reaches, Cond.selects RX8 yX8_reaches yX8_reaches, Cond.code yX8_reaches cX8_reaches 5 (some .boolean), Cond.methodLink RX8 84 yX8_fits, Cond.instanceMethod yX8_fits]
def wsX8_command_r4 : List Cond := [Cond.selects RX8 yX8_fits yX8_fits, Cond.code yX8_fits cX8_fits 5 (some .boolean), Cond.methodLink RX8 101 yX8_settle, Cond.instanceMethod yX8_settle, Cond.selects RX8 yX8_settle yX8_settle, Cond.code yX8_settle cX8_settle 4 none, Cond.methodLink RX8 157 yX8_closeOn, Cond.static yX8_closeOn, Cond.code yX8_closeOn cX8_closeOn 4 (some .int), Cond.methodLink RX8 105 yX8_closedMany, Cond.static yX8_closedMany, Cond.code yX8_closedMany cX8_closedMany 3 (some .int), Cond.methodLink RX8 220 yX8_isSetting, Cond.static yX8_isSetting, Cond.code yX8_isSetting cX8_isSetting 2 (some .boolean), Cond.constantLong RX8 55 (50), Cond.constantLong RX8 57 (8), Cond.methodLink RX8 224 yX8_change, Cond.static yX8_change, Cond.code yX8_change cX8_change 4 (some .int), Cond.methodLink RX8 231 yX8_canBeNow, Cond.instanceMethod yX8_canBeNow, Cond.selects RX8 yX8_canBeNow yX8_canBeNow, Cond.code yX8_canBeNow cX8_canBeNow 3 (some .boolean)]
def wsX8_command_r5 : List Cond := [Cond.methodLink RX8 227 yX8_canBeAt, Cond.instanceMethod yX8_canBeAt, Cond.selects RX8 yX8_canBeAt yX8_canBeAt, Cond.code yX8_canBeAt cX8_canBeAt 6 (some .boolean), Cond.methodLink RX8 234 yX8_fraudsNow, Cond.instanceMethod yX8_fraudsNow, Cond.selects RX8 yX8_fraudsNow yX8_fraudsNow, Cond.code yX8_fraudsNow cX8_fraudsNow 1 (some .int), Cond.methodLink RX8 199 yX8_frauds, Cond.instanceMethod yX8_frauds, Cond.selects RX8 yX8_frauds yX8_frauds, Cond.code yX8_frauds cX8_frauds 4 (some .int)]
def wsX8_command : List Cond := .code yX8_command cX8_command 12 (some .boolean) :: ((wsX8_command_r1 ++ (wsX8_command_r2 ++ (wsX8_command_r3 ++ (wsX8_command_r4 ++ wsX8_command_r5)))) ++ wsX80)
def wsX8_runScript_r1 : List Cond := [Cond.constantLong RX8 238 (1000000), Cond.constantLong RX8 211 (3), Cond.fieldLink RX8 13 "DogBoardModel" "now" "[I", Cond.fieldLink RX8 16 "DogBoardModel" "trial" "[I", Cond.constant RX8 240 (100000), Cond.methodLink RX8 43 yX8_in, Cond.static yX8_in, Cond.initialized RX8, Cond.code yX8_in cX8_in 6 (some .boolean), Cond.methodLink RX8 114 yX8_refused, Cond.instanceMethod yX8_refused, Cond.selects RX8 yX8_refused yX8_refused, Cond.code yX8_refused cX8_refused 2 (some .boolean), Cond.fieldLink RX8 39 "DogBoardModel" "refusal" "I", Cond.methodLink RX8 184 yX8_copyState, Cond.static yX8_copyState, Cond.code yX8_copyState cX8_copyState 5 none, Cond.methodLink RX8 241 yX8_command, Cond.instanceMethod yX8_command, Cond.selects RX8 yX8_command yX8_command, Cond.code yX8_command cX8_command 12 (some .boolean), Cond.constantLong RX8 218 (99), Cond.methodLink RX8 174 yX8_hoursOn, Cond.static yX8_hoursOn]
def wsX8_runScript_r2 : List Cond := [Cond.code yX8_hoursOn cX8_hoursOn 5 (some .int), Cond.methodLink RX8 67 yX8_isMissing, Cond.static yX8_isMissing, Cond.code yX8_isMissing cX8_isMissing 2 (some .boolean), Cond.methodLink RX8 47 yX8_ofDog, Cond.static yX8_ofDog, Cond.code yX8_ofDog cX8_ofDog 3 (some .int), Cond.methodLink RX8 205 yX8_isFinder, Cond.static yX8_isFinder, Cond.code yX8_isFinder cX8_isFinder 1 (some .boolean), Cond.constantLong RX8 53 (7), Cond.methodLink RX8 208 yX8_isCorner, Cond.static yX8_isCorner, Cond.code yX8_isCorner cX8_isCorner 1 (some .boolean), Cond.constantLong RX8 51 (11), Cond.methodLink RX8 147 yX8_sightOn, Cond.static yX8_sightOn, Cond.code yX8_sightOn cX8_sightOn 7 (some .int), Cond.methodLink RX8 91 yX8_means, Cond.static yX8_means, Cond.code yX8_means cX8_means 6 (some .int), Cond.methodLink RX8 71 yX8_unlike, Cond.static yX8_unlike, Cond.code yX8_unlike cX8_unlike 3 (some .int)]
def wsX8_runScript_r3 : List Cond := [Cond.methodLink RX8 63 yX8_bits, Cond.static yX8_bits, Cond.code yX8_bits cX8_bits 3 (some .int), Cond.methodLink RX8 151 yX8_isDog, Cond.static yX8_isDog, Cond.code yX8_isDog cX8_isDog 2 (some .boolean), Cond.methodLink RX8 154 yX8_findOn, Cond.instanceMethod yX8_findOn, Cond.selects RX8 yX8_findOn yX8_findOn, Cond.code yX8_findOn cX8_findOn 10 (some .int), Cond.fieldLink RX8 32 "DogBoardModel" "help" "[I", Cond.methodLink RX8 94 yX8_measure, Cond.instanceMethod yX8_measure, Cond.selects RX8 yX8_measure yX8_measure, Cond.code yX8_measure cX8_measure 5 none, Cond.fieldLink RX8 29 "DogBoardModel" "way" "[I", Cond.methodLink RX8 59 yX8_street, Cond.static yX8_street, Cond.code yX8_street cX8_street 4 (some .int), Cond.methodLink RX8 97 yX8_helps, Cond.instanceMethod yX8_helps, Cond.selects RX8 yX8_helps yX8_helps, Cond.code yX8_helps cX8_helps 8 (some .int), Cond.methodLink RX8 74 yX8_ofSight]
def wsX8_runScript_r4 : List Cond := [Cond.static yX8_ofSight, Cond.code yX8_ofSight cX8_ofSight 3 (some .int), Cond.methodLink RX8 88 yX8_isFraud, Cond.instanceMethod yX8_isFraud, Cond.selects RX8 yX8_isFraud yX8_isFraud, Cond.code yX8_isFraud cX8_isFraud 7 (some .boolean), Cond.methodLink RX8 81 yX8_isTrue, Cond.instanceMethod yX8_isTrue, Cond.selects RX8 yX8_isTrue yX8_isTrue, Cond.code yX8_isTrue cX8_isTrue 4 (some .boolean), Cond.methodLink RX8 77 yX8_reaches, Cond.instanceMethod yX8_reaches, Cond.selects RX8 yX8_reaches yX8_reaches, Cond.code yX8_reaches cX8_reaches 5 (some .boolean), Cond.methodLink RX8 84 yX8_fits, Cond.instanceMethod yX8_fits, Cond.selects RX8 yX8_fits yX8_fits, Cond.code yX8_fits cX8_fits 5 (some .boolean), Cond.methodLink RX8 101 yX8_settle, Cond.instanceMethod yX8_settle, Cond.selects RX8 yX8_settle yX8_settle, Cond.code yX8_settle cX8_settle 4 none, Cond.methodLink RX8 157 yX8_closeOn, Cond.static yX8_closeOn]
def wsX8_runScript_r5 : List Cond := [Cond.code yX8_closeOn cX8_closeOn 4 (some .int), Cond.methodLink RX8 105 yX8_closedMany, Cond.static yX8_closedMany, Cond.code yX8_closedMany cX8_closedMany 3 (some .int), Cond.methodLink RX8 220 yX8_isSetting, Cond.static yX8_isSetting, Cond.code yX8_isSetting cX8_isSetting 2 (some .boolean), Cond.constantLong RX8 55 (50), Cond.constantLong RX8 57 (8), Cond.methodLink RX8 224 yX8_change, Cond.static yX8_change, Cond.code yX8_change cX8_change 4 (some .int), Cond.methodLink RX8 231 yX8_canBeNow, Cond.instanceMethod yX8_canBeNow, Cond.selects RX8 yX8_canBeNow yX8_canBeNow, Cond.code yX8_canBeNow cX8_canBeNow 3 (some .boolean), Cond.methodLink RX8 227 yX8_canBeAt, Cond.instanceMethod yX8_canBeAt, Cond.selects RX8 yX8_canBeAt yX8_canBeAt, Cond.code yX8_canBeAt cX8_canBeAt 6 (some .boolean), Cond.methodLink RX8 234 yX8_fraudsNow, Cond.instanceMethod yX8_fraudsNow, Cond.selects RX8 yX8_fraudsNow yX8_fraudsNow, Cond.code yX8_fraudsNow cX8_fraudsNow 1 (some .int)]
def wsX8_runScript_r6 : List Cond := [Cond.methodLink RX8 199 yX8_frauds, Cond.instanceMethod yX8_frauds, Cond.selects RX8 yX8_frauds yX8_frauds, Cond.code yX8_frauds cX8_frauds 4 (some .int)]
def wsX8_runScript : List Cond := .code yX8_runScript cX8_runScript 8 (some .int) :: ((wsX8_runScript_r1 ++ (wsX8_runScript_r2 ++ (wsX8_runScript_r3 ++ (wsX8_runScript_r4 ++ (wsX8_runScript_r5 ++ wsX8_runScript_r6))))) ++ wsX80)
def wsX8_turnOf_r1 : List Cond := [Cond.constant RX8 244 (32768), Cond.constant RX8 245 (262144), Cond.methodLink RX8 133 yX8_loseOn, Cond.static yX8_loseOn, Cond.initialized RX8, Cond.code yX8_loseOn cX8_loseOn 7 (some .int), Cond.methodLink RX8 147 yX8_sightOn, Cond.static yX8_sightOn, Cond.code yX8_sightOn cX8_sightOn 7 (some .int), Cond.methodLink RX8 91 yX8_means, Cond.static yX8_means, Cond.code yX8_means cX8_means 6 (some .int), Cond.methodLink RX8 67 yX8_isMissing, Cond.static yX8_isMissing, Cond.code yX8_isMissing cX8_isMissing 2 (some .boolean), Cond.methodLink RX8 47 yX8_ofDog, Cond.static yX8_ofDog, Cond.code yX8_ofDog cX8_ofDog 3 (some .int), Cond.methodLink RX8 71 yX8_unlike, Cond.static yX8_unlike, Cond.code yX8_unlike cX8_unlike 3 (some .int), Cond.methodLink RX8 63 yX8_bits, Cond.static yX8_bits, Cond.code yX8_bits cX8_bits 3 (some .int)]
def wsX8_turnOf_r2 : List Cond := [Cond.methodLink RX8 151 yX8_isDog, Cond.static yX8_isDog, Cond.code yX8_isDog cX8_isDog 2 (some .boolean), Cond.methodLink RX8 43 yX8_in, Cond.static yX8_in, Cond.code yX8_in cX8_in 6 (some .boolean), Cond.methodLink RX8 154 yX8_findOn, Cond.instanceMethod yX8_findOn, Cond.selects RX8 yX8_findOn yX8_findOn, Cond.code yX8_findOn cX8_findOn 10 (some .int), Cond.fieldLink RX8 32 "DogBoardModel" "help" "[I", Cond.methodLink RX8 94 yX8_measure, Cond.instanceMethod yX8_measure, Cond.selects RX8 yX8_measure yX8_measure, Cond.code yX8_measure cX8_measure 5 none, Cond.fieldLink RX8 29 "DogBoardModel" "way" "[I", Cond.methodLink RX8 59 yX8_street, Cond.static yX8_street, Cond.code yX8_street cX8_street 4 (some .int), Cond.methodLink RX8 97 yX8_helps, Cond.instanceMethod yX8_helps, Cond.selects RX8 yX8_helps yX8_helps, Cond.code yX8_helps cX8_helps 8 (some .int), Cond.methodLink RX8 74 yX8_ofSight]
def wsX8_turnOf_r3 : List Cond := [Cond.static yX8_ofSight, Cond.code yX8_ofSight cX8_ofSight 3 (some .int), Cond.methodLink RX8 88 yX8_isFraud, Cond.instanceMethod yX8_isFraud, Cond.selects RX8 yX8_isFraud yX8_isFraud, Cond.code yX8_isFraud cX8_isFraud 7 (some .boolean), Cond.methodLink RX8 81 yX8_isTrue, Cond.instanceMethod yX8_isTrue, Cond.selects RX8 yX8_isTrue yX8_isTrue, Cond.code yX8_isTrue cX8_isTrue 4 (some .boolean), Cond.methodLink RX8 77 yX8_reaches, Cond.instanceMethod yX8_reaches, Cond.selects RX8 yX8_reaches yX8_reaches, Cond.code yX8_reaches cX8_reaches 5 (some .boolean), Cond.methodLink RX8 84 yX8_fits, Cond.instanceMethod yX8_fits, Cond.selects RX8 yX8_fits yX8_fits, Cond.code yX8_fits cX8_fits 5 (some .boolean), Cond.methodLink RX8 101 yX8_settle, Cond.instanceMethod yX8_settle, Cond.selects RX8 yX8_settle yX8_settle, Cond.code yX8_settle cX8_settle 4 none, Cond.methodLink RX8 208 yX8_isCorner, Cond.static yX8_isCorner]
def wsX8_turnOf_r4 : List Cond := [Cond.code yX8_isCorner cX8_isCorner 1 (some .boolean), Cond.constantLong RX8 51 (11), Cond.methodLink RX8 157 yX8_closeOn, Cond.static yX8_closeOn, Cond.code yX8_closeOn cX8_closeOn 4 (some .int), Cond.methodLink RX8 105 yX8_closedMany, Cond.static yX8_closedMany, Cond.code yX8_closedMany cX8_closedMany 3 (some .int), Cond.methodLink RX8 174 yX8_hoursOn, Cond.static yX8_hoursOn, Cond.code yX8_hoursOn cX8_hoursOn 5 (some .int)]
def wsX8_turnOf : List Cond := .code yX8_turnOf cX8_turnOf 6 none :: ((wsX8_turnOf_r1 ++ (wsX8_turnOf_r2 ++ (wsX8_turnOf_r3 ++ wsX8_turnOf_r4))) ++ wsX80)
def wsX8_simulate_r1 : List Cond := [Cond.constantLong RX8 246 (60), Cond.fieldLink RX8 13 "DogBoardModel" "now" "[I", Cond.fieldLink RX8 16 "DogBoardModel" "trial" "[I", Cond.constantLong RX8 248 (6364136223846793005), Cond.constantLong RX8 250 (1442695040888963407), Cond.methodLink RX8 43 yX8_in, Cond.static yX8_in, Cond.initialized RX8, Cond.code yX8_in cX8_in 6 (some .boolean), Cond.methodLink RX8 114 yX8_refused, Cond.instanceMethod yX8_refused, Cond.selects RX8 yX8_refused yX8_refused, Cond.code yX8_refused cX8_refused 2 (some .boolean), Cond.fieldLink RX8 39 "DogBoardModel" "refusal" "I", Cond.methodLink RX8 184 yX8_copyState, Cond.static yX8_copyState, Cond.code yX8_copyState cX8_copyState 5 none, Cond.methodLink RX8 252 yX8_turnOf, Cond.instanceMethod yX8_turnOf, Cond.selects RX8 yX8_turnOf yX8_turnOf, Cond.code yX8_turnOf cX8_turnOf 6 none, Cond.constant RX8 244 (32768), Cond.constant RX8 245 (262144), Cond.methodLink RX8 133 yX8_loseOn]
def wsX8_simulate_r2 : List Cond := [Cond.static yX8_loseOn, Cond.code yX8_loseOn cX8_loseOn 7 (some .int), Cond.methodLink RX8 147 yX8_sightOn, Cond.static yX8_sightOn, Cond.code yX8_sightOn cX8_sightOn 7 (some .int), Cond.methodLink RX8 91 yX8_means, Cond.static yX8_means, Cond.code yX8_means cX8_means 6 (some .int), Cond.methodLink RX8 67 yX8_isMissing, Cond.static yX8_isMissing, Cond.code yX8_isMissing cX8_isMissing 2 (some .boolean), Cond.methodLink RX8 47 yX8_ofDog, Cond.static yX8_ofDog, Cond.code yX8_ofDog cX8_ofDog 3 (some .int), Cond.methodLink RX8 71 yX8_unlike, Cond.static yX8_unlike, Cond.code yX8_unlike cX8_unlike 3 (some .int), Cond.methodLink RX8 63 yX8_bits, Cond.static yX8_bits, Cond.code yX8_bits cX8_bits 3 (some .int), Cond.methodLink RX8 151 yX8_isDog, Cond.static yX8_isDog, Cond.code yX8_isDog cX8_isDog 2 (some .boolean), Cond.methodLink RX8 154 yX8_findOn]
def wsX8_simulate_r3 : List Cond := [Cond.instanceMethod yX8_findOn, Cond.selects RX8 yX8_findOn yX8_findOn, Cond.code yX8_findOn cX8_findOn 10 (some .int), Cond.fieldLink RX8 32 "DogBoardModel" "help" "[I", Cond.methodLink RX8 94 yX8_measure, Cond.instanceMethod yX8_measure, Cond.selects RX8 yX8_measure yX8_measure, Cond.code yX8_measure cX8_measure 5 none, Cond.fieldLink RX8 29 "DogBoardModel" "way" "[I", Cond.methodLink RX8 59 yX8_street, Cond.static yX8_street, Cond.code yX8_street cX8_street 4 (some .int), Cond.methodLink RX8 97 yX8_helps, Cond.instanceMethod yX8_helps, Cond.selects RX8 yX8_helps yX8_helps, Cond.code yX8_helps cX8_helps 8 (some .int), Cond.methodLink RX8 74 yX8_ofSight, Cond.static yX8_ofSight, Cond.code yX8_ofSight cX8_ofSight 3 (some .int), Cond.methodLink RX8 88 yX8_isFraud, Cond.instanceMethod yX8_isFraud, Cond.selects RX8 yX8_isFraud yX8_isFraud, Cond.code yX8_isFraud cX8_isFraud 7 (some .boolean), Cond.methodLink RX8 81 yX8_isTrue]
def wsX8_simulate_r4 : List Cond := [Cond.instanceMethod yX8_isTrue, Cond.selects RX8 yX8_isTrue yX8_isTrue, Cond.code yX8_isTrue cX8_isTrue 4 (some .boolean), Cond.methodLink RX8 77 yX8_reaches, Cond.instanceMethod yX8_reaches, Cond.selects RX8 yX8_reaches yX8_reaches, Cond.code yX8_reaches cX8_reaches 5 (some .boolean), Cond.methodLink RX8 84 yX8_fits, Cond.instanceMethod yX8_fits, Cond.selects RX8 yX8_fits yX8_fits, Cond.code yX8_fits cX8_fits 5 (some .boolean), Cond.methodLink RX8 101 yX8_settle, Cond.instanceMethod yX8_settle, Cond.selects RX8 yX8_settle yX8_settle, Cond.code yX8_settle cX8_settle 4 none, Cond.methodLink RX8 208 yX8_isCorner, Cond.static yX8_isCorner, Cond.code yX8_isCorner cX8_isCorner 1 (some .boolean), Cond.constantLong RX8 51 (11), Cond.methodLink RX8 157 yX8_closeOn, Cond.static yX8_closeOn, Cond.code yX8_closeOn cX8_closeOn 4 (some .int), Cond.methodLink RX8 105 yX8_closedMany, Cond.static yX8_closedMany]
def wsX8_simulate_r5 : List Cond := [Cond.code yX8_closedMany cX8_closedMany 3 (some .int), Cond.methodLink RX8 174 yX8_hoursOn, Cond.static yX8_hoursOn, Cond.code yX8_hoursOn cX8_hoursOn 5 (some .int), Cond.methodLink RX8 234 yX8_fraudsNow, Cond.instanceMethod yX8_fraudsNow, Cond.selects RX8 yX8_fraudsNow yX8_fraudsNow, Cond.code yX8_fraudsNow cX8_fraudsNow 1 (some .int), Cond.methodLink RX8 199 yX8_frauds, Cond.instanceMethod yX8_frauds, Cond.selects RX8 yX8_frauds yX8_frauds, Cond.code yX8_frauds cX8_frauds 4 (some .int), Cond.methodLink RX8 193 yX8_missing, Cond.static yX8_missing, Cond.code yX8_missing cX8_missing 3 (some .int)]
def wsX8_simulate : List Cond := .code yX8_simulate cX8_simulate 8 (some .int) :: ((wsX8_simulate_r1 ++ (wsX8_simulate_r2 ++ (wsX8_simulate_r3 ++ (wsX8_simulate_r4 ++ wsX8_simulate_r5)))) ++ wsX80)
def wsX8_save : List Cond := .code yX8_save cX8_save 2 (some .int) :: ([.fieldLink RX8 13 "DogBoardModel" "now" "[I", .fieldLink RX8 22 "DogBoardModel" "kept" "[I", .fieldLink RX8 25 "DogBoardModel" "isKept" "[Z", .methodLink RX8 43 yX8_in, .static yX8_in, .initialized RX8, .code yX8_in cX8_in 6 (some .boolean), .methodLink RX8 114 yX8_refused, .instanceMethod yX8_refused, .selects RX8 yX8_refused yX8_refused, .code yX8_refused cX8_refused 2 (some .boolean), .fieldLink RX8 39 "DogBoardModel" "refusal" "I", .methodLink RX8 184 yX8_copyState, .static yX8_copyState, .code yX8_copyState cX8_copyState 5 none] ++ wsX80)
def wsX8_restore : List Cond := .code yX8_restore cX8_restore 2 (some .int) :: ([.fieldLink RX8 25 "DogBoardModel" "isKept" "[Z", .fieldLink RX8 22 "DogBoardModel" "kept" "[I", .fieldLink RX8 13 "DogBoardModel" "now" "[I", .fieldLink RX8 188 "DogBoardModel" "acts" "I", .methodLink RX8 43 yX8_in, .static yX8_in, .initialized RX8, .code yX8_in cX8_in 6 (some .boolean), .methodLink RX8 114 yX8_refused, .instanceMethod yX8_refused, .selects RX8 yX8_refused yX8_refused, .code yX8_refused cX8_refused 2 (some .boolean), .fieldLink RX8 39 "DogBoardModel" "refusal" "I", .methodLink RX8 184 yX8_copyState, .static yX8_copyState, .code yX8_copyState cX8_copyState 5 none] ++ wsX80)
def wsJ9_abs_0f7a4 : List Cond := .code yJ9_abs_0f7a4 cJ9_abs_0f7a4 1 (some .int) :: ([])
def wsJ9_max_7cf53 : List Cond := .code yJ9_max_7cf53 cJ9_max_7cf53 2 (some .int) :: ([])
def wsJ9_min_7cf53 : List Cond := .code yJ9_min_7cf53 cJ9_min_7cf53 2 (some .int) :: ([])
def wsL_append_r1 : List Cond := [Cond.classLink RL 13 "java/lang/IllegalArgumentException", Cond.classLink RL 15 "java/lang/IllegalStateException", Cond.methodLink RL 7 yX7_append, Cond.instanceMethod yX7_append, Cond.selects RX7 yX7_append yX7_append, Cond.initialized RX7, Cond.code yX7_append cX7_append 2 (some .int), Cond.classLink RX7 48 "java/lang/IllegalArgumentException", Cond.initialized "java/lang/IllegalArgumentException", Cond.classLink RX7 59 "java/lang/IllegalStateException", Cond.initialized "java/lang/IllegalStateException", Cond.fieldLink RX7 37 "DogBoard" "text" "LDogBoard$Text;", Cond.methodLink RX7 44 yX7_isIn, Cond.static yX7_isIn, Cond.code yX7_isIn cX7_isIn 3 (some .boolean), Cond.methodLink RX7 55 yX6_isFull, Cond.instanceMethod yX6_isFull, Cond.selects RX6 yX6_isFull yX6_isFull, Cond.initialized RX6, Cond.code yX6_isFull cX6_isFull 1 (some .boolean), Cond.fieldLink RX6 18 "DogBoard$Text" "length" "I", Cond.fieldLink RX6 9 "DogBoard$Text" "signs" "[I", Cond.methodLink RX7 64 yX6_add, Cond.instanceMethod yX6_add]
def wsL_append_r2 : List Cond := [Cond.selects RX6 yX6_add yX6_add, Cond.code yX6_add cX6_add 2 (some .int)]
def wsL_append : List Cond := .codeWith yL_append cL_append 4 (some .int) [(0, 9, 12, 13), (0, 9, 15, 15)] :: ((wsL_append_r1 ++ wsL_append_r2) ++ wsX70 ++ wsX60 ++ (vx_atS RX7 52 "java/lang/IllegalArgumentException" ["java/lang/RuntimeException", "java/lang/Exception"]).filter goodWord ++ (vx_atS RX7 63 "java/lang/IllegalStateException" ["java/lang/RuntimeException", "java/lang/Exception"]).filter goodWord)
def wsL_load_r1 : List Cond := [Cond.classLink RL 15 "java/lang/IllegalStateException", Cond.methodLink RL 17 yX7_load, Cond.instanceMethod yX7_load, Cond.selects RX7 yX7_load yX7_load, Cond.initialized RX7, Cond.code yX7_load cX7_load 4 (some .int), Cond.classLink RX7 59 "java/lang/IllegalStateException", Cond.initialized "java/lang/IllegalStateException", Cond.fieldLink RX7 37 "DogBoard" "text" "LDogBoard$Text;", Cond.fieldLink RX7 10 "DogBoard" "now" "LDogBoard$Board;", Cond.fieldLink RX7 22 "DogBoard" "history" "LDogBoard$History;", Cond.fieldLink RX7 30 "DogBoard" "filled" "[Z", Cond.methodLink RX7 72 yX6_firstError, Cond.instanceMethod yX6_firstError, Cond.selects RX6 yX6_firstError yX6_firstError, Cond.initialized RX6, Cond.code yX6_firstError cX6_firstError 3 (some .int), Cond.fieldLink RX6 32 "DogBoard$Text" "position" "I", Cond.methodLink RX6 22 yX6_readStart, Cond.instanceMethod yX6_readStart, Cond.selects RX6 yX6_readStart yX6_readStart, Cond.code yX6_readStart cX6_readStart 1 (some .boolean), Cond.methodLink RX6 60 yX6_signHere, Cond.instanceMethod yX6_signHere]
def wsL_load_r2 : List Cond := [Cond.selects RX6 yX6_signHere yX6_signHere, Cond.code yX6_signHere cX6_signHere 2 (some .int), Cond.fieldLink RX6 18 "DogBoard$Text" "length" "I", Cond.fieldLink RX6 9 "DogBoard$Text" "signs" "[I", Cond.methodLink RX6 26 yX6_hasMore, Cond.instanceMethod yX6_hasMore, Cond.selects RX6 yX6_hasMore yX6_hasMore, Cond.code yX6_hasMore cX6_hasMore 1 (some .boolean), Cond.methodLink RX6 29 yX6_readCommand, Cond.instanceMethod yX6_readCommand, Cond.selects RX6 yX6_readCommand yX6_readCommand, Cond.code yX6_readCommand cX6_readCommand 1 (some .boolean), Cond.fieldLink RX6 35 "DogBoard$Text" "letter" "I", Cond.fieldLink RX6 64 "DogBoard$Text" "partCount" "I", Cond.methodLink RX6 67 yX6_readNumber, Cond.instanceMethod yX6_readNumber, Cond.selects RX6 yX6_readNumber yX6_readNumber, Cond.code yX6_readNumber cX6_readNumber 8 (some .boolean), Cond.methodLink RX6 80 yX6_keepPart, Cond.instanceMethod yX6_keepPart, Cond.selects RX6 yX6_keepPart yX6_keepPart, Cond.code yX6_keepPart cX6_keepPart 2 none, Cond.fieldLink RX6 15 "DogBoard$Text" "parts" "[I", Cond.methodLink RX6 71 yX6_readCorner]
def wsL_load_r3 : List Cond := [Cond.instanceMethod yX6_readCorner, Cond.selects RX6 yX6_readCorner yX6_readCorner, Cond.code yX6_readCorner cX6_readCorner 1 (some .boolean), Cond.methodLink RX6 74 yX6_readFinder, Cond.instanceMethod yX6_readFinder, Cond.selects RX6 yX6_readFinder yX6_readFinder, Cond.code yX6_readFinder cX6_readFinder 1 (some .boolean), Cond.methodLink RX6 77 yX6_readPlusOrMinus, Cond.instanceMethod yX6_readPlusOrMinus, Cond.selects RX6 yX6_readPlusOrMinus yX6_readPlusOrMinus, Cond.code yX6_readPlusOrMinus cX6_readPlusOrMinus 2 (some .boolean), Cond.methodLink RX7 41 yX0_makeNew, Cond.instanceMethod yX0_makeNew, Cond.selects RX0 yX0_makeNew yX0_makeNew, Cond.initialized RX0, Cond.code yX0_makeNew cX0_makeNew 1 none, Cond.fieldLink RX0 12 "DogBoard$Board" "quarter" "LDogBoard$Quarter;", Cond.fieldLink RX0 23 "DogBoard$Board" "dogs" "LDogBoard$Rows;", Cond.fieldLink RX0 27 "DogBoard$Board" "sightings" "LDogBoard$Rows;", Cond.fieldLink RX0 30 "DogBoard$Board" "purses" "[I", Cond.fieldLink RX0 49 "DogBoard$Board" "hour" "I", Cond.fieldLink RX0 53 "DogBoard$Board" "paid" "I", Cond.fieldLink RX0 56 "DogBoard$Board" "given" "I", Cond.fieldLink RX0 59 "DogBoard$Board" "stayed" "I"]
def wsL_load_r4 : List Cond := [Cond.fieldLink RX0 62 "DogBoard$Board" "growth" "I", Cond.fieldLink RX0 65 "DogBoard$Board" "mostUnlike" "I", Cond.methodLink RX0 37 yX2_openAll, Cond.instanceMethod yX2_openAll, Cond.selects RX2 yX2_openAll yX2_openAll, Cond.initialized RX2, Cond.code yX2_openAll cX2_openAll 1 none, Cond.fieldLink RX2 18 "DogBoard$Quarter" "closed" "I", Cond.methodLink RX2 22 yX2_measureAll, Cond.instanceMethod yX2_measureAll, Cond.selects RX2 yX2_measureAll yX2_measureAll, Cond.code yX2_measureAll cX2_measureAll 5 none, Cond.fieldLink RX2 9 "DogBoard$Quarter" "ways" "[I", Cond.methodLink RX2 46 yJ7_fill_53178, Cond.static yJ7_fill_53178, Cond.initialized RJ7, Cond.code yJ7_fill_53178 cJ7_fill_53178 4 none, Cond.methodLink RX2 52 yX2_noteWays, Cond.instanceMethod yX2_noteWays, Cond.selects RX2 yX2_noteWays yX2_noteWays, Cond.code yX2_noteWays cX2_noteWays 6 none, Cond.static yX7_hasBit, Cond.code yX7_hasBit cX7_hasBit 2 (some .boolean), Cond.methodLink RX2 56 yX2_besideAnyOf]
def wsL_load_r5 : List Cond := [Cond.instanceMethod yX2_besideAnyOf, Cond.selects RX2 yX2_besideAnyOf yX2_besideAnyOf, Cond.code yX2_besideAnyOf cX2_besideAnyOf 4 (some .int), Cond.fieldLink RX2 43 "DogBoard$Quarter" "ENDS" "[I", Cond.methodLink RX0 40 yX3_empty, Cond.instanceMethod yX3_empty, Cond.selects RX3 yX3_empty yX3_empty, Cond.initialized RX3, Cond.code yX3_empty cX3_empty 1 none, Cond.fieldLink RX3 28 "DogBoard$Rows" "count" "I", Cond.methodLink RX0 43 yJ7_fill_53178, Cond.methodLink RX7 77 yX1_forgetAll, Cond.instanceMethod yX1_forgetAll, Cond.selects RX1 yX1_forgetAll yX1_forgetAll, Cond.initialized RX1, Cond.code yX1_forgetAll cX1_forgetAll 1 none, Cond.fieldLink RX1 22 "DogBoard$History" "oldest" "I", Cond.fieldLink RX1 18 "DogBoard$History" "count" "I", Cond.methodLink RX7 80 yX6_readStart, Cond.methodLink RX7 83 yX6_hasMore, Cond.methodLink RX7 86 yX6_readCommand, Cond.methodLink RX7 89 yX6_doCommand, Cond.instanceMethod yX6_doCommand, Cond.selects RX6 yX6_doCommand yX6_doCommand]
def wsL_load_r6 : List Cond := [Cond.code yX6_doCommand cX6_doCommand 2 (some .int), Cond.methodLink RX6 38 yX0_loseDog, Cond.instanceMethod yX0_loseDog, Cond.selects RX0 yX0_loseDog yX0_loseDog, Cond.code yX0_loseDog cX0_loseDog 6 (some .int), Cond.methodLink RX0 176 yX0_faultOfLosing, Cond.instanceMethod yX0_faultOfLosing, Cond.selects RX0 yX0_faultOfLosing yX0_faultOfLosing, Cond.code yX0_faultOfLosing cX0_faultOfLosing 5 (some .int), Cond.static yX7_isCorner, Cond.code yX7_isCorner cX7_isCorner 1 (some .boolean), Cond.methodLink RX7 44 yX7_isIn, Cond.static yX7_isIn, Cond.code yX7_isIn cX7_isIn 3 (some .boolean), Cond.methodLink RX0 172 yX3_isFull, Cond.instanceMethod yX3_isFull, Cond.selects RX3 yX3_isFull yX3_isFull, Cond.code yX3_isFull cX3_isFull 1 (some .boolean), Cond.fieldLink RX3 9 "DogBoard$Rows" "most" "I", Cond.methodLink RX0 180 yX3_addRow, Cond.instanceMethod yX3_addRow, Cond.selects RX3 yX3_addRow yX3_addRow, Cond.code yX3_addRow cX3_addRow 3 (some .int), Cond.fieldLink RX3 15 "DogBoard$Rows" "width" "I"]
def wsL_load_r7 : List Cond := [Cond.methodLink RX3 31 yX3_isFull, Cond.methodLink RX3 35 yX3_put, Cond.instanceMethod yX3_put, Cond.selects RX3 yX3_put yX3_put, Cond.code yX3_put cX3_put 5 none, Cond.fieldLink RX3 24 "DogBoard$Rows" "cells" "[I", Cond.methodLink RX0 183 yX3_put, Cond.methodLink RX6 44 yX0_tellSighting, Cond.instanceMethod yX0_tellSighting, Cond.selects RX0 yX0_tellSighting yX0_tellSighting, Cond.code yX0_tellSighting cX0_tellSighting 8 (some .int), Cond.methodLink RX0 190 yX0_faultOfTelling, Cond.instanceMethod yX0_faultOfTelling, Cond.selects RX0 yX0_faultOfTelling yX0_faultOfTelling, Cond.code yX0_faultOfTelling cX0_faultOfTelling 5 (some .int), Cond.static yX7_isFinder, Cond.code yX7_isFinder cX7_isFinder 1 (some .boolean), Cond.methodLink RX0 193 yX0_dogMeantBy, Cond.instanceMethod yX0_dogMeantBy, Cond.selects RX0 yX0_dogMeantBy yX0_dogMeantBy, Cond.code yX0_dogMeantBy cX0_dogMeantBy 6 (some .int), Cond.methodLink RX0 87 yX3_count, Cond.instanceMethod yX3_count, Cond.selects RX3 yX3_count yX3_count]
def wsL_load_r8 : List Cond := [Cond.code yX3_count cX3_count 1 (some .int), Cond.methodLink RX0 127 yX0_isMissing, Cond.instanceMethod yX0_isMissing, Cond.selects RX0 yX0_isMissing yX0_isMissing, Cond.code yX0_isMissing cX0_isMissing 2 (some .boolean), Cond.methodLink RX0 112 yX3_get, Cond.instanceMethod yX3_get, Cond.selects RX3 yX3_get yX3_get, Cond.code yX3_get cX3_get 4 (some .int), Cond.methodLink RX0 118 yX0_unlikeMarks, Cond.instanceMethod yX0_unlikeMarks, Cond.selects RX0 yX0_unlikeMarks yX0_unlikeMarks, Cond.code yX0_unlikeMarks cX0_unlikeMarks 3 (some .int), Cond.methodLink RX0 104 yJ6_bitCount_0f7a4, Cond.static yJ6_bitCount_0f7a4, Cond.initialized RJ6, Cond.code yJ6_bitCount_0f7a4 cJ6_bitCount_0f7a4 1 (some .int), Cond.constant RJ6 265 (1431655765), Cond.constant RJ6 266 (858993459), Cond.constant RJ6 267 (252645135), Cond.methodLink RX0 131 yX0_isMeantBefore, Cond.instanceMethod yX0_isMeantBefore, Cond.selects RX0 yX0_isMeantBefore yX0_isMeantBefore, Cond.code yX0_isMeantBefore cX0_isMeantBefore 6 (some .boolean)]
def wsL_load_r9 : List Cond := [Cond.methodLink RX6 48 yX0_findDog, Cond.instanceMethod yX0_findDog, Cond.selects RX0 yX0_findDog yX0_findDog, Cond.code yX0_findDog cX0_findDog 11 (some .int), Cond.methodLink RX0 199 yX0_faultOfFinding, Cond.instanceMethod yX0_faultOfFinding, Cond.selects RX0 yX0_faultOfFinding yX0_faultOfFinding, Cond.code yX0_faultOfFinding cX0_faultOfFinding 4 (some .int), Cond.methodLink RX0 196 yX0_faultOfAsking, Cond.instanceMethod yX0_faultOfAsking, Cond.selects RX0 yX0_faultOfAsking yX0_faultOfAsking, Cond.code yX0_faultOfAsking cX0_faultOfAsking 2 (some .int), Cond.methodLink RX0 151 yX3_has, Cond.instanceMethod yX3_has, Cond.selects RX3 yX3_has yX3_has, Cond.code yX3_has cX3_has 2 (some .boolean), Cond.methodLink RX0 121 yX0_trueFor, Cond.instanceMethod yX0_trueFor, Cond.selects RX0 yX0_trueFor yX0_trueFor, Cond.code yX0_trueFor cX0_trueFor 2 (some .int), Cond.methodLink RX0 135 yX0_trueNowFor, Cond.instanceMethod yX0_trueNowFor, Cond.selects RX0 yX0_trueNowFor yX0_trueNowFor, Cond.code yX0_trueNowFor cX0_trueNowFor 7 (some .int)]
def wsL_load_r10 : List Cond := [Cond.methodLink RX0 138 yX2_isWithin, Cond.instanceMethod yX2_isWithin, Cond.selects RX2 yX2_isWithin yX2_isWithin, Cond.code yX2_isWithin cX2_isWithin 5 (some .boolean), Cond.methodLink RX0 124 yX0_fraudsFor, Cond.instanceMethod yX0_fraudsFor, Cond.selects RX0 yX0_fraudsFor yX0_fraudsFor, Cond.code yX0_fraudsFor cX0_fraudsFor 7 (some .int), Cond.methodLink RX0 100 yX0_sightingsMeaning, Cond.instanceMethod yX0_sightingsMeaning, Cond.selects RX0 yX0_sightingsMeaning yX0_sightingsMeaning, Cond.code yX0_sightingsMeaning cX0_sightingsMeaning 4 (some .int), Cond.methodLink RX0 145 yX0_fitsOneOf, Cond.instanceMethod yX0_fitsOneOf, Cond.selects RX0 yX0_fitsOneOf yX0_fitsOneOf, Cond.code yX0_fitsOneOf cX0_fitsOneOf 6 (some .boolean), Cond.methodLink RX0 148 Lib.Math.abs.name, Cond.static Lib.Math.abs.name, Cond.initialized "java/lang/Math", Cond.code Lib.Math.abs.name Lib.Math.abs.code 1 (some .int), Cond.methodLink RX0 203 yX0_coinsOf, Cond.instanceMethod yX0_coinsOf, Cond.selects RX0 yX0_coinsOf yX0_coinsOf, Cond.code yX0_coinsOf cX0_coinsOf 2 (some .int)]
def wsL_load_r11 : List Cond := [Cond.methodLink RX0 206 yX0_shareBy, Cond.instanceMethod yX0_shareBy, Cond.selects RX0 yX0_shareBy yX0_shareBy, Cond.code yX0_shareBy cX0_shareBy 10 (some .int), Cond.methodLink RX0 210 yX0_helpOf, Cond.instanceMethod yX0_helpOf, Cond.selects RX0 yX0_helpOf yX0_helpOf, Cond.code yX0_helpOf cX0_helpOf 4 (some .int), Cond.methodLink RX6 52 yX0_closeStreet, Cond.instanceMethod yX0_closeStreet, Cond.selects RX0 yX0_closeStreet yX0_closeStreet, Cond.code yX0_closeStreet cX0_closeStreet 4 (some .int), Cond.methodLink RX0 216 yX0_faultOfClosing, Cond.instanceMethod yX0_faultOfClosing, Cond.selects RX0 yX0_faultOfClosing yX0_faultOfClosing, Cond.code yX0_faultOfClosing cX0_faultOfClosing 3 (some .int), Cond.methodLink RX0 213 yX2_streetBetween, Cond.static yX2_streetBetween, Cond.code yX2_streetBetween cX2_streetBetween 3 (some .int), Cond.methodLink RX0 219 yX2_setClosed, Cond.instanceMethod yX2_setClosed, Cond.selects RX2 yX2_setClosed yX2_setClosed, Cond.code yX2_setClosed cX2_setClosed 4 none, Cond.methodLink RX0 109 yX2_closedStreets]
def wsL_load_r12 : List Cond := [Cond.instanceMethod yX2_closedStreets, Cond.selects RX2 yX2_closedStreets yX2_closedStreets, Cond.code yX2_closedStreets cX2_closedStreets 1 (some .int), Cond.methodLink RX2 37 yJ6_bitCount_0f7a4, Cond.methodLink RX6 56 yX0_passHours, Cond.instanceMethod yX0_passHours, Cond.selects RX0 yX0_passHours yX0_passHours, Cond.code yX0_passHours cX0_passHours 7 (some .int), Cond.methodLink RX0 223 yX0_faultOfPassing, Cond.instanceMethod yX0_faultOfPassing, Cond.selects RX0 yX0_faultOfPassing yX0_faultOfPassing, Cond.code yX0_faultOfPassing cX0_faultOfPassing 2 (some .int)]
def wsL_load : List Cond := .codeWith yL_load cL_load 3 (some .int) [(0, 8, 11, 15)] :: ((wsL_load_r1 ++ (wsL_load_r2 ++ (wsL_load_r3 ++ (wsL_load_r4 ++ (wsL_load_r5 ++ (wsL_load_r6 ++ (wsL_load_r7 ++ (wsL_load_r8 ++ (wsL_load_r9 ++ (wsL_load_r10 ++ (wsL_load_r11 ++ wsL_load_r12))))))))))) ++ wsX70 ++ wsX60 ++ wsX00 ++ wsX20 ++ wsX30 ++ wsX10 ++ (vx_atS RX7 63 "java/lang/IllegalStateException" ["java/lang/RuntimeException", "java/lang/Exception"]).filter goodWord)
def wsL_about_r1 : List Cond := [Cond.classLink RL 13 "java/lang/IllegalArgumentException", Cond.methodLink RL 21 yX7_about, Cond.instanceMethod yX7_about, Cond.selects RX7 yX7_about yX7_about, Cond.initialized RX7, Cond.code yX7_about cX7_about 2 (some .int), Cond.classLink RX7 48 "java/lang/IllegalArgumentException", Cond.initialized "java/lang/IllegalArgumentException", Cond.fieldLink RX7 10 "DogBoard" "now" "LDogBoard$Board;", Cond.methodLink RX7 44 yX7_isIn, Cond.static yX7_isIn, Cond.code yX7_isIn cX7_isIn 3 (some .boolean), Cond.methodLink RX7 95 yX0_numberOfBoard, Cond.instanceMethod yX0_numberOfBoard, Cond.selects RX0 yX0_numberOfBoard yX0_numberOfBoard, Cond.initialized RX0, Cond.code yX0_numberOfBoard cX0_numberOfBoard 2 (some .int), Cond.fieldLink RX0 23 "DogBoard$Board" "dogs" "LDogBoard$Rows;", Cond.fieldLink RX0 27 "DogBoard$Board" "sightings" "LDogBoard$Rows;", Cond.fieldLink RX0 49 "DogBoard$Board" "hour" "I", Cond.fieldLink RX0 53 "DogBoard$Board" "paid" "I", Cond.fieldLink RX0 56 "DogBoard$Board" "given" "I", Cond.fieldLink RX0 59 "DogBoard$Board" "stayed" "I", Cond.fieldLink RX0 12 "DogBoard$Board" "quarter" "LDogBoard$Quarter;"]
def wsL_about_r2 : List Cond := [Cond.methodLink RX0 87 yX3_count, Cond.instanceMethod yX3_count, Cond.selects RX3 yX3_count yX3_count, Cond.initialized RX3, Cond.code yX3_count cX3_count 1 (some .int), Cond.fieldLink RX3 28 "DogBoard$Rows" "count" "I", Cond.methodLink RX0 91 yX0_missingDogs, Cond.instanceMethod yX0_missingDogs, Cond.selects RX0 yX0_missingDogs yX0_missingDogs, Cond.code yX0_missingDogs cX0_missingDogs 3 (some .int), Cond.methodLink RX0 112 yX3_get, Cond.instanceMethod yX3_get, Cond.selects RX3 yX3_get yX3_get, Cond.code yX3_get cX3_get 4 (some .int), Cond.fieldLink RX3 15 "DogBoard$Rows" "width" "I", Cond.fieldLink RX3 24 "DogBoard$Rows" "cells" "[I", Cond.methodLink RX0 94 yX0_missingRewards, Cond.instanceMethod yX0_missingRewards, Cond.selects RX0 yX0_missingRewards yX0_missingRewards, Cond.code yX0_missingRewards cX0_missingRewards 3 (some .int), Cond.methodLink RX0 127 yX0_isMissing, Cond.instanceMethod yX0_isMissing, Cond.selects RX0 yX0_isMissing yX0_isMissing, Cond.code yX0_isMissing cX0_isMissing 2 (some .boolean)]
def wsL_about_r3 : List Cond := [Cond.methodLink RX0 97 yX0_fraudsInAll, Cond.instanceMethod yX0_fraudsInAll, Cond.selects RX0 yX0_fraudsInAll yX0_fraudsInAll, Cond.code yX0_fraudsInAll cX0_fraudsInAll 3 (some .int), Cond.methodLink RX0 124 yX0_fraudsFor, Cond.instanceMethod yX0_fraudsFor, Cond.selects RX0 yX0_fraudsFor yX0_fraudsFor, Cond.code yX0_fraudsFor cX0_fraudsFor 7 (some .int), Cond.methodLink RX0 135 yX0_trueNowFor, Cond.instanceMethod yX0_trueNowFor, Cond.selects RX0 yX0_trueNowFor yX0_trueNowFor, Cond.code yX0_trueNowFor cX0_trueNowFor 7 (some .int), Cond.methodLink RX0 138 yX2_isWithin, Cond.instanceMethod yX2_isWithin, Cond.selects RX2 yX2_isWithin yX2_isWithin, Cond.initialized RX2, Cond.code yX2_isWithin cX2_isWithin 5 (some .boolean), Cond.fieldLink RX2 9 "DogBoard$Quarter" "ways" "[I", Cond.methodLink RX0 100 yX0_sightingsMeaning, Cond.instanceMethod yX0_sightingsMeaning, Cond.selects RX0 yX0_sightingsMeaning yX0_sightingsMeaning, Cond.code yX0_sightingsMeaning cX0_sightingsMeaning 4 (some .int), Cond.static yX7_hasBit, Cond.code yX7_hasBit cX7_hasBit 2 (some .boolean)]
def wsL_about_r4 : List Cond := [Cond.methodLink RX0 145 yX0_fitsOneOf, Cond.instanceMethod yX0_fitsOneOf, Cond.selects RX0 yX0_fitsOneOf yX0_fitsOneOf, Cond.code yX0_fitsOneOf cX0_fitsOneOf 6 (some .boolean), Cond.methodLink RX0 148 Lib.Math.abs.name, Cond.static Lib.Math.abs.name, Cond.initialized "java/lang/Math", Cond.code Lib.Math.abs.name Lib.Math.abs.code 1 (some .int), Cond.methodLink RX0 104 yJ6_bitCount_0f7a4, Cond.static yJ6_bitCount_0f7a4, Cond.initialized RJ6, Cond.code yJ6_bitCount_0f7a4 cJ6_bitCount_0f7a4 1 (some .int), Cond.constant RJ6 265 (1431655765), Cond.constant RJ6 266 (858993459), Cond.constant RJ6 267 (252645135), Cond.methodLink RX0 109 yX2_closedStreets, Cond.instanceMethod yX2_closedStreets, Cond.selects RX2 yX2_closedStreets yX2_closedStreets, Cond.code yX2_closedStreets cX2_closedStreets 1 (some .int), Cond.fieldLink RX2 18 "DogBoard$Quarter" "closed" "I", Cond.methodLink RX2 37 yJ6_bitCount_0f7a4]
def wsL_about : List Cond := .codeWith yL_about cL_about 4 (some .int) [(0, 9, 12, 13)] :: ((wsL_about_r1 ++ (wsL_about_r2 ++ (wsL_about_r3 ++ wsL_about_r4))) ++ wsX70 ++ wsX00 ++ wsX30 ++ wsX20 ++ (vx_atS RX7 52 "java/lang/IllegalArgumentException" ["java/lang/RuntimeException", "java/lang/Exception"]).filter goodWord)
def wsL_dogOf_r1 : List Cond := [Cond.classLink RL 28 "java/lang/IndexOutOfBoundsException", Cond.classLink RL 13 "java/lang/IllegalArgumentException", Cond.methodLink RL 24 yX7_dogOf, Cond.instanceMethod yX7_dogOf, Cond.selects RX7 yX7_dogOf yX7_dogOf, Cond.initialized RX7, Cond.code yX7_dogOf cX7_dogOf 3 (some .int), Cond.classLink RX7 108 "java/lang/IndexOutOfBoundsException", Cond.initialized "java/lang/IndexOutOfBoundsException", Cond.classLink RX7 48 "java/lang/IllegalArgumentException", Cond.initialized "java/lang/IllegalArgumentException", Cond.fieldLink RX7 10 "DogBoard" "now" "LDogBoard$Board;", Cond.methodLink RX7 102 yX3_has, Cond.instanceMethod yX3_has, Cond.selects RX3 yX3_has yX3_has, Cond.initialized RX3, Cond.code yX3_has cX3_has 2 (some .boolean), Cond.fieldLink RX3 28 "DogBoard$Rows" "count" "I", Cond.methodLink RX7 44 yX7_isIn, Cond.static yX7_isIn, Cond.code yX7_isIn cX7_isIn 3 (some .boolean), Cond.methodLink RX7 115 yX0_numberOfDog, Cond.instanceMethod yX0_numberOfDog, Cond.selects RX0 yX0_numberOfDog yX0_numberOfDog]
def wsL_dogOf_r2 : List Cond := [Cond.initialized RX0, Cond.code yX0_numberOfDog cX0_numberOfDog 3 (some .int), Cond.fieldLink RX0 23 "DogBoard$Board" "dogs" "LDogBoard$Rows;", Cond.methodLink RX0 112 yX3_get, Cond.instanceMethod yX3_get, Cond.selects RX3 yX3_get yX3_get, Cond.code yX3_get cX3_get 4 (some .int), Cond.fieldLink RX3 15 "DogBoard$Rows" "width" "I", Cond.fieldLink RX3 24 "DogBoard$Rows" "cells" "[I", Cond.methodLink RX0 100 yX0_sightingsMeaning, Cond.instanceMethod yX0_sightingsMeaning, Cond.selects RX0 yX0_sightingsMeaning yX0_sightingsMeaning, Cond.code yX0_sightingsMeaning cX0_sightingsMeaning 4 (some .int), Cond.fieldLink RX0 27 "DogBoard$Board" "sightings" "LDogBoard$Rows;", Cond.methodLink RX0 87 yX3_count, Cond.instanceMethod yX3_count, Cond.selects RX3 yX3_count yX3_count, Cond.code yX3_count cX3_count 1 (some .int), Cond.methodLink RX0 104 yJ6_bitCount_0f7a4, Cond.static yJ6_bitCount_0f7a4, Cond.initialized RJ6, Cond.code yJ6_bitCount_0f7a4 cJ6_bitCount_0f7a4 1 (some .int), Cond.constant RJ6 265 (1431655765), Cond.constant RJ6 266 (858993459)]
def wsL_dogOf_r3 : List Cond := [Cond.constant RJ6 267 (252645135), Cond.methodLink RX0 115 yX0_honestFor, Cond.instanceMethod yX0_honestFor, Cond.selects RX0 yX0_honestFor yX0_honestFor, Cond.code yX0_honestFor cX0_honestFor 2 (some .int), Cond.methodLink RX0 124 yX0_fraudsFor, Cond.instanceMethod yX0_fraudsFor, Cond.selects RX0 yX0_fraudsFor yX0_fraudsFor, Cond.code yX0_fraudsFor cX0_fraudsFor 7 (some .int), Cond.methodLink RX0 127 yX0_isMissing, Cond.instanceMethod yX0_isMissing, Cond.selects RX0 yX0_isMissing yX0_isMissing, Cond.code yX0_isMissing cX0_isMissing 2 (some .boolean), Cond.methodLink RX0 135 yX0_trueNowFor, Cond.instanceMethod yX0_trueNowFor, Cond.selects RX0 yX0_trueNowFor yX0_trueNowFor, Cond.code yX0_trueNowFor cX0_trueNowFor 7 (some .int), Cond.fieldLink RX0 12 "DogBoard$Board" "quarter" "LDogBoard$Quarter;", Cond.methodLink RX0 138 yX2_isWithin, Cond.instanceMethod yX2_isWithin, Cond.selects RX2 yX2_isWithin yX2_isWithin, Cond.initialized RX2, Cond.code yX2_isWithin cX2_isWithin 5 (some .boolean), Cond.fieldLink RX2 9 "DogBoard$Quarter" "ways" "[I"]
def wsL_dogOf_r4 : List Cond := [Cond.static yX7_hasBit, Cond.code yX7_hasBit cX7_hasBit 2 (some .boolean), Cond.methodLink RX0 145 yX0_fitsOneOf, Cond.instanceMethod yX0_fitsOneOf, Cond.selects RX0 yX0_fitsOneOf yX0_fitsOneOf, Cond.code yX0_fitsOneOf cX0_fitsOneOf 6 (some .boolean), Cond.methodLink RX0 148 Lib.Math.abs.name, Cond.static Lib.Math.abs.name, Cond.initialized "java/lang/Math", Cond.code Lib.Math.abs.name Lib.Math.abs.code 1 (some .int)]
def wsL_dogOf : List Cond := .codeWith yL_dogOf cL_dogOf 5 (some .int) [(0, 10, 13, 28), (0, 10, 17, 13)] :: ((wsL_dogOf_r1 ++ (wsL_dogOf_r2 ++ (wsL_dogOf_r3 ++ wsL_dogOf_r4))) ++ wsX70 ++ wsX00 ++ wsX30 ++ wsX20 ++ (vx_atS RX7 112 "java/lang/IndexOutOfBoundsException" ["java/lang/RuntimeException", "java/lang/Exception"]).filter goodWord ++ (vx_atS RX7 52 "java/lang/IllegalArgumentException" ["java/lang/RuntimeException", "java/lang/Exception"]).filter goodWord)
def wsL_sightingOf_r1 : List Cond := [Cond.classLink RL 28 "java/lang/IndexOutOfBoundsException", Cond.classLink RL 13 "java/lang/IllegalArgumentException", Cond.methodLink RL 30 yX7_sightingOf, Cond.instanceMethod yX7_sightingOf, Cond.selects RX7 yX7_sightingOf yX7_sightingOf, Cond.initialized RX7, Cond.code yX7_sightingOf cX7_sightingOf 3 (some .int), Cond.classLink RX7 108 "java/lang/IndexOutOfBoundsException", Cond.initialized "java/lang/IndexOutOfBoundsException", Cond.classLink RX7 48 "java/lang/IllegalArgumentException", Cond.initialized "java/lang/IllegalArgumentException", Cond.fieldLink RX7 10 "DogBoard" "now" "LDogBoard$Board;", Cond.methodLink RX7 102 yX3_has, Cond.instanceMethod yX3_has, Cond.selects RX3 yX3_has yX3_has, Cond.initialized RX3, Cond.code yX3_has cX3_has 2 (some .boolean), Cond.fieldLink RX3 28 "DogBoard$Rows" "count" "I", Cond.methodLink RX7 44 yX7_isIn, Cond.static yX7_isIn, Cond.code yX7_isIn cX7_isIn 3 (some .boolean), Cond.methodLink RX7 126 yX0_numberOfSighting, Cond.instanceMethod yX0_numberOfSighting, Cond.selects RX0 yX0_numberOfSighting yX0_numberOfSighting]
def wsL_sightingOf_r2 : List Cond := [Cond.initialized RX0, Cond.code yX0_numberOfSighting cX0_numberOfSighting 4 (some .int), Cond.fieldLink RX0 27 "DogBoard$Board" "sightings" "LDogBoard$Rows;", Cond.methodLink RX0 112 yX3_get, Cond.instanceMethod yX3_get, Cond.selects RX3 yX3_get yX3_get, Cond.code yX3_get cX3_get 4 (some .int), Cond.fieldLink RX3 15 "DogBoard$Rows" "width" "I", Cond.fieldLink RX3 24 "DogBoard$Rows" "cells" "[I", Cond.methodLink RX0 118 yX0_unlikeMarks, Cond.instanceMethod yX0_unlikeMarks, Cond.selects RX0 yX0_unlikeMarks yX0_unlikeMarks, Cond.code yX0_unlikeMarks cX0_unlikeMarks 3 (some .int), Cond.fieldLink RX0 23 "DogBoard$Board" "dogs" "LDogBoard$Rows;", Cond.methodLink RX0 104 yJ6_bitCount_0f7a4, Cond.static yJ6_bitCount_0f7a4, Cond.initialized RJ6, Cond.code yJ6_bitCount_0f7a4 cJ6_bitCount_0f7a4 1 (some .int), Cond.constant RJ6 265 (1431655765), Cond.constant RJ6 266 (858993459), Cond.constant RJ6 267 (252645135), Cond.methodLink RX0 121 yX0_trueFor, Cond.instanceMethod yX0_trueFor, Cond.selects RX0 yX0_trueFor yX0_trueFor]
def wsL_sightingOf_r3 : List Cond := [Cond.code yX0_trueFor cX0_trueFor 2 (some .int), Cond.methodLink RX0 127 yX0_isMissing, Cond.instanceMethod yX0_isMissing, Cond.selects RX0 yX0_isMissing yX0_isMissing, Cond.code yX0_isMissing cX0_isMissing 2 (some .boolean), Cond.methodLink RX0 135 yX0_trueNowFor, Cond.instanceMethod yX0_trueNowFor, Cond.selects RX0 yX0_trueNowFor yX0_trueNowFor, Cond.code yX0_trueNowFor cX0_trueNowFor 7 (some .int), Cond.fieldLink RX0 12 "DogBoard$Board" "quarter" "LDogBoard$Quarter;", Cond.methodLink RX0 87 yX3_count, Cond.instanceMethod yX3_count, Cond.selects RX3 yX3_count yX3_count, Cond.code yX3_count cX3_count 1 (some .int), Cond.methodLink RX0 138 yX2_isWithin, Cond.instanceMethod yX2_isWithin, Cond.selects RX2 yX2_isWithin yX2_isWithin, Cond.initialized RX2, Cond.code yX2_isWithin cX2_isWithin 5 (some .boolean), Cond.fieldLink RX2 9 "DogBoard$Quarter" "ways" "[I", Cond.methodLink RX0 124 yX0_fraudsFor, Cond.instanceMethod yX0_fraudsFor, Cond.selects RX0 yX0_fraudsFor yX0_fraudsFor, Cond.code yX0_fraudsFor cX0_fraudsFor 7 (some .int)]
def wsL_sightingOf_r4 : List Cond := [Cond.methodLink RX0 100 yX0_sightingsMeaning, Cond.instanceMethod yX0_sightingsMeaning, Cond.selects RX0 yX0_sightingsMeaning yX0_sightingsMeaning, Cond.code yX0_sightingsMeaning cX0_sightingsMeaning 4 (some .int), Cond.static yX7_hasBit, Cond.code yX7_hasBit cX7_hasBit 2 (some .boolean), Cond.methodLink RX0 145 yX0_fitsOneOf, Cond.instanceMethod yX0_fitsOneOf, Cond.selects RX0 yX0_fitsOneOf yX0_fitsOneOf, Cond.code yX0_fitsOneOf cX0_fitsOneOf 6 (some .boolean), Cond.methodLink RX0 148 Lib.Math.abs.name, Cond.static Lib.Math.abs.name, Cond.initialized "java/lang/Math", Cond.code Lib.Math.abs.name Lib.Math.abs.code 1 (some .int)]
def wsL_sightingOf : List Cond := .codeWith yL_sightingOf cL_sightingOf 5 (some .int) [(0, 10, 13, 28), (0, 10, 17, 13)] :: ((wsL_sightingOf_r1 ++ (wsL_sightingOf_r2 ++ (wsL_sightingOf_r3 ++ wsL_sightingOf_r4))) ++ wsX70 ++ wsX00 ++ wsX30 ++ wsX20 ++ (vx_atS RX7 112 "java/lang/IndexOutOfBoundsException" ["java/lang/RuntimeException", "java/lang/Exception"]).filter goodWord ++ (vx_atS RX7 52 "java/lang/IllegalArgumentException" ["java/lang/RuntimeException", "java/lang/Exception"]).filter goodWord)
def wsL_purse : List Cond := .codeWith yL_purse cL_purse 4 (some .int) [(0, 9, 12, 28)] :: ([.classLink RL 28 "java/lang/IndexOutOfBoundsException", .methodLink RL 33 yX7_purse, .instanceMethod yX7_purse, .selects RX7 yX7_purse yX7_purse, .initialized RX7, .code yX7_purse cX7_purse 2 (some .int), .classLink RX7 108 "java/lang/IndexOutOfBoundsException", .initialized "java/lang/IndexOutOfBoundsException", .fieldLink RX7 10 "DogBoard" "now" "LDogBoard$Board;", .methodLink RX7 129 yX7_isFinder, .static yX7_isFinder, .code yX7_isFinder cX7_isFinder 1 (some .boolean), .methodLink RX7 44 yX7_isIn, .static yX7_isIn, .code yX7_isIn cX7_isIn 3 (some .boolean), .methodLink RX7 134 yX0_coinsOf, .instanceMethod yX0_coinsOf, .selects RX0 yX0_coinsOf yX0_coinsOf, .initialized RX0, .code yX0_coinsOf cX0_coinsOf 2 (some .int), .fieldLink RX0 30 "DogBoard$Board" "purses" "[I"] ++ wsX70 ++ wsX00 ++ (vx_atS RX7 112 "java/lang/IndexOutOfBoundsException" ["java/lang/RuntimeException", "java/lang/Exception"]).filter goodWord)
def wsL_apart_r1 : List Cond := [Cond.classLink RL 28 "java/lang/IndexOutOfBoundsException", Cond.classLink RL 13 "java/lang/IllegalArgumentException", Cond.methodLink RL 36 yX7_apart, Cond.instanceMethod yX7_apart, Cond.selects RX7 yX7_apart yX7_apart, Cond.initialized RX7, Cond.code yX7_apart cX7_apart 4 (some .int), Cond.classLink RX7 108 "java/lang/IndexOutOfBoundsException", Cond.initialized "java/lang/IndexOutOfBoundsException", Cond.classLink RX7 48 "java/lang/IllegalArgumentException", Cond.initialized "java/lang/IllegalArgumentException", Cond.fieldLink RX7 10 "DogBoard" "now" "LDogBoard$Board;", Cond.methodLink RX7 137 yX7_isCorner, Cond.static yX7_isCorner, Cond.code yX7_isCorner cX7_isCorner 1 (some .boolean), Cond.methodLink RX7 44 yX7_isIn, Cond.static yX7_isIn, Cond.code yX7_isIn cX7_isIn 3 (some .boolean), Cond.methodLink RX7 148 yX2_wayBetween, Cond.instanceMethod yX2_wayBetween, Cond.selects RX2 yX2_wayBetween yX2_wayBetween, Cond.initialized RX2, Cond.code yX2_wayBetween cX2_wayBetween 4 (some .int), Cond.fieldLink RX2 9 "DogBoard$Quarter" "ways" "[I"]
def wsL_apart_r2 : List Cond := [Cond.methodLink RX7 153 yX2_wayBySweeps, Cond.instanceMethod yX2_wayBySweeps, Cond.selects RX2 yX2_wayBySweeps yX2_wayBySweeps, Cond.code yX2_wayBySweeps cX2_wayBySweeps 5 (some .int), Cond.fieldLink RX2 15 "DogBoard$Quarter" "sweep" "[I", Cond.methodLink RX2 46 yJ7_fill_53178, Cond.static yJ7_fill_53178, Cond.initialized RJ7, Cond.code yJ7_fill_53178 cJ7_fill_53178 4 none, Cond.methodLink RX2 63 yX2_sweepOnce, Cond.instanceMethod yX2_sweepOnce, Cond.selects RX2 yX2_sweepOnce yX2_sweepOnce, Cond.code yX2_sweepOnce cX2_sweepOnce 3 (some .boolean), Cond.fieldLink RX2 43 "DogBoard$Quarter" "ENDS" "[I", Cond.fieldLink RX2 18 "DogBoard$Quarter" "closed" "I", Cond.static yX7_hasBit, Cond.code yX7_hasBit cX7_hasBit 2 (some .boolean), Cond.methodLink RX2 67 yX2_shortens, Cond.instanceMethod yX2_shortens, Cond.selects RX2 yX2_shortens yX2_shortens, Cond.code yX2_shortens cX2_shortens 3 (some .boolean)]
def wsL_apart : List Cond := .codeWith yL_apart cL_apart 6 (some .int) [(0, 12, 15, 28), (0, 12, 19, 13)] :: ((wsL_apart_r1 ++ wsL_apart_r2) ++ wsX70 ++ wsX00 ++ wsX20 ++ (vx_atS RX7 112 "java/lang/IndexOutOfBoundsException" ["java/lang/RuntimeException", "java/lang/Exception"]).filter goodWord ++ (vx_atS RX7 52 "java/lang/IllegalArgumentException" ["java/lang/RuntimeException", "java/lang/Exception"]).filter goodWord)
def wsL_lose_r1 : List Cond := [Cond.classLink RL 28 "java/lang/IndexOutOfBoundsException", Cond.classLink RL 13 "java/lang/IllegalArgumentException", Cond.classLink RL 15 "java/lang/IllegalStateException", Cond.methodLink RL 40 yX7_lose, Cond.instanceMethod yX7_lose, Cond.selects RX7 yX7_lose yX7_lose, Cond.initialized RX7, Cond.code yX7_lose cX7_lose 5 (some .int), Cond.fieldLink RX7 10 "DogBoard" "now" "LDogBoard$Board;", Cond.fieldLink RX7 22 "DogBoard" "history" "LDogBoard$History;", Cond.methodLink RX7 156 yX0_faultOfLosing, Cond.instanceMethod yX0_faultOfLosing, Cond.selects RX0 yX0_faultOfLosing yX0_faultOfLosing, Cond.initialized RX0, Cond.code yX0_faultOfLosing cX0_faultOfLosing 5 (some .int), Cond.fieldLink RX0 23 "DogBoard$Board" "dogs" "LDogBoard$Rows;", Cond.static yX7_isCorner, Cond.code yX7_isCorner cX7_isCorner 1 (some .boolean), Cond.methodLink RX7 44 yX7_isIn, Cond.static yX7_isIn, Cond.code yX7_isIn cX7_isIn 3 (some .boolean), Cond.methodLink RX0 172 yX3_isFull, Cond.instanceMethod yX3_isFull, Cond.selects RX3 yX3_isFull yX3_isFull]
def wsL_lose_r2 : List Cond := [Cond.initialized RX3, Cond.code yX3_isFull cX3_isFull 1 (some .boolean), Cond.fieldLink RX3 28 "DogBoard$Rows" "count" "I", Cond.fieldLink RX3 9 "DogBoard$Rows" "most" "I", Cond.methodLink RX7 160 yX7_throwFor, Cond.static yX7_throwFor, Cond.code yX7_throwFor cX7_throwFor 1 none, Cond.classLink RX7 108 "java/lang/IndexOutOfBoundsException", Cond.initialized "java/lang/IndexOutOfBoundsException", Cond.classLink RX7 48 "java/lang/IllegalArgumentException", Cond.initialized "java/lang/IllegalArgumentException", Cond.classLink RX7 59 "java/lang/IllegalStateException", Cond.initialized "java/lang/IllegalStateException", Cond.methodLink RX7 164 yX1_remember, Cond.instanceMethod yX1_remember, Cond.selects RX1 yX1_remember yX1_remember, Cond.initialized RX1, Cond.code yX1_remember cX1_remember 3 none, Cond.fieldLink RX1 18 "DogBoard$History" "count" "I", Cond.fieldLink RX1 22 "DogBoard$History" "oldest" "I", Cond.methodLink RX1 25 yX1_stateAt, Cond.instanceMethod yX1_stateAt, Cond.selects RX1 yX1_stateAt yX1_stateAt, Cond.code yX1_stateAt cX1_stateAt 3 (some (.object "DogBoard$Board"))]
def wsL_lose_r3 : List Cond := [Cond.fieldLink RX1 11 "DogBoard$History" "states" "[LDogBoard$Board;", Cond.methodLink RX1 29 yX0_copyFrom, Cond.instanceMethod yX0_copyFrom, Cond.selects RX0 yX0_copyFrom yX0_copyFrom, Cond.code yX0_copyFrom cX0_copyFrom 2 none, Cond.fieldLink RX0 12 "DogBoard$Board" "quarter" "LDogBoard$Quarter;", Cond.fieldLink RX0 27 "DogBoard$Board" "sightings" "LDogBoard$Rows;", Cond.fieldLink RX0 30 "DogBoard$Board" "purses" "[I", Cond.methodLink RX0 75 Lib.Math.min.name, Cond.static Lib.Math.min.name, Cond.initialized "java/lang/Math", Cond.code Lib.Math.min.name Lib.Math.min.code 2 (some .int), Cond.methodLink RX0 81 arraycopyName, Cond.native arraycopyName, Cond.static arraycopyName, Cond.initialized "java/lang/System", Cond.fieldLink RX0 49 "DogBoard$Board" "hour" "I", Cond.fieldLink RX0 53 "DogBoard$Board" "paid" "I", Cond.fieldLink RX0 56 "DogBoard$Board" "given" "I", Cond.fieldLink RX0 59 "DogBoard$Board" "stayed" "I", Cond.fieldLink RX0 62 "DogBoard$Board" "growth" "I", Cond.fieldLink RX0 65 "DogBoard$Board" "mostUnlike" "I", Cond.methodLink RX0 68 yX2_copyFrom, Cond.instanceMethod yX2_copyFrom]
def wsL_lose_r4 : List Cond := [Cond.selects RX2 yX2_copyFrom yX2_copyFrom, Cond.initialized RX2, Cond.code yX2_copyFrom cX2_copyFrom 2 none, Cond.fieldLink RX2 9 "DogBoard$Quarter" "ways" "[I", Cond.methodLink RX2 25 Lib.Math.min.name, Cond.methodLink RX2 31 arraycopyName, Cond.fieldLink RX2 18 "DogBoard$Quarter" "closed" "I", Cond.methodLink RX0 72 yX3_copyFrom, Cond.instanceMethod yX3_copyFrom, Cond.selects RX3 yX3_copyFrom yX3_copyFrom, Cond.code yX3_copyFrom cX3_copyFrom 2 none, Cond.fieldLink RX3 24 "DogBoard$Rows" "cells" "[I", Cond.methodLink RX3 39 Lib.Math.min.name, Cond.methodLink RX3 42 arraycopyName, Cond.methodLink RX7 168 yX0_loseDog, Cond.instanceMethod yX0_loseDog, Cond.selects RX0 yX0_loseDog yX0_loseDog, Cond.code yX0_loseDog cX0_loseDog 6 (some .int), Cond.methodLink RX0 176 yX0_faultOfLosing, Cond.methodLink RX0 180 yX3_addRow, Cond.instanceMethod yX3_addRow, Cond.selects RX3 yX3_addRow yX3_addRow, Cond.code yX3_addRow cX3_addRow 3 (some .int), Cond.fieldLink RX3 15 "DogBoard$Rows" "width" "I"]
def wsL_lose_r5 : List Cond := [Cond.methodLink RX3 31 yX3_isFull, Cond.methodLink RX3 35 yX3_put, Cond.instanceMethod yX3_put, Cond.selects RX3 yX3_put yX3_put, Cond.code yX3_put cX3_put 5 none, Cond.methodLink RX0 183 yX3_put]
def wsL_lose : List Cond := .codeWith yL_lose cL_lose 7 (some .int) [(0, 14, 17, 28), (0, 14, 21, 13), (0, 14, 25, 15)] :: ((wsL_lose_r1 ++ (wsL_lose_r2 ++ (wsL_lose_r3 ++ (wsL_lose_r4 ++ wsL_lose_r5)))) ++ wsX70 ++ wsX00 ++ wsX30 ++ wsX10 ++ wsX20 ++ (vx_atS RX7 112 "java/lang/IndexOutOfBoundsException" ["java/lang/RuntimeException", "java/lang/Exception"]).filter goodWord ++ (vx_atS RX7 52 "java/lang/IllegalArgumentException" ["java/lang/RuntimeException", "java/lang/Exception"]).filter goodWord ++ (vx_atS RX7 63 "java/lang/IllegalStateException" ["java/lang/RuntimeException", "java/lang/Exception"]).filter goodWord)
def wsL_sight_r1 : List Cond := [Cond.classLink RL 28 "java/lang/IndexOutOfBoundsException", Cond.classLink RL 13 "java/lang/IllegalArgumentException", Cond.classLink RL 15 "java/lang/IllegalStateException", Cond.methodLink RL 44 yX7_sight, Cond.instanceMethod yX7_sight, Cond.selects RX7 yX7_sight yX7_sight, Cond.initialized RX7, Cond.code yX7_sight cX7_sight 6 (some .int), Cond.fieldLink RX7 10 "DogBoard" "now" "LDogBoard$Board;", Cond.fieldLink RX7 22 "DogBoard" "history" "LDogBoard$History;", Cond.methodLink RX7 171 yX0_faultOfTelling, Cond.instanceMethod yX0_faultOfTelling, Cond.selects RX0 yX0_faultOfTelling yX0_faultOfTelling, Cond.initialized RX0, Cond.code yX0_faultOfTelling cX0_faultOfTelling 5 (some .int), Cond.fieldLink RX0 49 "DogBoard$Board" "hour" "I", Cond.fieldLink RX0 27 "DogBoard$Board" "sightings" "LDogBoard$Rows;", Cond.static yX7_isFinder, Cond.code yX7_isFinder cX7_isFinder 1 (some .boolean), Cond.methodLink RX7 44 yX7_isIn, Cond.static yX7_isIn, Cond.code yX7_isIn cX7_isIn 3 (some .boolean), Cond.static yX7_isCorner, Cond.code yX7_isCorner cX7_isCorner 1 (some .boolean)]
def wsL_sight_r2 : List Cond := [Cond.methodLink RX0 172 yX3_isFull, Cond.instanceMethod yX3_isFull, Cond.selects RX3 yX3_isFull yX3_isFull, Cond.initialized RX3, Cond.code yX3_isFull cX3_isFull 1 (some .boolean), Cond.fieldLink RX3 28 "DogBoard$Rows" "count" "I", Cond.fieldLink RX3 9 "DogBoard$Rows" "most" "I", Cond.methodLink RX7 160 yX7_throwFor, Cond.static yX7_throwFor, Cond.code yX7_throwFor cX7_throwFor 1 none, Cond.classLink RX7 108 "java/lang/IndexOutOfBoundsException", Cond.initialized "java/lang/IndexOutOfBoundsException", Cond.classLink RX7 48 "java/lang/IllegalArgumentException", Cond.initialized "java/lang/IllegalArgumentException", Cond.classLink RX7 59 "java/lang/IllegalStateException", Cond.initialized "java/lang/IllegalStateException", Cond.methodLink RX7 164 yX1_remember, Cond.instanceMethod yX1_remember, Cond.selects RX1 yX1_remember yX1_remember, Cond.initialized RX1, Cond.code yX1_remember cX1_remember 3 none, Cond.fieldLink RX1 18 "DogBoard$History" "count" "I", Cond.fieldLink RX1 22 "DogBoard$History" "oldest" "I", Cond.methodLink RX1 25 yX1_stateAt]
def wsL_sight_r3 : List Cond := [Cond.instanceMethod yX1_stateAt, Cond.selects RX1 yX1_stateAt yX1_stateAt, Cond.code yX1_stateAt cX1_stateAt 3 (some (.object "DogBoard$Board")), Cond.fieldLink RX1 11 "DogBoard$History" "states" "[LDogBoard$Board;", Cond.methodLink RX1 29 yX0_copyFrom, Cond.instanceMethod yX0_copyFrom, Cond.selects RX0 yX0_copyFrom yX0_copyFrom, Cond.code yX0_copyFrom cX0_copyFrom 2 none, Cond.fieldLink RX0 12 "DogBoard$Board" "quarter" "LDogBoard$Quarter;", Cond.fieldLink RX0 23 "DogBoard$Board" "dogs" "LDogBoard$Rows;", Cond.fieldLink RX0 30 "DogBoard$Board" "purses" "[I", Cond.methodLink RX0 75 Lib.Math.min.name, Cond.static Lib.Math.min.name, Cond.initialized "java/lang/Math", Cond.code Lib.Math.min.name Lib.Math.min.code 2 (some .int), Cond.methodLink RX0 81 arraycopyName, Cond.native arraycopyName, Cond.static arraycopyName, Cond.initialized "java/lang/System", Cond.fieldLink RX0 53 "DogBoard$Board" "paid" "I", Cond.fieldLink RX0 56 "DogBoard$Board" "given" "I", Cond.fieldLink RX0 59 "DogBoard$Board" "stayed" "I", Cond.fieldLink RX0 62 "DogBoard$Board" "growth" "I", Cond.fieldLink RX0 65 "DogBoard$Board" "mostUnlike" "I"]
def wsL_sight_r4 : List Cond := [Cond.methodLink RX0 68 yX2_copyFrom, Cond.instanceMethod yX2_copyFrom, Cond.selects RX2 yX2_copyFrom yX2_copyFrom, Cond.initialized RX2, Cond.code yX2_copyFrom cX2_copyFrom 2 none, Cond.fieldLink RX2 9 "DogBoard$Quarter" "ways" "[I", Cond.methodLink RX2 25 Lib.Math.min.name, Cond.methodLink RX2 31 arraycopyName, Cond.fieldLink RX2 18 "DogBoard$Quarter" "closed" "I", Cond.methodLink RX0 72 yX3_copyFrom, Cond.instanceMethod yX3_copyFrom, Cond.selects RX3 yX3_copyFrom yX3_copyFrom, Cond.code yX3_copyFrom cX3_copyFrom 2 none, Cond.fieldLink RX3 24 "DogBoard$Rows" "cells" "[I", Cond.methodLink RX3 39 Lib.Math.min.name, Cond.methodLink RX3 42 arraycopyName, Cond.methodLink RX7 174 yX0_tellSighting, Cond.instanceMethod yX0_tellSighting, Cond.selects RX0 yX0_tellSighting yX0_tellSighting, Cond.code yX0_tellSighting cX0_tellSighting 8 (some .int), Cond.methodLink RX0 190 yX0_faultOfTelling, Cond.methodLink RX0 193 yX0_dogMeantBy, Cond.instanceMethod yX0_dogMeantBy, Cond.selects RX0 yX0_dogMeantBy yX0_dogMeantBy]
def wsL_sight_r5 : List Cond := [Cond.code yX0_dogMeantBy cX0_dogMeantBy 6 (some .int), Cond.methodLink RX0 87 yX3_count, Cond.instanceMethod yX3_count, Cond.selects RX3 yX3_count yX3_count, Cond.code yX3_count cX3_count 1 (some .int), Cond.methodLink RX0 127 yX0_isMissing, Cond.instanceMethod yX0_isMissing, Cond.selects RX0 yX0_isMissing yX0_isMissing, Cond.code yX0_isMissing cX0_isMissing 2 (some .boolean), Cond.methodLink RX0 112 yX3_get, Cond.instanceMethod yX3_get, Cond.selects RX3 yX3_get yX3_get, Cond.code yX3_get cX3_get 4 (some .int), Cond.fieldLink RX3 15 "DogBoard$Rows" "width" "I", Cond.methodLink RX0 118 yX0_unlikeMarks, Cond.instanceMethod yX0_unlikeMarks, Cond.selects RX0 yX0_unlikeMarks yX0_unlikeMarks, Cond.code yX0_unlikeMarks cX0_unlikeMarks 3 (some .int), Cond.methodLink RX0 104 yJ6_bitCount_0f7a4, Cond.static yJ6_bitCount_0f7a4, Cond.initialized RJ6, Cond.code yJ6_bitCount_0f7a4 cJ6_bitCount_0f7a4 1 (some .int), Cond.constant RJ6 265 (1431655765), Cond.constant RJ6 266 (858993459)]
def wsL_sight_r6 : List Cond := [Cond.constant RJ6 267 (252645135), Cond.methodLink RX0 131 yX0_isMeantBefore, Cond.instanceMethod yX0_isMeantBefore, Cond.selects RX0 yX0_isMeantBefore yX0_isMeantBefore, Cond.code yX0_isMeantBefore cX0_isMeantBefore 6 (some .boolean), Cond.methodLink RX0 180 yX3_addRow, Cond.instanceMethod yX3_addRow, Cond.selects RX3 yX3_addRow yX3_addRow, Cond.code yX3_addRow cX3_addRow 3 (some .int), Cond.methodLink RX3 31 yX3_isFull, Cond.methodLink RX3 35 yX3_put, Cond.instanceMethod yX3_put, Cond.selects RX3 yX3_put yX3_put, Cond.code yX3_put cX3_put 5 none, Cond.methodLink RX0 183 yX3_put]
def wsL_sight : List Cond := .codeWith yL_sight cL_sight 8 (some .int) [(0, 16, 19, 28), (0, 16, 23, 13), (0, 16, 27, 15)] :: ((wsL_sight_r1 ++ (wsL_sight_r2 ++ (wsL_sight_r3 ++ (wsL_sight_r4 ++ (wsL_sight_r5 ++ wsL_sight_r6))))) ++ wsX70 ++ wsX00 ++ wsX30 ++ wsX10 ++ wsX20 ++ (vx_atS RX7 112 "java/lang/IndexOutOfBoundsException" ["java/lang/RuntimeException", "java/lang/Exception"]).filter goodWord ++ (vx_atS RX7 52 "java/lang/IllegalArgumentException" ["java/lang/RuntimeException", "java/lang/Exception"]).filter goodWord ++ (vx_atS RX7 63 "java/lang/IllegalStateException" ["java/lang/RuntimeException", "java/lang/Exception"]).filter goodWord)
def wsL_find_r1 : List Cond := [Cond.classLink RL 28 "java/lang/IndexOutOfBoundsException", Cond.classLink RL 15 "java/lang/IllegalStateException", Cond.methodLink RL 48 yX7_find, Cond.instanceMethod yX7_find, Cond.selects RX7 yX7_find yX7_find, Cond.initialized RX7, Cond.code yX7_find cX7_find 4 (some .int), Cond.fieldLink RX7 10 "DogBoard" "now" "LDogBoard$Board;", Cond.fieldLink RX7 22 "DogBoard" "history" "LDogBoard$History;", Cond.methodLink RX7 178 yX0_faultOfFinding, Cond.instanceMethod yX0_faultOfFinding, Cond.selects RX0 yX0_faultOfFinding yX0_faultOfFinding, Cond.initialized RX0, Cond.code yX0_faultOfFinding cX0_faultOfFinding 4 (some .int), Cond.static yX7_isFinder, Cond.code yX7_isFinder cX7_isFinder 1 (some .boolean), Cond.methodLink RX7 44 yX7_isIn, Cond.static yX7_isIn, Cond.code yX7_isIn cX7_isIn 3 (some .boolean), Cond.static yX7_isCorner, Cond.code yX7_isCorner cX7_isCorner 1 (some .boolean), Cond.methodLink RX0 196 yX0_faultOfAsking, Cond.instanceMethod yX0_faultOfAsking, Cond.selects RX0 yX0_faultOfAsking yX0_faultOfAsking]
def wsL_find_r2 : List Cond := [Cond.code yX0_faultOfAsking cX0_faultOfAsking 2 (some .int), Cond.fieldLink RX0 23 "DogBoard$Board" "dogs" "LDogBoard$Rows;", Cond.methodLink RX0 151 yX3_has, Cond.instanceMethod yX3_has, Cond.selects RX3 yX3_has yX3_has, Cond.initialized RX3, Cond.code yX3_has cX3_has 2 (some .boolean), Cond.fieldLink RX3 28 "DogBoard$Rows" "count" "I", Cond.methodLink RX0 127 yX0_isMissing, Cond.instanceMethod yX0_isMissing, Cond.selects RX0 yX0_isMissing yX0_isMissing, Cond.code yX0_isMissing cX0_isMissing 2 (some .boolean), Cond.methodLink RX0 112 yX3_get, Cond.instanceMethod yX3_get, Cond.selects RX3 yX3_get yX3_get, Cond.code yX3_get cX3_get 4 (some .int), Cond.fieldLink RX3 15 "DogBoard$Rows" "width" "I", Cond.fieldLink RX3 24 "DogBoard$Rows" "cells" "[I", Cond.methodLink RX7 160 yX7_throwFor, Cond.static yX7_throwFor, Cond.code yX7_throwFor cX7_throwFor 1 none, Cond.classLink RX7 108 "java/lang/IndexOutOfBoundsException", Cond.initialized "java/lang/IndexOutOfBoundsException", Cond.classLink RX7 48 "java/lang/IllegalArgumentException"]
def wsL_find_r3 : List Cond := [Cond.initialized "java/lang/IllegalArgumentException", Cond.classLink RX7 59 "java/lang/IllegalStateException", Cond.initialized "java/lang/IllegalStateException", Cond.methodLink RX7 164 yX1_remember, Cond.instanceMethod yX1_remember, Cond.selects RX1 yX1_remember yX1_remember, Cond.initialized RX1, Cond.code yX1_remember cX1_remember 3 none, Cond.fieldLink RX1 18 "DogBoard$History" "count" "I", Cond.fieldLink RX1 22 "DogBoard$History" "oldest" "I", Cond.methodLink RX1 25 yX1_stateAt, Cond.instanceMethod yX1_stateAt, Cond.selects RX1 yX1_stateAt yX1_stateAt, Cond.code yX1_stateAt cX1_stateAt 3 (some (.object "DogBoard$Board")), Cond.fieldLink RX1 11 "DogBoard$History" "states" "[LDogBoard$Board;", Cond.methodLink RX1 29 yX0_copyFrom, Cond.instanceMethod yX0_copyFrom, Cond.selects RX0 yX0_copyFrom yX0_copyFrom, Cond.code yX0_copyFrom cX0_copyFrom 2 none, Cond.fieldLink RX0 12 "DogBoard$Board" "quarter" "LDogBoard$Quarter;", Cond.fieldLink RX0 27 "DogBoard$Board" "sightings" "LDogBoard$Rows;", Cond.fieldLink RX0 30 "DogBoard$Board" "purses" "[I", Cond.methodLink RX0 75 Lib.Math.min.name, Cond.static Lib.Math.min.name]
def wsL_find_r4 : List Cond := [Cond.initialized "java/lang/Math", Cond.code Lib.Math.min.name Lib.Math.min.code 2 (some .int), Cond.methodLink RX0 81 arraycopyName, Cond.native arraycopyName, Cond.static arraycopyName, Cond.initialized "java/lang/System", Cond.fieldLink RX0 49 "DogBoard$Board" "hour" "I", Cond.fieldLink RX0 53 "DogBoard$Board" "paid" "I", Cond.fieldLink RX0 56 "DogBoard$Board" "given" "I", Cond.fieldLink RX0 59 "DogBoard$Board" "stayed" "I", Cond.fieldLink RX0 62 "DogBoard$Board" "growth" "I", Cond.fieldLink RX0 65 "DogBoard$Board" "mostUnlike" "I", Cond.methodLink RX0 68 yX2_copyFrom, Cond.instanceMethod yX2_copyFrom, Cond.selects RX2 yX2_copyFrom yX2_copyFrom, Cond.initialized RX2, Cond.code yX2_copyFrom cX2_copyFrom 2 none, Cond.fieldLink RX2 9 "DogBoard$Quarter" "ways" "[I", Cond.methodLink RX2 25 Lib.Math.min.name, Cond.methodLink RX2 31 arraycopyName, Cond.fieldLink RX2 18 "DogBoard$Quarter" "closed" "I", Cond.methodLink RX0 72 yX3_copyFrom, Cond.instanceMethod yX3_copyFrom, Cond.selects RX3 yX3_copyFrom yX3_copyFrom]
def wsL_find_r5 : List Cond := [Cond.code yX3_copyFrom cX3_copyFrom 2 none, Cond.methodLink RX3 39 Lib.Math.min.name, Cond.methodLink RX3 42 arraycopyName, Cond.methodLink RX7 182 yX0_findDog, Cond.instanceMethod yX0_findDog, Cond.selects RX0 yX0_findDog yX0_findDog, Cond.code yX0_findDog cX0_findDog 11 (some .int), Cond.methodLink RX0 199 yX0_faultOfFinding, Cond.methodLink RX0 121 yX0_trueFor, Cond.instanceMethod yX0_trueFor, Cond.selects RX0 yX0_trueFor yX0_trueFor, Cond.code yX0_trueFor cX0_trueFor 2 (some .int), Cond.methodLink RX0 135 yX0_trueNowFor, Cond.instanceMethod yX0_trueNowFor, Cond.selects RX0 yX0_trueNowFor yX0_trueNowFor, Cond.code yX0_trueNowFor cX0_trueNowFor 7 (some .int), Cond.methodLink RX0 87 yX3_count, Cond.instanceMethod yX3_count, Cond.selects RX3 yX3_count yX3_count, Cond.code yX3_count cX3_count 1 (some .int), Cond.methodLink RX0 138 yX2_isWithin, Cond.instanceMethod yX2_isWithin, Cond.selects RX2 yX2_isWithin yX2_isWithin, Cond.code yX2_isWithin cX2_isWithin 5 (some .boolean)]
def wsL_find_r6 : List Cond := [Cond.methodLink RX0 124 yX0_fraudsFor, Cond.instanceMethod yX0_fraudsFor, Cond.selects RX0 yX0_fraudsFor yX0_fraudsFor, Cond.code yX0_fraudsFor cX0_fraudsFor 7 (some .int), Cond.methodLink RX0 100 yX0_sightingsMeaning, Cond.instanceMethod yX0_sightingsMeaning, Cond.selects RX0 yX0_sightingsMeaning yX0_sightingsMeaning, Cond.code yX0_sightingsMeaning cX0_sightingsMeaning 4 (some .int), Cond.static yX7_hasBit, Cond.code yX7_hasBit cX7_hasBit 2 (some .boolean), Cond.methodLink RX0 145 yX0_fitsOneOf, Cond.instanceMethod yX0_fitsOneOf, Cond.selects RX0 yX0_fitsOneOf yX0_fitsOneOf, Cond.code yX0_fitsOneOf cX0_fitsOneOf 6 (some .boolean), Cond.methodLink RX0 148 Lib.Math.abs.name, Cond.static Lib.Math.abs.name, Cond.code Lib.Math.abs.name Lib.Math.abs.code 1 (some .int), Cond.methodLink RX0 203 yX0_coinsOf, Cond.instanceMethod yX0_coinsOf, Cond.selects RX0 yX0_coinsOf yX0_coinsOf, Cond.code yX0_coinsOf cX0_coinsOf 2 (some .int), Cond.methodLink RX0 206 yX0_shareBy, Cond.instanceMethod yX0_shareBy, Cond.selects RX0 yX0_shareBy yX0_shareBy]
def wsL_find_r7 : List Cond := [Cond.code yX0_shareBy cX0_shareBy 10 (some .int), Cond.methodLink RX0 210 yX0_helpOf, Cond.instanceMethod yX0_helpOf, Cond.selects RX0 yX0_helpOf yX0_helpOf, Cond.code yX0_helpOf cX0_helpOf 4 (some .int), Cond.methodLink RX0 183 yX3_put, Cond.instanceMethod yX3_put, Cond.selects RX3 yX3_put yX3_put, Cond.code yX3_put cX3_put 5 none]
def wsL_find : List Cond := .codeWith yL_find cL_find 6 (some .int) [(0, 12, 15, 28), (0, 12, 19, 15)] :: ((wsL_find_r1 ++ (wsL_find_r2 ++ (wsL_find_r3 ++ (wsL_find_r4 ++ (wsL_find_r5 ++ (wsL_find_r6 ++ wsL_find_r7)))))) ++ wsX70 ++ wsX00 ++ wsX30 ++ wsX10 ++ wsX20 ++ (vx_atS RX7 112 "java/lang/IndexOutOfBoundsException" ["java/lang/RuntimeException", "java/lang/Exception"]).filter goodWord ++ (vx_atS RX7 52 "java/lang/IllegalArgumentException" ["java/lang/RuntimeException", "java/lang/Exception"]).filter goodWord ++ (vx_atS RX7 63 "java/lang/IllegalStateException" ["java/lang/RuntimeException", "java/lang/Exception"]).filter goodWord)
def wsL_close_r1 : List Cond := [Cond.classLink RL 28 "java/lang/IndexOutOfBoundsException", Cond.classLink RL 13 "java/lang/IllegalArgumentException", Cond.methodLink RL 51 yX7_close, Cond.instanceMethod yX7_close, Cond.selects RX7 yX7_close yX7_close, Cond.initialized RX7, Cond.code yX7_close cX7_close 4 (some .int), Cond.fieldLink RX7 10 "DogBoard" "now" "LDogBoard$Board;", Cond.fieldLink RX7 22 "DogBoard" "history" "LDogBoard$History;", Cond.methodLink RX7 185 yX0_faultOfClosing, Cond.instanceMethod yX0_faultOfClosing, Cond.selects RX0 yX0_faultOfClosing yX0_faultOfClosing, Cond.initialized RX0, Cond.code yX0_faultOfClosing cX0_faultOfClosing 3 (some .int), Cond.static yX7_isCorner, Cond.code yX7_isCorner cX7_isCorner 1 (some .boolean), Cond.methodLink RX7 44 yX7_isIn, Cond.static yX7_isIn, Cond.code yX7_isIn cX7_isIn 3 (some .boolean), Cond.methodLink RX0 213 yX2_streetBetween, Cond.static yX2_streetBetween, Cond.initialized RX2, Cond.code yX2_streetBetween cX2_streetBetween 3 (some .int), Cond.fieldLink RX2 43 "DogBoard$Quarter" "ENDS" "[I"]
def wsL_close_r2 : List Cond := [Cond.methodLink RX7 160 yX7_throwFor, Cond.static yX7_throwFor, Cond.code yX7_throwFor cX7_throwFor 1 none, Cond.classLink RX7 108 "java/lang/IndexOutOfBoundsException", Cond.initialized "java/lang/IndexOutOfBoundsException", Cond.classLink RX7 48 "java/lang/IllegalArgumentException", Cond.initialized "java/lang/IllegalArgumentException", Cond.classLink RX7 59 "java/lang/IllegalStateException", Cond.initialized "java/lang/IllegalStateException", Cond.methodLink RX7 164 yX1_remember, Cond.instanceMethod yX1_remember, Cond.selects RX1 yX1_remember yX1_remember, Cond.initialized RX1, Cond.code yX1_remember cX1_remember 3 none, Cond.fieldLink RX1 18 "DogBoard$History" "count" "I", Cond.fieldLink RX1 22 "DogBoard$History" "oldest" "I", Cond.methodLink RX1 25 yX1_stateAt, Cond.instanceMethod yX1_stateAt, Cond.selects RX1 yX1_stateAt yX1_stateAt, Cond.code yX1_stateAt cX1_stateAt 3 (some (.object "DogBoard$Board")), Cond.fieldLink RX1 11 "DogBoard$History" "states" "[LDogBoard$Board;", Cond.methodLink RX1 29 yX0_copyFrom, Cond.instanceMethod yX0_copyFrom, Cond.selects RX0 yX0_copyFrom yX0_copyFrom]
def wsL_close_r3 : List Cond := [Cond.code yX0_copyFrom cX0_copyFrom 2 none, Cond.fieldLink RX0 12 "DogBoard$Board" "quarter" "LDogBoard$Quarter;", Cond.fieldLink RX0 23 "DogBoard$Board" "dogs" "LDogBoard$Rows;", Cond.fieldLink RX0 27 "DogBoard$Board" "sightings" "LDogBoard$Rows;", Cond.fieldLink RX0 30 "DogBoard$Board" "purses" "[I", Cond.methodLink RX0 75 Lib.Math.min.name, Cond.static Lib.Math.min.name, Cond.initialized "java/lang/Math", Cond.code Lib.Math.min.name Lib.Math.min.code 2 (some .int), Cond.methodLink RX0 81 arraycopyName, Cond.native arraycopyName, Cond.static arraycopyName, Cond.initialized "java/lang/System", Cond.fieldLink RX0 49 "DogBoard$Board" "hour" "I", Cond.fieldLink RX0 53 "DogBoard$Board" "paid" "I", Cond.fieldLink RX0 56 "DogBoard$Board" "given" "I", Cond.fieldLink RX0 59 "DogBoard$Board" "stayed" "I", Cond.fieldLink RX0 62 "DogBoard$Board" "growth" "I", Cond.fieldLink RX0 65 "DogBoard$Board" "mostUnlike" "I", Cond.methodLink RX0 68 yX2_copyFrom, Cond.instanceMethod yX2_copyFrom, Cond.selects RX2 yX2_copyFrom yX2_copyFrom, Cond.code yX2_copyFrom cX2_copyFrom 2 none, Cond.fieldLink RX2 9 "DogBoard$Quarter" "ways" "[I"]
def wsL_close_r4 : List Cond := [Cond.methodLink RX2 25 Lib.Math.min.name, Cond.methodLink RX2 31 arraycopyName, Cond.fieldLink RX2 18 "DogBoard$Quarter" "closed" "I", Cond.methodLink RX0 72 yX3_copyFrom, Cond.instanceMethod yX3_copyFrom, Cond.selects RX3 yX3_copyFrom yX3_copyFrom, Cond.initialized RX3, Cond.code yX3_copyFrom cX3_copyFrom 2 none, Cond.fieldLink RX3 24 "DogBoard$Rows" "cells" "[I", Cond.methodLink RX3 39 Lib.Math.min.name, Cond.methodLink RX3 42 arraycopyName, Cond.fieldLink RX3 28 "DogBoard$Rows" "count" "I", Cond.methodLink RX7 188 yX0_closeStreet, Cond.instanceMethod yX0_closeStreet, Cond.selects RX0 yX0_closeStreet yX0_closeStreet, Cond.code yX0_closeStreet cX0_closeStreet 4 (some .int), Cond.methodLink RX0 216 yX0_faultOfClosing, Cond.methodLink RX0 219 yX2_setClosed, Cond.instanceMethod yX2_setClosed, Cond.selects RX2 yX2_setClosed yX2_setClosed, Cond.code yX2_setClosed cX2_setClosed 4 none, Cond.methodLink RX2 22 yX2_measureAll, Cond.instanceMethod yX2_measureAll, Cond.selects RX2 yX2_measureAll yX2_measureAll]
def wsL_close_r5 : List Cond := [Cond.code yX2_measureAll cX2_measureAll 5 none, Cond.methodLink RX2 46 yJ7_fill_53178, Cond.static yJ7_fill_53178, Cond.initialized RJ7, Cond.code yJ7_fill_53178 cJ7_fill_53178 4 none, Cond.methodLink RX2 52 yX2_noteWays, Cond.instanceMethod yX2_noteWays, Cond.selects RX2 yX2_noteWays yX2_noteWays, Cond.code yX2_noteWays cX2_noteWays 6 none, Cond.static yX7_hasBit, Cond.code yX7_hasBit cX7_hasBit 2 (some .boolean), Cond.methodLink RX2 56 yX2_besideAnyOf, Cond.instanceMethod yX2_besideAnyOf, Cond.selects RX2 yX2_besideAnyOf yX2_besideAnyOf, Cond.code yX2_besideAnyOf cX2_besideAnyOf 4 (some .int), Cond.methodLink RX0 109 yX2_closedStreets, Cond.instanceMethod yX2_closedStreets, Cond.selects RX2 yX2_closedStreets yX2_closedStreets, Cond.code yX2_closedStreets cX2_closedStreets 1 (some .int), Cond.methodLink RX2 37 yJ6_bitCount_0f7a4, Cond.static yJ6_bitCount_0f7a4, Cond.initialized RJ6, Cond.code yJ6_bitCount_0f7a4 cJ6_bitCount_0f7a4 1 (some .int), Cond.constant RJ6 265 (1431655765)]
def wsL_close_r6 : List Cond := [Cond.constant RJ6 266 (858993459), Cond.constant RJ6 267 (252645135)]
def wsL_close : List Cond := .codeWith yL_close cL_close 6 (some .int) [(0, 12, 15, 28), (0, 12, 19, 13)] :: ((wsL_close_r1 ++ (wsL_close_r2 ++ (wsL_close_r3 ++ (wsL_close_r4 ++ (wsL_close_r5 ++ wsL_close_r6))))) ++ wsX70 ++ wsX10 ++ wsX00 ++ wsX20 ++ wsX30 ++ (vx_atS RX7 112 "java/lang/IndexOutOfBoundsException" ["java/lang/RuntimeException", "java/lang/Exception"]).filter goodWord ++ (vx_atS RX7 52 "java/lang/IllegalArgumentException" ["java/lang/RuntimeException", "java/lang/Exception"]).filter goodWord ++ (vx_atS RX7 63 "java/lang/IllegalStateException" ["java/lang/RuntimeException", "java/lang/Exception"]).filter goodWord)
def wsL_hours_r1 : List Cond := [Cond.classLink RL 13 "java/lang/IllegalArgumentException", Cond.methodLink RL 55 yX7_hours, Cond.instanceMethod yX7_hours, Cond.selects RX7 yX7_hours yX7_hours, Cond.initialized RX7, Cond.code yX7_hours cX7_hours 2 (some .int), Cond.fieldLink RX7 10 "DogBoard" "now" "LDogBoard$Board;", Cond.fieldLink RX7 22 "DogBoard" "history" "LDogBoard$History;", Cond.methodLink RX7 192 yX0_faultOfPassing, Cond.instanceMethod yX0_faultOfPassing, Cond.selects RX0 yX0_faultOfPassing yX0_faultOfPassing, Cond.initialized RX0, Cond.code yX0_faultOfPassing cX0_faultOfPassing 2 (some .int), Cond.static yX7_isIn, Cond.code yX7_isIn cX7_isIn 3 (some .boolean), Cond.methodLink RX7 160 yX7_throwFor, Cond.static yX7_throwFor, Cond.code yX7_throwFor cX7_throwFor 1 none, Cond.classLink RX7 108 "java/lang/IndexOutOfBoundsException", Cond.initialized "java/lang/IndexOutOfBoundsException", Cond.classLink RX7 48 "java/lang/IllegalArgumentException", Cond.initialized "java/lang/IllegalArgumentException", Cond.classLink RX7 59 "java/lang/IllegalStateException", Cond.initialized "java/lang/IllegalStateException"]
def wsL_hours_r2 : List Cond := [Cond.methodLink RX7 164 yX1_remember, Cond.instanceMethod yX1_remember, Cond.selects RX1 yX1_remember yX1_remember, Cond.initialized RX1, Cond.code yX1_remember cX1_remember 3 none, Cond.fieldLink RX1 18 "DogBoard$History" "count" "I", Cond.fieldLink RX1 22 "DogBoard$History" "oldest" "I", Cond.methodLink RX1 25 yX1_stateAt, Cond.instanceMethod yX1_stateAt, Cond.selects RX1 yX1_stateAt yX1_stateAt, Cond.code yX1_stateAt cX1_stateAt 3 (some (.object "DogBoard$Board")), Cond.fieldLink RX1 11 "DogBoard$History" "states" "[LDogBoard$Board;", Cond.methodLink RX1 29 yX0_copyFrom, Cond.instanceMethod yX0_copyFrom, Cond.selects RX0 yX0_copyFrom yX0_copyFrom, Cond.code yX0_copyFrom cX0_copyFrom 2 none, Cond.fieldLink RX0 12 "DogBoard$Board" "quarter" "LDogBoard$Quarter;", Cond.fieldLink RX0 23 "DogBoard$Board" "dogs" "LDogBoard$Rows;", Cond.fieldLink RX0 27 "DogBoard$Board" "sightings" "LDogBoard$Rows;", Cond.fieldLink RX0 30 "DogBoard$Board" "purses" "[I", Cond.methodLink RX0 75 Lib.Math.min.name, Cond.static Lib.Math.min.name, Cond.initialized "java/lang/Math", Cond.code Lib.Math.min.name Lib.Math.min.code 2 (some .int)]
def wsL_hours_r3 : List Cond := [Cond.methodLink RX0 81 arraycopyName, Cond.native arraycopyName, Cond.static arraycopyName, Cond.initialized "java/lang/System", Cond.fieldLink RX0 49 "DogBoard$Board" "hour" "I", Cond.fieldLink RX0 53 "DogBoard$Board" "paid" "I", Cond.fieldLink RX0 56 "DogBoard$Board" "given" "I", Cond.fieldLink RX0 59 "DogBoard$Board" "stayed" "I", Cond.fieldLink RX0 62 "DogBoard$Board" "growth" "I", Cond.fieldLink RX0 65 "DogBoard$Board" "mostUnlike" "I", Cond.methodLink RX0 68 yX2_copyFrom, Cond.instanceMethod yX2_copyFrom, Cond.selects RX2 yX2_copyFrom yX2_copyFrom, Cond.initialized RX2, Cond.code yX2_copyFrom cX2_copyFrom 2 none, Cond.fieldLink RX2 9 "DogBoard$Quarter" "ways" "[I", Cond.methodLink RX2 25 Lib.Math.min.name, Cond.methodLink RX2 31 arraycopyName, Cond.fieldLink RX2 18 "DogBoard$Quarter" "closed" "I", Cond.methodLink RX0 72 yX3_copyFrom, Cond.instanceMethod yX3_copyFrom, Cond.selects RX3 yX3_copyFrom yX3_copyFrom, Cond.initialized RX3, Cond.code yX3_copyFrom cX3_copyFrom 2 none]
def wsL_hours_r4 : List Cond := [Cond.fieldLink RX3 24 "DogBoard$Rows" "cells" "[I", Cond.methodLink RX3 39 Lib.Math.min.name, Cond.methodLink RX3 42 arraycopyName, Cond.fieldLink RX3 28 "DogBoard$Rows" "count" "I", Cond.methodLink RX7 195 yX0_passHours, Cond.instanceMethod yX0_passHours, Cond.selects RX0 yX0_passHours yX0_passHours, Cond.code yX0_passHours cX0_passHours 7 (some .int), Cond.methodLink RX0 223 yX0_faultOfPassing, Cond.methodLink RX0 87 yX3_count, Cond.instanceMethod yX3_count, Cond.selects RX3 yX3_count yX3_count, Cond.code yX3_count cX3_count 1 (some .int), Cond.methodLink RX0 112 yX3_get, Cond.instanceMethod yX3_get, Cond.selects RX3 yX3_get yX3_get, Cond.code yX3_get cX3_get 4 (some .int), Cond.fieldLink RX3 15 "DogBoard$Rows" "width" "I", Cond.methodLink RX0 127 yX0_isMissing, Cond.instanceMethod yX0_isMissing, Cond.selects RX0 yX0_isMissing yX0_isMissing, Cond.code yX0_isMissing cX0_isMissing 2 (some .boolean), Cond.methodLink RX0 183 yX3_put, Cond.instanceMethod yX3_put]
def wsL_hours_r5 : List Cond := [Cond.selects RX3 yX3_put yX3_put, Cond.code yX3_put cX3_put 5 none]
def wsL_hours : List Cond := .codeWith yL_hours cL_hours 4 (some .int) [(0, 9, 12, 13)] :: ((wsL_hours_r1 ++ (wsL_hours_r2 ++ (wsL_hours_r3 ++ (wsL_hours_r4 ++ wsL_hours_r5)))) ++ wsX70 ++ wsX10 ++ wsX00 ++ wsX20 ++ wsX30 ++ (vx_atS RX7 112 "java/lang/IndexOutOfBoundsException" ["java/lang/RuntimeException", "java/lang/Exception"]).filter goodWord ++ (vx_atS RX7 52 "java/lang/IllegalArgumentException" ["java/lang/RuntimeException", "java/lang/Exception"]).filter goodWord ++ (vx_atS RX7 63 "java/lang/IllegalStateException" ["java/lang/RuntimeException", "java/lang/Exception"]).filter goodWord)
def wsL_set_r1 : List Cond := [Cond.classLink RL 13 "java/lang/IllegalArgumentException", Cond.methodLink RL 58 yX7_set, Cond.instanceMethod yX7_set, Cond.selects RX7 yX7_set yX7_set, Cond.initialized RX7, Cond.code yX7_set cX7_set 3 (some .int), Cond.fieldLink RX7 10 "DogBoard" "now" "LDogBoard$Board;", Cond.fieldLink RX7 22 "DogBoard" "history" "LDogBoard$History;", Cond.methodLink RX7 198 yX0_faultOfSetting, Cond.instanceMethod yX0_faultOfSetting, Cond.selects RX0 yX0_faultOfSetting yX0_faultOfSetting, Cond.initialized RX0, Cond.code yX0_faultOfSetting cX0_faultOfSetting 4 (some .int), Cond.static yX7_isIn, Cond.code yX7_isIn cX7_isIn 3 (some .boolean), Cond.methodLink RX7 160 yX7_throwFor, Cond.static yX7_throwFor, Cond.code yX7_throwFor cX7_throwFor 1 none, Cond.classLink RX7 108 "java/lang/IndexOutOfBoundsException", Cond.initialized "java/lang/IndexOutOfBoundsException", Cond.classLink RX7 48 "java/lang/IllegalArgumentException", Cond.initialized "java/lang/IllegalArgumentException", Cond.classLink RX7 59 "java/lang/IllegalStateException", Cond.initialized "java/lang/IllegalStateException"]
def wsL_set_r2 : List Cond := [Cond.methodLink RX7 164 yX1_remember, Cond.instanceMethod yX1_remember, Cond.selects RX1 yX1_remember yX1_remember, Cond.initialized RX1, Cond.code yX1_remember cX1_remember 3 none, Cond.fieldLink RX1 18 "DogBoard$History" "count" "I", Cond.fieldLink RX1 22 "DogBoard$History" "oldest" "I", Cond.methodLink RX1 25 yX1_stateAt, Cond.instanceMethod yX1_stateAt, Cond.selects RX1 yX1_stateAt yX1_stateAt, Cond.code yX1_stateAt cX1_stateAt 3 (some (.object "DogBoard$Board")), Cond.fieldLink RX1 11 "DogBoard$History" "states" "[LDogBoard$Board;", Cond.methodLink RX1 29 yX0_copyFrom, Cond.instanceMethod yX0_copyFrom, Cond.selects RX0 yX0_copyFrom yX0_copyFrom, Cond.code yX0_copyFrom cX0_copyFrom 2 none, Cond.fieldLink RX0 12 "DogBoard$Board" "quarter" "LDogBoard$Quarter;", Cond.fieldLink RX0 23 "DogBoard$Board" "dogs" "LDogBoard$Rows;", Cond.fieldLink RX0 27 "DogBoard$Board" "sightings" "LDogBoard$Rows;", Cond.fieldLink RX0 30 "DogBoard$Board" "purses" "[I", Cond.methodLink RX0 75 Lib.Math.min.name, Cond.static Lib.Math.min.name, Cond.initialized "java/lang/Math", Cond.code Lib.Math.min.name Lib.Math.min.code 2 (some .int)]
def wsL_set_r3 : List Cond := [Cond.methodLink RX0 81 arraycopyName, Cond.native arraycopyName, Cond.static arraycopyName, Cond.initialized "java/lang/System", Cond.fieldLink RX0 49 "DogBoard$Board" "hour" "I", Cond.fieldLink RX0 53 "DogBoard$Board" "paid" "I", Cond.fieldLink RX0 56 "DogBoard$Board" "given" "I", Cond.fieldLink RX0 59 "DogBoard$Board" "stayed" "I", Cond.fieldLink RX0 62 "DogBoard$Board" "growth" "I", Cond.fieldLink RX0 65 "DogBoard$Board" "mostUnlike" "I", Cond.methodLink RX0 68 yX2_copyFrom, Cond.instanceMethod yX2_copyFrom, Cond.selects RX2 yX2_copyFrom yX2_copyFrom, Cond.initialized RX2, Cond.code yX2_copyFrom cX2_copyFrom 2 none, Cond.fieldLink RX2 9 "DogBoard$Quarter" "ways" "[I", Cond.methodLink RX2 25 Lib.Math.min.name, Cond.methodLink RX2 31 arraycopyName, Cond.fieldLink RX2 18 "DogBoard$Quarter" "closed" "I", Cond.methodLink RX0 72 yX3_copyFrom, Cond.instanceMethod yX3_copyFrom, Cond.selects RX3 yX3_copyFrom yX3_copyFrom, Cond.initialized RX3, Cond.code yX3_copyFrom cX3_copyFrom 2 none]
def wsL_set_r4 : List Cond := [Cond.fieldLink RX3 24 "DogBoard$Rows" "cells" "[I", Cond.methodLink RX3 39 Lib.Math.min.name, Cond.methodLink RX3 42 arraycopyName, Cond.fieldLink RX3 28 "DogBoard$Rows" "count" "I", Cond.methodLink RX7 201 yX0_changeSetting, Cond.instanceMethod yX0_changeSetting, Cond.selects RX0 yX0_changeSetting yX0_changeSetting, Cond.code yX0_changeSetting cX0_changeSetting 4 (some .int), Cond.methodLink RX0 226 yX0_faultOfSetting]
def wsL_set : List Cond := .codeWith yL_set cL_set 5 (some .int) [(0, 10, 13, 13)] :: ((wsL_set_r1 ++ (wsL_set_r2 ++ (wsL_set_r3 ++ wsL_set_r4))) ++ wsX70 ++ wsX10 ++ wsX00 ++ wsX20 ++ wsX30 ++ (vx_atS RX7 112 "java/lang/IndexOutOfBoundsException" ["java/lang/RuntimeException", "java/lang/Exception"]).filter goodWord ++ (vx_atS RX7 52 "java/lang/IllegalArgumentException" ["java/lang/RuntimeException", "java/lang/Exception"]).filter goodWord ++ (vx_atS RX7 63 "java/lang/IllegalStateException" ["java/lang/RuntimeException", "java/lang/Exception"]).filter goodWord)
def wsL_undo_r1 : List Cond := [Cond.classLink RL 15 "java/lang/IllegalStateException", Cond.methodLink RL 61 yX7_undo, Cond.instanceMethod yX7_undo, Cond.selects RX7 yX7_undo yX7_undo, Cond.initialized RX7, Cond.code yX7_undo cX7_undo 1 (some .int), Cond.classLink RX7 59 "java/lang/IllegalStateException", Cond.initialized "java/lang/IllegalStateException", Cond.fieldLink RX7 22 "DogBoard" "history" "LDogBoard$History;", Cond.fieldLink RX7 10 "DogBoard" "now" "LDogBoard$Board;", Cond.methodLink RX7 204 yX1_isEmpty, Cond.instanceMethod yX1_isEmpty, Cond.selects RX1 yX1_isEmpty yX1_isEmpty, Cond.initialized RX1, Cond.code yX1_isEmpty cX1_isEmpty 1 (some .boolean), Cond.fieldLink RX1 18 "DogBoard$History" "count" "I", Cond.methodLink RX7 209 yX1_giveBack, Cond.instanceMethod yX1_giveBack, Cond.selects RX1 yX1_giveBack yX1_giveBack, Cond.code yX1_giveBack cX1_giveBack 3 (some .int), Cond.methodLink RX1 25 yX1_stateAt, Cond.instanceMethod yX1_stateAt, Cond.selects RX1 yX1_stateAt yX1_stateAt, Cond.code yX1_stateAt cX1_stateAt 3 (some (.object "DogBoard$Board"))]
def wsL_undo_r2 : List Cond := [Cond.fieldLink RX1 22 "DogBoard$History" "oldest" "I", Cond.fieldLink RX1 11 "DogBoard$History" "states" "[LDogBoard$Board;", Cond.methodLink RX1 29 yX0_copyFrom, Cond.instanceMethod yX0_copyFrom, Cond.selects RX0 yX0_copyFrom yX0_copyFrom, Cond.initialized RX0, Cond.code yX0_copyFrom cX0_copyFrom 2 none, Cond.fieldLink RX0 12 "DogBoard$Board" "quarter" "LDogBoard$Quarter;", Cond.fieldLink RX0 23 "DogBoard$Board" "dogs" "LDogBoard$Rows;", Cond.fieldLink RX0 27 "DogBoard$Board" "sightings" "LDogBoard$Rows;", Cond.fieldLink RX0 30 "DogBoard$Board" "purses" "[I", Cond.methodLink RX0 75 Lib.Math.min.name, Cond.static Lib.Math.min.name, Cond.initialized "java/lang/Math", Cond.code Lib.Math.min.name Lib.Math.min.code 2 (some .int), Cond.methodLink RX0 81 arraycopyName, Cond.native arraycopyName, Cond.static arraycopyName, Cond.initialized "java/lang/System", Cond.fieldLink RX0 49 "DogBoard$Board" "hour" "I", Cond.fieldLink RX0 53 "DogBoard$Board" "paid" "I", Cond.fieldLink RX0 56 "DogBoard$Board" "given" "I", Cond.fieldLink RX0 59 "DogBoard$Board" "stayed" "I", Cond.fieldLink RX0 62 "DogBoard$Board" "growth" "I"]
def wsL_undo_r3 : List Cond := [Cond.fieldLink RX0 65 "DogBoard$Board" "mostUnlike" "I", Cond.methodLink RX0 68 yX2_copyFrom, Cond.instanceMethod yX2_copyFrom, Cond.selects RX2 yX2_copyFrom yX2_copyFrom, Cond.initialized RX2, Cond.code yX2_copyFrom cX2_copyFrom 2 none, Cond.fieldLink RX2 9 "DogBoard$Quarter" "ways" "[I", Cond.methodLink RX2 25 Lib.Math.min.name, Cond.methodLink RX2 31 arraycopyName, Cond.fieldLink RX2 18 "DogBoard$Quarter" "closed" "I", Cond.methodLink RX0 72 yX3_copyFrom, Cond.instanceMethod yX3_copyFrom, Cond.selects RX3 yX3_copyFrom yX3_copyFrom, Cond.initialized RX3, Cond.code yX3_copyFrom cX3_copyFrom 2 none, Cond.fieldLink RX3 24 "DogBoard$Rows" "cells" "[I", Cond.methodLink RX3 39 Lib.Math.min.name, Cond.methodLink RX3 42 arraycopyName, Cond.fieldLink RX3 28 "DogBoard$Rows" "count" "I"]
def wsL_undo : List Cond := .codeWith yL_undo cL_undo 3 (some .int) [(0, 8, 11, 15)] :: ((wsL_undo_r1 ++ (wsL_undo_r2 ++ wsL_undo_r3)) ++ wsX70 ++ wsX10 ++ wsX00 ++ wsX20 ++ wsX30 ++ (vx_atS RX7 63 "java/lang/IllegalStateException" ["java/lang/RuntimeException", "java/lang/Exception"]).filter goodWord)
def wsL_canBe_r1 : List Cond := [Cond.classLink RL 28 "java/lang/IndexOutOfBoundsException", Cond.classLink RL 15 "java/lang/IllegalStateException", Cond.methodLink RL 64 yX7_canBe, Cond.instanceMethod yX7_canBe, Cond.selects RX7 yX7_canBe yX7_canBe, Cond.initialized RX7, Cond.code yX7_canBe cX7_canBe 2 (some .int), Cond.fieldLink RX7 10 "DogBoard" "now" "LDogBoard$Board;", Cond.methodLink RX7 212 yX0_faultOfAsking, Cond.instanceMethod yX0_faultOfAsking, Cond.selects RX0 yX0_faultOfAsking yX0_faultOfAsking, Cond.initialized RX0, Cond.code yX0_faultOfAsking cX0_faultOfAsking 2 (some .int), Cond.fieldLink RX0 23 "DogBoard$Board" "dogs" "LDogBoard$Rows;", Cond.methodLink RX0 151 yX3_has, Cond.instanceMethod yX3_has, Cond.selects RX3 yX3_has yX3_has, Cond.initialized RX3, Cond.code yX3_has cX3_has 2 (some .boolean), Cond.fieldLink RX3 28 "DogBoard$Rows" "count" "I", Cond.methodLink RX0 127 yX0_isMissing, Cond.instanceMethod yX0_isMissing, Cond.selects RX0 yX0_isMissing yX0_isMissing, Cond.code yX0_isMissing cX0_isMissing 2 (some .boolean)]
def wsL_canBe_r2 : List Cond := [Cond.methodLink RX0 112 yX3_get, Cond.instanceMethod yX3_get, Cond.selects RX3 yX3_get yX3_get, Cond.code yX3_get cX3_get 4 (some .int), Cond.fieldLink RX3 15 "DogBoard$Rows" "width" "I", Cond.fieldLink RX3 24 "DogBoard$Rows" "cells" "[I", Cond.methodLink RX7 160 yX7_throwFor, Cond.static yX7_throwFor, Cond.code yX7_throwFor cX7_throwFor 1 none, Cond.classLink RX7 108 "java/lang/IndexOutOfBoundsException", Cond.initialized "java/lang/IndexOutOfBoundsException", Cond.classLink RX7 48 "java/lang/IllegalArgumentException", Cond.initialized "java/lang/IllegalArgumentException", Cond.classLink RX7 59 "java/lang/IllegalStateException", Cond.initialized "java/lang/IllegalStateException", Cond.methodLink RX7 215 yX0_placesOf, Cond.instanceMethod yX0_placesOf, Cond.selects RX0 yX0_placesOf yX0_placesOf, Cond.code yX0_placesOf cX0_placesOf 5 (some .int), Cond.methodLink RX0 115 yX0_honestFor, Cond.instanceMethod yX0_honestFor, Cond.selects RX0 yX0_honestFor yX0_honestFor, Cond.code yX0_honestFor cX0_honestFor 2 (some .int), Cond.methodLink RX0 100 yX0_sightingsMeaning]
def wsL_canBe_r3 : List Cond := [Cond.instanceMethod yX0_sightingsMeaning, Cond.selects RX0 yX0_sightingsMeaning yX0_sightingsMeaning, Cond.code yX0_sightingsMeaning cX0_sightingsMeaning 4 (some .int), Cond.fieldLink RX0 27 "DogBoard$Board" "sightings" "LDogBoard$Rows;", Cond.methodLink RX0 87 yX3_count, Cond.instanceMethod yX3_count, Cond.selects RX3 yX3_count yX3_count, Cond.code yX3_count cX3_count 1 (some .int), Cond.methodLink RX0 124 yX0_fraudsFor, Cond.instanceMethod yX0_fraudsFor, Cond.selects RX0 yX0_fraudsFor yX0_fraudsFor, Cond.code yX0_fraudsFor cX0_fraudsFor 7 (some .int), Cond.methodLink RX0 135 yX0_trueNowFor, Cond.instanceMethod yX0_trueNowFor, Cond.selects RX0 yX0_trueNowFor yX0_trueNowFor, Cond.code yX0_trueNowFor cX0_trueNowFor 7 (some .int), Cond.fieldLink RX0 12 "DogBoard$Board" "quarter" "LDogBoard$Quarter;", Cond.methodLink RX0 138 yX2_isWithin, Cond.instanceMethod yX2_isWithin, Cond.selects RX2 yX2_isWithin yX2_isWithin, Cond.initialized RX2, Cond.code yX2_isWithin cX2_isWithin 5 (some .boolean), Cond.fieldLink RX2 9 "DogBoard$Quarter" "ways" "[I", Cond.static yX7_hasBit]
def wsL_canBe_r4 : List Cond := [Cond.code yX7_hasBit cX7_hasBit 2 (some .boolean), Cond.methodLink RX0 145 yX0_fitsOneOf, Cond.instanceMethod yX0_fitsOneOf, Cond.selects RX0 yX0_fitsOneOf yX0_fitsOneOf, Cond.code yX0_fitsOneOf cX0_fitsOneOf 6 (some .boolean), Cond.methodLink RX0 148 Lib.Math.abs.name, Cond.static Lib.Math.abs.name, Cond.initialized "java/lang/Math", Cond.code Lib.Math.abs.name Lib.Math.abs.code 1 (some .int), Cond.methodLink RX0 154 yX0_canReach, Cond.instanceMethod yX0_canReach, Cond.selects RX0 yX0_canReach yX0_canReach, Cond.code yX0_canReach cX0_canReach 8 (some .boolean), Cond.fieldLink RX0 49 "DogBoard$Board" "hour" "I"]
def wsL_canBe : List Cond := .codeWith yL_canBe cL_canBe 4 (some .int) [(0, 9, 12, 28), (0, 9, 15, 15)] :: ((wsL_canBe_r1 ++ (wsL_canBe_r2 ++ (wsL_canBe_r3 ++ wsL_canBe_r4))) ++ wsX70 ++ wsX00 ++ wsX30 ++ wsX20 ++ (vx_atS RX7 112 "java/lang/IndexOutOfBoundsException" ["java/lang/RuntimeException", "java/lang/Exception"]).filter goodWord ++ (vx_atS RX7 52 "java/lang/IllegalArgumentException" ["java/lang/RuntimeException", "java/lang/Exception"]).filter goodWord ++ (vx_atS RX7 63 "java/lang/IllegalStateException" ["java/lang/RuntimeException", "java/lang/Exception"]).filter goodWord)
def wsL_meant_r1 : List Cond := [Cond.classLink RL 13 "java/lang/IllegalArgumentException", Cond.methodLink RL 67 yX7_meant, Cond.instanceMethod yX7_meant, Cond.selects RX7 yX7_meant yX7_meant, Cond.initialized RX7, Cond.code yX7_meant cX7_meant 2 (some .int), Cond.classLink RX7 48 "java/lang/IllegalArgumentException", Cond.initialized "java/lang/IllegalArgumentException", Cond.fieldLink RX7 10 "DogBoard" "now" "LDogBoard$Board;", Cond.methodLink RX7 44 yX7_isIn, Cond.static yX7_isIn, Cond.code yX7_isIn cX7_isIn 3 (some .boolean), Cond.methodLink RX7 227 yX0_dogMeantBy, Cond.instanceMethod yX0_dogMeantBy, Cond.selects RX0 yX0_dogMeantBy yX0_dogMeantBy, Cond.initialized RX0, Cond.code yX0_dogMeantBy cX0_dogMeantBy 6 (some .int), Cond.fieldLink RX0 23 "DogBoard$Board" "dogs" "LDogBoard$Rows;", Cond.fieldLink RX0 65 "DogBoard$Board" "mostUnlike" "I", Cond.methodLink RX0 87 yX3_count, Cond.instanceMethod yX3_count, Cond.selects RX3 yX3_count yX3_count, Cond.initialized RX3, Cond.code yX3_count cX3_count 1 (some .int)]
def wsL_meant_r2 : List Cond := [Cond.fieldLink RX3 28 "DogBoard$Rows" "count" "I", Cond.methodLink RX0 127 yX0_isMissing, Cond.instanceMethod yX0_isMissing, Cond.selects RX0 yX0_isMissing yX0_isMissing, Cond.code yX0_isMissing cX0_isMissing 2 (some .boolean), Cond.methodLink RX0 112 yX3_get, Cond.instanceMethod yX3_get, Cond.selects RX3 yX3_get yX3_get, Cond.code yX3_get cX3_get 4 (some .int), Cond.fieldLink RX3 15 "DogBoard$Rows" "width" "I", Cond.fieldLink RX3 24 "DogBoard$Rows" "cells" "[I", Cond.methodLink RX0 118 yX0_unlikeMarks, Cond.instanceMethod yX0_unlikeMarks, Cond.selects RX0 yX0_unlikeMarks yX0_unlikeMarks, Cond.code yX0_unlikeMarks cX0_unlikeMarks 3 (some .int), Cond.methodLink RX0 104 yJ6_bitCount_0f7a4, Cond.static yJ6_bitCount_0f7a4, Cond.initialized RJ6, Cond.code yJ6_bitCount_0f7a4 cJ6_bitCount_0f7a4 1 (some .int), Cond.constant RJ6 265 (1431655765), Cond.constant RJ6 266 (858993459), Cond.constant RJ6 267 (252645135), Cond.methodLink RX0 131 yX0_isMeantBefore, Cond.instanceMethod yX0_isMeantBefore]
def wsL_meant_r3 : List Cond := [Cond.selects RX0 yX0_isMeantBefore yX0_isMeantBefore, Cond.code yX0_isMeantBefore cX0_isMeantBefore 6 (some .boolean)]
def wsL_meant : List Cond := .codeWith yL_meant cL_meant 4 (some .int) [(0, 9, 12, 13)] :: ((wsL_meant_r1 ++ (wsL_meant_r2 ++ wsL_meant_r3)) ++ wsX70 ++ wsX00 ++ wsX30 ++ (vx_atS RX7 52 "java/lang/IllegalArgumentException" ["java/lang/RuntimeException", "java/lang/Exception"]).filter goodWord)
def wsL_ifFound_r1 : List Cond := [Cond.classLink RL 28 "java/lang/IndexOutOfBoundsException", Cond.classLink RL 15 "java/lang/IllegalStateException", Cond.methodLink RL 70 yX7_ifFound, Cond.instanceMethod yX7_ifFound, Cond.selects RX7 yX7_ifFound yX7_ifFound, Cond.initialized RX7, Cond.code yX7_ifFound cX7_ifFound 5 (some .int), Cond.fieldLink RX7 10 "DogBoard" "now" "LDogBoard$Board;", Cond.methodLink RX7 129 yX7_isFinder, Cond.static yX7_isFinder, Cond.code yX7_isFinder cX7_isFinder 1 (some .boolean), Cond.methodLink RX7 44 yX7_isIn, Cond.static yX7_isIn, Cond.code yX7_isIn cX7_isIn 3 (some .boolean), Cond.methodLink RX7 178 yX0_faultOfFinding, Cond.instanceMethod yX0_faultOfFinding, Cond.selects RX0 yX0_faultOfFinding yX0_faultOfFinding, Cond.initialized RX0, Cond.code yX0_faultOfFinding cX0_faultOfFinding 4 (some .int), Cond.static yX7_isCorner, Cond.code yX7_isCorner cX7_isCorner 1 (some .boolean), Cond.methodLink RX0 196 yX0_faultOfAsking, Cond.instanceMethod yX0_faultOfAsking, Cond.selects RX0 yX0_faultOfAsking yX0_faultOfAsking]
def wsL_ifFound_r2 : List Cond := [Cond.code yX0_faultOfAsking cX0_faultOfAsking 2 (some .int), Cond.fieldLink RX0 23 "DogBoard$Board" "dogs" "LDogBoard$Rows;", Cond.methodLink RX0 151 yX3_has, Cond.instanceMethod yX3_has, Cond.selects RX3 yX3_has yX3_has, Cond.initialized RX3, Cond.code yX3_has cX3_has 2 (some .boolean), Cond.fieldLink RX3 28 "DogBoard$Rows" "count" "I", Cond.methodLink RX0 127 yX0_isMissing, Cond.instanceMethod yX0_isMissing, Cond.selects RX0 yX0_isMissing yX0_isMissing, Cond.code yX0_isMissing cX0_isMissing 2 (some .boolean), Cond.methodLink RX0 112 yX3_get, Cond.instanceMethod yX3_get, Cond.selects RX3 yX3_get yX3_get, Cond.code yX3_get cX3_get 4 (some .int), Cond.fieldLink RX3 15 "DogBoard$Rows" "width" "I", Cond.fieldLink RX3 24 "DogBoard$Rows" "cells" "[I", Cond.methodLink RX7 160 yX7_throwFor, Cond.static yX7_throwFor, Cond.code yX7_throwFor cX7_throwFor 1 none, Cond.classLink RX7 108 "java/lang/IndexOutOfBoundsException", Cond.initialized "java/lang/IndexOutOfBoundsException", Cond.classLink RX7 48 "java/lang/IllegalArgumentException"]
def wsL_ifFound_r3 : List Cond := [Cond.initialized "java/lang/IllegalArgumentException", Cond.classLink RX7 59 "java/lang/IllegalStateException", Cond.initialized "java/lang/IllegalStateException", Cond.methodLink RX7 230 yX0_shareOf, Cond.instanceMethod yX0_shareOf, Cond.selects RX0 yX0_shareOf yX0_shareOf, Cond.code yX0_shareOf cX0_shareOf 5 (some .int), Cond.methodLink RX0 115 yX0_honestFor, Cond.instanceMethod yX0_honestFor, Cond.selects RX0 yX0_honestFor yX0_honestFor, Cond.code yX0_honestFor cX0_honestFor 2 (some .int), Cond.methodLink RX0 100 yX0_sightingsMeaning, Cond.instanceMethod yX0_sightingsMeaning, Cond.selects RX0 yX0_sightingsMeaning yX0_sightingsMeaning, Cond.code yX0_sightingsMeaning cX0_sightingsMeaning 4 (some .int), Cond.fieldLink RX0 27 "DogBoard$Board" "sightings" "LDogBoard$Rows;", Cond.methodLink RX0 87 yX3_count, Cond.instanceMethod yX3_count, Cond.selects RX3 yX3_count yX3_count, Cond.code yX3_count cX3_count 1 (some .int), Cond.methodLink RX0 124 yX0_fraudsFor, Cond.instanceMethod yX0_fraudsFor, Cond.selects RX0 yX0_fraudsFor yX0_fraudsFor, Cond.code yX0_fraudsFor cX0_fraudsFor 7 (some .int)]
def wsL_ifFound_r4 : List Cond := [Cond.methodLink RX0 135 yX0_trueNowFor, Cond.instanceMethod yX0_trueNowFor, Cond.selects RX0 yX0_trueNowFor yX0_trueNowFor, Cond.code yX0_trueNowFor cX0_trueNowFor 7 (some .int), Cond.fieldLink RX0 12 "DogBoard$Board" "quarter" "LDogBoard$Quarter;", Cond.methodLink RX0 138 yX2_isWithin, Cond.instanceMethod yX2_isWithin, Cond.selects RX2 yX2_isWithin yX2_isWithin, Cond.initialized RX2, Cond.code yX2_isWithin cX2_isWithin 5 (some .boolean), Cond.fieldLink RX2 9 "DogBoard$Quarter" "ways" "[I", Cond.static yX7_hasBit, Cond.code yX7_hasBit cX7_hasBit 2 (some .boolean), Cond.methodLink RX0 145 yX0_fitsOneOf, Cond.instanceMethod yX0_fitsOneOf, Cond.selects RX0 yX0_fitsOneOf yX0_fitsOneOf, Cond.code yX0_fitsOneOf cX0_fitsOneOf 6 (some .boolean), Cond.methodLink RX0 148 Lib.Math.abs.name, Cond.static Lib.Math.abs.name, Cond.initialized "java/lang/Math", Cond.code Lib.Math.abs.name Lib.Math.abs.code 1 (some .int), Cond.methodLink RX0 206 yX0_shareBy, Cond.instanceMethod yX0_shareBy, Cond.selects RX0 yX0_shareBy yX0_shareBy]
def wsL_ifFound_r5 : List Cond := [Cond.code yX0_shareBy cX0_shareBy 10 (some .int), Cond.methodLink RX0 210 yX0_helpOf, Cond.instanceMethod yX0_helpOf, Cond.selects RX0 yX0_helpOf yX0_helpOf, Cond.code yX0_helpOf cX0_helpOf 4 (some .int)]
def wsL_ifFound : List Cond := .codeWith yL_ifFound cL_ifFound 7 (some .int) [(0, 14, 17, 28), (0, 14, 21, 15)] :: ((wsL_ifFound_r1 ++ (wsL_ifFound_r2 ++ (wsL_ifFound_r3 ++ (wsL_ifFound_r4 ++ wsL_ifFound_r5)))) ++ wsX70 ++ wsX00 ++ wsX30 ++ wsX20 ++ (vx_atS RX7 112 "java/lang/IndexOutOfBoundsException" ["java/lang/RuntimeException", "java/lang/Exception"]).filter goodWord ++ (vx_atS RX7 52 "java/lang/IllegalArgumentException" ["java/lang/RuntimeException", "java/lang/Exception"]).filter goodWord ++ (vx_atS RX7 63 "java/lang/IllegalStateException" ["java/lang/RuntimeException", "java/lang/Exception"]).filter goodWord)
def wsL_runScript_r1 : List Cond := [Cond.classLink RL 13 "java/lang/IllegalArgumentException", Cond.methodLink RL 73 yX7_runScript, Cond.instanceMethod yX7_runScript, Cond.selects RX7 yX7_runScript yX7_runScript, Cond.initialized RX7, Cond.code yX7_runScript cX7_runScript 8 (some .int), Cond.classLink RX7 48 "java/lang/IllegalArgumentException", Cond.initialized "java/lang/IllegalArgumentException", Cond.constantLong RX7 235 (1000000), Cond.fieldLink RX7 16 "DogBoard" "trial" "LDogBoard$Board;", Cond.fieldLink RX7 10 "DogBoard" "now" "LDogBoard$Board;", Cond.methodLink RX7 44 yX7_isIn, Cond.static yX7_isIn, Cond.code yX7_isIn cX7_isIn 3 (some .boolean), Cond.methodLink RX7 239 yX0_copyFrom, Cond.instanceMethod yX0_copyFrom, Cond.selects RX0 yX0_copyFrom yX0_copyFrom, Cond.initialized RX0, Cond.code yX0_copyFrom cX0_copyFrom 2 none, Cond.fieldLink RX0 12 "DogBoard$Board" "quarter" "LDogBoard$Quarter;", Cond.fieldLink RX0 23 "DogBoard$Board" "dogs" "LDogBoard$Rows;", Cond.fieldLink RX0 27 "DogBoard$Board" "sightings" "LDogBoard$Rows;", Cond.fieldLink RX0 30 "DogBoard$Board" "purses" "[I", Cond.methodLink RX0 75 Lib.Math.min.name]
def wsL_runScript_r2 : List Cond := [Cond.static Lib.Math.min.name, Cond.initialized "java/lang/Math", Cond.code Lib.Math.min.name Lib.Math.min.code 2 (some .int), Cond.methodLink RX0 81 arraycopyName, Cond.native arraycopyName, Cond.static arraycopyName, Cond.initialized "java/lang/System", Cond.fieldLink RX0 49 "DogBoard$Board" "hour" "I", Cond.fieldLink RX0 53 "DogBoard$Board" "paid" "I", Cond.fieldLink RX0 56 "DogBoard$Board" "given" "I", Cond.fieldLink RX0 59 "DogBoard$Board" "stayed" "I", Cond.fieldLink RX0 62 "DogBoard$Board" "growth" "I", Cond.fieldLink RX0 65 "DogBoard$Board" "mostUnlike" "I", Cond.methodLink RX0 68 yX2_copyFrom, Cond.instanceMethod yX2_copyFrom, Cond.selects RX2 yX2_copyFrom yX2_copyFrom, Cond.initialized RX2, Cond.code yX2_copyFrom cX2_copyFrom 2 none, Cond.fieldLink RX2 9 "DogBoard$Quarter" "ways" "[I", Cond.methodLink RX2 25 Lib.Math.min.name, Cond.methodLink RX2 31 arraycopyName, Cond.fieldLink RX2 18 "DogBoard$Quarter" "closed" "I", Cond.methodLink RX0 72 yX3_copyFrom, Cond.instanceMethod yX3_copyFrom]
def wsL_runScript_r3 : List Cond := [Cond.selects RX3 yX3_copyFrom yX3_copyFrom, Cond.initialized RX3, Cond.code yX3_copyFrom cX3_copyFrom 2 none, Cond.fieldLink RX3 24 "DogBoard$Rows" "cells" "[I", Cond.methodLink RX3 39 Lib.Math.min.name, Cond.methodLink RX3 42 arraycopyName, Cond.fieldLink RX3 28 "DogBoard$Rows" "count" "I", Cond.methodLink RX7 242 yX4_succeeds, Cond.static yX4_succeeds, Cond.initialized RX4, Cond.code yX4_succeeds cX4_succeeds 9 (some .boolean), Cond.constant RX4 9 (100000), Cond.methodLink RX4 10 yX0_passHours, Cond.instanceMethod yX0_passHours, Cond.selects RX0 yX0_passHours yX0_passHours, Cond.code yX0_passHours cX0_passHours 7 (some .int), Cond.methodLink RX0 223 yX0_faultOfPassing, Cond.instanceMethod yX0_faultOfPassing, Cond.selects RX0 yX0_faultOfPassing yX0_faultOfPassing, Cond.code yX0_faultOfPassing cX0_faultOfPassing 2 (some .int), Cond.methodLink RX0 87 yX3_count, Cond.instanceMethod yX3_count, Cond.selects RX3 yX3_count yX3_count, Cond.code yX3_count cX3_count 1 (some .int)]
def wsL_runScript_r4 : List Cond := [Cond.methodLink RX0 112 yX3_get, Cond.instanceMethod yX3_get, Cond.selects RX3 yX3_get yX3_get, Cond.code yX3_get cX3_get 4 (some .int), Cond.fieldLink RX3 15 "DogBoard$Rows" "width" "I", Cond.methodLink RX0 127 yX0_isMissing, Cond.instanceMethod yX0_isMissing, Cond.selects RX0 yX0_isMissing yX0_isMissing, Cond.code yX0_isMissing cX0_isMissing 2 (some .boolean), Cond.methodLink RX0 183 yX3_put, Cond.instanceMethod yX3_put, Cond.selects RX3 yX3_put yX3_put, Cond.code yX3_put cX3_put 5 none, Cond.methodLink RX4 16 yX0_tellSighting, Cond.instanceMethod yX0_tellSighting, Cond.selects RX0 yX0_tellSighting yX0_tellSighting, Cond.code yX0_tellSighting cX0_tellSighting 8 (some .int), Cond.methodLink RX0 190 yX0_faultOfTelling, Cond.instanceMethod yX0_faultOfTelling, Cond.selects RX0 yX0_faultOfTelling yX0_faultOfTelling, Cond.code yX0_faultOfTelling cX0_faultOfTelling 5 (some .int), Cond.static yX7_isFinder, Cond.code yX7_isFinder cX7_isFinder 1 (some .boolean), Cond.static yX7_isCorner]
def wsL_runScript_r5 : List Cond := [Cond.code yX7_isCorner cX7_isCorner 1 (some .boolean), Cond.methodLink RX0 172 yX3_isFull, Cond.instanceMethod yX3_isFull, Cond.selects RX3 yX3_isFull yX3_isFull, Cond.code yX3_isFull cX3_isFull 1 (some .boolean), Cond.fieldLink RX3 9 "DogBoard$Rows" "most" "I", Cond.methodLink RX0 193 yX0_dogMeantBy, Cond.instanceMethod yX0_dogMeantBy, Cond.selects RX0 yX0_dogMeantBy yX0_dogMeantBy, Cond.code yX0_dogMeantBy cX0_dogMeantBy 6 (some .int), Cond.methodLink RX0 118 yX0_unlikeMarks, Cond.instanceMethod yX0_unlikeMarks, Cond.selects RX0 yX0_unlikeMarks yX0_unlikeMarks, Cond.code yX0_unlikeMarks cX0_unlikeMarks 3 (some .int), Cond.methodLink RX0 104 yJ6_bitCount_0f7a4, Cond.static yJ6_bitCount_0f7a4, Cond.initialized RJ6, Cond.code yJ6_bitCount_0f7a4 cJ6_bitCount_0f7a4 1 (some .int), Cond.constant RJ6 265 (1431655765), Cond.constant RJ6 266 (858993459), Cond.constant RJ6 267 (252645135), Cond.methodLink RX0 131 yX0_isMeantBefore, Cond.instanceMethod yX0_isMeantBefore, Cond.selects RX0 yX0_isMeantBefore yX0_isMeantBefore]
def wsL_runScript_r6 : List Cond := [Cond.code yX0_isMeantBefore cX0_isMeantBefore 6 (some .boolean), Cond.methodLink RX0 180 yX3_addRow, Cond.instanceMethod yX3_addRow, Cond.selects RX3 yX3_addRow yX3_addRow, Cond.code yX3_addRow cX3_addRow 3 (some .int), Cond.methodLink RX3 31 yX3_isFull, Cond.methodLink RX3 35 yX3_put, Cond.methodLink RX4 20 yX0_findDog, Cond.instanceMethod yX0_findDog, Cond.selects RX0 yX0_findDog yX0_findDog, Cond.code yX0_findDog cX0_findDog 11 (some .int), Cond.methodLink RX0 199 yX0_faultOfFinding, Cond.instanceMethod yX0_faultOfFinding, Cond.selects RX0 yX0_faultOfFinding yX0_faultOfFinding, Cond.code yX0_faultOfFinding cX0_faultOfFinding 4 (some .int), Cond.methodLink RX0 196 yX0_faultOfAsking, Cond.instanceMethod yX0_faultOfAsking, Cond.selects RX0 yX0_faultOfAsking yX0_faultOfAsking, Cond.code yX0_faultOfAsking cX0_faultOfAsking 2 (some .int), Cond.methodLink RX0 151 yX3_has, Cond.instanceMethod yX3_has, Cond.selects RX3 yX3_has yX3_has, Cond.code yX3_has cX3_has 2 (some .boolean), Cond.methodLink RX0 121 yX0_trueFor]
def wsL_runScript_r7 : List Cond := [Cond.instanceMethod yX0_trueFor, Cond.selects RX0 yX0_trueFor yX0_trueFor, Cond.code yX0_trueFor cX0_trueFor 2 (some .int), Cond.methodLink RX0 135 yX0_trueNowFor, Cond.instanceMethod yX0_trueNowFor, Cond.selects RX0 yX0_trueNowFor yX0_trueNowFor, Cond.code yX0_trueNowFor cX0_trueNowFor 7 (some .int), Cond.methodLink RX0 138 yX2_isWithin, Cond.instanceMethod yX2_isWithin, Cond.selects RX2 yX2_isWithin yX2_isWithin, Cond.code yX2_isWithin cX2_isWithin 5 (some .boolean), Cond.methodLink RX0 124 yX0_fraudsFor, Cond.instanceMethod yX0_fraudsFor, Cond.selects RX0 yX0_fraudsFor yX0_fraudsFor, Cond.code yX0_fraudsFor cX0_fraudsFor 7 (some .int), Cond.methodLink RX0 100 yX0_sightingsMeaning, Cond.instanceMethod yX0_sightingsMeaning, Cond.selects RX0 yX0_sightingsMeaning yX0_sightingsMeaning, Cond.code yX0_sightingsMeaning cX0_sightingsMeaning 4 (some .int), Cond.static yX7_hasBit, Cond.code yX7_hasBit cX7_hasBit 2 (some .boolean), Cond.methodLink RX0 145 yX0_fitsOneOf, Cond.instanceMethod yX0_fitsOneOf, Cond.selects RX0 yX0_fitsOneOf yX0_fitsOneOf]
def wsL_runScript_r8 : List Cond := [Cond.code yX0_fitsOneOf cX0_fitsOneOf 6 (some .boolean), Cond.methodLink RX0 148 Lib.Math.abs.name, Cond.static Lib.Math.abs.name, Cond.code Lib.Math.abs.name Lib.Math.abs.code 1 (some .int), Cond.methodLink RX0 203 yX0_coinsOf, Cond.instanceMethod yX0_coinsOf, Cond.selects RX0 yX0_coinsOf yX0_coinsOf, Cond.code yX0_coinsOf cX0_coinsOf 2 (some .int), Cond.methodLink RX0 206 yX0_shareBy, Cond.instanceMethod yX0_shareBy, Cond.selects RX0 yX0_shareBy yX0_shareBy, Cond.code yX0_shareBy cX0_shareBy 10 (some .int), Cond.methodLink RX0 210 yX0_helpOf, Cond.instanceMethod yX0_helpOf, Cond.selects RX0 yX0_helpOf yX0_helpOf, Cond.code yX0_helpOf cX0_helpOf 4 (some .int), Cond.methodLink RX4 24 yX0_closeStreet, Cond.instanceMethod yX0_closeStreet, Cond.selects RX0 yX0_closeStreet yX0_closeStreet, Cond.code yX0_closeStreet cX0_closeStreet 4 (some .int), Cond.methodLink RX0 216 yX0_faultOfClosing, Cond.instanceMethod yX0_faultOfClosing, Cond.selects RX0 yX0_faultOfClosing yX0_faultOfClosing, Cond.code yX0_faultOfClosing cX0_faultOfClosing 3 (some .int)]
def wsL_runScript_r9 : List Cond := [Cond.methodLink RX0 213 yX2_streetBetween, Cond.static yX2_streetBetween, Cond.code yX2_streetBetween cX2_streetBetween 3 (some .int), Cond.fieldLink RX2 43 "DogBoard$Quarter" "ENDS" "[I", Cond.methodLink RX0 219 yX2_setClosed, Cond.instanceMethod yX2_setClosed, Cond.selects RX2 yX2_setClosed yX2_setClosed, Cond.code yX2_setClosed cX2_setClosed 4 none, Cond.methodLink RX2 22 yX2_measureAll, Cond.instanceMethod yX2_measureAll, Cond.selects RX2 yX2_measureAll yX2_measureAll, Cond.code yX2_measureAll cX2_measureAll 5 none, Cond.methodLink RX2 46 yJ7_fill_53178, Cond.static yJ7_fill_53178, Cond.initialized RJ7, Cond.code yJ7_fill_53178 cJ7_fill_53178 4 none, Cond.methodLink RX2 52 yX2_noteWays, Cond.instanceMethod yX2_noteWays, Cond.selects RX2 yX2_noteWays yX2_noteWays, Cond.code yX2_noteWays cX2_noteWays 6 none, Cond.methodLink RX2 56 yX2_besideAnyOf, Cond.instanceMethod yX2_besideAnyOf, Cond.selects RX2 yX2_besideAnyOf yX2_besideAnyOf, Cond.code yX2_besideAnyOf cX2_besideAnyOf 4 (some .int)]
def wsL_runScript_r10 : List Cond := [Cond.methodLink RX0 109 yX2_closedStreets, Cond.instanceMethod yX2_closedStreets, Cond.selects RX2 yX2_closedStreets yX2_closedStreets, Cond.code yX2_closedStreets cX2_closedStreets 1 (some .int), Cond.methodLink RX2 37 yJ6_bitCount_0f7a4, Cond.methodLink RX4 28 yX0_changeSetting, Cond.instanceMethod yX0_changeSetting, Cond.selects RX0 yX0_changeSetting yX0_changeSetting, Cond.code yX0_changeSetting cX0_changeSetting 4 (some .int), Cond.methodLink RX0 226 yX0_faultOfSetting, Cond.instanceMethod yX0_faultOfSetting, Cond.selects RX0 yX0_faultOfSetting yX0_faultOfSetting, Cond.code yX0_faultOfSetting cX0_faultOfSetting 4 (some .int), Cond.methodLink RX4 36 yX0_isMissing, Cond.methodLink RX4 39 yX0_placesOf, Cond.instanceMethod yX0_placesOf, Cond.selects RX0 yX0_placesOf yX0_placesOf, Cond.code yX0_placesOf cX0_placesOf 5 (some .int), Cond.methodLink RX0 115 yX0_honestFor, Cond.instanceMethod yX0_honestFor, Cond.selects RX0 yX0_honestFor yX0_honestFor, Cond.code yX0_honestFor cX0_honestFor 2 (some .int), Cond.methodLink RX0 154 yX0_canReach, Cond.instanceMethod yX0_canReach]
def wsL_runScript_r11 : List Cond := [Cond.selects RX0 yX0_canReach yX0_canReach, Cond.code yX0_canReach cX0_canReach 8 (some .boolean), Cond.methodLink RX4 46 yX0_fraudsInAll, Cond.instanceMethod yX0_fraudsInAll, Cond.selects RX0 yX0_fraudsInAll yX0_fraudsInAll, Cond.code yX0_fraudsInAll cX0_fraudsInAll 3 (some .int), Cond.methodLink RX4 54 yX3_has, Cond.methodLink RX4 59 yX3_get, Cond.methodLink RX4 65 yX0_coinsOf]
def wsL_runScript : List Cond := .codeWith yL_runScript cL_runScript 6 (some .int) [(0, 11, 14, 13)] :: ((wsL_runScript_r1 ++ (wsL_runScript_r2 ++ (wsL_runScript_r3 ++ (wsL_runScript_r4 ++ (wsL_runScript_r5 ++ (wsL_runScript_r6 ++ (wsL_runScript_r7 ++ (wsL_runScript_r8 ++ (wsL_runScript_r9 ++ (wsL_runScript_r10 ++ wsL_runScript_r11)))))))))) ++ wsX70 ++ wsX00 ++ wsX20 ++ wsX30 ++ (vx_atS RX7 52 "java/lang/IllegalArgumentException" ["java/lang/RuntimeException", "java/lang/Exception"]).filter goodWord)
def wsL_simulate_r1 : List Cond := [Cond.classLink RL 13 "java/lang/IllegalArgumentException", Cond.methodLink RL 77 yX7_simulate, Cond.instanceMethod yX7_simulate, Cond.selects RX7 yX7_simulate yX7_simulate, Cond.initialized RX7, Cond.code yX7_simulate cX7_simulate 7 (some .int), Cond.classLink RX7 48 "java/lang/IllegalArgumentException", Cond.initialized "java/lang/IllegalArgumentException", Cond.fieldLink RX7 16 "DogBoard" "trial" "LDogBoard$Board;", Cond.fieldLink RX7 10 "DogBoard" "now" "LDogBoard$Board;", Cond.constantLong RX7 250 (6364136223846793005), Cond.constantLong RX7 252 (1442695040888963407), Cond.methodLink RX7 44 yX7_isIn, Cond.static yX7_isIn, Cond.code yX7_isIn cX7_isIn 3 (some .boolean), Cond.methodLink RX7 239 yX0_copyFrom, Cond.instanceMethod yX0_copyFrom, Cond.selects RX0 yX0_copyFrom yX0_copyFrom, Cond.initialized RX0, Cond.code yX0_copyFrom cX0_copyFrom 2 none, Cond.fieldLink RX0 12 "DogBoard$Board" "quarter" "LDogBoard$Quarter;", Cond.fieldLink RX0 23 "DogBoard$Board" "dogs" "LDogBoard$Rows;", Cond.fieldLink RX0 27 "DogBoard$Board" "sightings" "LDogBoard$Rows;", Cond.fieldLink RX0 30 "DogBoard$Board" "purses" "[I"]
def wsL_simulate_r2 : List Cond := [Cond.methodLink RX0 75 Lib.Math.min.name, Cond.static Lib.Math.min.name, Cond.initialized "java/lang/Math", Cond.code Lib.Math.min.name Lib.Math.min.code 2 (some .int), Cond.methodLink RX0 81 arraycopyName, Cond.native arraycopyName, Cond.static arraycopyName, Cond.initialized "java/lang/System", Cond.fieldLink RX0 49 "DogBoard$Board" "hour" "I", Cond.fieldLink RX0 53 "DogBoard$Board" "paid" "I", Cond.fieldLink RX0 56 "DogBoard$Board" "given" "I", Cond.fieldLink RX0 59 "DogBoard$Board" "stayed" "I", Cond.fieldLink RX0 62 "DogBoard$Board" "growth" "I", Cond.fieldLink RX0 65 "DogBoard$Board" "mostUnlike" "I", Cond.methodLink RX0 68 yX2_copyFrom, Cond.instanceMethod yX2_copyFrom, Cond.selects RX2 yX2_copyFrom yX2_copyFrom, Cond.initialized RX2, Cond.code yX2_copyFrom cX2_copyFrom 2 none, Cond.fieldLink RX2 9 "DogBoard$Quarter" "ways" "[I", Cond.methodLink RX2 25 Lib.Math.min.name, Cond.methodLink RX2 31 arraycopyName, Cond.fieldLink RX2 18 "DogBoard$Quarter" "closed" "I", Cond.methodLink RX0 72 yX3_copyFrom]
def wsL_simulate_r3 : List Cond := [Cond.instanceMethod yX3_copyFrom, Cond.selects RX3 yX3_copyFrom yX3_copyFrom, Cond.initialized RX3, Cond.code yX3_copyFrom cX3_copyFrom 2 none, Cond.fieldLink RX3 24 "DogBoard$Rows" "cells" "[I", Cond.methodLink RX3 39 Lib.Math.min.name, Cond.methodLink RX3 42 arraycopyName, Cond.fieldLink RX3 28 "DogBoard$Rows" "count" "I", Cond.methodLink RX7 254 yX5_playTurn, Cond.static yX5_playTurn, Cond.initialized RX5, Cond.code yX5_playTurn cX5_playTurn 3 (some .int), Cond.constant RX5 13 (32768), Cond.constant RX5 14 (262144), Cond.methodLink RX5 7 yX0_loseDog, Cond.instanceMethod yX0_loseDog, Cond.selects RX0 yX0_loseDog yX0_loseDog, Cond.code yX0_loseDog cX0_loseDog 6 (some .int), Cond.methodLink RX0 176 yX0_faultOfLosing, Cond.instanceMethod yX0_faultOfLosing, Cond.selects RX0 yX0_faultOfLosing yX0_faultOfLosing, Cond.code yX0_faultOfLosing cX0_faultOfLosing 5 (some .int), Cond.static yX7_isCorner, Cond.code yX7_isCorner cX7_isCorner 1 (some .boolean)]
def wsL_simulate_r4 : List Cond := [Cond.methodLink RX0 172 yX3_isFull, Cond.instanceMethod yX3_isFull, Cond.selects RX3 yX3_isFull yX3_isFull, Cond.code yX3_isFull cX3_isFull 1 (some .boolean), Cond.fieldLink RX3 9 "DogBoard$Rows" "most" "I", Cond.methodLink RX0 180 yX3_addRow, Cond.instanceMethod yX3_addRow, Cond.selects RX3 yX3_addRow yX3_addRow, Cond.code yX3_addRow cX3_addRow 3 (some .int), Cond.fieldLink RX3 15 "DogBoard$Rows" "width" "I", Cond.methodLink RX3 31 yX3_isFull, Cond.methodLink RX3 35 yX3_put, Cond.instanceMethod yX3_put, Cond.selects RX3 yX3_put yX3_put, Cond.code yX3_put cX3_put 5 none, Cond.methodLink RX0 183 yX3_put, Cond.methodLink RX5 15 yX0_tellSighting, Cond.instanceMethod yX0_tellSighting, Cond.selects RX0 yX0_tellSighting yX0_tellSighting, Cond.code yX0_tellSighting cX0_tellSighting 8 (some .int), Cond.methodLink RX0 190 yX0_faultOfTelling, Cond.instanceMethod yX0_faultOfTelling, Cond.selects RX0 yX0_faultOfTelling yX0_faultOfTelling, Cond.code yX0_faultOfTelling cX0_faultOfTelling 5 (some .int)]
def wsL_simulate_r5 : List Cond := [Cond.static yX7_isFinder, Cond.code yX7_isFinder cX7_isFinder 1 (some .boolean), Cond.methodLink RX0 193 yX0_dogMeantBy, Cond.instanceMethod yX0_dogMeantBy, Cond.selects RX0 yX0_dogMeantBy yX0_dogMeantBy, Cond.code yX0_dogMeantBy cX0_dogMeantBy 6 (some .int), Cond.methodLink RX0 87 yX3_count, Cond.instanceMethod yX3_count, Cond.selects RX3 yX3_count yX3_count, Cond.code yX3_count cX3_count 1 (some .int), Cond.methodLink RX0 127 yX0_isMissing, Cond.instanceMethod yX0_isMissing, Cond.selects RX0 yX0_isMissing yX0_isMissing, Cond.code yX0_isMissing cX0_isMissing 2 (some .boolean), Cond.methodLink RX0 112 yX3_get, Cond.instanceMethod yX3_get, Cond.selects RX3 yX3_get yX3_get, Cond.code yX3_get cX3_get 4 (some .int), Cond.methodLink RX0 118 yX0_unlikeMarks, Cond.instanceMethod yX0_unlikeMarks, Cond.selects RX0 yX0_unlikeMarks yX0_unlikeMarks, Cond.code yX0_unlikeMarks cX0_unlikeMarks 3 (some .int), Cond.methodLink RX0 104 yJ6_bitCount_0f7a4, Cond.static yJ6_bitCount_0f7a4]
def wsL_simulate_r6 : List Cond := [Cond.initialized RJ6, Cond.code yJ6_bitCount_0f7a4 cJ6_bitCount_0f7a4 1 (some .int), Cond.constant RJ6 265 (1431655765), Cond.constant RJ6 266 (858993459), Cond.constant RJ6 267 (252645135), Cond.methodLink RX0 131 yX0_isMeantBefore, Cond.instanceMethod yX0_isMeantBefore, Cond.selects RX0 yX0_isMeantBefore yX0_isMeantBefore, Cond.code yX0_isMeantBefore cX0_isMeantBefore 6 (some .boolean), Cond.methodLink RX5 19 yX0_findDog, Cond.instanceMethod yX0_findDog, Cond.selects RX0 yX0_findDog yX0_findDog, Cond.code yX0_findDog cX0_findDog 11 (some .int), Cond.methodLink RX0 199 yX0_faultOfFinding, Cond.instanceMethod yX0_faultOfFinding, Cond.selects RX0 yX0_faultOfFinding yX0_faultOfFinding, Cond.code yX0_faultOfFinding cX0_faultOfFinding 4 (some .int), Cond.methodLink RX0 196 yX0_faultOfAsking, Cond.instanceMethod yX0_faultOfAsking, Cond.selects RX0 yX0_faultOfAsking yX0_faultOfAsking, Cond.code yX0_faultOfAsking cX0_faultOfAsking 2 (some .int), Cond.methodLink RX0 151 yX3_has, Cond.instanceMethod yX3_has, Cond.selects RX3 yX3_has yX3_has]
def wsL_simulate_r7 : List Cond := [Cond.code yX3_has cX3_has 2 (some .boolean), Cond.methodLink RX0 121 yX0_trueFor, Cond.instanceMethod yX0_trueFor, Cond.selects RX0 yX0_trueFor yX0_trueFor, Cond.code yX0_trueFor cX0_trueFor 2 (some .int), Cond.methodLink RX0 135 yX0_trueNowFor, Cond.instanceMethod yX0_trueNowFor, Cond.selects RX0 yX0_trueNowFor yX0_trueNowFor, Cond.code yX0_trueNowFor cX0_trueNowFor 7 (some .int), Cond.methodLink RX0 138 yX2_isWithin, Cond.instanceMethod yX2_isWithin, Cond.selects RX2 yX2_isWithin yX2_isWithin, Cond.code yX2_isWithin cX2_isWithin 5 (some .boolean), Cond.methodLink RX0 124 yX0_fraudsFor, Cond.instanceMethod yX0_fraudsFor, Cond.selects RX0 yX0_fraudsFor yX0_fraudsFor, Cond.code yX0_fraudsFor cX0_fraudsFor 7 (some .int), Cond.methodLink RX0 100 yX0_sightingsMeaning, Cond.instanceMethod yX0_sightingsMeaning, Cond.selects RX0 yX0_sightingsMeaning yX0_sightingsMeaning, Cond.code yX0_sightingsMeaning cX0_sightingsMeaning 4 (some .int), Cond.static yX7_hasBit, Cond.code yX7_hasBit cX7_hasBit 2 (some .boolean), Cond.methodLink RX0 145 yX0_fitsOneOf]
def wsL_simulate_r8 : List Cond := [Cond.instanceMethod yX0_fitsOneOf, Cond.selects RX0 yX0_fitsOneOf yX0_fitsOneOf, Cond.code yX0_fitsOneOf cX0_fitsOneOf 6 (some .boolean), Cond.methodLink RX0 148 Lib.Math.abs.name, Cond.static Lib.Math.abs.name, Cond.code Lib.Math.abs.name Lib.Math.abs.code 1 (some .int), Cond.methodLink RX0 203 yX0_coinsOf, Cond.instanceMethod yX0_coinsOf, Cond.selects RX0 yX0_coinsOf yX0_coinsOf, Cond.code yX0_coinsOf cX0_coinsOf 2 (some .int), Cond.methodLink RX0 206 yX0_shareBy, Cond.instanceMethod yX0_shareBy, Cond.selects RX0 yX0_shareBy yX0_shareBy, Cond.code yX0_shareBy cX0_shareBy 10 (some .int), Cond.methodLink RX0 210 yX0_helpOf, Cond.instanceMethod yX0_helpOf, Cond.selects RX0 yX0_helpOf yX0_helpOf, Cond.code yX0_helpOf cX0_helpOf 4 (some .int), Cond.methodLink RX5 23 yX0_closeStreet, Cond.instanceMethod yX0_closeStreet, Cond.selects RX0 yX0_closeStreet yX0_closeStreet, Cond.code yX0_closeStreet cX0_closeStreet 4 (some .int), Cond.methodLink RX0 216 yX0_faultOfClosing, Cond.instanceMethod yX0_faultOfClosing]
def wsL_simulate_r9 : List Cond := [Cond.selects RX0 yX0_faultOfClosing yX0_faultOfClosing, Cond.code yX0_faultOfClosing cX0_faultOfClosing 3 (some .int), Cond.methodLink RX0 213 yX2_streetBetween, Cond.static yX2_streetBetween, Cond.code yX2_streetBetween cX2_streetBetween 3 (some .int), Cond.fieldLink RX2 43 "DogBoard$Quarter" "ENDS" "[I", Cond.methodLink RX0 219 yX2_setClosed, Cond.instanceMethod yX2_setClosed, Cond.selects RX2 yX2_setClosed yX2_setClosed, Cond.code yX2_setClosed cX2_setClosed 4 none, Cond.methodLink RX2 22 yX2_measureAll, Cond.instanceMethod yX2_measureAll, Cond.selects RX2 yX2_measureAll yX2_measureAll, Cond.code yX2_measureAll cX2_measureAll 5 none, Cond.methodLink RX2 46 yJ7_fill_53178, Cond.static yJ7_fill_53178, Cond.initialized RJ7, Cond.code yJ7_fill_53178 cJ7_fill_53178 4 none, Cond.methodLink RX2 52 yX2_noteWays, Cond.instanceMethod yX2_noteWays, Cond.selects RX2 yX2_noteWays yX2_noteWays, Cond.code yX2_noteWays cX2_noteWays 6 none, Cond.methodLink RX2 56 yX2_besideAnyOf, Cond.instanceMethod yX2_besideAnyOf]
def wsL_simulate_r10 : List Cond := [Cond.selects RX2 yX2_besideAnyOf yX2_besideAnyOf, Cond.code yX2_besideAnyOf cX2_besideAnyOf 4 (some .int), Cond.methodLink RX0 109 yX2_closedStreets, Cond.instanceMethod yX2_closedStreets, Cond.selects RX2 yX2_closedStreets yX2_closedStreets, Cond.code yX2_closedStreets cX2_closedStreets 1 (some .int), Cond.methodLink RX2 37 yJ6_bitCount_0f7a4, Cond.methodLink RX5 27 yX0_passHours, Cond.instanceMethod yX0_passHours, Cond.selects RX0 yX0_passHours yX0_passHours, Cond.code yX0_passHours cX0_passHours 7 (some .int), Cond.methodLink RX0 223 yX0_faultOfPassing, Cond.instanceMethod yX0_faultOfPassing, Cond.selects RX0 yX0_faultOfPassing yX0_faultOfPassing, Cond.code yX0_faultOfPassing cX0_faultOfPassing 2 (some .int), Cond.methodLink RX7 263 yX0_fraudsInAll, Cond.instanceMethod yX0_fraudsInAll, Cond.selects RX0 yX0_fraudsInAll yX0_fraudsInAll, Cond.code yX0_fraudsInAll cX0_fraudsInAll 3 (some .int), Cond.methodLink RX7 266 yX0_missingDogs, Cond.instanceMethod yX0_missingDogs, Cond.selects RX0 yX0_missingDogs yX0_missingDogs, Cond.code yX0_missingDogs cX0_missingDogs 3 (some .int)]
def wsL_simulate : List Cond := .codeWith yL_simulate cL_simulate 6 (some .int) [(0, 11, 14, 13)] :: ((wsL_simulate_r1 ++ (wsL_simulate_r2 ++ (wsL_simulate_r3 ++ (wsL_simulate_r4 ++ (wsL_simulate_r5 ++ (wsL_simulate_r6 ++ (wsL_simulate_r7 ++ (wsL_simulate_r8 ++ (wsL_simulate_r9 ++ wsL_simulate_r10))))))))) ++ wsX70 ++ wsX00 ++ wsX20 ++ wsX30 ++ (vx_atS RX7 52 "java/lang/IllegalArgumentException" ["java/lang/RuntimeException", "java/lang/Exception"]).filter goodWord)
def wsL_save_r1 : List Cond := [Cond.classLink RL 28 "java/lang/IndexOutOfBoundsException", Cond.methodLink RL 81 yX7_save, Cond.instanceMethod yX7_save, Cond.selects RX7 yX7_save yX7_save, Cond.initialized RX7, Cond.code yX7_save cX7_save 3 (some .int), Cond.classLink RX7 108 "java/lang/IndexOutOfBoundsException", Cond.initialized "java/lang/IndexOutOfBoundsException", Cond.fieldLink RX7 26 "DogBoard" "slots" "[LDogBoard$Board;", Cond.fieldLink RX7 10 "DogBoard" "now" "LDogBoard$Board;", Cond.fieldLink RX7 30 "DogBoard" "filled" "[Z", Cond.methodLink RX7 269 yX7_isSlot, Cond.instanceMethod yX7_isSlot, Cond.selects RX7 yX7_isSlot yX7_isSlot, Cond.code yX7_isSlot cX7_isSlot 2 (some .boolean), Cond.methodLink RX7 239 yX0_copyFrom, Cond.instanceMethod yX0_copyFrom, Cond.selects RX0 yX0_copyFrom yX0_copyFrom, Cond.initialized RX0, Cond.code yX0_copyFrom cX0_copyFrom 2 none, Cond.fieldLink RX0 12 "DogBoard$Board" "quarter" "LDogBoard$Quarter;", Cond.fieldLink RX0 23 "DogBoard$Board" "dogs" "LDogBoard$Rows;", Cond.fieldLink RX0 27 "DogBoard$Board" "sightings" "LDogBoard$Rows;", Cond.fieldLink RX0 30 "DogBoard$Board" "purses" "[I"]
def wsL_save_r2 : List Cond := [Cond.methodLink RX0 75 Lib.Math.min.name, Cond.static Lib.Math.min.name, Cond.initialized "java/lang/Math", Cond.code Lib.Math.min.name Lib.Math.min.code 2 (some .int), Cond.methodLink RX0 81 arraycopyName, Cond.native arraycopyName, Cond.static arraycopyName, Cond.initialized "java/lang/System", Cond.fieldLink RX0 49 "DogBoard$Board" "hour" "I", Cond.fieldLink RX0 53 "DogBoard$Board" "paid" "I", Cond.fieldLink RX0 56 "DogBoard$Board" "given" "I", Cond.fieldLink RX0 59 "DogBoard$Board" "stayed" "I", Cond.fieldLink RX0 62 "DogBoard$Board" "growth" "I", Cond.fieldLink RX0 65 "DogBoard$Board" "mostUnlike" "I", Cond.methodLink RX0 68 yX2_copyFrom, Cond.instanceMethod yX2_copyFrom, Cond.selects RX2 yX2_copyFrom yX2_copyFrom, Cond.initialized RX2, Cond.code yX2_copyFrom cX2_copyFrom 2 none, Cond.fieldLink RX2 9 "DogBoard$Quarter" "ways" "[I", Cond.methodLink RX2 25 Lib.Math.min.name, Cond.methodLink RX2 31 arraycopyName, Cond.fieldLink RX2 18 "DogBoard$Quarter" "closed" "I", Cond.methodLink RX0 72 yX3_copyFrom]
def wsL_save_r3 : List Cond := [Cond.instanceMethod yX3_copyFrom, Cond.selects RX3 yX3_copyFrom yX3_copyFrom, Cond.initialized RX3, Cond.code yX3_copyFrom cX3_copyFrom 2 none, Cond.fieldLink RX3 24 "DogBoard$Rows" "cells" "[I", Cond.methodLink RX3 39 Lib.Math.min.name, Cond.methodLink RX3 42 arraycopyName, Cond.fieldLink RX3 28 "DogBoard$Rows" "count" "I"]
def wsL_save : List Cond := .codeWith yL_save cL_save 4 (some .int) [(0, 9, 12, 28)] :: ((wsL_save_r1 ++ (wsL_save_r2 ++ wsL_save_r3)) ++ wsX70 ++ wsX00 ++ wsX20 ++ wsX30 ++ (vx_atS RX7 112 "java/lang/IndexOutOfBoundsException" ["java/lang/RuntimeException", "java/lang/Exception"]).filter goodWord)
def wsL_restore_r1 : List Cond := [Cond.classLink RL 28 "java/lang/IndexOutOfBoundsException", Cond.classLink RL 15 "java/lang/IllegalStateException", Cond.methodLink RL 84 yX7_restore, Cond.instanceMethod yX7_restore, Cond.selects RX7 yX7_restore yX7_restore, Cond.initialized RX7, Cond.code yX7_restore cX7_restore 3 (some .int), Cond.classLink RX7 108 "java/lang/IndexOutOfBoundsException", Cond.initialized "java/lang/IndexOutOfBoundsException", Cond.classLink RX7 59 "java/lang/IllegalStateException", Cond.initialized "java/lang/IllegalStateException", Cond.fieldLink RX7 26 "DogBoard" "slots" "[LDogBoard$Board;", Cond.fieldLink RX7 30 "DogBoard" "filled" "[Z", Cond.fieldLink RX7 10 "DogBoard" "now" "LDogBoard$Board;", Cond.fieldLink RX7 22 "DogBoard" "history" "LDogBoard$History;", Cond.methodLink RX7 269 yX7_isSlot, Cond.instanceMethod yX7_isSlot, Cond.selects RX7 yX7_isSlot yX7_isSlot, Cond.code yX7_isSlot cX7_isSlot 2 (some .boolean), Cond.methodLink RX7 239 yX0_copyFrom, Cond.instanceMethod yX0_copyFrom, Cond.selects RX0 yX0_copyFrom yX0_copyFrom, Cond.initialized RX0, Cond.code yX0_copyFrom cX0_copyFrom 2 none]
def wsL_restore_r2 : List Cond := [Cond.fieldLink RX0 12 "DogBoard$Board" "quarter" "LDogBoard$Quarter;", Cond.fieldLink RX0 23 "DogBoard$Board" "dogs" "LDogBoard$Rows;", Cond.fieldLink RX0 27 "DogBoard$Board" "sightings" "LDogBoard$Rows;", Cond.fieldLink RX0 30 "DogBoard$Board" "purses" "[I", Cond.methodLink RX0 75 Lib.Math.min.name, Cond.static Lib.Math.min.name, Cond.initialized "java/lang/Math", Cond.code Lib.Math.min.name Lib.Math.min.code 2 (some .int), Cond.methodLink RX0 81 arraycopyName, Cond.native arraycopyName, Cond.static arraycopyName, Cond.initialized "java/lang/System", Cond.fieldLink RX0 49 "DogBoard$Board" "hour" "I", Cond.fieldLink RX0 53 "DogBoard$Board" "paid" "I", Cond.fieldLink RX0 56 "DogBoard$Board" "given" "I", Cond.fieldLink RX0 59 "DogBoard$Board" "stayed" "I", Cond.fieldLink RX0 62 "DogBoard$Board" "growth" "I", Cond.fieldLink RX0 65 "DogBoard$Board" "mostUnlike" "I", Cond.methodLink RX0 68 yX2_copyFrom, Cond.instanceMethod yX2_copyFrom, Cond.selects RX2 yX2_copyFrom yX2_copyFrom, Cond.initialized RX2, Cond.code yX2_copyFrom cX2_copyFrom 2 none, Cond.fieldLink RX2 9 "DogBoard$Quarter" "ways" "[I"]
def wsL_restore_r3 : List Cond := [Cond.methodLink RX2 25 Lib.Math.min.name, Cond.methodLink RX2 31 arraycopyName, Cond.fieldLink RX2 18 "DogBoard$Quarter" "closed" "I", Cond.methodLink RX0 72 yX3_copyFrom, Cond.instanceMethod yX3_copyFrom, Cond.selects RX3 yX3_copyFrom yX3_copyFrom, Cond.initialized RX3, Cond.code yX3_copyFrom cX3_copyFrom 2 none, Cond.fieldLink RX3 24 "DogBoard$Rows" "cells" "[I", Cond.methodLink RX3 39 Lib.Math.min.name, Cond.methodLink RX3 42 arraycopyName, Cond.fieldLink RX3 28 "DogBoard$Rows" "count" "I", Cond.methodLink RX7 77 yX1_forgetAll, Cond.instanceMethod yX1_forgetAll, Cond.selects RX1 yX1_forgetAll yX1_forgetAll, Cond.initialized RX1, Cond.code yX1_forgetAll cX1_forgetAll 1 none, Cond.fieldLink RX1 22 "DogBoard$History" "oldest" "I", Cond.fieldLink RX1 18 "DogBoard$History" "count" "I"]
def wsL_restore : List Cond := .codeWith yL_restore cL_restore 4 (some .int) [(0, 9, 12, 28), (0, 9, 15, 15)] :: ((wsL_restore_r1 ++ (wsL_restore_r2 ++ wsL_restore_r3)) ++ wsX70 ++ wsX00 ++ wsX20 ++ wsX30 ++ wsX10 ++ (vx_atS RX7 112 "java/lang/IndexOutOfBoundsException" ["java/lang/RuntimeException", "java/lang/Exception"]).filter goodWord ++ (vx_atS RX7 63 "java/lang/IllegalStateException" ["java/lang/RuntimeException", "java/lang/Exception"]).filter goodWord)
def wsL_law0_r1 : List Cond := [Cond.classLink RL 8 RX7, Cond.instantiable RX7 6, Cond.initialized RX7, Cond.classLink RL 88 RX8, Cond.instantiable RX8 13, Cond.initialized RX8, Cond.arrayClass .long, Cond.constantLong RL 166 (4294967295), Cond.methodLink RL 87 yX7_init, Cond.instanceMethod yX7_init, Cond.code yX7_init cX7_init 2 none, Cond.methodLink RX7 1 objectInit, Cond.instanceMethod objectInit, Cond.code objectInit ⟨#[0xb1]⟩ 1 none, Cond.classLink RX7 7 RX0, Cond.instantiable RX0 11, Cond.initialized RX0, Cond.fieldLink RX7 10 "DogBoard" "now" "LDogBoard$Board;", Cond.fieldLink RX7 16 "DogBoard" "trial" "LDogBoard$Board;", Cond.classLink RX7 19 RX1, Cond.instantiable RX1 3, Cond.initialized RX1, Cond.fieldLink RX7 22 "DogBoard" "history" "LDogBoard$History;", Cond.fieldLink RX7 26 "DogBoard" "slots" "[LDogBoard$Board;"]
def wsL_law0_r2 : List Cond := [Cond.arrayClass .boolean, Cond.fieldLink RX7 30 "DogBoard" "filled" "[Z", Cond.classLink RX7 34 RX6, Cond.instantiable RX6 6, Cond.initialized RX6, Cond.fieldLink RX7 37 "DogBoard" "text" "LDogBoard$Text;", Cond.instanceMethod yX0_init, Cond.code yX0_init cX0_init 1 none, Cond.methodLink RX0 3 objectInit, Cond.classLink RX0 9 RX2, Cond.instantiable RX2 3, Cond.initialized RX2, Cond.fieldLink RX0 12 "DogBoard$Board" "quarter" "LDogBoard$Quarter;", Cond.classLink RX0 18 RX3, Cond.instantiable RX3 4, Cond.initialized RX3, Cond.fieldLink RX0 23 "DogBoard$Board" "dogs" "LDogBoard$Rows;", Cond.fieldLink RX0 27 "DogBoard$Board" "sightings" "LDogBoard$Rows;", Cond.arrayClass .int, Cond.fieldLink RX0 30 "DogBoard$Board" "purses" "[I", Cond.fieldLink RX0 34 "DogBoard$Board" "places" "[I", Cond.instanceMethod yX2_init, Cond.code yX2_init cX2_init 1 none, Cond.methodLink RX2 3 objectInit]
def wsL_law0_r3 : List Cond := [Cond.fieldLink RX2 9 "DogBoard$Quarter" "ways" "[I", Cond.fieldLink RX2 15 "DogBoard$Quarter" "sweep" "[I", Cond.methodLink RX0 20 yX3_init, Cond.instanceMethod yX3_init, Cond.code yX3_init cX3_init 3 none, Cond.methodLink RX3 3 objectInit, Cond.fieldLink RX3 9 "DogBoard$Rows" "most" "I", Cond.fieldLink RX3 15 "DogBoard$Rows" "width" "I", Cond.methodLink RX3 18 Lib.Math.max.name, Cond.static Lib.Math.max.name, Cond.initialized "java/lang/Math", Cond.code Lib.Math.max.name Lib.Math.max.code 2 (some .int), Cond.fieldLink RX3 24 "DogBoard$Rows" "cells" "[I", Cond.methodLink RX7 21 yX1_init, Cond.instanceMethod yX1_init, Cond.code yX1_init cX1_init 2 none, Cond.methodLink RX1 3 objectInit, Cond.classLink RX1 9 RX0, Cond.fieldLink RX1 11 "DogBoard$History" "states" "[LDogBoard$Board;", Cond.instanceMethod yX6_init, Cond.code yX6_init cX6_init 1 none, Cond.methodLink RX6 3 objectInit, Cond.fieldLink RX6 9 "DogBoard$Text" "signs" "[I", Cond.fieldLink RX6 15 "DogBoard$Text" "parts" "[I"]
def wsL_law0_r4 : List Cond := [Cond.methodLink RX7 41 yX0_makeNew, Cond.instanceMethod yX0_makeNew, Cond.selects RX0 yX0_makeNew yX0_makeNew, Cond.code yX0_makeNew cX0_makeNew 1 none, Cond.fieldLink RX0 49 "DogBoard$Board" "hour" "I", Cond.fieldLink RX0 53 "DogBoard$Board" "paid" "I", Cond.fieldLink RX0 56 "DogBoard$Board" "given" "I", Cond.fieldLink RX0 59 "DogBoard$Board" "stayed" "I", Cond.fieldLink RX0 62 "DogBoard$Board" "growth" "I", Cond.fieldLink RX0 65 "DogBoard$Board" "mostUnlike" "I", Cond.methodLink RX0 37 yX2_openAll, Cond.instanceMethod yX2_openAll, Cond.selects RX2 yX2_openAll yX2_openAll, Cond.code yX2_openAll cX2_openAll 1 none, Cond.fieldLink RX2 18 "DogBoard$Quarter" "closed" "I", Cond.methodLink RX2 22 yX2_measureAll, Cond.instanceMethod yX2_measureAll, Cond.selects RX2 yX2_measureAll yX2_measureAll, Cond.code yX2_measureAll cX2_measureAll 5 none, Cond.methodLink RX2 46 yJ7_fill_53178, Cond.static yJ7_fill_53178, Cond.initialized RJ7, Cond.code yJ7_fill_53178 cJ7_fill_53178 4 none, Cond.methodLink RX2 52 yX2_noteWays]
def wsL_law0_r5 : List Cond := [Cond.instanceMethod yX2_noteWays, Cond.selects RX2 yX2_noteWays yX2_noteWays, Cond.code yX2_noteWays cX2_noteWays 6 none, Cond.static yX7_hasBit, Cond.code yX7_hasBit cX7_hasBit 2 (some .boolean), Cond.methodLink RX2 56 yX2_besideAnyOf, Cond.instanceMethod yX2_besideAnyOf, Cond.selects RX2 yX2_besideAnyOf yX2_besideAnyOf, Cond.code yX2_besideAnyOf cX2_besideAnyOf 4 (some .int), Cond.fieldLink RX2 43 "DogBoard$Quarter" "ENDS" "[I", Cond.methodLink RX0 40 yX3_empty, Cond.instanceMethod yX3_empty, Cond.selects RX3 yX3_empty yX3_empty, Cond.code yX3_empty cX3_empty 1 none, Cond.fieldLink RX3 28 "DogBoard$Rows" "count" "I", Cond.methodLink RX0 43 yJ7_fill_53178, Cond.methodLink RL 90 yX8_init, Cond.instanceMethod yX8_init, Cond.code yX8_init cX8_init 1 none, Cond.methodLink RX8 1 objectInit, Cond.fieldLink RX8 7 "DogBoardModel" "text" "[I", Cond.fieldLink RX8 13 "DogBoardModel" "now" "[I", Cond.fieldLink RX8 16 "DogBoardModel" "trial" "[I", Cond.fieldLink RX8 19 "DogBoardModel" "diary" "[I"]
def wsL_law0_r6 : List Cond := [Cond.fieldLink RX8 22 "DogBoardModel" "kept" "[I", Cond.fieldLink RX8 25 "DogBoardModel" "isKept" "[Z", Cond.fieldLink RX8 29 "DogBoardModel" "way" "[I", Cond.fieldLink RX8 32 "DogBoardModel" "help" "[I", Cond.methodLink RX8 35 yX8_clear, Cond.static yX8_clear, Cond.code yX8_clear cX8_clear 2 none, Cond.methodLink RL 91 yL_append, Cond.static yL_append, Cond.initialized RL, Cond.codeWith yL_append cL_append 4 (some .int) [(0, 9, 12, 13), (0, 9, 15, 15)], Cond.classLink RL 13 "java/lang/IllegalArgumentException", Cond.classLink RL 15 "java/lang/IllegalStateException", Cond.methodLink RL 7 yX7_append, Cond.instanceMethod yX7_append, Cond.selects RX7 yX7_append yX7_append, Cond.code yX7_append cX7_append 2 (some .int), Cond.classLink RX7 48 "java/lang/IllegalArgumentException", Cond.initialized "java/lang/IllegalArgumentException", Cond.classLink RX7 59 "java/lang/IllegalStateException", Cond.initialized "java/lang/IllegalStateException", Cond.methodLink RX7 44 yX7_isIn, Cond.static yX7_isIn, Cond.code yX7_isIn cX7_isIn 3 (some .boolean)]
def wsL_law0_r7 : List Cond := [Cond.methodLink RX7 55 yX6_isFull, Cond.instanceMethod yX6_isFull, Cond.selects RX6 yX6_isFull yX6_isFull, Cond.code yX6_isFull cX6_isFull 1 (some .boolean), Cond.fieldLink RX6 18 "DogBoard$Text" "length" "I", Cond.methodLink RX7 64 yX6_add, Cond.instanceMethod yX6_add, Cond.selects RX6 yX6_add yX6_add, Cond.code yX6_add cX6_add 2 (some .int), Cond.methodLink RL 96 yX8_append, Cond.instanceMethod yX8_append, Cond.selects RX8 yX8_append yX8_append, Cond.code yX8_append cX8_append 2 (some .int), Cond.constantLong RX8 109 (255), Cond.fieldLink RX8 111 "DogBoardModel" "size" "I", Cond.methodLink RX8 43 yX8_in, Cond.static yX8_in, Cond.code yX8_in cX8_in 6 (some .boolean), Cond.methodLink RX8 114 yX8_refused, Cond.instanceMethod yX8_refused, Cond.selects RX8 yX8_refused yX8_refused, Cond.code yX8_refused cX8_refused 2 (some .boolean), Cond.fieldLink RX8 39 "DogBoardModel" "refusal" "I", Cond.methodLink RL 97 yX8_thrown]
def wsL_law0_r8 : List Cond := [Cond.instanceMethod yX8_thrown, Cond.selects RX8 yX8_thrown yX8_thrown, Cond.code yX8_thrown cX8_thrown 1 (some .int), Cond.methodLink RL 100 yX7_clearText, Cond.instanceMethod yX7_clearText, Cond.selects RX7 yX7_clearText yX7_clearText, Cond.code yX7_clearText cX7_clearText 1 (some .int), Cond.methodLink RX7 68 yX6_empty, Cond.instanceMethod yX6_empty, Cond.selects RX6 yX6_empty yX6_empty, Cond.code yX6_empty cX6_empty 2 (some .int), Cond.methodLink RL 103 yX8_clearText, Cond.instanceMethod yX8_clearText, Cond.selects RX8 yX8_clearText yX8_clearText, Cond.code yX8_clearText cX8_clearText 2 (some .int), Cond.methodLink RL 104 yX7_errorPosition, Cond.instanceMethod yX7_errorPosition, Cond.selects RX7 yX7_errorPosition yX7_errorPosition, Cond.code yX7_errorPosition cX7_errorPosition 1 (some .int), Cond.methodLink RX7 72 yX6_firstError, Cond.instanceMethod yX6_firstError, Cond.selects RX6 yX6_firstError yX6_firstError, Cond.code yX6_firstError cX6_firstError 3 (some .int), Cond.fieldLink RX6 32 "DogBoard$Text" "position" "I"]
def wsL_law0_r9 : List Cond := [Cond.methodLink RX6 22 yX6_readStart, Cond.instanceMethod yX6_readStart, Cond.selects RX6 yX6_readStart yX6_readStart, Cond.code yX6_readStart cX6_readStart 1 (some .boolean), Cond.methodLink RX6 60 yX6_signHere, Cond.instanceMethod yX6_signHere, Cond.selects RX6 yX6_signHere yX6_signHere, Cond.code yX6_signHere cX6_signHere 2 (some .int), Cond.methodLink RX6 26 yX6_hasMore, Cond.instanceMethod yX6_hasMore, Cond.selects RX6 yX6_hasMore yX6_hasMore, Cond.code yX6_hasMore cX6_hasMore 1 (some .boolean), Cond.methodLink RX6 29 yX6_readCommand, Cond.instanceMethod yX6_readCommand, Cond.selects RX6 yX6_readCommand yX6_readCommand, Cond.code yX6_readCommand cX6_readCommand 1 (some .boolean), Cond.fieldLink RX6 35 "DogBoard$Text" "letter" "I", Cond.fieldLink RX6 64 "DogBoard$Text" "partCount" "I", Cond.methodLink RX6 67 yX6_readNumber, Cond.instanceMethod yX6_readNumber, Cond.selects RX6 yX6_readNumber yX6_readNumber, Cond.code yX6_readNumber cX6_readNumber 8 (some .boolean), Cond.methodLink RX6 80 yX6_keepPart, Cond.instanceMethod yX6_keepPart]
def wsL_law0_r10 : List Cond := [Cond.selects RX6 yX6_keepPart yX6_keepPart, Cond.code yX6_keepPart cX6_keepPart 2 none, Cond.methodLink RX6 71 yX6_readCorner, Cond.instanceMethod yX6_readCorner, Cond.selects RX6 yX6_readCorner yX6_readCorner, Cond.code yX6_readCorner cX6_readCorner 1 (some .boolean), Cond.methodLink RX6 74 yX6_readFinder, Cond.instanceMethod yX6_readFinder, Cond.selects RX6 yX6_readFinder yX6_readFinder, Cond.code yX6_readFinder cX6_readFinder 1 (some .boolean), Cond.methodLink RX6 77 yX6_readPlusOrMinus, Cond.instanceMethod yX6_readPlusOrMinus, Cond.selects RX6 yX6_readPlusOrMinus yX6_readPlusOrMinus, Cond.code yX6_readPlusOrMinus cX6_readPlusOrMinus 2 (some .boolean), Cond.methodLink RL 107 yX8_errorPosition, Cond.instanceMethod yX8_errorPosition, Cond.selects RX8 yX8_errorPosition yX8_errorPosition, Cond.code yX8_errorPosition cX8_errorPosition 1 (some .int), Cond.methodLink RX8 181 yX8_readText, Cond.instanceMethod yX8_readText, Cond.selects RX8 yX8_readText yX8_readText, Cond.code yX8_readText cX8_readText 2 (some .int), Cond.fieldLink RX8 123 "DogBoardModel" "out" "I", Cond.fieldLink RX8 118 "DogBoardModel" "spot" "I"]
def wsL_law0_r11 : List Cond := [Cond.methodLink RX8 178 yX8_readCommand, Cond.instanceMethod yX8_readCommand, Cond.selects RX8 yX8_readCommand yX8_readCommand, Cond.code yX8_readCommand cX8_readCommand 4 (some .boolean), Cond.methodLink RX8 161 yX8_readLose, Cond.instanceMethod yX8_readLose, Cond.selects RX8 yX8_readLose yX8_readLose, Cond.code yX8_readLose cX8_readLose 6 (some .boolean), Cond.methodLink RX8 126 yX8_figures, Cond.instanceMethod yX8_figures, Cond.selects RX8 yX8_figures yX8_figures, Cond.code yX8_figures cX8_figures 9 (some .int), Cond.constantLong RX8 121 (9), Cond.methodLink RX8 130 yX8_cornerSign, Cond.instanceMethod yX8_cornerSign, Cond.selects RX8 yX8_cornerSign yX8_cornerSign, Cond.code yX8_cornerSign cX8_cornerSign 2 (some .int), Cond.methodLink RX8 133 yX8_loseOn, Cond.static yX8_loseOn, Cond.code yX8_loseOn cX8_loseOn 7 (some .int), Cond.methodLink RX8 137 yX8_done, Cond.instanceMethod yX8_done, Cond.selects RX8 yX8_done yX8_done, Cond.code yX8_done cX8_done 2 (some .boolean)]
def wsL_law0_r12 : List Cond := [Cond.methodLink RX8 165 yX8_readSight, Cond.instanceMethod yX8_readSight, Cond.selects RX8 yX8_readSight yX8_readSight, Cond.code yX8_readSight cX8_readSight 6 (some .boolean), Cond.methodLink RX8 141 yX8_finderSign, Cond.instanceMethod yX8_finderSign, Cond.selects RX8 yX8_finderSign yX8_finderSign, Cond.code yX8_finderSign cX8_finderSign 2 (some .int), Cond.methodLink RX8 144 yX8_plusSign, Cond.instanceMethod yX8_plusSign, Cond.selects RX8 yX8_plusSign yX8_plusSign, Cond.code yX8_plusSign cX8_plusSign 4 (some .int), Cond.methodLink RX8 147 yX8_sightOn, Cond.static yX8_sightOn, Cond.code yX8_sightOn cX8_sightOn 7 (some .int), Cond.methodLink RX8 91 yX8_means, Cond.static yX8_means, Cond.code yX8_means cX8_means 6 (some .int), Cond.methodLink RX8 67 yX8_isMissing, Cond.static yX8_isMissing, Cond.code yX8_isMissing cX8_isMissing 2 (some .boolean), Cond.methodLink RX8 47 yX8_ofDog, Cond.static yX8_ofDog, Cond.code yX8_ofDog cX8_ofDog 3 (some .int)]
def wsL_law0_r13 : List Cond := [Cond.methodLink RX8 71 yX8_unlike, Cond.static yX8_unlike, Cond.code yX8_unlike cX8_unlike 3 (some .int), Cond.methodLink RX8 63 yX8_bits, Cond.static yX8_bits, Cond.code yX8_bits cX8_bits 3 (some .int), Cond.methodLink RX8 168 yX8_readFind, Cond.instanceMethod yX8_readFind, Cond.selects RX8 yX8_readFind yX8_readFind, Cond.code yX8_readFind cX8_readFind 5 (some .boolean), Cond.methodLink RX8 151 yX8_isDog, Cond.static yX8_isDog, Cond.code yX8_isDog cX8_isDog 2 (some .boolean), Cond.methodLink RX8 154 yX8_findOn, Cond.instanceMethod yX8_findOn, Cond.selects RX8 yX8_findOn yX8_findOn, Cond.code yX8_findOn cX8_findOn 10 (some .int), Cond.methodLink RX8 94 yX8_measure, Cond.instanceMethod yX8_measure, Cond.selects RX8 yX8_measure yX8_measure, Cond.code yX8_measure cX8_measure 5 none, Cond.methodLink RX8 59 yX8_street, Cond.static yX8_street, Cond.code yX8_street cX8_street 4 (some .int)]
def wsL_law0_r14 : List Cond := [Cond.methodLink RX8 97 yX8_helps, Cond.instanceMethod yX8_helps, Cond.selects RX8 yX8_helps yX8_helps, Cond.code yX8_helps cX8_helps 8 (some .int), Cond.methodLink RX8 74 yX8_ofSight, Cond.static yX8_ofSight, Cond.code yX8_ofSight cX8_ofSight 3 (some .int), Cond.methodLink RX8 88 yX8_isFraud, Cond.instanceMethod yX8_isFraud, Cond.selects RX8 yX8_isFraud yX8_isFraud, Cond.code yX8_isFraud cX8_isFraud 7 (some .boolean), Cond.methodLink RX8 81 yX8_isTrue, Cond.instanceMethod yX8_isTrue, Cond.selects RX8 yX8_isTrue yX8_isTrue, Cond.code yX8_isTrue cX8_isTrue 4 (some .boolean), Cond.methodLink RX8 77 yX8_reaches, Cond.instanceMethod yX8_reaches, Cond.selects RX8 yX8_reaches yX8_reaches, Cond.code yX8_reaches cX8_reaches 5 (some .boolean), Cond.methodLink RX8 84 yX8_fits, Cond.instanceMethod yX8_fits, Cond.selects RX8 yX8_fits yX8_fits, Cond.code yX8_fits cX8_fits 5 (some .boolean), Cond.methodLink RX8 101 yX8_settle]
def wsL_law0_r15 : List Cond := [Cond.instanceMethod yX8_settle, Cond.selects RX8 yX8_settle yX8_settle, Cond.code yX8_settle cX8_settle 4 none, Cond.methodLink RX8 171 yX8_readClose, Cond.instanceMethod yX8_readClose, Cond.selects RX8 yX8_readClose yX8_readClose, Cond.code yX8_readClose cX8_readClose 5 (some .boolean), Cond.methodLink RX8 157 yX8_closeOn, Cond.static yX8_closeOn, Cond.code yX8_closeOn cX8_closeOn 4 (some .int), Cond.methodLink RX8 105 yX8_closedMany, Cond.static yX8_closedMany, Cond.code yX8_closedMany cX8_closedMany 3 (some .int), Cond.methodLink RX8 174 yX8_hoursOn, Cond.static yX8_hoursOn, Cond.code yX8_hoursOn cX8_hoursOn 5 (some .int), Cond.methodLink RL 108 yL_load, Cond.static yL_load, Cond.codeWith yL_load cL_load 3 (some .int) [(0, 8, 11, 15)], Cond.methodLink RL 17 yX7_load, Cond.instanceMethod yX7_load, Cond.selects RX7 yX7_load yX7_load, Cond.code yX7_load cX7_load 4 (some .int), Cond.methodLink RX7 77 yX1_forgetAll]
def wsL_law0_r16 : List Cond := [Cond.instanceMethod yX1_forgetAll, Cond.selects RX1 yX1_forgetAll yX1_forgetAll, Cond.code yX1_forgetAll cX1_forgetAll 1 none, Cond.fieldLink RX1 22 "DogBoard$History" "oldest" "I", Cond.fieldLink RX1 18 "DogBoard$History" "count" "I", Cond.methodLink RX7 80 yX6_readStart, Cond.methodLink RX7 83 yX6_hasMore, Cond.methodLink RX7 86 yX6_readCommand, Cond.methodLink RX7 89 yX6_doCommand, Cond.instanceMethod yX6_doCommand, Cond.selects RX6 yX6_doCommand yX6_doCommand, Cond.code yX6_doCommand cX6_doCommand 2 (some .int), Cond.methodLink RX6 38 yX0_loseDog, Cond.instanceMethod yX0_loseDog, Cond.selects RX0 yX0_loseDog yX0_loseDog, Cond.code yX0_loseDog cX0_loseDog 6 (some .int), Cond.methodLink RX0 176 yX0_faultOfLosing, Cond.instanceMethod yX0_faultOfLosing, Cond.selects RX0 yX0_faultOfLosing yX0_faultOfLosing, Cond.code yX0_faultOfLosing cX0_faultOfLosing 5 (some .int), Cond.static yX7_isCorner, Cond.code yX7_isCorner cX7_isCorner 1 (some .boolean), Cond.methodLink RX0 172 yX3_isFull, Cond.instanceMethod yX3_isFull]
def wsL_law0_r17 : List Cond := [Cond.selects RX3 yX3_isFull yX3_isFull, Cond.code yX3_isFull cX3_isFull 1 (some .boolean), Cond.methodLink RX0 180 yX3_addRow, Cond.instanceMethod yX3_addRow, Cond.selects RX3 yX3_addRow yX3_addRow, Cond.code yX3_addRow cX3_addRow 3 (some .int), Cond.methodLink RX3 31 yX3_isFull, Cond.methodLink RX3 35 yX3_put, Cond.instanceMethod yX3_put, Cond.selects RX3 yX3_put yX3_put, Cond.code yX3_put cX3_put 5 none, Cond.methodLink RX0 183 yX3_put, Cond.methodLink RX6 44 yX0_tellSighting, Cond.instanceMethod yX0_tellSighting, Cond.selects RX0 yX0_tellSighting yX0_tellSighting, Cond.code yX0_tellSighting cX0_tellSighting 8 (some .int), Cond.methodLink RX0 190 yX0_faultOfTelling, Cond.instanceMethod yX0_faultOfTelling, Cond.selects RX0 yX0_faultOfTelling yX0_faultOfTelling, Cond.code yX0_faultOfTelling cX0_faultOfTelling 5 (some .int), Cond.static yX7_isFinder, Cond.code yX7_isFinder cX7_isFinder 1 (some .boolean), Cond.methodLink RX0 193 yX0_dogMeantBy, Cond.instanceMethod yX0_dogMeantBy]
def wsL_law0_r18 : List Cond := [Cond.selects RX0 yX0_dogMeantBy yX0_dogMeantBy, Cond.code yX0_dogMeantBy cX0_dogMeantBy 6 (some .int), Cond.methodLink RX0 87 yX3_count, Cond.instanceMethod yX3_count, Cond.selects RX3 yX3_count yX3_count, Cond.code yX3_count cX3_count 1 (some .int), Cond.methodLink RX0 127 yX0_isMissing, Cond.instanceMethod yX0_isMissing, Cond.selects RX0 yX0_isMissing yX0_isMissing, Cond.code yX0_isMissing cX0_isMissing 2 (some .boolean), Cond.methodLink RX0 112 yX3_get, Cond.instanceMethod yX3_get, Cond.selects RX3 yX3_get yX3_get, Cond.code yX3_get cX3_get 4 (some .int), Cond.methodLink RX0 118 yX0_unlikeMarks, Cond.instanceMethod yX0_unlikeMarks, Cond.selects RX0 yX0_unlikeMarks yX0_unlikeMarks, Cond.code yX0_unlikeMarks cX0_unlikeMarks 3 (some .int), Cond.methodLink RX0 104 yJ6_bitCount_0f7a4, Cond.static yJ6_bitCount_0f7a4, Cond.initialized RJ6, Cond.code yJ6_bitCount_0f7a4 cJ6_bitCount_0f7a4 1 (some .int), Cond.constant RJ6 265 (1431655765), Cond.constant RJ6 266 (858993459)]
def wsL_law0_r19 : List Cond := [Cond.constant RJ6 267 (252645135), Cond.methodLink RX0 131 yX0_isMeantBefore, Cond.instanceMethod yX0_isMeantBefore, Cond.selects RX0 yX0_isMeantBefore yX0_isMeantBefore, Cond.code yX0_isMeantBefore cX0_isMeantBefore 6 (some .boolean), Cond.methodLink RX6 48 yX0_findDog, Cond.instanceMethod yX0_findDog, Cond.selects RX0 yX0_findDog yX0_findDog, Cond.code yX0_findDog cX0_findDog 11 (some .int), Cond.methodLink RX0 199 yX0_faultOfFinding, Cond.instanceMethod yX0_faultOfFinding, Cond.selects RX0 yX0_faultOfFinding yX0_faultOfFinding, Cond.code yX0_faultOfFinding cX0_faultOfFinding 4 (some .int), Cond.methodLink RX0 196 yX0_faultOfAsking, Cond.instanceMethod yX0_faultOfAsking, Cond.selects RX0 yX0_faultOfAsking yX0_faultOfAsking, Cond.code yX0_faultOfAsking cX0_faultOfAsking 2 (some .int), Cond.methodLink RX0 151 yX3_has, Cond.instanceMethod yX3_has, Cond.selects RX3 yX3_has yX3_has, Cond.code yX3_has cX3_has 2 (some .boolean), Cond.methodLink RX0 121 yX0_trueFor, Cond.instanceMethod yX0_trueFor, Cond.selects RX0 yX0_trueFor yX0_trueFor]
def wsL_law0_r20 : List Cond := [Cond.code yX0_trueFor cX0_trueFor 2 (some .int), Cond.methodLink RX0 135 yX0_trueNowFor, Cond.instanceMethod yX0_trueNowFor, Cond.selects RX0 yX0_trueNowFor yX0_trueNowFor, Cond.code yX0_trueNowFor cX0_trueNowFor 7 (some .int), Cond.methodLink RX0 138 yX2_isWithin, Cond.instanceMethod yX2_isWithin, Cond.selects RX2 yX2_isWithin yX2_isWithin, Cond.code yX2_isWithin cX2_isWithin 5 (some .boolean), Cond.methodLink RX0 124 yX0_fraudsFor, Cond.instanceMethod yX0_fraudsFor, Cond.selects RX0 yX0_fraudsFor yX0_fraudsFor, Cond.code yX0_fraudsFor cX0_fraudsFor 7 (some .int), Cond.methodLink RX0 100 yX0_sightingsMeaning, Cond.instanceMethod yX0_sightingsMeaning, Cond.selects RX0 yX0_sightingsMeaning yX0_sightingsMeaning, Cond.code yX0_sightingsMeaning cX0_sightingsMeaning 4 (some .int), Cond.methodLink RX0 145 yX0_fitsOneOf, Cond.instanceMethod yX0_fitsOneOf, Cond.selects RX0 yX0_fitsOneOf yX0_fitsOneOf, Cond.code yX0_fitsOneOf cX0_fitsOneOf 6 (some .boolean), Cond.methodLink RX0 148 Lib.Math.abs.name, Cond.static Lib.Math.abs.name, Cond.code Lib.Math.abs.name Lib.Math.abs.code 1 (some .int)]
def wsL_law0_r21 : List Cond := [Cond.methodLink RX0 203 yX0_coinsOf, Cond.instanceMethod yX0_coinsOf, Cond.selects RX0 yX0_coinsOf yX0_coinsOf, Cond.code yX0_coinsOf cX0_coinsOf 2 (some .int), Cond.methodLink RX0 206 yX0_shareBy, Cond.instanceMethod yX0_shareBy, Cond.selects RX0 yX0_shareBy yX0_shareBy, Cond.code yX0_shareBy cX0_shareBy 10 (some .int), Cond.methodLink RX0 210 yX0_helpOf, Cond.instanceMethod yX0_helpOf, Cond.selects RX0 yX0_helpOf yX0_helpOf, Cond.code yX0_helpOf cX0_helpOf 4 (some .int), Cond.methodLink RX6 52 yX0_closeStreet, Cond.instanceMethod yX0_closeStreet, Cond.selects RX0 yX0_closeStreet yX0_closeStreet, Cond.code yX0_closeStreet cX0_closeStreet 4 (some .int), Cond.methodLink RX0 216 yX0_faultOfClosing, Cond.instanceMethod yX0_faultOfClosing, Cond.selects RX0 yX0_faultOfClosing yX0_faultOfClosing, Cond.code yX0_faultOfClosing cX0_faultOfClosing 3 (some .int), Cond.methodLink RX0 213 yX2_streetBetween, Cond.static yX2_streetBetween, Cond.code yX2_streetBetween cX2_streetBetween 3 (some .int), Cond.methodLink RX0 219 yX2_setClosed]
def wsL_law0_r22 : List Cond := [Cond.instanceMethod yX2_setClosed, Cond.selects RX2 yX2_setClosed yX2_setClosed, Cond.code yX2_setClosed cX2_setClosed 4 none, Cond.methodLink RX0 109 yX2_closedStreets, Cond.instanceMethod yX2_closedStreets, Cond.selects RX2 yX2_closedStreets yX2_closedStreets, Cond.code yX2_closedStreets cX2_closedStreets 1 (some .int), Cond.methodLink RX2 37 yJ6_bitCount_0f7a4, Cond.methodLink RX6 56 yX0_passHours, Cond.instanceMethod yX0_passHours, Cond.selects RX0 yX0_passHours yX0_passHours, Cond.code yX0_passHours cX0_passHours 7 (some .int), Cond.methodLink RX0 223 yX0_faultOfPassing, Cond.instanceMethod yX0_faultOfPassing, Cond.selects RX0 yX0_faultOfPassing yX0_faultOfPassing, Cond.code yX0_faultOfPassing cX0_faultOfPassing 2 (some .int), Cond.methodLink RL 111 yX8_load, Cond.instanceMethod yX8_load, Cond.selects RX8 yX8_load yX8_load, Cond.code yX8_load cX8_load 1 (some .int), Cond.fieldLink RX8 188 "DogBoardModel" "acts" "I", Cond.methodLink RX8 184 yX8_copyState, Cond.static yX8_copyState, Cond.code yX8_copyState cX8_copyState 5 none]
def wsL_law0_r23 : List Cond := [Cond.methodLink RL 112 yL_about, Cond.static yL_about, Cond.codeWith yL_about cL_about 4 (some .int) [(0, 9, 12, 13)], Cond.methodLink RL 21 yX7_about, Cond.instanceMethod yX7_about, Cond.selects RX7 yX7_about yX7_about, Cond.code yX7_about cX7_about 2 (some .int), Cond.methodLink RX7 95 yX0_numberOfBoard, Cond.instanceMethod yX0_numberOfBoard, Cond.selects RX0 yX0_numberOfBoard yX0_numberOfBoard, Cond.code yX0_numberOfBoard cX0_numberOfBoard 2 (some .int), Cond.methodLink RX0 91 yX0_missingDogs, Cond.instanceMethod yX0_missingDogs, Cond.selects RX0 yX0_missingDogs yX0_missingDogs, Cond.code yX0_missingDogs cX0_missingDogs 3 (some .int), Cond.methodLink RX0 94 yX0_missingRewards, Cond.instanceMethod yX0_missingRewards, Cond.selects RX0 yX0_missingRewards yX0_missingRewards, Cond.code yX0_missingRewards cX0_missingRewards 3 (some .int), Cond.methodLink RX0 97 yX0_fraudsInAll, Cond.instanceMethod yX0_fraudsInAll, Cond.selects RX0 yX0_fraudsInAll yX0_fraudsInAll, Cond.code yX0_fraudsInAll cX0_fraudsInAll 3 (some .int), Cond.methodLink RL 114 yX8_about]
def wsL_law0_r24 : List Cond := [Cond.instanceMethod yX8_about, Cond.selects RX8 yX8_about yX8_about, Cond.code yX8_about cX8_about 2 (some .int), Cond.constantLong RX8 191 (10), Cond.methodLink RX8 193 yX8_missing, Cond.static yX8_missing, Cond.code yX8_missing cX8_missing 3 (some .int), Cond.methodLink RX8 196 yX8_rewards, Cond.static yX8_rewards, Cond.code yX8_rewards cX8_rewards 3 (some .int), Cond.methodLink RX8 199 yX8_frauds, Cond.instanceMethod yX8_frauds, Cond.selects RX8 yX8_frauds yX8_frauds, Cond.code yX8_frauds cX8_frauds 4 (some .int), Cond.methodLink RX8 202 yX8_meaningless, Cond.static yX8_meaningless, Cond.code yX8_meaningless cX8_meaningless 3 (some .int), Cond.methodLink RL 115 yL_dogOf, Cond.static yL_dogOf, Cond.codeWith yL_dogOf cL_dogOf 5 (some .int) [(0, 10, 13, 28), (0, 10, 17, 13)], Cond.classLink RL 28 "java/lang/IndexOutOfBoundsException", Cond.methodLink RL 24 yX7_dogOf, Cond.instanceMethod yX7_dogOf, Cond.selects RX7 yX7_dogOf yX7_dogOf]
def wsL_law0_r25 : List Cond := [Cond.code yX7_dogOf cX7_dogOf 3 (some .int), Cond.classLink RX7 108 "java/lang/IndexOutOfBoundsException", Cond.initialized "java/lang/IndexOutOfBoundsException", Cond.methodLink RX7 102 yX3_has, Cond.methodLink RX7 115 yX0_numberOfDog, Cond.instanceMethod yX0_numberOfDog, Cond.selects RX0 yX0_numberOfDog yX0_numberOfDog, Cond.code yX0_numberOfDog cX0_numberOfDog 3 (some .int), Cond.methodLink RX0 115 yX0_honestFor, Cond.instanceMethod yX0_honestFor, Cond.selects RX0 yX0_honestFor yX0_honestFor, Cond.code yX0_honestFor cX0_honestFor 2 (some .int), Cond.methodLink RL 118 yX8_dogOf, Cond.instanceMethod yX8_dogOf, Cond.selects RX8 yX8_dogOf yX8_dogOf, Cond.code yX8_dogOf cX8_dogOf 7 (some .int), Cond.methodLink RL 119 yL_sightingOf, Cond.static yL_sightingOf, Cond.codeWith yL_sightingOf cL_sightingOf 5 (some .int) [(0, 10, 13, 28), (0, 10, 17, 13)], Cond.methodLink RL 30 yX7_sightingOf, Cond.instanceMethod yX7_sightingOf, Cond.selects RX7 yX7_sightingOf yX7_sightingOf, Cond.code yX7_sightingOf cX7_sightingOf 3 (some .int), Cond.methodLink RX7 126 yX0_numberOfSighting]
def wsL_law0_r26 : List Cond := [Cond.instanceMethod yX0_numberOfSighting, Cond.selects RX0 yX0_numberOfSighting yX0_numberOfSighting, Cond.code yX0_numberOfSighting cX0_numberOfSighting 4 (some .int), Cond.methodLink RL 121 yX8_sightingOf, Cond.instanceMethod yX8_sightingOf, Cond.selects RX8 yX8_sightingOf yX8_sightingOf, Cond.code yX8_sightingOf cX8_sightingOf 4 (some .int), Cond.constantLong RX8 57 (8), Cond.methodLink RL 122 yL_purse, Cond.static yL_purse, Cond.codeWith yL_purse cL_purse 4 (some .int) [(0, 9, 12, 28)], Cond.methodLink RL 33 yX7_purse, Cond.instanceMethod yX7_purse, Cond.selects RX7 yX7_purse yX7_purse, Cond.code yX7_purse cX7_purse 2 (some .int), Cond.methodLink RX7 129 yX7_isFinder, Cond.methodLink RX7 134 yX0_coinsOf, Cond.methodLink RL 124 yX8_purse, Cond.instanceMethod yX8_purse, Cond.selects RX8 yX8_purse yX8_purse, Cond.code yX8_purse cX8_purse 2 (some .int), Cond.methodLink RX8 205 yX8_isFinder, Cond.static yX8_isFinder, Cond.code yX8_isFinder cX8_isFinder 1 (some .boolean)]
def wsL_law0_r27 : List Cond := [Cond.constantLong RX8 53 (7), Cond.methodLink RL 125 yL_apart, Cond.static yL_apart, Cond.codeWith yL_apart cL_apart 6 (some .int) [(0, 12, 15, 28), (0, 12, 19, 13)], Cond.methodLink RL 36 yX7_apart, Cond.instanceMethod yX7_apart, Cond.selects RX7 yX7_apart yX7_apart, Cond.code yX7_apart cX7_apart 4 (some .int), Cond.methodLink RX7 137 yX7_isCorner, Cond.methodLink RX7 148 yX2_wayBetween, Cond.instanceMethod yX2_wayBetween, Cond.selects RX2 yX2_wayBetween yX2_wayBetween, Cond.code yX2_wayBetween cX2_wayBetween 4 (some .int), Cond.methodLink RX7 153 yX2_wayBySweeps, Cond.instanceMethod yX2_wayBySweeps, Cond.selects RX2 yX2_wayBySweeps yX2_wayBySweeps, Cond.code yX2_wayBySweeps cX2_wayBySweeps 5 (some .int), Cond.methodLink RX2 63 yX2_sweepOnce, Cond.instanceMethod yX2_sweepOnce, Cond.selects RX2 yX2_sweepOnce yX2_sweepOnce, Cond.code yX2_sweepOnce cX2_sweepOnce 3 (some .boolean), Cond.methodLink RX2 67 yX2_shortens, Cond.instanceMethod yX2_shortens, Cond.selects RX2 yX2_shortens yX2_shortens]
def wsL_law0_r28 : List Cond := [Cond.code yX2_shortens cX2_shortens 3 (some .boolean), Cond.methodLink RL 128 yX8_apart, Cond.instanceMethod yX8_apart, Cond.selects RX8 yX8_apart yX8_apart, Cond.code yX8_apart cX8_apart 4 (some .int), Cond.methodLink RX8 208 yX8_isCorner, Cond.static yX8_isCorner, Cond.code yX8_isCorner cX8_isCorner 1 (some .boolean), Cond.constantLong RX8 51 (11), Cond.methodLink RL 129 yL_lose, Cond.static yL_lose, Cond.codeWith yL_lose cL_lose 7 (some .int) [(0, 14, 17, 28), (0, 14, 21, 13), (0, 14, 25, 15)], Cond.methodLink RL 40 yX7_lose, Cond.instanceMethod yX7_lose, Cond.selects RX7 yX7_lose yX7_lose, Cond.code yX7_lose cX7_lose 5 (some .int), Cond.methodLink RX7 156 yX0_faultOfLosing, Cond.methodLink RX7 160 yX7_throwFor, Cond.static yX7_throwFor, Cond.code yX7_throwFor cX7_throwFor 1 none, Cond.methodLink RX7 164 yX1_remember, Cond.instanceMethod yX1_remember, Cond.selects RX1 yX1_remember yX1_remember, Cond.code yX1_remember cX1_remember 3 none]
def wsL_law0_r29 : List Cond := [Cond.methodLink RX1 25 yX1_stateAt, Cond.instanceMethod yX1_stateAt, Cond.selects RX1 yX1_stateAt yX1_stateAt, Cond.code yX1_stateAt cX1_stateAt 3 (some (.object "DogBoard$Board")), Cond.methodLink RX1 29 yX0_copyFrom, Cond.instanceMethod yX0_copyFrom, Cond.selects RX0 yX0_copyFrom yX0_copyFrom, Cond.code yX0_copyFrom cX0_copyFrom 2 none, Cond.methodLink RX0 75 Lib.Math.min.name, Cond.static Lib.Math.min.name, Cond.code Lib.Math.min.name Lib.Math.min.code 2 (some .int), Cond.methodLink RX0 81 arraycopyName, Cond.native arraycopyName, Cond.static arraycopyName, Cond.initialized "java/lang/System", Cond.methodLink RX0 68 yX2_copyFrom, Cond.instanceMethod yX2_copyFrom, Cond.selects RX2 yX2_copyFrom yX2_copyFrom, Cond.code yX2_copyFrom cX2_copyFrom 2 none, Cond.methodLink RX2 25 Lib.Math.min.name, Cond.methodLink RX2 31 arraycopyName, Cond.methodLink RX0 72 yX3_copyFrom, Cond.instanceMethod yX3_copyFrom, Cond.selects RX3 yX3_copyFrom yX3_copyFrom]
def wsL_law0_r30 : List Cond := [Cond.code yX3_copyFrom cX3_copyFrom 2 none, Cond.methodLink RX3 39 Lib.Math.min.name, Cond.methodLink RX3 42 arraycopyName, Cond.methodLink RX7 168 yX0_loseDog, Cond.methodLink RL 132 yX8_lose, Cond.instanceMethod yX8_lose, Cond.selects RX8 yX8_lose yX8_lose, Cond.code yX8_lose cX8_lose 6 (some .int), Cond.constantLong RX8 211 (3), Cond.constantLong RX8 213 (500), Cond.methodLink RX8 215 yX8_remember, Cond.instanceMethod yX8_remember, Cond.selects RX8 yX8_remember yX8_remember, Cond.code yX8_remember cX8_remember 2 none, Cond.methodLink RL 133 yL_sight, Cond.static yL_sight, Cond.codeWith yL_sight cL_sight 8 (some .int) [(0, 16, 19, 28), (0, 16, 23, 13), (0, 16, 27, 15)], Cond.methodLink RL 44 yX7_sight, Cond.instanceMethod yX7_sight, Cond.selects RX7 yX7_sight yX7_sight, Cond.code yX7_sight cX7_sight 6 (some .int), Cond.methodLink RX7 171 yX0_faultOfTelling, Cond.methodLink RX7 174 yX0_tellSighting, Cond.methodLink RL 136 yX8_sight]
def wsL_law0_r31 : List Cond := [Cond.instanceMethod yX8_sight, Cond.selects RX8 yX8_sight yX8_sight, Cond.code yX8_sight cX8_sight 7 (some .int), Cond.constantLong RX8 218 (99), Cond.methodLink RL 137 yL_find, Cond.static yL_find, Cond.codeWith yL_find cL_find 6 (some .int) [(0, 12, 15, 28), (0, 12, 19, 15)], Cond.methodLink RL 48 yX7_find, Cond.instanceMethod yX7_find, Cond.selects RX7 yX7_find yX7_find, Cond.code yX7_find cX7_find 4 (some .int), Cond.methodLink RX7 178 yX0_faultOfFinding, Cond.methodLink RX7 182 yX0_findDog, Cond.methodLink RL 139 yX8_find, Cond.instanceMethod yX8_find, Cond.selects RX8 yX8_find yX8_find, Cond.code yX8_find cX8_find 4 (some .int), Cond.methodLink RL 140 yL_close, Cond.static yL_close, Cond.codeWith yL_close cL_close 6 (some .int) [(0, 12, 15, 28), (0, 12, 19, 13)], Cond.methodLink RL 51 yX7_close, Cond.instanceMethod yX7_close, Cond.selects RX7 yX7_close yX7_close, Cond.code yX7_close cX7_close 4 (some .int)]
def wsL_law0_r32 : List Cond := [Cond.methodLink RX7 185 yX0_faultOfClosing, Cond.methodLink RX7 188 yX0_closeStreet, Cond.methodLink RL 143 yX8_close, Cond.instanceMethod yX8_close, Cond.selects RX8 yX8_close yX8_close, Cond.code yX8_close cX8_close 4 (some .int), Cond.methodLink RL 144 yL_hours, Cond.static yL_hours, Cond.codeWith yL_hours cL_hours 4 (some .int) [(0, 9, 12, 13)], Cond.methodLink RL 55 yX7_hours, Cond.instanceMethod yX7_hours, Cond.selects RX7 yX7_hours yX7_hours, Cond.code yX7_hours cX7_hours 2 (some .int), Cond.methodLink RX7 192 yX0_faultOfPassing, Cond.methodLink RX7 195 yX0_passHours, Cond.methodLink RL 146 yX8_hours, Cond.instanceMethod yX8_hours, Cond.selects RX8 yX8_hours yX8_hours, Cond.code yX8_hours cX8_hours 2 (some .int), Cond.methodLink RL 147 yL_set, Cond.static yL_set, Cond.codeWith yL_set cL_set 5 (some .int) [(0, 10, 13, 13)], Cond.methodLink RL 58 yX7_set, Cond.instanceMethod yX7_set]
def wsL_law0_r33 : List Cond := [Cond.selects RX7 yX7_set yX7_set, Cond.code yX7_set cX7_set 3 (some .int), Cond.methodLink RX7 198 yX0_faultOfSetting, Cond.instanceMethod yX0_faultOfSetting, Cond.selects RX0 yX0_faultOfSetting yX0_faultOfSetting, Cond.code yX0_faultOfSetting cX0_faultOfSetting 4 (some .int), Cond.methodLink RX7 201 yX0_changeSetting, Cond.instanceMethod yX0_changeSetting, Cond.selects RX0 yX0_changeSetting yX0_changeSetting, Cond.code yX0_changeSetting cX0_changeSetting 4 (some .int), Cond.methodLink RX0 226 yX0_faultOfSetting, Cond.methodLink RL 149 yX8_set, Cond.instanceMethod yX8_set, Cond.selects RX8 yX8_set yX8_set, Cond.code yX8_set cX8_set 3 (some .int), Cond.methodLink RX8 220 yX8_isSetting, Cond.static yX8_isSetting, Cond.code yX8_isSetting cX8_isSetting 2 (some .boolean), Cond.constantLong RX8 55 (50), Cond.methodLink RX8 224 yX8_change, Cond.static yX8_change, Cond.code yX8_change cX8_change 4 (some .int), Cond.methodLink RL 150 yL_undo, Cond.static yL_undo]
def wsL_law0_r34 : List Cond := [Cond.codeWith yL_undo cL_undo 3 (some .int) [(0, 8, 11, 15)], Cond.methodLink RL 61 yX7_undo, Cond.instanceMethod yX7_undo, Cond.selects RX7 yX7_undo yX7_undo, Cond.code yX7_undo cX7_undo 1 (some .int), Cond.methodLink RX7 204 yX1_isEmpty, Cond.instanceMethod yX1_isEmpty, Cond.selects RX1 yX1_isEmpty yX1_isEmpty, Cond.code yX1_isEmpty cX1_isEmpty 1 (some .boolean), Cond.methodLink RX7 209 yX1_giveBack, Cond.instanceMethod yX1_giveBack, Cond.selects RX1 yX1_giveBack yX1_giveBack, Cond.code yX1_giveBack cX1_giveBack 3 (some .int), Cond.methodLink RL 152 yX8_undo, Cond.instanceMethod yX8_undo, Cond.selects RX8 yX8_undo yX8_undo, Cond.code yX8_undo cX8_undo 1 (some .int), Cond.methodLink RL 153 yL_canBe, Cond.static yL_canBe, Cond.codeWith yL_canBe cL_canBe 4 (some .int) [(0, 9, 12, 28), (0, 9, 15, 15)], Cond.methodLink RL 64 yX7_canBe, Cond.instanceMethod yX7_canBe, Cond.selects RX7 yX7_canBe yX7_canBe, Cond.code yX7_canBe cX7_canBe 2 (some .int)]
def wsL_law0_r35 : List Cond := [Cond.methodLink RX7 212 yX0_faultOfAsking, Cond.methodLink RX7 215 yX0_placesOf, Cond.instanceMethod yX0_placesOf, Cond.selects RX0 yX0_placesOf yX0_placesOf, Cond.code yX0_placesOf cX0_placesOf 5 (some .int), Cond.methodLink RX0 154 yX0_canReach, Cond.instanceMethod yX0_canReach, Cond.selects RX0 yX0_canReach yX0_canReach, Cond.code yX0_canReach cX0_canReach 8 (some .boolean), Cond.methodLink RL 155 yX8_canBe, Cond.instanceMethod yX8_canBe, Cond.selects RX8 yX8_canBe yX8_canBe, Cond.code yX8_canBe cX8_canBe 4 (some .int), Cond.methodLink RX8 227 yX8_canBeAt, Cond.instanceMethod yX8_canBeAt, Cond.selects RX8 yX8_canBeAt yX8_canBeAt, Cond.code yX8_canBeAt cX8_canBeAt 6 (some .boolean), Cond.methodLink RL 156 yX7_watch, Cond.instanceMethod yX7_watch, Cond.selects RX7 yX7_watch yX7_watch, Cond.code yX7_watch cX7_watch 1 (some .int), Cond.methodLink RX7 218 yX0_cornerToWatch, Cond.instanceMethod yX0_cornerToWatch, Cond.selects RX0 yX0_cornerToWatch yX0_cornerToWatch]
def wsL_law0_r36 : List Cond := [Cond.code yX0_cornerToWatch cX0_cornerToWatch 4 (some .int), Cond.methodLink RX0 157 yX0_placesOf, Cond.methodLink RX0 160 yX0_dogsAt, Cond.instanceMethod yX0_dogsAt, Cond.selects RX0 yX0_dogsAt yX0_dogsAt, Cond.code yX0_dogsAt cX0_dogsAt 4 (some .int), Cond.methodLink RX0 163 yX0_rewardsAt, Cond.instanceMethod yX0_rewardsAt, Cond.selects RX0 yX0_rewardsAt yX0_rewardsAt, Cond.code yX0_rewardsAt cX0_rewardsAt 4 (some .int), Cond.methodLink RL 159 yX8_watch, Cond.instanceMethod yX8_watch, Cond.selects RX8 yX8_watch yX8_watch, Cond.code yX8_watch cX8_watch 6 (some .int), Cond.constant RX8 230 (10000000), Cond.methodLink RL 160 yL_meant, Cond.static yL_meant, Cond.codeWith yL_meant cL_meant 4 (some .int) [(0, 9, 12, 13)], Cond.methodLink RL 67 yX7_meant, Cond.instanceMethod yX7_meant, Cond.selects RX7 yX7_meant yX7_meant, Cond.code yX7_meant cX7_meant 2 (some .int), Cond.methodLink RX7 227 yX0_dogMeantBy, Cond.methodLink RL 162 yX8_meant]
def wsL_law0_r37 : List Cond := [Cond.instanceMethod yX8_meant, Cond.selects RX8 yX8_meant yX8_meant, Cond.code yX8_meant cX8_meant 2 (some .int), Cond.methodLink RL 163 yL_ifFound, Cond.static yL_ifFound, Cond.codeWith yL_ifFound cL_ifFound 7 (some .int) [(0, 14, 17, 28), (0, 14, 21, 15)], Cond.methodLink RL 70 yX7_ifFound, Cond.instanceMethod yX7_ifFound, Cond.selects RX7 yX7_ifFound yX7_ifFound, Cond.code yX7_ifFound cX7_ifFound 5 (some .int), Cond.methodLink RX7 230 yX0_shareOf, Cond.instanceMethod yX0_shareOf, Cond.selects RX0 yX0_shareOf yX0_shareOf, Cond.code yX0_shareOf cX0_shareOf 5 (some .int), Cond.methodLink RL 165 yX8_ifFound, Cond.instanceMethod yX8_ifFound, Cond.selects RX8 yX8_ifFound yX8_ifFound, Cond.code yX8_ifFound cX8_ifFound 6 (some .int), Cond.methodLink RL 168 yL_runScript, Cond.static yL_runScript, Cond.codeWith yL_runScript cL_runScript 6 (some .int) [(0, 11, 14, 13)], Cond.methodLink RL 73 yX7_runScript, Cond.instanceMethod yX7_runScript, Cond.selects RX7 yX7_runScript yX7_runScript]
def wsL_law0_r38 : List Cond := [Cond.code yX7_runScript cX7_runScript 8 (some .int), Cond.constantLong RX7 235 (1000000), Cond.methodLink RX7 239 yX0_copyFrom, Cond.methodLink RX7 242 yX4_succeeds, Cond.static yX4_succeeds, Cond.initialized RX4, Cond.code yX4_succeeds cX4_succeeds 9 (some .boolean), Cond.constant RX4 9 (100000), Cond.methodLink RX4 10 yX0_passHours, Cond.methodLink RX4 16 yX0_tellSighting, Cond.methodLink RX4 20 yX0_findDog, Cond.methodLink RX4 24 yX0_closeStreet, Cond.methodLink RX4 28 yX0_changeSetting, Cond.methodLink RX4 36 yX0_isMissing, Cond.methodLink RX4 39 yX0_placesOf, Cond.methodLink RX4 46 yX0_fraudsInAll, Cond.methodLink RX4 54 yX3_has, Cond.methodLink RX4 59 yX3_get, Cond.methodLink RX4 65 yX0_coinsOf, Cond.methodLink RL 171 yX8_runScript, Cond.instanceMethod yX8_runScript, Cond.selects RX8 yX8_runScript yX8_runScript, Cond.code yX8_runScript cX8_runScript 8 (some .int), Cond.constantLong RX8 238 (1000000)]
def wsL_law0_r39 : List Cond := [Cond.constant RX8 240 (100000), Cond.methodLink RX8 241 yX8_command, Cond.instanceMethod yX8_command, Cond.selects RX8 yX8_command yX8_command, Cond.code yX8_command cX8_command 12 (some .boolean), Cond.methodLink RX8 231 yX8_canBeNow, Cond.instanceMethod yX8_canBeNow, Cond.selects RX8 yX8_canBeNow yX8_canBeNow, Cond.code yX8_canBeNow cX8_canBeNow 3 (some .boolean), Cond.methodLink RX8 234 yX8_fraudsNow, Cond.instanceMethod yX8_fraudsNow, Cond.selects RX8 yX8_fraudsNow yX8_fraudsNow, Cond.code yX8_fraudsNow cX8_fraudsNow 1 (some .int), Cond.methodLink RL 172 yL_simulate, Cond.static yL_simulate, Cond.codeWith yL_simulate cL_simulate 6 (some .int) [(0, 11, 14, 13)], Cond.methodLink RL 77 yX7_simulate, Cond.instanceMethod yX7_simulate, Cond.selects RX7 yX7_simulate yX7_simulate, Cond.code yX7_simulate cX7_simulate 7 (some .int), Cond.constantLong RX7 250 (6364136223846793005), Cond.constantLong RX7 252 (1442695040888963407), Cond.methodLink RX7 254 yX5_playTurn, Cond.static yX5_playTurn]
def wsL_law0_r40 : List Cond := [Cond.initialized RX5, Cond.code yX5_playTurn cX5_playTurn 3 (some .int), Cond.constant RX5 13 (32768), Cond.constant RX5 14 (262144), Cond.methodLink RX5 7 yX0_loseDog, Cond.methodLink RX5 15 yX0_tellSighting, Cond.methodLink RX5 19 yX0_findDog, Cond.methodLink RX5 23 yX0_closeStreet, Cond.methodLink RX5 27 yX0_passHours, Cond.methodLink RX7 263 yX0_fraudsInAll, Cond.methodLink RX7 266 yX0_missingDogs, Cond.methodLink RL 175 yX8_simulate, Cond.instanceMethod yX8_simulate, Cond.selects RX8 yX8_simulate yX8_simulate, Cond.code yX8_simulate cX8_simulate 8 (some .int), Cond.constantLong RX8 246 (60), Cond.constantLong RX8 248 (6364136223846793005), Cond.constantLong RX8 250 (1442695040888963407), Cond.methodLink RX8 252 yX8_turnOf, Cond.instanceMethod yX8_turnOf, Cond.selects RX8 yX8_turnOf yX8_turnOf, Cond.code yX8_turnOf cX8_turnOf 6 none, Cond.constant RX8 244 (32768), Cond.constant RX8 245 (262144)]
def wsL_law0_r41 : List Cond := [Cond.methodLink RL 176 yL_save, Cond.static yL_save, Cond.codeWith yL_save cL_save 4 (some .int) [(0, 9, 12, 28)], Cond.methodLink RL 81 yX7_save, Cond.instanceMethod yX7_save, Cond.selects RX7 yX7_save yX7_save, Cond.code yX7_save cX7_save 3 (some .int), Cond.methodLink RX7 269 yX7_isSlot, Cond.instanceMethod yX7_isSlot, Cond.selects RX7 yX7_isSlot yX7_isSlot, Cond.code yX7_isSlot cX7_isSlot 2 (some .boolean), Cond.methodLink RL 178 yX8_save, Cond.instanceMethod yX8_save, Cond.selects RX8 yX8_save yX8_save, Cond.code yX8_save cX8_save 2 (some .int), Cond.methodLink RL 179 yL_restore, Cond.static yL_restore, Cond.codeWith yL_restore cL_restore 4 (some .int) [(0, 9, 12, 28), (0, 9, 15, 15)], Cond.methodLink RL 84 yX7_restore, Cond.instanceMethod yX7_restore, Cond.selects RX7 yX7_restore yX7_restore, Cond.code yX7_restore cX7_restore 3 (some .int), Cond.methodLink RL 181 yX8_restore, Cond.instanceMethod yX8_restore]
def wsL_law0_r42 : List Cond := [Cond.selects RX8 yX8_restore yX8_restore, Cond.code yX8_restore cX8_restore 2 (some .int)]
def wsL_law0 : List Cond := (wsL_law0_r1 ++ (wsL_law0_r2 ++ (wsL_law0_r3 ++ (wsL_law0_r4 ++ (wsL_law0_r5 ++ (wsL_law0_r6 ++ (wsL_law0_r7 ++ (wsL_law0_r8 ++ (wsL_law0_r9 ++ (wsL_law0_r10 ++ (wsL_law0_r11 ++ (wsL_law0_r12 ++ (wsL_law0_r13 ++ (wsL_law0_r14 ++ (wsL_law0_r15 ++ (wsL_law0_r16 ++ (wsL_law0_r17 ++ (wsL_law0_r18 ++ (wsL_law0_r19 ++ (wsL_law0_r20 ++ (wsL_law0_r21 ++ (wsL_law0_r22 ++ (wsL_law0_r23 ++ (wsL_law0_r24 ++ (wsL_law0_r25 ++ (wsL_law0_r26 ++ (wsL_law0_r27 ++ (wsL_law0_r28 ++ (wsL_law0_r29 ++ (wsL_law0_r30 ++ (wsL_law0_r31 ++ (wsL_law0_r32 ++ (wsL_law0_r33 ++ (wsL_law0_r34 ++ (wsL_law0_r35 ++ (wsL_law0_r36 ++ (wsL_law0_r37 ++ (wsL_law0_r38 ++ (wsL_law0_r39 ++ (wsL_law0_r40 ++ (wsL_law0_r41 ++ wsL_law0_r42))))))))))))))))))))))))))))))))))))))))) ++ wsX70 ++ wsX80 ++ wsX00 ++ wsX10 ++ wsX60 ++ wsX20 ++ wsX30 ++ ([] : List Cond)
def wsL_law : List Cond := wsL_law0 ++ (vx_atS RX7 52 "java/lang/IllegalArgumentException" ["java/lang/RuntimeException", "java/lang/Exception"]).filter goodWord ++ (vx_atS RX7 63 "java/lang/IllegalStateException" ["java/lang/RuntimeException", "java/lang/Exception"]).filter goodWord ++ (vx_atS RX7 112 "java/lang/IndexOutOfBoundsException" ["java/lang/RuntimeException", "java/lang/Exception"]).filter goodWord
set_option maxRecDepth 20000 in
theorem ggX0_init_X2_init : GoodIn wsX0_init wsX2_init := goodIn_r _ [17, 18, 2, 3, 13, 19, 20, 32, 33, 34] (by decide +kernel) (by decide +kernel)
set_option maxRecDepth 20000 in
theorem gX0_init_X2_init_n11 : GoodIn wsX0_init (wsX2_init) := ggX0_init_X2_init
set_option maxRecDepth 20000 in
theorem ggX0_init_X3_init : GoodIn wsX0_init wsX3_init := goodIn_r _ [23, 24, 2, 3, 25, 26, 27, 28, 29, 30, 13, 31, 46, 47, 48, 49] (by decide +kernel) (by decide +kernel)
set_option maxRecDepth 20000 in
theorem gX0_init_X3_init : GoodIn wsX0_init (wsX3_init) := ggX0_init_X3_init
theorem dX0_init_0 : decode cX0_init 0 = .ok (.aload_n 0, 1) := by decide +kernel
theorem dX0_init_1 : decode cX0_init 1 = .ok (.invokespecial 3, 3) := by decide +kernel
theorem dX0_init_4 : decode cX0_init 4 = .ok (.aload_n 0, 1) := by decide +kernel
theorem dX0_init_5 : decode cX0_init 5 = .ok (.new 9, 3) := by decide +kernel
theorem dX0_init_8 : decode cX0_init 8 = .ok (.dup, 1) := by decide +kernel
theorem dX0_init_9 : decode cX0_init 9 = .ok (.invokespecial 11, 3) := by decide +kernel
theorem dX0_init_12 : decode cX0_init 12 = .ok (.putfield 12, 3) := by decide +kernel
theorem dX0_init_15 : decode cX0_init 15 = .ok (.aload_n 0, 1) := by decide +kernel
theorem dX0_init_16 : decode cX0_init 16 = .ok (.new 18, 3) := by decide +kernel
theorem dX0_init_19 : decode cX0_init 19 = .ok (.dup, 1) := by decide +kernel
theorem dX0_init_20 : decode cX0_init 20 = .ok (.bipush 6, 2) := by decide +kernel
theorem dX0_init_22 : decode cX0_init 22 = .ok (.bipush 11, 2) := by decide +kernel
theorem dX0_init_24 : decode cX0_init 24 = .ok (.invokespecial 20, 3) := by decide +kernel
theorem dX0_init_27 : decode cX0_init 27 = .ok (.putfield 23, 3) := by decide +kernel
theorem dX0_init_30 : decode cX0_init 30 = .ok (.aload_n 0, 1) := by decide +kernel
theorem dX0_init_31 : decode cX0_init 31 = .ok (.new 18, 3) := by decide +kernel
theorem dX0_init_34 : decode cX0_init 34 = .ok (.dup, 1) := by decide +kernel
theorem dX0_init_35 : decode cX0_init 35 = .ok (.bipush 20, 2) := by decide +kernel
theorem dX0_init_37 : decode cX0_init 37 = .ok (.bipush 6, 2) := by decide +kernel
theorem dX0_init_39 : decode cX0_init 39 = .ok (.invokespecial 20, 3) := by decide +kernel
theorem dX0_init_42 : decode cX0_init 42 = .ok (.putfield 27, 3) := by decide +kernel
theorem dX0_init_45 : decode cX0_init 45 = .ok (.aload_n 0, 1) := by decide +kernel
theorem dX0_init_46 : decode cX0_init 46 = .ok (.bipush 8, 2) := by decide +kernel
theorem dX0_init_48 : decode cX0_init 48 = .ok (.newarray .int, 2) := by decide +kernel
theorem dX0_init_50 : decode cX0_init 50 = .ok (.putfield 30, 3) := by decide +kernel
theorem dX0_init_53 : decode cX0_init 53 = .ok (.aload_n 0, 1) := by decide +kernel
theorem dX0_init_54 : decode cX0_init 54 = .ok (.bipush 6, 2) := by decide +kernel
theorem dX0_init_56 : decode cX0_init 56 = .ok (.newarray .int, 2) := by decide +kernel
theorem dX0_init_58 : decode cX0_init 58 = .ok (.putfield 34, 3) := by decide +kernel
theorem dX0_init_61 : decode cX0_init 61 = .ok (.return_, 1) := by decide +kernel
set_option maxRecDepth 20000 in
theorem ggX0_makeNew_X2_openAll : GoodIn wsX0_makeNew wsX2_openAll := goodIn_r _ [15, 16, 17, 18, 19, 14, 20, 21, 22, 23, 24, 25, 26, 27, 28, 29, 30, 31, 32, 33, 34, 35, 36, 37, 56, 57, 58] (by decide +kernel) (by decide +kernel)
set_option maxRecDepth 20000 in
theorem gX0_makeNew_X2_openAll : GoodIn wsX0_makeNew (wsV RX0 37 RX2 yX2_openAll wsX2_openAll) := goodIn_app (goodIn_of _ (by decide +kernel)) ggX0_makeNew_X2_openAll
set_option maxRecDepth 20000 in
theorem ggX0_makeNew_X3_empty : GoodIn wsX0_makeNew wsX3_empty := goodIn_r _ [42, 43, 59, 60, 61, 62] (by decide +kernel) (by decide +kernel)
set_option maxRecDepth 20000 in
theorem gX0_makeNew_X3_empty : GoodIn wsX0_makeNew (wsV RX0 40 RX3 yX3_empty wsX3_empty) := goodIn_app (goodIn_of _ (by decide +kernel)) ggX0_makeNew_X3_empty
set_option maxRecDepth 20000 in
theorem ggX0_makeNew_J7_fill_53178 : GoodIn wsX0_makeNew wsJ7_fill_53178 := goodIn_r _ [25] (by decide +kernel) (by decide +kernel)
set_option maxRecDepth 20000 in
theorem gX0_makeNew_J7_fill_53178 : GoodIn wsX0_makeNew (va_wsS RX0 43 yJ7_fill_53178 wsJ7_fill_53178) := goodIn_app (goodIn_of _ (by decide +kernel)) ggX0_makeNew_J7_fill_53178
theorem dX0_makeNew_0 : decode cX0_makeNew 0 = .ok (.aload_n 0, 1) := by decide +kernel
theorem dX0_makeNew_1 : decode cX0_makeNew 1 = .ok (.getfield 12, 3) := by decide +kernel
theorem dX0_makeNew_4 : decode cX0_makeNew 4 = .ok (.invokevirtual 37, 3) := by decide +kernel
theorem dX0_makeNew_7 : decode cX0_makeNew 7 = .ok (.aload_n 0, 1) := by decide +kernel
theorem dX0_makeNew_8 : decode cX0_makeNew 8 = .ok (.getfield 23, 3) := by decide +kernel
theorem dX0_makeNew_11 : decode cX0_makeNew 11 = .ok (.invokevirtual 40, 3) := by decide +kernel
theorem dX0_makeNew_14 : decode cX0_makeNew 14 = .ok (.aload_n 0, 1) := by decide +kernel
theorem dX0_makeNew_15 : decode cX0_makeNew 15 = .ok (.getfield 27, 3) := by decide +kernel
theorem dX0_makeNew_18 : decode cX0_makeNew 18 = .ok (.invokevirtual 40, 3) := by decide +kernel
theorem dX0_makeNew_21 : decode cX0_makeNew 21 = .ok (.aload_n 0, 1) := by decide +kernel
theorem dX0_makeNew_22 : decode cX0_makeNew 22 = .ok (.getfield 30, 3) := by decide +kernel
theorem dX0_makeNew_25 : decode cX0_makeNew 25 = .ok (.iconst 0, 1) := by decide +kernel
theorem dX0_makeNew_26 : decode cX0_makeNew 26 = .ok (.invokestatic 43, 3) := by decide +kernel
theorem dX0_makeNew_29 : decode cX0_makeNew 29 = .ok (.aload_n 0, 1) := by decide +kernel
theorem dX0_makeNew_30 : decode cX0_makeNew 30 = .ok (.iconst 0, 1) := by decide +kernel
theorem dX0_makeNew_31 : decode cX0_makeNew 31 = .ok (.putfield 49, 3) := by decide +kernel
theorem dX0_makeNew_34 : decode cX0_makeNew 34 = .ok (.aload_n 0, 1) := by decide +kernel
theorem dX0_makeNew_35 : decode cX0_makeNew 35 = .ok (.iconst 0, 1) := by decide +kernel
theorem dX0_makeNew_36 : decode cX0_makeNew 36 = .ok (.putfield 53, 3) := by decide +kernel
theorem dX0_makeNew_39 : decode cX0_makeNew 39 = .ok (.aload_n 0, 1) := by decide +kernel
theorem dX0_makeNew_40 : decode cX0_makeNew 40 = .ok (.iconst 0, 1) := by decide +kernel
theorem dX0_makeNew_41 : decode cX0_makeNew 41 = .ok (.putfield 56, 3) := by decide +kernel
theorem dX0_makeNew_44 : decode cX0_makeNew 44 = .ok (.aload_n 0, 1) := by decide +kernel
theorem dX0_makeNew_45 : decode cX0_makeNew 45 = .ok (.iconst 0, 1) := by decide +kernel
theorem dX0_makeNew_46 : decode cX0_makeNew 46 = .ok (.putfield 59, 3) := by decide +kernel
theorem dX0_makeNew_49 : decode cX0_makeNew 49 = .ok (.aload_n 0, 1) := by decide +kernel
theorem dX0_makeNew_50 : decode cX0_makeNew 50 = .ok (.iconst 5, 1) := by decide +kernel
theorem dX0_makeNew_51 : decode cX0_makeNew 51 = .ok (.putfield 62, 3) := by decide +kernel
theorem dX0_makeNew_54 : decode cX0_makeNew 54 = .ok (.aload_n 0, 1) := by decide +kernel
theorem dX0_makeNew_55 : decode cX0_makeNew 55 = .ok (.iconst 2, 1) := by decide +kernel
theorem dX0_makeNew_56 : decode cX0_makeNew 56 = .ok (.putfield 65, 3) := by decide +kernel
theorem dX0_makeNew_59 : decode cX0_makeNew 59 = .ok (.return_, 1) := by decide +kernel
set_option maxRecDepth 20000 in
theorem ggX0_copyFrom_X2_copyFrom : GoodIn wsX0_copyFrom wsX2_copyFrom := goodIn_r _ [23, 24, 25, 6, 7, 8, 26, 10, 11, 12, 27, 48, 49, 50] (by decide +kernel) (by decide +kernel)
set_option maxRecDepth 20000 in
theorem gX0_copyFrom_X2_copyFrom : GoodIn wsX0_copyFrom (wsV RX0 68 RX2 yX2_copyFrom wsX2_copyFrom) := goodIn_app (goodIn_of _ (by decide +kernel)) ggX0_copyFrom_X2_copyFrom
set_option maxRecDepth 20000 in
theorem ggX0_copyFrom_X3_copyFrom : GoodIn wsX0_copyFrom wsX3_copyFrom := goodIn_r _ [32, 33, 34, 6, 7, 8, 35, 10, 11, 12, 36, 51, 52, 53, 54] (by decide +kernel) (by decide +kernel)
set_option maxRecDepth 20000 in
theorem gX0_copyFrom_X3_copyFrom : GoodIn wsX0_copyFrom (wsV RX0 72 RX3 yX3_copyFrom wsX3_copyFrom) := goodIn_app (goodIn_of _ (by decide +kernel)) ggX0_copyFrom_X3_copyFrom
theorem dX0_copyFrom_0 : decode cX0_copyFrom 0 = .ok (.aload_n 0, 1) := by decide +kernel
theorem dX0_copyFrom_1 : decode cX0_copyFrom 1 = .ok (.getfield 12, 3) := by decide +kernel
theorem dX0_copyFrom_4 : decode cX0_copyFrom 4 = .ok (.aload_n 1, 1) := by decide +kernel
theorem dX0_copyFrom_5 : decode cX0_copyFrom 5 = .ok (.getfield 12, 3) := by decide +kernel
theorem dX0_copyFrom_8 : decode cX0_copyFrom 8 = .ok (.invokevirtual 68, 3) := by decide +kernel
theorem dX0_copyFrom_11 : decode cX0_copyFrom 11 = .ok (.aload_n 0, 1) := by decide +kernel
theorem dX0_copyFrom_12 : decode cX0_copyFrom 12 = .ok (.getfield 23, 3) := by decide +kernel
theorem dX0_copyFrom_15 : decode cX0_copyFrom 15 = .ok (.aload_n 1, 1) := by decide +kernel
theorem dX0_copyFrom_16 : decode cX0_copyFrom 16 = .ok (.getfield 23, 3) := by decide +kernel
theorem dX0_copyFrom_19 : decode cX0_copyFrom 19 = .ok (.invokevirtual 72, 3) := by decide +kernel
theorem dX0_copyFrom_22 : decode cX0_copyFrom 22 = .ok (.aload_n 0, 1) := by decide +kernel
theorem dX0_copyFrom_23 : decode cX0_copyFrom 23 = .ok (.getfield 27, 3) := by decide +kernel
theorem dX0_copyFrom_26 : decode cX0_copyFrom 26 = .ok (.aload_n 1, 1) := by decide +kernel
theorem dX0_copyFrom_27 : decode cX0_copyFrom 27 = .ok (.getfield 27, 3) := by decide +kernel
theorem dX0_copyFrom_30 : decode cX0_copyFrom 30 = .ok (.invokevirtual 72, 3) := by decide +kernel
theorem dX0_copyFrom_33 : decode cX0_copyFrom 33 = .ok (.aload_n 1, 1) := by decide +kernel
theorem dX0_copyFrom_34 : decode cX0_copyFrom 34 = .ok (.getfield 30, 3) := by decide +kernel
theorem dX0_copyFrom_37 : decode cX0_copyFrom 37 = .ok (.iconst 0, 1) := by decide +kernel
theorem dX0_copyFrom_38 : decode cX0_copyFrom 38 = .ok (.aload_n 0, 1) := by decide +kernel
theorem dX0_copyFrom_39 : decode cX0_copyFrom 39 = .ok (.getfield 30, 3) := by decide +kernel
theorem dX0_copyFrom_42 : decode cX0_copyFrom 42 = .ok (.iconst 0, 1) := by decide +kernel
theorem dX0_copyFrom_43 : decode cX0_copyFrom 43 = .ok (.aload_n 1, 1) := by decide +kernel
theorem dX0_copyFrom_44 : decode cX0_copyFrom 44 = .ok (.getfield 30, 3) := by decide +kernel
theorem dX0_copyFrom_47 : decode cX0_copyFrom 47 = .ok (.arraylength, 1) := by decide +kernel
theorem dX0_copyFrom_48 : decode cX0_copyFrom 48 = .ok (.aload_n 0, 1) := by decide +kernel
theorem dX0_copyFrom_49 : decode cX0_copyFrom 49 = .ok (.getfield 30, 3) := by decide +kernel
theorem dX0_copyFrom_52 : decode cX0_copyFrom 52 = .ok (.arraylength, 1) := by decide +kernel
theorem dX0_copyFrom_53 : decode cX0_copyFrom 53 = .ok (.invokestatic 75, 3) := by decide +kernel
theorem dX0_copyFrom_56 : decode cX0_copyFrom 56 = .ok (.invokestatic 81, 3) := by decide +kernel
theorem dX0_copyFrom_59 : decode cX0_copyFrom 59 = .ok (.aload_n 0, 1) := by decide +kernel
theorem dX0_copyFrom_60 : decode cX0_copyFrom 60 = .ok (.aload_n 1, 1) := by decide +kernel
theorem dX0_copyFrom_61 : decode cX0_copyFrom 61 = .ok (.getfield 49, 3) := by decide +kernel
theorem dX0_copyFrom_64 : decode cX0_copyFrom 64 = .ok (.putfield 49, 3) := by decide +kernel
theorem dX0_copyFrom_67 : decode cX0_copyFrom 67 = .ok (.aload_n 0, 1) := by decide +kernel
theorem dX0_copyFrom_68 : decode cX0_copyFrom 68 = .ok (.aload_n 1, 1) := by decide +kernel
theorem dX0_copyFrom_69 : decode cX0_copyFrom 69 = .ok (.getfield 53, 3) := by decide +kernel
theorem dX0_copyFrom_72 : decode cX0_copyFrom 72 = .ok (.putfield 53, 3) := by decide +kernel
theorem dX0_copyFrom_75 : decode cX0_copyFrom 75 = .ok (.aload_n 0, 1) := by decide +kernel
theorem dX0_copyFrom_76 : decode cX0_copyFrom 76 = .ok (.aload_n 1, 1) := by decide +kernel
theorem dX0_copyFrom_77 : decode cX0_copyFrom 77 = .ok (.getfield 56, 3) := by decide +kernel
theorem dX0_copyFrom_80 : decode cX0_copyFrom 80 = .ok (.putfield 56, 3) := by decide +kernel
theorem dX0_copyFrom_83 : decode cX0_copyFrom 83 = .ok (.aload_n 0, 1) := by decide +kernel
theorem dX0_copyFrom_84 : decode cX0_copyFrom 84 = .ok (.aload_n 1, 1) := by decide +kernel
theorem dX0_copyFrom_85 : decode cX0_copyFrom 85 = .ok (.getfield 59, 3) := by decide +kernel
theorem dX0_copyFrom_88 : decode cX0_copyFrom 88 = .ok (.putfield 59, 3) := by decide +kernel
theorem dX0_copyFrom_91 : decode cX0_copyFrom 91 = .ok (.aload_n 0, 1) := by decide +kernel
theorem dX0_copyFrom_92 : decode cX0_copyFrom 92 = .ok (.aload_n 1, 1) := by decide +kernel
theorem dX0_copyFrom_93 : decode cX0_copyFrom 93 = .ok (.getfield 62, 3) := by decide +kernel
theorem dX0_copyFrom_96 : decode cX0_copyFrom 96 = .ok (.putfield 62, 3) := by decide +kernel
theorem dX0_copyFrom_99 : decode cX0_copyFrom 99 = .ok (.aload_n 0, 1) := by decide +kernel
theorem dX0_copyFrom_100 : decode cX0_copyFrom 100 = .ok (.aload_n 1, 1) := by decide +kernel
theorem dX0_copyFrom_101 : decode cX0_copyFrom 101 = .ok (.getfield 65, 3) := by decide +kernel
theorem dX0_copyFrom_104 : decode cX0_copyFrom 104 = .ok (.putfield 65, 3) := by decide +kernel
theorem dX0_copyFrom_107 : decode cX0_copyFrom 107 = .ok (.return_, 1) := by decide +kernel
set_option maxRecDepth 20000 in
theorem ggX0_numberOfBoard_X3_count : GoodIn wsX0_numberOfBoard wsX3_count := goodIn_r _ [12, 13, 90, 91, 92, 93] (by decide +kernel) (by decide +kernel)
set_option maxRecDepth 20000 in
theorem gX0_numberOfBoard_X3_count : GoodIn wsX0_numberOfBoard (wsV RX0 87 RX3 yX3_count wsX3_count) := goodIn_app (goodIn_of _ (by decide +kernel)) ggX0_numberOfBoard_X3_count
set_option maxRecDepth 20000 in
theorem ggX0_numberOfBoard_X0_missingDogs : GoodIn wsX0_numberOfBoard wsX0_missingDogs := goodIn_r _ [18, 1, 8, 9, 10, 11, 12, 13, 19, 20, 21, 22, 23, 24, 79, 80, 81, 82, 83, 84, 85, 86, 87, 88, 89, 90, 91, 92, 93] (by decide +kernel) (by decide +kernel)
set_option maxRecDepth 20000 in
theorem gX0_numberOfBoard_X0_missingDogs : GoodIn wsX0_numberOfBoard (wsV RX0 91 RX0 yX0_missingDogs wsX0_missingDogs) := goodIn_app (goodIn_of _ (by decide +kernel)) ggX0_numberOfBoard_X0_missingDogs
set_option maxRecDepth 20000 in
theorem ggX0_numberOfBoard_X0_missingRewards : GoodIn wsX0_numberOfBoard wsX0_missingRewards := goodIn_r _ [28, 1, 8, 9, 10, 11, 12, 13, 29, 30, 31, 17, 32, 19, 20, 21, 22, 23, 24, 79, 80, 81, 82, 83, 84, 85, 86, 87, 88, 89, 90, 91, 92, 93] (by decide +kernel) (by decide +kernel)
set_option maxRecDepth 20000 in
theorem gX0_numberOfBoard_X0_missingRewards : GoodIn wsX0_numberOfBoard (wsV RX0 94 RX0 yX0_missingRewards wsX0_missingRewards) := goodIn_app (goodIn_of _ (by decide +kernel)) ggX0_numberOfBoard_X0_missingRewards
set_option maxRecDepth 20000 in
theorem ggX0_numberOfBoard_X0_fraudsInAll : GoodIn wsX0_numberOfBoard wsX0_fraudsInAll := goodIn_r _ [36, 1, 8, 9, 10, 11, 12, 13, 37, 38, 39, 17, 40, 2, 29, 30, 31, 32, 19, 20, 21, 22, 23, 24, 41, 42, 43, 44, 7, 45, 46, 47, 48, 49, 50, 51, 52, 53, 54, 55, 56, 57, 58, 59, 60, 61, 62, 63, 64, 65, 66, 67, 68, 69, 70, 71, 72, 79, 80, 81, 82, 83, 84, 85, 86, 87, 88, 89, 90, 91, 92, 93, 94, 95, 96] (by decide +kernel) (by decide +kernel)
set_option maxRecDepth 20000 in
theorem gX0_numberOfBoard_X0_fraudsInAll : GoodIn wsX0_numberOfBoard (wsV RX0 97 RX0 yX0_fraudsInAll wsX0_fraudsInAll) := goodIn_app (goodIn_of _ (by decide +kernel)) ggX0_numberOfBoard_X0_fraudsInAll
set_option maxRecDepth 20000 in
theorem ggX0_numberOfBoard_X0_sightingsMeaning : GoodIn wsX0_numberOfBoard wsX0_sightingsMeaning := goodIn_r _ [54, 2, 8, 9, 10, 11, 12, 13, 19, 20, 21, 22, 23, 24, 79, 80, 81, 82, 83, 84, 85, 86, 87, 88, 89, 90, 91, 92, 93] (by decide +kernel) (by decide +kernel)
set_option maxRecDepth 20000 in
theorem gX0_numberOfBoard_X0_sightingsMeaning : GoodIn wsX0_numberOfBoard (wsV RX0 100 RX0 yX0_sightingsMeaning wsX0_sightingsMeaning) := goodIn_app (goodIn_of _ (by decide +kernel)) ggX0_numberOfBoard_X0_sightingsMeaning
set_option maxRecDepth 20000 in
theorem ggX0_numberOfBoard_J6_bitCount_0f7a4 : GoodIn wsX0_numberOfBoard wsJ6_bitCount_0f7a4 := goodIn_r _ [69, 70, 71, 72] (by decide +kernel) (by decide +kernel)
set_option maxRecDepth 20000 in
theorem gX0_numberOfBoard_J6_bitCount_0f7a4 : GoodIn wsX0_numberOfBoard (va_wsS RX0 104 yJ6_bitCount_0f7a4 wsJ6_bitCount_0f7a4) := goodIn_app (goodIn_of _ (by decide +kernel)) ggX0_numberOfBoard_J6_bitCount_0f7a4
set_option maxRecDepth 20000 in
theorem ggX0_numberOfBoard_X2_closedStreets : GoodIn wsX0_numberOfBoard wsX2_closedStreets := goodIn_r _ [76, 77, 78, 67, 68, 69, 70, 71, 72, 94, 95, 96] (by decide +kernel) (by decide +kernel)
set_option maxRecDepth 20000 in
theorem gX0_numberOfBoard_X2_closedStreets : GoodIn wsX0_numberOfBoard (wsV RX0 109 RX2 yX2_closedStreets wsX2_closedStreets) := goodIn_app (goodIn_of _ (by decide +kernel)) ggX0_numberOfBoard_X2_closedStreets
theorem dX0_numberOfBoard_0 : decode cX0_numberOfBoard 0 = .ok (.iload_n 1, 1) := by decide +kernel
theorem dX0_numberOfBoard_1 : decode cX0_numberOfBoard 1 = .ok (.tableswitch 127 0 10 #[59, 67, 72, 80, 85, 90, 95, 100, 105, 110, 119], 59) := by decide +kernel
theorem dX0_numberOfBoard_60 : decode cX0_numberOfBoard 60 = .ok (.aload_n 0, 1) := by decide +kernel
theorem dX0_numberOfBoard_61 : decode cX0_numberOfBoard 61 = .ok (.getfield 23, 3) := by decide +kernel
theorem dX0_numberOfBoard_64 : decode cX0_numberOfBoard 64 = .ok (.invokevirtual 87, 3) := by decide +kernel
theorem dX0_numberOfBoard_67 : decode cX0_numberOfBoard 67 = .ok (.ireturn, 1) := by decide +kernel
theorem dX0_numberOfBoard_68 : decode cX0_numberOfBoard 68 = .ok (.aload_n 0, 1) := by decide +kernel
theorem dX0_numberOfBoard_69 : decode cX0_numberOfBoard 69 = .ok (.invokevirtual 91, 3) := by decide +kernel
theorem dX0_numberOfBoard_72 : decode cX0_numberOfBoard 72 = .ok (.ireturn, 1) := by decide +kernel
theorem dX0_numberOfBoard_73 : decode cX0_numberOfBoard 73 = .ok (.aload_n 0, 1) := by decide +kernel
theorem dX0_numberOfBoard_74 : decode cX0_numberOfBoard 74 = .ok (.getfield 27, 3) := by decide +kernel
theorem dX0_numberOfBoard_77 : decode cX0_numberOfBoard 77 = .ok (.invokevirtual 87, 3) := by decide +kernel
theorem dX0_numberOfBoard_80 : decode cX0_numberOfBoard 80 = .ok (.ireturn, 1) := by decide +kernel
theorem dX0_numberOfBoard_81 : decode cX0_numberOfBoard 81 = .ok (.aload_n 0, 1) := by decide +kernel
theorem dX0_numberOfBoard_82 : decode cX0_numberOfBoard 82 = .ok (.getfield 49, 3) := by decide +kernel
theorem dX0_numberOfBoard_85 : decode cX0_numberOfBoard 85 = .ok (.ireturn, 1) := by decide +kernel
theorem dX0_numberOfBoard_86 : decode cX0_numberOfBoard 86 = .ok (.aload_n 0, 1) := by decide +kernel
theorem dX0_numberOfBoard_87 : decode cX0_numberOfBoard 87 = .ok (.getfield 53, 3) := by decide +kernel
theorem dX0_numberOfBoard_90 : decode cX0_numberOfBoard 90 = .ok (.ireturn, 1) := by decide +kernel
theorem dX0_numberOfBoard_91 : decode cX0_numberOfBoard 91 = .ok (.aload_n 0, 1) := by decide +kernel
theorem dX0_numberOfBoard_92 : decode cX0_numberOfBoard 92 = .ok (.getfield 56, 3) := by decide +kernel
theorem dX0_numberOfBoard_95 : decode cX0_numberOfBoard 95 = .ok (.ireturn, 1) := by decide +kernel
theorem dX0_numberOfBoard_96 : decode cX0_numberOfBoard 96 = .ok (.aload_n 0, 1) := by decide +kernel
theorem dX0_numberOfBoard_97 : decode cX0_numberOfBoard 97 = .ok (.getfield 59, 3) := by decide +kernel
theorem dX0_numberOfBoard_100 : decode cX0_numberOfBoard 100 = .ok (.ireturn, 1) := by decide +kernel
theorem dX0_numberOfBoard_101 : decode cX0_numberOfBoard 101 = .ok (.aload_n 0, 1) := by decide +kernel
theorem dX0_numberOfBoard_102 : decode cX0_numberOfBoard 102 = .ok (.invokevirtual 94, 3) := by decide +kernel
theorem dX0_numberOfBoard_105 : decode cX0_numberOfBoard 105 = .ok (.ireturn, 1) := by decide +kernel
theorem dX0_numberOfBoard_106 : decode cX0_numberOfBoard 106 = .ok (.aload_n 0, 1) := by decide +kernel
theorem dX0_numberOfBoard_107 : decode cX0_numberOfBoard 107 = .ok (.invokevirtual 97, 3) := by decide +kernel
theorem dX0_numberOfBoard_110 : decode cX0_numberOfBoard 110 = .ok (.ireturn, 1) := by decide +kernel
theorem dX0_numberOfBoard_111 : decode cX0_numberOfBoard 111 = .ok (.aload_n 0, 1) := by decide +kernel
theorem dX0_numberOfBoard_112 : decode cX0_numberOfBoard 112 = .ok (.iconst (-1), 1) := by decide +kernel
theorem dX0_numberOfBoard_113 : decode cX0_numberOfBoard 113 = .ok (.invokevirtual 100, 3) := by decide +kernel
theorem dX0_numberOfBoard_116 : decode cX0_numberOfBoard 116 = .ok (.invokestatic 104, 3) := by decide +kernel
theorem dX0_numberOfBoard_119 : decode cX0_numberOfBoard 119 = .ok (.ireturn, 1) := by decide +kernel
theorem dX0_numberOfBoard_120 : decode cX0_numberOfBoard 120 = .ok (.aload_n 0, 1) := by decide +kernel
theorem dX0_numberOfBoard_121 : decode cX0_numberOfBoard 121 = .ok (.getfield 12, 3) := by decide +kernel
theorem dX0_numberOfBoard_124 : decode cX0_numberOfBoard 124 = .ok (.invokevirtual 109, 3) := by decide +kernel
theorem dX0_numberOfBoard_127 : decode cX0_numberOfBoard 127 = .ok (.ireturn, 1) := by decide +kernel
theorem dX0_numberOfBoard_128 : decode cX0_numberOfBoard 128 = .ok (.iconst (-1), 1) := by decide +kernel
theorem dX0_numberOfBoard_129 : decode cX0_numberOfBoard 129 = .ok (.ireturn, 1) := by decide +kernel
set_option maxRecDepth 20000 in
theorem ggX0_numberOfDog_X3_get : GoodIn wsX0_numberOfDog wsX3_get := goodIn_r _ [6, 7, 8, 9, 72, 73, 74, 75] (by decide +kernel) (by decide +kernel)
set_option maxRecDepth 20000 in
theorem gX0_numberOfDog_X3_get : GoodIn wsX0_numberOfDog (wsV RX0 112 RX3 yX3_get wsX3_get) := goodIn_app (goodIn_of _ (by decide +kernel)) ggX0_numberOfDog_X3_get
set_option maxRecDepth 20000 in
theorem ggX0_numberOfDog_X0_sightingsMeaning : GoodIn wsX0_numberOfDog wsX0_sightingsMeaning := goodIn_r _ [14, 15, 16, 17, 18, 5, 19, 8, 2, 3, 4, 6, 7, 9, 61, 62, 63, 64, 65, 66, 67, 68, 69, 70, 71, 72, 73, 74, 75] (by decide +kernel) (by decide +kernel)
set_option maxRecDepth 20000 in
theorem gX0_numberOfDog_X0_sightingsMeaning : GoodIn wsX0_numberOfDog (wsV RX0 100 RX0 yX0_sightingsMeaning wsX0_sightingsMeaning) := goodIn_app (goodIn_of _ (by decide +kernel)) ggX0_numberOfDog_X0_sightingsMeaning
set_option maxRecDepth 20000 in
theorem ggX0_numberOfDog_J6_bitCount_0f7a4 : GoodIn wsX0_numberOfDog wsJ6_bitCount_0f7a4 := goodIn_r _ [23, 24, 25, 26] (by decide +kernel) (by decide +kernel)
set_option maxRecDepth 20000 in
theorem gX0_numberOfDog_J6_bitCount_0f7a4 : GoodIn wsX0_numberOfDog (va_wsS RX0 104 yJ6_bitCount_0f7a4 wsJ6_bitCount_0f7a4) := goodIn_app (goodIn_of _ (by decide +kernel)) ggX0_numberOfDog_J6_bitCount_0f7a4
set_option maxRecDepth 20000 in
theorem ggX0_numberOfDog_X0_honestFor : GoodIn wsX0_numberOfDog wsX0_honestFor := goodIn_r _ [30, 10, 11, 12, 13, 14, 15, 16, 17, 18, 5, 19, 8, 2, 3, 4, 6, 7, 9, 31, 32, 33, 34, 1, 35, 36, 37, 38, 39, 40, 41, 42, 43, 44, 45, 46, 47, 48, 49, 50, 51, 52, 53, 54, 55, 56, 57, 58, 59, 60, 61, 62, 63, 64, 65, 66, 67, 68, 69, 70, 71, 72, 73, 74, 75, 76, 77, 78] (by decide +kernel) (by decide +kernel)
set_option maxRecDepth 20000 in
theorem gX0_numberOfDog_X0_honestFor : GoodIn wsX0_numberOfDog (wsV RX0 115 RX0 yX0_honestFor wsX0_honestFor) := goodIn_app (goodIn_of _ (by decide +kernel)) ggX0_numberOfDog_X0_honestFor
theorem dX0_numberOfDog_0 : decode cX0_numberOfDog 0 = .ok (.iload_n 2, 1) := by decide +kernel
theorem dX0_numberOfDog_1 : decode cX0_numberOfDog 1 = .ok (.tableswitch 170 0 10 #[59, 69, 79, 89, 99, 109, 119, 128, 137, 148, 159], 59) := by decide +kernel
theorem dX0_numberOfDog_60 : decode cX0_numberOfDog 60 = .ok (.aload_n 0, 1) := by decide +kernel
theorem dX0_numberOfDog_61 : decode cX0_numberOfDog 61 = .ok (.getfield 23, 3) := by decide +kernel
theorem dX0_numberOfDog_64 : decode cX0_numberOfDog 64 = .ok (.iload_n 1, 1) := by decide +kernel
theorem dX0_numberOfDog_65 : decode cX0_numberOfDog 65 = .ok (.iconst 0, 1) := by decide +kernel
theorem dX0_numberOfDog_66 : decode cX0_numberOfDog 66 = .ok (.invokevirtual 112, 3) := by decide +kernel
theorem dX0_numberOfDog_69 : decode cX0_numberOfDog 69 = .ok (.ireturn, 1) := by decide +kernel
theorem dX0_numberOfDog_70 : decode cX0_numberOfDog 70 = .ok (.aload_n 0, 1) := by decide +kernel
theorem dX0_numberOfDog_71 : decode cX0_numberOfDog 71 = .ok (.getfield 23, 3) := by decide +kernel
theorem dX0_numberOfDog_74 : decode cX0_numberOfDog 74 = .ok (.iload_n 1, 1) := by decide +kernel
theorem dX0_numberOfDog_75 : decode cX0_numberOfDog 75 = .ok (.iconst 1, 1) := by decide +kernel
theorem dX0_numberOfDog_76 : decode cX0_numberOfDog 76 = .ok (.invokevirtual 112, 3) := by decide +kernel
theorem dX0_numberOfDog_79 : decode cX0_numberOfDog 79 = .ok (.ireturn, 1) := by decide +kernel
theorem dX0_numberOfDog_80 : decode cX0_numberOfDog 80 = .ok (.aload_n 0, 1) := by decide +kernel
theorem dX0_numberOfDog_81 : decode cX0_numberOfDog 81 = .ok (.getfield 23, 3) := by decide +kernel
theorem dX0_numberOfDog_84 : decode cX0_numberOfDog 84 = .ok (.iload_n 1, 1) := by decide +kernel
theorem dX0_numberOfDog_85 : decode cX0_numberOfDog 85 = .ok (.iconst 2, 1) := by decide +kernel
theorem dX0_numberOfDog_86 : decode cX0_numberOfDog 86 = .ok (.invokevirtual 112, 3) := by decide +kernel
theorem dX0_numberOfDog_89 : decode cX0_numberOfDog 89 = .ok (.ireturn, 1) := by decide +kernel
theorem dX0_numberOfDog_90 : decode cX0_numberOfDog 90 = .ok (.aload_n 0, 1) := by decide +kernel
theorem dX0_numberOfDog_91 : decode cX0_numberOfDog 91 = .ok (.getfield 23, 3) := by decide +kernel
theorem dX0_numberOfDog_94 : decode cX0_numberOfDog 94 = .ok (.iload_n 1, 1) := by decide +kernel
theorem dX0_numberOfDog_95 : decode cX0_numberOfDog 95 = .ok (.iconst 3, 1) := by decide +kernel
theorem dX0_numberOfDog_96 : decode cX0_numberOfDog 96 = .ok (.invokevirtual 112, 3) := by decide +kernel
theorem dX0_numberOfDog_99 : decode cX0_numberOfDog 99 = .ok (.ireturn, 1) := by decide +kernel
theorem dX0_numberOfDog_100 : decode cX0_numberOfDog 100 = .ok (.aload_n 0, 1) := by decide +kernel
theorem dX0_numberOfDog_101 : decode cX0_numberOfDog 101 = .ok (.getfield 23, 3) := by decide +kernel
theorem dX0_numberOfDog_104 : decode cX0_numberOfDog 104 = .ok (.iload_n 1, 1) := by decide +kernel
theorem dX0_numberOfDog_105 : decode cX0_numberOfDog 105 = .ok (.iconst 4, 1) := by decide +kernel
theorem dX0_numberOfDog_106 : decode cX0_numberOfDog 106 = .ok (.invokevirtual 112, 3) := by decide +kernel
theorem dX0_numberOfDog_109 : decode cX0_numberOfDog 109 = .ok (.ireturn, 1) := by decide +kernel
theorem dX0_numberOfDog_110 : decode cX0_numberOfDog 110 = .ok (.aload_n 0, 1) := by decide +kernel
theorem dX0_numberOfDog_111 : decode cX0_numberOfDog 111 = .ok (.getfield 23, 3) := by decide +kernel
theorem dX0_numberOfDog_114 : decode cX0_numberOfDog 114 = .ok (.iload_n 1, 1) := by decide +kernel
theorem dX0_numberOfDog_115 : decode cX0_numberOfDog 115 = .ok (.iconst 5, 1) := by decide +kernel
theorem dX0_numberOfDog_116 : decode cX0_numberOfDog 116 = .ok (.invokevirtual 112, 3) := by decide +kernel
theorem dX0_numberOfDog_119 : decode cX0_numberOfDog 119 = .ok (.ireturn, 1) := by decide +kernel
theorem dX0_numberOfDog_120 : decode cX0_numberOfDog 120 = .ok (.aload_n 0, 1) := by decide +kernel
theorem dX0_numberOfDog_121 : decode cX0_numberOfDog 121 = .ok (.iload_n 1, 1) := by decide +kernel
theorem dX0_numberOfDog_122 : decode cX0_numberOfDog 122 = .ok (.invokevirtual 100, 3) := by decide +kernel
theorem dX0_numberOfDog_125 : decode cX0_numberOfDog 125 = .ok (.invokestatic 104, 3) := by decide +kernel
theorem dX0_numberOfDog_128 : decode cX0_numberOfDog 128 = .ok (.ireturn, 1) := by decide +kernel
theorem dX0_numberOfDog_129 : decode cX0_numberOfDog 129 = .ok (.aload_n 0, 1) := by decide +kernel
theorem dX0_numberOfDog_130 : decode cX0_numberOfDog 130 = .ok (.iload_n 1, 1) := by decide +kernel
theorem dX0_numberOfDog_131 : decode cX0_numberOfDog 131 = .ok (.invokevirtual 115, 3) := by decide +kernel
theorem dX0_numberOfDog_134 : decode cX0_numberOfDog 134 = .ok (.invokestatic 104, 3) := by decide +kernel
theorem dX0_numberOfDog_137 : decode cX0_numberOfDog 137 = .ok (.ireturn, 1) := by decide +kernel
theorem dX0_numberOfDog_138 : decode cX0_numberOfDog 138 = .ok (.aload_n 0, 1) := by decide +kernel
theorem dX0_numberOfDog_139 : decode cX0_numberOfDog 139 = .ok (.getfield 23, 3) := by decide +kernel
theorem dX0_numberOfDog_142 : decode cX0_numberOfDog 142 = .ok (.iload_n 1, 1) := by decide +kernel
theorem dX0_numberOfDog_143 : decode cX0_numberOfDog 143 = .ok (.bipush 6, 2) := by decide +kernel
theorem dX0_numberOfDog_145 : decode cX0_numberOfDog 145 = .ok (.invokevirtual 112, 3) := by decide +kernel
theorem dX0_numberOfDog_148 : decode cX0_numberOfDog 148 = .ok (.ireturn, 1) := by decide +kernel
theorem dX0_numberOfDog_149 : decode cX0_numberOfDog 149 = .ok (.aload_n 0, 1) := by decide +kernel
theorem dX0_numberOfDog_150 : decode cX0_numberOfDog 150 = .ok (.getfield 23, 3) := by decide +kernel
theorem dX0_numberOfDog_153 : decode cX0_numberOfDog 153 = .ok (.iload_n 1, 1) := by decide +kernel
theorem dX0_numberOfDog_154 : decode cX0_numberOfDog 154 = .ok (.bipush 7, 2) := by decide +kernel
theorem dX0_numberOfDog_156 : decode cX0_numberOfDog 156 = .ok (.invokevirtual 112, 3) := by decide +kernel
theorem dX0_numberOfDog_159 : decode cX0_numberOfDog 159 = .ok (.ireturn, 1) := by decide +kernel
theorem dX0_numberOfDog_160 : decode cX0_numberOfDog 160 = .ok (.aload_n 0, 1) := by decide +kernel
theorem dX0_numberOfDog_161 : decode cX0_numberOfDog 161 = .ok (.getfield 23, 3) := by decide +kernel
theorem dX0_numberOfDog_164 : decode cX0_numberOfDog 164 = .ok (.iload_n 1, 1) := by decide +kernel
theorem dX0_numberOfDog_165 : decode cX0_numberOfDog 165 = .ok (.bipush 8, 2) := by decide +kernel
theorem dX0_numberOfDog_167 : decode cX0_numberOfDog 167 = .ok (.invokevirtual 112, 3) := by decide +kernel
theorem dX0_numberOfDog_170 : decode cX0_numberOfDog 170 = .ok (.ireturn, 1) := by decide +kernel
theorem dX0_numberOfDog_171 : decode cX0_numberOfDog 171 = .ok (.iconst (-1), 1) := by decide +kernel
theorem dX0_numberOfDog_172 : decode cX0_numberOfDog 172 = .ok (.ireturn, 1) := by decide +kernel
set_option maxRecDepth 20000 in
theorem ggX0_numberOfSighting_X3_get : GoodIn wsX0_numberOfSighting wsX3_get := goodIn_r _ [6, 7, 8, 9, 76, 77, 78, 79] (by decide +kernel) (by decide +kernel)
set_option maxRecDepth 20000 in
theorem gX0_numberOfSighting_X3_get : GoodIn wsX0_numberOfSighting (wsV RX0 112 RX3 yX3_get wsX3_get) := goodIn_app (goodIn_of _ (by decide +kernel)) ggX0_numberOfSighting_X3_get
set_option maxRecDepth 20000 in
theorem ggX0_numberOfSighting_X0_unlikeMarks : GoodIn wsX0_numberOfSighting wsX0_unlikeMarks := goodIn_r _ [14, 15, 2, 3, 4, 5, 6, 7, 8, 9, 16, 17, 18, 19, 20, 21, 22, 65, 66, 67, 68, 69, 70, 71, 72, 73, 74, 75, 76, 77, 78, 79] (by decide +kernel) (by decide +kernel)
set_option maxRecDepth 20000 in
theorem gX0_numberOfSighting_X0_unlikeMarks : GoodIn wsX0_numberOfSighting (wsV RX0 118 RX0 yX0_unlikeMarks wsX0_unlikeMarks) := goodIn_app (goodIn_of _ (by decide +kernel)) ggX0_numberOfSighting_X0_unlikeMarks
set_option maxRecDepth 20000 in
theorem ggX0_numberOfSighting_X0_trueFor : GoodIn wsX0_numberOfSighting wsX0_trueFor := goodIn_r _ [26, 15, 27, 28, 29, 13, 30, 2, 3, 4, 5, 6, 7, 8, 9, 31, 32, 33, 34, 1, 35, 36, 37, 38, 39, 40, 41, 42, 43, 44, 45, 65, 66, 67, 68, 69, 70, 71, 72, 73, 74, 75, 76, 77, 78, 79, 80, 81, 82] (by decide +kernel) (by decide +kernel)
set_option maxRecDepth 20000 in
theorem gX0_numberOfSighting_X0_trueFor : GoodIn wsX0_numberOfSighting (wsV RX0 121 RX0 yX0_trueFor wsX0_trueFor) := goodIn_app (goodIn_of _ (by decide +kernel)) ggX0_numberOfSighting_X0_trueFor
set_option maxRecDepth 20000 in
theorem ggX0_numberOfSighting_X0_fraudsFor : GoodIn wsX0_numberOfSighting wsX0_fraudsFor := goodIn_r _ [49, 15, 1, 27, 28, 29, 13, 30, 2, 3, 4, 5, 6, 7, 8, 9, 31, 32, 33, 34, 35, 36, 37, 38, 39, 40, 41, 42, 43, 44, 45, 50, 51, 52, 53, 54, 55, 56, 57, 58, 59, 60, 61, 62, 63, 64, 65, 66, 67, 68, 69, 70, 71, 72, 73, 74, 75, 76, 77, 78, 79, 80, 81, 82] (by decide +kernel) (by decide +kernel)
set_option maxRecDepth 20000 in
theorem gX0_numberOfSighting_X0_fraudsFor : GoodIn wsX0_numberOfSighting (wsV RX0 124 RX0 yX0_fraudsFor wsX0_fraudsFor) := goodIn_app (goodIn_of _ (by decide +kernel)) ggX0_numberOfSighting_X0_fraudsFor
theorem dX0_numberOfSighting_0 : decode cX0_numberOfSighting 0 = .ok (.aload_n 0, 1) := by decide +kernel
theorem dX0_numberOfSighting_1 : decode cX0_numberOfSighting 1 = .ok (.getfield 27, 3) := by decide +kernel
theorem dX0_numberOfSighting_4 : decode cX0_numberOfSighting 4 = .ok (.iload_n 1, 1) := by decide +kernel
theorem dX0_numberOfSighting_5 : decode cX0_numberOfSighting 5 = .ok (.iconst 5, 1) := by decide +kernel
theorem dX0_numberOfSighting_6 : decode cX0_numberOfSighting 6 = .ok (.invokevirtual 112, 3) := by decide +kernel
theorem dX0_numberOfSighting_9 : decode cX0_numberOfSighting 9 = .ok (.istore_n 3, 1) := by decide +kernel
theorem dX0_numberOfSighting_10 : decode cX0_numberOfSighting 10 = .ok (.iload_n 2, 1) := by decide +kernel
theorem dX0_numberOfSighting_11 : decode cX0_numberOfSighting 11 = .ok (.tableswitch 163 0 8 #[49, 59, 69, 79, 89, 99, 101, 125, 144], 49) := by decide +kernel
theorem dX0_numberOfSighting_60 : decode cX0_numberOfSighting 60 = .ok (.aload_n 0, 1) := by decide +kernel
theorem dX0_numberOfSighting_61 : decode cX0_numberOfSighting 61 = .ok (.getfield 27, 3) := by decide +kernel
theorem dX0_numberOfSighting_64 : decode cX0_numberOfSighting 64 = .ok (.iload_n 1, 1) := by decide +kernel
theorem dX0_numberOfSighting_65 : decode cX0_numberOfSighting 65 = .ok (.iconst 0, 1) := by decide +kernel
theorem dX0_numberOfSighting_66 : decode cX0_numberOfSighting 66 = .ok (.invokevirtual 112, 3) := by decide +kernel
theorem dX0_numberOfSighting_69 : decode cX0_numberOfSighting 69 = .ok (.ireturn, 1) := by decide +kernel
theorem dX0_numberOfSighting_70 : decode cX0_numberOfSighting 70 = .ok (.aload_n 0, 1) := by decide +kernel
theorem dX0_numberOfSighting_71 : decode cX0_numberOfSighting 71 = .ok (.getfield 27, 3) := by decide +kernel
theorem dX0_numberOfSighting_74 : decode cX0_numberOfSighting 74 = .ok (.iload_n 1, 1) := by decide +kernel
theorem dX0_numberOfSighting_75 : decode cX0_numberOfSighting 75 = .ok (.iconst 1, 1) := by decide +kernel
theorem dX0_numberOfSighting_76 : decode cX0_numberOfSighting 76 = .ok (.invokevirtual 112, 3) := by decide +kernel
theorem dX0_numberOfSighting_79 : decode cX0_numberOfSighting 79 = .ok (.ireturn, 1) := by decide +kernel
theorem dX0_numberOfSighting_80 : decode cX0_numberOfSighting 80 = .ok (.aload_n 0, 1) := by decide +kernel
theorem dX0_numberOfSighting_81 : decode cX0_numberOfSighting 81 = .ok (.getfield 27, 3) := by decide +kernel
theorem dX0_numberOfSighting_84 : decode cX0_numberOfSighting 84 = .ok (.iload_n 1, 1) := by decide +kernel
theorem dX0_numberOfSighting_85 : decode cX0_numberOfSighting 85 = .ok (.iconst 2, 1) := by decide +kernel
theorem dX0_numberOfSighting_86 : decode cX0_numberOfSighting 86 = .ok (.invokevirtual 112, 3) := by decide +kernel
theorem dX0_numberOfSighting_89 : decode cX0_numberOfSighting 89 = .ok (.ireturn, 1) := by decide +kernel
theorem dX0_numberOfSighting_90 : decode cX0_numberOfSighting 90 = .ok (.aload_n 0, 1) := by decide +kernel
theorem dX0_numberOfSighting_91 : decode cX0_numberOfSighting 91 = .ok (.getfield 27, 3) := by decide +kernel
theorem dX0_numberOfSighting_94 : decode cX0_numberOfSighting 94 = .ok (.iload_n 1, 1) := by decide +kernel
theorem dX0_numberOfSighting_95 : decode cX0_numberOfSighting 95 = .ok (.iconst 3, 1) := by decide +kernel
theorem dX0_numberOfSighting_96 : decode cX0_numberOfSighting 96 = .ok (.invokevirtual 112, 3) := by decide +kernel
theorem dX0_numberOfSighting_99 : decode cX0_numberOfSighting 99 = .ok (.ireturn, 1) := by decide +kernel
theorem dX0_numberOfSighting_100 : decode cX0_numberOfSighting 100 = .ok (.aload_n 0, 1) := by decide +kernel
theorem dX0_numberOfSighting_101 : decode cX0_numberOfSighting 101 = .ok (.getfield 27, 3) := by decide +kernel
theorem dX0_numberOfSighting_104 : decode cX0_numberOfSighting 104 = .ok (.iload_n 1, 1) := by decide +kernel
theorem dX0_numberOfSighting_105 : decode cX0_numberOfSighting 105 = .ok (.iconst 4, 1) := by decide +kernel
theorem dX0_numberOfSighting_106 : decode cX0_numberOfSighting 106 = .ok (.invokevirtual 112, 3) := by decide +kernel
theorem dX0_numberOfSighting_109 : decode cX0_numberOfSighting 109 = .ok (.ireturn, 1) := by decide +kernel
theorem dX0_numberOfSighting_110 : decode cX0_numberOfSighting 110 = .ok (.iload_n 3, 1) := by decide +kernel
theorem dX0_numberOfSighting_111 : decode cX0_numberOfSighting 111 = .ok (.ireturn, 1) := by decide +kernel
theorem dX0_numberOfSighting_112 : decode cX0_numberOfSighting 112 = .ok (.iload_n 3, 1) := by decide +kernel
theorem dX0_numberOfSighting_113 : decode cX0_numberOfSighting 113 = .ok (.iconst (-1), 1) := by decide +kernel
theorem dX0_numberOfSighting_114 : decode cX0_numberOfSighting 114 = .ok (.if_icmp .ne 7, 3) := by decide +kernel
theorem dX0_numberOfSighting_117 : decode cX0_numberOfSighting 117 = .ok (.iconst (-1), 1) := by decide +kernel
theorem dX0_numberOfSighting_118 : decode cX0_numberOfSighting 118 = .ok (.goto 17, 3) := by decide +kernel
theorem dX0_numberOfSighting_121 : decode cX0_numberOfSighting 121 = .ok (.aload_n 0, 1) := by decide +kernel
theorem dX0_numberOfSighting_122 : decode cX0_numberOfSighting 122 = .ok (.iload_n 3, 1) := by decide +kernel
theorem dX0_numberOfSighting_123 : decode cX0_numberOfSighting 123 = .ok (.aload_n 0, 1) := by decide +kernel
theorem dX0_numberOfSighting_124 : decode cX0_numberOfSighting 124 = .ok (.getfield 27, 3) := by decide +kernel
theorem dX0_numberOfSighting_127 : decode cX0_numberOfSighting 127 = .ok (.iload_n 1, 1) := by decide +kernel
theorem dX0_numberOfSighting_128 : decode cX0_numberOfSighting 128 = .ok (.iconst 3, 1) := by decide +kernel
theorem dX0_numberOfSighting_129 : decode cX0_numberOfSighting 129 = .ok (.invokevirtual 112, 3) := by decide +kernel
theorem dX0_numberOfSighting_132 : decode cX0_numberOfSighting 132 = .ok (.invokevirtual 118, 3) := by decide +kernel
theorem dX0_numberOfSighting_135 : decode cX0_numberOfSighting 135 = .ok (.ireturn, 1) := by decide +kernel
theorem dX0_numberOfSighting_136 : decode cX0_numberOfSighting 136 = .ok (.iload_n 3, 1) := by decide +kernel
theorem dX0_numberOfSighting_137 : decode cX0_numberOfSighting 137 = .ok (.iconst (-1), 1) := by decide +kernel
theorem dX0_numberOfSighting_138 : decode cX0_numberOfSighting 138 = .ok (.if_icmp .ne 7, 3) := by decide +kernel
theorem dX0_numberOfSighting_141 : decode cX0_numberOfSighting 141 = .ok (.iconst (-1), 1) := by decide +kernel
theorem dX0_numberOfSighting_142 : decode cX0_numberOfSighting 142 = .ok (.goto 12, 3) := by decide +kernel
theorem dX0_numberOfSighting_145 : decode cX0_numberOfSighting 145 = .ok (.aload_n 0, 1) := by decide +kernel
theorem dX0_numberOfSighting_146 : decode cX0_numberOfSighting 146 = .ok (.iload_n 3, 1) := by decide +kernel
theorem dX0_numberOfSighting_147 : decode cX0_numberOfSighting 147 = .ok (.invokevirtual 121, 3) := by decide +kernel
theorem dX0_numberOfSighting_150 : decode cX0_numberOfSighting 150 = .ok (.iload_n 1, 1) := by decide +kernel
theorem dX0_numberOfSighting_151 : decode cX0_numberOfSighting 151 = .ok (.ishr, 1) := by decide +kernel
theorem dX0_numberOfSighting_152 : decode cX0_numberOfSighting 152 = .ok (.iconst 1, 1) := by decide +kernel
theorem dX0_numberOfSighting_153 : decode cX0_numberOfSighting 153 = .ok (.iand, 1) := by decide +kernel
theorem dX0_numberOfSighting_154 : decode cX0_numberOfSighting 154 = .ok (.ireturn, 1) := by decide +kernel
theorem dX0_numberOfSighting_155 : decode cX0_numberOfSighting 155 = .ok (.iload_n 3, 1) := by decide +kernel
theorem dX0_numberOfSighting_156 : decode cX0_numberOfSighting 156 = .ok (.iconst (-1), 1) := by decide +kernel
theorem dX0_numberOfSighting_157 : decode cX0_numberOfSighting 157 = .ok (.if_icmp .ne 7, 3) := by decide +kernel
theorem dX0_numberOfSighting_160 : decode cX0_numberOfSighting 160 = .ok (.iconst 0, 1) := by decide +kernel
theorem dX0_numberOfSighting_161 : decode cX0_numberOfSighting 161 = .ok (.goto 12, 3) := by decide +kernel
theorem dX0_numberOfSighting_164 : decode cX0_numberOfSighting 164 = .ok (.aload_n 0, 1) := by decide +kernel
theorem dX0_numberOfSighting_165 : decode cX0_numberOfSighting 165 = .ok (.iload_n 3, 1) := by decide +kernel
theorem dX0_numberOfSighting_166 : decode cX0_numberOfSighting 166 = .ok (.invokevirtual 124, 3) := by decide +kernel
theorem dX0_numberOfSighting_169 : decode cX0_numberOfSighting 169 = .ok (.iload_n 1, 1) := by decide +kernel
theorem dX0_numberOfSighting_170 : decode cX0_numberOfSighting 170 = .ok (.ishr, 1) := by decide +kernel
theorem dX0_numberOfSighting_171 : decode cX0_numberOfSighting 171 = .ok (.iconst 1, 1) := by decide +kernel
theorem dX0_numberOfSighting_172 : decode cX0_numberOfSighting 172 = .ok (.iand, 1) := by decide +kernel
theorem dX0_numberOfSighting_173 : decode cX0_numberOfSighting 173 = .ok (.ireturn, 1) := by decide +kernel
theorem dX0_numberOfSighting_174 : decode cX0_numberOfSighting 174 = .ok (.iconst (-1), 1) := by decide +kernel
theorem dX0_numberOfSighting_175 : decode cX0_numberOfSighting 175 = .ok (.ireturn, 1) := by decide +kernel
theorem dX0_coinsOf_0 : decode cX0_coinsOf 0 = .ok (.iload_n 1, 1) := by decide +kernel
theorem dX0_coinsOf_1 : decode cX0_coinsOf 1 = .ok (.ifCond .lt 21, 3) := by decide +kernel
theorem dX0_coinsOf_4 : decode cX0_coinsOf 4 = .ok (.iload_n 1, 1) := by decide +kernel
theorem dX0_coinsOf_5 : decode cX0_coinsOf 5 = .ok (.aload_n 0, 1) := by decide +kernel
theorem dX0_coinsOf_6 : decode cX0_coinsOf 6 = .ok (.getfield 30, 3) := by decide +kernel
theorem dX0_coinsOf_9 : decode cX0_coinsOf 9 = .ok (.arraylength, 1) := by decide +kernel
theorem dX0_coinsOf_10 : decode cX0_coinsOf 10 = .ok (.if_icmp .ge 12, 3) := by decide +kernel
theorem dX0_coinsOf_13 : decode cX0_coinsOf 13 = .ok (.aload_n 0, 1) := by decide +kernel
theorem dX0_coinsOf_14 : decode cX0_coinsOf 14 = .ok (.getfield 30, 3) := by decide +kernel
theorem dX0_coinsOf_17 : decode cX0_coinsOf 17 = .ok (.iload_n 1, 1) := by decide +kernel
theorem dX0_coinsOf_18 : decode cX0_coinsOf 18 = .ok (.iaload, 1) := by decide +kernel
theorem dX0_coinsOf_19 : decode cX0_coinsOf 19 = .ok (.goto 4, 3) := by decide +kernel
theorem dX0_coinsOf_22 : decode cX0_coinsOf 22 = .ok (.iconst 0, 1) := by decide +kernel
theorem dX0_coinsOf_23 : decode cX0_coinsOf 23 = .ok (.ireturn, 1) := by decide +kernel
set_option maxRecDepth 20000 in
theorem ggX0_isMissing_X3_get : GoodIn wsX0_isMissing wsX3_get := goodIn_r _ [6, 7, 8, 9, 21, 22, 23, 24] (by decide +kernel) (by decide +kernel)
set_option maxRecDepth 20000 in
theorem gX0_isMissing_X3_get : GoodIn wsX0_isMissing (wsV RX0 112 RX3 yX3_get wsX3_get) := goodIn_app (goodIn_of _ (by decide +kernel)) ggX0_isMissing_X3_get
theorem dX0_isMissing_0 : decode cX0_isMissing 0 = .ok (.aload_n 0, 1) := by decide +kernel
theorem dX0_isMissing_1 : decode cX0_isMissing 1 = .ok (.getfield 23, 3) := by decide +kernel
theorem dX0_isMissing_4 : decode cX0_isMissing 4 = .ok (.iload_n 1, 1) := by decide +kernel
theorem dX0_isMissing_5 : decode cX0_isMissing 5 = .ok (.iconst 5, 1) := by decide +kernel
theorem dX0_isMissing_6 : decode cX0_isMissing 6 = .ok (.invokevirtual 112, 3) := by decide +kernel
theorem dX0_isMissing_9 : decode cX0_isMissing 9 = .ok (.iconst 1, 1) := by decide +kernel
theorem dX0_isMissing_10 : decode cX0_isMissing 10 = .ok (.if_icmp .ne 7, 3) := by decide +kernel
theorem dX0_isMissing_13 : decode cX0_isMissing 13 = .ok (.iconst 1, 1) := by decide +kernel
theorem dX0_isMissing_14 : decode cX0_isMissing 14 = .ok (.goto 4, 3) := by decide +kernel
theorem dX0_isMissing_17 : decode cX0_isMissing 17 = .ok (.iconst 0, 1) := by decide +kernel
theorem dX0_isMissing_18 : decode cX0_isMissing 18 = .ok (.ireturn, 1) := by decide +kernel
set_option maxRecDepth 20000 in
theorem ggX0_missingDogs_X3_count : GoodIn wsX0_missingDogs wsX3_count := goodIn_r _ [6, 7, 25, 26, 27, 28] (by decide +kernel) (by decide +kernel)
set_option maxRecDepth 20000 in
theorem gX0_missingDogs_X3_count : GoodIn wsX0_missingDogs (wsV RX0 87 RX3 yX3_count wsX3_count) := goodIn_app (goodIn_of _ (by decide +kernel)) ggX0_missingDogs_X3_count
set_option maxRecDepth 20000 in
theorem ggX0_missingDogs_X3_get : GoodIn wsX0_missingDogs wsX3_get := goodIn_r _ [11, 12, 7, 13, 25, 26, 27, 28] (by decide +kernel) (by decide +kernel)
set_option maxRecDepth 20000 in
theorem gX0_missingDogs_X3_get : GoodIn wsX0_missingDogs (wsV RX0 112 RX3 yX3_get wsX3_get) := goodIn_app (goodIn_of _ (by decide +kernel)) ggX0_missingDogs_X3_get
theorem dX0_missingDogs_0 : decode cX0_missingDogs 0 = .ok (.iconst 0, 1) := by decide +kernel
theorem dX0_missingDogs_1 : decode cX0_missingDogs 1 = .ok (.istore_n 1, 1) := by decide +kernel
theorem dX0_missingDogs_2 : decode cX0_missingDogs 2 = .ok (.iconst 0, 1) := by decide +kernel
theorem dX0_missingDogs_3 : decode cX0_missingDogs 3 = .ok (.istore_n 2, 1) := by decide +kernel
theorem dX0_missingDogs_4 : decode cX0_missingDogs 4 = .ok (.iload_n 2, 1) := by decide +kernel
theorem dX0_missingDogs_5 : decode cX0_missingDogs 5 = .ok (.aload_n 0, 1) := by decide +kernel
theorem dX0_missingDogs_6 : decode cX0_missingDogs 6 = .ok (.getfield 23, 3) := by decide +kernel
theorem dX0_missingDogs_9 : decode cX0_missingDogs 9 = .ok (.invokevirtual 87, 3) := by decide +kernel
theorem dX0_missingDogs_12 : decode cX0_missingDogs 12 = .ok (.if_icmp .ge 21, 3) := by decide +kernel
theorem dX0_missingDogs_15 : decode cX0_missingDogs 15 = .ok (.iload_n 1, 1) := by decide +kernel
theorem dX0_missingDogs_16 : decode cX0_missingDogs 16 = .ok (.aload_n 0, 1) := by decide +kernel
theorem dX0_missingDogs_17 : decode cX0_missingDogs 17 = .ok (.getfield 23, 3) := by decide +kernel
theorem dX0_missingDogs_20 : decode cX0_missingDogs 20 = .ok (.iload_n 2, 1) := by decide +kernel
theorem dX0_missingDogs_21 : decode cX0_missingDogs 21 = .ok (.iconst 5, 1) := by decide +kernel
theorem dX0_missingDogs_22 : decode cX0_missingDogs 22 = .ok (.invokevirtual 112, 3) := by decide +kernel
theorem dX0_missingDogs_25 : decode cX0_missingDogs 25 = .ok (.iadd, 1) := by decide +kernel
theorem dX0_missingDogs_26 : decode cX0_missingDogs 26 = .ok (.istore_n 1, 1) := by decide +kernel
theorem dX0_missingDogs_27 : decode cX0_missingDogs 27 = .ok (.iinc 2 1, 3) := by decide +kernel
theorem dX0_missingDogs_30 : decode cX0_missingDogs 30 = .ok (.goto (-26), 3) := by decide +kernel
theorem dX0_missingDogs_33 : decode cX0_missingDogs 33 = .ok (.iload_n 1, 1) := by decide +kernel
theorem dX0_missingDogs_34 : decode cX0_missingDogs 34 = .ok (.ireturn, 1) := by decide +kernel
set_option maxRecDepth 20000 in
theorem ggX0_missingRewards_X3_count : GoodIn wsX0_missingRewards wsX3_count := goodIn_r _ [6, 7, 30, 31, 32, 33] (by decide +kernel) (by decide +kernel)
set_option maxRecDepth 20000 in
theorem gX0_missingRewards_X3_count : GoodIn wsX0_missingRewards (wsV RX0 87 RX3 yX3_count wsX3_count) := goodIn_app (goodIn_of _ (by decide +kernel)) ggX0_missingRewards_X3_count
set_option maxRecDepth 20000 in
theorem ggX0_missingRewards_X0_isMissing : GoodIn wsX0_missingRewards wsX0_isMissing := goodIn_r _ [12, 1, 13, 14, 15, 5, 16, 17, 7, 18, 19, 20, 21, 22, 23, 24, 25, 26, 27, 28, 29, 30, 31, 32, 33] (by decide +kernel) (by decide +kernel)
set_option maxRecDepth 20000 in
theorem gX0_missingRewards_X0_isMissing : GoodIn wsX0_missingRewards (wsV RX0 127 RX0 yX0_isMissing wsX0_isMissing) := goodIn_app (goodIn_of _ (by decide +kernel)) ggX0_missingRewards_X0_isMissing
set_option maxRecDepth 20000 in
theorem ggX0_missingRewards_X3_get : GoodIn wsX0_missingRewards wsX3_get := goodIn_r _ [16, 17, 7, 18, 30, 31, 32, 33] (by decide +kernel) (by decide +kernel)
set_option maxRecDepth 20000 in
theorem gX0_missingRewards_X3_get : GoodIn wsX0_missingRewards (wsV RX0 112 RX3 yX3_get wsX3_get) := goodIn_app (goodIn_of _ (by decide +kernel)) ggX0_missingRewards_X3_get
theorem dX0_missingRewards_0 : decode cX0_missingRewards 0 = .ok (.iconst 0, 1) := by decide +kernel
theorem dX0_missingRewards_1 : decode cX0_missingRewards 1 = .ok (.istore_n 1, 1) := by decide +kernel
theorem dX0_missingRewards_2 : decode cX0_missingRewards 2 = .ok (.iconst 0, 1) := by decide +kernel
theorem dX0_missingRewards_3 : decode cX0_missingRewards 3 = .ok (.istore_n 2, 1) := by decide +kernel
theorem dX0_missingRewards_4 : decode cX0_missingRewards 4 = .ok (.iload_n 2, 1) := by decide +kernel
theorem dX0_missingRewards_5 : decode cX0_missingRewards 5 = .ok (.aload_n 0, 1) := by decide +kernel
theorem dX0_missingRewards_6 : decode cX0_missingRewards 6 = .ok (.getfield 23, 3) := by decide +kernel
theorem dX0_missingRewards_9 : decode cX0_missingRewards 9 = .ok (.invokevirtual 87, 3) := by decide +kernel
theorem dX0_missingRewards_12 : decode cX0_missingRewards 12 = .ok (.if_icmp .ge 33, 3) := by decide +kernel
theorem dX0_missingRewards_15 : decode cX0_missingRewards 15 = .ok (.iload_n 1, 1) := by decide +kernel
theorem dX0_missingRewards_16 : decode cX0_missingRewards 16 = .ok (.aload_n 0, 1) := by decide +kernel
theorem dX0_missingRewards_17 : decode cX0_missingRewards 17 = .ok (.iload_n 2, 1) := by decide +kernel
theorem dX0_missingRewards_18 : decode cX0_missingRewards 18 = .ok (.invokevirtual 127, 3) := by decide +kernel
theorem dX0_missingRewards_21 : decode cX0_missingRewards 21 = .ok (.ifCond .eq 15, 3) := by decide +kernel
theorem dX0_missingRewards_24 : decode cX0_missingRewards 24 = .ok (.aload_n 0, 1) := by decide +kernel
theorem dX0_missingRewards_25 : decode cX0_missingRewards 25 = .ok (.getfield 23, 3) := by decide +kernel
theorem dX0_missingRewards_28 : decode cX0_missingRewards 28 = .ok (.iload_n 2, 1) := by decide +kernel
theorem dX0_missingRewards_29 : decode cX0_missingRewards 29 = .ok (.iconst 4, 1) := by decide +kernel
theorem dX0_missingRewards_30 : decode cX0_missingRewards 30 = .ok (.invokevirtual 112, 3) := by decide +kernel
theorem dX0_missingRewards_33 : decode cX0_missingRewards 33 = .ok (.goto 4, 3) := by decide +kernel
theorem dX0_missingRewards_36 : decode cX0_missingRewards 36 = .ok (.iconst 0, 1) := by decide +kernel
theorem dX0_missingRewards_37 : decode cX0_missingRewards 37 = .ok (.iadd, 1) := by decide +kernel
theorem dX0_missingRewards_38 : decode cX0_missingRewards 38 = .ok (.istore_n 1, 1) := by decide +kernel
theorem dX0_missingRewards_39 : decode cX0_missingRewards 39 = .ok (.iinc 2 1, 3) := by decide +kernel
theorem dX0_missingRewards_42 : decode cX0_missingRewards 42 = .ok (.goto (-38), 3) := by decide +kernel
theorem dX0_missingRewards_45 : decode cX0_missingRewards 45 = .ok (.iload_n 1, 1) := by decide +kernel
theorem dX0_missingRewards_46 : decode cX0_missingRewards 46 = .ok (.ireturn, 1) := by decide +kernel
set_option maxRecDepth 20000 in
theorem ggX0_fraudsInAll_X3_count : GoodIn wsX0_fraudsInAll wsX3_count := goodIn_r _ [6, 7, 68, 69, 70, 71] (by decide +kernel) (by decide +kernel)
set_option maxRecDepth 20000 in
theorem gX0_fraudsInAll_X3_count : GoodIn wsX0_fraudsInAll (wsV RX0 87 RX3 yX3_count wsX3_count) := goodIn_app (goodIn_of _ (by decide +kernel)) ggX0_fraudsInAll_X3_count
set_option maxRecDepth 20000 in
theorem ggX0_fraudsInAll_X0_fraudsFor : GoodIn wsX0_fraudsInAll wsX0_fraudsFor := goodIn_r _ [12, 1, 13, 14, 15, 16, 11, 17, 18, 19, 20, 5, 21, 22, 7, 23, 24, 25, 26, 27, 28, 2, 3, 4, 6, 29, 30, 31, 32, 33, 34, 35, 36, 37, 38, 39, 40, 41, 42, 43, 44, 45, 46, 47, 48, 49, 57, 58, 59, 60, 61, 62, 63, 64, 65, 66, 67, 68, 69, 70, 71, 72, 73, 74] (by decide +kernel) (by decide +kernel)
set_option maxRecDepth 20000 in
theorem gX0_fraudsInAll_X0_fraudsFor : GoodIn wsX0_fraudsInAll (wsV RX0 124 RX0 yX0_fraudsFor wsX0_fraudsFor) := goodIn_app (goodIn_of _ (by decide +kernel)) ggX0_fraudsInAll_X0_fraudsFor
set_option maxRecDepth 20000 in
theorem ggX0_fraudsInAll_J6_bitCount_0f7a4 : GoodIn wsX0_fraudsInAll wsJ6_bitCount_0f7a4 := goodIn_r _ [53, 54, 55, 56] (by decide +kernel) (by decide +kernel)
set_option maxRecDepth 20000 in
theorem gX0_fraudsInAll_J6_bitCount_0f7a4 : GoodIn wsX0_fraudsInAll (va_wsS RX0 104 yJ6_bitCount_0f7a4 wsJ6_bitCount_0f7a4) := goodIn_app (goodIn_of _ (by decide +kernel)) ggX0_fraudsInAll_J6_bitCount_0f7a4
theorem dX0_fraudsInAll_0 : decode cX0_fraudsInAll 0 = .ok (.iconst 0, 1) := by decide +kernel
theorem dX0_fraudsInAll_1 : decode cX0_fraudsInAll 1 = .ok (.istore_n 1, 1) := by decide +kernel
theorem dX0_fraudsInAll_2 : decode cX0_fraudsInAll 2 = .ok (.iconst 0, 1) := by decide +kernel
theorem dX0_fraudsInAll_3 : decode cX0_fraudsInAll 3 = .ok (.istore_n 2, 1) := by decide +kernel
theorem dX0_fraudsInAll_4 : decode cX0_fraudsInAll 4 = .ok (.iload_n 2, 1) := by decide +kernel
theorem dX0_fraudsInAll_5 : decode cX0_fraudsInAll 5 = .ok (.aload_n 0, 1) := by decide +kernel
theorem dX0_fraudsInAll_6 : decode cX0_fraudsInAll 6 = .ok (.getfield 23, 3) := by decide +kernel
theorem dX0_fraudsInAll_9 : decode cX0_fraudsInAll 9 = .ok (.invokevirtual 87, 3) := by decide +kernel
theorem dX0_fraudsInAll_12 : decode cX0_fraudsInAll 12 = .ok (.if_icmp .ge 20, 3) := by decide +kernel
theorem dX0_fraudsInAll_15 : decode cX0_fraudsInAll 15 = .ok (.iload_n 1, 1) := by decide +kernel
theorem dX0_fraudsInAll_16 : decode cX0_fraudsInAll 16 = .ok (.aload_n 0, 1) := by decide +kernel
theorem dX0_fraudsInAll_17 : decode cX0_fraudsInAll 17 = .ok (.iload_n 2, 1) := by decide +kernel
theorem dX0_fraudsInAll_18 : decode cX0_fraudsInAll 18 = .ok (.invokevirtual 124, 3) := by decide +kernel
theorem dX0_fraudsInAll_21 : decode cX0_fraudsInAll 21 = .ok (.invokestatic 104, 3) := by decide +kernel
theorem dX0_fraudsInAll_24 : decode cX0_fraudsInAll 24 = .ok (.iadd, 1) := by decide +kernel
theorem dX0_fraudsInAll_25 : decode cX0_fraudsInAll 25 = .ok (.istore_n 1, 1) := by decide +kernel
theorem dX0_fraudsInAll_26 : decode cX0_fraudsInAll 26 = .ok (.iinc 2 1, 3) := by decide +kernel
theorem dX0_fraudsInAll_29 : decode cX0_fraudsInAll 29 = .ok (.goto (-25), 3) := by decide +kernel
theorem dX0_fraudsInAll_32 : decode cX0_fraudsInAll 32 = .ok (.iload_n 1, 1) := by decide +kernel
theorem dX0_fraudsInAll_33 : decode cX0_fraudsInAll 33 = .ok (.ireturn, 1) := by decide +kernel
set_option maxRecDepth 20000 in
theorem ggX0_unlikeMarks_X3_get : GoodIn wsX0_unlikeMarks wsX3_get := goodIn_r _ [6, 7, 8, 9, 28, 29, 30, 31] (by decide +kernel) (by decide +kernel)
set_option maxRecDepth 20000 in
theorem gX0_unlikeMarks_X3_get : GoodIn wsX0_unlikeMarks (wsV RX0 112 RX3 yX3_get wsX3_get) := goodIn_app (goodIn_of _ (by decide +kernel)) ggX0_unlikeMarks_X3_get
set_option maxRecDepth 20000 in
theorem ggX0_unlikeMarks_J6_bitCount_0f7a4 : GoodIn wsX0_unlikeMarks wsJ6_bitCount_0f7a4 := goodIn_r _ [13, 14, 15, 16] (by decide +kernel) (by decide +kernel)
set_option maxRecDepth 20000 in
theorem gX0_unlikeMarks_J6_bitCount_0f7a4 : GoodIn wsX0_unlikeMarks (va_wsS RX0 104 yJ6_bitCount_0f7a4 wsJ6_bitCount_0f7a4) := goodIn_app (goodIn_of _ (by decide +kernel)) ggX0_unlikeMarks_J6_bitCount_0f7a4
theorem dX0_unlikeMarks_0 : decode cX0_unlikeMarks 0 = .ok (.aload_n 0, 1) := by decide +kernel
theorem dX0_unlikeMarks_1 : decode cX0_unlikeMarks 1 = .ok (.getfield 23, 3) := by decide +kernel
theorem dX0_unlikeMarks_4 : decode cX0_unlikeMarks 4 = .ok (.iload_n 1, 1) := by decide +kernel
theorem dX0_unlikeMarks_5 : decode cX0_unlikeMarks 5 = .ok (.iconst 0, 1) := by decide +kernel
theorem dX0_unlikeMarks_6 : decode cX0_unlikeMarks 6 = .ok (.invokevirtual 112, 3) := by decide +kernel
theorem dX0_unlikeMarks_9 : decode cX0_unlikeMarks 9 = .ok (.iload_n 2, 1) := by decide +kernel
theorem dX0_unlikeMarks_10 : decode cX0_unlikeMarks 10 = .ok (.ixor, 1) := by decide +kernel
theorem dX0_unlikeMarks_11 : decode cX0_unlikeMarks 11 = .ok (.invokestatic 104, 3) := by decide +kernel
theorem dX0_unlikeMarks_14 : decode cX0_unlikeMarks 14 = .ok (.ireturn, 1) := by decide +kernel
set_option maxRecDepth 20000 in
theorem ggX0_dogMeantBy_X3_count : GoodIn wsX0_dogMeantBy wsX3_count := goodIn_r _ [7, 8, 46, 47, 48, 49] (by decide +kernel) (by decide +kernel)
set_option maxRecDepth 20000 in
theorem gX0_dogMeantBy_X3_count : GoodIn wsX0_dogMeantBy (wsV RX0 87 RX3 yX3_count wsX3_count) := goodIn_app (goodIn_of _ (by decide +kernel)) ggX0_dogMeantBy_X3_count
set_option maxRecDepth 20000 in
theorem ggX0_dogMeantBy_X0_isMissing : GoodIn wsX0_dogMeantBy wsX0_isMissing := goodIn_r _ [13, 1, 14, 15, 16, 6, 17, 18, 8, 19, 35, 36, 37, 38, 39, 40, 41, 42, 43, 44, 45, 46, 47, 48, 49] (by decide +kernel) (by decide +kernel)
set_option maxRecDepth 20000 in
theorem gX0_dogMeantBy_X0_isMissing : GoodIn wsX0_dogMeantBy (wsV RX0 127 RX0 yX0_isMissing wsX0_isMissing) := goodIn_app (goodIn_of _ (by decide +kernel)) ggX0_dogMeantBy_X0_isMissing
set_option maxRecDepth 20000 in
theorem ggX0_dogMeantBy_X3_get : GoodIn wsX0_dogMeantBy wsX3_get := goodIn_r _ [17, 18, 8, 19, 46, 47, 48, 49] (by decide +kernel) (by decide +kernel)
set_option maxRecDepth 20000 in
theorem gX0_dogMeantBy_X3_get : GoodIn wsX0_dogMeantBy (wsV RX0 112 RX3 yX3_get wsX3_get) := goodIn_app (goodIn_of _ (by decide +kernel)) ggX0_dogMeantBy_X3_get
set_option maxRecDepth 20000 in
theorem ggX0_dogMeantBy_X0_unlikeMarks : GoodIn wsX0_dogMeantBy wsX0_unlikeMarks := goodIn_r _ [23, 1, 14, 15, 16, 6, 17, 18, 8, 19, 24, 25, 26, 27, 28, 29, 30, 35, 36, 37, 38, 39, 40, 41, 42, 43, 44, 45, 46, 47, 48, 49] (by decide +kernel) (by decide +kernel)
set_option maxRecDepth 20000 in
theorem gX0_dogMeantBy_X0_unlikeMarks : GoodIn wsX0_dogMeantBy (wsV RX0 118 RX0 yX0_unlikeMarks wsX0_unlikeMarks) := goodIn_app (goodIn_of _ (by decide +kernel)) ggX0_dogMeantBy_X0_unlikeMarks
set_option maxRecDepth 20000 in
theorem ggX0_dogMeantBy_X0_isMeantBefore : GoodIn wsX0_dogMeantBy wsX0_isMeantBefore := goodIn_r _ [34, 1, 20, 21, 22, 12, 23, 14, 15, 16, 6, 17, 18, 8, 19, 24, 25, 26, 27, 28, 29, 30, 35, 36, 37, 38, 39, 40, 41, 42, 43, 44, 45, 46, 47, 48, 49] (by decide +kernel) (by decide +kernel)
set_option maxRecDepth 20000 in
theorem gX0_dogMeantBy_X0_isMeantBefore : GoodIn wsX0_dogMeantBy (wsV RX0 131 RX0 yX0_isMeantBefore wsX0_isMeantBefore) := goodIn_app (goodIn_of _ (by decide +kernel)) ggX0_dogMeantBy_X0_isMeantBefore
theorem dX0_dogMeantBy_0 : decode cX0_dogMeantBy 0 = .ok (.iconst (-1), 1) := by decide +kernel
theorem dX0_dogMeantBy_1 : decode cX0_dogMeantBy 1 = .ok (.istore_n 3, 1) := by decide +kernel
theorem dX0_dogMeantBy_2 : decode cX0_dogMeantBy 2 = .ok (.iconst 0, 1) := by decide +kernel
theorem dX0_dogMeantBy_3 : decode cX0_dogMeantBy 3 = .ok (.istore 4, 2) := by decide +kernel
theorem dX0_dogMeantBy_5 : decode cX0_dogMeantBy 5 = .ok (.iload 4, 2) := by decide +kernel
theorem dX0_dogMeantBy_7 : decode cX0_dogMeantBy 7 = .ok (.aload_n 0, 1) := by decide +kernel
theorem dX0_dogMeantBy_8 : decode cX0_dogMeantBy 8 = .ok (.getfield 23, 3) := by decide +kernel
theorem dX0_dogMeantBy_11 : decode cX0_dogMeantBy 11 = .ok (.invokevirtual 87, 3) := by decide +kernel
theorem dX0_dogMeantBy_14 : decode cX0_dogMeantBy 14 = .ok (.if_icmp .ge 77, 3) := by decide +kernel
theorem dX0_dogMeantBy_17 : decode cX0_dogMeantBy 17 = .ok (.aload_n 0, 1) := by decide +kernel
theorem dX0_dogMeantBy_18 : decode cX0_dogMeantBy 18 = .ok (.iload 4, 2) := by decide +kernel
theorem dX0_dogMeantBy_20 : decode cX0_dogMeantBy 20 = .ok (.invokevirtual 127, 3) := by decide +kernel
theorem dX0_dogMeantBy_23 : decode cX0_dogMeantBy 23 = .ok (.ifCond .eq 35, 3) := by decide +kernel
theorem dX0_dogMeantBy_26 : decode cX0_dogMeantBy 26 = .ok (.aload_n 0, 1) := by decide +kernel
theorem dX0_dogMeantBy_27 : decode cX0_dogMeantBy 27 = .ok (.getfield 23, 3) := by decide +kernel
theorem dX0_dogMeantBy_30 : decode cX0_dogMeantBy 30 = .ok (.iload 4, 2) := by decide +kernel
theorem dX0_dogMeantBy_32 : decode cX0_dogMeantBy 32 = .ok (.iconst 3, 1) := by decide +kernel
theorem dX0_dogMeantBy_33 : decode cX0_dogMeantBy 33 = .ok (.invokevirtual 112, 3) := by decide +kernel
theorem dX0_dogMeantBy_36 : decode cX0_dogMeantBy 36 = .ok (.iload_n 2, 1) := by decide +kernel
theorem dX0_dogMeantBy_37 : decode cX0_dogMeantBy 37 = .ok (.if_icmp .gt 21, 3) := by decide +kernel
theorem dX0_dogMeantBy_40 : decode cX0_dogMeantBy 40 = .ok (.aload_n 0, 1) := by decide +kernel
theorem dX0_dogMeantBy_41 : decode cX0_dogMeantBy 41 = .ok (.iload 4, 2) := by decide +kernel
theorem dX0_dogMeantBy_43 : decode cX0_dogMeantBy 43 = .ok (.iload_n 1, 1) := by decide +kernel
theorem dX0_dogMeantBy_44 : decode cX0_dogMeantBy 44 = .ok (.invokevirtual 118, 3) := by decide +kernel
theorem dX0_dogMeantBy_47 : decode cX0_dogMeantBy 47 = .ok (.aload_n 0, 1) := by decide +kernel
theorem dX0_dogMeantBy_48 : decode cX0_dogMeantBy 48 = .ok (.getfield 65, 3) := by decide +kernel
theorem dX0_dogMeantBy_51 : decode cX0_dogMeantBy 51 = .ok (.if_icmp .gt 7, 3) := by decide +kernel
theorem dX0_dogMeantBy_54 : decode cX0_dogMeantBy 54 = .ok (.iconst 1, 1) := by decide +kernel
theorem dX0_dogMeantBy_55 : decode cX0_dogMeantBy 55 = .ok (.goto 4, 3) := by decide +kernel
theorem dX0_dogMeantBy_58 : decode cX0_dogMeantBy 58 = .ok (.iconst 0, 1) := by decide +kernel
theorem dX0_dogMeantBy_59 : decode cX0_dogMeantBy 59 = .ok (.istore 5, 2) := by decide +kernel
theorem dX0_dogMeantBy_61 : decode cX0_dogMeantBy 61 = .ok (.iload 5, 2) := by decide +kernel
theorem dX0_dogMeantBy_63 : decode cX0_dogMeantBy 63 = .ok (.ifCond .eq 22, 3) := by decide +kernel
theorem dX0_dogMeantBy_66 : decode cX0_dogMeantBy 66 = .ok (.iload_n 3, 1) := by decide +kernel
theorem dX0_dogMeantBy_67 : decode cX0_dogMeantBy 67 = .ok (.iconst (-1), 1) := by decide +kernel
theorem dX0_dogMeantBy_68 : decode cX0_dogMeantBy 68 = .ok (.if_icmp .eq 14, 3) := by decide +kernel
theorem dX0_dogMeantBy_71 : decode cX0_dogMeantBy 71 = .ok (.aload_n 0, 1) := by decide +kernel
theorem dX0_dogMeantBy_72 : decode cX0_dogMeantBy 72 = .ok (.iload 4, 2) := by decide +kernel
theorem dX0_dogMeantBy_74 : decode cX0_dogMeantBy 74 = .ok (.iload_n 3, 1) := by decide +kernel
theorem dX0_dogMeantBy_75 : decode cX0_dogMeantBy 75 = .ok (.iload_n 1, 1) := by decide +kernel
theorem dX0_dogMeantBy_76 : decode cX0_dogMeantBy 76 = .ok (.invokevirtual 131, 3) := by decide +kernel
theorem dX0_dogMeantBy_79 : decode cX0_dogMeantBy 79 = .ok (.ifCond .eq 6, 3) := by decide +kernel
theorem dX0_dogMeantBy_82 : decode cX0_dogMeantBy 82 = .ok (.iload 4, 2) := by decide +kernel
theorem dX0_dogMeantBy_84 : decode cX0_dogMeantBy 84 = .ok (.istore_n 3, 1) := by decide +kernel
theorem dX0_dogMeantBy_85 : decode cX0_dogMeantBy 85 = .ok (.iinc 4 1, 3) := by decide +kernel
theorem dX0_dogMeantBy_88 : decode cX0_dogMeantBy 88 = .ok (.goto (-83), 3) := by decide +kernel
theorem dX0_dogMeantBy_91 : decode cX0_dogMeantBy 91 = .ok (.iload_n 3, 1) := by decide +kernel
theorem dX0_dogMeantBy_92 : decode cX0_dogMeantBy 92 = .ok (.ireturn, 1) := by decide +kernel
set_option maxRecDepth 20000 in
theorem ggX0_isMeantBefore_X0_unlikeMarks : GoodIn wsX0_isMeantBefore wsX0_unlikeMarks := goodIn_r _ [6, 1, 7, 8, 9, 10, 11, 12, 13, 14, 15, 16, 17, 18, 19, 20, 21, 22, 23, 24, 25, 26, 27, 28, 29, 30, 31, 32, 33, 34, 35, 36] (by decide +kernel) (by decide +kernel)
set_option maxRecDepth 20000 in
theorem gX0_isMeantBefore_X0_unlikeMarks : GoodIn wsX0_isMeantBefore (wsV RX0 118 RX0 yX0_unlikeMarks wsX0_unlikeMarks) := goodIn_app (goodIn_of _ (by decide +kernel)) ggX0_isMeantBefore_X0_unlikeMarks
set_option maxRecDepth 20000 in
theorem ggX0_isMeantBefore_X3_get : GoodIn wsX0_isMeantBefore wsX3_get := goodIn_r _ [11, 12, 13, 14, 33, 34, 35, 36] (by decide +kernel) (by decide +kernel)
set_option maxRecDepth 20000 in
theorem gX0_isMeantBefore_X3_get : GoodIn wsX0_isMeantBefore (wsV RX0 112 RX3 yX3_get wsX3_get) := goodIn_app (goodIn_of _ (by decide +kernel)) ggX0_isMeantBefore_X3_get
theorem dX0_isMeantBefore_0 : decode cX0_isMeantBefore 0 = .ok (.aload_n 0, 1) := by decide +kernel
theorem dX0_isMeantBefore_1 : decode cX0_isMeantBefore 1 = .ok (.iload_n 1, 1) := by decide +kernel
theorem dX0_isMeantBefore_2 : decode cX0_isMeantBefore 2 = .ok (.iload_n 3, 1) := by decide +kernel
theorem dX0_isMeantBefore_3 : decode cX0_isMeantBefore 3 = .ok (.invokevirtual 118, 3) := by decide +kernel
theorem dX0_isMeantBefore_6 : decode cX0_isMeantBefore 6 = .ok (.istore 4, 2) := by decide +kernel
theorem dX0_isMeantBefore_8 : decode cX0_isMeantBefore 8 = .ok (.aload_n 0, 1) := by decide +kernel
theorem dX0_isMeantBefore_9 : decode cX0_isMeantBefore 9 = .ok (.iload_n 2, 1) := by decide +kernel
theorem dX0_isMeantBefore_10 : decode cX0_isMeantBefore 10 = .ok (.iload_n 3, 1) := by decide +kernel
theorem dX0_isMeantBefore_11 : decode cX0_isMeantBefore 11 = .ok (.invokevirtual 118, 3) := by decide +kernel
theorem dX0_isMeantBefore_14 : decode cX0_isMeantBefore 14 = .ok (.istore 5, 2) := by decide +kernel
theorem dX0_isMeantBefore_16 : decode cX0_isMeantBefore 16 = .ok (.iload 4, 2) := by decide +kernel
theorem dX0_isMeantBefore_18 : decode cX0_isMeantBefore 18 = .ok (.iload 5, 2) := by decide +kernel
theorem dX0_isMeantBefore_20 : decode cX0_isMeantBefore 20 = .ok (.if_icmp .eq 16, 3) := by decide +kernel
theorem dX0_isMeantBefore_23 : decode cX0_isMeantBefore 23 = .ok (.iload 4, 2) := by decide +kernel
theorem dX0_isMeantBefore_25 : decode cX0_isMeantBefore 25 = .ok (.iload 5, 2) := by decide +kernel
theorem dX0_isMeantBefore_27 : decode cX0_isMeantBefore 27 = .ok (.if_icmp .ge 7, 3) := by decide +kernel
theorem dX0_isMeantBefore_30 : decode cX0_isMeantBefore 30 = .ok (.iconst 1, 1) := by decide +kernel
theorem dX0_isMeantBefore_31 : decode cX0_isMeantBefore 31 = .ok (.goto 4, 3) := by decide +kernel
theorem dX0_isMeantBefore_34 : decode cX0_isMeantBefore 34 = .ok (.iconst 0, 1) := by decide +kernel
theorem dX0_isMeantBefore_35 : decode cX0_isMeantBefore 35 = .ok (.ireturn, 1) := by decide +kernel
theorem dX0_isMeantBefore_36 : decode cX0_isMeantBefore 36 = .ok (.aload_n 0, 1) := by decide +kernel
theorem dX0_isMeantBefore_37 : decode cX0_isMeantBefore 37 = .ok (.getfield 23, 3) := by decide +kernel
theorem dX0_isMeantBefore_40 : decode cX0_isMeantBefore 40 = .ok (.iload_n 1, 1) := by decide +kernel
theorem dX0_isMeantBefore_41 : decode cX0_isMeantBefore 41 = .ok (.iconst 4, 1) := by decide +kernel
theorem dX0_isMeantBefore_42 : decode cX0_isMeantBefore 42 = .ok (.invokevirtual 112, 3) := by decide +kernel
theorem dX0_isMeantBefore_45 : decode cX0_isMeantBefore 45 = .ok (.aload_n 0, 1) := by decide +kernel
theorem dX0_isMeantBefore_46 : decode cX0_isMeantBefore 46 = .ok (.getfield 23, 3) := by decide +kernel
theorem dX0_isMeantBefore_49 : decode cX0_isMeantBefore 49 = .ok (.iload_n 2, 1) := by decide +kernel
theorem dX0_isMeantBefore_50 : decode cX0_isMeantBefore 50 = .ok (.iconst 4, 1) := by decide +kernel
theorem dX0_isMeantBefore_51 : decode cX0_isMeantBefore 51 = .ok (.invokevirtual 112, 3) := by decide +kernel
theorem dX0_isMeantBefore_54 : decode cX0_isMeantBefore 54 = .ok (.if_icmp .le 7, 3) := by decide +kernel
theorem dX0_isMeantBefore_57 : decode cX0_isMeantBefore 57 = .ok (.iconst 1, 1) := by decide +kernel
theorem dX0_isMeantBefore_58 : decode cX0_isMeantBefore 58 = .ok (.goto 4, 3) := by decide +kernel
theorem dX0_isMeantBefore_61 : decode cX0_isMeantBefore 61 = .ok (.iconst 0, 1) := by decide +kernel
theorem dX0_isMeantBefore_62 : decode cX0_isMeantBefore 62 = .ok (.ireturn, 1) := by decide +kernel
set_option maxRecDepth 20000 in
theorem ggX0_sightingsMeaning_X3_count : GoodIn wsX0_sightingsMeaning wsX3_count := goodIn_r _ [6, 7, 25, 26, 27, 28] (by decide +kernel) (by decide +kernel)
set_option maxRecDepth 20000 in
theorem gX0_sightingsMeaning_X3_count : GoodIn wsX0_sightingsMeaning (wsV RX0 87 RX3 yX3_count wsX3_count) := goodIn_app (goodIn_of _ (by decide +kernel)) ggX0_sightingsMeaning_X3_count
set_option maxRecDepth 20000 in
theorem ggX0_sightingsMeaning_X3_get : GoodIn wsX0_sightingsMeaning wsX3_get := goodIn_r _ [11, 12, 7, 13, 25, 26, 27, 28] (by decide +kernel) (by decide +kernel)
set_option maxRecDepth 20000 in
theorem gX0_sightingsMeaning_X3_get : GoodIn wsX0_sightingsMeaning (wsV RX0 112 RX3 yX3_get wsX3_get) := goodIn_app (goodIn_of _ (by decide +kernel)) ggX0_sightingsMeaning_X3_get
theorem dX0_sightingsMeaning_0 : decode cX0_sightingsMeaning 0 = .ok (.iconst 0, 1) := by decide +kernel
theorem dX0_sightingsMeaning_1 : decode cX0_sightingsMeaning 1 = .ok (.istore_n 2, 1) := by decide +kernel
theorem dX0_sightingsMeaning_2 : decode cX0_sightingsMeaning 2 = .ok (.iconst 0, 1) := by decide +kernel
theorem dX0_sightingsMeaning_3 : decode cX0_sightingsMeaning 3 = .ok (.istore_n 3, 1) := by decide +kernel
theorem dX0_sightingsMeaning_4 : decode cX0_sightingsMeaning 4 = .ok (.iload_n 3, 1) := by decide +kernel
theorem dX0_sightingsMeaning_5 : decode cX0_sightingsMeaning 5 = .ok (.aload_n 0, 1) := by decide +kernel
theorem dX0_sightingsMeaning_6 : decode cX0_sightingsMeaning 6 = .ok (.getfield 27, 3) := by decide +kernel
theorem dX0_sightingsMeaning_9 : decode cX0_sightingsMeaning 9 = .ok (.invokevirtual 87, 3) := by decide +kernel
theorem dX0_sightingsMeaning_12 : decode cX0_sightingsMeaning 12 = .ok (.if_icmp .ge 32, 3) := by decide +kernel
theorem dX0_sightingsMeaning_15 : decode cX0_sightingsMeaning 15 = .ok (.iload_n 2, 1) := by decide +kernel
theorem dX0_sightingsMeaning_16 : decode cX0_sightingsMeaning 16 = .ok (.aload_n 0, 1) := by decide +kernel
theorem dX0_sightingsMeaning_17 : decode cX0_sightingsMeaning 17 = .ok (.getfield 27, 3) := by decide +kernel
theorem dX0_sightingsMeaning_20 : decode cX0_sightingsMeaning 20 = .ok (.iload_n 3, 1) := by decide +kernel
theorem dX0_sightingsMeaning_21 : decode cX0_sightingsMeaning 21 = .ok (.iconst 5, 1) := by decide +kernel
theorem dX0_sightingsMeaning_22 : decode cX0_sightingsMeaning 22 = .ok (.invokevirtual 112, 3) := by decide +kernel
theorem dX0_sightingsMeaning_25 : decode cX0_sightingsMeaning 25 = .ok (.iload_n 1, 1) := by decide +kernel
theorem dX0_sightingsMeaning_26 : decode cX0_sightingsMeaning 26 = .ok (.if_icmp .ne 9, 3) := by decide +kernel
theorem dX0_sightingsMeaning_29 : decode cX0_sightingsMeaning 29 = .ok (.iconst 1, 1) := by decide +kernel
theorem dX0_sightingsMeaning_30 : decode cX0_sightingsMeaning 30 = .ok (.iload_n 3, 1) := by decide +kernel
theorem dX0_sightingsMeaning_31 : decode cX0_sightingsMeaning 31 = .ok (.ishl, 1) := by decide +kernel
theorem dX0_sightingsMeaning_32 : decode cX0_sightingsMeaning 32 = .ok (.goto 4, 3) := by decide +kernel
theorem dX0_sightingsMeaning_35 : decode cX0_sightingsMeaning 35 = .ok (.iconst 0, 1) := by decide +kernel
theorem dX0_sightingsMeaning_36 : decode cX0_sightingsMeaning 36 = .ok (.ior, 1) := by decide +kernel
theorem dX0_sightingsMeaning_37 : decode cX0_sightingsMeaning 37 = .ok (.istore_n 2, 1) := by decide +kernel
theorem dX0_sightingsMeaning_38 : decode cX0_sightingsMeaning 38 = .ok (.iinc 3 1, 3) := by decide +kernel
theorem dX0_sightingsMeaning_41 : decode cX0_sightingsMeaning 41 = .ok (.goto (-37), 3) := by decide +kernel
theorem dX0_sightingsMeaning_44 : decode cX0_sightingsMeaning 44 = .ok (.iload_n 2, 1) := by decide +kernel
theorem dX0_sightingsMeaning_45 : decode cX0_sightingsMeaning 45 = .ok (.ireturn, 1) := by decide +kernel
set_option maxRecDepth 20000 in
theorem ggX0_trueFor_X0_isMissing : GoodIn wsX0_trueFor wsX0_isMissing := goodIn_r _ [6, 1, 7, 8, 9, 10, 11, 12, 13, 14, 31, 32, 33, 34, 35, 36, 37, 38, 39, 40, 41, 42, 43, 44, 45] (by decide +kernel) (by decide +kernel)
set_option maxRecDepth 20000 in
theorem gX0_trueFor_X0_isMissing : GoodIn wsX0_trueFor (wsV RX0 127 RX0 yX0_isMissing wsX0_isMissing) := goodIn_app (goodIn_of _ (by decide +kernel)) ggX0_trueFor_X0_isMissing
set_option maxRecDepth 20000 in
theorem ggX0_trueFor_X0_trueNowFor : GoodIn wsX0_trueFor wsX0_trueNowFor := goodIn_r _ [18, 19, 1, 20, 21, 22, 23, 10, 24, 13, 7, 8, 9, 11, 12, 14, 25, 26, 27, 28, 29, 30, 31, 32, 33, 34, 35, 36, 37, 38, 39, 40, 41, 42, 43, 44, 45, 46, 47, 48] (by decide +kernel) (by decide +kernel)
set_option maxRecDepth 20000 in
theorem gX0_trueFor_X0_trueNowFor : GoodIn wsX0_trueFor (wsV RX0 135 RX0 yX0_trueNowFor wsX0_trueNowFor) := goodIn_app (goodIn_of _ (by decide +kernel)) ggX0_trueFor_X0_trueNowFor
set_option maxRecDepth 20000 in
theorem ggX0_trueFor_X3_get : GoodIn wsX0_trueFor wsX3_get := goodIn_r _ [11, 12, 13, 14, 42, 43, 44, 45] (by decide +kernel) (by decide +kernel)
set_option maxRecDepth 20000 in
theorem gX0_trueFor_X3_get : GoodIn wsX0_trueFor (wsV RX0 112 RX3 yX3_get wsX3_get) := goodIn_app (goodIn_of _ (by decide +kernel)) ggX0_trueFor_X3_get
theorem dX0_trueFor_0 : decode cX0_trueFor 0 = .ok (.aload_n 0, 1) := by decide +kernel
theorem dX0_trueFor_1 : decode cX0_trueFor 1 = .ok (.iload_n 1, 1) := by decide +kernel
theorem dX0_trueFor_2 : decode cX0_trueFor 2 = .ok (.invokevirtual 127, 3) := by decide +kernel
theorem dX0_trueFor_5 : decode cX0_trueFor 5 = .ok (.ifCond .eq 11, 3) := by decide +kernel
theorem dX0_trueFor_8 : decode cX0_trueFor 8 = .ok (.aload_n 0, 1) := by decide +kernel
theorem dX0_trueFor_9 : decode cX0_trueFor 9 = .ok (.iload_n 1, 1) := by decide +kernel
theorem dX0_trueFor_10 : decode cX0_trueFor 10 = .ok (.invokevirtual 135, 3) := by decide +kernel
theorem dX0_trueFor_13 : decode cX0_trueFor 13 = .ok (.goto 13, 3) := by decide +kernel
theorem dX0_trueFor_16 : decode cX0_trueFor 16 = .ok (.aload_n 0, 1) := by decide +kernel
theorem dX0_trueFor_17 : decode cX0_trueFor 17 = .ok (.getfield 23, 3) := by decide +kernel
theorem dX0_trueFor_20 : decode cX0_trueFor 20 = .ok (.iload_n 1, 1) := by decide +kernel
theorem dX0_trueFor_21 : decode cX0_trueFor 21 = .ok (.bipush 9, 2) := by decide +kernel
theorem dX0_trueFor_23 : decode cX0_trueFor 23 = .ok (.invokevirtual 112, 3) := by decide +kernel
theorem dX0_trueFor_26 : decode cX0_trueFor 26 = .ok (.ireturn, 1) := by decide +kernel
set_option maxRecDepth 20000 in
theorem ggX0_trueNowFor_X3_count : GoodIn wsX0_trueNowFor wsX3_count := goodIn_r _ [8, 9, 33, 34, 35, 36] (by decide +kernel) (by decide +kernel)
set_option maxRecDepth 20000 in
theorem gX0_trueNowFor_X3_count : GoodIn wsX0_trueNowFor (wsV RX0 87 RX3 yX3_count wsX3_count) := goodIn_app (goodIn_of _ (by decide +kernel)) ggX0_trueNowFor_X3_count
set_option maxRecDepth 20000 in
theorem ggX0_trueNowFor_X3_get : GoodIn wsX0_trueNowFor wsX3_get := goodIn_r _ [13, 14, 9, 15, 33, 34, 35, 36] (by decide +kernel) (by decide +kernel)
set_option maxRecDepth 20000 in
theorem gX0_trueNowFor_X3_get : GoodIn wsX0_trueNowFor (wsV RX0 112 RX3 yX3_get wsX3_get) := goodIn_app (goodIn_of _ (by decide +kernel)) ggX0_trueNowFor_X3_get
set_option maxRecDepth 20000 in
theorem ggX0_trueNowFor_X2_isWithin : GoodIn wsX0_trueNowFor wsX2_isWithin := goodIn_r _ [20, 21, 37, 38, 39] (by decide +kernel) (by decide +kernel)
set_option maxRecDepth 20000 in
theorem gX0_trueNowFor_X2_isWithin : GoodIn wsX0_trueNowFor (wsV RX0 138 RX2 yX2_isWithin wsX2_isWithin) := goodIn_app (goodIn_of _ (by decide +kernel)) ggX0_trueNowFor_X2_isWithin
theorem dX0_trueNowFor_0 : decode cX0_trueNowFor 0 = .ok (.iconst 0, 1) := by decide +kernel
theorem dX0_trueNowFor_1 : decode cX0_trueNowFor 1 = .ok (.istore_n 2, 1) := by decide +kernel
theorem dX0_trueNowFor_2 : decode cX0_trueNowFor 2 = .ok (.iconst 0, 1) := by decide +kernel
theorem dX0_trueNowFor_3 : decode cX0_trueNowFor 3 = .ok (.istore_n 3, 1) := by decide +kernel
theorem dX0_trueNowFor_4 : decode cX0_trueNowFor 4 = .ok (.iload_n 3, 1) := by decide +kernel
theorem dX0_trueNowFor_5 : decode cX0_trueNowFor 5 = .ok (.aload_n 0, 1) := by decide +kernel
theorem dX0_trueNowFor_6 : decode cX0_trueNowFor 6 = .ok (.getfield 27, 3) := by decide +kernel
theorem dX0_trueNowFor_9 : decode cX0_trueNowFor 9 = .ok (.invokevirtual 87, 3) := by decide +kernel
theorem dX0_trueNowFor_12 : decode cX0_trueNowFor 12 = .ok (.if_icmp .ge 105, 3) := by decide +kernel
theorem dX0_trueNowFor_15 : decode cX0_trueNowFor 15 = .ok (.aload_n 0, 1) := by decide +kernel
theorem dX0_trueNowFor_16 : decode cX0_trueNowFor 16 = .ok (.getfield 23, 3) := by decide +kernel
theorem dX0_trueNowFor_19 : decode cX0_trueNowFor 19 = .ok (.iload_n 1, 1) := by decide +kernel
theorem dX0_trueNowFor_20 : decode cX0_trueNowFor 20 = .ok (.iconst 1, 1) := by decide +kernel
theorem dX0_trueNowFor_21 : decode cX0_trueNowFor 21 = .ok (.invokevirtual 112, 3) := by decide +kernel
theorem dX0_trueNowFor_24 : decode cX0_trueNowFor 24 = .ok (.aload_n 0, 1) := by decide +kernel
theorem dX0_trueNowFor_25 : decode cX0_trueNowFor 25 = .ok (.getfield 27, 3) := by decide +kernel
theorem dX0_trueNowFor_28 : decode cX0_trueNowFor 28 = .ok (.iload_n 3, 1) := by decide +kernel
theorem dX0_trueNowFor_29 : decode cX0_trueNowFor 29 = .ok (.iconst 2, 1) := by decide +kernel
theorem dX0_trueNowFor_30 : decode cX0_trueNowFor 30 = .ok (.invokevirtual 112, 3) := by decide +kernel
theorem dX0_trueNowFor_33 : decode cX0_trueNowFor 33 = .ok (.aload_n 0, 1) := by decide +kernel
theorem dX0_trueNowFor_34 : decode cX0_trueNowFor 34 = .ok (.getfield 23, 3) := by decide +kernel
theorem dX0_trueNowFor_37 : decode cX0_trueNowFor 37 = .ok (.iload_n 1, 1) := by decide +kernel
theorem dX0_trueNowFor_38 : decode cX0_trueNowFor 38 = .ok (.iconst 3, 1) := by decide +kernel
theorem dX0_trueNowFor_39 : decode cX0_trueNowFor 39 = .ok (.invokevirtual 112, 3) := by decide +kernel
theorem dX0_trueNowFor_42 : decode cX0_trueNowFor 42 = .ok (.isub, 1) := by decide +kernel
theorem dX0_trueNowFor_43 : decode cX0_trueNowFor 43 = .ok (.imul, 1) := by decide +kernel
theorem dX0_trueNowFor_44 : decode cX0_trueNowFor 44 = .ok (.istore 4, 2) := by decide +kernel
theorem dX0_trueNowFor_46 : decode cX0_trueNowFor 46 = .ok (.aload_n 0, 1) := by decide +kernel
theorem dX0_trueNowFor_47 : decode cX0_trueNowFor 47 = .ok (.getfield 27, 3) := by decide +kernel
theorem dX0_trueNowFor_50 : decode cX0_trueNowFor 50 = .ok (.iload_n 3, 1) := by decide +kernel
theorem dX0_trueNowFor_51 : decode cX0_trueNowFor 51 = .ok (.iconst 1, 1) := by decide +kernel
theorem dX0_trueNowFor_52 : decode cX0_trueNowFor 52 = .ok (.invokevirtual 112, 3) := by decide +kernel
theorem dX0_trueNowFor_55 : decode cX0_trueNowFor 55 = .ok (.istore 5, 2) := by decide +kernel
theorem dX0_trueNowFor_57 : decode cX0_trueNowFor 57 = .ok (.aload_n 0, 1) := by decide +kernel
theorem dX0_trueNowFor_58 : decode cX0_trueNowFor 58 = .ok (.getfield 27, 3) := by decide +kernel
theorem dX0_trueNowFor_61 : decode cX0_trueNowFor 61 = .ok (.iload_n 3, 1) := by decide +kernel
theorem dX0_trueNowFor_62 : decode cX0_trueNowFor 62 = .ok (.iconst 5, 1) := by decide +kernel
theorem dX0_trueNowFor_63 : decode cX0_trueNowFor 63 = .ok (.invokevirtual 112, 3) := by decide +kernel
theorem dX0_trueNowFor_66 : decode cX0_trueNowFor 66 = .ok (.iload_n 1, 1) := by decide +kernel
theorem dX0_trueNowFor_67 : decode cX0_trueNowFor 67 = .ok (.if_icmp .ne 7, 3) := by decide +kernel
theorem dX0_trueNowFor_70 : decode cX0_trueNowFor 70 = .ok (.iconst 1, 1) := by decide +kernel
theorem dX0_trueNowFor_71 : decode cX0_trueNowFor 71 = .ok (.goto 4, 3) := by decide +kernel
theorem dX0_trueNowFor_74 : decode cX0_trueNowFor 74 = .ok (.iconst 0, 1) := by decide +kernel
theorem dX0_trueNowFor_75 : decode cX0_trueNowFor 75 = .ok (.istore 6, 2) := by decide +kernel
theorem dX0_trueNowFor_77 : decode cX0_trueNowFor 77 = .ok (.iload 6, 2) := by decide +kernel
theorem dX0_trueNowFor_79 : decode cX0_trueNowFor 79 = .ok (.ifCond .eq 32, 3) := by decide +kernel
theorem dX0_trueNowFor_82 : decode cX0_trueNowFor 82 = .ok (.aload_n 0, 1) := by decide +kernel
theorem dX0_trueNowFor_83 : decode cX0_trueNowFor 83 = .ok (.getfield 12, 3) := by decide +kernel
theorem dX0_trueNowFor_86 : decode cX0_trueNowFor 86 = .ok (.aload_n 0, 1) := by decide +kernel
theorem dX0_trueNowFor_87 : decode cX0_trueNowFor 87 = .ok (.getfield 23, 3) := by decide +kernel
theorem dX0_trueNowFor_90 : decode cX0_trueNowFor 90 = .ok (.iload_n 1, 1) := by decide +kernel
theorem dX0_trueNowFor_91 : decode cX0_trueNowFor 91 = .ok (.iconst 2, 1) := by decide +kernel
theorem dX0_trueNowFor_92 : decode cX0_trueNowFor 92 = .ok (.invokevirtual 112, 3) := by decide +kernel
theorem dX0_trueNowFor_95 : decode cX0_trueNowFor 95 = .ok (.iload 5, 2) := by decide +kernel
theorem dX0_trueNowFor_97 : decode cX0_trueNowFor 97 = .ok (.iload 4, 2) := by decide +kernel
theorem dX0_trueNowFor_99 : decode cX0_trueNowFor 99 = .ok (.invokevirtual 138, 3) := by decide +kernel
theorem dX0_trueNowFor_102 : decode cX0_trueNowFor 102 = .ok (.ifCond .eq 9, 3) := by decide +kernel
theorem dX0_trueNowFor_105 : decode cX0_trueNowFor 105 = .ok (.iload_n 2, 1) := by decide +kernel
theorem dX0_trueNowFor_106 : decode cX0_trueNowFor 106 = .ok (.iconst 1, 1) := by decide +kernel
theorem dX0_trueNowFor_107 : decode cX0_trueNowFor 107 = .ok (.iload_n 3, 1) := by decide +kernel
theorem dX0_trueNowFor_108 : decode cX0_trueNowFor 108 = .ok (.ishl, 1) := by decide +kernel
theorem dX0_trueNowFor_109 : decode cX0_trueNowFor 109 = .ok (.ior, 1) := by decide +kernel
theorem dX0_trueNowFor_110 : decode cX0_trueNowFor 110 = .ok (.istore_n 2, 1) := by decide +kernel
theorem dX0_trueNowFor_111 : decode cX0_trueNowFor 111 = .ok (.iinc 3 1, 3) := by decide +kernel
theorem dX0_trueNowFor_114 : decode cX0_trueNowFor 114 = .ok (.goto (-110), 3) := by decide +kernel
theorem dX0_trueNowFor_117 : decode cX0_trueNowFor 117 = .ok (.iload_n 2, 1) := by decide +kernel
theorem dX0_trueNowFor_118 : decode cX0_trueNowFor 118 = .ok (.ireturn, 1) := by decide +kernel
set_option maxRecDepth 20000 in
theorem ggX0_fraudsFor_X0_isMissing : GoodIn wsX0_fraudsFor wsX0_isMissing := goodIn_r _ [7, 1, 8, 9, 10, 11, 12, 13, 14, 15, 46, 47, 48, 49, 50, 51, 52, 53, 54, 55, 56, 57, 58, 59, 60] (by decide +kernel) (by decide +kernel)
set_option maxRecDepth 20000 in
theorem gX0_fraudsFor_X0_isMissing : GoodIn wsX0_fraudsFor (wsV RX0 127 RX0 yX0_isMissing wsX0_isMissing) := goodIn_app (goodIn_of _ (by decide +kernel)) ggX0_fraudsFor_X0_isMissing
set_option maxRecDepth 20000 in
theorem ggX0_fraudsFor_X3_get : GoodIn wsX0_fraudsFor wsX3_get := goodIn_r _ [12, 13, 14, 15, 57, 58, 59, 60] (by decide +kernel) (by decide +kernel)
set_option maxRecDepth 20000 in
theorem gX0_fraudsFor_X3_get : GoodIn wsX0_fraudsFor (wsV RX0 112 RX3 yX3_get wsX3_get) := goodIn_app (goodIn_of _ (by decide +kernel)) ggX0_fraudsFor_X3_get
set_option maxRecDepth 20000 in
theorem ggX0_fraudsFor_X0_trueNowFor : GoodIn wsX0_fraudsFor wsX0_trueNowFor := goodIn_r _ [19, 2, 1, 20, 21, 22, 23, 11, 24, 14, 8, 9, 10, 12, 13, 15, 25, 26, 27, 28, 29, 30, 46, 47, 48, 49, 50, 51, 52, 53, 54, 55, 56, 57, 58, 59, 60, 61, 62, 63] (by decide +kernel) (by decide +kernel)
set_option maxRecDepth 20000 in
theorem gX0_fraudsFor_X0_trueNowFor : GoodIn wsX0_fraudsFor (wsV RX0 135 RX0 yX0_trueNowFor wsX0_trueNowFor) := goodIn_app (goodIn_of _ (by decide +kernel)) ggX0_fraudsFor_X0_trueNowFor
set_option maxRecDepth 20000 in
theorem ggX0_fraudsFor_X0_sightingsMeaning : GoodIn wsX0_fraudsFor wsX0_sightingsMeaning := goodIn_r _ [34, 2, 21, 22, 23, 11, 24, 14, 8, 9, 10, 12, 13, 15, 46, 47, 48, 49, 50, 51, 52, 53, 54, 55, 56, 57, 58, 59, 60] (by decide +kernel) (by decide +kernel)
set_option maxRecDepth 20000 in
theorem gX0_fraudsFor_X0_sightingsMeaning : GoodIn wsX0_fraudsFor (wsV RX0 100 RX0 yX0_sightingsMeaning wsX0_sightingsMeaning) := goodIn_app (goodIn_of _ (by decide +kernel)) ggX0_fraudsFor_X0_sightingsMeaning
set_option maxRecDepth 20000 in
theorem ggX0_fraudsFor_X3_count : GoodIn wsX0_fraudsFor wsX3_count := goodIn_r _ [24, 14, 57, 58, 59, 60] (by decide +kernel) (by decide +kernel)
set_option maxRecDepth 20000 in
theorem gX0_fraudsFor_X3_count : GoodIn wsX0_fraudsFor (wsV RX0 87 RX3 yX3_count wsX3_count) := goodIn_app (goodIn_of _ (by decide +kernel)) ggX0_fraudsFor_X3_count
set_option maxRecDepth 20000 in
theorem ggX0_fraudsFor_X7_hasBit : GoodIn wsX0_fraudsFor wsX7_hasBit := goodIn_r _ [37] (by decide +kernel) (by decide +kernel)
set_option maxRecDepth 20000 in
theorem gX0_fraudsFor_X7_hasBit_n141 : GoodIn wsX0_fraudsFor (wsX7_hasBit) := ggX0_fraudsFor_X7_hasBit
set_option maxRecDepth 20000 in
theorem ggX0_fraudsFor_X0_fitsOneOf : GoodIn wsX0_fraudsFor wsX0_fitsOneOf := goodIn_r _ [41, 2, 42, 43, 44, 45, 20, 21, 22, 23, 11, 24, 14, 8, 9, 10, 12, 13, 15, 35, 36, 37, 25, 26, 27, 28, 29, 30, 46, 47, 48, 49, 50, 51, 52, 53, 54, 55, 56, 57, 58, 59, 60, 61, 62, 63] (by decide +kernel) (by decide +kernel)
set_option maxRecDepth 20000 in
theorem gX0_fraudsFor_X0_fitsOneOf : GoodIn wsX0_fraudsFor (wsV RX0 145 RX0 yX0_fitsOneOf wsX0_fitsOneOf) := goodIn_app (goodIn_of _ (by decide +kernel)) ggX0_fraudsFor_X0_fitsOneOf
theorem dX0_fraudsFor_0 : decode cX0_fraudsFor 0 = .ok (.aload_n 0, 1) := by decide +kernel
theorem dX0_fraudsFor_1 : decode cX0_fraudsFor 1 = .ok (.iload_n 1, 1) := by decide +kernel
theorem dX0_fraudsFor_2 : decode cX0_fraudsFor 2 = .ok (.invokevirtual 127, 3) := by decide +kernel
theorem dX0_fraudsFor_5 : decode cX0_fraudsFor 5 = .ok (.ifCond .ne 14, 3) := by decide +kernel
theorem dX0_fraudsFor_8 : decode cX0_fraudsFor 8 = .ok (.aload_n 0, 1) := by decide +kernel
theorem dX0_fraudsFor_9 : decode cX0_fraudsFor 9 = .ok (.getfield 23, 3) := by decide +kernel
theorem dX0_fraudsFor_12 : decode cX0_fraudsFor 12 = .ok (.iload_n 1, 1) := by decide +kernel
theorem dX0_fraudsFor_13 : decode cX0_fraudsFor 13 = .ok (.bipush 10, 2) := by decide +kernel
theorem dX0_fraudsFor_15 : decode cX0_fraudsFor 15 = .ok (.invokevirtual 112, 3) := by decide +kernel
theorem dX0_fraudsFor_18 : decode cX0_fraudsFor 18 = .ok (.ireturn, 1) := by decide +kernel
theorem dX0_fraudsFor_19 : decode cX0_fraudsFor 19 = .ok (.aload_n 0, 1) := by decide +kernel
theorem dX0_fraudsFor_20 : decode cX0_fraudsFor 20 = .ok (.iload_n 1, 1) := by decide +kernel
theorem dX0_fraudsFor_21 : decode cX0_fraudsFor 21 = .ok (.invokevirtual 135, 3) := by decide +kernel
theorem dX0_fraudsFor_24 : decode cX0_fraudsFor 24 = .ok (.istore_n 2, 1) := by decide +kernel
theorem dX0_fraudsFor_25 : decode cX0_fraudsFor 25 = .ok (.aload_n 0, 1) := by decide +kernel
theorem dX0_fraudsFor_26 : decode cX0_fraudsFor 26 = .ok (.iload_n 1, 1) := by decide +kernel
theorem dX0_fraudsFor_27 : decode cX0_fraudsFor 27 = .ok (.invokevirtual 100, 3) := by decide +kernel
theorem dX0_fraudsFor_30 : decode cX0_fraudsFor 30 = .ok (.iload_n 2, 1) := by decide +kernel
theorem dX0_fraudsFor_31 : decode cX0_fraudsFor 31 = .ok (.iconst (-1), 1) := by decide +kernel
theorem dX0_fraudsFor_32 : decode cX0_fraudsFor 32 = .ok (.ixor, 1) := by decide +kernel
theorem dX0_fraudsFor_33 : decode cX0_fraudsFor 33 = .ok (.iand, 1) := by decide +kernel
theorem dX0_fraudsFor_34 : decode cX0_fraudsFor 34 = .ok (.istore_n 3, 1) := by decide +kernel
theorem dX0_fraudsFor_35 : decode cX0_fraudsFor 35 = .ok (.iconst 0, 1) := by decide +kernel
theorem dX0_fraudsFor_36 : decode cX0_fraudsFor 36 = .ok (.istore 4, 2) := by decide +kernel
theorem dX0_fraudsFor_38 : decode cX0_fraudsFor 38 = .ok (.iload 4, 2) := by decide +kernel
theorem dX0_fraudsFor_40 : decode cX0_fraudsFor 40 = .ok (.aload_n 0, 1) := by decide +kernel
theorem dX0_fraudsFor_41 : decode cX0_fraudsFor 41 = .ok (.getfield 27, 3) := by decide +kernel
theorem dX0_fraudsFor_44 : decode cX0_fraudsFor 44 = .ok (.invokevirtual 87, 3) := by decide +kernel
theorem dX0_fraudsFor_47 : decode cX0_fraudsFor 47 = .ok (.if_icmp .ge 85, 3) := by decide +kernel
theorem dX0_fraudsFor_50 : decode cX0_fraudsFor 50 = .ok (.iload_n 2, 1) := by decide +kernel
theorem dX0_fraudsFor_51 : decode cX0_fraudsFor 51 = .ok (.iconst 1, 1) := by decide +kernel
theorem dX0_fraudsFor_52 : decode cX0_fraudsFor 52 = .ok (.iload 4, 2) := by decide +kernel
theorem dX0_fraudsFor_54 : decode cX0_fraudsFor 54 = .ok (.ishl, 1) := by decide +kernel
theorem dX0_fraudsFor_55 : decode cX0_fraudsFor 55 = .ok (.iconst (-1), 1) := by decide +kernel
theorem dX0_fraudsFor_56 : decode cX0_fraudsFor 56 = .ok (.ixor, 1) := by decide +kernel
theorem dX0_fraudsFor_57 : decode cX0_fraudsFor 57 = .ok (.iand, 1) := by decide +kernel
theorem dX0_fraudsFor_58 : decode cX0_fraudsFor 58 = .ok (.istore 5, 2) := by decide +kernel
theorem dX0_fraudsFor_60 : decode cX0_fraudsFor 60 = .ok (.iload_n 2, 1) := by decide +kernel
theorem dX0_fraudsFor_61 : decode cX0_fraudsFor 61 = .ok (.iload 4, 2) := by decide +kernel
theorem dX0_fraudsFor_63 : decode cX0_fraudsFor 63 = .ok (.invokestatic 141, 3) := by decide +kernel
theorem dX0_fraudsFor_66 : decode cX0_fraudsFor 66 = .ok (.ifCond .eq 25, 3) := by decide +kernel
theorem dX0_fraudsFor_69 : decode cX0_fraudsFor 69 = .ok (.aload_n 0, 1) := by decide +kernel
theorem dX0_fraudsFor_70 : decode cX0_fraudsFor 70 = .ok (.getfield 27, 3) := by decide +kernel
theorem dX0_fraudsFor_73 : decode cX0_fraudsFor 73 = .ok (.iload 4, 2) := by decide +kernel
theorem dX0_fraudsFor_75 : decode cX0_fraudsFor 75 = .ok (.iconst 4, 1) := by decide +kernel
theorem dX0_fraudsFor_76 : decode cX0_fraudsFor 76 = .ok (.invokevirtual 112, 3) := by decide +kernel
theorem dX0_fraudsFor_79 : decode cX0_fraudsFor 79 = .ok (.ifCond .ne 12, 3) := by decide +kernel
theorem dX0_fraudsFor_82 : decode cX0_fraudsFor 82 = .ok (.iload 5, 2) := by decide +kernel
theorem dX0_fraudsFor_84 : decode cX0_fraudsFor 84 = .ok (.ifCond .eq 7, 3) := by decide +kernel
theorem dX0_fraudsFor_87 : decode cX0_fraudsFor 87 = .ok (.iconst 1, 1) := by decide +kernel
theorem dX0_fraudsFor_88 : decode cX0_fraudsFor 88 = .ok (.goto 4, 3) := by decide +kernel
theorem dX0_fraudsFor_91 : decode cX0_fraudsFor 91 = .ok (.iconst 0, 1) := by decide +kernel
theorem dX0_fraudsFor_92 : decode cX0_fraudsFor 92 = .ok (.istore 6, 2) := by decide +kernel
theorem dX0_fraudsFor_94 : decode cX0_fraudsFor 94 = .ok (.iload 6, 2) := by decide +kernel
theorem dX0_fraudsFor_96 : decode cX0_fraudsFor 96 = .ok (.ifCond .eq 30, 3) := by decide +kernel
theorem dX0_fraudsFor_99 : decode cX0_fraudsFor 99 = .ok (.aload_n 0, 1) := by decide +kernel
theorem dX0_fraudsFor_100 : decode cX0_fraudsFor 100 = .ok (.iload 5, 2) := by decide +kernel
theorem dX0_fraudsFor_102 : decode cX0_fraudsFor 102 = .ok (.iload 4, 2) := by decide +kernel
theorem dX0_fraudsFor_104 : decode cX0_fraudsFor 104 = .ok (.aload_n 0, 1) := by decide +kernel
theorem dX0_fraudsFor_105 : decode cX0_fraudsFor 105 = .ok (.getfield 23, 3) := by decide +kernel
theorem dX0_fraudsFor_108 : decode cX0_fraudsFor 108 = .ok (.iload_n 1, 1) := by decide +kernel
theorem dX0_fraudsFor_109 : decode cX0_fraudsFor 109 = .ok (.iconst 1, 1) := by decide +kernel
theorem dX0_fraudsFor_110 : decode cX0_fraudsFor 110 = .ok (.invokevirtual 112, 3) := by decide +kernel
theorem dX0_fraudsFor_113 : decode cX0_fraudsFor 113 = .ok (.invokevirtual 145, 3) := by decide +kernel
theorem dX0_fraudsFor_116 : decode cX0_fraudsFor 116 = .ok (.ifCond .ne 10, 3) := by decide +kernel
theorem dX0_fraudsFor_119 : decode cX0_fraudsFor 119 = .ok (.iload_n 3, 1) := by decide +kernel
theorem dX0_fraudsFor_120 : decode cX0_fraudsFor 120 = .ok (.iconst 1, 1) := by decide +kernel
theorem dX0_fraudsFor_121 : decode cX0_fraudsFor 121 = .ok (.iload 4, 2) := by decide +kernel
theorem dX0_fraudsFor_123 : decode cX0_fraudsFor 123 = .ok (.ishl, 1) := by decide +kernel
theorem dX0_fraudsFor_124 : decode cX0_fraudsFor 124 = .ok (.ior, 1) := by decide +kernel
theorem dX0_fraudsFor_125 : decode cX0_fraudsFor 125 = .ok (.istore_n 3, 1) := by decide +kernel
theorem dX0_fraudsFor_126 : decode cX0_fraudsFor 126 = .ok (.iinc 4 1, 3) := by decide +kernel
theorem dX0_fraudsFor_129 : decode cX0_fraudsFor 129 = .ok (.goto (-91), 3) := by decide +kernel
theorem dX0_fraudsFor_132 : decode cX0_fraudsFor 132 = .ok (.iload_n 3, 1) := by decide +kernel
theorem dX0_fraudsFor_133 : decode cX0_fraudsFor 133 = .ok (.ireturn, 1) := by decide +kernel
set_option maxRecDepth 20000 in
theorem ggX0_fitsOneOf_X3_count : GoodIn wsX0_fitsOneOf wsX3_count := goodIn_r _ [11, 12, 39, 40, 41, 42] (by decide +kernel) (by decide +kernel)
set_option maxRecDepth 20000 in
theorem gX0_fitsOneOf_X3_count : GoodIn wsX0_fitsOneOf (wsV RX0 87 RX3 yX3_count wsX3_count) := goodIn_app (goodIn_of _ (by decide +kernel)) ggX0_fitsOneOf_X3_count
set_option maxRecDepth 20000 in
theorem ggX0_fitsOneOf_X3_get : GoodIn wsX0_fitsOneOf wsX3_get := goodIn_r _ [16, 17, 12, 18, 39, 40, 41, 42] (by decide +kernel) (by decide +kernel)
set_option maxRecDepth 20000 in
theorem gX0_fitsOneOf_X3_get : GoodIn wsX0_fitsOneOf (wsV RX0 112 RX3 yX3_get wsX3_get) := goodIn_app (goodIn_of _ (by decide +kernel)) ggX0_fitsOneOf_X3_get
set_option maxRecDepth 20000 in
theorem ggX0_fitsOneOf_X7_hasBit : GoodIn wsX0_fitsOneOf wsX7_hasBit := goodIn_r _ [21] (by decide +kernel) (by decide +kernel)
set_option maxRecDepth 20000 in
theorem gX0_fitsOneOf_X7_hasBit_n141 : GoodIn wsX0_fitsOneOf (wsX7_hasBit) := ggX0_fitsOneOf_X7_hasBit
set_option maxRecDepth 20000 in
theorem ggX0_fitsOneOf_X2_isWithin : GoodIn wsX0_fitsOneOf wsX2_isWithin := goodIn_r _ [26, 27, 43, 44, 45] (by decide +kernel) (by decide +kernel)
set_option maxRecDepth 20000 in
theorem gX0_fitsOneOf_X2_isWithin : GoodIn wsX0_fitsOneOf (wsV RX0 138 RX2 yX2_isWithin wsX2_isWithin) := goodIn_app (goodIn_of _ (by decide +kernel)) ggX0_fitsOneOf_X2_isWithin
theorem dX0_fitsOneOf_0 : decode cX0_fitsOneOf 0 = .ok (.iconst 0, 1) := by decide +kernel
theorem dX0_fitsOneOf_1 : decode cX0_fitsOneOf 1 = .ok (.istore 4, 2) := by decide +kernel
theorem dX0_fitsOneOf_3 : decode cX0_fitsOneOf 3 = .ok (.iload 4, 2) := by decide +kernel
theorem dX0_fitsOneOf_5 : decode cX0_fitsOneOf 5 = .ok (.aload_n 0, 1) := by decide +kernel
theorem dX0_fitsOneOf_6 : decode cX0_fitsOneOf 6 = .ok (.getfield 27, 3) := by decide +kernel
theorem dX0_fitsOneOf_9 : decode cX0_fitsOneOf 9 = .ok (.invokevirtual 87, 3) := by decide +kernel
theorem dX0_fitsOneOf_12 : decode cX0_fitsOneOf 12 = .ok (.if_icmp .ge 78, 3) := by decide +kernel
theorem dX0_fitsOneOf_15 : decode cX0_fitsOneOf 15 = .ok (.aload_n 0, 1) := by decide +kernel
theorem dX0_fitsOneOf_16 : decode cX0_fitsOneOf 16 = .ok (.getfield 27, 3) := by decide +kernel
theorem dX0_fitsOneOf_19 : decode cX0_fitsOneOf 19 = .ok (.iload_n 2, 1) := by decide +kernel
theorem dX0_fitsOneOf_20 : decode cX0_fitsOneOf 20 = .ok (.iconst 2, 1) := by decide +kernel
theorem dX0_fitsOneOf_21 : decode cX0_fitsOneOf 21 = .ok (.invokevirtual 112, 3) := by decide +kernel
theorem dX0_fitsOneOf_24 : decode cX0_fitsOneOf 24 = .ok (.aload_n 0, 1) := by decide +kernel
theorem dX0_fitsOneOf_25 : decode cX0_fitsOneOf 25 = .ok (.getfield 27, 3) := by decide +kernel
theorem dX0_fitsOneOf_28 : decode cX0_fitsOneOf 28 = .ok (.iload 4, 2) := by decide +kernel
theorem dX0_fitsOneOf_30 : decode cX0_fitsOneOf 30 = .ok (.iconst 2, 1) := by decide +kernel
theorem dX0_fitsOneOf_31 : decode cX0_fitsOneOf 31 = .ok (.invokevirtual 112, 3) := by decide +kernel
theorem dX0_fitsOneOf_34 : decode cX0_fitsOneOf 34 = .ok (.isub, 1) := by decide +kernel
theorem dX0_fitsOneOf_35 : decode cX0_fitsOneOf 35 = .ok (.invokestatic 148, 3) := by decide +kernel
theorem dX0_fitsOneOf_38 : decode cX0_fitsOneOf 38 = .ok (.istore 5, 2) := by decide +kernel
theorem dX0_fitsOneOf_40 : decode cX0_fitsOneOf 40 = .ok (.iload_n 1, 1) := by decide +kernel
theorem dX0_fitsOneOf_41 : decode cX0_fitsOneOf 41 = .ok (.iload 4, 2) := by decide +kernel
theorem dX0_fitsOneOf_43 : decode cX0_fitsOneOf 43 = .ok (.invokestatic 141, 3) := by decide +kernel
theorem dX0_fitsOneOf_46 : decode cX0_fitsOneOf 46 = .ok (.ifCond .eq 38, 3) := by decide +kernel
theorem dX0_fitsOneOf_49 : decode cX0_fitsOneOf 49 = .ok (.aload_n 0, 1) := by decide +kernel
theorem dX0_fitsOneOf_50 : decode cX0_fitsOneOf 50 = .ok (.getfield 12, 3) := by decide +kernel
theorem dX0_fitsOneOf_53 : decode cX0_fitsOneOf 53 = .ok (.aload_n 0, 1) := by decide +kernel
theorem dX0_fitsOneOf_54 : decode cX0_fitsOneOf 54 = .ok (.getfield 27, 3) := by decide +kernel
theorem dX0_fitsOneOf_57 : decode cX0_fitsOneOf 57 = .ok (.iload_n 2, 1) := by decide +kernel
theorem dX0_fitsOneOf_58 : decode cX0_fitsOneOf 58 = .ok (.iconst 1, 1) := by decide +kernel
theorem dX0_fitsOneOf_59 : decode cX0_fitsOneOf 59 = .ok (.invokevirtual 112, 3) := by decide +kernel
theorem dX0_fitsOneOf_62 : decode cX0_fitsOneOf 62 = .ok (.aload_n 0, 1) := by decide +kernel
theorem dX0_fitsOneOf_63 : decode cX0_fitsOneOf 63 = .ok (.getfield 27, 3) := by decide +kernel
theorem dX0_fitsOneOf_66 : decode cX0_fitsOneOf 66 = .ok (.iload 4, 2) := by decide +kernel
theorem dX0_fitsOneOf_68 : decode cX0_fitsOneOf 68 = .ok (.iconst 1, 1) := by decide +kernel
theorem dX0_fitsOneOf_69 : decode cX0_fitsOneOf 69 = .ok (.invokevirtual 112, 3) := by decide +kernel
theorem dX0_fitsOneOf_72 : decode cX0_fitsOneOf 72 = .ok (.iload_n 3, 1) := by decide +kernel
theorem dX0_fitsOneOf_73 : decode cX0_fitsOneOf 73 = .ok (.iload 5, 2) := by decide +kernel
theorem dX0_fitsOneOf_75 : decode cX0_fitsOneOf 75 = .ok (.imul, 1) := by decide +kernel
theorem dX0_fitsOneOf_76 : decode cX0_fitsOneOf 76 = .ok (.invokevirtual 138, 3) := by decide +kernel
theorem dX0_fitsOneOf_79 : decode cX0_fitsOneOf 79 = .ok (.ifCond .eq 5, 3) := by decide +kernel
theorem dX0_fitsOneOf_82 : decode cX0_fitsOneOf 82 = .ok (.iconst 1, 1) := by decide +kernel
theorem dX0_fitsOneOf_83 : decode cX0_fitsOneOf 83 = .ok (.ireturn, 1) := by decide +kernel
theorem dX0_fitsOneOf_84 : decode cX0_fitsOneOf 84 = .ok (.iinc 4 1, 3) := by decide +kernel
theorem dX0_fitsOneOf_87 : decode cX0_fitsOneOf 87 = .ok (.goto (-84), 3) := by decide +kernel
theorem dX0_fitsOneOf_90 : decode cX0_fitsOneOf 90 = .ok (.iconst 0, 1) := by decide +kernel
theorem dX0_fitsOneOf_91 : decode cX0_fitsOneOf 91 = .ok (.ireturn, 1) := by decide +kernel
set_option maxRecDepth 20000 in
theorem ggX0_honestFor_X0_sightingsMeaning : GoodIn wsX0_honestFor wsX0_sightingsMeaning := goodIn_r _ [5, 6, 7, 8, 9, 10, 11, 12, 13, 14, 15, 16, 17, 18, 50, 51, 52, 53, 54, 55, 56, 57, 58, 59, 60, 61, 62, 63, 64] (by decide +kernel) (by decide +kernel)
set_option maxRecDepth 20000 in
theorem gX0_honestFor_X0_sightingsMeaning : GoodIn wsX0_honestFor (wsV RX0 100 RX0 yX0_sightingsMeaning wsX0_sightingsMeaning) := goodIn_app (goodIn_of _ (by decide +kernel)) ggX0_honestFor_X0_sightingsMeaning
set_option maxRecDepth 20000 in
theorem ggX0_honestFor_X0_fraudsFor : GoodIn wsX0_honestFor wsX0_fraudsFor := goodIn_r _ [22, 23, 6, 24, 25, 26, 4, 27, 13, 14, 15, 10, 16, 17, 12, 18, 28, 29, 30, 31, 32, 7, 8, 9, 11, 33, 34, 35, 36, 37, 38, 1, 2, 3, 5, 39, 40, 41, 42, 43, 44, 45, 46, 47, 48, 49, 50, 51, 52, 53, 54, 55, 56, 57, 58, 59, 60, 61, 62, 63, 64, 65, 66, 67] (by decide +kernel) (by decide +kernel)
set_option maxRecDepth 20000 in
theorem gX0_honestFor_X0_fraudsFor : GoodIn wsX0_honestFor (wsV RX0 124 RX0 yX0_fraudsFor wsX0_fraudsFor) := goodIn_app (goodIn_of _ (by decide +kernel)) ggX0_honestFor_X0_fraudsFor
theorem dX0_honestFor_0 : decode cX0_honestFor 0 = .ok (.aload_n 0, 1) := by decide +kernel
theorem dX0_honestFor_1 : decode cX0_honestFor 1 = .ok (.iload_n 1, 1) := by decide +kernel
theorem dX0_honestFor_2 : decode cX0_honestFor 2 = .ok (.invokevirtual 100, 3) := by decide +kernel
theorem dX0_honestFor_5 : decode cX0_honestFor 5 = .ok (.aload_n 0, 1) := by decide +kernel
theorem dX0_honestFor_6 : decode cX0_honestFor 6 = .ok (.iload_n 1, 1) := by decide +kernel
theorem dX0_honestFor_7 : decode cX0_honestFor 7 = .ok (.invokevirtual 124, 3) := by decide +kernel
theorem dX0_honestFor_10 : decode cX0_honestFor 10 = .ok (.iconst (-1), 1) := by decide +kernel
theorem dX0_honestFor_11 : decode cX0_honestFor 11 = .ok (.ixor, 1) := by decide +kernel
theorem dX0_honestFor_12 : decode cX0_honestFor 12 = .ok (.iand, 1) := by decide +kernel
theorem dX0_honestFor_13 : decode cX0_honestFor 13 = .ok (.ireturn, 1) := by decide +kernel
set_option maxRecDepth 20000 in
theorem ggX0_faultOfAsking_X3_has : GoodIn wsX0_faultOfAsking wsX3_has := goodIn_r _ [6, 7, 30, 31, 32, 33] (by decide +kernel) (by decide +kernel)
set_option maxRecDepth 20000 in
theorem gX0_faultOfAsking_X3_has : GoodIn wsX0_faultOfAsking (wsV RX0 151 RX3 yX3_has wsX3_has) := goodIn_app (goodIn_of _ (by decide +kernel)) ggX0_faultOfAsking_X3_has
set_option maxRecDepth 20000 in
theorem ggX0_faultOfAsking_X0_isMissing : GoodIn wsX0_faultOfAsking wsX0_isMissing := goodIn_r _ [12, 1, 13, 14, 15, 5, 16, 17, 7, 18, 19, 20, 21, 22, 23, 24, 25, 26, 27, 28, 29, 30, 31, 32, 33] (by decide +kernel) (by decide +kernel)
set_option maxRecDepth 20000 in
theorem gX0_faultOfAsking_X0_isMissing : GoodIn wsX0_faultOfAsking (wsV RX0 127 RX0 yX0_isMissing wsX0_isMissing) := goodIn_app (goodIn_of _ (by decide +kernel)) ggX0_faultOfAsking_X0_isMissing
theorem dX0_faultOfAsking_0 : decode cX0_faultOfAsking 0 = .ok (.aload_n 0, 1) := by decide +kernel
theorem dX0_faultOfAsking_1 : decode cX0_faultOfAsking 1 = .ok (.getfield 23, 3) := by decide +kernel
theorem dX0_faultOfAsking_4 : decode cX0_faultOfAsking 4 = .ok (.iload_n 1, 1) := by decide +kernel
theorem dX0_faultOfAsking_5 : decode cX0_faultOfAsking 5 = .ok (.invokevirtual 151, 3) := by decide +kernel
theorem dX0_faultOfAsking_8 : decode cX0_faultOfAsking 8 = .ok (.ifCond .ne 5, 3) := by decide +kernel
theorem dX0_faultOfAsking_11 : decode cX0_faultOfAsking 11 = .ok (.iconst 1, 1) := by decide +kernel
theorem dX0_faultOfAsking_12 : decode cX0_faultOfAsking 12 = .ok (.ireturn, 1) := by decide +kernel
theorem dX0_faultOfAsking_13 : decode cX0_faultOfAsking 13 = .ok (.aload_n 0, 1) := by decide +kernel
theorem dX0_faultOfAsking_14 : decode cX0_faultOfAsking 14 = .ok (.iload_n 1, 1) := by decide +kernel
theorem dX0_faultOfAsking_15 : decode cX0_faultOfAsking 15 = .ok (.invokevirtual 127, 3) := by decide +kernel
theorem dX0_faultOfAsking_18 : decode cX0_faultOfAsking 18 = .ok (.ifCond .eq 7, 3) := by decide +kernel
theorem dX0_faultOfAsking_21 : decode cX0_faultOfAsking 21 = .ok (.iconst 0, 1) := by decide +kernel
theorem dX0_faultOfAsking_22 : decode cX0_faultOfAsking 22 = .ok (.goto 4, 3) := by decide +kernel
theorem dX0_faultOfAsking_25 : decode cX0_faultOfAsking 25 = .ok (.iconst 3, 1) := by decide +kernel
theorem dX0_faultOfAsking_26 : decode cX0_faultOfAsking 26 = .ok (.ireturn, 1) := by decide +kernel
set_option maxRecDepth 20000 in
theorem ggX0_placesOf_X0_honestFor : GoodIn wsX0_placesOf wsX0_honestFor := goodIn_r _ [5, 6, 7, 8, 4, 9, 10, 11, 12, 13, 14, 15, 16, 17, 18, 19, 20, 21, 22, 23, 24, 25, 26, 27, 28, 29, 30, 31, 32, 33, 34, 35, 36, 37, 38, 39, 40, 41, 42, 43, 44, 45, 46, 47, 48, 49, 50, 51, 52, 53, 59, 60, 61, 62, 63, 64, 65, 66, 67, 68, 69, 70, 71, 72, 73, 74, 75, 76] (by decide +kernel) (by decide +kernel)
set_option maxRecDepth 20000 in
theorem gX0_placesOf_X0_honestFor : GoodIn wsX0_placesOf (wsV RX0 115 RX0 yX0_honestFor wsX0_honestFor) := goodIn_app (goodIn_of _ (by decide +kernel)) ggX0_placesOf_X0_honestFor
set_option maxRecDepth 20000 in
theorem ggX0_placesOf_X0_canReach : GoodIn wsX0_placesOf wsX0_canReach := goodIn_r _ [57, 27, 58, 36, 10, 17, 18, 19, 14, 20, 21, 16, 22, 37, 38, 39, 40, 41, 42, 11, 12, 13, 15, 43, 44, 45, 59, 60, 61, 62, 63, 64, 65, 66, 67, 68, 69, 70, 71, 72, 73, 74, 75, 76] (by decide +kernel) (by decide +kernel)
set_option maxRecDepth 20000 in
theorem gX0_placesOf_X0_canReach : GoodIn wsX0_placesOf (wsV RX0 154 RX0 yX0_canReach wsX0_canReach) := goodIn_app (goodIn_of _ (by decide +kernel)) ggX0_placesOf_X0_canReach
theorem dX0_placesOf_0 : decode cX0_placesOf 0 = .ok (.aload_n 0, 1) := by decide +kernel
theorem dX0_placesOf_1 : decode cX0_placesOf 1 = .ok (.iload_n 1, 1) := by decide +kernel
theorem dX0_placesOf_2 : decode cX0_placesOf 2 = .ok (.invokevirtual 115, 3) := by decide +kernel
theorem dX0_placesOf_5 : decode cX0_placesOf 5 = .ok (.istore_n 2, 1) := by decide +kernel
theorem dX0_placesOf_6 : decode cX0_placesOf 6 = .ok (.iconst 0, 1) := by decide +kernel
theorem dX0_placesOf_7 : decode cX0_placesOf 7 = .ok (.istore_n 3, 1) := by decide +kernel
theorem dX0_placesOf_8 : decode cX0_placesOf 8 = .ok (.iconst 0, 1) := by decide +kernel
theorem dX0_placesOf_9 : decode cX0_placesOf 9 = .ok (.istore 4, 2) := by decide +kernel
theorem dX0_placesOf_11 : decode cX0_placesOf 11 = .ok (.iload 4, 2) := by decide +kernel
theorem dX0_placesOf_13 : decode cX0_placesOf 13 = .ok (.bipush 12, 2) := by decide +kernel
theorem dX0_placesOf_15 : decode cX0_placesOf 15 = .ok (.if_icmp .ge 31, 3) := by decide +kernel
theorem dX0_placesOf_18 : decode cX0_placesOf 18 = .ok (.iload_n 3, 1) := by decide +kernel
theorem dX0_placesOf_19 : decode cX0_placesOf 19 = .ok (.aload_n 0, 1) := by decide +kernel
theorem dX0_placesOf_20 : decode cX0_placesOf 20 = .ok (.iload_n 1, 1) := by decide +kernel
theorem dX0_placesOf_21 : decode cX0_placesOf 21 = .ok (.iload 4, 2) := by decide +kernel
theorem dX0_placesOf_23 : decode cX0_placesOf 23 = .ok (.iload_n 2, 1) := by decide +kernel
theorem dX0_placesOf_24 : decode cX0_placesOf 24 = .ok (.invokevirtual 154, 3) := by decide +kernel
theorem dX0_placesOf_27 : decode cX0_placesOf 27 = .ok (.ifCond .eq 10, 3) := by decide +kernel
theorem dX0_placesOf_30 : decode cX0_placesOf 30 = .ok (.iconst 1, 1) := by decide +kernel
theorem dX0_placesOf_31 : decode cX0_placesOf 31 = .ok (.iload 4, 2) := by decide +kernel
theorem dX0_placesOf_33 : decode cX0_placesOf 33 = .ok (.ishl, 1) := by decide +kernel
theorem dX0_placesOf_34 : decode cX0_placesOf 34 = .ok (.goto 4, 3) := by decide +kernel
theorem dX0_placesOf_37 : decode cX0_placesOf 37 = .ok (.iconst 0, 1) := by decide +kernel
theorem dX0_placesOf_38 : decode cX0_placesOf 38 = .ok (.ior, 1) := by decide +kernel
theorem dX0_placesOf_39 : decode cX0_placesOf 39 = .ok (.istore_n 3, 1) := by decide +kernel
theorem dX0_placesOf_40 : decode cX0_placesOf 40 = .ok (.iinc 4 1, 3) := by decide +kernel
theorem dX0_placesOf_43 : decode cX0_placesOf 43 = .ok (.goto (-32), 3) := by decide +kernel
theorem dX0_placesOf_46 : decode cX0_placesOf 46 = .ok (.iload_n 3, 1) := by decide +kernel
theorem dX0_placesOf_47 : decode cX0_placesOf 47 = .ok (.ireturn, 1) := by decide +kernel
set_option maxRecDepth 20000 in
theorem ggX0_canReach_X3_get : GoodIn wsX0_canReach wsX3_get := goodIn_r _ [9, 10, 11, 12, 37, 38, 39, 40] (by decide +kernel) (by decide +kernel)
set_option maxRecDepth 20000 in
theorem gX0_canReach_X3_get : GoodIn wsX0_canReach (wsV RX0 112 RX3 yX3_get wsX3_get) := goodIn_app (goodIn_of _ (by decide +kernel)) ggX0_canReach_X3_get
set_option maxRecDepth 20000 in
theorem ggX0_canReach_X2_isWithin : GoodIn wsX0_canReach wsX2_isWithin := goodIn_r _ [17, 18, 41, 42, 43] (by decide +kernel) (by decide +kernel)
set_option maxRecDepth 20000 in
theorem gX0_canReach_X2_isWithin : GoodIn wsX0_canReach (wsV RX0 138 RX2 yX2_isWithin wsX2_isWithin) := goodIn_app (goodIn_of _ (by decide +kernel)) ggX0_canReach_X2_isWithin
set_option maxRecDepth 20000 in
theorem ggX0_canReach_X3_count : GoodIn wsX0_canReach wsX3_count := goodIn_r _ [22, 11, 37, 38, 39, 40] (by decide +kernel) (by decide +kernel)
set_option maxRecDepth 20000 in
theorem gX0_canReach_X3_count : GoodIn wsX0_canReach (wsV RX0 87 RX3 yX3_count wsX3_count) := goodIn_app (goodIn_of _ (by decide +kernel)) ggX0_canReach_X3_count
set_option maxRecDepth 20000 in
theorem ggX0_canReach_X7_hasBit : GoodIn wsX0_canReach wsX7_hasBit := goodIn_r _ [25] (by decide +kernel) (by decide +kernel)
set_option maxRecDepth 20000 in
theorem gX0_canReach_X7_hasBit_n141 : GoodIn wsX0_canReach (wsX7_hasBit) := ggX0_canReach_X7_hasBit
theorem dX0_canReach_0 : decode cX0_canReach 0 = .ok (.aload_n 0, 1) := by decide +kernel
theorem dX0_canReach_1 : decode cX0_canReach 1 = .ok (.getfield 23, 3) := by decide +kernel
theorem dX0_canReach_4 : decode cX0_canReach 4 = .ok (.iload_n 1, 1) := by decide +kernel
theorem dX0_canReach_5 : decode cX0_canReach 5 = .ok (.iconst 1, 1) := by decide +kernel
theorem dX0_canReach_6 : decode cX0_canReach 6 = .ok (.invokevirtual 112, 3) := by decide +kernel
theorem dX0_canReach_9 : decode cX0_canReach 9 = .ok (.istore 4, 2) := by decide +kernel
theorem dX0_canReach_11 : decode cX0_canReach 11 = .ok (.aload_n 0, 1) := by decide +kernel
theorem dX0_canReach_12 : decode cX0_canReach 12 = .ok (.getfield 49, 3) := by decide +kernel
theorem dX0_canReach_15 : decode cX0_canReach 15 = .ok (.aload_n 0, 1) := by decide +kernel
theorem dX0_canReach_16 : decode cX0_canReach 16 = .ok (.getfield 23, 3) := by decide +kernel
theorem dX0_canReach_19 : decode cX0_canReach 19 = .ok (.iload_n 1, 1) := by decide +kernel
theorem dX0_canReach_20 : decode cX0_canReach 20 = .ok (.iconst 3, 1) := by decide +kernel
theorem dX0_canReach_21 : decode cX0_canReach 21 = .ok (.invokevirtual 112, 3) := by decide +kernel
theorem dX0_canReach_24 : decode cX0_canReach 24 = .ok (.isub, 1) := by decide +kernel
theorem dX0_canReach_25 : decode cX0_canReach 25 = .ok (.istore 5, 2) := by decide +kernel
theorem dX0_canReach_27 : decode cX0_canReach 27 = .ok (.aload_n 0, 1) := by decide +kernel
theorem dX0_canReach_28 : decode cX0_canReach 28 = .ok (.getfield 12, 3) := by decide +kernel
theorem dX0_canReach_31 : decode cX0_canReach 31 = .ok (.aload_n 0, 1) := by decide +kernel
theorem dX0_canReach_32 : decode cX0_canReach 32 = .ok (.getfield 23, 3) := by decide +kernel
theorem dX0_canReach_35 : decode cX0_canReach 35 = .ok (.iload_n 1, 1) := by decide +kernel
theorem dX0_canReach_36 : decode cX0_canReach 36 = .ok (.iconst 2, 1) := by decide +kernel
theorem dX0_canReach_37 : decode cX0_canReach 37 = .ok (.invokevirtual 112, 3) := by decide +kernel
theorem dX0_canReach_40 : decode cX0_canReach 40 = .ok (.iload_n 2, 1) := by decide +kernel
theorem dX0_canReach_41 : decode cX0_canReach 41 = .ok (.iload 4, 2) := by decide +kernel
theorem dX0_canReach_43 : decode cX0_canReach 43 = .ok (.iload 5, 2) := by decide +kernel
theorem dX0_canReach_45 : decode cX0_canReach 45 = .ok (.imul, 1) := by decide +kernel
theorem dX0_canReach_46 : decode cX0_canReach 46 = .ok (.invokevirtual 138, 3) := by decide +kernel
theorem dX0_canReach_49 : decode cX0_canReach 49 = .ok (.ifCond .ne 5, 3) := by decide +kernel
theorem dX0_canReach_52 : decode cX0_canReach 52 = .ok (.iconst 0, 1) := by decide +kernel
theorem dX0_canReach_53 : decode cX0_canReach 53 = .ok (.ireturn, 1) := by decide +kernel
theorem dX0_canReach_54 : decode cX0_canReach 54 = .ok (.iconst 0, 1) := by decide +kernel
theorem dX0_canReach_55 : decode cX0_canReach 55 = .ok (.istore 6, 2) := by decide +kernel
theorem dX0_canReach_57 : decode cX0_canReach 57 = .ok (.iload 6, 2) := by decide +kernel
theorem dX0_canReach_59 : decode cX0_canReach 59 = .ok (.aload_n 0, 1) := by decide +kernel
theorem dX0_canReach_60 : decode cX0_canReach 60 = .ok (.getfield 27, 3) := by decide +kernel
theorem dX0_canReach_63 : decode cX0_canReach 63 = .ok (.invokevirtual 87, 3) := by decide +kernel
theorem dX0_canReach_66 : decode cX0_canReach 66 = .ok (.if_icmp .ge 63, 3) := by decide +kernel
theorem dX0_canReach_69 : decode cX0_canReach 69 = .ok (.aload_n 0, 1) := by decide +kernel
theorem dX0_canReach_70 : decode cX0_canReach 70 = .ok (.getfield 49, 3) := by decide +kernel
theorem dX0_canReach_73 : decode cX0_canReach 73 = .ok (.aload_n 0, 1) := by decide +kernel
theorem dX0_canReach_74 : decode cX0_canReach 74 = .ok (.getfield 27, 3) := by decide +kernel
theorem dX0_canReach_77 : decode cX0_canReach 77 = .ok (.iload 6, 2) := by decide +kernel
theorem dX0_canReach_79 : decode cX0_canReach 79 = .ok (.iconst 2, 1) := by decide +kernel
theorem dX0_canReach_80 : decode cX0_canReach 80 = .ok (.invokevirtual 112, 3) := by decide +kernel
theorem dX0_canReach_83 : decode cX0_canReach 83 = .ok (.isub, 1) := by decide +kernel
theorem dX0_canReach_84 : decode cX0_canReach 84 = .ok (.istore 7, 2) := by decide +kernel
theorem dX0_canReach_86 : decode cX0_canReach 86 = .ok (.iload_n 3, 1) := by decide +kernel
theorem dX0_canReach_87 : decode cX0_canReach 87 = .ok (.iload 6, 2) := by decide +kernel
theorem dX0_canReach_89 : decode cX0_canReach 89 = .ok (.invokestatic 141, 3) := by decide +kernel
theorem dX0_canReach_92 : decode cX0_canReach 92 = .ok (.ifCond .eq 31, 3) := by decide +kernel
theorem dX0_canReach_95 : decode cX0_canReach 95 = .ok (.aload_n 0, 1) := by decide +kernel
theorem dX0_canReach_96 : decode cX0_canReach 96 = .ok (.getfield 12, 3) := by decide +kernel
theorem dX0_canReach_99 : decode cX0_canReach 99 = .ok (.aload_n 0, 1) := by decide +kernel
theorem dX0_canReach_100 : decode cX0_canReach 100 = .ok (.getfield 27, 3) := by decide +kernel
theorem dX0_canReach_103 : decode cX0_canReach 103 = .ok (.iload 6, 2) := by decide +kernel
theorem dX0_canReach_105 : decode cX0_canReach 105 = .ok (.iconst 1, 1) := by decide +kernel
theorem dX0_canReach_106 : decode cX0_canReach 106 = .ok (.invokevirtual 112, 3) := by decide +kernel
theorem dX0_canReach_109 : decode cX0_canReach 109 = .ok (.iload_n 2, 1) := by decide +kernel
theorem dX0_canReach_110 : decode cX0_canReach 110 = .ok (.iload 4, 2) := by decide +kernel
theorem dX0_canReach_112 : decode cX0_canReach 112 = .ok (.iload 7, 2) := by decide +kernel
theorem dX0_canReach_114 : decode cX0_canReach 114 = .ok (.imul, 1) := by decide +kernel
theorem dX0_canReach_115 : decode cX0_canReach 115 = .ok (.invokevirtual 138, 3) := by decide +kernel
theorem dX0_canReach_118 : decode cX0_canReach 118 = .ok (.ifCond .ne 5, 3) := by decide +kernel
theorem dX0_canReach_121 : decode cX0_canReach 121 = .ok (.iconst 0, 1) := by decide +kernel
theorem dX0_canReach_122 : decode cX0_canReach 122 = .ok (.ireturn, 1) := by decide +kernel
theorem dX0_canReach_123 : decode cX0_canReach 123 = .ok (.iinc 6 1, 3) := by decide +kernel
theorem dX0_canReach_126 : decode cX0_canReach 126 = .ok (.goto (-69), 3) := by decide +kernel
theorem dX0_canReach_129 : decode cX0_canReach 129 = .ok (.iconst 1, 1) := by decide +kernel
theorem dX0_canReach_130 : decode cX0_canReach 130 = .ok (.ireturn, 1) := by decide +kernel
set_option maxRecDepth 20000 in
theorem ggX0_cornerToWatch_X0_missingDogs : GoodIn wsX0_cornerToWatch wsX0_missingDogs := goodIn_r _ [6, 7, 8, 9, 10, 11, 12, 13, 14, 15, 16, 17, 18, 19, 76, 77, 78, 79, 80, 81, 82, 83, 84, 85, 86, 87, 88, 89, 90] (by decide +kernel) (by decide +kernel)
set_option maxRecDepth 20000 in
theorem gX0_cornerToWatch_X0_missingDogs : GoodIn wsX0_cornerToWatch (wsV RX0 91 RX0 yX0_missingDogs wsX0_missingDogs) := goodIn_app (goodIn_of _ (by decide +kernel)) ggX0_cornerToWatch_X0_missingDogs
set_option maxRecDepth 20000 in
theorem ggX0_cornerToWatch_X0_isMissing : GoodIn wsX0_cornerToWatch wsX0_isMissing := goodIn_r _ [23, 7, 14, 15, 16, 11, 17, 18, 13, 19, 76, 77, 78, 79, 80, 81, 82, 83, 84, 85, 86, 87, 88, 89, 90] (by decide +kernel) (by decide +kernel)
set_option maxRecDepth 20000 in
theorem gX0_cornerToWatch_X0_isMissing : GoodIn wsX0_cornerToWatch (wsV RX0 127 RX0 yX0_isMissing wsX0_isMissing) := goodIn_app (goodIn_of _ (by decide +kernel)) ggX0_cornerToWatch_X0_isMissing
set_option maxRecDepth 20000 in
theorem ggX0_cornerToWatch_X0_placesOf : GoodIn wsX0_cornerToWatch wsX0_placesOf := goodIn_r _ [27, 28, 29, 30, 5, 31, 32, 33, 34, 35, 36, 8, 9, 10, 11, 12, 13, 14, 15, 16, 17, 18, 19, 37, 38, 39, 40, 7, 20, 21, 22, 23, 41, 42, 43, 44, 45, 46, 47, 48, 49, 50, 51, 52, 53, 54, 55, 56, 57, 58, 59, 60, 61, 62, 63, 64, 65, 66, 67, 76, 77, 78, 79, 80, 81, 82, 83, 84, 85, 86, 87, 88, 89, 90, 91, 92, 93] (by decide +kernel) (by decide +kernel)
set_option maxRecDepth 20000 in
theorem gX0_cornerToWatch_X0_placesOf : GoodIn wsX0_cornerToWatch (wsV RX0 157 RX0 yX0_placesOf wsX0_placesOf) := goodIn_app (goodIn_of _ (by decide +kernel)) ggX0_cornerToWatch_X0_placesOf
set_option maxRecDepth 20000 in
theorem ggX0_cornerToWatch_X0_dogsAt : GoodIn wsX0_cornerToWatch wsX0_dogsAt := goodIn_r _ [71, 1, 76, 77, 78, 79, 80, 81, 82, 83, 84, 85, 86] (by decide +kernel) (by decide +kernel)
set_option maxRecDepth 20000 in
theorem gX0_cornerToWatch_X0_dogsAt : GoodIn wsX0_cornerToWatch (wsV RX0 160 RX0 yX0_dogsAt wsX0_dogsAt) := goodIn_app (goodIn_of _ (by decide +kernel)) ggX0_cornerToWatch_X0_dogsAt
set_option maxRecDepth 20000 in
theorem ggX0_cornerToWatch_X0_rewardsAt : GoodIn wsX0_cornerToWatch wsX0_rewardsAt := goodIn_r _ [75, 1, 7, 52, 53, 54, 14, 15, 16, 11, 17, 18, 13, 19, 76, 77, 78, 79, 80, 81, 82, 83, 84, 85, 86, 87, 88, 89, 90] (by decide +kernel) (by decide +kernel)
set_option maxRecDepth 20000 in
theorem gX0_cornerToWatch_X0_rewardsAt : GoodIn wsX0_cornerToWatch (wsV RX0 163 RX0 yX0_rewardsAt wsX0_rewardsAt) := goodIn_app (goodIn_of _ (by decide +kernel)) ggX0_cornerToWatch_X0_rewardsAt
theorem dX0_cornerToWatch_0 : decode cX0_cornerToWatch 0 = .ok (.aload_n 0, 1) := by decide +kernel
theorem dX0_cornerToWatch_1 : decode cX0_cornerToWatch 1 = .ok (.invokevirtual 91, 3) := by decide +kernel
theorem dX0_cornerToWatch_4 : decode cX0_cornerToWatch 4 = .ok (.ifCond .ne 5, 3) := by decide +kernel
theorem dX0_cornerToWatch_7 : decode cX0_cornerToWatch 7 = .ok (.iconst (-1), 1) := by decide +kernel
theorem dX0_cornerToWatch_8 : decode cX0_cornerToWatch 8 = .ok (.ireturn, 1) := by decide +kernel
theorem dX0_cornerToWatch_9 : decode cX0_cornerToWatch 9 = .ok (.iconst 0, 1) := by decide +kernel
theorem dX0_cornerToWatch_10 : decode cX0_cornerToWatch 10 = .ok (.istore_n 1, 1) := by decide +kernel
theorem dX0_cornerToWatch_11 : decode cX0_cornerToWatch 11 = .ok (.iload_n 1, 1) := by decide +kernel
theorem dX0_cornerToWatch_12 : decode cX0_cornerToWatch 12 = .ok (.aload_n 0, 1) := by decide +kernel
theorem dX0_cornerToWatch_13 : decode cX0_cornerToWatch 13 = .ok (.getfield 34, 3) := by decide +kernel
theorem dX0_cornerToWatch_16 : decode cX0_cornerToWatch 16 = .ok (.arraylength, 1) := by decide +kernel
theorem dX0_cornerToWatch_17 : decode cX0_cornerToWatch 17 = .ok (.if_icmp .ge 32, 3) := by decide +kernel
theorem dX0_cornerToWatch_20 : decode cX0_cornerToWatch 20 = .ok (.aload_n 0, 1) := by decide +kernel
theorem dX0_cornerToWatch_21 : decode cX0_cornerToWatch 21 = .ok (.getfield 34, 3) := by decide +kernel
theorem dX0_cornerToWatch_24 : decode cX0_cornerToWatch 24 = .ok (.iload_n 1, 1) := by decide +kernel
theorem dX0_cornerToWatch_25 : decode cX0_cornerToWatch 25 = .ok (.aload_n 0, 1) := by decide +kernel
theorem dX0_cornerToWatch_26 : decode cX0_cornerToWatch 26 = .ok (.iload_n 1, 1) := by decide +kernel
theorem dX0_cornerToWatch_27 : decode cX0_cornerToWatch 27 = .ok (.invokevirtual 127, 3) := by decide +kernel
theorem dX0_cornerToWatch_30 : decode cX0_cornerToWatch 30 = .ok (.ifCond .eq 11, 3) := by decide +kernel
theorem dX0_cornerToWatch_33 : decode cX0_cornerToWatch 33 = .ok (.aload_n 0, 1) := by decide +kernel
theorem dX0_cornerToWatch_34 : decode cX0_cornerToWatch 34 = .ok (.iload_n 1, 1) := by decide +kernel
theorem dX0_cornerToWatch_35 : decode cX0_cornerToWatch 35 = .ok (.invokevirtual 157, 3) := by decide +kernel
theorem dX0_cornerToWatch_38 : decode cX0_cornerToWatch 38 = .ok (.goto 4, 3) := by decide +kernel
theorem dX0_cornerToWatch_41 : decode cX0_cornerToWatch 41 = .ok (.iconst 0, 1) := by decide +kernel
theorem dX0_cornerToWatch_42 : decode cX0_cornerToWatch 42 = .ok (.iastore, 1) := by decide +kernel
theorem dX0_cornerToWatch_43 : decode cX0_cornerToWatch 43 = .ok (.iinc 1 1, 3) := by decide +kernel
theorem dX0_cornerToWatch_46 : decode cX0_cornerToWatch 46 = .ok (.goto (-35), 3) := by decide +kernel
theorem dX0_cornerToWatch_49 : decode cX0_cornerToWatch 49 = .ok (.iconst 0, 1) := by decide +kernel
theorem dX0_cornerToWatch_50 : decode cX0_cornerToWatch 50 = .ok (.istore_n 1, 1) := by decide +kernel
theorem dX0_cornerToWatch_51 : decode cX0_cornerToWatch 51 = .ok (.iconst 1, 1) := by decide +kernel
theorem dX0_cornerToWatch_52 : decode cX0_cornerToWatch 52 = .ok (.istore_n 2, 1) := by decide +kernel
theorem dX0_cornerToWatch_53 : decode cX0_cornerToWatch 53 = .ok (.iload_n 2, 1) := by decide +kernel
theorem dX0_cornerToWatch_54 : decode cX0_cornerToWatch 54 = .ok (.bipush 12, 2) := by decide +kernel
theorem dX0_cornerToWatch_56 : decode cX0_cornerToWatch 56 = .ok (.if_icmp .ge 44, 3) := by decide +kernel
theorem dX0_cornerToWatch_59 : decode cX0_cornerToWatch 59 = .ok (.aload_n 0, 1) := by decide +kernel
theorem dX0_cornerToWatch_60 : decode cX0_cornerToWatch 60 = .ok (.iload_n 2, 1) := by decide +kernel
theorem dX0_cornerToWatch_61 : decode cX0_cornerToWatch 61 = .ok (.invokevirtual 160, 3) := by decide +kernel
theorem dX0_cornerToWatch_64 : decode cX0_cornerToWatch 64 = .ok (.aload_n 0, 1) := by decide +kernel
theorem dX0_cornerToWatch_65 : decode cX0_cornerToWatch 65 = .ok (.iload_n 1, 1) := by decide +kernel
theorem dX0_cornerToWatch_66 : decode cX0_cornerToWatch 66 = .ok (.invokevirtual 160, 3) := by decide +kernel
theorem dX0_cornerToWatch_69 : decode cX0_cornerToWatch 69 = .ok (.isub, 1) := by decide +kernel
theorem dX0_cornerToWatch_70 : decode cX0_cornerToWatch 70 = .ok (.istore_n 3, 1) := by decide +kernel
theorem dX0_cornerToWatch_71 : decode cX0_cornerToWatch 71 = .ok (.iload_n 3, 1) := by decide +kernel
theorem dX0_cornerToWatch_72 : decode cX0_cornerToWatch 72 = .ok (.ifCond .gt 20, 3) := by decide +kernel
theorem dX0_cornerToWatch_75 : decode cX0_cornerToWatch 75 = .ok (.iload_n 3, 1) := by decide +kernel
theorem dX0_cornerToWatch_76 : decode cX0_cornerToWatch 76 = .ok (.ifCond .ne 18, 3) := by decide +kernel
theorem dX0_cornerToWatch_79 : decode cX0_cornerToWatch 79 = .ok (.aload_n 0, 1) := by decide +kernel
theorem dX0_cornerToWatch_80 : decode cX0_cornerToWatch 80 = .ok (.iload_n 2, 1) := by decide +kernel
theorem dX0_cornerToWatch_81 : decode cX0_cornerToWatch 81 = .ok (.invokevirtual 163, 3) := by decide +kernel
theorem dX0_cornerToWatch_84 : decode cX0_cornerToWatch 84 = .ok (.aload_n 0, 1) := by decide +kernel
theorem dX0_cornerToWatch_85 : decode cX0_cornerToWatch 85 = .ok (.iload_n 1, 1) := by decide +kernel
theorem dX0_cornerToWatch_86 : decode cX0_cornerToWatch 86 = .ok (.invokevirtual 163, 3) := by decide +kernel
theorem dX0_cornerToWatch_89 : decode cX0_cornerToWatch 89 = .ok (.if_icmp .le 5, 3) := by decide +kernel
theorem dX0_cornerToWatch_92 : decode cX0_cornerToWatch 92 = .ok (.iload_n 2, 1) := by decide +kernel
theorem dX0_cornerToWatch_93 : decode cX0_cornerToWatch 93 = .ok (.istore_n 1, 1) := by decide +kernel
theorem dX0_cornerToWatch_94 : decode cX0_cornerToWatch 94 = .ok (.iinc 2 1, 3) := by decide +kernel
theorem dX0_cornerToWatch_97 : decode cX0_cornerToWatch 97 = .ok (.goto (-44), 3) := by decide +kernel
theorem dX0_cornerToWatch_100 : decode cX0_cornerToWatch 100 = .ok (.iload_n 1, 1) := by decide +kernel
theorem dX0_cornerToWatch_101 : decode cX0_cornerToWatch 101 = .ok (.ireturn, 1) := by decide +kernel
theorem dX0_dogsAt_0 : decode cX0_dogsAt 0 = .ok (.iconst 0, 1) := by decide +kernel
theorem dX0_dogsAt_1 : decode cX0_dogsAt 1 = .ok (.istore_n 2, 1) := by decide +kernel
theorem dX0_dogsAt_2 : decode cX0_dogsAt 2 = .ok (.iconst 0, 1) := by decide +kernel
theorem dX0_dogsAt_3 : decode cX0_dogsAt 3 = .ok (.istore_n 3, 1) := by decide +kernel
theorem dX0_dogsAt_4 : decode cX0_dogsAt 4 = .ok (.iload_n 3, 1) := by decide +kernel
theorem dX0_dogsAt_5 : decode cX0_dogsAt 5 = .ok (.aload_n 0, 1) := by decide +kernel
theorem dX0_dogsAt_6 : decode cX0_dogsAt 6 = .ok (.getfield 34, 3) := by decide +kernel
theorem dX0_dogsAt_9 : decode cX0_dogsAt 9 = .ok (.arraylength, 1) := by decide +kernel
theorem dX0_dogsAt_10 : decode cX0_dogsAt 10 = .ok (.if_icmp .ge 22, 3) := by decide +kernel
theorem dX0_dogsAt_13 : decode cX0_dogsAt 13 = .ok (.iload_n 2, 1) := by decide +kernel
theorem dX0_dogsAt_14 : decode cX0_dogsAt 14 = .ok (.aload_n 0, 1) := by decide +kernel
theorem dX0_dogsAt_15 : decode cX0_dogsAt 15 = .ok (.getfield 34, 3) := by decide +kernel
theorem dX0_dogsAt_18 : decode cX0_dogsAt 18 = .ok (.iload_n 3, 1) := by decide +kernel
theorem dX0_dogsAt_19 : decode cX0_dogsAt 19 = .ok (.iaload, 1) := by decide +kernel
theorem dX0_dogsAt_20 : decode cX0_dogsAt 20 = .ok (.iload_n 1, 1) := by decide +kernel
theorem dX0_dogsAt_21 : decode cX0_dogsAt 21 = .ok (.ishr, 1) := by decide +kernel
theorem dX0_dogsAt_22 : decode cX0_dogsAt 22 = .ok (.iconst 1, 1) := by decide +kernel
theorem dX0_dogsAt_23 : decode cX0_dogsAt 23 = .ok (.iand, 1) := by decide +kernel
theorem dX0_dogsAt_24 : decode cX0_dogsAt 24 = .ok (.iadd, 1) := by decide +kernel
theorem dX0_dogsAt_25 : decode cX0_dogsAt 25 = .ok (.istore_n 2, 1) := by decide +kernel
theorem dX0_dogsAt_26 : decode cX0_dogsAt 26 = .ok (.iinc 3 1, 3) := by decide +kernel
theorem dX0_dogsAt_29 : decode cX0_dogsAt 29 = .ok (.goto (-25), 3) := by decide +kernel
theorem dX0_dogsAt_32 : decode cX0_dogsAt 32 = .ok (.iload_n 2, 1) := by decide +kernel
theorem dX0_dogsAt_33 : decode cX0_dogsAt 33 = .ok (.ireturn, 1) := by decide +kernel
set_option maxRecDepth 20000 in
theorem ggX0_rewardsAt_X7_hasBit : GoodIn wsX0_rewardsAt wsX7_hasBit := goodIn_r _ [5] (by decide +kernel) (by decide +kernel)
set_option maxRecDepth 20000 in
theorem gX0_rewardsAt_X7_hasBit_n141 : GoodIn wsX0_rewardsAt (wsX7_hasBit) := ggX0_rewardsAt_X7_hasBit
set_option maxRecDepth 20000 in
theorem ggX0_rewardsAt_X3_get : GoodIn wsX0_rewardsAt wsX3_get := goodIn_r _ [10, 11, 12, 13, 25, 26, 27, 28] (by decide +kernel) (by decide +kernel)
set_option maxRecDepth 20000 in
theorem gX0_rewardsAt_X3_get : GoodIn wsX0_rewardsAt (wsV RX0 112 RX3 yX3_get wsX3_get) := goodIn_app (goodIn_of _ (by decide +kernel)) ggX0_rewardsAt_X3_get
theorem dX0_rewardsAt_0 : decode cX0_rewardsAt 0 = .ok (.iconst 0, 1) := by decide +kernel
theorem dX0_rewardsAt_1 : decode cX0_rewardsAt 1 = .ok (.istore_n 2, 1) := by decide +kernel
theorem dX0_rewardsAt_2 : decode cX0_rewardsAt 2 = .ok (.iconst 0, 1) := by decide +kernel
theorem dX0_rewardsAt_3 : decode cX0_rewardsAt 3 = .ok (.istore_n 3, 1) := by decide +kernel
theorem dX0_rewardsAt_4 : decode cX0_rewardsAt 4 = .ok (.iload_n 3, 1) := by decide +kernel
theorem dX0_rewardsAt_5 : decode cX0_rewardsAt 5 = .ok (.aload_n 0, 1) := by decide +kernel
theorem dX0_rewardsAt_6 : decode cX0_rewardsAt 6 = .ok (.getfield 34, 3) := by decide +kernel
theorem dX0_rewardsAt_9 : decode cX0_rewardsAt 9 = .ok (.arraylength, 1) := by decide +kernel
theorem dX0_rewardsAt_10 : decode cX0_rewardsAt 10 = .ok (.if_icmp .ge 38, 3) := by decide +kernel
theorem dX0_rewardsAt_13 : decode cX0_rewardsAt 13 = .ok (.iload_n 2, 1) := by decide +kernel
theorem dX0_rewardsAt_14 : decode cX0_rewardsAt 14 = .ok (.aload_n 0, 1) := by decide +kernel
theorem dX0_rewardsAt_15 : decode cX0_rewardsAt 15 = .ok (.getfield 34, 3) := by decide +kernel
theorem dX0_rewardsAt_18 : decode cX0_rewardsAt 18 = .ok (.iload_n 3, 1) := by decide +kernel
theorem dX0_rewardsAt_19 : decode cX0_rewardsAt 19 = .ok (.iaload, 1) := by decide +kernel
theorem dX0_rewardsAt_20 : decode cX0_rewardsAt 20 = .ok (.iload_n 1, 1) := by decide +kernel
theorem dX0_rewardsAt_21 : decode cX0_rewardsAt 21 = .ok (.invokestatic 141, 3) := by decide +kernel
theorem dX0_rewardsAt_24 : decode cX0_rewardsAt 24 = .ok (.ifCond .eq 15, 3) := by decide +kernel
theorem dX0_rewardsAt_27 : decode cX0_rewardsAt 27 = .ok (.aload_n 0, 1) := by decide +kernel
theorem dX0_rewardsAt_28 : decode cX0_rewardsAt 28 = .ok (.getfield 23, 3) := by decide +kernel
theorem dX0_rewardsAt_31 : decode cX0_rewardsAt 31 = .ok (.iload_n 3, 1) := by decide +kernel
theorem dX0_rewardsAt_32 : decode cX0_rewardsAt 32 = .ok (.iconst 4, 1) := by decide +kernel
theorem dX0_rewardsAt_33 : decode cX0_rewardsAt 33 = .ok (.invokevirtual 112, 3) := by decide +kernel
theorem dX0_rewardsAt_36 : decode cX0_rewardsAt 36 = .ok (.goto 4, 3) := by decide +kernel
theorem dX0_rewardsAt_39 : decode cX0_rewardsAt 39 = .ok (.iconst 0, 1) := by decide +kernel
theorem dX0_rewardsAt_40 : decode cX0_rewardsAt 40 = .ok (.iadd, 1) := by decide +kernel
theorem dX0_rewardsAt_41 : decode cX0_rewardsAt 41 = .ok (.istore_n 2, 1) := by decide +kernel
theorem dX0_rewardsAt_42 : decode cX0_rewardsAt 42 = .ok (.iinc 3 1, 3) := by decide +kernel
theorem dX0_rewardsAt_45 : decode cX0_rewardsAt 45 = .ok (.goto (-41), 3) := by decide +kernel
theorem dX0_rewardsAt_48 : decode cX0_rewardsAt 48 = .ok (.iload_n 2, 1) := by decide +kernel
theorem dX0_rewardsAt_49 : decode cX0_rewardsAt 49 = .ok (.ireturn, 1) := by decide +kernel
set_option maxRecDepth 20000 in
theorem ggX0_faultOfLosing_X7_isCorner : GoodIn wsX0_faultOfLosing wsX7_isCorner := goodIn_r _ [4, 5, 6, 3, 7] (by decide +kernel) (by decide +kernel)
set_option maxRecDepth 20000 in
theorem gX0_faultOfLosing_X7_isCorner_n166 : GoodIn wsX0_faultOfLosing (wsX7_isCorner) := ggX0_faultOfLosing_X7_isCorner
set_option maxRecDepth 20000 in
theorem ggX0_faultOfLosing_X7_isIn : GoodIn wsX0_faultOfLosing wsX7_isIn := goodIn_r _ [7] (by decide +kernel) (by decide +kernel)
set_option maxRecDepth 20000 in
theorem gX0_faultOfLosing_X7_isIn_n169 : GoodIn wsX0_faultOfLosing (wsX7_isIn) := ggX0_faultOfLosing_X7_isIn
set_option maxRecDepth 20000 in
theorem ggX0_faultOfLosing_X3_isFull : GoodIn wsX0_faultOfLosing wsX3_isFull := goodIn_r _ [12, 13, 14, 26, 27, 28, 29] (by decide +kernel) (by decide +kernel)
set_option maxRecDepth 20000 in
theorem gX0_faultOfLosing_X3_isFull : GoodIn wsX0_faultOfLosing (wsV RX0 172 RX3 yX3_isFull wsX3_isFull) := goodIn_app (goodIn_of _ (by decide +kernel)) ggX0_faultOfLosing_X3_isFull
theorem dX0_faultOfLosing_0 : decode cX0_faultOfLosing 0 = .ok (.iload_n 3, 1) := by decide +kernel
theorem dX0_faultOfLosing_1 : decode cX0_faultOfLosing 1 = .ok (.invokestatic 166, 3) := by decide +kernel
theorem dX0_faultOfLosing_4 : decode cX0_faultOfLosing 4 = .ok (.ifCond .ne 5, 3) := by decide +kernel
theorem dX0_faultOfLosing_7 : decode cX0_faultOfLosing 7 = .ok (.iconst 1, 1) := by decide +kernel
theorem dX0_faultOfLosing_8 : decode cX0_faultOfLosing 8 = .ok (.ireturn, 1) := by decide +kernel
theorem dX0_faultOfLosing_9 : decode cX0_faultOfLosing 9 = .ok (.iload_n 1, 1) := by decide +kernel
theorem dX0_faultOfLosing_10 : decode cX0_faultOfLosing 10 = .ok (.iconst 1, 1) := by decide +kernel
theorem dX0_faultOfLosing_11 : decode cX0_faultOfLosing 11 = .ok (.sipush 255, 3) := by decide +kernel
theorem dX0_faultOfLosing_14 : decode cX0_faultOfLosing 14 = .ok (.invokestatic 169, 3) := by decide +kernel
theorem dX0_faultOfLosing_17 : decode cX0_faultOfLosing 17 = .ok (.ifCond .eq 24, 3) := by decide +kernel
theorem dX0_faultOfLosing_20 : decode cX0_faultOfLosing 20 = .ok (.iload_n 2, 1) := by decide +kernel
theorem dX0_faultOfLosing_21 : decode cX0_faultOfLosing 21 = .ok (.iconst 1, 1) := by decide +kernel
theorem dX0_faultOfLosing_22 : decode cX0_faultOfLosing 22 = .ok (.iconst 3, 1) := by decide +kernel
theorem dX0_faultOfLosing_23 : decode cX0_faultOfLosing 23 = .ok (.invokestatic 169, 3) := by decide +kernel
theorem dX0_faultOfLosing_26 : decode cX0_faultOfLosing 26 = .ok (.ifCond .eq 15, 3) := by decide +kernel
theorem dX0_faultOfLosing_29 : decode cX0_faultOfLosing 29 = .ok (.iload 4, 2) := by decide +kernel
theorem dX0_faultOfLosing_31 : decode cX0_faultOfLosing 31 = .ok (.iconst 1, 1) := by decide +kernel
theorem dX0_faultOfLosing_32 : decode cX0_faultOfLosing 32 = .ok (.sipush 500, 3) := by decide +kernel
theorem dX0_faultOfLosing_35 : decode cX0_faultOfLosing 35 = .ok (.invokestatic 169, 3) := by decide +kernel
theorem dX0_faultOfLosing_38 : decode cX0_faultOfLosing 38 = .ok (.ifCond .ne 5, 3) := by decide +kernel
theorem dX0_faultOfLosing_41 : decode cX0_faultOfLosing 41 = .ok (.iconst 2, 1) := by decide +kernel
theorem dX0_faultOfLosing_42 : decode cX0_faultOfLosing 42 = .ok (.ireturn, 1) := by decide +kernel
theorem dX0_faultOfLosing_43 : decode cX0_faultOfLosing 43 = .ok (.aload_n 0, 1) := by decide +kernel
theorem dX0_faultOfLosing_44 : decode cX0_faultOfLosing 44 = .ok (.getfield 23, 3) := by decide +kernel
theorem dX0_faultOfLosing_47 : decode cX0_faultOfLosing 47 = .ok (.invokevirtual 172, 3) := by decide +kernel
theorem dX0_faultOfLosing_50 : decode cX0_faultOfLosing 50 = .ok (.ifCond .eq 7, 3) := by decide +kernel
theorem dX0_faultOfLosing_53 : decode cX0_faultOfLosing 53 = .ok (.iconst 3, 1) := by decide +kernel
theorem dX0_faultOfLosing_54 : decode cX0_faultOfLosing 54 = .ok (.goto 4, 3) := by decide +kernel
theorem dX0_faultOfLosing_57 : decode cX0_faultOfLosing 57 = .ok (.iconst 0, 1) := by decide +kernel
theorem dX0_faultOfLosing_58 : decode cX0_faultOfLosing 58 = .ok (.ireturn, 1) := by decide +kernel
set_option maxRecDepth 20000 in
theorem ggX0_loseDog_X0_faultOfLosing : GoodIn wsX0_loseDog wsX0_faultOfLosing := goodIn_r _ [8, 1, 9, 10, 11, 12, 13, 14, 15, 16, 17, 18, 19, 20, 21, 34, 35, 36, 37, 38, 39, 40, 41, 42, 43, 44, 45, 46, 47, 48] (by decide +kernel) (by decide +kernel)
set_option maxRecDepth 20000 in
theorem gX0_loseDog_X0_faultOfLosing : GoodIn wsX0_loseDog (wsV RX0 176 RX0 yX0_faultOfLosing wsX0_faultOfLosing) := goodIn_app (goodIn_of _ (by decide +kernel)) ggX0_loseDog_X0_faultOfLosing
set_option maxRecDepth 20000 in
theorem ggX0_loseDog_X3_addRow : GoodIn wsX0_loseDog wsX3_addRow := goodIn_r _ [25, 20, 26, 27, 16, 17, 18, 19, 21, 28, 29, 30, 31, 32, 45, 46, 47, 48] (by decide +kernel) (by decide +kernel)
set_option maxRecDepth 20000 in
theorem gX0_loseDog_X3_addRow : GoodIn wsX0_loseDog (wsV RX0 180 RX3 yX3_addRow wsX3_addRow) := goodIn_app (goodIn_of _ (by decide +kernel)) ggX0_loseDog_X3_addRow
set_option maxRecDepth 20000 in
theorem ggX0_loseDog_X3_put : GoodIn wsX0_loseDog wsX3_put := goodIn_r _ [31, 26, 20, 32, 45, 46, 47, 48] (by decide +kernel) (by decide +kernel)
set_option maxRecDepth 20000 in
theorem gX0_loseDog_X3_put : GoodIn wsX0_loseDog (wsV RX0 183 RX3 yX3_put wsX3_put) := goodIn_app (goodIn_of _ (by decide +kernel)) ggX0_loseDog_X3_put
theorem dX0_loseDog_0 : decode cX0_loseDog 0 = .ok (.aload_n 0, 1) := by decide +kernel
theorem dX0_loseDog_1 : decode cX0_loseDog 1 = .ok (.iload_n 1, 1) := by decide +kernel
theorem dX0_loseDog_2 : decode cX0_loseDog 2 = .ok (.iload_n 2, 1) := by decide +kernel
theorem dX0_loseDog_3 : decode cX0_loseDog 3 = .ok (.iload_n 3, 1) := by decide +kernel
theorem dX0_loseDog_4 : decode cX0_loseDog 4 = .ok (.iload 4, 2) := by decide +kernel
theorem dX0_loseDog_6 : decode cX0_loseDog 6 = .ok (.invokevirtual 176, 3) := by decide +kernel
theorem dX0_loseDog_9 : decode cX0_loseDog 9 = .ok (.ifCond .eq 6, 3) := by decide +kernel
theorem dX0_loseDog_12 : decode cX0_loseDog 12 = .ok (.bipush (-2), 2) := by decide +kernel
theorem dX0_loseDog_14 : decode cX0_loseDog 14 = .ok (.ireturn, 1) := by decide +kernel
theorem dX0_loseDog_15 : decode cX0_loseDog 15 = .ok (.aload_n 0, 1) := by decide +kernel
theorem dX0_loseDog_16 : decode cX0_loseDog 16 = .ok (.getfield 23, 3) := by decide +kernel
theorem dX0_loseDog_19 : decode cX0_loseDog 19 = .ok (.invokevirtual 180, 3) := by decide +kernel
theorem dX0_loseDog_22 : decode cX0_loseDog 22 = .ok (.istore 5, 2) := by decide +kernel
theorem dX0_loseDog_24 : decode cX0_loseDog 24 = .ok (.aload_n 0, 1) := by decide +kernel
theorem dX0_loseDog_25 : decode cX0_loseDog 25 = .ok (.getfield 23, 3) := by decide +kernel
theorem dX0_loseDog_28 : decode cX0_loseDog 28 = .ok (.iload 5, 2) := by decide +kernel
theorem dX0_loseDog_30 : decode cX0_loseDog 30 = .ok (.iconst 0, 1) := by decide +kernel
theorem dX0_loseDog_31 : decode cX0_loseDog 31 = .ok (.iload_n 1, 1) := by decide +kernel
theorem dX0_loseDog_32 : decode cX0_loseDog 32 = .ok (.invokevirtual 183, 3) := by decide +kernel
theorem dX0_loseDog_35 : decode cX0_loseDog 35 = .ok (.aload_n 0, 1) := by decide +kernel
theorem dX0_loseDog_36 : decode cX0_loseDog 36 = .ok (.getfield 23, 3) := by decide +kernel
theorem dX0_loseDog_39 : decode cX0_loseDog 39 = .ok (.iload 5, 2) := by decide +kernel
theorem dX0_loseDog_41 : decode cX0_loseDog 41 = .ok (.iconst 1, 1) := by decide +kernel
theorem dX0_loseDog_42 : decode cX0_loseDog 42 = .ok (.iload_n 2, 1) := by decide +kernel
theorem dX0_loseDog_43 : decode cX0_loseDog 43 = .ok (.invokevirtual 183, 3) := by decide +kernel
theorem dX0_loseDog_46 : decode cX0_loseDog 46 = .ok (.aload_n 0, 1) := by decide +kernel
theorem dX0_loseDog_47 : decode cX0_loseDog 47 = .ok (.getfield 23, 3) := by decide +kernel
theorem dX0_loseDog_50 : decode cX0_loseDog 50 = .ok (.iload 5, 2) := by decide +kernel
theorem dX0_loseDog_52 : decode cX0_loseDog 52 = .ok (.iconst 2, 1) := by decide +kernel
theorem dX0_loseDog_53 : decode cX0_loseDog 53 = .ok (.iload_n 3, 1) := by decide +kernel
theorem dX0_loseDog_54 : decode cX0_loseDog 54 = .ok (.invokevirtual 183, 3) := by decide +kernel
theorem dX0_loseDog_57 : decode cX0_loseDog 57 = .ok (.aload_n 0, 1) := by decide +kernel
theorem dX0_loseDog_58 : decode cX0_loseDog 58 = .ok (.getfield 23, 3) := by decide +kernel
theorem dX0_loseDog_61 : decode cX0_loseDog 61 = .ok (.iload 5, 2) := by decide +kernel
theorem dX0_loseDog_63 : decode cX0_loseDog 63 = .ok (.iconst 3, 1) := by decide +kernel
theorem dX0_loseDog_64 : decode cX0_loseDog 64 = .ok (.aload_n 0, 1) := by decide +kernel
theorem dX0_loseDog_65 : decode cX0_loseDog 65 = .ok (.getfield 49, 3) := by decide +kernel
theorem dX0_loseDog_68 : decode cX0_loseDog 68 = .ok (.invokevirtual 183, 3) := by decide +kernel
theorem dX0_loseDog_71 : decode cX0_loseDog 71 = .ok (.aload_n 0, 1) := by decide +kernel
theorem dX0_loseDog_72 : decode cX0_loseDog 72 = .ok (.getfield 23, 3) := by decide +kernel
theorem dX0_loseDog_75 : decode cX0_loseDog 75 = .ok (.iload 5, 2) := by decide +kernel
theorem dX0_loseDog_77 : decode cX0_loseDog 77 = .ok (.iconst 4, 1) := by decide +kernel
theorem dX0_loseDog_78 : decode cX0_loseDog 78 = .ok (.iload 4, 2) := by decide +kernel
theorem dX0_loseDog_80 : decode cX0_loseDog 80 = .ok (.invokevirtual 183, 3) := by decide +kernel
theorem dX0_loseDog_83 : decode cX0_loseDog 83 = .ok (.aload_n 0, 1) := by decide +kernel
theorem dX0_loseDog_84 : decode cX0_loseDog 84 = .ok (.getfield 23, 3) := by decide +kernel
theorem dX0_loseDog_87 : decode cX0_loseDog 87 = .ok (.iload 5, 2) := by decide +kernel
theorem dX0_loseDog_89 : decode cX0_loseDog 89 = .ok (.iconst 5, 1) := by decide +kernel
theorem dX0_loseDog_90 : decode cX0_loseDog 90 = .ok (.iconst 1, 1) := by decide +kernel
theorem dX0_loseDog_91 : decode cX0_loseDog 91 = .ok (.invokevirtual 183, 3) := by decide +kernel
theorem dX0_loseDog_94 : decode cX0_loseDog 94 = .ok (.aload_n 0, 1) := by decide +kernel
theorem dX0_loseDog_95 : decode cX0_loseDog 95 = .ok (.getfield 23, 3) := by decide +kernel
theorem dX0_loseDog_98 : decode cX0_loseDog 98 = .ok (.iload 5, 2) := by decide +kernel
theorem dX0_loseDog_100 : decode cX0_loseDog 100 = .ok (.bipush 6, 2) := by decide +kernel
theorem dX0_loseDog_102 : decode cX0_loseDog 102 = .ok (.iconst (-1), 1) := by decide +kernel
theorem dX0_loseDog_103 : decode cX0_loseDog 103 = .ok (.invokevirtual 183, 3) := by decide +kernel
theorem dX0_loseDog_106 : decode cX0_loseDog 106 = .ok (.aload_n 0, 1) := by decide +kernel
theorem dX0_loseDog_107 : decode cX0_loseDog 107 = .ok (.getfield 23, 3) := by decide +kernel
theorem dX0_loseDog_110 : decode cX0_loseDog 110 = .ok (.iload 5, 2) := by decide +kernel
theorem dX0_loseDog_112 : decode cX0_loseDog 112 = .ok (.bipush 7, 2) := by decide +kernel
theorem dX0_loseDog_114 : decode cX0_loseDog 114 = .ok (.iconst (-1), 1) := by decide +kernel
theorem dX0_loseDog_115 : decode cX0_loseDog 115 = .ok (.invokevirtual 183, 3) := by decide +kernel
theorem dX0_loseDog_118 : decode cX0_loseDog 118 = .ok (.aload_n 0, 1) := by decide +kernel
theorem dX0_loseDog_119 : decode cX0_loseDog 119 = .ok (.getfield 23, 3) := by decide +kernel
theorem dX0_loseDog_122 : decode cX0_loseDog 122 = .ok (.iload 5, 2) := by decide +kernel
theorem dX0_loseDog_124 : decode cX0_loseDog 124 = .ok (.bipush 8, 2) := by decide +kernel
theorem dX0_loseDog_126 : decode cX0_loseDog 126 = .ok (.iconst (-1), 1) := by decide +kernel
theorem dX0_loseDog_127 : decode cX0_loseDog 127 = .ok (.invokevirtual 183, 3) := by decide +kernel
theorem dX0_loseDog_130 : decode cX0_loseDog 130 = .ok (.aload_n 0, 1) := by decide +kernel
theorem dX0_loseDog_131 : decode cX0_loseDog 131 = .ok (.dup, 1) := by decide +kernel
theorem dX0_loseDog_132 : decode cX0_loseDog 132 = .ok (.getfield 53, 3) := by decide +kernel
theorem dX0_loseDog_135 : decode cX0_loseDog 135 = .ok (.iload 4, 2) := by decide +kernel
theorem dX0_loseDog_137 : decode cX0_loseDog 137 = .ok (.iadd, 1) := by decide +kernel
theorem dX0_loseDog_138 : decode cX0_loseDog 138 = .ok (.putfield 53, 3) := by decide +kernel
theorem dX0_loseDog_141 : decode cX0_loseDog 141 = .ok (.iload 5, 2) := by decide +kernel
theorem dX0_loseDog_143 : decode cX0_loseDog 143 = .ok (.ireturn, 1) := by decide +kernel
set_option maxRecDepth 20000 in
theorem ggX0_faultOfTelling_X7_isFinder : GoodIn wsX0_faultOfTelling wsX7_isFinder := goodIn_r _ [5, 6, 7, 4, 8] (by decide +kernel) (by decide +kernel)
set_option maxRecDepth 20000 in
theorem gX0_faultOfTelling_X7_isFinder_n187 : GoodIn wsX0_faultOfTelling (wsX7_isFinder) := ggX0_faultOfTelling_X7_isFinder
set_option maxRecDepth 20000 in
theorem ggX0_faultOfTelling_X7_isCorner : GoodIn wsX0_faultOfTelling wsX7_isCorner := goodIn_r _ [10, 6, 7, 4, 8] (by decide +kernel) (by decide +kernel)
set_option maxRecDepth 20000 in
theorem gX0_faultOfTelling_X7_isCorner_n166 : GoodIn wsX0_faultOfTelling (wsX7_isCorner) := ggX0_faultOfTelling_X7_isCorner
set_option maxRecDepth 20000 in
theorem ggX0_faultOfTelling_X7_isIn : GoodIn wsX0_faultOfTelling wsX7_isIn := goodIn_r _ [8] (by decide +kernel) (by decide +kernel)
set_option maxRecDepth 20000 in
theorem gX0_faultOfTelling_X7_isIn_n169 : GoodIn wsX0_faultOfTelling (wsX7_isIn) := ggX0_faultOfTelling_X7_isIn
set_option maxRecDepth 20000 in
theorem ggX0_faultOfTelling_X3_isFull : GoodIn wsX0_faultOfTelling wsX3_isFull := goodIn_r _ [15, 16, 17, 29, 30, 31, 32] (by decide +kernel) (by decide +kernel)
set_option maxRecDepth 20000 in
theorem gX0_faultOfTelling_X3_isFull : GoodIn wsX0_faultOfTelling (wsV RX0 172 RX3 yX3_isFull wsX3_isFull) := goodIn_app (goodIn_of _ (by decide +kernel)) ggX0_faultOfTelling_X3_isFull
theorem dX0_faultOfTelling_0 : decode cX0_faultOfTelling 0 = .ok (.iload_n 1, 1) := by decide +kernel
theorem dX0_faultOfTelling_1 : decode cX0_faultOfTelling 1 = .ok (.invokestatic 187, 3) := by decide +kernel
theorem dX0_faultOfTelling_4 : decode cX0_faultOfTelling 4 = .ok (.ifCond .eq 10, 3) := by decide +kernel
theorem dX0_faultOfTelling_7 : decode cX0_faultOfTelling 7 = .ok (.iload_n 2, 1) := by decide +kernel
theorem dX0_faultOfTelling_8 : decode cX0_faultOfTelling 8 = .ok (.invokestatic 166, 3) := by decide +kernel
theorem dX0_faultOfTelling_11 : decode cX0_faultOfTelling 11 = .ok (.ifCond .ne 5, 3) := by decide +kernel
theorem dX0_faultOfTelling_14 : decode cX0_faultOfTelling 14 = .ok (.iconst 1, 1) := by decide +kernel
theorem dX0_faultOfTelling_15 : decode cX0_faultOfTelling 15 = .ok (.ireturn, 1) := by decide +kernel
theorem dX0_faultOfTelling_16 : decode cX0_faultOfTelling 16 = .ok (.iload_n 3, 1) := by decide +kernel
theorem dX0_faultOfTelling_17 : decode cX0_faultOfTelling 17 = .ok (.iconst 0, 1) := by decide +kernel
theorem dX0_faultOfTelling_18 : decode cX0_faultOfTelling 18 = .ok (.sipush 255, 3) := by decide +kernel
theorem dX0_faultOfTelling_21 : decode cX0_faultOfTelling 21 = .ok (.invokestatic 169, 3) := by decide +kernel
theorem dX0_faultOfTelling_24 : decode cX0_faultOfTelling 24 = .ok (.ifCond .eq 23, 3) := by decide +kernel
theorem dX0_faultOfTelling_27 : decode cX0_faultOfTelling 27 = .ok (.iload 4, 2) := by decide +kernel
theorem dX0_faultOfTelling_29 : decode cX0_faultOfTelling 29 = .ok (.iconst 0, 1) := by decide +kernel
theorem dX0_faultOfTelling_30 : decode cX0_faultOfTelling 30 = .ok (.bipush 99, 2) := by decide +kernel
theorem dX0_faultOfTelling_32 : decode cX0_faultOfTelling 32 = .ok (.invokestatic 169, 3) := by decide +kernel
theorem dX0_faultOfTelling_35 : decode cX0_faultOfTelling 35 = .ok (.ifCond .eq 12, 3) := by decide +kernel
theorem dX0_faultOfTelling_38 : decode cX0_faultOfTelling 38 = .ok (.iload 4, 2) := by decide +kernel
theorem dX0_faultOfTelling_40 : decode cX0_faultOfTelling 40 = .ok (.aload_n 0, 1) := by decide +kernel
theorem dX0_faultOfTelling_41 : decode cX0_faultOfTelling 41 = .ok (.getfield 49, 3) := by decide +kernel
theorem dX0_faultOfTelling_44 : decode cX0_faultOfTelling 44 = .ok (.if_icmp .le 5, 3) := by decide +kernel
theorem dX0_faultOfTelling_47 : decode cX0_faultOfTelling 47 = .ok (.iconst 2, 1) := by decide +kernel
theorem dX0_faultOfTelling_48 : decode cX0_faultOfTelling 48 = .ok (.ireturn, 1) := by decide +kernel
theorem dX0_faultOfTelling_49 : decode cX0_faultOfTelling 49 = .ok (.aload_n 0, 1) := by decide +kernel
theorem dX0_faultOfTelling_50 : decode cX0_faultOfTelling 50 = .ok (.getfield 27, 3) := by decide +kernel
theorem dX0_faultOfTelling_53 : decode cX0_faultOfTelling 53 = .ok (.invokevirtual 172, 3) := by decide +kernel
theorem dX0_faultOfTelling_56 : decode cX0_faultOfTelling 56 = .ok (.ifCond .eq 7, 3) := by decide +kernel
theorem dX0_faultOfTelling_59 : decode cX0_faultOfTelling 59 = .ok (.iconst 3, 1) := by decide +kernel
theorem dX0_faultOfTelling_60 : decode cX0_faultOfTelling 60 = .ok (.goto 4, 3) := by decide +kernel
theorem dX0_faultOfTelling_63 : decode cX0_faultOfTelling 63 = .ok (.iconst 0, 1) := by decide +kernel
theorem dX0_faultOfTelling_64 : decode cX0_faultOfTelling 64 = .ok (.ireturn, 1) := by decide +kernel
set_option maxRecDepth 20000 in
theorem ggX0_tellSighting_X0_faultOfTelling : GoodIn wsX0_tellSighting wsX0_faultOfTelling := goodIn_r _ [7, 1, 2, 8, 9, 10, 11, 12, 13, 14, 15, 16, 17, 18, 19, 20, 21, 22, 68, 69, 70, 71, 72, 73, 74, 75, 76, 77, 78, 79, 80, 81, 82] (by decide +kernel) (by decide +kernel)
set_option maxRecDepth 20000 in
theorem gX0_tellSighting_X0_faultOfTelling : GoodIn wsX0_tellSighting (wsV RX0 190 RX0 yX0_faultOfTelling wsX0_faultOfTelling) := goodIn_app (goodIn_of _ (by decide +kernel)) ggX0_tellSighting_X0_faultOfTelling
set_option maxRecDepth 20000 in
theorem ggX0_tellSighting_X0_dogMeantBy : GoodIn wsX0_tellSighting wsX0_dogMeantBy := goodIn_r _ [26, 27, 28, 29, 30, 31, 19, 32, 21, 33, 34, 35, 6, 36, 37, 38, 39, 40, 41, 42, 43, 44, 45, 46, 47, 48, 49, 50, 51, 52, 53, 54, 55, 56, 57, 68, 69, 70, 71, 72, 73, 74, 75, 76, 77, 78, 79, 80, 81, 82] (by decide +kernel) (by decide +kernel)
set_option maxRecDepth 20000 in
theorem gX0_tellSighting_X0_dogMeantBy : GoodIn wsX0_tellSighting (wsV RX0 193 RX0 yX0_dogMeantBy wsX0_dogMeantBy) := goodIn_app (goodIn_of _ (by decide +kernel)) ggX0_tellSighting_X0_dogMeantBy
set_option maxRecDepth 20000 in
theorem ggX0_tellSighting_X3_addRow : GoodIn wsX0_tellSighting wsX3_addRow := goodIn_r _ [61, 21, 41, 62, 17, 18, 19, 20, 22, 63, 64, 65, 66, 42, 79, 80, 81, 82] (by decide +kernel) (by decide +kernel)
set_option maxRecDepth 20000 in
theorem gX0_tellSighting_X3_addRow : GoodIn wsX0_tellSighting (wsV RX0 180 RX3 yX3_addRow wsX3_addRow) := goodIn_app (goodIn_of _ (by decide +kernel)) ggX0_tellSighting_X3_addRow
set_option maxRecDepth 20000 in
theorem ggX0_tellSighting_X3_put : GoodIn wsX0_tellSighting wsX3_put := goodIn_r _ [66, 41, 21, 42, 79, 80, 81, 82] (by decide +kernel) (by decide +kernel)
set_option maxRecDepth 20000 in
theorem gX0_tellSighting_X3_put : GoodIn wsX0_tellSighting (wsV RX0 183 RX3 yX3_put wsX3_put) := goodIn_app (goodIn_of _ (by decide +kernel)) ggX0_tellSighting_X3_put
theorem dX0_tellSighting_0 : decode cX0_tellSighting 0 = .ok (.aload_n 0, 1) := by decide +kernel
theorem dX0_tellSighting_1 : decode cX0_tellSighting 1 = .ok (.iload_n 1, 1) := by decide +kernel
theorem dX0_tellSighting_2 : decode cX0_tellSighting 2 = .ok (.iload_n 2, 1) := by decide +kernel
theorem dX0_tellSighting_3 : decode cX0_tellSighting 3 = .ok (.iload_n 3, 1) := by decide +kernel
theorem dX0_tellSighting_4 : decode cX0_tellSighting 4 = .ok (.iload 4, 2) := by decide +kernel
theorem dX0_tellSighting_6 : decode cX0_tellSighting 6 = .ok (.invokevirtual 190, 3) := by decide +kernel
theorem dX0_tellSighting_9 : decode cX0_tellSighting 9 = .ok (.ifCond .eq 6, 3) := by decide +kernel
theorem dX0_tellSighting_12 : decode cX0_tellSighting 12 = .ok (.bipush (-2), 2) := by decide +kernel
theorem dX0_tellSighting_14 : decode cX0_tellSighting 14 = .ok (.ireturn, 1) := by decide +kernel
theorem dX0_tellSighting_15 : decode cX0_tellSighting 15 = .ok (.aload_n 0, 1) := by decide +kernel
theorem dX0_tellSighting_16 : decode cX0_tellSighting 16 = .ok (.iload_n 3, 1) := by decide +kernel
theorem dX0_tellSighting_17 : decode cX0_tellSighting 17 = .ok (.aload_n 0, 1) := by decide +kernel
theorem dX0_tellSighting_18 : decode cX0_tellSighting 18 = .ok (.getfield 49, 3) := by decide +kernel
theorem dX0_tellSighting_21 : decode cX0_tellSighting 21 = .ok (.iload 4, 2) := by decide +kernel
theorem dX0_tellSighting_23 : decode cX0_tellSighting 23 = .ok (.isub, 1) := by decide +kernel
theorem dX0_tellSighting_24 : decode cX0_tellSighting 24 = .ok (.invokevirtual 193, 3) := by decide +kernel
theorem dX0_tellSighting_27 : decode cX0_tellSighting 27 = .ok (.istore 6, 2) := by decide +kernel
theorem dX0_tellSighting_29 : decode cX0_tellSighting 29 = .ok (.aload_n 0, 1) := by decide +kernel
theorem dX0_tellSighting_30 : decode cX0_tellSighting 30 = .ok (.getfield 27, 3) := by decide +kernel
theorem dX0_tellSighting_33 : decode cX0_tellSighting 33 = .ok (.invokevirtual 180, 3) := by decide +kernel
theorem dX0_tellSighting_36 : decode cX0_tellSighting 36 = .ok (.istore 7, 2) := by decide +kernel
theorem dX0_tellSighting_38 : decode cX0_tellSighting 38 = .ok (.aload_n 0, 1) := by decide +kernel
theorem dX0_tellSighting_39 : decode cX0_tellSighting 39 = .ok (.getfield 27, 3) := by decide +kernel
theorem dX0_tellSighting_42 : decode cX0_tellSighting 42 = .ok (.iload 7, 2) := by decide +kernel
theorem dX0_tellSighting_44 : decode cX0_tellSighting 44 = .ok (.iconst 0, 1) := by decide +kernel
theorem dX0_tellSighting_45 : decode cX0_tellSighting 45 = .ok (.iload_n 1, 1) := by decide +kernel
theorem dX0_tellSighting_46 : decode cX0_tellSighting 46 = .ok (.invokevirtual 183, 3) := by decide +kernel
theorem dX0_tellSighting_49 : decode cX0_tellSighting 49 = .ok (.aload_n 0, 1) := by decide +kernel
theorem dX0_tellSighting_50 : decode cX0_tellSighting 50 = .ok (.getfield 27, 3) := by decide +kernel
theorem dX0_tellSighting_53 : decode cX0_tellSighting 53 = .ok (.iload 7, 2) := by decide +kernel
theorem dX0_tellSighting_55 : decode cX0_tellSighting 55 = .ok (.iconst 1, 1) := by decide +kernel
theorem dX0_tellSighting_56 : decode cX0_tellSighting 56 = .ok (.iload_n 2, 1) := by decide +kernel
theorem dX0_tellSighting_57 : decode cX0_tellSighting 57 = .ok (.invokevirtual 183, 3) := by decide +kernel
theorem dX0_tellSighting_60 : decode cX0_tellSighting 60 = .ok (.aload_n 0, 1) := by decide +kernel
theorem dX0_tellSighting_61 : decode cX0_tellSighting 61 = .ok (.getfield 27, 3) := by decide +kernel
theorem dX0_tellSighting_64 : decode cX0_tellSighting 64 = .ok (.iload 7, 2) := by decide +kernel
theorem dX0_tellSighting_66 : decode cX0_tellSighting 66 = .ok (.iconst 2, 1) := by decide +kernel
theorem dX0_tellSighting_67 : decode cX0_tellSighting 67 = .ok (.aload_n 0, 1) := by decide +kernel
theorem dX0_tellSighting_68 : decode cX0_tellSighting 68 = .ok (.getfield 49, 3) := by decide +kernel
theorem dX0_tellSighting_71 : decode cX0_tellSighting 71 = .ok (.iload 4, 2) := by decide +kernel
theorem dX0_tellSighting_73 : decode cX0_tellSighting 73 = .ok (.isub, 1) := by decide +kernel
theorem dX0_tellSighting_74 : decode cX0_tellSighting 74 = .ok (.invokevirtual 183, 3) := by decide +kernel
theorem dX0_tellSighting_77 : decode cX0_tellSighting 77 = .ok (.aload_n 0, 1) := by decide +kernel
theorem dX0_tellSighting_78 : decode cX0_tellSighting 78 = .ok (.getfield 27, 3) := by decide +kernel
theorem dX0_tellSighting_81 : decode cX0_tellSighting 81 = .ok (.iload 7, 2) := by decide +kernel
theorem dX0_tellSighting_83 : decode cX0_tellSighting 83 = .ok (.iconst 3, 1) := by decide +kernel
theorem dX0_tellSighting_84 : decode cX0_tellSighting 84 = .ok (.iload_n 3, 1) := by decide +kernel
theorem dX0_tellSighting_85 : decode cX0_tellSighting 85 = .ok (.invokevirtual 183, 3) := by decide +kernel
theorem dX0_tellSighting_88 : decode cX0_tellSighting 88 = .ok (.aload_n 0, 1) := by decide +kernel
theorem dX0_tellSighting_89 : decode cX0_tellSighting 89 = .ok (.getfield 27, 3) := by decide +kernel
theorem dX0_tellSighting_92 : decode cX0_tellSighting 92 = .ok (.iload 7, 2) := by decide +kernel
theorem dX0_tellSighting_94 : decode cX0_tellSighting 94 = .ok (.iconst 4, 1) := by decide +kernel
theorem dX0_tellSighting_95 : decode cX0_tellSighting 95 = .ok (.iload 5, 2) := by decide +kernel
theorem dX0_tellSighting_97 : decode cX0_tellSighting 97 = .ok (.ifCond .eq 7, 3) := by decide +kernel
theorem dX0_tellSighting_100 : decode cX0_tellSighting 100 = .ok (.iconst 1, 1) := by decide +kernel
theorem dX0_tellSighting_101 : decode cX0_tellSighting 101 = .ok (.goto 4, 3) := by decide +kernel
theorem dX0_tellSighting_104 : decode cX0_tellSighting 104 = .ok (.iconst 0, 1) := by decide +kernel
theorem dX0_tellSighting_105 : decode cX0_tellSighting 105 = .ok (.invokevirtual 183, 3) := by decide +kernel
theorem dX0_tellSighting_108 : decode cX0_tellSighting 108 = .ok (.aload_n 0, 1) := by decide +kernel
theorem dX0_tellSighting_109 : decode cX0_tellSighting 109 = .ok (.getfield 27, 3) := by decide +kernel
theorem dX0_tellSighting_112 : decode cX0_tellSighting 112 = .ok (.iload 7, 2) := by decide +kernel
theorem dX0_tellSighting_114 : decode cX0_tellSighting 114 = .ok (.iconst 5, 1) := by decide +kernel
theorem dX0_tellSighting_115 : decode cX0_tellSighting 115 = .ok (.iload 6, 2) := by decide +kernel
theorem dX0_tellSighting_117 : decode cX0_tellSighting 117 = .ok (.invokevirtual 183, 3) := by decide +kernel
theorem dX0_tellSighting_120 : decode cX0_tellSighting 120 = .ok (.iload 6, 2) := by decide +kernel
theorem dX0_tellSighting_122 : decode cX0_tellSighting 122 = .ok (.ireturn, 1) := by decide +kernel
set_option maxRecDepth 20000 in
theorem ggX0_faultOfFinding_X7_isFinder : GoodIn wsX0_faultOfFinding wsX7_isFinder := goodIn_r _ [3, 4, 5, 2, 6] (by decide +kernel) (by decide +kernel)
set_option maxRecDepth 20000 in
theorem gX0_faultOfFinding_X7_isFinder_n187 : GoodIn wsX0_faultOfFinding (wsX7_isFinder) := ggX0_faultOfFinding_X7_isFinder
set_option maxRecDepth 20000 in
theorem ggX0_faultOfFinding_X7_isCorner : GoodIn wsX0_faultOfFinding wsX7_isCorner := goodIn_r _ [8, 4, 5, 2, 6] (by decide +kernel) (by decide +kernel)
set_option maxRecDepth 20000 in
theorem gX0_faultOfFinding_X7_isCorner_n166 : GoodIn wsX0_faultOfFinding (wsX7_isCorner) := ggX0_faultOfFinding_X7_isCorner
set_option maxRecDepth 20000 in
theorem ggX0_faultOfFinding_X0_faultOfAsking : GoodIn wsX0_faultOfFinding wsX0_faultOfAsking := goodIn_r _ [13, 14, 15, 16, 17, 18, 19, 20, 21, 22, 23, 12, 24, 25, 26, 27, 28, 29, 30, 31, 32, 33, 34, 35, 36, 37, 38, 39, 40, 41, 42, 43, 44, 45] (by decide +kernel) (by decide +kernel)
set_option maxRecDepth 20000 in
theorem gX0_faultOfFinding_X0_faultOfAsking : GoodIn wsX0_faultOfFinding (wsV RX0 196 RX0 yX0_faultOfAsking wsX0_faultOfAsking) := goodIn_app (goodIn_of _ (by decide +kernel)) ggX0_faultOfFinding_X0_faultOfAsking
theorem dX0_faultOfFinding_0 : decode cX0_faultOfFinding 0 = .ok (.iload_n 2, 1) := by decide +kernel
theorem dX0_faultOfFinding_1 : decode cX0_faultOfFinding 1 = .ok (.invokestatic 187, 3) := by decide +kernel
theorem dX0_faultOfFinding_4 : decode cX0_faultOfFinding 4 = .ok (.ifCond .eq 18, 3) := by decide +kernel
theorem dX0_faultOfFinding_7 : decode cX0_faultOfFinding 7 = .ok (.iload_n 3, 1) := by decide +kernel
theorem dX0_faultOfFinding_8 : decode cX0_faultOfFinding 8 = .ok (.invokestatic 166, 3) := by decide +kernel
theorem dX0_faultOfFinding_11 : decode cX0_faultOfFinding 11 = .ok (.ifCond .eq 11, 3) := by decide +kernel
theorem dX0_faultOfFinding_14 : decode cX0_faultOfFinding 14 = .ok (.aload_n 0, 1) := by decide +kernel
theorem dX0_faultOfFinding_15 : decode cX0_faultOfFinding 15 = .ok (.iload_n 1, 1) := by decide +kernel
theorem dX0_faultOfFinding_16 : decode cX0_faultOfFinding 16 = .ok (.invokevirtual 196, 3) := by decide +kernel
theorem dX0_faultOfFinding_19 : decode cX0_faultOfFinding 19 = .ok (.goto 4, 3) := by decide +kernel
theorem dX0_faultOfFinding_22 : decode cX0_faultOfFinding 22 = .ok (.iconst 1, 1) := by decide +kernel
theorem dX0_faultOfFinding_23 : decode cX0_faultOfFinding 23 = .ok (.ireturn, 1) := by decide +kernel
set_option maxRecDepth 20000 in
theorem ggX0_findDog_X0_faultOfFinding : GoodIn wsX0_findDog wsX0_faultOfFinding := goodIn_r _ [10, 11, 12, 13, 14, 15, 16, 17, 18, 19, 20, 21, 9, 22, 1, 23, 24, 25, 26, 27, 28, 29, 30, 31, 32, 33, 34, 35, 36, 37, 38, 93, 94, 95, 96, 97, 98, 99, 100, 101, 102, 103, 104, 105, 106, 107] (by decide +kernel) (by decide +kernel)
set_option maxRecDepth 20000 in
theorem gX0_findDog_X0_faultOfFinding : GoodIn wsX0_findDog (wsV RX0 199 RX0 yX0_faultOfFinding wsX0_faultOfFinding) := goodIn_app (goodIn_of _ (by decide +kernel)) ggX0_findDog_X0_faultOfFinding
set_option maxRecDepth 20000 in
theorem ggX0_findDog_X0_trueFor : GoodIn wsX0_findDog wsX0_trueFor := goodIn_r _ [42, 1, 29, 30, 31, 9, 32, 33, 34, 35, 26, 36, 37, 28, 38, 43, 44, 45, 46, 47, 48, 49, 50, 51, 52, 53, 54, 55, 56, 57, 58, 93, 94, 95, 96, 97, 98, 99, 100, 101, 102, 103, 104, 105, 106, 107, 108, 109, 110] (by decide +kernel) (by decide +kernel)
set_option maxRecDepth 20000 in
theorem gX0_findDog_X0_trueFor : GoodIn wsX0_findDog (wsV RX0 121 RX0 yX0_trueFor wsX0_trueFor) := goodIn_app (goodIn_of _ (by decide +kernel)) ggX0_findDog_X0_trueFor
set_option maxRecDepth 20000 in
theorem ggX0_findDog_X0_fraudsFor : GoodIn wsX0_findDog wsX0_fraudsFor := goodIn_r _ [62, 1, 47, 29, 30, 31, 9, 32, 33, 34, 35, 26, 36, 37, 28, 38, 43, 44, 45, 46, 48, 49, 50, 51, 52, 53, 54, 55, 56, 57, 58, 63, 64, 65, 66, 67, 12, 68, 69, 70, 71, 72, 73, 74, 75, 76, 93, 94, 95, 96, 97, 98, 99, 100, 101, 102, 103, 104, 105, 106, 107, 108, 109, 110] (by decide +kernel) (by decide +kernel)
set_option maxRecDepth 20000 in
theorem gX0_findDog_X0_fraudsFor : GoodIn wsX0_findDog (wsV RX0 124 RX0 yX0_fraudsFor wsX0_fraudsFor) := goodIn_app (goodIn_of _ (by decide +kernel)) ggX0_findDog_X0_fraudsFor
set_option maxRecDepth 20000 in
theorem ggX0_findDog_X0_sightingsMeaning : GoodIn wsX0_findDog wsX0_sightingsMeaning := goodIn_r _ [66, 47, 49, 50, 51, 26, 52, 28, 33, 34, 35, 36, 37, 38, 93, 94, 95, 96, 97, 98, 99, 100, 101, 102, 103, 104, 105, 106, 107] (by decide +kernel) (by decide +kernel)
set_option maxRecDepth 20000 in
theorem gX0_findDog_X0_sightingsMeaning : GoodIn wsX0_findDog (wsV RX0 100 RX0 yX0_sightingsMeaning wsX0_sightingsMeaning) := goodIn_app (goodIn_of _ (by decide +kernel)) ggX0_findDog_X0_sightingsMeaning
set_option maxRecDepth 20000 in
theorem ggX0_findDog_X0_coinsOf : GoodIn wsX0_findDog wsX0_coinsOf := goodIn_r _ [80, 2, 93, 94, 95, 96, 97, 98, 99, 100, 101, 102, 103] (by decide +kernel) (by decide +kernel)
set_option maxRecDepth 20000 in
theorem gX0_findDog_X0_coinsOf : GoodIn wsX0_findDog (wsV RX0 203 RX0 yX0_coinsOf wsX0_coinsOf) := goodIn_app (goodIn_of _ (by decide +kernel)) ggX0_findDog_X0_coinsOf
set_option maxRecDepth 20000 in
theorem ggX0_findDog_X3_get : GoodIn wsX0_findDog wsX3_get := goodIn_r _ [36, 37, 28, 38, 104, 105, 106, 107] (by decide +kernel) (by decide +kernel)
set_option maxRecDepth 20000 in
theorem gX0_findDog_X3_get : GoodIn wsX0_findDog (wsV RX0 112 RX3 yX3_get wsX3_get) := goodIn_app (goodIn_of _ (by decide +kernel)) ggX0_findDog_X3_get
set_option maxRecDepth 20000 in
theorem ggX0_findDog_X0_shareBy : GoodIn wsX0_findDog wsX0_shareBy := goodIn_r _ [84, 47, 1, 49, 50, 51, 26, 52, 28, 67, 12, 68, 85, 86, 87, 9, 88, 48, 33, 34, 35, 36, 37, 38, 53, 54, 55, 56, 57, 58, 93, 94, 95, 96, 97, 98, 99, 100, 101, 102, 103, 104, 105, 106, 107, 108, 109, 110] (by decide +kernel) (by decide +kernel)
set_option maxRecDepth 20000 in
theorem gX0_findDog_X0_shareBy : GoodIn wsX0_findDog (wsV RX0 206 RX0 yX0_shareBy wsX0_shareBy) := goodIn_app (goodIn_of _ (by decide +kernel)) ggX0_findDog_X0_shareBy
set_option maxRecDepth 20000 in
theorem ggX0_findDog_X3_put : GoodIn wsX0_findDog wsX3_put := goodIn_r _ [92, 37, 28, 38, 104, 105, 106, 107] (by decide +kernel) (by decide +kernel)
set_option maxRecDepth 20000 in
theorem gX0_findDog_X3_put : GoodIn wsX0_findDog (wsV RX0 183 RX3 yX3_put wsX3_put) := goodIn_app (goodIn_of _ (by decide +kernel)) ggX0_findDog_X3_put
theorem dX0_findDog_0 : decode cX0_findDog 0 = .ok (.aload_n 0, 1) := by decide +kernel
theorem dX0_findDog_1 : decode cX0_findDog 1 = .ok (.iload_n 1, 1) := by decide +kernel
theorem dX0_findDog_2 : decode cX0_findDog 2 = .ok (.iload_n 2, 1) := by decide +kernel
theorem dX0_findDog_3 : decode cX0_findDog 3 = .ok (.iload_n 3, 1) := by decide +kernel
theorem dX0_findDog_4 : decode cX0_findDog 4 = .ok (.invokevirtual 199, 3) := by decide +kernel
theorem dX0_findDog_7 : decode cX0_findDog 7 = .ok (.ifCond .eq 6, 3) := by decide +kernel
theorem dX0_findDog_10 : decode cX0_findDog 10 = .ok (.bipush (-2), 2) := by decide +kernel
theorem dX0_findDog_12 : decode cX0_findDog 12 = .ok (.ireturn, 1) := by decide +kernel
theorem dX0_findDog_13 : decode cX0_findDog 13 = .ok (.aload_n 0, 1) := by decide +kernel
theorem dX0_findDog_14 : decode cX0_findDog 14 = .ok (.iload_n 1, 1) := by decide +kernel
theorem dX0_findDog_15 : decode cX0_findDog 15 = .ok (.invokevirtual 121, 3) := by decide +kernel
theorem dX0_findDog_18 : decode cX0_findDog 18 = .ok (.istore 4, 2) := by decide +kernel
theorem dX0_findDog_20 : decode cX0_findDog 20 = .ok (.aload_n 0, 1) := by decide +kernel
theorem dX0_findDog_21 : decode cX0_findDog 21 = .ok (.iload_n 1, 1) := by decide +kernel
theorem dX0_findDog_22 : decode cX0_findDog 22 = .ok (.invokevirtual 124, 3) := by decide +kernel
theorem dX0_findDog_25 : decode cX0_findDog 25 = .ok (.istore 5, 2) := by decide +kernel
theorem dX0_findDog_27 : decode cX0_findDog 27 = .ok (.aload_n 0, 1) := by decide +kernel
theorem dX0_findDog_28 : decode cX0_findDog 28 = .ok (.iload_n 1, 1) := by decide +kernel
theorem dX0_findDog_29 : decode cX0_findDog 29 = .ok (.invokevirtual 100, 3) := by decide +kernel
theorem dX0_findDog_32 : decode cX0_findDog 32 = .ok (.iload 5, 2) := by decide +kernel
theorem dX0_findDog_34 : decode cX0_findDog 34 = .ok (.iconst (-1), 1) := by decide +kernel
theorem dX0_findDog_35 : decode cX0_findDog 35 = .ok (.ixor, 1) := by decide +kernel
theorem dX0_findDog_36 : decode cX0_findDog 36 = .ok (.iand, 1) := by decide +kernel
theorem dX0_findDog_37 : decode cX0_findDog 37 = .ok (.istore 6, 2) := by decide +kernel
theorem dX0_findDog_39 : decode cX0_findDog 39 = .ok (.aload_n 0, 1) := by decide +kernel
theorem dX0_findDog_40 : decode cX0_findDog 40 = .ok (.iload_n 2, 1) := by decide +kernel
theorem dX0_findDog_41 : decode cX0_findDog 41 = .ok (.invokevirtual 203, 3) := by decide +kernel
theorem dX0_findDog_44 : decode cX0_findDog 44 = .ok (.istore 7, 2) := by decide +kernel
theorem dX0_findDog_46 : decode cX0_findDog 46 = .ok (.aload_n 0, 1) := by decide +kernel
theorem dX0_findDog_47 : decode cX0_findDog 47 = .ok (.getfield 23, 3) := by decide +kernel
theorem dX0_findDog_50 : decode cX0_findDog 50 = .ok (.iload_n 1, 1) := by decide +kernel
theorem dX0_findDog_51 : decode cX0_findDog 51 = .ok (.iconst 4, 1) := by decide +kernel
theorem dX0_findDog_52 : decode cX0_findDog 52 = .ok (.invokevirtual 112, 3) := by decide +kernel
theorem dX0_findDog_55 : decode cX0_findDog 55 = .ok (.istore 8, 2) := by decide +kernel
theorem dX0_findDog_57 : decode cX0_findDog 57 = .ok (.iconst 0, 1) := by decide +kernel
theorem dX0_findDog_58 : decode cX0_findDog 58 = .ok (.istore 9, 2) := by decide +kernel
theorem dX0_findDog_60 : decode cX0_findDog 60 = .ok (.iload 9, 2) := by decide +kernel
theorem dX0_findDog_62 : decode cX0_findDog 62 = .ok (.aload_n 0, 1) := by decide +kernel
theorem dX0_findDog_63 : decode cX0_findDog 63 = .ok (.getfield 30, 3) := by decide +kernel
theorem dX0_findDog_66 : decode cX0_findDog 66 = .ok (.arraylength, 1) := by decide +kernel
theorem dX0_findDog_67 : decode cX0_findDog 67 = .ok (.if_icmp .ge 52, 3) := by decide +kernel
theorem dX0_findDog_70 : decode cX0_findDog 70 = .ok (.aload_n 0, 1) := by decide +kernel
theorem dX0_findDog_71 : decode cX0_findDog 71 = .ok (.iload_n 1, 1) := by decide +kernel
theorem dX0_findDog_72 : decode cX0_findDog 72 = .ok (.iload 6, 2) := by decide +kernel
theorem dX0_findDog_74 : decode cX0_findDog 74 = .ok (.iload_n 2, 1) := by decide +kernel
theorem dX0_findDog_75 : decode cX0_findDog 75 = .ok (.iload_n 3, 1) := by decide +kernel
theorem dX0_findDog_76 : decode cX0_findDog 76 = .ok (.iload 9, 2) := by decide +kernel
theorem dX0_findDog_78 : decode cX0_findDog 78 = .ok (.invokevirtual 206, 3) := by decide +kernel
theorem dX0_findDog_81 : decode cX0_findDog 81 = .ok (.istore 10, 2) := by decide +kernel
theorem dX0_findDog_83 : decode cX0_findDog 83 = .ok (.aload_n 0, 1) := by decide +kernel
theorem dX0_findDog_84 : decode cX0_findDog 84 = .ok (.getfield 30, 3) := by decide +kernel
theorem dX0_findDog_87 : decode cX0_findDog 87 = .ok (.iload 9, 2) := by decide +kernel
theorem dX0_findDog_89 : decode cX0_findDog 89 = .ok (.dup2, 1) := by decide +kernel
theorem dX0_findDog_90 : decode cX0_findDog 90 = .ok (.iaload, 1) := by decide +kernel
theorem dX0_findDog_91 : decode cX0_findDog 91 = .ok (.iload 10, 2) := by decide +kernel
theorem dX0_findDog_93 : decode cX0_findDog 93 = .ok (.iadd, 1) := by decide +kernel
theorem dX0_findDog_94 : decode cX0_findDog 94 = .ok (.iastore, 1) := by decide +kernel
theorem dX0_findDog_95 : decode cX0_findDog 95 = .ok (.aload_n 0, 1) := by decide +kernel
theorem dX0_findDog_96 : decode cX0_findDog 96 = .ok (.dup, 1) := by decide +kernel
theorem dX0_findDog_97 : decode cX0_findDog 97 = .ok (.getfield 56, 3) := by decide +kernel
theorem dX0_findDog_100 : decode cX0_findDog 100 = .ok (.iload 10, 2) := by decide +kernel
theorem dX0_findDog_102 : decode cX0_findDog 102 = .ok (.iadd, 1) := by decide +kernel
theorem dX0_findDog_103 : decode cX0_findDog 103 = .ok (.putfield 56, 3) := by decide +kernel
theorem dX0_findDog_106 : decode cX0_findDog 106 = .ok (.iload 8, 2) := by decide +kernel
theorem dX0_findDog_108 : decode cX0_findDog 108 = .ok (.iload 10, 2) := by decide +kernel
theorem dX0_findDog_110 : decode cX0_findDog 110 = .ok (.isub, 1) := by decide +kernel
theorem dX0_findDog_111 : decode cX0_findDog 111 = .ok (.istore 8, 2) := by decide +kernel
theorem dX0_findDog_113 : decode cX0_findDog 113 = .ok (.iinc 9 1, 3) := by decide +kernel
theorem dX0_findDog_116 : decode cX0_findDog 116 = .ok (.goto (-56), 3) := by decide +kernel
theorem dX0_findDog_119 : decode cX0_findDog 119 = .ok (.aload_n 0, 1) := by decide +kernel
theorem dX0_findDog_120 : decode cX0_findDog 120 = .ok (.dup, 1) := by decide +kernel
theorem dX0_findDog_121 : decode cX0_findDog 121 = .ok (.getfield 59, 3) := by decide +kernel
theorem dX0_findDog_124 : decode cX0_findDog 124 = .ok (.iload 8, 2) := by decide +kernel
theorem dX0_findDog_126 : decode cX0_findDog 126 = .ok (.iadd, 1) := by decide +kernel
theorem dX0_findDog_127 : decode cX0_findDog 127 = .ok (.putfield 59, 3) := by decide +kernel
theorem dX0_findDog_130 : decode cX0_findDog 130 = .ok (.aload_n 0, 1) := by decide +kernel
theorem dX0_findDog_131 : decode cX0_findDog 131 = .ok (.getfield 23, 3) := by decide +kernel
theorem dX0_findDog_134 : decode cX0_findDog 134 = .ok (.iload_n 1, 1) := by decide +kernel
theorem dX0_findDog_135 : decode cX0_findDog 135 = .ok (.iconst 5, 1) := by decide +kernel
theorem dX0_findDog_136 : decode cX0_findDog 136 = .ok (.iconst 0, 1) := by decide +kernel
theorem dX0_findDog_137 : decode cX0_findDog 137 = .ok (.invokevirtual 183, 3) := by decide +kernel
theorem dX0_findDog_140 : decode cX0_findDog 140 = .ok (.aload_n 0, 1) := by decide +kernel
theorem dX0_findDog_141 : decode cX0_findDog 141 = .ok (.getfield 23, 3) := by decide +kernel
theorem dX0_findDog_144 : decode cX0_findDog 144 = .ok (.iload_n 1, 1) := by decide +kernel
theorem dX0_findDog_145 : decode cX0_findDog 145 = .ok (.bipush 6, 2) := by decide +kernel
theorem dX0_findDog_147 : decode cX0_findDog 147 = .ok (.iload_n 3, 1) := by decide +kernel
theorem dX0_findDog_148 : decode cX0_findDog 148 = .ok (.invokevirtual 183, 3) := by decide +kernel
theorem dX0_findDog_151 : decode cX0_findDog 151 = .ok (.aload_n 0, 1) := by decide +kernel
theorem dX0_findDog_152 : decode cX0_findDog 152 = .ok (.getfield 23, 3) := by decide +kernel
theorem dX0_findDog_155 : decode cX0_findDog 155 = .ok (.iload_n 1, 1) := by decide +kernel
theorem dX0_findDog_156 : decode cX0_findDog 156 = .ok (.bipush 7, 2) := by decide +kernel
theorem dX0_findDog_158 : decode cX0_findDog 158 = .ok (.iload_n 2, 1) := by decide +kernel
theorem dX0_findDog_159 : decode cX0_findDog 159 = .ok (.invokevirtual 183, 3) := by decide +kernel
theorem dX0_findDog_162 : decode cX0_findDog 162 = .ok (.aload_n 0, 1) := by decide +kernel
theorem dX0_findDog_163 : decode cX0_findDog 163 = .ok (.getfield 23, 3) := by decide +kernel
theorem dX0_findDog_166 : decode cX0_findDog 166 = .ok (.iload_n 1, 1) := by decide +kernel
theorem dX0_findDog_167 : decode cX0_findDog 167 = .ok (.bipush 8, 2) := by decide +kernel
theorem dX0_findDog_169 : decode cX0_findDog 169 = .ok (.aload_n 0, 1) := by decide +kernel
theorem dX0_findDog_170 : decode cX0_findDog 170 = .ok (.getfield 49, 3) := by decide +kernel
theorem dX0_findDog_173 : decode cX0_findDog 173 = .ok (.invokevirtual 183, 3) := by decide +kernel
theorem dX0_findDog_176 : decode cX0_findDog 176 = .ok (.aload_n 0, 1) := by decide +kernel
theorem dX0_findDog_177 : decode cX0_findDog 177 = .ok (.getfield 23, 3) := by decide +kernel
theorem dX0_findDog_180 : decode cX0_findDog 180 = .ok (.iload_n 1, 1) := by decide +kernel
theorem dX0_findDog_181 : decode cX0_findDog 181 = .ok (.bipush 9, 2) := by decide +kernel
theorem dX0_findDog_183 : decode cX0_findDog 183 = .ok (.iload 4, 2) := by decide +kernel
theorem dX0_findDog_185 : decode cX0_findDog 185 = .ok (.invokevirtual 183, 3) := by decide +kernel
theorem dX0_findDog_188 : decode cX0_findDog 188 = .ok (.aload_n 0, 1) := by decide +kernel
theorem dX0_findDog_189 : decode cX0_findDog 189 = .ok (.getfield 23, 3) := by decide +kernel
theorem dX0_findDog_192 : decode cX0_findDog 192 = .ok (.iload_n 1, 1) := by decide +kernel
theorem dX0_findDog_193 : decode cX0_findDog 193 = .ok (.bipush 10, 2) := by decide +kernel
theorem dX0_findDog_195 : decode cX0_findDog 195 = .ok (.iload 5, 2) := by decide +kernel
theorem dX0_findDog_197 : decode cX0_findDog 197 = .ok (.invokevirtual 183, 3) := by decide +kernel
theorem dX0_findDog_200 : decode cX0_findDog 200 = .ok (.aload_n 0, 1) := by decide +kernel
theorem dX0_findDog_201 : decode cX0_findDog 201 = .ok (.iload_n 2, 1) := by decide +kernel
theorem dX0_findDog_202 : decode cX0_findDog 202 = .ok (.invokevirtual 203, 3) := by decide +kernel
theorem dX0_findDog_205 : decode cX0_findDog 205 = .ok (.iload 7, 2) := by decide +kernel
theorem dX0_findDog_207 : decode cX0_findDog 207 = .ok (.isub, 1) := by decide +kernel
theorem dX0_findDog_208 : decode cX0_findDog 208 = .ok (.ireturn, 1) := by decide +kernel
set_option maxRecDepth 20000 in
theorem ggX0_shareOf_X0_honestFor : GoodIn wsX0_shareOf wsX0_honestFor := goodIn_r _ [5, 6, 7, 8, 4, 9, 10, 11, 12, 13, 14, 15, 16, 17, 18, 19, 20, 21, 22, 23, 24, 25, 26, 27, 28, 29, 30, 31, 32, 33, 34, 35, 36, 37, 38, 39, 40, 41, 42, 43, 44, 45, 46, 47, 48, 49, 50, 51, 52, 53, 62, 63, 64, 65, 66, 67, 68, 69, 70, 71, 72, 73, 74, 75, 76, 77, 78, 79] (by decide +kernel) (by decide +kernel)
set_option maxRecDepth 20000 in
theorem gX0_shareOf_X0_honestFor : GoodIn wsX0_shareOf (wsV RX0 115 RX0 yX0_honestFor wsX0_honestFor) := goodIn_app (goodIn_of _ (by decide +kernel)) ggX0_shareOf_X0_honestFor
set_option maxRecDepth 20000 in
theorem ggX0_shareOf_X0_shareBy : GoodIn wsX0_shareOf wsX0_shareBy := goodIn_r _ [57, 10, 27, 11, 12, 13, 14, 15, 16, 43, 44, 45, 58, 59, 60, 4, 61, 36, 17, 18, 19, 20, 21, 22, 37, 38, 39, 40, 41, 42, 62, 63, 64, 65, 66, 67, 68, 69, 70, 71, 72, 73, 74, 75, 76, 77, 78, 79] (by decide +kernel) (by decide +kernel)
set_option maxRecDepth 20000 in
theorem gX0_shareOf_X0_shareBy : GoodIn wsX0_shareOf (wsV RX0 206 RX0 yX0_shareBy wsX0_shareBy) := goodIn_app (goodIn_of _ (by decide +kernel)) ggX0_shareOf_X0_shareBy
theorem dX0_shareOf_0 : decode cX0_shareOf 0 = .ok (.aload_n 0, 1) := by decide +kernel
theorem dX0_shareOf_1 : decode cX0_shareOf 1 = .ok (.iload_n 1, 1) := by decide +kernel
theorem dX0_shareOf_2 : decode cX0_shareOf 2 = .ok (.aload_n 0, 1) := by decide +kernel
theorem dX0_shareOf_3 : decode cX0_shareOf 3 = .ok (.iload_n 1, 1) := by decide +kernel
theorem dX0_shareOf_4 : decode cX0_shareOf 4 = .ok (.invokevirtual 115, 3) := by decide +kernel
theorem dX0_shareOf_7 : decode cX0_shareOf 7 = .ok (.iload_n 2, 1) := by decide +kernel
theorem dX0_shareOf_8 : decode cX0_shareOf 8 = .ok (.iload_n 3, 1) := by decide +kernel
theorem dX0_shareOf_9 : decode cX0_shareOf 9 = .ok (.iload 4, 2) := by decide +kernel
theorem dX0_shareOf_11 : decode cX0_shareOf 11 = .ok (.invokevirtual 206, 3) := by decide +kernel
theorem dX0_shareOf_14 : decode cX0_shareOf 14 = .ok (.ireturn, 1) := by decide +kernel
set_option maxRecDepth 20000 in
theorem ggX0_shareBy_X3_count : GoodIn wsX0_shareBy wsX3_count := goodIn_r _ [7, 8, 41, 42, 43, 44] (by decide +kernel) (by decide +kernel)
set_option maxRecDepth 20000 in
theorem gX0_shareBy_X3_count : GoodIn wsX0_shareBy (wsV RX0 87 RX3 yX3_count wsX3_count) := goodIn_app (goodIn_of _ (by decide +kernel)) ggX0_shareBy_X3_count
set_option maxRecDepth 20000 in
theorem ggX0_shareBy_X7_hasBit : GoodIn wsX0_shareBy wsX7_hasBit := goodIn_r _ [11] (by decide +kernel) (by decide +kernel)
set_option maxRecDepth 20000 in
theorem gX0_shareBy_X7_hasBit_n141 : GoodIn wsX0_shareBy (wsX7_hasBit) := ggX0_shareBy_X7_hasBit
set_option maxRecDepth 20000 in
theorem ggX0_shareBy_X0_helpOf : GoodIn wsX0_shareBy wsX0_helpOf := goodIn_r _ [16, 17, 1, 18, 19, 20, 6, 21, 22, 8, 23, 24, 25, 26, 27, 28, 29, 30, 31, 32, 33, 34, 35, 36, 37, 38, 39, 40, 41, 42, 43, 44, 45, 46, 47] (by decide +kernel) (by decide +kernel)
set_option maxRecDepth 20000 in
theorem gX0_shareBy_X0_helpOf : GoodIn wsX0_shareBy (wsV RX0 210 RX0 yX0_helpOf wsX0_helpOf) := goodIn_app (goodIn_of _ (by decide +kernel)) ggX0_shareBy_X0_helpOf
set_option maxRecDepth 20000 in
theorem ggX0_shareBy_X3_get : GoodIn wsX0_shareBy wsX3_get := goodIn_r _ [21, 22, 8, 23, 41, 42, 43, 44] (by decide +kernel) (by decide +kernel)
set_option maxRecDepth 20000 in
theorem gX0_shareBy_X3_get : GoodIn wsX0_shareBy (wsV RX0 112 RX3 yX3_get wsX3_get) := goodIn_app (goodIn_of _ (by decide +kernel)) ggX0_shareBy_X3_get
theorem dX0_shareBy_0 : decode cX0_shareBy 0 = .ok (.iload 5, 2) := by decide +kernel
theorem dX0_shareBy_2 : decode cX0_shareBy 2 = .ok (.iload_n 3, 1) := by decide +kernel
theorem dX0_shareBy_3 : decode cX0_shareBy 3 = .ok (.if_icmp .ne 7, 3) := by decide +kernel
theorem dX0_shareBy_6 : decode cX0_shareBy 6 = .ok (.iconst 3, 1) := by decide +kernel
theorem dX0_shareBy_7 : decode cX0_shareBy 7 = .ok (.goto 4, 3) := by decide +kernel
theorem dX0_shareBy_10 : decode cX0_shareBy 10 = .ok (.iconst 0, 1) := by decide +kernel
theorem dX0_shareBy_11 : decode cX0_shareBy 11 = .ok (.istore 6, 2) := by decide +kernel
theorem dX0_shareBy_13 : decode cX0_shareBy 13 = .ok (.iconst 3, 1) := by decide +kernel
theorem dX0_shareBy_14 : decode cX0_shareBy 14 = .ok (.istore 7, 2) := by decide +kernel
theorem dX0_shareBy_16 : decode cX0_shareBy 16 = .ok (.iconst 0, 1) := by decide +kernel
theorem dX0_shareBy_17 : decode cX0_shareBy 17 = .ok (.istore 8, 2) := by decide +kernel
theorem dX0_shareBy_19 : decode cX0_shareBy 19 = .ok (.iload 8, 2) := by decide +kernel
theorem dX0_shareBy_21 : decode cX0_shareBy 21 = .ok (.aload_n 0, 1) := by decide +kernel
theorem dX0_shareBy_22 : decode cX0_shareBy 22 = .ok (.getfield 27, 3) := by decide +kernel
theorem dX0_shareBy_25 : decode cX0_shareBy 25 = .ok (.invokevirtual 87, 3) := by decide +kernel
theorem dX0_shareBy_28 : decode cX0_shareBy 28 = .ok (.if_icmp .ge 65, 3) := by decide +kernel
theorem dX0_shareBy_31 : decode cX0_shareBy 31 = .ok (.iload_n 2, 1) := by decide +kernel
theorem dX0_shareBy_32 : decode cX0_shareBy 32 = .ok (.iload 8, 2) := by decide +kernel
theorem dX0_shareBy_34 : decode cX0_shareBy 34 = .ok (.invokestatic 141, 3) := by decide +kernel
theorem dX0_shareBy_37 : decode cX0_shareBy 37 = .ok (.ifCond .eq 14, 3) := by decide +kernel
theorem dX0_shareBy_40 : decode cX0_shareBy 40 = .ok (.aload_n 0, 1) := by decide +kernel
theorem dX0_shareBy_41 : decode cX0_shareBy 41 = .ok (.iload 8, 2) := by decide +kernel
theorem dX0_shareBy_43 : decode cX0_shareBy 43 = .ok (.iload 4, 2) := by decide +kernel
theorem dX0_shareBy_45 : decode cX0_shareBy 45 = .ok (.invokevirtual 210, 3) := by decide +kernel
theorem dX0_shareBy_48 : decode cX0_shareBy 48 = .ok (.goto 4, 3) := by decide +kernel
theorem dX0_shareBy_51 : decode cX0_shareBy 51 = .ok (.iconst 0, 1) := by decide +kernel
theorem dX0_shareBy_52 : decode cX0_shareBy 52 = .ok (.istore 9, 2) := by decide +kernel
theorem dX0_shareBy_54 : decode cX0_shareBy 54 = .ok (.iload 7, 2) := by decide +kernel
theorem dX0_shareBy_56 : decode cX0_shareBy 56 = .ok (.iload 9, 2) := by decide +kernel
theorem dX0_shareBy_58 : decode cX0_shareBy 58 = .ok (.iadd, 1) := by decide +kernel
theorem dX0_shareBy_59 : decode cX0_shareBy 59 = .ok (.istore 7, 2) := by decide +kernel
theorem dX0_shareBy_61 : decode cX0_shareBy 61 = .ok (.iload 6, 2) := by decide +kernel
theorem dX0_shareBy_63 : decode cX0_shareBy 63 = .ok (.aload_n 0, 1) := by decide +kernel
theorem dX0_shareBy_64 : decode cX0_shareBy 64 = .ok (.getfield 27, 3) := by decide +kernel
theorem dX0_shareBy_67 : decode cX0_shareBy 67 = .ok (.iload 8, 2) := by decide +kernel
theorem dX0_shareBy_69 : decode cX0_shareBy 69 = .ok (.iconst 0, 1) := by decide +kernel
theorem dX0_shareBy_70 : decode cX0_shareBy 70 = .ok (.invokevirtual 112, 3) := by decide +kernel
theorem dX0_shareBy_73 : decode cX0_shareBy 73 = .ok (.iload 5, 2) := by decide +kernel
theorem dX0_shareBy_75 : decode cX0_shareBy 75 = .ok (.if_icmp .ne 8, 3) := by decide +kernel
theorem dX0_shareBy_78 : decode cX0_shareBy 78 = .ok (.iload 9, 2) := by decide +kernel
theorem dX0_shareBy_80 : decode cX0_shareBy 80 = .ok (.goto 4, 3) := by decide +kernel
theorem dX0_shareBy_83 : decode cX0_shareBy 83 = .ok (.iconst 0, 1) := by decide +kernel
theorem dX0_shareBy_84 : decode cX0_shareBy 84 = .ok (.iadd, 1) := by decide +kernel
theorem dX0_shareBy_85 : decode cX0_shareBy 85 = .ok (.istore 6, 2) := by decide +kernel
theorem dX0_shareBy_87 : decode cX0_shareBy 87 = .ok (.iinc 8 1, 3) := by decide +kernel
theorem dX0_shareBy_90 : decode cX0_shareBy 90 = .ok (.goto (-71), 3) := by decide +kernel
theorem dX0_shareBy_93 : decode cX0_shareBy 93 = .ok (.iload 7, 2) := by decide +kernel
theorem dX0_shareBy_95 : decode cX0_shareBy 95 = .ok (.ifCond .le 21, 3) := by decide +kernel
theorem dX0_shareBy_98 : decode cX0_shareBy 98 = .ok (.aload_n 0, 1) := by decide +kernel
theorem dX0_shareBy_99 : decode cX0_shareBy 99 = .ok (.getfield 23, 3) := by decide +kernel
theorem dX0_shareBy_102 : decode cX0_shareBy 102 = .ok (.iload_n 1, 1) := by decide +kernel
theorem dX0_shareBy_103 : decode cX0_shareBy 103 = .ok (.iconst 4, 1) := by decide +kernel
theorem dX0_shareBy_104 : decode cX0_shareBy 104 = .ok (.invokevirtual 112, 3) := by decide +kernel
theorem dX0_shareBy_107 : decode cX0_shareBy 107 = .ok (.iload 6, 2) := by decide +kernel
theorem dX0_shareBy_109 : decode cX0_shareBy 109 = .ok (.imul, 1) := by decide +kernel
theorem dX0_shareBy_110 : decode cX0_shareBy 110 = .ok (.iload 7, 2) := by decide +kernel
theorem dX0_shareBy_112 : decode cX0_shareBy 112 = .ok (.idiv, 1) := by decide +kernel
theorem dX0_shareBy_113 : decode cX0_shareBy 113 = .ok (.goto 4, 3) := by decide +kernel
theorem dX0_shareBy_116 : decode cX0_shareBy 116 = .ok (.iconst 0, 1) := by decide +kernel
theorem dX0_shareBy_117 : decode cX0_shareBy 117 = .ok (.ireturn, 1) := by decide +kernel
set_option maxRecDepth 20000 in
theorem ggX0_helpOf_X3_get : GoodIn wsX0_helpOf wsX3_get := goodIn_r _ [7, 8, 9, 10, 28, 29, 30, 31] (by decide +kernel) (by decide +kernel)
set_option maxRecDepth 20000 in
theorem gX0_helpOf_X3_get : GoodIn wsX0_helpOf (wsV RX0 112 RX3 yX3_get wsX3_get) := goodIn_app (goodIn_of _ (by decide +kernel)) ggX0_helpOf_X3_get
set_option maxRecDepth 20000 in
theorem ggX0_helpOf_X2_isWithin : GoodIn wsX0_helpOf wsX2_isWithin := goodIn_r _ [15, 16, 32, 33, 34] (by decide +kernel) (by decide +kernel)
set_option maxRecDepth 20000 in
theorem gX0_helpOf_X2_isWithin : GoodIn wsX0_helpOf (wsV RX0 138 RX2 yX2_isWithin wsX2_isWithin) := goodIn_app (goodIn_of _ (by decide +kernel)) ggX0_helpOf_X2_isWithin
theorem dX0_helpOf_0 : decode cX0_helpOf 0 = .ok (.aload_n 0, 1) := by decide +kernel
theorem dX0_helpOf_1 : decode cX0_helpOf 1 = .ok (.getfield 12, 3) := by decide +kernel
theorem dX0_helpOf_4 : decode cX0_helpOf 4 = .ok (.aload_n 0, 1) := by decide +kernel
theorem dX0_helpOf_5 : decode cX0_helpOf 5 = .ok (.getfield 27, 3) := by decide +kernel
theorem dX0_helpOf_8 : decode cX0_helpOf 8 = .ok (.iload_n 1, 1) := by decide +kernel
theorem dX0_helpOf_9 : decode cX0_helpOf 9 = .ok (.iconst 1, 1) := by decide +kernel
theorem dX0_helpOf_10 : decode cX0_helpOf 10 = .ok (.invokevirtual 112, 3) := by decide +kernel
theorem dX0_helpOf_13 : decode cX0_helpOf 13 = .ok (.iload_n 2, 1) := by decide +kernel
theorem dX0_helpOf_14 : decode cX0_helpOf 14 = .ok (.iconst 1, 1) := by decide +kernel
theorem dX0_helpOf_15 : decode cX0_helpOf 15 = .ok (.invokevirtual 138, 3) := by decide +kernel
theorem dX0_helpOf_18 : decode cX0_helpOf 18 = .ok (.ifCond .eq 7, 3) := by decide +kernel
theorem dX0_helpOf_21 : decode cX0_helpOf 21 = .ok (.iconst 1, 1) := by decide +kernel
theorem dX0_helpOf_22 : decode cX0_helpOf 22 = .ok (.goto 4, 3) := by decide +kernel
theorem dX0_helpOf_25 : decode cX0_helpOf 25 = .ok (.iconst 0, 1) := by decide +kernel
theorem dX0_helpOf_26 : decode cX0_helpOf 26 = .ok (.istore_n 3, 1) := by decide +kernel
theorem dX0_helpOf_27 : decode cX0_helpOf 27 = .ok (.iconst 1, 1) := by decide +kernel
theorem dX0_helpOf_28 : decode cX0_helpOf 28 = .ok (.aload_n 0, 1) := by decide +kernel
theorem dX0_helpOf_29 : decode cX0_helpOf 29 = .ok (.getfield 27, 3) := by decide +kernel
theorem dX0_helpOf_32 : decode cX0_helpOf 32 = .ok (.iload_n 1, 1) := by decide +kernel
theorem dX0_helpOf_33 : decode cX0_helpOf 33 = .ok (.iconst 4, 1) := by decide +kernel
theorem dX0_helpOf_34 : decode cX0_helpOf 34 = .ok (.invokevirtual 112, 3) := by decide +kernel
theorem dX0_helpOf_37 : decode cX0_helpOf 37 = .ok (.iadd, 1) := by decide +kernel
theorem dX0_helpOf_38 : decode cX0_helpOf 38 = .ok (.iload_n 3, 1) := by decide +kernel
theorem dX0_helpOf_39 : decode cX0_helpOf 39 = .ok (.iadd, 1) := by decide +kernel
theorem dX0_helpOf_40 : decode cX0_helpOf 40 = .ok (.ireturn, 1) := by decide +kernel
set_option maxRecDepth 20000 in
theorem ggX0_faultOfClosing_X7_isCorner : GoodIn wsX0_faultOfClosing wsX7_isCorner := goodIn_r _ [3, 4, 5, 2, 6] (by decide +kernel) (by decide +kernel)
set_option maxRecDepth 20000 in
theorem gX0_faultOfClosing_X7_isCorner_n166 : GoodIn wsX0_faultOfClosing (wsX7_isCorner) := ggX0_faultOfClosing_X7_isCorner
set_option maxRecDepth 20000 in
theorem ggX0_faultOfClosing_X2_streetBetween : GoodIn wsX0_faultOfClosing wsX2_streetBetween := goodIn_r _ [10, 11] (by decide +kernel) (by decide +kernel)
set_option maxRecDepth 20000 in
theorem gX0_faultOfClosing_X2_streetBetween : GoodIn wsX0_faultOfClosing (va_wsS RX0 213 yX2_streetBetween wsX2_streetBetween) := goodIn_app (goodIn_of _ (by decide +kernel)) ggX0_faultOfClosing_X2_streetBetween
theorem dX0_faultOfClosing_0 : decode cX0_faultOfClosing 0 = .ok (.iload_n 1, 1) := by decide +kernel
theorem dX0_faultOfClosing_1 : decode cX0_faultOfClosing 1 = .ok (.invokestatic 166, 3) := by decide +kernel
theorem dX0_faultOfClosing_4 : decode cX0_faultOfClosing 4 = .ok (.ifCond .eq 10, 3) := by decide +kernel
theorem dX0_faultOfClosing_7 : decode cX0_faultOfClosing 7 = .ok (.iload_n 2, 1) := by decide +kernel
theorem dX0_faultOfClosing_8 : decode cX0_faultOfClosing 8 = .ok (.invokestatic 166, 3) := by decide +kernel
theorem dX0_faultOfClosing_11 : decode cX0_faultOfClosing 11 = .ok (.ifCond .ne 5, 3) := by decide +kernel
theorem dX0_faultOfClosing_14 : decode cX0_faultOfClosing 14 = .ok (.iconst 1, 1) := by decide +kernel
theorem dX0_faultOfClosing_15 : decode cX0_faultOfClosing 15 = .ok (.ireturn, 1) := by decide +kernel
theorem dX0_faultOfClosing_16 : decode cX0_faultOfClosing 16 = .ok (.iload_n 1, 1) := by decide +kernel
theorem dX0_faultOfClosing_17 : decode cX0_faultOfClosing 17 = .ok (.iload_n 2, 1) := by decide +kernel
theorem dX0_faultOfClosing_18 : decode cX0_faultOfClosing 18 = .ok (.invokestatic 213, 3) := by decide +kernel
theorem dX0_faultOfClosing_21 : decode cX0_faultOfClosing 21 = .ok (.iconst (-1), 1) := by decide +kernel
theorem dX0_faultOfClosing_22 : decode cX0_faultOfClosing 22 = .ok (.if_icmp .ne 7, 3) := by decide +kernel
theorem dX0_faultOfClosing_25 : decode cX0_faultOfClosing 25 = .ok (.iconst 2, 1) := by decide +kernel
theorem dX0_faultOfClosing_26 : decode cX0_faultOfClosing 26 = .ok (.goto 4, 3) := by decide +kernel
theorem dX0_faultOfClosing_29 : decode cX0_faultOfClosing 29 = .ok (.iconst 0, 1) := by decide +kernel
theorem dX0_faultOfClosing_30 : decode cX0_faultOfClosing 30 = .ok (.ireturn, 1) := by decide +kernel
set_option maxRecDepth 20000 in
theorem ggX0_closeStreet_X0_faultOfClosing : GoodIn wsX0_closeStreet wsX0_faultOfClosing := goodIn_r _ [6, 7, 8, 9, 10, 11, 12, 13, 14, 15, 16, 17] (by decide +kernel) (by decide +kernel)
set_option maxRecDepth 20000 in
theorem gX0_closeStreet_X0_faultOfClosing : GoodIn wsX0_closeStreet (wsV RX0 216 RX0 yX0_faultOfClosing wsX0_faultOfClosing) := goodIn_app (goodIn_of _ (by decide +kernel)) ggX0_closeStreet_X0_faultOfClosing
set_option maxRecDepth 20000 in
theorem ggX0_closeStreet_X2_streetBetween : GoodIn wsX0_closeStreet wsX2_streetBetween := goodIn_r _ [16, 17] (by decide +kernel) (by decide +kernel)
set_option maxRecDepth 20000 in
theorem gX0_closeStreet_X2_streetBetween : GoodIn wsX0_closeStreet (va_wsS RX0 213 yX2_streetBetween wsX2_streetBetween) := goodIn_app (goodIn_of _ (by decide +kernel)) ggX0_closeStreet_X2_streetBetween
set_option maxRecDepth 20000 in
theorem ggX0_closeStreet_X2_setClosed : GoodIn wsX0_closeStreet wsX2_setClosed := goodIn_r _ [21, 22, 23, 24, 25, 15, 26, 27, 28, 29, 30, 31, 32, 33, 34, 35, 36, 8, 37, 38, 39, 40, 41, 17, 64, 65, 66] (by decide +kernel) (by decide +kernel)
set_option maxRecDepth 20000 in
theorem gX0_closeStreet_X2_setClosed : GoodIn wsX0_closeStreet (wsV RX0 219 RX2 yX2_setClosed wsX2_setClosed) := goodIn_app (goodIn_of _ (by decide +kernel)) ggX0_closeStreet_X2_setClosed
set_option maxRecDepth 20000 in
theorem ggX0_closeStreet_X2_closedStreets : GoodIn wsX0_closeStreet wsX2_closedStreets := goodIn_r _ [45, 22, 46, 47, 48, 49, 50, 51, 52, 64, 65, 66] (by decide +kernel) (by decide +kernel)
set_option maxRecDepth 20000 in
theorem gX0_closeStreet_X2_closedStreets : GoodIn wsX0_closeStreet (wsV RX0 109 RX2 yX2_closedStreets wsX2_closedStreets) := goodIn_app (goodIn_of _ (by decide +kernel)) ggX0_closeStreet_X2_closedStreets
theorem dX0_closeStreet_0 : decode cX0_closeStreet 0 = .ok (.aload_n 0, 1) := by decide +kernel
theorem dX0_closeStreet_1 : decode cX0_closeStreet 1 = .ok (.iload_n 1, 1) := by decide +kernel
theorem dX0_closeStreet_2 : decode cX0_closeStreet 2 = .ok (.iload_n 2, 1) := by decide +kernel
theorem dX0_closeStreet_3 : decode cX0_closeStreet 3 = .ok (.invokevirtual 216, 3) := by decide +kernel
theorem dX0_closeStreet_6 : decode cX0_closeStreet 6 = .ok (.ifCond .eq 6, 3) := by decide +kernel
theorem dX0_closeStreet_9 : decode cX0_closeStreet 9 = .ok (.bipush (-2), 2) := by decide +kernel
theorem dX0_closeStreet_11 : decode cX0_closeStreet 11 = .ok (.ireturn, 1) := by decide +kernel
theorem dX0_closeStreet_12 : decode cX0_closeStreet 12 = .ok (.aload_n 0, 1) := by decide +kernel
theorem dX0_closeStreet_13 : decode cX0_closeStreet 13 = .ok (.getfield 12, 3) := by decide +kernel
theorem dX0_closeStreet_16 : decode cX0_closeStreet 16 = .ok (.iload_n 1, 1) := by decide +kernel
theorem dX0_closeStreet_17 : decode cX0_closeStreet 17 = .ok (.iload_n 2, 1) := by decide +kernel
theorem dX0_closeStreet_18 : decode cX0_closeStreet 18 = .ok (.invokestatic 213, 3) := by decide +kernel
theorem dX0_closeStreet_21 : decode cX0_closeStreet 21 = .ok (.iload_n 3, 1) := by decide +kernel
theorem dX0_closeStreet_22 : decode cX0_closeStreet 22 = .ok (.invokevirtual 219, 3) := by decide +kernel
theorem dX0_closeStreet_25 : decode cX0_closeStreet 25 = .ok (.aload_n 0, 1) := by decide +kernel
theorem dX0_closeStreet_26 : decode cX0_closeStreet 26 = .ok (.getfield 12, 3) := by decide +kernel
theorem dX0_closeStreet_29 : decode cX0_closeStreet 29 = .ok (.invokevirtual 109, 3) := by decide +kernel
theorem dX0_closeStreet_32 : decode cX0_closeStreet 32 = .ok (.ireturn, 1) := by decide +kernel
set_option maxRecDepth 20000 in
theorem ggX0_faultOfPassing_X7_isIn : GoodIn wsX0_faultOfPassing wsX7_isIn := goodIn_r _ [3] (by decide +kernel) (by decide +kernel)
set_option maxRecDepth 20000 in
theorem gX0_faultOfPassing_X7_isIn_n169 : GoodIn wsX0_faultOfPassing (wsX7_isIn) := ggX0_faultOfPassing_X7_isIn
theorem dX0_faultOfPassing_0 : decode cX0_faultOfPassing 0 = .ok (.iload_n 1, 1) := by decide +kernel
theorem dX0_faultOfPassing_1 : decode cX0_faultOfPassing 1 = .ok (.iconst 1, 1) := by decide +kernel
theorem dX0_faultOfPassing_2 : decode cX0_faultOfPassing 2 = .ok (.bipush 99, 2) := by decide +kernel
theorem dX0_faultOfPassing_4 : decode cX0_faultOfPassing 4 = .ok (.invokestatic 169, 3) := by decide +kernel
theorem dX0_faultOfPassing_7 : decode cX0_faultOfPassing 7 = .ok (.ifCond .eq 7, 3) := by decide +kernel
theorem dX0_faultOfPassing_10 : decode cX0_faultOfPassing 10 = .ok (.iconst 0, 1) := by decide +kernel
theorem dX0_faultOfPassing_11 : decode cX0_faultOfPassing 11 = .ok (.goto 4, 3) := by decide +kernel
theorem dX0_faultOfPassing_14 : decode cX0_faultOfPassing 14 = .ok (.iconst 2, 1) := by decide +kernel
theorem dX0_faultOfPassing_15 : decode cX0_faultOfPassing 15 = .ok (.ireturn, 1) := by decide +kernel
set_option maxRecDepth 20000 in
theorem ggX0_passHours_X0_faultOfPassing : GoodIn wsX0_passHours wsX0_faultOfPassing := goodIn_r _ [9, 10, 11, 12] (by decide +kernel) (by decide +kernel)
set_option maxRecDepth 20000 in
theorem gX0_passHours_X0_faultOfPassing : GoodIn wsX0_passHours (wsV RX0 223 RX0 yX0_faultOfPassing wsX0_faultOfPassing) := goodIn_app (goodIn_of _ (by decide +kernel)) ggX0_passHours_X0_faultOfPassing
set_option maxRecDepth 20000 in
theorem ggX0_passHours_X3_count : GoodIn wsX0_passHours wsX3_count := goodIn_r _ [17, 18, 44, 45, 46, 47] (by decide +kernel) (by decide +kernel)
set_option maxRecDepth 20000 in
theorem gX0_passHours_X3_count : GoodIn wsX0_passHours (wsV RX0 87 RX3 yX3_count wsX3_count) := goodIn_app (goodIn_of _ (by decide +kernel)) ggX0_passHours_X3_count
set_option maxRecDepth 20000 in
theorem ggX0_passHours_X3_get : GoodIn wsX0_passHours wsX3_get := goodIn_r _ [22, 23, 18, 24, 44, 45, 46, 47] (by decide +kernel) (by decide +kernel)
set_option maxRecDepth 20000 in
theorem gX0_passHours_X3_get : GoodIn wsX0_passHours (wsV RX0 112 RX3 yX3_get wsX3_get) := goodIn_app (goodIn_of _ (by decide +kernel)) ggX0_passHours_X3_get
set_option maxRecDepth 20000 in
theorem ggX0_passHours_X0_isMissing : GoodIn wsX0_passHours wsX0_isMissing := goodIn_r _ [28, 1, 19, 20, 21, 16, 22, 23, 18, 24, 33, 34, 35, 36, 37, 38, 39, 40, 41, 42, 43, 44, 45, 46, 47] (by decide +kernel) (by decide +kernel)
set_option maxRecDepth 20000 in
theorem gX0_passHours_X0_isMissing : GoodIn wsX0_passHours (wsV RX0 127 RX0 yX0_isMissing wsX0_isMissing) := goodIn_app (goodIn_of _ (by decide +kernel)) ggX0_passHours_X0_isMissing
set_option maxRecDepth 20000 in
theorem ggX0_passHours_X3_put : GoodIn wsX0_passHours wsX3_put := goodIn_r _ [32, 23, 18, 24, 44, 45, 46, 47] (by decide +kernel) (by decide +kernel)
set_option maxRecDepth 20000 in
theorem gX0_passHours_X3_put : GoodIn wsX0_passHours (wsV RX0 183 RX3 yX3_put wsX3_put) := goodIn_app (goodIn_of _ (by decide +kernel)) ggX0_passHours_X3_put
theorem dX0_passHours_0 : decode cX0_passHours 0 = .ok (.aload_n 0, 1) := by decide +kernel
theorem dX0_passHours_1 : decode cX0_passHours 1 = .ok (.iload_n 1, 1) := by decide +kernel
theorem dX0_passHours_2 : decode cX0_passHours 2 = .ok (.invokevirtual 223, 3) := by decide +kernel
theorem dX0_passHours_5 : decode cX0_passHours 5 = .ok (.ifCond .eq 6, 3) := by decide +kernel
theorem dX0_passHours_8 : decode cX0_passHours 8 = .ok (.bipush (-2), 2) := by decide +kernel
theorem dX0_passHours_10 : decode cX0_passHours 10 = .ok (.ireturn, 1) := by decide +kernel
theorem dX0_passHours_11 : decode cX0_passHours 11 = .ok (.iconst 0, 1) := by decide +kernel
theorem dX0_passHours_12 : decode cX0_passHours 12 = .ok (.istore_n 2, 1) := by decide +kernel
theorem dX0_passHours_13 : decode cX0_passHours 13 = .ok (.iconst 0, 1) := by decide +kernel
theorem dX0_passHours_14 : decode cX0_passHours 14 = .ok (.istore_n 3, 1) := by decide +kernel
theorem dX0_passHours_15 : decode cX0_passHours 15 = .ok (.iload_n 3, 1) := by decide +kernel
theorem dX0_passHours_16 : decode cX0_passHours 16 = .ok (.aload_n 0, 1) := by decide +kernel
theorem dX0_passHours_17 : decode cX0_passHours 17 = .ok (.getfield 23, 3) := by decide +kernel
theorem dX0_passHours_20 : decode cX0_passHours 20 = .ok (.invokevirtual 87, 3) := by decide +kernel
theorem dX0_passHours_23 : decode cX0_passHours 23 = .ok (.if_icmp .ge 87, 3) := by decide +kernel
theorem dX0_passHours_26 : decode cX0_passHours 26 = .ok (.aload_n 0, 1) := by decide +kernel
theorem dX0_passHours_27 : decode cX0_passHours 27 = .ok (.getfield 49, 3) := by decide +kernel
theorem dX0_passHours_30 : decode cX0_passHours 30 = .ok (.aload_n 0, 1) := by decide +kernel
theorem dX0_passHours_31 : decode cX0_passHours 31 = .ok (.getfield 23, 3) := by decide +kernel
theorem dX0_passHours_34 : decode cX0_passHours 34 = .ok (.iload_n 3, 1) := by decide +kernel
theorem dX0_passHours_35 : decode cX0_passHours 35 = .ok (.iconst 3, 1) := by decide +kernel
theorem dX0_passHours_36 : decode cX0_passHours 36 = .ok (.invokevirtual 112, 3) := by decide +kernel
theorem dX0_passHours_39 : decode cX0_passHours 39 = .ok (.isub, 1) := by decide +kernel
theorem dX0_passHours_40 : decode cX0_passHours 40 = .ok (.istore 4, 2) := by decide +kernel
theorem dX0_passHours_42 : decode cX0_passHours 42 = .ok (.iload 4, 2) := by decide +kernel
theorem dX0_passHours_44 : decode cX0_passHours 44 = .ok (.iload_n 1, 1) := by decide +kernel
theorem dX0_passHours_45 : decode cX0_passHours 45 = .ok (.iadd, 1) := by decide +kernel
theorem dX0_passHours_46 : decode cX0_passHours 46 = .ok (.bipush 24, 2) := by decide +kernel
theorem dX0_passHours_48 : decode cX0_passHours 48 = .ok (.idiv, 1) := by decide +kernel
theorem dX0_passHours_49 : decode cX0_passHours 49 = .ok (.iload 4, 2) := by decide +kernel
theorem dX0_passHours_51 : decode cX0_passHours 51 = .ok (.bipush 24, 2) := by decide +kernel
theorem dX0_passHours_53 : decode cX0_passHours 53 = .ok (.idiv, 1) := by decide +kernel
theorem dX0_passHours_54 : decode cX0_passHours 54 = .ok (.isub, 1) := by decide +kernel
theorem dX0_passHours_55 : decode cX0_passHours 55 = .ok (.istore 5, 2) := by decide +kernel
theorem dX0_passHours_57 : decode cX0_passHours 57 = .ok (.aload_n 0, 1) := by decide +kernel
theorem dX0_passHours_58 : decode cX0_passHours 58 = .ok (.iload_n 3, 1) := by decide +kernel
theorem dX0_passHours_59 : decode cX0_passHours 59 = .ok (.invokevirtual 127, 3) := by decide +kernel
theorem dX0_passHours_62 : decode cX0_passHours 62 = .ok (.ifCond .eq 13, 3) := by decide +kernel
theorem dX0_passHours_65 : decode cX0_passHours 65 = .ok (.iload 5, 2) := by decide +kernel
theorem dX0_passHours_67 : decode cX0_passHours 67 = .ok (.aload_n 0, 1) := by decide +kernel
theorem dX0_passHours_68 : decode cX0_passHours 68 = .ok (.getfield 62, 3) := by decide +kernel
theorem dX0_passHours_71 : decode cX0_passHours 71 = .ok (.imul, 1) := by decide +kernel
theorem dX0_passHours_72 : decode cX0_passHours 72 = .ok (.goto 4, 3) := by decide +kernel
theorem dX0_passHours_75 : decode cX0_passHours 75 = .ok (.iconst 0, 1) := by decide +kernel
theorem dX0_passHours_76 : decode cX0_passHours 76 = .ok (.istore 6, 2) := by decide +kernel
theorem dX0_passHours_78 : decode cX0_passHours 78 = .ok (.aload_n 0, 1) := by decide +kernel
theorem dX0_passHours_79 : decode cX0_passHours 79 = .ok (.getfield 23, 3) := by decide +kernel
theorem dX0_passHours_82 : decode cX0_passHours 82 = .ok (.iload_n 3, 1) := by decide +kernel
theorem dX0_passHours_83 : decode cX0_passHours 83 = .ok (.iconst 4, 1) := by decide +kernel
theorem dX0_passHours_84 : decode cX0_passHours 84 = .ok (.aload_n 0, 1) := by decide +kernel
theorem dX0_passHours_85 : decode cX0_passHours 85 = .ok (.getfield 23, 3) := by decide +kernel
theorem dX0_passHours_88 : decode cX0_passHours 88 = .ok (.iload_n 3, 1) := by decide +kernel
theorem dX0_passHours_89 : decode cX0_passHours 89 = .ok (.iconst 4, 1) := by decide +kernel
theorem dX0_passHours_90 : decode cX0_passHours 90 = .ok (.invokevirtual 112, 3) := by decide +kernel
theorem dX0_passHours_93 : decode cX0_passHours 93 = .ok (.iload 6, 2) := by decide +kernel
theorem dX0_passHours_95 : decode cX0_passHours 95 = .ok (.iadd, 1) := by decide +kernel
theorem dX0_passHours_96 : decode cX0_passHours 96 = .ok (.invokevirtual 183, 3) := by decide +kernel
theorem dX0_passHours_99 : decode cX0_passHours 99 = .ok (.iload_n 2, 1) := by decide +kernel
theorem dX0_passHours_100 : decode cX0_passHours 100 = .ok (.iload 6, 2) := by decide +kernel
theorem dX0_passHours_102 : decode cX0_passHours 102 = .ok (.iadd, 1) := by decide +kernel
theorem dX0_passHours_103 : decode cX0_passHours 103 = .ok (.istore_n 2, 1) := by decide +kernel
theorem dX0_passHours_104 : decode cX0_passHours 104 = .ok (.iinc 3 1, 3) := by decide +kernel
theorem dX0_passHours_107 : decode cX0_passHours 107 = .ok (.goto (-92), 3) := by decide +kernel
theorem dX0_passHours_110 : decode cX0_passHours 110 = .ok (.aload_n 0, 1) := by decide +kernel
theorem dX0_passHours_111 : decode cX0_passHours 111 = .ok (.dup, 1) := by decide +kernel
theorem dX0_passHours_112 : decode cX0_passHours 112 = .ok (.getfield 49, 3) := by decide +kernel
theorem dX0_passHours_115 : decode cX0_passHours 115 = .ok (.iload_n 1, 1) := by decide +kernel
theorem dX0_passHours_116 : decode cX0_passHours 116 = .ok (.iadd, 1) := by decide +kernel
theorem dX0_passHours_117 : decode cX0_passHours 117 = .ok (.putfield 49, 3) := by decide +kernel
theorem dX0_passHours_120 : decode cX0_passHours 120 = .ok (.aload_n 0, 1) := by decide +kernel
theorem dX0_passHours_121 : decode cX0_passHours 121 = .ok (.dup, 1) := by decide +kernel
theorem dX0_passHours_122 : decode cX0_passHours 122 = .ok (.getfield 53, 3) := by decide +kernel
theorem dX0_passHours_125 : decode cX0_passHours 125 = .ok (.iload_n 2, 1) := by decide +kernel
theorem dX0_passHours_126 : decode cX0_passHours 126 = .ok (.iadd, 1) := by decide +kernel
theorem dX0_passHours_127 : decode cX0_passHours 127 = .ok (.putfield 53, 3) := by decide +kernel
theorem dX0_passHours_130 : decode cX0_passHours 130 = .ok (.iload_n 2, 1) := by decide +kernel
theorem dX0_passHours_131 : decode cX0_passHours 131 = .ok (.ireturn, 1) := by decide +kernel
set_option maxRecDepth 20000 in
theorem ggX0_faultOfSetting_X7_isIn : GoodIn wsX0_faultOfSetting wsX7_isIn := goodIn_r _ [3] (by decide +kernel) (by decide +kernel)
set_option maxRecDepth 20000 in
theorem gX0_faultOfSetting_X7_isIn_n169 : GoodIn wsX0_faultOfSetting (wsX7_isIn) := ggX0_faultOfSetting_X7_isIn
theorem dX0_faultOfSetting_0 : decode cX0_faultOfSetting 0 = .ok (.iload_n 1, 1) := by decide +kernel
theorem dX0_faultOfSetting_1 : decode cX0_faultOfSetting 1 = .ok (.ifCond .ne 13, 3) := by decide +kernel
theorem dX0_faultOfSetting_4 : decode cX0_faultOfSetting 4 = .ok (.iload_n 2, 1) := by decide +kernel
theorem dX0_faultOfSetting_5 : decode cX0_faultOfSetting 5 = .ok (.iconst 0, 1) := by decide +kernel
theorem dX0_faultOfSetting_6 : decode cX0_faultOfSetting 6 = .ok (.bipush 50, 2) := by decide +kernel
theorem dX0_faultOfSetting_8 : decode cX0_faultOfSetting 8 = .ok (.invokestatic 169, 3) := by decide +kernel
theorem dX0_faultOfSetting_11 : decode cX0_faultOfSetting 11 = .ok (.ifCond .ne 18, 3) := by decide +kernel
theorem dX0_faultOfSetting_14 : decode cX0_faultOfSetting 14 = .ok (.iload_n 1, 1) := by decide +kernel
theorem dX0_faultOfSetting_15 : decode cX0_faultOfSetting 15 = .ok (.iconst 1, 1) := by decide +kernel
theorem dX0_faultOfSetting_16 : decode cX0_faultOfSetting 16 = .ok (.if_icmp .ne 17, 3) := by decide +kernel
theorem dX0_faultOfSetting_19 : decode cX0_faultOfSetting 19 = .ok (.iload_n 2, 1) := by decide +kernel
theorem dX0_faultOfSetting_20 : decode cX0_faultOfSetting 20 = .ok (.iconst 0, 1) := by decide +kernel
theorem dX0_faultOfSetting_21 : decode cX0_faultOfSetting 21 = .ok (.bipush 8, 2) := by decide +kernel
theorem dX0_faultOfSetting_23 : decode cX0_faultOfSetting 23 = .ok (.invokestatic 169, 3) := by decide +kernel
theorem dX0_faultOfSetting_26 : decode cX0_faultOfSetting 26 = .ok (.ifCond .eq 7, 3) := by decide +kernel
theorem dX0_faultOfSetting_29 : decode cX0_faultOfSetting 29 = .ok (.iconst 1, 1) := by decide +kernel
theorem dX0_faultOfSetting_30 : decode cX0_faultOfSetting 30 = .ok (.goto 4, 3) := by decide +kernel
theorem dX0_faultOfSetting_33 : decode cX0_faultOfSetting 33 = .ok (.iconst 0, 1) := by decide +kernel
theorem dX0_faultOfSetting_34 : decode cX0_faultOfSetting 34 = .ok (.istore_n 3, 1) := by decide +kernel
theorem dX0_faultOfSetting_35 : decode cX0_faultOfSetting 35 = .ok (.iload_n 3, 1) := by decide +kernel
theorem dX0_faultOfSetting_36 : decode cX0_faultOfSetting 36 = .ok (.ifCond .eq 7, 3) := by decide +kernel
theorem dX0_faultOfSetting_39 : decode cX0_faultOfSetting 39 = .ok (.iconst 0, 1) := by decide +kernel
theorem dX0_faultOfSetting_40 : decode cX0_faultOfSetting 40 = .ok (.goto 4, 3) := by decide +kernel
theorem dX0_faultOfSetting_43 : decode cX0_faultOfSetting 43 = .ok (.iconst 2, 1) := by decide +kernel
theorem dX0_faultOfSetting_44 : decode cX0_faultOfSetting 44 = .ok (.ireturn, 1) := by decide +kernel
set_option maxRecDepth 20000 in
theorem ggX0_changeSetting_X0_faultOfSetting : GoodIn wsX0_changeSetting wsX0_faultOfSetting := goodIn_r _ [7, 8, 9, 10] (by decide +kernel) (by decide +kernel)
set_option maxRecDepth 20000 in
theorem gX0_changeSetting_X0_faultOfSetting : GoodIn wsX0_changeSetting (wsV RX0 226 RX0 yX0_faultOfSetting wsX0_faultOfSetting) := goodIn_app (goodIn_of _ (by decide +kernel)) ggX0_changeSetting_X0_faultOfSetting
theorem dX0_changeSetting_0 : decode cX0_changeSetting 0 = .ok (.aload_n 0, 1) := by decide +kernel
theorem dX0_changeSetting_1 : decode cX0_changeSetting 1 = .ok (.iload_n 1, 1) := by decide +kernel
theorem dX0_changeSetting_2 : decode cX0_changeSetting 2 = .ok (.iload_n 2, 1) := by decide +kernel
theorem dX0_changeSetting_3 : decode cX0_changeSetting 3 = .ok (.invokevirtual 226, 3) := by decide +kernel
theorem dX0_changeSetting_6 : decode cX0_changeSetting 6 = .ok (.ifCond .eq 6, 3) := by decide +kernel
theorem dX0_changeSetting_9 : decode cX0_changeSetting 9 = .ok (.bipush (-2), 2) := by decide +kernel
theorem dX0_changeSetting_11 : decode cX0_changeSetting 11 = .ok (.ireturn, 1) := by decide +kernel
theorem dX0_changeSetting_12 : decode cX0_changeSetting 12 = .ok (.iload_n 1, 1) := by decide +kernel
theorem dX0_changeSetting_13 : decode cX0_changeSetting 13 = .ok (.ifCond .ne 10, 3) := by decide +kernel
theorem dX0_changeSetting_16 : decode cX0_changeSetting 16 = .ok (.aload_n 0, 1) := by decide +kernel
theorem dX0_changeSetting_17 : decode cX0_changeSetting 17 = .ok (.getfield 62, 3) := by decide +kernel
theorem dX0_changeSetting_20 : decode cX0_changeSetting 20 = .ok (.goto 7, 3) := by decide +kernel
theorem dX0_changeSetting_23 : decode cX0_changeSetting 23 = .ok (.aload_n 0, 1) := by decide +kernel
theorem dX0_changeSetting_24 : decode cX0_changeSetting 24 = .ok (.getfield 65, 3) := by decide +kernel
theorem dX0_changeSetting_27 : decode cX0_changeSetting 27 = .ok (.istore_n 3, 1) := by decide +kernel
theorem dX0_changeSetting_28 : decode cX0_changeSetting 28 = .ok (.iload_n 1, 1) := by decide +kernel
theorem dX0_changeSetting_29 : decode cX0_changeSetting 29 = .ok (.ifCond .ne 11, 3) := by decide +kernel
theorem dX0_changeSetting_32 : decode cX0_changeSetting 32 = .ok (.aload_n 0, 1) := by decide +kernel
theorem dX0_changeSetting_33 : decode cX0_changeSetting 33 = .ok (.iload_n 2, 1) := by decide +kernel
theorem dX0_changeSetting_34 : decode cX0_changeSetting 34 = .ok (.putfield 62, 3) := by decide +kernel
theorem dX0_changeSetting_37 : decode cX0_changeSetting 37 = .ok (.goto 8, 3) := by decide +kernel
theorem dX0_changeSetting_40 : decode cX0_changeSetting 40 = .ok (.aload_n 0, 1) := by decide +kernel
theorem dX0_changeSetting_41 : decode cX0_changeSetting 41 = .ok (.iload_n 2, 1) := by decide +kernel
theorem dX0_changeSetting_42 : decode cX0_changeSetting 42 = .ok (.putfield 65, 3) := by decide +kernel
theorem dX0_changeSetting_45 : decode cX0_changeSetting 45 = .ok (.iload_n 3, 1) := by decide +kernel
theorem dX0_changeSetting_46 : decode cX0_changeSetting 46 = .ok (.ireturn, 1) := by decide +kernel
set_option maxRecDepth 20000 in
theorem ggX1_init_X0_init : GoodIn wsX1_init wsX0_init := goodIn_r _ [9, 10, 2, 3, 11, 12, 13, 14, 15, 16, 17, 18, 19, 20, 21, 22, 23, 24, 25, 26, 27, 28, 29, 30, 31, 32, 33, 34, 35, 36, 37, 38, 53, 54, 55, 42, 43, 44, 45, 46, 47, 48, 49, 50, 51, 52, 56, 57, 58, 59] (by decide +kernel) (by decide +kernel)
set_option maxRecDepth 20000 in
theorem gX1_init_X0_init_n17 : GoodIn wsX1_init (wsX0_init) := ggX1_init_X0_init
theorem dX1_init_0 : decode cX1_init 0 = .ok (.aload_n 0, 1) := by decide +kernel
theorem dX1_init_1 : decode cX1_init 1 = .ok (.invokespecial 3, 3) := by decide +kernel
theorem dX1_init_4 : decode cX1_init 4 = .ok (.aload_n 0, 1) := by decide +kernel
theorem dX1_init_5 : decode cX1_init 5 = .ok (.bipush 14, 2) := by decide +kernel
theorem dX1_init_7 : decode cX1_init 7 = .ok (.anewarray 9, 3) := by decide +kernel
theorem dX1_init_10 : decode cX1_init 10 = .ok (.putfield 11, 3) := by decide +kernel
theorem dX1_init_13 : decode cX1_init 13 = .ok (.iconst 0, 1) := by decide +kernel
theorem dX1_init_14 : decode cX1_init 14 = .ok (.istore_n 1, 1) := by decide +kernel
theorem dX1_init_15 : decode cX1_init 15 = .ok (.iload_n 1, 1) := by decide +kernel
theorem dX1_init_16 : decode cX1_init 16 = .ok (.aload_n 0, 1) := by decide +kernel
theorem dX1_init_17 : decode cX1_init 17 = .ok (.getfield 11, 3) := by decide +kernel
theorem dX1_init_20 : decode cX1_init 20 = .ok (.arraylength, 1) := by decide +kernel
theorem dX1_init_21 : decode cX1_init 21 = .ok (.if_icmp .ge 22, 3) := by decide +kernel
theorem dX1_init_24 : decode cX1_init 24 = .ok (.aload_n 0, 1) := by decide +kernel
theorem dX1_init_25 : decode cX1_init 25 = .ok (.getfield 11, 3) := by decide +kernel
theorem dX1_init_28 : decode cX1_init 28 = .ok (.iload_n 1, 1) := by decide +kernel
theorem dX1_init_29 : decode cX1_init 29 = .ok (.new 9, 3) := by decide +kernel
theorem dX1_init_32 : decode cX1_init 32 = .ok (.dup, 1) := by decide +kernel
theorem dX1_init_33 : decode cX1_init 33 = .ok (.invokespecial 17, 3) := by decide +kernel
theorem dX1_init_36 : decode cX1_init 36 = .ok (.aastore, 1) := by decide +kernel
theorem dX1_init_37 : decode cX1_init 37 = .ok (.iinc 1 1, 3) := by decide +kernel
theorem dX1_init_40 : decode cX1_init 40 = .ok (.goto (-25), 3) := by decide +kernel
theorem dX1_init_43 : decode cX1_init 43 = .ok (.return_, 1) := by decide +kernel
theorem dX1_isEmpty_0 : decode cX1_isEmpty 0 = .ok (.aload_n 0, 1) := by decide +kernel
theorem dX1_isEmpty_1 : decode cX1_isEmpty 1 = .ok (.getfield 18, 3) := by decide +kernel
theorem dX1_isEmpty_4 : decode cX1_isEmpty 4 = .ok (.ifCond .ne 7, 3) := by decide +kernel
theorem dX1_isEmpty_7 : decode cX1_isEmpty 7 = .ok (.iconst 1, 1) := by decide +kernel
theorem dX1_isEmpty_8 : decode cX1_isEmpty 8 = .ok (.goto 4, 3) := by decide +kernel
theorem dX1_isEmpty_11 : decode cX1_isEmpty 11 = .ok (.iconst 0, 1) := by decide +kernel
theorem dX1_isEmpty_12 : decode cX1_isEmpty 12 = .ok (.ireturn, 1) := by decide +kernel
theorem dX1_forgetAll_0 : decode cX1_forgetAll 0 = .ok (.aload_n 0, 1) := by decide +kernel
theorem dX1_forgetAll_1 : decode cX1_forgetAll 1 = .ok (.iconst 0, 1) := by decide +kernel
theorem dX1_forgetAll_2 : decode cX1_forgetAll 2 = .ok (.putfield 22, 3) := by decide +kernel
theorem dX1_forgetAll_5 : decode cX1_forgetAll 5 = .ok (.aload_n 0, 1) := by decide +kernel
theorem dX1_forgetAll_6 : decode cX1_forgetAll 6 = .ok (.iconst 0, 1) := by decide +kernel
theorem dX1_forgetAll_7 : decode cX1_forgetAll 7 = .ok (.putfield 18, 3) := by decide +kernel
theorem dX1_forgetAll_10 : decode cX1_forgetAll 10 = .ok (.return_, 1) := by decide +kernel
theorem dX1_stateAt_0 : decode cX1_stateAt 0 = .ok (.aload_n 0, 1) := by decide +kernel
theorem dX1_stateAt_1 : decode cX1_stateAt 1 = .ok (.getfield 22, 3) := by decide +kernel
theorem dX1_stateAt_4 : decode cX1_stateAt 4 = .ok (.iload_n 1, 1) := by decide +kernel
theorem dX1_stateAt_5 : decode cX1_stateAt 5 = .ok (.iadd, 1) := by decide +kernel
theorem dX1_stateAt_6 : decode cX1_stateAt 6 = .ok (.bipush 14, 2) := by decide +kernel
theorem dX1_stateAt_8 : decode cX1_stateAt 8 = .ok (.irem, 1) := by decide +kernel
theorem dX1_stateAt_9 : decode cX1_stateAt 9 = .ok (.istore_n 2, 1) := by decide +kernel
theorem dX1_stateAt_10 : decode cX1_stateAt 10 = .ok (.iload_n 2, 1) := by decide +kernel
theorem dX1_stateAt_11 : decode cX1_stateAt 11 = .ok (.ifCond .lt 21, 3) := by decide +kernel
theorem dX1_stateAt_14 : decode cX1_stateAt 14 = .ok (.iload_n 2, 1) := by decide +kernel
theorem dX1_stateAt_15 : decode cX1_stateAt 15 = .ok (.aload_n 0, 1) := by decide +kernel
theorem dX1_stateAt_16 : decode cX1_stateAt 16 = .ok (.getfield 11, 3) := by decide +kernel
theorem dX1_stateAt_19 : decode cX1_stateAt 19 = .ok (.arraylength, 1) := by decide +kernel
theorem dX1_stateAt_20 : decode cX1_stateAt 20 = .ok (.if_icmp .ge 12, 3) := by decide +kernel
theorem dX1_stateAt_23 : decode cX1_stateAt 23 = .ok (.aload_n 0, 1) := by decide +kernel
theorem dX1_stateAt_24 : decode cX1_stateAt 24 = .ok (.getfield 11, 3) := by decide +kernel
theorem dX1_stateAt_27 : decode cX1_stateAt 27 = .ok (.iload_n 2, 1) := by decide +kernel
theorem dX1_stateAt_28 : decode cX1_stateAt 28 = .ok (.aaload, 1) := by decide +kernel
theorem dX1_stateAt_29 : decode cX1_stateAt 29 = .ok (.goto 4, 3) := by decide +kernel
theorem dX1_stateAt_32 : decode cX1_stateAt 32 = .ok (.aconst_null, 1) := by decide +kernel
theorem dX1_stateAt_33 : decode cX1_stateAt 33 = .ok (.areturn, 1) := by decide +kernel
set_option maxRecDepth 20000 in
theorem ggX1_remember_X1_stateAt : GoodIn wsX1_remember wsX1_stateAt := goodIn_r _ [7, 2, 8, 50, 51, 52] (by decide +kernel) (by decide +kernel)
set_option maxRecDepth 20000 in
theorem gX1_remember_X1_stateAt : GoodIn wsX1_remember (wsV RX1 25 RX1 yX1_stateAt wsX1_stateAt) := goodIn_app (goodIn_of _ (by decide +kernel)) ggX1_remember_X1_stateAt
set_option maxRecDepth 20000 in
theorem ggX1_remember_X0_copyFrom : GoodIn wsX1_remember wsX0_copyFrom := goodIn_r _ [13, 14, 15, 16, 17, 18, 19, 20, 21, 22, 23, 24, 25, 26, 27, 28, 29, 30, 31, 32, 33, 34, 35, 36, 37, 38, 39, 40, 41, 42, 43, 44, 45, 46, 47, 48, 49, 53, 54, 55, 56, 57, 58, 59, 60, 61, 62, 63, 64, 65, 66, 67, 68, 69, 70] (by decide +kernel) (by decide +kernel)
set_option maxRecDepth 20000 in
theorem gX1_remember_X0_copyFrom : GoodIn wsX1_remember (wsV RX1 29 RX0 yX0_copyFrom wsX0_copyFrom) := goodIn_app (goodIn_of _ (by decide +kernel)) ggX1_remember_X0_copyFrom
theorem dX1_remember_0 : decode cX1_remember 0 = .ok (.aload_n 0, 1) := by decide +kernel
theorem dX1_remember_1 : decode cX1_remember 1 = .ok (.aload_n 0, 1) := by decide +kernel
theorem dX1_remember_2 : decode cX1_remember 2 = .ok (.getfield 18, 3) := by decide +kernel
theorem dX1_remember_5 : decode cX1_remember 5 = .ok (.invokevirtual 25, 3) := by decide +kernel
theorem dX1_remember_8 : decode cX1_remember 8 = .ok (.astore_n 2, 1) := by decide +kernel
theorem dX1_remember_9 : decode cX1_remember 9 = .ok (.aload_n 2, 1) := by decide +kernel
theorem dX1_remember_10 : decode cX1_remember 10 = .ok (.ifnonnull 4, 3) := by decide +kernel
theorem dX1_remember_13 : decode cX1_remember 13 = .ok (.return_, 1) := by decide +kernel
theorem dX1_remember_14 : decode cX1_remember 14 = .ok (.aload_n 2, 1) := by decide +kernel
theorem dX1_remember_15 : decode cX1_remember 15 = .ok (.aload_n 1, 1) := by decide +kernel
theorem dX1_remember_16 : decode cX1_remember 16 = .ok (.invokevirtual 29, 3) := by decide +kernel
theorem dX1_remember_19 : decode cX1_remember 19 = .ok (.aload_n 0, 1) := by decide +kernel
theorem dX1_remember_20 : decode cX1_remember 20 = .ok (.getfield 18, 3) := by decide +kernel
theorem dX1_remember_23 : decode cX1_remember 23 = .ok (.bipush 14, 2) := by decide +kernel
theorem dX1_remember_25 : decode cX1_remember 25 = .ok (.if_icmp .ge 16, 3) := by decide +kernel
theorem dX1_remember_28 : decode cX1_remember 28 = .ok (.aload_n 0, 1) := by decide +kernel
theorem dX1_remember_29 : decode cX1_remember 29 = .ok (.dup, 1) := by decide +kernel
theorem dX1_remember_30 : decode cX1_remember 30 = .ok (.getfield 18, 3) := by decide +kernel
theorem dX1_remember_33 : decode cX1_remember 33 = .ok (.iconst 1, 1) := by decide +kernel
theorem dX1_remember_34 : decode cX1_remember 34 = .ok (.iadd, 1) := by decide +kernel
theorem dX1_remember_35 : decode cX1_remember 35 = .ok (.putfield 18, 3) := by decide +kernel
theorem dX1_remember_38 : decode cX1_remember 38 = .ok (.goto 16, 3) := by decide +kernel
theorem dX1_remember_41 : decode cX1_remember 41 = .ok (.aload_n 0, 1) := by decide +kernel
theorem dX1_remember_42 : decode cX1_remember 42 = .ok (.aload_n 0, 1) := by decide +kernel
theorem dX1_remember_43 : decode cX1_remember 43 = .ok (.getfield 22, 3) := by decide +kernel
theorem dX1_remember_46 : decode cX1_remember 46 = .ok (.iconst 1, 1) := by decide +kernel
theorem dX1_remember_47 : decode cX1_remember 47 = .ok (.iadd, 1) := by decide +kernel
theorem dX1_remember_48 : decode cX1_remember 48 = .ok (.bipush 14, 2) := by decide +kernel
theorem dX1_remember_50 : decode cX1_remember 50 = .ok (.irem, 1) := by decide +kernel
theorem dX1_remember_51 : decode cX1_remember 51 = .ok (.putfield 22, 3) := by decide +kernel
theorem dX1_remember_54 : decode cX1_remember 54 = .ok (.return_, 1) := by decide +kernel
set_option maxRecDepth 20000 in
theorem ggX1_giveBack_X1_stateAt : GoodIn wsX1_giveBack wsX1_stateAt := goodIn_r _ [6, 7, 8, 50, 51, 52] (by decide +kernel) (by decide +kernel)
set_option maxRecDepth 20000 in
theorem gX1_giveBack_X1_stateAt : GoodIn wsX1_giveBack (wsV RX1 25 RX1 yX1_stateAt wsX1_stateAt) := goodIn_app (goodIn_of _ (by decide +kernel)) ggX1_giveBack_X1_stateAt
set_option maxRecDepth 20000 in
theorem ggX1_giveBack_X0_copyFrom : GoodIn wsX1_giveBack wsX0_copyFrom := goodIn_r _ [13, 14, 15, 16, 17, 18, 19, 20, 21, 22, 23, 24, 25, 26, 27, 28, 29, 30, 31, 32, 33, 34, 35, 36, 37, 38, 39, 40, 41, 42, 43, 44, 45, 46, 47, 48, 49, 53, 54, 55, 56, 57, 58, 59, 60, 61, 62, 63, 64, 65, 66, 67, 68, 69, 70] (by decide +kernel) (by decide +kernel)
set_option maxRecDepth 20000 in
theorem gX1_giveBack_X0_copyFrom : GoodIn wsX1_giveBack (wsV RX1 29 RX0 yX0_copyFrom wsX0_copyFrom) := goodIn_app (goodIn_of _ (by decide +kernel)) ggX1_giveBack_X0_copyFrom
theorem dX1_giveBack_0 : decode cX1_giveBack 0 = .ok (.aload_n 0, 1) := by decide +kernel
theorem dX1_giveBack_1 : decode cX1_giveBack 1 = .ok (.getfield 18, 3) := by decide +kernel
theorem dX1_giveBack_4 : decode cX1_giveBack 4 = .ok (.ifCond .le 16, 3) := by decide +kernel
theorem dX1_giveBack_7 : decode cX1_giveBack 7 = .ok (.aload_n 0, 1) := by decide +kernel
theorem dX1_giveBack_8 : decode cX1_giveBack 8 = .ok (.aload_n 0, 1) := by decide +kernel
theorem dX1_giveBack_9 : decode cX1_giveBack 9 = .ok (.getfield 18, 3) := by decide +kernel
theorem dX1_giveBack_12 : decode cX1_giveBack 12 = .ok (.iconst 1, 1) := by decide +kernel
theorem dX1_giveBack_13 : decode cX1_giveBack 13 = .ok (.isub, 1) := by decide +kernel
theorem dX1_giveBack_14 : decode cX1_giveBack 14 = .ok (.invokevirtual 25, 3) := by decide +kernel
theorem dX1_giveBack_17 : decode cX1_giveBack 17 = .ok (.goto 4, 3) := by decide +kernel
theorem dX1_giveBack_20 : decode cX1_giveBack 20 = .ok (.aconst_null, 1) := by decide +kernel
theorem dX1_giveBack_21 : decode cX1_giveBack 21 = .ok (.astore_n 2, 1) := by decide +kernel
theorem dX1_giveBack_22 : decode cX1_giveBack 22 = .ok (.aload_n 2, 1) := by decide +kernel
theorem dX1_giveBack_23 : decode cX1_giveBack 23 = .ok (.ifnull 18, 3) := by decide +kernel
theorem dX1_giveBack_26 : decode cX1_giveBack 26 = .ok (.aload_n 1, 1) := by decide +kernel
theorem dX1_giveBack_27 : decode cX1_giveBack 27 = .ok (.aload_n 2, 1) := by decide +kernel
theorem dX1_giveBack_28 : decode cX1_giveBack 28 = .ok (.invokevirtual 29, 3) := by decide +kernel
theorem dX1_giveBack_31 : decode cX1_giveBack 31 = .ok (.aload_n 0, 1) := by decide +kernel
theorem dX1_giveBack_32 : decode cX1_giveBack 32 = .ok (.dup, 1) := by decide +kernel
theorem dX1_giveBack_33 : decode cX1_giveBack 33 = .ok (.getfield 18, 3) := by decide +kernel
theorem dX1_giveBack_36 : decode cX1_giveBack 36 = .ok (.iconst 1, 1) := by decide +kernel
theorem dX1_giveBack_37 : decode cX1_giveBack 37 = .ok (.isub, 1) := by decide +kernel
theorem dX1_giveBack_38 : decode cX1_giveBack 38 = .ok (.putfield 18, 3) := by decide +kernel
theorem dX1_giveBack_41 : decode cX1_giveBack 41 = .ok (.aload_n 0, 1) := by decide +kernel
theorem dX1_giveBack_42 : decode cX1_giveBack 42 = .ok (.getfield 18, 3) := by decide +kernel
theorem dX1_giveBack_45 : decode cX1_giveBack 45 = .ok (.ireturn, 1) := by decide +kernel
theorem dX2_init_0 : decode cX2_init 0 = .ok (.aload_n 0, 1) := by decide +kernel
theorem dX2_init_1 : decode cX2_init 1 = .ok (.invokespecial 3, 3) := by decide +kernel
theorem dX2_init_4 : decode cX2_init 4 = .ok (.aload_n 0, 1) := by decide +kernel
theorem dX2_init_5 : decode cX2_init 5 = .ok (.sipush 144, 3) := by decide +kernel
theorem dX2_init_8 : decode cX2_init 8 = .ok (.newarray .int, 2) := by decide +kernel
theorem dX2_init_10 : decode cX2_init 10 = .ok (.putfield 9, 3) := by decide +kernel
theorem dX2_init_13 : decode cX2_init 13 = .ok (.aload_n 0, 1) := by decide +kernel
theorem dX2_init_14 : decode cX2_init 14 = .ok (.bipush 12, 2) := by decide +kernel
theorem dX2_init_16 : decode cX2_init 16 = .ok (.newarray .int, 2) := by decide +kernel
theorem dX2_init_18 : decode cX2_init 18 = .ok (.putfield 15, 3) := by decide +kernel
theorem dX2_init_21 : decode cX2_init 21 = .ok (.return_, 1) := by decide +kernel
set_option maxRecDepth 20000 in
theorem ggX2_openAll_X2_measureAll : GoodIn wsX2_openAll wsX2_measureAll := goodIn_r _ [6, 7, 8, 9, 10, 11, 12, 13, 14, 5, 15, 16, 17, 18, 19, 20, 21, 22, 23, 1, 24, 25, 26] (by decide +kernel) (by decide +kernel)
set_option maxRecDepth 20000 in
theorem gX2_openAll_X2_measureAll : GoodIn wsX2_openAll (wsV RX2 22 RX2 yX2_measureAll wsX2_measureAll) := goodIn_app (goodIn_of _ (by decide +kernel)) ggX2_openAll_X2_measureAll
theorem dX2_openAll_0 : decode cX2_openAll 0 = .ok (.aload_n 0, 1) := by decide +kernel
theorem dX2_openAll_1 : decode cX2_openAll 1 = .ok (.iconst 0, 1) := by decide +kernel
theorem dX2_openAll_2 : decode cX2_openAll 2 = .ok (.putfield 18, 3) := by decide +kernel
theorem dX2_openAll_5 : decode cX2_openAll 5 = .ok (.aload_n 0, 1) := by decide +kernel
theorem dX2_openAll_6 : decode cX2_openAll 6 = .ok (.invokevirtual 22, 3) := by decide +kernel
theorem dX2_openAll_9 : decode cX2_openAll 9 = .ok (.return_, 1) := by decide +kernel
theorem dX2_copyFrom_0 : decode cX2_copyFrom 0 = .ok (.aload_n 1, 1) := by decide +kernel
theorem dX2_copyFrom_1 : decode cX2_copyFrom 1 = .ok (.getfield 9, 3) := by decide +kernel
theorem dX2_copyFrom_4 : decode cX2_copyFrom 4 = .ok (.iconst 0, 1) := by decide +kernel
theorem dX2_copyFrom_5 : decode cX2_copyFrom 5 = .ok (.aload_n 0, 1) := by decide +kernel
theorem dX2_copyFrom_6 : decode cX2_copyFrom 6 = .ok (.getfield 9, 3) := by decide +kernel
theorem dX2_copyFrom_9 : decode cX2_copyFrom 9 = .ok (.iconst 0, 1) := by decide +kernel
theorem dX2_copyFrom_10 : decode cX2_copyFrom 10 = .ok (.aload_n 1, 1) := by decide +kernel
theorem dX2_copyFrom_11 : decode cX2_copyFrom 11 = .ok (.getfield 9, 3) := by decide +kernel
theorem dX2_copyFrom_14 : decode cX2_copyFrom 14 = .ok (.arraylength, 1) := by decide +kernel
theorem dX2_copyFrom_15 : decode cX2_copyFrom 15 = .ok (.aload_n 0, 1) := by decide +kernel
theorem dX2_copyFrom_16 : decode cX2_copyFrom 16 = .ok (.getfield 9, 3) := by decide +kernel
theorem dX2_copyFrom_19 : decode cX2_copyFrom 19 = .ok (.arraylength, 1) := by decide +kernel
theorem dX2_copyFrom_20 : decode cX2_copyFrom 20 = .ok (.invokestatic 25, 3) := by decide +kernel
theorem dX2_copyFrom_23 : decode cX2_copyFrom 23 = .ok (.invokestatic 31, 3) := by decide +kernel
theorem dX2_copyFrom_26 : decode cX2_copyFrom 26 = .ok (.aload_n 0, 1) := by decide +kernel
theorem dX2_copyFrom_27 : decode cX2_copyFrom 27 = .ok (.aload_n 1, 1) := by decide +kernel
theorem dX2_copyFrom_28 : decode cX2_copyFrom 28 = .ok (.getfield 18, 3) := by decide +kernel
theorem dX2_copyFrom_31 : decode cX2_copyFrom 31 = .ok (.putfield 18, 3) := by decide +kernel
theorem dX2_copyFrom_34 : decode cX2_copyFrom 34 = .ok (.return_, 1) := by decide +kernel
set_option maxRecDepth 20000 in
theorem ggX2_closedStreets_J6_bitCount_0f7a4 : GoodIn wsX2_closedStreets wsJ6_bitCount_0f7a4 := goodIn_r _ [5, 6, 7, 8] (by decide +kernel) (by decide +kernel)
set_option maxRecDepth 20000 in
theorem gX2_closedStreets_J6_bitCount_0f7a4 : GoodIn wsX2_closedStreets (va_wsS RX2 37 yJ6_bitCount_0f7a4 wsJ6_bitCount_0f7a4) := goodIn_app (goodIn_of _ (by decide +kernel)) ggX2_closedStreets_J6_bitCount_0f7a4
theorem dX2_closedStreets_0 : decode cX2_closedStreets 0 = .ok (.aload_n 0, 1) := by decide +kernel
theorem dX2_closedStreets_1 : decode cX2_closedStreets 1 = .ok (.getfield 18, 3) := by decide +kernel
theorem dX2_closedStreets_4 : decode cX2_closedStreets 4 = .ok (.invokestatic 37, 3) := by decide +kernel
theorem dX2_closedStreets_7 : decode cX2_closedStreets 7 = .ok (.ireturn, 1) := by decide +kernel
theorem dX2_streetBetween_0 : decode cX2_streetBetween 0 = .ok (.iconst 0, 1) := by decide +kernel
theorem dX2_streetBetween_1 : decode cX2_streetBetween 1 = .ok (.istore_n 2, 1) := by decide +kernel
theorem dX2_streetBetween_2 : decode cX2_streetBetween 2 = .ok (.iload_n 2, 1) := by decide +kernel
theorem dX2_streetBetween_3 : decode cX2_streetBetween 3 = .ok (.iconst 1, 1) := by decide +kernel
theorem dX2_streetBetween_4 : decode cX2_streetBetween 4 = .ok (.iadd, 1) := by decide +kernel
theorem dX2_streetBetween_5 : decode cX2_streetBetween 5 = .ok (.getstatic 43, 3) := by decide +kernel
theorem dX2_streetBetween_8 : decode cX2_streetBetween 8 = .ok (.arraylength, 1) := by decide +kernel
theorem dX2_streetBetween_9 : decode cX2_streetBetween 9 = .ok (.if_icmp .ge 53, 3) := by decide +kernel
theorem dX2_streetBetween_12 : decode cX2_streetBetween 12 = .ok (.getstatic 43, 3) := by decide +kernel
theorem dX2_streetBetween_15 : decode cX2_streetBetween 15 = .ok (.iload_n 2, 1) := by decide +kernel
theorem dX2_streetBetween_16 : decode cX2_streetBetween 16 = .ok (.iaload, 1) := by decide +kernel
theorem dX2_streetBetween_17 : decode cX2_streetBetween 17 = .ok (.iload_n 0, 1) := by decide +kernel
theorem dX2_streetBetween_18 : decode cX2_streetBetween 18 = .ok (.if_icmp .ne 14, 3) := by decide +kernel
theorem dX2_streetBetween_21 : decode cX2_streetBetween 21 = .ok (.getstatic 43, 3) := by decide +kernel
theorem dX2_streetBetween_24 : decode cX2_streetBetween 24 = .ok (.iload_n 2, 1) := by decide +kernel
theorem dX2_streetBetween_25 : decode cX2_streetBetween 25 = .ok (.iconst 1, 1) := by decide +kernel
theorem dX2_streetBetween_26 : decode cX2_streetBetween 26 = .ok (.iadd, 1) := by decide +kernel
theorem dX2_streetBetween_27 : decode cX2_streetBetween 27 = .ok (.iaload, 1) := by decide +kernel
theorem dX2_streetBetween_28 : decode cX2_streetBetween 28 = .ok (.iload_n 1, 1) := by decide +kernel
theorem dX2_streetBetween_29 : decode cX2_streetBetween 29 = .ok (.if_icmp .eq 23, 3) := by decide +kernel
theorem dX2_streetBetween_32 : decode cX2_streetBetween 32 = .ok (.getstatic 43, 3) := by decide +kernel
theorem dX2_streetBetween_35 : decode cX2_streetBetween 35 = .ok (.iload_n 2, 1) := by decide +kernel
theorem dX2_streetBetween_36 : decode cX2_streetBetween 36 = .ok (.iaload, 1) := by decide +kernel
theorem dX2_streetBetween_37 : decode cX2_streetBetween 37 = .ok (.iload_n 1, 1) := by decide +kernel
theorem dX2_streetBetween_38 : decode cX2_streetBetween 38 = .ok (.if_icmp .ne 18, 3) := by decide +kernel
theorem dX2_streetBetween_41 : decode cX2_streetBetween 41 = .ok (.getstatic 43, 3) := by decide +kernel
theorem dX2_streetBetween_44 : decode cX2_streetBetween 44 = .ok (.iload_n 2, 1) := by decide +kernel
theorem dX2_streetBetween_45 : decode cX2_streetBetween 45 = .ok (.iconst 1, 1) := by decide +kernel
theorem dX2_streetBetween_46 : decode cX2_streetBetween 46 = .ok (.iadd, 1) := by decide +kernel
theorem dX2_streetBetween_47 : decode cX2_streetBetween 47 = .ok (.iaload, 1) := by decide +kernel
theorem dX2_streetBetween_48 : decode cX2_streetBetween 48 = .ok (.iload_n 0, 1) := by decide +kernel
theorem dX2_streetBetween_49 : decode cX2_streetBetween 49 = .ok (.if_icmp .ne 7, 3) := by decide +kernel
theorem dX2_streetBetween_52 : decode cX2_streetBetween 52 = .ok (.iload_n 2, 1) := by decide +kernel
theorem dX2_streetBetween_53 : decode cX2_streetBetween 53 = .ok (.iconst 2, 1) := by decide +kernel
theorem dX2_streetBetween_54 : decode cX2_streetBetween 54 = .ok (.idiv, 1) := by decide +kernel
theorem dX2_streetBetween_55 : decode cX2_streetBetween 55 = .ok (.ireturn, 1) := by decide +kernel
theorem dX2_streetBetween_56 : decode cX2_streetBetween 56 = .ok (.iinc 2 2, 3) := by decide +kernel
theorem dX2_streetBetween_59 : decode cX2_streetBetween 59 = .ok (.goto (-57), 3) := by decide +kernel
theorem dX2_streetBetween_62 : decode cX2_streetBetween 62 = .ok (.iconst (-1), 1) := by decide +kernel
theorem dX2_streetBetween_63 : decode cX2_streetBetween 63 = .ok (.ireturn, 1) := by decide +kernel
set_option maxRecDepth 20000 in
theorem ggX2_setClosed_X2_measureAll : GoodIn wsX2_setClosed wsX2_measureAll := goodIn_r _ [6, 7, 8, 9, 10, 11, 12, 13, 14, 5, 15, 16, 17, 18, 19, 20, 21, 22, 23, 1, 24, 25, 26] (by decide +kernel) (by decide +kernel)
set_option maxRecDepth 20000 in
theorem gX2_setClosed_X2_measureAll : GoodIn wsX2_setClosed (wsV RX2 22 RX2 yX2_measureAll wsX2_measureAll) := goodIn_app (goodIn_of _ (by decide +kernel)) ggX2_setClosed_X2_measureAll
theorem dX2_setClosed_0 : decode cX2_setClosed 0 = .ok (.aload_n 0, 1) := by decide +kernel
theorem dX2_setClosed_1 : decode cX2_setClosed 1 = .ok (.getfield 18, 3) := by decide +kernel
theorem dX2_setClosed_4 : decode cX2_setClosed 4 = .ok (.istore_n 3, 1) := by decide +kernel
theorem dX2_setClosed_5 : decode cX2_setClosed 5 = .ok (.aload_n 0, 1) := by decide +kernel
theorem dX2_setClosed_6 : decode cX2_setClosed 6 = .ok (.iload_n 2, 1) := by decide +kernel
theorem dX2_setClosed_7 : decode cX2_setClosed 7 = .ok (.ifCond .eq 14, 3) := by decide +kernel
theorem dX2_setClosed_10 : decode cX2_setClosed 10 = .ok (.aload_n 0, 1) := by decide +kernel
theorem dX2_setClosed_11 : decode cX2_setClosed 11 = .ok (.getfield 18, 3) := by decide +kernel
theorem dX2_setClosed_14 : decode cX2_setClosed 14 = .ok (.iconst 1, 1) := by decide +kernel
theorem dX2_setClosed_15 : decode cX2_setClosed 15 = .ok (.iload_n 1, 1) := by decide +kernel
theorem dX2_setClosed_16 : decode cX2_setClosed 16 = .ok (.ishl, 1) := by decide +kernel
theorem dX2_setClosed_17 : decode cX2_setClosed 17 = .ok (.ior, 1) := by decide +kernel
theorem dX2_setClosed_18 : decode cX2_setClosed 18 = .ok (.goto 13, 3) := by decide +kernel
theorem dX2_setClosed_21 : decode cX2_setClosed 21 = .ok (.aload_n 0, 1) := by decide +kernel
theorem dX2_setClosed_22 : decode cX2_setClosed 22 = .ok (.getfield 18, 3) := by decide +kernel
theorem dX2_setClosed_25 : decode cX2_setClosed 25 = .ok (.iconst 1, 1) := by decide +kernel
theorem dX2_setClosed_26 : decode cX2_setClosed 26 = .ok (.iload_n 1, 1) := by decide +kernel
theorem dX2_setClosed_27 : decode cX2_setClosed 27 = .ok (.ishl, 1) := by decide +kernel
theorem dX2_setClosed_28 : decode cX2_setClosed 28 = .ok (.iconst (-1), 1) := by decide +kernel
theorem dX2_setClosed_29 : decode cX2_setClosed 29 = .ok (.ixor, 1) := by decide +kernel
theorem dX2_setClosed_30 : decode cX2_setClosed 30 = .ok (.iand, 1) := by decide +kernel
theorem dX2_setClosed_31 : decode cX2_setClosed 31 = .ok (.putfield 18, 3) := by decide +kernel
theorem dX2_setClosed_34 : decode cX2_setClosed 34 = .ok (.aload_n 0, 1) := by decide +kernel
theorem dX2_setClosed_35 : decode cX2_setClosed 35 = .ok (.getfield 18, 3) := by decide +kernel
theorem dX2_setClosed_38 : decode cX2_setClosed 38 = .ok (.iload_n 3, 1) := by decide +kernel
theorem dX2_setClosed_39 : decode cX2_setClosed 39 = .ok (.if_icmp .eq 7, 3) := by decide +kernel
theorem dX2_setClosed_42 : decode cX2_setClosed 42 = .ok (.aload_n 0, 1) := by decide +kernel
theorem dX2_setClosed_43 : decode cX2_setClosed 43 = .ok (.invokevirtual 22, 3) := by decide +kernel
theorem dX2_setClosed_46 : decode cX2_setClosed 46 = .ok (.return_, 1) := by decide +kernel
theorem dX2_wayBetween_0 : decode cX2_wayBetween 0 = .ok (.iload_n 1, 1) := by decide +kernel
theorem dX2_wayBetween_1 : decode cX2_wayBetween 1 = .ok (.bipush 12, 2) := by decide +kernel
theorem dX2_wayBetween_3 : decode cX2_wayBetween 3 = .ok (.imul, 1) := by decide +kernel
theorem dX2_wayBetween_4 : decode cX2_wayBetween 4 = .ok (.iload_n 2, 1) := by decide +kernel
theorem dX2_wayBetween_5 : decode cX2_wayBetween 5 = .ok (.iadd, 1) := by decide +kernel
theorem dX2_wayBetween_6 : decode cX2_wayBetween 6 = .ok (.istore_n 3, 1) := by decide +kernel
theorem dX2_wayBetween_7 : decode cX2_wayBetween 7 = .ok (.iload_n 3, 1) := by decide +kernel
theorem dX2_wayBetween_8 : decode cX2_wayBetween 8 = .ok (.ifCond .lt 21, 3) := by decide +kernel
theorem dX2_wayBetween_11 : decode cX2_wayBetween 11 = .ok (.iload_n 3, 1) := by decide +kernel
theorem dX2_wayBetween_12 : decode cX2_wayBetween 12 = .ok (.aload_n 0, 1) := by decide +kernel
theorem dX2_wayBetween_13 : decode cX2_wayBetween 13 = .ok (.getfield 9, 3) := by decide +kernel
theorem dX2_wayBetween_16 : decode cX2_wayBetween 16 = .ok (.arraylength, 1) := by decide +kernel
theorem dX2_wayBetween_17 : decode cX2_wayBetween 17 = .ok (.if_icmp .ge 12, 3) := by decide +kernel
theorem dX2_wayBetween_20 : decode cX2_wayBetween 20 = .ok (.aload_n 0, 1) := by decide +kernel
theorem dX2_wayBetween_21 : decode cX2_wayBetween 21 = .ok (.getfield 9, 3) := by decide +kernel
theorem dX2_wayBetween_24 : decode cX2_wayBetween 24 = .ok (.iload_n 3, 1) := by decide +kernel
theorem dX2_wayBetween_25 : decode cX2_wayBetween 25 = .ok (.iaload, 1) := by decide +kernel
theorem dX2_wayBetween_26 : decode cX2_wayBetween 26 = .ok (.goto 4, 3) := by decide +kernel
theorem dX2_wayBetween_29 : decode cX2_wayBetween 29 = .ok (.iconst (-1), 1) := by decide +kernel
theorem dX2_wayBetween_30 : decode cX2_wayBetween 30 = .ok (.ireturn, 1) := by decide +kernel
theorem dX2_isWithin_0 : decode cX2_isWithin 0 = .ok (.iload_n 1, 1) := by decide +kernel
theorem dX2_isWithin_1 : decode cX2_isWithin 1 = .ok (.bipush 12, 2) := by decide +kernel
theorem dX2_isWithin_3 : decode cX2_isWithin 3 = .ok (.imul, 1) := by decide +kernel
theorem dX2_isWithin_4 : decode cX2_isWithin 4 = .ok (.iload_n 2, 1) := by decide +kernel
theorem dX2_isWithin_5 : decode cX2_isWithin 5 = .ok (.iadd, 1) := by decide +kernel
theorem dX2_isWithin_6 : decode cX2_isWithin 6 = .ok (.istore 4, 2) := by decide +kernel
theorem dX2_isWithin_8 : decode cX2_isWithin 8 = .ok (.iload 4, 2) := by decide +kernel
theorem dX2_isWithin_10 : decode cX2_isWithin 10 = .ok (.ifCond .lt 39, 3) := by decide +kernel
theorem dX2_isWithin_13 : decode cX2_isWithin 13 = .ok (.iload 4, 2) := by decide +kernel
theorem dX2_isWithin_15 : decode cX2_isWithin 15 = .ok (.aload_n 0, 1) := by decide +kernel
theorem dX2_isWithin_16 : decode cX2_isWithin 16 = .ok (.getfield 9, 3) := by decide +kernel
theorem dX2_isWithin_19 : decode cX2_isWithin 19 = .ok (.arraylength, 1) := by decide +kernel
theorem dX2_isWithin_20 : decode cX2_isWithin 20 = .ok (.if_icmp .ge 29, 3) := by decide +kernel
theorem dX2_isWithin_23 : decode cX2_isWithin 23 = .ok (.aload_n 0, 1) := by decide +kernel
theorem dX2_isWithin_24 : decode cX2_isWithin 24 = .ok (.getfield 9, 3) := by decide +kernel
theorem dX2_isWithin_27 : decode cX2_isWithin 27 = .ok (.iload 4, 2) := by decide +kernel
theorem dX2_isWithin_29 : decode cX2_isWithin 29 = .ok (.iaload, 1) := by decide +kernel
theorem dX2_isWithin_30 : decode cX2_isWithin 30 = .ok (.iconst (-1), 1) := by decide +kernel
theorem dX2_isWithin_31 : decode cX2_isWithin 31 = .ok (.if_icmp .eq 18, 3) := by decide +kernel
theorem dX2_isWithin_34 : decode cX2_isWithin 34 = .ok (.aload_n 0, 1) := by decide +kernel
theorem dX2_isWithin_35 : decode cX2_isWithin 35 = .ok (.getfield 9, 3) := by decide +kernel
theorem dX2_isWithin_38 : decode cX2_isWithin 38 = .ok (.iload 4, 2) := by decide +kernel
theorem dX2_isWithin_40 : decode cX2_isWithin 40 = .ok (.iaload, 1) := by decide +kernel
theorem dX2_isWithin_41 : decode cX2_isWithin 41 = .ok (.iload_n 3, 1) := by decide +kernel
theorem dX2_isWithin_42 : decode cX2_isWithin 42 = .ok (.if_icmp .gt 7, 3) := by decide +kernel
theorem dX2_isWithin_45 : decode cX2_isWithin 45 = .ok (.iconst 1, 1) := by decide +kernel
theorem dX2_isWithin_46 : decode cX2_isWithin 46 = .ok (.goto 4, 3) := by decide +kernel
theorem dX2_isWithin_49 : decode cX2_isWithin 49 = .ok (.iconst 0, 1) := by decide +kernel
theorem dX2_isWithin_50 : decode cX2_isWithin 50 = .ok (.ireturn, 1) := by decide +kernel
set_option maxRecDepth 20000 in
theorem ggX2_measureAll_J7_fill_53178 : GoodIn wsX2_measureAll wsJ7_fill_53178 := goodIn_r _ [5] (by decide +kernel) (by decide +kernel)
set_option maxRecDepth 20000 in
theorem gX2_measureAll_J7_fill_53178 : GoodIn wsX2_measureAll (va_wsS RX2 46 yJ7_fill_53178 wsJ7_fill_53178) := goodIn_app (goodIn_of _ (by decide +kernel)) ggX2_measureAll_J7_fill_53178
set_option maxRecDepth 20000 in
theorem ggX2_measureAll_X2_noteWays : GoodIn wsX2_measureAll wsX2_noteWays := goodIn_r _ [10, 1, 11, 12, 13, 20, 21, 22] (by decide +kernel) (by decide +kernel)
set_option maxRecDepth 20000 in
theorem gX2_measureAll_X2_noteWays : GoodIn wsX2_measureAll (wsV RX2 52 RX2 yX2_noteWays wsX2_noteWays) := goodIn_app (goodIn_of _ (by decide +kernel)) ggX2_measureAll_X2_noteWays
set_option maxRecDepth 20000 in
theorem ggX2_measureAll_X2_besideAnyOf : GoodIn wsX2_measureAll wsX2_besideAnyOf := goodIn_r _ [17, 18, 19, 11, 12, 13, 20, 21, 22] (by decide +kernel) (by decide +kernel)
set_option maxRecDepth 20000 in
theorem gX2_measureAll_X2_besideAnyOf : GoodIn wsX2_measureAll (wsV RX2 56 RX2 yX2_besideAnyOf wsX2_besideAnyOf) := goodIn_app (goodIn_of _ (by decide +kernel)) ggX2_measureAll_X2_besideAnyOf
theorem dX2_measureAll_0 : decode cX2_measureAll 0 = .ok (.aload_n 0, 1) := by decide +kernel
theorem dX2_measureAll_1 : decode cX2_measureAll 1 = .ok (.getfield 9, 3) := by decide +kernel
theorem dX2_measureAll_4 : decode cX2_measureAll 4 = .ok (.iconst (-1), 1) := by decide +kernel
theorem dX2_measureAll_5 : decode cX2_measureAll 5 = .ok (.invokestatic 46, 3) := by decide +kernel
theorem dX2_measureAll_8 : decode cX2_measureAll 8 = .ok (.iconst 0, 1) := by decide +kernel
theorem dX2_measureAll_9 : decode cX2_measureAll 9 = .ok (.istore_n 1, 1) := by decide +kernel
theorem dX2_measureAll_10 : decode cX2_measureAll 10 = .ok (.iload_n 1, 1) := by decide +kernel
theorem dX2_measureAll_11 : decode cX2_measureAll 11 = .ok (.bipush 12, 2) := by decide +kernel
theorem dX2_measureAll_13 : decode cX2_measureAll 13 = .ok (.if_icmp .ge 57, 3) := by decide +kernel
theorem dX2_measureAll_16 : decode cX2_measureAll 16 = .ok (.iconst 0, 1) := by decide +kernel
theorem dX2_measureAll_17 : decode cX2_measureAll 17 = .ok (.istore_n 2, 1) := by decide +kernel
theorem dX2_measureAll_18 : decode cX2_measureAll 18 = .ok (.iconst 1, 1) := by decide +kernel
theorem dX2_measureAll_19 : decode cX2_measureAll 19 = .ok (.iload_n 1, 1) := by decide +kernel
theorem dX2_measureAll_20 : decode cX2_measureAll 20 = .ok (.ishl, 1) := by decide +kernel
theorem dX2_measureAll_21 : decode cX2_measureAll 21 = .ok (.istore_n 3, 1) := by decide +kernel
theorem dX2_measureAll_22 : decode cX2_measureAll 22 = .ok (.iconst 0, 1) := by decide +kernel
theorem dX2_measureAll_23 : decode cX2_measureAll 23 = .ok (.istore 4, 2) := by decide +kernel
theorem dX2_measureAll_25 : decode cX2_measureAll 25 = .ok (.iload 4, 2) := by decide +kernel
theorem dX2_measureAll_27 : decode cX2_measureAll 27 = .ok (.bipush 12, 2) := by decide +kernel
theorem dX2_measureAll_29 : decode cX2_measureAll 29 = .ok (.if_icmp .ge 35, 3) := by decide +kernel
theorem dX2_measureAll_32 : decode cX2_measureAll 32 = .ok (.iload_n 3, 1) := by decide +kernel
theorem dX2_measureAll_33 : decode cX2_measureAll 33 = .ok (.ifCond .eq 31, 3) := by decide +kernel
theorem dX2_measureAll_36 : decode cX2_measureAll 36 = .ok (.aload_n 0, 1) := by decide +kernel
theorem dX2_measureAll_37 : decode cX2_measureAll 37 = .ok (.iload_n 1, 1) := by decide +kernel
theorem dX2_measureAll_38 : decode cX2_measureAll 38 = .ok (.iload_n 3, 1) := by decide +kernel
theorem dX2_measureAll_39 : decode cX2_measureAll 39 = .ok (.iload 4, 2) := by decide +kernel
theorem dX2_measureAll_41 : decode cX2_measureAll 41 = .ok (.invokevirtual 52, 3) := by decide +kernel
theorem dX2_measureAll_44 : decode cX2_measureAll 44 = .ok (.iload_n 2, 1) := by decide +kernel
theorem dX2_measureAll_45 : decode cX2_measureAll 45 = .ok (.iload_n 3, 1) := by decide +kernel
theorem dX2_measureAll_46 : decode cX2_measureAll 46 = .ok (.ior, 1) := by decide +kernel
theorem dX2_measureAll_47 : decode cX2_measureAll 47 = .ok (.istore_n 2, 1) := by decide +kernel
theorem dX2_measureAll_48 : decode cX2_measureAll 48 = .ok (.aload_n 0, 1) := by decide +kernel
theorem dX2_measureAll_49 : decode cX2_measureAll 49 = .ok (.iload_n 3, 1) := by decide +kernel
theorem dX2_measureAll_50 : decode cX2_measureAll 50 = .ok (.invokevirtual 56, 3) := by decide +kernel
theorem dX2_measureAll_53 : decode cX2_measureAll 53 = .ok (.iload_n 2, 1) := by decide +kernel
theorem dX2_measureAll_54 : decode cX2_measureAll 54 = .ok (.iconst (-1), 1) := by decide +kernel
theorem dX2_measureAll_55 : decode cX2_measureAll 55 = .ok (.ixor, 1) := by decide +kernel
theorem dX2_measureAll_56 : decode cX2_measureAll 56 = .ok (.iand, 1) := by decide +kernel
theorem dX2_measureAll_57 : decode cX2_measureAll 57 = .ok (.istore_n 3, 1) := by decide +kernel
theorem dX2_measureAll_58 : decode cX2_measureAll 58 = .ok (.iinc 4 1, 3) := by decide +kernel
theorem dX2_measureAll_61 : decode cX2_measureAll 61 = .ok (.goto (-36), 3) := by decide +kernel
theorem dX2_measureAll_64 : decode cX2_measureAll 64 = .ok (.iinc 1 1, 3) := by decide +kernel
theorem dX2_measureAll_67 : decode cX2_measureAll 67 = .ok (.goto (-57), 3) := by decide +kernel
theorem dX2_measureAll_70 : decode cX2_measureAll 70 = .ok (.return_, 1) := by decide +kernel
set_option maxRecDepth 20000 in
theorem ggX2_noteWays_X7_hasBit : GoodIn wsX2_noteWays wsX7_hasBit := goodIn_r _ [4] (by decide +kernel) (by decide +kernel)
set_option maxRecDepth 20000 in
theorem gX2_noteWays_X7_hasBit_n59 : GoodIn wsX2_noteWays (wsX7_hasBit) := ggX2_noteWays_X7_hasBit
theorem dX2_noteWays_0 : decode cX2_noteWays 0 = .ok (.iconst 0, 1) := by decide +kernel
theorem dX2_noteWays_1 : decode cX2_noteWays 1 = .ok (.istore 4, 2) := by decide +kernel
theorem dX2_noteWays_3 : decode cX2_noteWays 3 = .ok (.iload 4, 2) := by decide +kernel
theorem dX2_noteWays_5 : decode cX2_noteWays 5 = .ok (.bipush 12, 2) := by decide +kernel
theorem dX2_noteWays_7 : decode cX2_noteWays 7 = .ok (.if_icmp .ge 50, 3) := by decide +kernel
theorem dX2_noteWays_10 : decode cX2_noteWays 10 = .ok (.iload_n 1, 1) := by decide +kernel
theorem dX2_noteWays_11 : decode cX2_noteWays 11 = .ok (.bipush 12, 2) := by decide +kernel
theorem dX2_noteWays_13 : decode cX2_noteWays 13 = .ok (.imul, 1) := by decide +kernel
theorem dX2_noteWays_14 : decode cX2_noteWays 14 = .ok (.iload 4, 2) := by decide +kernel
theorem dX2_noteWays_16 : decode cX2_noteWays 16 = .ok (.iadd, 1) := by decide +kernel
theorem dX2_noteWays_17 : decode cX2_noteWays 17 = .ok (.istore 5, 2) := by decide +kernel
theorem dX2_noteWays_19 : decode cX2_noteWays 19 = .ok (.iload_n 2, 1) := by decide +kernel
theorem dX2_noteWays_20 : decode cX2_noteWays 20 = .ok (.iload 4, 2) := by decide +kernel
theorem dX2_noteWays_22 : decode cX2_noteWays 22 = .ok (.invokestatic 59, 3) := by decide +kernel
theorem dX2_noteWays_25 : decode cX2_noteWays 25 = .ok (.ifCond .eq 26, 3) := by decide +kernel
theorem dX2_noteWays_28 : decode cX2_noteWays 28 = .ok (.iload 5, 2) := by decide +kernel
theorem dX2_noteWays_30 : decode cX2_noteWays 30 = .ok (.ifCond .lt 21, 3) := by decide +kernel
theorem dX2_noteWays_33 : decode cX2_noteWays 33 = .ok (.iload 5, 2) := by decide +kernel
theorem dX2_noteWays_35 : decode cX2_noteWays 35 = .ok (.aload_n 0, 1) := by decide +kernel
theorem dX2_noteWays_36 : decode cX2_noteWays 36 = .ok (.getfield 9, 3) := by decide +kernel
theorem dX2_noteWays_39 : decode cX2_noteWays 39 = .ok (.arraylength, 1) := by decide +kernel
theorem dX2_noteWays_40 : decode cX2_noteWays 40 = .ok (.if_icmp .ge 11, 3) := by decide +kernel
theorem dX2_noteWays_43 : decode cX2_noteWays 43 = .ok (.aload_n 0, 1) := by decide +kernel
theorem dX2_noteWays_44 : decode cX2_noteWays 44 = .ok (.getfield 9, 3) := by decide +kernel
theorem dX2_noteWays_47 : decode cX2_noteWays 47 = .ok (.iload 5, 2) := by decide +kernel
theorem dX2_noteWays_49 : decode cX2_noteWays 49 = .ok (.iload_n 3, 1) := by decide +kernel
theorem dX2_noteWays_50 : decode cX2_noteWays 50 = .ok (.iastore, 1) := by decide +kernel
theorem dX2_noteWays_51 : decode cX2_noteWays 51 = .ok (.iinc 4 1, 3) := by decide +kernel
theorem dX2_noteWays_54 : decode cX2_noteWays 54 = .ok (.goto (-51), 3) := by decide +kernel
theorem dX2_noteWays_57 : decode cX2_noteWays 57 = .ok (.return_, 1) := by decide +kernel
set_option maxRecDepth 20000 in
theorem ggX2_besideAnyOf_X7_hasBit : GoodIn wsX2_besideAnyOf wsX7_hasBit := goodIn_r _ [5] (by decide +kernel) (by decide +kernel)
set_option maxRecDepth 20000 in
theorem gX2_besideAnyOf_X7_hasBit_n59 : GoodIn wsX2_besideAnyOf (wsX7_hasBit) := ggX2_besideAnyOf_X7_hasBit
theorem dX2_besideAnyOf_0 : decode cX2_besideAnyOf 0 = .ok (.iconst 0, 1) := by decide +kernel
theorem dX2_besideAnyOf_1 : decode cX2_besideAnyOf 1 = .ok (.istore_n 2, 1) := by decide +kernel
theorem dX2_besideAnyOf_2 : decode cX2_besideAnyOf 2 = .ok (.iconst 0, 1) := by decide +kernel
theorem dX2_besideAnyOf_3 : decode cX2_besideAnyOf 3 = .ok (.istore_n 3, 1) := by decide +kernel
theorem dX2_besideAnyOf_4 : decode cX2_besideAnyOf 4 = .ok (.iload_n 3, 1) := by decide +kernel
theorem dX2_besideAnyOf_5 : decode cX2_besideAnyOf 5 = .ok (.iconst 1, 1) := by decide +kernel
theorem dX2_besideAnyOf_6 : decode cX2_besideAnyOf 6 = .ok (.iadd, 1) := by decide +kernel
theorem dX2_besideAnyOf_7 : decode cX2_besideAnyOf 7 = .ok (.getstatic 43, 3) := by decide +kernel
theorem dX2_besideAnyOf_10 : decode cX2_besideAnyOf 10 = .ok (.arraylength, 1) := by decide +kernel
theorem dX2_besideAnyOf_11 : decode cX2_besideAnyOf 11 = .ok (.if_icmp .ge 78, 3) := by decide +kernel
theorem dX2_besideAnyOf_14 : decode cX2_besideAnyOf 14 = .ok (.aload_n 0, 1) := by decide +kernel
theorem dX2_besideAnyOf_15 : decode cX2_besideAnyOf 15 = .ok (.getfield 18, 3) := by decide +kernel
theorem dX2_besideAnyOf_18 : decode cX2_besideAnyOf 18 = .ok (.iload_n 3, 1) := by decide +kernel
theorem dX2_besideAnyOf_19 : decode cX2_besideAnyOf 19 = .ok (.iconst 2, 1) := by decide +kernel
theorem dX2_besideAnyOf_20 : decode cX2_besideAnyOf 20 = .ok (.idiv, 1) := by decide +kernel
theorem dX2_besideAnyOf_21 : decode cX2_besideAnyOf 21 = .ok (.invokestatic 59, 3) := by decide +kernel
theorem dX2_besideAnyOf_24 : decode cX2_besideAnyOf 24 = .ok (.ifCond .ne 59, 3) := by decide +kernel
theorem dX2_besideAnyOf_27 : decode cX2_besideAnyOf 27 = .ok (.iload_n 2, 1) := by decide +kernel
theorem dX2_besideAnyOf_28 : decode cX2_besideAnyOf 28 = .ok (.iload_n 1, 1) := by decide +kernel
theorem dX2_besideAnyOf_29 : decode cX2_besideAnyOf 29 = .ok (.getstatic 43, 3) := by decide +kernel
theorem dX2_besideAnyOf_32 : decode cX2_besideAnyOf 32 = .ok (.iload_n 3, 1) := by decide +kernel
theorem dX2_besideAnyOf_33 : decode cX2_besideAnyOf 33 = .ok (.iaload, 1) := by decide +kernel
theorem dX2_besideAnyOf_34 : decode cX2_besideAnyOf 34 = .ok (.invokestatic 59, 3) := by decide +kernel
theorem dX2_besideAnyOf_37 : decode cX2_besideAnyOf 37 = .ok (.ifCond .eq 15, 3) := by decide +kernel
theorem dX2_besideAnyOf_40 : decode cX2_besideAnyOf 40 = .ok (.iconst 1, 1) := by decide +kernel
theorem dX2_besideAnyOf_41 : decode cX2_besideAnyOf 41 = .ok (.getstatic 43, 3) := by decide +kernel
theorem dX2_besideAnyOf_44 : decode cX2_besideAnyOf 44 = .ok (.iload_n 3, 1) := by decide +kernel
theorem dX2_besideAnyOf_45 : decode cX2_besideAnyOf 45 = .ok (.iconst 1, 1) := by decide +kernel
theorem dX2_besideAnyOf_46 : decode cX2_besideAnyOf 46 = .ok (.iadd, 1) := by decide +kernel
theorem dX2_besideAnyOf_47 : decode cX2_besideAnyOf 47 = .ok (.iaload, 1) := by decide +kernel
theorem dX2_besideAnyOf_48 : decode cX2_besideAnyOf 48 = .ok (.ishl, 1) := by decide +kernel
theorem dX2_besideAnyOf_49 : decode cX2_besideAnyOf 49 = .ok (.goto 4, 3) := by decide +kernel
theorem dX2_besideAnyOf_52 : decode cX2_besideAnyOf 52 = .ok (.iconst 0, 1) := by decide +kernel
theorem dX2_besideAnyOf_53 : decode cX2_besideAnyOf 53 = .ok (.ior, 1) := by decide +kernel
theorem dX2_besideAnyOf_54 : decode cX2_besideAnyOf 54 = .ok (.istore_n 2, 1) := by decide +kernel
theorem dX2_besideAnyOf_55 : decode cX2_besideAnyOf 55 = .ok (.iload_n 2, 1) := by decide +kernel
theorem dX2_besideAnyOf_56 : decode cX2_besideAnyOf 56 = .ok (.iload_n 1, 1) := by decide +kernel
theorem dX2_besideAnyOf_57 : decode cX2_besideAnyOf 57 = .ok (.getstatic 43, 3) := by decide +kernel
theorem dX2_besideAnyOf_60 : decode cX2_besideAnyOf 60 = .ok (.iload_n 3, 1) := by decide +kernel
theorem dX2_besideAnyOf_61 : decode cX2_besideAnyOf 61 = .ok (.iconst 1, 1) := by decide +kernel
theorem dX2_besideAnyOf_62 : decode cX2_besideAnyOf 62 = .ok (.iadd, 1) := by decide +kernel
theorem dX2_besideAnyOf_63 : decode cX2_besideAnyOf 63 = .ok (.iaload, 1) := by decide +kernel
theorem dX2_besideAnyOf_64 : decode cX2_besideAnyOf 64 = .ok (.invokestatic 59, 3) := by decide +kernel
theorem dX2_besideAnyOf_67 : decode cX2_besideAnyOf 67 = .ok (.ifCond .eq 13, 3) := by decide +kernel
theorem dX2_besideAnyOf_70 : decode cX2_besideAnyOf 70 = .ok (.iconst 1, 1) := by decide +kernel
theorem dX2_besideAnyOf_71 : decode cX2_besideAnyOf 71 = .ok (.getstatic 43, 3) := by decide +kernel
theorem dX2_besideAnyOf_74 : decode cX2_besideAnyOf 74 = .ok (.iload_n 3, 1) := by decide +kernel
theorem dX2_besideAnyOf_75 : decode cX2_besideAnyOf 75 = .ok (.iaload, 1) := by decide +kernel
theorem dX2_besideAnyOf_76 : decode cX2_besideAnyOf 76 = .ok (.ishl, 1) := by decide +kernel
theorem dX2_besideAnyOf_77 : decode cX2_besideAnyOf 77 = .ok (.goto 4, 3) := by decide +kernel
theorem dX2_besideAnyOf_80 : decode cX2_besideAnyOf 80 = .ok (.iconst 0, 1) := by decide +kernel
theorem dX2_besideAnyOf_81 : decode cX2_besideAnyOf 81 = .ok (.ior, 1) := by decide +kernel
theorem dX2_besideAnyOf_82 : decode cX2_besideAnyOf 82 = .ok (.istore_n 2, 1) := by decide +kernel
theorem dX2_besideAnyOf_83 : decode cX2_besideAnyOf 83 = .ok (.iinc 3 2, 3) := by decide +kernel
theorem dX2_besideAnyOf_86 : decode cX2_besideAnyOf 86 = .ok (.goto (-82), 3) := by decide +kernel
theorem dX2_besideAnyOf_89 : decode cX2_besideAnyOf 89 = .ok (.iload_n 2, 1) := by decide +kernel
theorem dX2_besideAnyOf_90 : decode cX2_besideAnyOf 90 = .ok (.ireturn, 1) := by decide +kernel
set_option maxRecDepth 20000 in
theorem ggX2_wayBySweeps_J7_fill_53178 : GoodIn wsX2_wayBySweeps wsJ7_fill_53178 := goodIn_r _ [5] (by decide +kernel) (by decide +kernel)
set_option maxRecDepth 20000 in
theorem gX2_wayBySweeps_J7_fill_53178 : GoodIn wsX2_wayBySweeps (va_wsS RX2 46 yJ7_fill_53178 wsJ7_fill_53178) := goodIn_app (goodIn_of _ (by decide +kernel)) ggX2_wayBySweeps_J7_fill_53178
set_option maxRecDepth 20000 in
theorem ggX2_wayBySweeps_X2_sweepOnce : GoodIn wsX2_wayBySweeps wsX2_sweepOnce := goodIn_r _ [10, 11, 12, 13, 14, 15, 16, 17, 18, 9, 19, 1, 20, 21, 22] (by decide +kernel) (by decide +kernel)
set_option maxRecDepth 20000 in
theorem gX2_wayBySweeps_X2_sweepOnce : GoodIn wsX2_wayBySweeps (wsV RX2 63 RX2 yX2_sweepOnce wsX2_sweepOnce) := goodIn_app (goodIn_of _ (by decide +kernel)) ggX2_wayBySweeps_X2_sweepOnce
theorem dX2_wayBySweeps_0 : decode cX2_wayBySweeps 0 = .ok (.iload_n 1, 1) := by decide +kernel
theorem dX2_wayBySweeps_1 : decode cX2_wayBySweeps 1 = .ok (.ifCond .lt 25, 3) := by decide +kernel
theorem dX2_wayBySweeps_4 : decode cX2_wayBySweeps 4 = .ok (.iload_n 1, 1) := by decide +kernel
theorem dX2_wayBySweeps_5 : decode cX2_wayBySweeps 5 = .ok (.aload_n 0, 1) := by decide +kernel
theorem dX2_wayBySweeps_6 : decode cX2_wayBySweeps 6 = .ok (.getfield 15, 3) := by decide +kernel
theorem dX2_wayBySweeps_9 : decode cX2_wayBySweeps 9 = .ok (.arraylength, 1) := by decide +kernel
theorem dX2_wayBySweeps_10 : decode cX2_wayBySweeps 10 = .ok (.if_icmp .ge 16, 3) := by decide +kernel
theorem dX2_wayBySweeps_13 : decode cX2_wayBySweeps 13 = .ok (.iload_n 2, 1) := by decide +kernel
theorem dX2_wayBySweeps_14 : decode cX2_wayBySweeps 14 = .ok (.ifCond .lt 12, 3) := by decide +kernel
theorem dX2_wayBySweeps_17 : decode cX2_wayBySweeps 17 = .ok (.iload_n 2, 1) := by decide +kernel
theorem dX2_wayBySweeps_18 : decode cX2_wayBySweeps 18 = .ok (.aload_n 0, 1) := by decide +kernel
theorem dX2_wayBySweeps_19 : decode cX2_wayBySweeps 19 = .ok (.getfield 15, 3) := by decide +kernel
theorem dX2_wayBySweeps_22 : decode cX2_wayBySweeps 22 = .ok (.arraylength, 1) := by decide +kernel
theorem dX2_wayBySweeps_23 : decode cX2_wayBySweeps 23 = .ok (.if_icmp .lt 5, 3) := by decide +kernel
theorem dX2_wayBySweeps_26 : decode cX2_wayBySweeps 26 = .ok (.iconst (-1), 1) := by decide +kernel
theorem dX2_wayBySweeps_27 : decode cX2_wayBySweeps 27 = .ok (.ireturn, 1) := by decide +kernel
theorem dX2_wayBySweeps_28 : decode cX2_wayBySweeps 28 = .ok (.aload_n 0, 1) := by decide +kernel
theorem dX2_wayBySweeps_29 : decode cX2_wayBySweeps 29 = .ok (.getfield 15, 3) := by decide +kernel
theorem dX2_wayBySweeps_32 : decode cX2_wayBySweeps 32 = .ok (.sipush 1000, 3) := by decide +kernel
theorem dX2_wayBySweeps_35 : decode cX2_wayBySweeps 35 = .ok (.invokestatic 46, 3) := by decide +kernel
theorem dX2_wayBySweeps_38 : decode cX2_wayBySweeps 38 = .ok (.aload_n 0, 1) := by decide +kernel
theorem dX2_wayBySweeps_39 : decode cX2_wayBySweeps 39 = .ok (.getfield 15, 3) := by decide +kernel
theorem dX2_wayBySweeps_42 : decode cX2_wayBySweeps 42 = .ok (.iload_n 1, 1) := by decide +kernel
theorem dX2_wayBySweeps_43 : decode cX2_wayBySweeps 43 = .ok (.iconst 0, 1) := by decide +kernel
theorem dX2_wayBySweeps_44 : decode cX2_wayBySweeps 44 = .ok (.iastore, 1) := by decide +kernel
theorem dX2_wayBySweeps_45 : decode cX2_wayBySweeps 45 = .ok (.iconst 1, 1) := by decide +kernel
theorem dX2_wayBySweeps_46 : decode cX2_wayBySweeps 46 = .ok (.istore_n 3, 1) := by decide +kernel
theorem dX2_wayBySweeps_47 : decode cX2_wayBySweeps 47 = .ok (.iconst 0, 1) := by decide +kernel
theorem dX2_wayBySweeps_48 : decode cX2_wayBySweeps 48 = .ok (.istore 4, 2) := by decide +kernel
theorem dX2_wayBySweeps_50 : decode cX2_wayBySweeps 50 = .ok (.iload 4, 2) := by decide +kernel
theorem dX2_wayBySweeps_52 : decode cX2_wayBySweeps 52 = .ok (.bipush 12, 2) := by decide +kernel
theorem dX2_wayBySweeps_54 : decode cX2_wayBySweeps 54 = .ok (.if_icmp .gt 18, 3) := by decide +kernel
theorem dX2_wayBySweeps_57 : decode cX2_wayBySweeps 57 = .ok (.iload_n 3, 1) := by decide +kernel
theorem dX2_wayBySweeps_58 : decode cX2_wayBySweeps 58 = .ok (.ifCond .eq 14, 3) := by decide +kernel
theorem dX2_wayBySweeps_61 : decode cX2_wayBySweeps 61 = .ok (.aload_n 0, 1) := by decide +kernel
theorem dX2_wayBySweeps_62 : decode cX2_wayBySweeps 62 = .ok (.invokevirtual 63, 3) := by decide +kernel
theorem dX2_wayBySweeps_65 : decode cX2_wayBySweeps 65 = .ok (.istore_n 3, 1) := by decide +kernel
theorem dX2_wayBySweeps_66 : decode cX2_wayBySweeps 66 = .ok (.iinc 4 1, 3) := by decide +kernel
theorem dX2_wayBySweeps_69 : decode cX2_wayBySweeps 69 = .ok (.goto (-19), 3) := by decide +kernel
theorem dX2_wayBySweeps_72 : decode cX2_wayBySweeps 72 = .ok (.aload_n 0, 1) := by decide +kernel
theorem dX2_wayBySweeps_73 : decode cX2_wayBySweeps 73 = .ok (.getfield 15, 3) := by decide +kernel
theorem dX2_wayBySweeps_76 : decode cX2_wayBySweeps 76 = .ok (.iload_n 2, 1) := by decide +kernel
theorem dX2_wayBySweeps_77 : decode cX2_wayBySweeps 77 = .ok (.iaload, 1) := by decide +kernel
theorem dX2_wayBySweeps_78 : decode cX2_wayBySweeps 78 = .ok (.sipush 1000, 3) := by decide +kernel
theorem dX2_wayBySweeps_81 : decode cX2_wayBySweeps 81 = .ok (.if_icmp .ne 7, 3) := by decide +kernel
theorem dX2_wayBySweeps_84 : decode cX2_wayBySweeps 84 = .ok (.iconst (-1), 1) := by decide +kernel
theorem dX2_wayBySweeps_85 : decode cX2_wayBySweeps 85 = .ok (.goto 9, 3) := by decide +kernel
theorem dX2_wayBySweeps_88 : decode cX2_wayBySweeps 88 = .ok (.aload_n 0, 1) := by decide +kernel
theorem dX2_wayBySweeps_89 : decode cX2_wayBySweeps 89 = .ok (.getfield 15, 3) := by decide +kernel
theorem dX2_wayBySweeps_92 : decode cX2_wayBySweeps 92 = .ok (.iload_n 2, 1) := by decide +kernel
theorem dX2_wayBySweeps_93 : decode cX2_wayBySweeps 93 = .ok (.iaload, 1) := by decide +kernel
theorem dX2_wayBySweeps_94 : decode cX2_wayBySweeps 94 = .ok (.ireturn, 1) := by decide +kernel
set_option maxRecDepth 20000 in
theorem ggX2_sweepOnce_X7_hasBit : GoodIn wsX2_sweepOnce wsX7_hasBit := goodIn_r _ [5] (by decide +kernel) (by decide +kernel)
set_option maxRecDepth 20000 in
theorem gX2_sweepOnce_X7_hasBit_n59 : GoodIn wsX2_sweepOnce (wsX7_hasBit) := ggX2_sweepOnce_X7_hasBit
set_option maxRecDepth 20000 in
theorem ggX2_sweepOnce_X2_shortens : GoodIn wsX2_sweepOnce wsX2_shortens := goodIn_r _ [10, 11, 12, 13, 14] (by decide +kernel) (by decide +kernel)
set_option maxRecDepth 20000 in
theorem gX2_sweepOnce_X2_shortens : GoodIn wsX2_sweepOnce (wsV RX2 67 RX2 yX2_shortens wsX2_shortens) := goodIn_app (goodIn_of _ (by decide +kernel)) ggX2_sweepOnce_X2_shortens
theorem dX2_sweepOnce_0 : decode cX2_sweepOnce 0 = .ok (.iconst 0, 1) := by decide +kernel
theorem dX2_sweepOnce_1 : decode cX2_sweepOnce 1 = .ok (.istore_n 1, 1) := by decide +kernel
theorem dX2_sweepOnce_2 : decode cX2_sweepOnce 2 = .ok (.iconst 0, 1) := by decide +kernel
theorem dX2_sweepOnce_3 : decode cX2_sweepOnce 3 = .ok (.istore_n 2, 1) := by decide +kernel
theorem dX2_sweepOnce_4 : decode cX2_sweepOnce 4 = .ok (.iload_n 2, 1) := by decide +kernel
theorem dX2_sweepOnce_5 : decode cX2_sweepOnce 5 = .ok (.iconst 1, 1) := by decide +kernel
theorem dX2_sweepOnce_6 : decode cX2_sweepOnce 6 = .ok (.iadd, 1) := by decide +kernel
theorem dX2_sweepOnce_7 : decode cX2_sweepOnce 7 = .ok (.getstatic 43, 3) := by decide +kernel
theorem dX2_sweepOnce_10 : decode cX2_sweepOnce 10 = .ok (.arraylength, 1) := by decide +kernel
theorem dX2_sweepOnce_11 : decode cX2_sweepOnce 11 = .ok (.if_icmp .ge 60, 3) := by decide +kernel
theorem dX2_sweepOnce_14 : decode cX2_sweepOnce 14 = .ok (.aload_n 0, 1) := by decide +kernel
theorem dX2_sweepOnce_15 : decode cX2_sweepOnce 15 = .ok (.getfield 18, 3) := by decide +kernel
theorem dX2_sweepOnce_18 : decode cX2_sweepOnce 18 = .ok (.iload_n 2, 1) := by decide +kernel
theorem dX2_sweepOnce_19 : decode cX2_sweepOnce 19 = .ok (.iconst 2, 1) := by decide +kernel
theorem dX2_sweepOnce_20 : decode cX2_sweepOnce 20 = .ok (.idiv, 1) := by decide +kernel
theorem dX2_sweepOnce_21 : decode cX2_sweepOnce 21 = .ok (.invokestatic 59, 3) := by decide +kernel
theorem dX2_sweepOnce_24 : decode cX2_sweepOnce 24 = .ok (.ifCond .ne 41, 3) := by decide +kernel
theorem dX2_sweepOnce_27 : decode cX2_sweepOnce 27 = .ok (.iload_n 1, 1) := by decide +kernel
theorem dX2_sweepOnce_28 : decode cX2_sweepOnce 28 = .ok (.aload_n 0, 1) := by decide +kernel
theorem dX2_sweepOnce_29 : decode cX2_sweepOnce 29 = .ok (.getstatic 43, 3) := by decide +kernel
theorem dX2_sweepOnce_32 : decode cX2_sweepOnce 32 = .ok (.iload_n 2, 1) := by decide +kernel
theorem dX2_sweepOnce_33 : decode cX2_sweepOnce 33 = .ok (.iaload, 1) := by decide +kernel
theorem dX2_sweepOnce_34 : decode cX2_sweepOnce 34 = .ok (.getstatic 43, 3) := by decide +kernel
theorem dX2_sweepOnce_37 : decode cX2_sweepOnce 37 = .ok (.iload_n 2, 1) := by decide +kernel
theorem dX2_sweepOnce_38 : decode cX2_sweepOnce 38 = .ok (.iconst 1, 1) := by decide +kernel
theorem dX2_sweepOnce_39 : decode cX2_sweepOnce 39 = .ok (.iadd, 1) := by decide +kernel
theorem dX2_sweepOnce_40 : decode cX2_sweepOnce 40 = .ok (.iaload, 1) := by decide +kernel
theorem dX2_sweepOnce_41 : decode cX2_sweepOnce 41 = .ok (.invokevirtual 67, 3) := by decide +kernel
theorem dX2_sweepOnce_44 : decode cX2_sweepOnce 44 = .ok (.ior, 1) := by decide +kernel
theorem dX2_sweepOnce_45 : decode cX2_sweepOnce 45 = .ok (.istore_n 1, 1) := by decide +kernel
theorem dX2_sweepOnce_46 : decode cX2_sweepOnce 46 = .ok (.iload_n 1, 1) := by decide +kernel
theorem dX2_sweepOnce_47 : decode cX2_sweepOnce 47 = .ok (.aload_n 0, 1) := by decide +kernel
theorem dX2_sweepOnce_48 : decode cX2_sweepOnce 48 = .ok (.getstatic 43, 3) := by decide +kernel
theorem dX2_sweepOnce_51 : decode cX2_sweepOnce 51 = .ok (.iload_n 2, 1) := by decide +kernel
theorem dX2_sweepOnce_52 : decode cX2_sweepOnce 52 = .ok (.iconst 1, 1) := by decide +kernel
theorem dX2_sweepOnce_53 : decode cX2_sweepOnce 53 = .ok (.iadd, 1) := by decide +kernel
theorem dX2_sweepOnce_54 : decode cX2_sweepOnce 54 = .ok (.iaload, 1) := by decide +kernel
theorem dX2_sweepOnce_55 : decode cX2_sweepOnce 55 = .ok (.getstatic 43, 3) := by decide +kernel
theorem dX2_sweepOnce_58 : decode cX2_sweepOnce 58 = .ok (.iload_n 2, 1) := by decide +kernel
theorem dX2_sweepOnce_59 : decode cX2_sweepOnce 59 = .ok (.iaload, 1) := by decide +kernel
theorem dX2_sweepOnce_60 : decode cX2_sweepOnce 60 = .ok (.invokevirtual 67, 3) := by decide +kernel
theorem dX2_sweepOnce_63 : decode cX2_sweepOnce 63 = .ok (.ior, 1) := by decide +kernel
theorem dX2_sweepOnce_64 : decode cX2_sweepOnce 64 = .ok (.istore_n 1, 1) := by decide +kernel
theorem dX2_sweepOnce_65 : decode cX2_sweepOnce 65 = .ok (.iinc 2 2, 3) := by decide +kernel
theorem dX2_sweepOnce_68 : decode cX2_sweepOnce 68 = .ok (.goto (-64), 3) := by decide +kernel
theorem dX2_sweepOnce_71 : decode cX2_sweepOnce 71 = .ok (.iload_n 1, 1) := by decide +kernel
theorem dX2_sweepOnce_72 : decode cX2_sweepOnce 72 = .ok (.ireturn, 1) := by decide +kernel
theorem dX2_shortens_0 : decode cX2_shortens 0 = .ok (.iload_n 1, 1) := by decide +kernel
theorem dX2_shortens_1 : decode cX2_shortens 1 = .ok (.ifCond .lt 25, 3) := by decide +kernel
theorem dX2_shortens_4 : decode cX2_shortens 4 = .ok (.iload_n 1, 1) := by decide +kernel
theorem dX2_shortens_5 : decode cX2_shortens 5 = .ok (.aload_n 0, 1) := by decide +kernel
theorem dX2_shortens_6 : decode cX2_shortens 6 = .ok (.getfield 15, 3) := by decide +kernel
theorem dX2_shortens_9 : decode cX2_shortens 9 = .ok (.arraylength, 1) := by decide +kernel
theorem dX2_shortens_10 : decode cX2_shortens 10 = .ok (.if_icmp .ge 16, 3) := by decide +kernel
theorem dX2_shortens_13 : decode cX2_shortens 13 = .ok (.iload_n 2, 1) := by decide +kernel
theorem dX2_shortens_14 : decode cX2_shortens 14 = .ok (.ifCond .lt 12, 3) := by decide +kernel
theorem dX2_shortens_17 : decode cX2_shortens 17 = .ok (.iload_n 2, 1) := by decide +kernel
theorem dX2_shortens_18 : decode cX2_shortens 18 = .ok (.aload_n 0, 1) := by decide +kernel
theorem dX2_shortens_19 : decode cX2_shortens 19 = .ok (.getfield 15, 3) := by decide +kernel
theorem dX2_shortens_22 : decode cX2_shortens 22 = .ok (.arraylength, 1) := by decide +kernel
theorem dX2_shortens_23 : decode cX2_shortens 23 = .ok (.if_icmp .lt 5, 3) := by decide +kernel
theorem dX2_shortens_26 : decode cX2_shortens 26 = .ok (.iconst 0, 1) := by decide +kernel
theorem dX2_shortens_27 : decode cX2_shortens 27 = .ok (.ireturn, 1) := by decide +kernel
theorem dX2_shortens_28 : decode cX2_shortens 28 = .ok (.aload_n 0, 1) := by decide +kernel
theorem dX2_shortens_29 : decode cX2_shortens 29 = .ok (.getfield 15, 3) := by decide +kernel
theorem dX2_shortens_32 : decode cX2_shortens 32 = .ok (.iload_n 1, 1) := by decide +kernel
theorem dX2_shortens_33 : decode cX2_shortens 33 = .ok (.iaload, 1) := by decide +kernel
theorem dX2_shortens_34 : decode cX2_shortens 34 = .ok (.iconst 1, 1) := by decide +kernel
theorem dX2_shortens_35 : decode cX2_shortens 35 = .ok (.iadd, 1) := by decide +kernel
theorem dX2_shortens_36 : decode cX2_shortens 36 = .ok (.aload_n 0, 1) := by decide +kernel
theorem dX2_shortens_37 : decode cX2_shortens 37 = .ok (.getfield 15, 3) := by decide +kernel
theorem dX2_shortens_40 : decode cX2_shortens 40 = .ok (.iload_n 2, 1) := by decide +kernel
theorem dX2_shortens_41 : decode cX2_shortens 41 = .ok (.iaload, 1) := by decide +kernel
theorem dX2_shortens_42 : decode cX2_shortens 42 = .ok (.if_icmp .lt 5, 3) := by decide +kernel
theorem dX2_shortens_45 : decode cX2_shortens 45 = .ok (.iconst 0, 1) := by decide +kernel
theorem dX2_shortens_46 : decode cX2_shortens 46 = .ok (.ireturn, 1) := by decide +kernel
theorem dX2_shortens_47 : decode cX2_shortens 47 = .ok (.aload_n 0, 1) := by decide +kernel
theorem dX2_shortens_48 : decode cX2_shortens 48 = .ok (.getfield 15, 3) := by decide +kernel
theorem dX2_shortens_51 : decode cX2_shortens 51 = .ok (.iload_n 2, 1) := by decide +kernel
theorem dX2_shortens_52 : decode cX2_shortens 52 = .ok (.aload_n 0, 1) := by decide +kernel
theorem dX2_shortens_53 : decode cX2_shortens 53 = .ok (.getfield 15, 3) := by decide +kernel
theorem dX2_shortens_56 : decode cX2_shortens 56 = .ok (.iload_n 1, 1) := by decide +kernel
theorem dX2_shortens_57 : decode cX2_shortens 57 = .ok (.iaload, 1) := by decide +kernel
theorem dX2_shortens_58 : decode cX2_shortens 58 = .ok (.iconst 1, 1) := by decide +kernel
theorem dX2_shortens_59 : decode cX2_shortens 59 = .ok (.iadd, 1) := by decide +kernel
theorem dX2_shortens_60 : decode cX2_shortens 60 = .ok (.iastore, 1) := by decide +kernel
theorem dX2_shortens_61 : decode cX2_shortens 61 = .ok (.iconst 1, 1) := by decide +kernel
theorem dX2_shortens_62 : decode cX2_shortens 62 = .ok (.ireturn, 1) := by decide +kernel
theorem dX3_init_0 : decode cX3_init 0 = .ok (.aload_n 0, 1) := by decide +kernel
theorem dX3_init_1 : decode cX3_init 1 = .ok (.invokespecial 3, 3) := by decide +kernel
theorem dX3_init_4 : decode cX3_init 4 = .ok (.aload_n 0, 1) := by decide +kernel
theorem dX3_init_5 : decode cX3_init 5 = .ok (.iload_n 1, 1) := by decide +kernel
theorem dX3_init_6 : decode cX3_init 6 = .ok (.putfield 9, 3) := by decide +kernel
theorem dX3_init_9 : decode cX3_init 9 = .ok (.aload_n 0, 1) := by decide +kernel
theorem dX3_init_10 : decode cX3_init 10 = .ok (.iload_n 2, 1) := by decide +kernel
theorem dX3_init_11 : decode cX3_init 11 = .ok (.putfield 15, 3) := by decide +kernel
theorem dX3_init_14 : decode cX3_init 14 = .ok (.aload_n 0, 1) := by decide +kernel
theorem dX3_init_15 : decode cX3_init 15 = .ok (.iconst 0, 1) := by decide +kernel
theorem dX3_init_16 : decode cX3_init 16 = .ok (.iload_n 1, 1) := by decide +kernel
theorem dX3_init_17 : decode cX3_init 17 = .ok (.iload_n 2, 1) := by decide +kernel
theorem dX3_init_18 : decode cX3_init 18 = .ok (.imul, 1) := by decide +kernel
theorem dX3_init_19 : decode cX3_init 19 = .ok (.invokestatic 18, 3) := by decide +kernel
theorem dX3_init_22 : decode cX3_init 22 = .ok (.newarray .int, 2) := by decide +kernel
theorem dX3_init_24 : decode cX3_init 24 = .ok (.putfield 24, 3) := by decide +kernel
theorem dX3_init_27 : decode cX3_init 27 = .ok (.return_, 1) := by decide +kernel
theorem dX3_count_0 : decode cX3_count 0 = .ok (.aload_n 0, 1) := by decide +kernel
theorem dX3_count_1 : decode cX3_count 1 = .ok (.getfield 28, 3) := by decide +kernel
theorem dX3_count_4 : decode cX3_count 4 = .ok (.ireturn, 1) := by decide +kernel
theorem dX3_isFull_0 : decode cX3_isFull 0 = .ok (.aload_n 0, 1) := by decide +kernel
theorem dX3_isFull_1 : decode cX3_isFull 1 = .ok (.getfield 28, 3) := by decide +kernel
theorem dX3_isFull_4 : decode cX3_isFull 4 = .ok (.aload_n 0, 1) := by decide +kernel
theorem dX3_isFull_5 : decode cX3_isFull 5 = .ok (.getfield 9, 3) := by decide +kernel
theorem dX3_isFull_8 : decode cX3_isFull 8 = .ok (.if_icmp .lt 7, 3) := by decide +kernel
theorem dX3_isFull_11 : decode cX3_isFull 11 = .ok (.iconst 1, 1) := by decide +kernel
theorem dX3_isFull_12 : decode cX3_isFull 12 = .ok (.goto 4, 3) := by decide +kernel
theorem dX3_isFull_15 : decode cX3_isFull 15 = .ok (.iconst 0, 1) := by decide +kernel
theorem dX3_isFull_16 : decode cX3_isFull 16 = .ok (.ireturn, 1) := by decide +kernel
theorem dX3_has_0 : decode cX3_has 0 = .ok (.iload_n 1, 1) := by decide +kernel
theorem dX3_has_1 : decode cX3_has 1 = .ok (.ifCond .lt 15, 3) := by decide +kernel
theorem dX3_has_4 : decode cX3_has 4 = .ok (.iload_n 1, 1) := by decide +kernel
theorem dX3_has_5 : decode cX3_has 5 = .ok (.aload_n 0, 1) := by decide +kernel
theorem dX3_has_6 : decode cX3_has 6 = .ok (.getfield 28, 3) := by decide +kernel
theorem dX3_has_9 : decode cX3_has 9 = .ok (.if_icmp .ge 7, 3) := by decide +kernel
theorem dX3_has_12 : decode cX3_has 12 = .ok (.iconst 1, 1) := by decide +kernel
theorem dX3_has_13 : decode cX3_has 13 = .ok (.goto 4, 3) := by decide +kernel
theorem dX3_has_16 : decode cX3_has 16 = .ok (.iconst 0, 1) := by decide +kernel
theorem dX3_has_17 : decode cX3_has 17 = .ok (.ireturn, 1) := by decide +kernel
set_option maxRecDepth 20000 in
theorem ggX3_addRow_X3_isFull : GoodIn wsX3_addRow wsX3_isFull := goodIn_r _ [7, 1, 8, 14, 15, 16, 17] (by decide +kernel) (by decide +kernel)
set_option maxRecDepth 20000 in
theorem gX3_addRow_X3_isFull : GoodIn wsX3_addRow (wsV RX3 31 RX3 yX3_isFull wsX3_isFull) := goodIn_app (goodIn_of _ (by decide +kernel)) ggX3_addRow_X3_isFull
set_option maxRecDepth 20000 in
theorem ggX3_addRow_X3_put : GoodIn wsX3_addRow wsX3_put := goodIn_r _ [12, 2, 1, 13, 14, 15, 16, 17] (by decide +kernel) (by decide +kernel)
set_option maxRecDepth 20000 in
theorem gX3_addRow_X3_put : GoodIn wsX3_addRow (wsV RX3 35 RX3 yX3_put wsX3_put) := goodIn_app (goodIn_of _ (by decide +kernel)) ggX3_addRow_X3_put
theorem dX3_addRow_0 : decode cX3_addRow 0 = .ok (.aload_n 0, 1) := by decide +kernel
theorem dX3_addRow_1 : decode cX3_addRow 1 = .ok (.invokevirtual 31, 3) := by decide +kernel
theorem dX3_addRow_4 : decode cX3_addRow 4 = .ok (.ifCond .eq 5, 3) := by decide +kernel
theorem dX3_addRow_7 : decode cX3_addRow 7 = .ok (.iconst (-1), 1) := by decide +kernel
theorem dX3_addRow_8 : decode cX3_addRow 8 = .ok (.ireturn, 1) := by decide +kernel
theorem dX3_addRow_9 : decode cX3_addRow 9 = .ok (.aload_n 0, 1) := by decide +kernel
theorem dX3_addRow_10 : decode cX3_addRow 10 = .ok (.getfield 28, 3) := by decide +kernel
theorem dX3_addRow_13 : decode cX3_addRow 13 = .ok (.istore_n 1, 1) := by decide +kernel
theorem dX3_addRow_14 : decode cX3_addRow 14 = .ok (.aload_n 0, 1) := by decide +kernel
theorem dX3_addRow_15 : decode cX3_addRow 15 = .ok (.dup, 1) := by decide +kernel
theorem dX3_addRow_16 : decode cX3_addRow 16 = .ok (.getfield 28, 3) := by decide +kernel
theorem dX3_addRow_19 : decode cX3_addRow 19 = .ok (.iconst 1, 1) := by decide +kernel
theorem dX3_addRow_20 : decode cX3_addRow 20 = .ok (.iadd, 1) := by decide +kernel
theorem dX3_addRow_21 : decode cX3_addRow 21 = .ok (.putfield 28, 3) := by decide +kernel
theorem dX3_addRow_24 : decode cX3_addRow 24 = .ok (.iconst 0, 1) := by decide +kernel
theorem dX3_addRow_25 : decode cX3_addRow 25 = .ok (.istore_n 2, 1) := by decide +kernel
theorem dX3_addRow_26 : decode cX3_addRow 26 = .ok (.iload_n 2, 1) := by decide +kernel
theorem dX3_addRow_27 : decode cX3_addRow 27 = .ok (.aload_n 0, 1) := by decide +kernel
theorem dX3_addRow_28 : decode cX3_addRow 28 = .ok (.getfield 15, 3) := by decide +kernel
theorem dX3_addRow_31 : decode cX3_addRow 31 = .ok (.if_icmp .ge 16, 3) := by decide +kernel
theorem dX3_addRow_34 : decode cX3_addRow 34 = .ok (.aload_n 0, 1) := by decide +kernel
theorem dX3_addRow_35 : decode cX3_addRow 35 = .ok (.iload_n 1, 1) := by decide +kernel
theorem dX3_addRow_36 : decode cX3_addRow 36 = .ok (.iload_n 2, 1) := by decide +kernel
theorem dX3_addRow_37 : decode cX3_addRow 37 = .ok (.iconst 0, 1) := by decide +kernel
theorem dX3_addRow_38 : decode cX3_addRow 38 = .ok (.invokevirtual 35, 3) := by decide +kernel
theorem dX3_addRow_41 : decode cX3_addRow 41 = .ok (.iinc 2 1, 3) := by decide +kernel
theorem dX3_addRow_44 : decode cX3_addRow 44 = .ok (.goto (-18), 3) := by decide +kernel
theorem dX3_addRow_47 : decode cX3_addRow 47 = .ok (.iload_n 1, 1) := by decide +kernel
theorem dX3_addRow_48 : decode cX3_addRow 48 = .ok (.ireturn, 1) := by decide +kernel
theorem dX3_get_0 : decode cX3_get 0 = .ok (.iload_n 1, 1) := by decide +kernel
theorem dX3_get_1 : decode cX3_get 1 = .ok (.aload_n 0, 1) := by decide +kernel
theorem dX3_get_2 : decode cX3_get 2 = .ok (.getfield 15, 3) := by decide +kernel
theorem dX3_get_5 : decode cX3_get 5 = .ok (.imul, 1) := by decide +kernel
theorem dX3_get_6 : decode cX3_get 6 = .ok (.iload_n 2, 1) := by decide +kernel
theorem dX3_get_7 : decode cX3_get 7 = .ok (.iadd, 1) := by decide +kernel
theorem dX3_get_8 : decode cX3_get 8 = .ok (.istore_n 3, 1) := by decide +kernel
theorem dX3_get_9 : decode cX3_get 9 = .ok (.iload_n 1, 1) := by decide +kernel
theorem dX3_get_10 : decode cX3_get 10 = .ok (.ifCond .lt 33, 3) := by decide +kernel
theorem dX3_get_13 : decode cX3_get 13 = .ok (.iload_n 1, 1) := by decide +kernel
theorem dX3_get_14 : decode cX3_get 14 = .ok (.aload_n 0, 1) := by decide +kernel
theorem dX3_get_15 : decode cX3_get 15 = .ok (.getfield 28, 3) := by decide +kernel
theorem dX3_get_18 : decode cX3_get 18 = .ok (.if_icmp .ge 25, 3) := by decide +kernel
theorem dX3_get_21 : decode cX3_get 21 = .ok (.iload_n 3, 1) := by decide +kernel
theorem dX3_get_22 : decode cX3_get 22 = .ok (.ifCond .lt 21, 3) := by decide +kernel
theorem dX3_get_25 : decode cX3_get 25 = .ok (.iload_n 3, 1) := by decide +kernel
theorem dX3_get_26 : decode cX3_get 26 = .ok (.aload_n 0, 1) := by decide +kernel
theorem dX3_get_27 : decode cX3_get 27 = .ok (.getfield 24, 3) := by decide +kernel
theorem dX3_get_30 : decode cX3_get 30 = .ok (.arraylength, 1) := by decide +kernel
theorem dX3_get_31 : decode cX3_get 31 = .ok (.if_icmp .ge 12, 3) := by decide +kernel
theorem dX3_get_34 : decode cX3_get 34 = .ok (.aload_n 0, 1) := by decide +kernel
theorem dX3_get_35 : decode cX3_get 35 = .ok (.getfield 24, 3) := by decide +kernel
theorem dX3_get_38 : decode cX3_get 38 = .ok (.iload_n 3, 1) := by decide +kernel
theorem dX3_get_39 : decode cX3_get 39 = .ok (.iaload, 1) := by decide +kernel
theorem dX3_get_40 : decode cX3_get 40 = .ok (.goto 4, 3) := by decide +kernel
theorem dX3_get_43 : decode cX3_get 43 = .ok (.iconst 0, 1) := by decide +kernel
theorem dX3_get_44 : decode cX3_get 44 = .ok (.ireturn, 1) := by decide +kernel
theorem dX3_put_0 : decode cX3_put 0 = .ok (.iload_n 1, 1) := by decide +kernel
theorem dX3_put_1 : decode cX3_put 1 = .ok (.aload_n 0, 1) := by decide +kernel
theorem dX3_put_2 : decode cX3_put 2 = .ok (.getfield 15, 3) := by decide +kernel
theorem dX3_put_5 : decode cX3_put 5 = .ok (.imul, 1) := by decide +kernel
theorem dX3_put_6 : decode cX3_put 6 = .ok (.iload_n 2, 1) := by decide +kernel
theorem dX3_put_7 : decode cX3_put 7 = .ok (.iadd, 1) := by decide +kernel
theorem dX3_put_8 : decode cX3_put 8 = .ok (.istore 4, 2) := by decide +kernel
theorem dX3_put_10 : decode cX3_put 10 = .ok (.iload_n 1, 1) := by decide +kernel
theorem dX3_put_11 : decode cX3_put 11 = .ok (.ifCond .lt 34, 3) := by decide +kernel
theorem dX3_put_14 : decode cX3_put 14 = .ok (.iload_n 1, 1) := by decide +kernel
theorem dX3_put_15 : decode cX3_put 15 = .ok (.aload_n 0, 1) := by decide +kernel
theorem dX3_put_16 : decode cX3_put 16 = .ok (.getfield 28, 3) := by decide +kernel
theorem dX3_put_19 : decode cX3_put 19 = .ok (.if_icmp .ge 26, 3) := by decide +kernel
theorem dX3_put_22 : decode cX3_put 22 = .ok (.iload 4, 2) := by decide +kernel
theorem dX3_put_24 : decode cX3_put 24 = .ok (.ifCond .lt 21, 3) := by decide +kernel
theorem dX3_put_27 : decode cX3_put 27 = .ok (.iload 4, 2) := by decide +kernel
theorem dX3_put_29 : decode cX3_put 29 = .ok (.aload_n 0, 1) := by decide +kernel
theorem dX3_put_30 : decode cX3_put 30 = .ok (.getfield 24, 3) := by decide +kernel
theorem dX3_put_33 : decode cX3_put 33 = .ok (.arraylength, 1) := by decide +kernel
theorem dX3_put_34 : decode cX3_put 34 = .ok (.if_icmp .ge 11, 3) := by decide +kernel
theorem dX3_put_37 : decode cX3_put 37 = .ok (.aload_n 0, 1) := by decide +kernel
theorem dX3_put_38 : decode cX3_put 38 = .ok (.getfield 24, 3) := by decide +kernel
theorem dX3_put_41 : decode cX3_put 41 = .ok (.iload 4, 2) := by decide +kernel
theorem dX3_put_43 : decode cX3_put 43 = .ok (.iload_n 3, 1) := by decide +kernel
theorem dX3_put_44 : decode cX3_put 44 = .ok (.iastore, 1) := by decide +kernel
theorem dX3_put_45 : decode cX3_put 45 = .ok (.return_, 1) := by decide +kernel
theorem dX3_empty_0 : decode cX3_empty 0 = .ok (.aload_n 0, 1) := by decide +kernel
theorem dX3_empty_1 : decode cX3_empty 1 = .ok (.iconst 0, 1) := by decide +kernel
theorem dX3_empty_2 : decode cX3_empty 2 = .ok (.putfield 28, 3) := by decide +kernel
theorem dX3_empty_5 : decode cX3_empty 5 = .ok (.return_, 1) := by decide +kernel
theorem dX3_copyFrom_0 : decode cX3_copyFrom 0 = .ok (.aload_n 1, 1) := by decide +kernel
theorem dX3_copyFrom_1 : decode cX3_copyFrom 1 = .ok (.getfield 24, 3) := by decide +kernel
theorem dX3_copyFrom_4 : decode cX3_copyFrom 4 = .ok (.iconst 0, 1) := by decide +kernel
theorem dX3_copyFrom_5 : decode cX3_copyFrom 5 = .ok (.aload_n 0, 1) := by decide +kernel
theorem dX3_copyFrom_6 : decode cX3_copyFrom 6 = .ok (.getfield 24, 3) := by decide +kernel
theorem dX3_copyFrom_9 : decode cX3_copyFrom 9 = .ok (.iconst 0, 1) := by decide +kernel
theorem dX3_copyFrom_10 : decode cX3_copyFrom 10 = .ok (.aload_n 1, 1) := by decide +kernel
theorem dX3_copyFrom_11 : decode cX3_copyFrom 11 = .ok (.getfield 24, 3) := by decide +kernel
theorem dX3_copyFrom_14 : decode cX3_copyFrom 14 = .ok (.arraylength, 1) := by decide +kernel
theorem dX3_copyFrom_15 : decode cX3_copyFrom 15 = .ok (.aload_n 0, 1) := by decide +kernel
theorem dX3_copyFrom_16 : decode cX3_copyFrom 16 = .ok (.getfield 24, 3) := by decide +kernel
theorem dX3_copyFrom_19 : decode cX3_copyFrom 19 = .ok (.arraylength, 1) := by decide +kernel
theorem dX3_copyFrom_20 : decode cX3_copyFrom 20 = .ok (.invokestatic 39, 3) := by decide +kernel
theorem dX3_copyFrom_23 : decode cX3_copyFrom 23 = .ok (.invokestatic 42, 3) := by decide +kernel
theorem dX3_copyFrom_26 : decode cX3_copyFrom 26 = .ok (.aload_n 0, 1) := by decide +kernel
theorem dX3_copyFrom_27 : decode cX3_copyFrom 27 = .ok (.aload_n 1, 1) := by decide +kernel
theorem dX3_copyFrom_28 : decode cX3_copyFrom 28 = .ok (.getfield 28, 3) := by decide +kernel
theorem dX3_copyFrom_31 : decode cX3_copyFrom 31 = .ok (.putfield 28, 3) := by decide +kernel
theorem dX3_copyFrom_34 : decode cX3_copyFrom 34 = .ok (.return_, 1) := by decide +kernel
set_option maxRecDepth 20000 in
theorem ggX4_succeeds_X0_passHours : GoodIn wsX4_succeeds wsX0_passHours := goodIn_r _ [6, 7, 8, 9, 10, 11, 12, 13, 5, 14, 15, 16, 17, 18, 19, 20, 21, 22, 23, 24, 25, 26, 27, 28, 29, 30, 31, 32, 33, 34, 35, 36, 37, 213, 214, 215, 216, 217, 218, 219, 220, 221, 222, 223, 224, 225, 226, 227] (by decide +kernel) (by decide +kernel)
set_option maxRecDepth 20000 in
theorem gX4_succeeds_X0_passHours : GoodIn wsX4_succeeds (wsV RX4 10 RX0 yX0_passHours wsX0_passHours) := goodIn_app (goodIn_of _ (by decide +kernel)) ggX4_succeeds_X0_passHours
set_option maxRecDepth 20000 in
theorem ggX4_succeeds_X0_tellSighting : GoodIn wsX4_succeeds wsX0_tellSighting := goodIn_r _ [41, 8, 42, 43, 44, 45, 5, 46, 47, 16, 48, 49, 15, 17, 50, 51, 52, 53, 54, 21, 55, 23, 56, 57, 58, 59, 60, 7, 61, 18, 19, 20, 22, 30, 31, 32, 33, 24, 25, 26, 27, 28, 29, 62, 63, 64, 65, 66, 67, 68, 69, 70, 71, 72, 73, 74, 75, 76, 77, 78, 79, 80, 81, 82, 35, 36, 37, 34, 213, 214, 215, 216, 217, 218, 219, 220, 221, 222, 223, 224, 225, 226, 227] (by decide +kernel) (by decide +kernel)
set_option maxRecDepth 20000 in
theorem gX4_succeeds_X0_tellSighting : GoodIn wsX4_succeeds (wsV RX4 16 RX0 yX0_tellSighting wsX0_tellSighting) := goodIn_app (goodIn_of _ (by decide +kernel)) ggX4_succeeds_X0_tellSighting
set_option maxRecDepth 20000 in
theorem ggX4_succeeds_X0_findDog : GoodIn wsX4_succeeds wsX0_findDog := goodIn_r _ [86, 7, 87, 88, 89, 8, 90, 91, 92, 5, 93, 47, 16, 48, 49, 15, 17, 50, 51, 94, 95, 96, 97, 98, 99, 100, 21, 101, 23, 30, 31, 32, 33, 24, 25, 26, 27, 28, 29, 102, 103, 104, 105, 106, 107, 108, 109, 42, 110, 18, 19, 20, 22, 111, 112, 113, 114, 115, 116, 117, 118, 119, 120, 121, 122, 123, 124, 125, 126, 127, 128, 129, 130, 131, 132, 133, 134, 135, 136, 137, 138, 139, 140, 141, 142, 143, 144, 145, 146, 34, 35, 36, 37, 213, 214, 215, 216, 217, 218, 219, 220, 221, 222, 223, 224, 225, 226, 227, 228, 229, 230] (by decide +kernel) (by decide +kernel)
set_option maxRecDepth 20000 in
theorem gX4_succeeds_X0_findDog : GoodIn wsX4_succeeds (wsV RX4 20 RX0 yX0_findDog wsX0_findDog) := goodIn_app (goodIn_of _ (by decide +kernel)) ggX4_succeeds_X0_findDog
set_option maxRecDepth 20000 in
theorem ggX4_succeeds_X0_closeStreet : GoodIn wsX4_succeeds wsX0_closeStreet := goodIn_r _ [150, 110, 151, 152, 153, 5, 154, 50, 16, 51, 49, 15, 17, 155, 156, 114, 157, 158, 159, 160, 161, 162, 163, 164, 165, 166, 167, 116, 168, 169, 170, 171, 172, 173, 174, 175, 125, 126, 176, 177, 178, 179, 180, 181, 182, 183, 184, 67, 68, 69, 70, 71, 72, 213, 214, 215, 216, 217, 218, 219, 220, 221, 222, 223, 228, 229, 230] (by decide +kernel) (by decide +kernel)
set_option maxRecDepth 20000 in
theorem gX4_succeeds_X0_closeStreet : GoodIn wsX4_succeeds (wsV RX4 24 RX0 yX0_closeStreet wsX0_closeStreet) := goodIn_app (goodIn_of _ (by decide +kernel)) ggX4_succeeds_X0_closeStreet
set_option maxRecDepth 20000 in
theorem ggX4_succeeds_X0_changeSetting : GoodIn wsX4_succeeds wsX0_changeSetting := goodIn_r _ [188, 9, 61, 189, 190, 191, 5, 192, 15, 16, 17, 213, 214, 215, 216, 217, 218, 219, 220, 221, 222, 223] (by decide +kernel) (by decide +kernel)
set_option maxRecDepth 20000 in
theorem gX4_succeeds_X0_changeSetting : GoodIn wsX4_succeeds (wsV RX4 28 RX0 yX0_changeSetting wsX0_changeSetting) := goodIn_app (goodIn_of _ (by decide +kernel)) ggX4_succeeds_X0_changeSetting
set_option maxRecDepth 20000 in
theorem ggX4_succeeds_X7_isCorner : GoodIn wsX4_succeeds wsX7_isCorner := goodIn_r _ [51, 49, 15, 16, 17] (by decide +kernel) (by decide +kernel)
set_option maxRecDepth 20000 in
theorem gX4_succeeds_X7_isCorner_n32 : GoodIn wsX4_succeeds (wsX7_isCorner) := ggX4_succeeds_X7_isCorner
set_option maxRecDepth 20000 in
theorem ggX4_succeeds_X0_isMissing : GoodIn wsX4_succeeds wsX0_isMissing := goodIn_r _ [33, 7, 24, 25, 26, 21, 27, 28, 23, 29, 213, 214, 215, 216, 217, 218, 219, 220, 221, 222, 223, 224, 225, 226, 227] (by decide +kernel) (by decide +kernel)
set_option maxRecDepth 20000 in
theorem gX4_succeeds_X0_isMissing : GoodIn wsX4_succeeds (wsV RX4 36 RX0 yX0_isMissing wsX0_isMissing) := goodIn_app (goodIn_of _ (by decide +kernel)) ggX4_succeeds_X0_isMissing
set_option maxRecDepth 20000 in
theorem ggX4_succeeds_X0_placesOf : GoodIn wsX4_succeeds wsX0_placesOf := goodIn_r _ [197, 198, 199, 200, 5, 201, 121, 122, 123, 124, 42, 18, 19, 20, 21, 22, 23, 24, 25, 26, 27, 28, 29, 117, 118, 119, 120, 7, 30, 31, 32, 33, 106, 107, 108, 109, 110, 111, 112, 113, 114, 115, 116, 125, 16, 126, 127, 128, 129, 130, 131, 132, 133, 134, 202, 203, 204, 205, 8, 213, 214, 215, 216, 217, 218, 219, 220, 221, 222, 223, 224, 225, 226, 227, 228, 229, 230] (by decide +kernel) (by decide +kernel)
set_option maxRecDepth 20000 in
theorem gX4_succeeds_X0_placesOf : GoodIn wsX4_succeeds (wsV RX4 39 RX0 yX0_placesOf wsX0_placesOf) := goodIn_app (goodIn_of _ (by decide +kernel)) ggX4_succeeds_X0_placesOf
set_option maxRecDepth 20000 in
theorem ggX4_succeeds_X7_hasBit : GoodIn wsX4_succeeds wsX7_hasBit := goodIn_r _ [126] (by decide +kernel) (by decide +kernel)
set_option maxRecDepth 20000 in
theorem gX4_succeeds_X7_hasBit_n42 : GoodIn wsX4_succeeds (wsX7_hasBit) := ggX4_succeeds_X7_hasBit
set_option maxRecDepth 20000 in
theorem ggX4_succeeds_X0_fraudsInAll : GoodIn wsX4_succeeds wsX0_fraudsInAll := goodIn_r _ [209, 7, 18, 19, 20, 21, 22, 23, 117, 118, 119, 5, 120, 42, 30, 31, 32, 33, 24, 25, 26, 27, 28, 29, 106, 107, 108, 109, 110, 111, 112, 113, 114, 115, 116, 121, 122, 123, 124, 125, 16, 126, 127, 128, 129, 130, 131, 132, 133, 134, 66, 67, 68, 69, 70, 71, 72, 213, 214, 215, 216, 217, 218, 219, 220, 221, 222, 223, 224, 225, 226, 227, 228, 229, 230] (by decide +kernel) (by decide +kernel)
set_option maxRecDepth 20000 in
theorem gX4_succeeds_X0_fraudsInAll : GoodIn wsX4_succeeds (wsV RX4 46 RX0 yX0_fraudsInAll wsX0_fraudsInAll) := goodIn_app (goodIn_of _ (by decide +kernel)) ggX4_succeeds_X0_fraudsInAll
set_option maxRecDepth 20000 in
theorem ggX4_succeeds_X3_has : GoodIn wsX4_succeeds wsX3_has := goodIn_r _ [101, 23, 224, 225, 226, 227] (by decide +kernel) (by decide +kernel)
set_option maxRecDepth 20000 in
theorem gX4_succeeds_X3_has : GoodIn wsX4_succeeds (wsV RX4 54 RX3 yX3_has wsX3_has) := goodIn_app (goodIn_of _ (by decide +kernel)) ggX4_succeeds_X3_has
set_option maxRecDepth 20000 in
theorem ggX4_succeeds_X3_get : GoodIn wsX4_succeeds wsX3_get := goodIn_r _ [27, 28, 23, 29, 224, 225, 226, 227] (by decide +kernel) (by decide +kernel)
set_option maxRecDepth 20000 in
theorem gX4_succeeds_X3_get : GoodIn wsX4_succeeds (wsV RX4 59 RX3 yX3_get wsX3_get) := goodIn_app (goodIn_of _ (by decide +kernel)) ggX4_succeeds_X3_get
set_option maxRecDepth 20000 in
theorem ggX4_succeeds_X7_isFinder : GoodIn wsX4_succeeds wsX7_isFinder := goodIn_r _ [48, 49, 15, 16, 17] (by decide +kernel) (by decide +kernel)
set_option maxRecDepth 20000 in
theorem gX4_succeeds_X7_isFinder_n62 : GoodIn wsX4_succeeds (wsX7_isFinder) := ggX4_succeeds_X7_isFinder
set_option maxRecDepth 20000 in
theorem ggX4_succeeds_X0_coinsOf : GoodIn wsX4_succeeds wsX0_coinsOf := goodIn_r _ [138, 87, 213, 214, 215, 216, 217, 218, 219, 220, 221, 222, 223] (by decide +kernel) (by decide +kernel)
set_option maxRecDepth 20000 in
theorem gX4_succeeds_X0_coinsOf : GoodIn wsX4_succeeds (wsV RX4 65 RX0 yX0_coinsOf wsX0_coinsOf) := goodIn_app (goodIn_of _ (by decide +kernel)) ggX4_succeeds_X0_coinsOf
