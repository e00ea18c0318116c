/-! names, fields, methods: out of the printed names (claim/NAMES.whole.lean.txt), by gen/names.py; words of the tables by their places -/
def RX0 : String := "WallMirror$Choosing"
def TX0 : u_T := fun k => match k with
  | 0 => ("WallMirror$Choosing", "values", "[I", true)
  | 1 => ("WallMirror$Choosing", "turnOf", "[I", true)
  | 2 => ("WallMirror$Choosing", "ends", "[I", true)
  | 3 => ("WallMirror$Choosing", "choosers", "I", false)
  | _ => ("WallMirror$Choosing", "queenValue", "I", false)
def tyX0 : Nat → FieldType := fun k => match k with
  | 0 => .array .int
  | 1 => .array .int
  | 2 => .array .int
  | 3 => .int
  | _ => .int
abbrev wsX00 : List Cond := u_ws RX0 TX0 5
theorem nmX0 : ∀ a, a < 5 → ∀ b, b < 5 → a ≠ b → (TX0 a).2.1 ≠ (TX0 b).2.1 := by decide +kernel
theorem tyX0_ok : ∀ k, k < 5 → parseFieldDescriptor (TX0 k).2.2.1 = some (tyX0 k) := by decide +kernel
abbrev cX0_init : ByteArray := prog_2_method_1_code
def yX0_init : MethodName := ⟨RX0, "<init>", "()V"⟩
abbrev cX0_solve : ByteArray := prog_2_method_2_code
def yX0_solve : MethodName := ⟨RX0, "solve", "(LWallMirror$Court;)V"⟩
abbrev cX0_meet : ByteArray := prog_2_method_3_code
def yX0_meet : MethodName := ⟨RX0, "meet", "(LWallMirror$Court;)V"⟩
abbrev cX0_bestEnd : ByteArray := prog_2_method_4_code
def yX0_bestEnd : MethodName := ⟨RX0, "bestEnd", "(II)I"⟩
abbrev cX0_worthAt : ByteArray := prog_2_method_5_code
def yX0_worthAt : MethodName := ⟨RX0, "worthAt", "(II)I"⟩
abbrev cX0_valueAt : ByteArray := prog_2_method_6_code
def yX0_valueAt : MethodName := ⟨RX0, "valueAt", "(II)I"⟩
abbrev cX0_choiceAt : ByteArray := prog_2_method_7_code
def yX0_choiceAt : MethodName := ⟨RX0, "choiceAt", "(II)I"⟩
abbrev cX0_choiceOf : ByteArray := prog_2_method_8_code
def yX0_choiceOf : MethodName := ⟨RX0, "choiceOf", "(I)I"⟩
abbrev cX0_endOf : ByteArray := prog_2_method_9_code
def yX0_endOf : MethodName := ⟨RX0, "endOf", "(I)I"⟩
def RX1 : String := "WallMirror$Court"
def TX1 : u_T := fun k => match k with
  | 0 => ("WallMirror$Court", "people", "I", false)
  | 1 => ("WallMirror$Court", "weights", "[I", true)
  | 2 => ("WallMirror$Court", "marks", "[I", true)
  | 3 => ("WallMirror$Court", "ageing", "[I", true)
  | 4 => ("WallMirror$Court", "alive", "I", false)
  | 5 => ("WallMirror$Court", "reported", "I", false)
  | 6 => ("WallMirror$Court", "mornings", "I", false)
  | _ => ("WallMirror$Court", "years", "I", false)
def tyX1 : Nat → FieldType := fun k => match k with
  | 0 => .int
  | 1 => .array .int
  | 2 => .array .int
  | 3 => .array .int
  | 4 => .int
  | 5 => .int
  | 6 => .int
  | _ => .int
abbrev wsX10 : List Cond := u_ws RX1 TX1 8
theorem nmX1 : ∀ a, a < 8 → ∀ b, b < 8 → a ≠ b → (TX1 a).2.1 ≠ (TX1 b).2.1 := by decide +kernel
theorem tyX1_ok : ∀ k, k < 8 → parseFieldDescriptor (TX1 k).2.2.1 = some (tyX1 k) := by decide +kernel
abbrev cX1_init : ByteArray := prog_3_method_1_code
def yX1_init : MethodName := ⟨RX1, "<init>", "()V"⟩
abbrev cX1_readFrom : ByteArray := prog_3_method_2_code
def yX1_readFrom : MethodName := ⟨RX1, "readFrom", "(LWallMirror$Text;)V"⟩
abbrev cX1_copyFrom : ByteArray := prog_3_method_3_code
def yX1_copyFrom : MethodName := ⟨RX1, "copyFrom", "(LWallMirror$Court;)V"⟩
abbrev cX1_packInto : ByteArray := prog_3_method_4_code
def yX1_packInto : MethodName := ⟨RX1, "packInto", "([II)V"⟩
abbrev cX1_unpackFrom : ByteArray := prog_3_method_5_code
def yX1_unpackFrom : MethodName := ⟨RX1, "unpackFrom", "([II)V"⟩
abbrev cX1_has : ByteArray := prog_3_method_6_code
def yX1_has : MethodName := ⟨RX1, "has", "(I)Z"⟩
abbrev cX1_everybody : ByteArray := prog_3_method_7_code
def yX1_everybody : MethodName := ⟨RX1, "everybody", "()I"⟩
abbrev cX1_isAlive : ByteArray := prog_3_method_8_code
def yX1_isAlive : MethodName := ⟨RX1, "isAlive", "(I)Z"⟩
abbrev cX1_isReported : ByteArray := prog_3_method_9_code
def yX1_isReported : MethodName := ⟨RX1, "isReported", "(I)Z"⟩
abbrev cX1_aliveCount : ByteArray := prog_3_method_10_code
def yX1_aliveCount : MethodName := ⟨RX1, "aliveCount", "()I"⟩
abbrev cX1_weightsAsFigures : ByteArray := prog_3_method_11_code
def yX1_weightsAsFigures : MethodName := ⟨RX1, "weightsAsFigures", "()I"⟩
abbrev cX1_weighBy : ByteArray := prog_3_method_12_code
def yX1_weighBy : MethodName := ⟨RX1, "weighBy", "(I)V"⟩
abbrev cX1_weightsApartFrom : ByteArray := prog_3_method_13_code
def yX1_weightsApartFrom : MethodName := ⟨RX1, "weightsApartFrom", "(LWallMirror$Court;)I"⟩
abbrev cX1_valueOf : ByteArray := prog_3_method_14_code
def yX1_valueOf : MethodName := ⟨RX1, "valueOf", "(I)I"⟩
abbrev cX1_valueIfPlain : ByteArray := prog_3_method_15_code
def yX1_valueIfPlain : MethodName := ⟨RX1, "valueIfPlain", "(II)I"⟩
abbrev cX1_fairestOf : ByteArray := prog_3_method_16_code
def yX1_fairestOf : MethodName := ⟨RX1, "fairestOf", "(I)I"⟩
abbrev cX1_leastOf : ByteArray := prog_3_method_17_code
def yX1_leastOf : MethodName := ⟨RX1, "leastOf", "(I)I"⟩
abbrev cX1_isFairestAlone : ByteArray := prog_3_method_18_code
def yX1_isFairestAlone : MethodName := ⟨RX1, "isFairestAlone", "(I)Z"⟩
abbrev cX1_passMorning : ByteArray := prog_3_method_19_code
def yX1_passMorning : MethodName := ⟨RX1, "passMorning", "()V"⟩
abbrev cX1_weighFearOf : ByteArray := prog_3_method_20_code
def yX1_weighFearOf : MethodName := ⟨RX1, "weighFearOf", "(I)V"⟩
abbrev cX1_passYear : ByteArray := prog_3_method_21_code
def yX1_passYear : MethodName := ⟨RX1, "passYear", "()V"⟩
def RX2 : String := "WallMirror$Text"
def TX2 : u_T := fun k => match k with
  | 0 => ("WallMirror$Text", "bytes", "[I", true)
  | _ => ("WallMirror$Text", "length", "I", false)
def tyX2 : Nat → FieldType := fun k => match k with
  | 0 => .array .int
  | _ => .int
abbrev wsX20 : List Cond := u_ws RX2 TX2 2
theorem nmX2 : ∀ a, a < 2 → ∀ b, b < 2 → a ≠ b → (TX2 a).2.1 ≠ (TX2 b).2.1 := by decide +kernel
theorem tyX2_ok : ∀ k, k < 2 → parseFieldDescriptor (TX2 k).2.2.1 = some (tyX2 k) := by decide +kernel
abbrev cX2_init : ByteArray := prog_4_method_1_code
def yX2_init : MethodName := ⟨RX2, "<init>", "()V"⟩
abbrev cX2_append : ByteArray := prog_4_method_2_code
def yX2_append : MethodName := ⟨RX2, "append", "(I)V"⟩
abbrev cX2_firstFault : ByteArray := prog_4_method_3_code
def yX2_firstFault : MethodName := ⟨RX2, "firstFault", "()I"⟩
abbrev cX2_fitsAt : ByteArray := prog_4_method_4_code
def yX2_fitsAt : MethodName := ⟨RX2, "fitsAt", "(I)Z"⟩
abbrev cX2_areWeightsNothing : ByteArray := prog_4_method_5_code
def yX2_areWeightsNothing : MethodName := ⟨RX2, "areWeightsNothing", "()Z"⟩
abbrev cX2_peopleTold : ByteArray := prog_4_method_6_code
def yX2_peopleTold : MethodName := ⟨RX2, "peopleTold", "()I"⟩
abbrev cX2_weight : ByteArray := prog_4_method_7_code
def yX2_weight : MethodName := ⟨RX2, "weight", "(I)I"⟩
abbrev cX2_figureOf : ByteArray := prog_4_method_8_code
def yX2_figureOf : MethodName := ⟨RX2, "figureOf", "(II)I"⟩
def RX3 : String := "WallMirror"
def TX3 : u_T := fun k => match k with
  | 0 => ("WallMirror", "text", "LWallMirror$Text;", true)
  | 1 => ("WallMirror", "now", "LWallMirror$Court;", true)
  | 2 => ("WallMirror", "trial", "LWallMirror$Court;", true)
  | 3 => ("WallMirror", "choosing", "LWallMirror$Choosing;", true)
  | 4 => ("WallMirror", "acts", "[I", true)
  | 5 => ("WallMirror", "nextAct", "I", false)
  | 6 => ("WallMirror", "actCount", "I", false)
  | 7 => ("WallMirror", "slots", "[I", true)
  | 8 => ("WallMirror", "isKept", "[Z", true)
  | 9 => ("WallMirror", "heardPerson", "[I", true)
  | 10 => ("WallMirror", "heardIs", "[Z", true)
  | 11 => ("WallMirror", "heardCount", "I", false)
  | _ => ("WallMirror", "seed", "J", false)
def tyX3 : Nat → FieldType := fun k => match k with
  | 0 => .object "WallMirror$Text"
  | 1 => .object "WallMirror$Court"
  | 2 => .object "WallMirror$Court"
  | 3 => .object "WallMirror$Choosing"
  | 4 => .array .int
  | 5 => .int
  | 6 => .int
  | 7 => .array .int
  | 8 => .array .boolean
  | 9 => .array .int
  | 10 => .array .boolean
  | 11 => .int
  | _ => .long
abbrev wsX30 : List Cond := u_ws RX3 TX3 13
theorem nmX3 : ∀ a, a < 13 → ∀ b, b < 13 → a ≠ b → (TX3 a).2.1 ≠ (TX3 b).2.1 := by decide +kernel
theorem tyX3_ok : ∀ k, k < 13 → parseFieldDescriptor (TX3 k).2.2.1 = some (tyX3 k) := by decide +kernel
abbrev cX3_init : ByteArray := prog_1_method_1_code
def yX3_init : MethodName := ⟨RX3, "<init>", "()V"⟩
abbrev cX3_write : ByteArray := prog_1_method_2_code
def yX3_write : MethodName := ⟨RX3, "write", "(I)I"⟩
abbrev cX3_wipe : ByteArray := prog_1_method_3_code
def yX3_wipe : MethodName := ⟨RX3, "wipe", "()I"⟩
abbrev cX3_fault : ByteArray := prog_1_method_4_code
def yX3_fault : MethodName := ⟨RX3, "fault", "()I"⟩
abbrev cX3_court : ByteArray := prog_1_method_5_code
def yX3_court : MethodName := ⟨RX3, "court", "()I"⟩
abbrev cX3_about : ByteArray := prog_1_method_6_code
def yX3_about : MethodName := ⟨RX3, "about", "(I)I"⟩
abbrev cX3_person : ByteArray := prog_1_method_7_code
def yX3_person : MethodName := ⟨RX3, "person", "(II)I"⟩
abbrev cX3_morning : ByteArray := prog_1_method_8_code
def yX3_morning : MethodName := ⟨RX3, "morning", "()I"⟩
abbrev cX3_year : ByteArray := prog_1_method_9_code
def yX3_year : MethodName := ⟨RX3, "year", "()I"⟩
abbrev cX3_plain : ByteArray := prog_1_method_10_code
def yX3_plain : MethodName := ⟨RX3, "plain", "(II)I"⟩
abbrev cX3_hunt : ByteArray := prog_1_method_11_code
def yX3_hunt : MethodName := ⟨RX3, "hunt", "(IZ)I"⟩
abbrev cX3_undo : ByteArray := prog_1_method_12_code
def yX3_undo : MethodName := ⟨RX3, "undo", "()I"⟩
abbrev cX3_judged : ByteArray := prog_1_method_13_code
def yX3_judged : MethodName := ⟨RX3, "judged", "(II)I"⟩
abbrev cX3_hear : ByteArray := prog_1_method_14_code
def yX3_hear : MethodName := ⟨RX3, "hear", "(IZ)I"⟩
abbrev cX3_unhear : ByteArray := prog_1_method_15_code
def yX3_unhear : MethodName := ⟨RX3, "unhear", "()I"⟩
abbrev cX3_worlds : ByteArray := prog_1_method_16_code
def yX3_worlds : MethodName := ⟨RX3, "worlds", "(I)I"⟩
abbrev cX3_toAsk : ByteArray := prog_1_method_17_code
def yX3_toAsk : MethodName := ⟨RX3, "toAsk", "()I"⟩
abbrev cX3_answer : ByteArray := prog_1_method_18_code
def yX3_answer : MethodName := ⟨RX3, "answer", "(IZ)I"⟩
abbrev cX3_chosen : ByteArray := prog_1_method_19_code
def yX3_chosen : MethodName := ⟨RX3, "chosen", "(I)I"⟩
abbrev cX3_chosenWorth : ByteArray := prog_1_method_20_code
def yX3_chosenWorth : MethodName := ⟨RX3, "chosenWorth", "(I)I"⟩
abbrev cX3_measures : ByteArray := prog_1_method_21_code
def yX3_measures : MethodName := ⟨RX3, "measures", "(I)I"⟩
abbrev cX3_nearest : ByteArray := prog_1_method_22_code
def yX3_nearest : MethodName := ⟨RX3, "nearest", "(I)I"⟩
abbrev cX3_reign : ByteArray := prog_1_method_23_code
def yX3_reign : MethodName := ⟨RX3, "reign", "(Z)I"⟩
abbrev cX3_differs : ByteArray := prog_1_method_24_code
def yX3_differs : MethodName := ⟨RX3, "differs", "(I)I"⟩
abbrev cX3_rate : ByteArray := prog_1_method_25_code
def yX3_rate : MethodName := ⟨RX3, "rate", "(IIZ)I"⟩
abbrev cX3_saying : ByteArray := prog_1_method_26_code
def yX3_saying : MethodName := ⟨RX3, "saying", "(IIZ)I"⟩
abbrev cX3_believed : ByteArray := prog_1_method_27_code
def yX3_believed : MethodName := ⟨RX3, "believed", "(IIIZ)I"⟩
abbrev cX3_chance : ByteArray := prog_1_method_28_code
def yX3_chance : MethodName := ⟨RX3, "chance", "(IZ)I"⟩
abbrev cX3_seed : ByteArray := prog_1_method_29_code
def yX3_seed : MethodName := ⟨RX3, "seed", "(J)J"⟩
abbrev cX3_hunted : ByteArray := prog_1_method_30_code
def yX3_hunted : MethodName := ⟨RX3, "hunted", "(I)I"⟩
abbrev cX3_keep : ByteArray := prog_1_method_31_code
def yX3_keep : MethodName := ⟨RX3, "keep", "(I)I"⟩
abbrev cX3_again : ByteArray := prog_1_method_32_code
def yX3_again : MethodName := ⟨RX3, "again", "(I)I"⟩
abbrev cX3_rememberAct : ByteArray := prog_1_method_33_code
def yX3_rememberAct : MethodName := ⟨RX3, "rememberAct", "()V"⟩
abbrev cX3_forgetActs : ByteArray := prog_1_method_34_code
def yX3_forgetActs : MethodName := ⟨RX3, "forgetActs", "()V"⟩
abbrev cX3_refuseDead : ByteArray := prog_1_method_35_code
def yX3_refuseDead : MethodName := ⟨RX3, "refuseDead", "(I)I"⟩
abbrev cX3_refuseChooser : ByteArray := prog_1_method_36_code
def yX3_refuseChooser : MethodName := ⟨RX3, "refuseChooser", "(I)I"⟩
abbrev cX3_isWorld : ByteArray := prog_1_method_37_code
def yX3_isWorld : MethodName := ⟨RX3, "isWorld", "(I)Z"⟩
abbrev cX3_fitsHeard : ByteArray := prog_1_method_38_code
def yX3_fitsHeard : MethodName := ⟨RX3, "fitsHeard", "(I)Z"⟩
abbrev cX3_countWorlds : ByteArray := prog_1_method_39_code
def yX3_countWorlds : MethodName := ⟨RX3, "countWorlds", "(I)I"⟩
abbrev cX3_isTenths : ByteArray := prog_1_method_40_code
def yX3_isTenths : MethodName := ⟨RX3, "isTenths", "(I)Z"⟩
abbrev cX3_namingIfRight : ByteArray := prog_1_method_41_code
def yX3_namingIfRight : MethodName := ⟨RX3, "namingIfRight", "(I)I"⟩
abbrev cX3_namingIfWrong : ByteArray := prog_1_method_42_code
def yX3_namingIfWrong : MethodName := ⟨RX3, "namingIfWrong", "(I)I"⟩
abbrev cX3_likelihoodOf : ByteArray := prog_1_method_43_code
def yX3_likelihoodOf : MethodName := ⟨RX3, "likelihoodOf", "(II)I"⟩
abbrev cX3_partOfFraction : ByteArray := prog_1_method_44_code
def yX3_partOfFraction : MethodName := ⟨RX3, "partOfFraction", "(IIZ)I"⟩
abbrev cX3_commonDivisor : ByteArray := prog_1_method_45_code
def yX3_commonDivisor : MethodName := ⟨RX3, "commonDivisor", "(II)I"⟩
def RX4 : String := "WallMirrorModel"
def TX4 : u_T := fun k => match k with
  | 0 => ("WallMirrorModel", "thrown", "I", false)
  | 1 => ("WallMirrorModel", "text", "[I", true)
  | 2 => ("WallMirrorModel", "textSize", "I", false)
  | 3 => ("WallMirrorModel", "place", "I", false)
  | 4 => ("WallMirrorModel", "people", "I", false)
  | 5 => ("WallMirrorModel", "ageing", "[I", true)
  | 6 => ("WallMirrorModel", "page", "[I", true)
  | 7 => ("WallMirrorModel", "readPeople", "I", false)
  | 8 => ("WallMirrorModel", "readAgeing", "[I", true)
  | 9 => ("WallMirrorModel", "readPage", "[I", true)
  | 10 => ("WallMirrorModel", "book", "[I", true)
  | 11 => ("WallMirrorModel", "acts", "I", false)
  | 12 => ("WallMirrorModel", "kept", "[I", true)
  | 13 => ("WallMirrorModel", "isKept", "[Z", true)
  | 14 => ("WallMirrorModel", "heard", "I", false)
  | 15 => ("WallMirrorModel", "heardWho", "[I", true)
  | 16 => ("WallMirrorModel", "heardIs", "[Z", true)
  | 17 => ("WallMirrorModel", "seed", "J", false)
  | 18 => ("WallMirrorModel", "tried", "[I", true)
  | 19 => ("WallMirrorModel", "chooser", "[I", true)
  | 20 => ("WallMirrorModel", "choosers", "I", false)
  | 21 => ("WallMirrorModel", "best", "[I", true)
  | 22 => ("WallMirrorModel", "sets", "I", false)
  | 23 => ("WallMirrorModel", "surely", "I", false)
  | _ => ("WallMirrorModel", "alives", "[I", true)
def tyX4 : Nat → FieldType := fun k => match k with
  | 0 => .int
  | 1 => .array .int
  | 2 => .int
  | 3 => .int
  | 4 => .int
  | 5 => .array .int
  | 6 => .array .int
  | 7 => .int
  | 8 => .array .int
  | 9 => .array .int
  | 10 => .array .int
  | 11 => .int
  | 12 => .array .int
  | 13 => .array .boolean
  | 14 => .int
  | 15 => .array .int
  | 16 => .array .boolean
  | 17 => .long
  | 18 => .array .int
  | 19 => .array .int
  | 20 => .int
  | 21 => .array .int
  | 22 => .int
  | 23 => .int
  | _ => .array .int
abbrev wsX40 : List Cond := u_ws RX4 TX4 25
theorem nmX4 : ∀ a, a < 25 → ∀ b, b < 25 → a ≠ b → (TX4 a).2.1 ≠ (TX4 b).2.1 := by decide +kernel
theorem tyX4_ok : ∀ k, k < 25 → parseFieldDescriptor (TX4 k).2.2.1 = some (tyX4 k) := by decide +kernel
abbrev cX4_init : ByteArray := prog_6_method_1_code
def yX4_init : MethodName := ⟨RX4, "<init>", "()V"⟩
abbrev cX4_in : ByteArray := prog_6_method_3_code
def yX4_in : MethodName := ⟨RX4, "in", "(JJJ)Z"⟩
abbrev cX4_has : ByteArray := prog_6_method_4_code
def yX4_has : MethodName := ⟨RX4, "has", "(II)Z"⟩
abbrev cX4_many : ByteArray := prog_6_method_5_code
def yX4_many : MethodName := ⟨RX4, "many", "(I)I"⟩
abbrev cX4_noOne : ByteArray := prog_6_method_6_code
def yX4_noOne : MethodName := ⟨RX4, "noOne", "(I)Z"⟩
abbrev cX4_write : ByteArray := prog_6_method_7_code
def yX4_write : MethodName := ⟨RX4, "write", "(I)I"⟩
abbrev cX4_wipe : ByteArray := prog_6_method_8_code
def yX4_wipe : MethodName := ⟨RX4, "wipe", "()I"⟩
abbrev cX4_figure : ByteArray := prog_6_method_9_code
def yX4_figure : MethodName := ⟨RX4, "figure", "(II)I"⟩
abbrev cX4_readPerson : ByteArray := prog_6_method_10_code
def yX4_readPerson : MethodName := ⟨RX4, "readPerson", "()Z"⟩
abbrev cX4_readCourt : ByteArray := prog_6_method_11_code
def yX4_readCourt : MethodName := ⟨RX4, "readCourt", "()I"⟩
abbrev cX4_fault : ByteArray := prog_6_method_12_code
def yX4_fault : MethodName := ⟨RX4, "fault", "()I"⟩
abbrev cX4_court : ByteArray := prog_6_method_13_code
def yX4_court : MethodName := ⟨RX4, "court", "()I"⟩
abbrev cX4_valueOf : ByteArray := prog_6_method_14_code
def yX4_valueOf : MethodName := ⟨RX4, "valueOf", "([III)I"⟩
abbrev cX4_weightsOf : ByteArray := prog_6_method_15_code
def yX4_weightsOf : MethodName := ⟨RX4, "weightsOf", "([I)I"⟩
abbrev cX4_fairestOf : ByteArray := prog_6_method_16_code
def yX4_fairestOf : MethodName := ⟨RX4, "fairestOf", "([III)I"⟩
abbrev cX4_fairest : ByteArray := prog_6_method_17_code
def yX4_fairest : MethodName := ⟨RX4, "fairest", "()I"⟩
abbrev cX4_about : ByteArray := prog_6_method_18_code
def yX4_about : MethodName := ⟨RX4, "about", "(I)I"⟩
abbrev cX4_person : ByteArray := prog_6_method_19_code
def yX4_person : MethodName := ⟨RX4, "person", "(II)I"⟩
abbrev cX4_note : ByteArray := prog_6_method_20_code
def yX4_note : MethodName := ⟨RX4, "note", "()V"⟩
abbrev cX4_goMorning : ByteArray := prog_6_method_21_code
def yX4_goMorning : MethodName := ⟨RX4, "goMorning", "([I)V"⟩
abbrev cX4_goYear : ByteArray := prog_6_method_22_code
def yX4_goYear : MethodName := ⟨RX4, "goYear", "([I)V"⟩
abbrev cX4_morning : ByteArray := prog_6_method_23_code
def yX4_morning : MethodName := ⟨RX4, "morning", "()I"⟩
abbrev cX4_year : ByteArray := prog_6_method_24_code
def yX4_year : MethodName := ⟨RX4, "year", "()I"⟩
abbrev cX4_plain : ByteArray := prog_6_method_25_code
def yX4_plain : MethodName := ⟨RX4, "plain", "(II)I"⟩
abbrev cX4_hunt : ByteArray := prog_6_method_26_code
def yX4_hunt : MethodName := ⟨RX4, "hunt", "(IZ)I"⟩
abbrev cX4_undo : ByteArray := prog_6_method_27_code
def yX4_undo : MethodName := ⟨RX4, "undo", "()I"⟩
abbrev cX4_begin : ByteArray := prog_6_method_28_code
def yX4_begin : MethodName := ⟨RX4, "begin", "()V"⟩
abbrev cX4_ten : ByteArray := prog_6_method_29_code
def yX4_ten : MethodName := ⟨RX4, "ten", "(I)I"⟩
abbrev cX4_judged : ByteArray := prog_6_method_30_code
def yX4_judged : MethodName := ⟨RX4, "judged", "(II)I"⟩
abbrev cX4_hear : ByteArray := prog_6_method_31_code
def yX4_hear : MethodName := ⟨RX4, "hear", "(IZ)I"⟩
abbrev cX4_unhear : ByteArray := prog_6_method_32_code
def yX4_unhear : MethodName := ⟨RX4, "unhear", "()I"⟩
abbrev cX4_laySets : ByteArray := prog_6_method_33_code
def yX4_laySets : MethodName := ⟨RX4, "laySets", "()V"⟩
abbrev cX4_worlds : ByteArray := prog_6_method_34_code
def yX4_worlds : MethodName := ⟨RX4, "worlds", "(I)I"⟩
abbrev cX4_toAsk : ByteArray := prog_6_method_35_code
def yX4_toAsk : MethodName := ⟨RX4, "toAsk", "()I"⟩
abbrev cX4_answer : ByteArray := prog_6_method_36_code
def yX4_answer : MethodName := ⟨RX4, "answer", "(IZ)I"⟩
abbrev cX4_plainIn : ByteArray := prog_6_method_37_code
def yX4_plainIn : MethodName := ⟨RX4, "plainIn", "(II)I"⟩
abbrev cX4_worthIn : ByteArray := prog_6_method_38_code
def yX4_worthIn : MethodName := ⟨RX4, "worthIn", "(II)I"⟩
abbrev cX4_findRow : ByteArray := prog_6_method_39_code
def yX4_findRow : MethodName := ⟨RX4, "findRow", "()I"⟩
abbrev cX4_chooserOf : ByteArray := prog_6_method_40_code
def yX4_chooserOf : MethodName := ⟨RX4, "chooserOf", "(I)I"⟩
abbrev cX4_chosen : ByteArray := prog_6_method_41_code
def yX4_chosen : MethodName := ⟨RX4, "chosen", "(I)I"⟩
abbrev cX4_chosenWorth : ByteArray := prog_6_method_42_code
def yX4_chosenWorth : MethodName := ⟨RX4, "chosenWorth", "(I)I"⟩
abbrev cX4_isAlone : ByteArray := prog_6_method_43_code
def yX4_isAlone : MethodName := ⟨RX4, "isAlone", "(III)Z"⟩
abbrev cX4_measures : ByteArray := prog_6_method_44_code
def yX4_measures : MethodName := ⟨RX4, "measures", "(I)I"⟩
abbrev cX4_apart : ByteArray := prog_6_method_45_code
def yX4_apart : MethodName := ⟨RX4, "apart", "(II)I"⟩
abbrev cX4_nearest : ByteArray := prog_6_method_46_code
def yX4_nearest : MethodName := ⟨RX4, "nearest", "(I)I"⟩
abbrev cX4_reign : ByteArray := prog_6_method_47_code
def yX4_reign : MethodName := ⟨RX4, "reign", "(Z)I"⟩
abbrev cX4_differs : ByteArray := prog_6_method_48_code
def yX4_differs : MethodName := ⟨RX4, "differs", "(I)I"⟩
abbrev cX4_divisor : ByteArray := prog_6_method_49_code
def yX4_divisor : MethodName := ⟨RX4, "divisor", "(JJ)J"⟩
abbrev cX4_fraction : ByteArray := prog_6_method_50_code
def yX4_fraction : MethodName := ⟨RX4, "fraction", "(JJZ)I"⟩
abbrev cX4_rate : ByteArray := prog_6_method_51_code
def yX4_rate : MethodName := ⟨RX4, "rate", "(IIZ)I"⟩
abbrev cX4_saying : ByteArray := prog_6_method_52_code
def yX4_saying : MethodName := ⟨RX4, "saying", "(IIZ)I"⟩
abbrev cX4_believed : ByteArray := prog_6_method_53_code
def yX4_believed : MethodName := ⟨RX4, "believed", "(IIIZ)I"⟩
abbrev cX4_chance : ByteArray := prog_6_method_54_code
def yX4_chance : MethodName := ⟨RX4, "chance", "(IZ)I"⟩
abbrev cX4_seed : ByteArray := prog_6_method_55_code
def yX4_seed : MethodName := ⟨RX4, "seed", "(J)J"⟩
abbrev cX4_hunted : ByteArray := prog_6_method_56_code
def yX4_hunted : MethodName := ⟨RX4, "hunted", "(I)I"⟩
abbrev cX4_keep : ByteArray := prog_6_method_57_code
def yX4_keep : MethodName := ⟨RX4, "keep", "(I)I"⟩
abbrev cX4_again : ByteArray := prog_6_method_58_code
def yX4_again : MethodName := ⟨RX4, "again", "(I)I"⟩
def RJ6 : String := "java/lang/Integer"
abbrev cJ6_bitCount_0f7a4 : ByteArray := prog_7_method_49_code
def yJ6_bitCount_0f7a4 : MethodName := ⟨RJ6, "bitCount", "(I)I"⟩
def RL : String := "WallMirrorLaw"
abbrev cL_law : ByteArray := code
abbrev vwCl : List vw_C := [(RX0, TX0, 5), (RX1, TX1, 8), (RX2, TX2, 2), (RX3, TX3, 13), (RX4, TX4, 25)]
/-- the words that hold for every call: the tables' but for those that a call may not carry -/
def WW : List Cond := lw_tbl.filter goodWord
theorem ww_in {w : Cond} (h : w ∈ lw_tbl) (hg : goodWord w = true) : w ∈ WW := List.mem_filter.mpr ⟨h, hg⟩
theorem ww_good : ∀ w ∈ WW, w ∈ lw_tbl ∧ goodWord w = true := fun _ h => List.mem_filter.mp h
theorem kI_RL_t : Cond.initialized RL ∈ lw_tbl := List.mem_of_getElem? (i := 60) (by decide +kernel)
theorem kI_RL : Cond.initialized RL ∈ WW := ww_in kI_RL_t (by decide +kernel)
theorem kI_RX3_t : Cond.initialized RX3 ∈ lw_tbl := List.mem_of_getElem? (i := 61) (by decide +kernel)
theorem kI_RX3 : Cond.initialized RX3 ∈ WW := ww_in kI_RX3_t (by decide +kernel)
theorem kI_RX2_t : Cond.initialized RX2 ∈ lw_tbl := List.mem_of_getElem? (i := 62) (by decide +kernel)
theorem kI_RX2 : Cond.initialized RX2 ∈ WW := ww_in kI_RX2_t (by decide +kernel)
theorem kI_RX1_t : Cond.initialized RX1 ∈ lw_tbl := List.mem_of_getElem? (i := 63) (by decide +kernel)
theorem kI_RX1 : Cond.initialized RX1 ∈ WW := ww_in kI_RX1_t (by decide +kernel)
theorem kI_RX0_t : Cond.initialized RX0 ∈ lw_tbl := List.mem_of_getElem? (i := 64) (by decide +kernel)
theorem kI_RX0 : Cond.initialized RX0 ∈ WW := ww_in kI_RX0_t (by decide +kernel)
theorem kI_RX4_t : Cond.initialized RX4 ∈ lw_tbl := List.mem_of_getElem? (i := 65) (by decide +kernel)
theorem kI_RX4 : Cond.initialized RX4 ∈ WW := ww_in kI_RX4_t (by decide +kernel)
theorem kI_java_lang_Math_t : Cond.initialized "java/lang/Math" ∈ lw_tbl := List.mem_of_getElem? (i := 66) (by decide +kernel)
theorem kI_java_lang_Math : Cond.initialized "java/lang/Math" ∈ WW := ww_in kI_java_lang_Math_t (by decide +kernel)
theorem kI_java_lang_System_t : Cond.initialized "java/lang/System" ∈ lw_tbl := List.mem_of_getElem? (i := 67) (by decide +kernel)
theorem kI_java_lang_System : Cond.initialized "java/lang/System" ∈ WW := ww_in kI_java_lang_System_t (by decide +kernel)
theorem kI_RJ6_t : Cond.initialized RJ6 ∈ lw_tbl := List.mem_of_getElem? (i := 68) (by decide +kernel)
theorem kI_RJ6 : Cond.initialized RJ6 ∈ WW := ww_in kI_RJ6_t (by decide +kernel)
theorem kl_RL_7_t : Cond.classLink RL 7 RX3 ∈ lw_tbl := List.mem_of_getElem? (i := 69) (by decide +kernel)
theorem kl_RL_7 : Cond.classLink RL 7 RX3 ∈ WW := ww_in kl_RL_7_t (by decide +kernel)
theorem kN_RX3_t : Cond.instantiable RX3 13 ∈ lw_tbl := List.mem_of_getElem? (i := 70) (by decide +kernel)
theorem kN_RX3 : Cond.instantiable RX3 13 ∈ WW := ww_in kN_RX3_t (by decide +kernel)
theorem kl_RL_9_t : Cond.methodLink RL 9 yX3_init ∈ lw_tbl := List.mem_of_getElem? (i := 71) (by decide +kernel)
theorem kl_RL_9 : Cond.methodLink RL 9 yX3_init ∈ WW := ww_in kl_RL_9_t (by decide +kernel)
theorem ki_yX3_init_t : Cond.instanceMethod yX3_init ∈ lw_tbl := List.mem_of_getElem? (i := 72) (by decide +kernel)
theorem ki_yX3_init : Cond.instanceMethod yX3_init ∈ WW := ww_in ki_yX3_init_t (by decide +kernel)
theorem kC_yX3_init_t : Cond.code yX3_init cX3_init 1 none ∈ lw_tbl := List.mem_of_getElem? (i := 73) (by decide +kernel)
theorem kC_yX3_init : Cond.code yX3_init cX3_init 1 none ∈ WW := ww_in kC_yX3_init_t (by decide +kernel)
theorem kl_RX3_1_t : Cond.methodLink RX3 1 objectInit ∈ lw_tbl := List.mem_of_getElem? (i := 74) (by decide +kernel)
theorem kl_RX3_1 : Cond.methodLink RX3 1 objectInit ∈ WW := ww_in kl_RX3_1_t (by decide +kernel)
theorem ki_objectInit_t : Cond.instanceMethod objectInit ∈ lw_tbl := List.mem_of_getElem? (i := 75) (by decide +kernel)
theorem ki_objectInit : Cond.instanceMethod objectInit ∈ WW := ww_in ki_objectInit_t (by decide +kernel)
theorem kC_objectInit_t : Cond.code objectInit ⟨#[0xb1]⟩ 1 none ∈ lw_tbl := List.mem_of_getElem? (i := 76) (by decide +kernel)
theorem kC_objectInit : Cond.code objectInit ⟨#[0xb1]⟩ 1 none ∈ WW := ww_in kC_objectInit_t (by decide +kernel)
theorem kl_RX3_7_t : Cond.classLink RX3 7 RX2 ∈ lw_tbl := List.mem_of_getElem? (i := 77) (by decide +kernel)
theorem kl_RX3_7 : Cond.classLink RX3 7 RX2 ∈ WW := ww_in kl_RX3_7_t (by decide +kernel)
theorem kN_RX2_t : Cond.instantiable RX2 2 ∈ lw_tbl := List.mem_of_getElem? (i := 78) (by decide +kernel)
theorem kN_RX2 : Cond.instantiable RX2 2 ∈ WW := ww_in kN_RX2_t (by decide +kernel)
theorem ki_yX2_init_t : Cond.instanceMethod yX2_init ∈ lw_tbl := List.mem_of_getElem? (i := 80) (by decide +kernel)
theorem ki_yX2_init : Cond.instanceMethod yX2_init ∈ WW := ww_in ki_yX2_init_t (by decide +kernel)
theorem kC_yX2_init_t : Cond.code yX2_init cX2_init 1 none ∈ lw_tbl := List.mem_of_getElem? (i := 81) (by decide +kernel)
theorem kC_yX2_init : Cond.code yX2_init cX2_init 1 none ∈ WW := ww_in kC_yX2_init_t (by decide +kernel)
theorem kl_RX2_5_t : Cond.methodLink RX2 5 objectInit ∈ lw_tbl := List.mem_of_getElem? (i := 82) (by decide +kernel)
theorem kl_RX2_5 : Cond.methodLink RX2 5 objectInit ∈ WW := ww_in kl_RX2_5_t (by decide +kernel)
theorem kl_RX2_11_t : Cond.fieldLink RX2 11 "WallMirror$Text" "bytes" "[I" ∈ lw_tbl := List.mem_of_getElem? (i := 83) (by decide +kernel)
theorem kl_RX2_11 : Cond.fieldLink RX2 11 "WallMirror$Text" "bytes" "[I" ∈ WW := ww_in kl_RX2_11_t (by decide +kernel)
theorem kl_RX2_15_t : Cond.fieldLink RX2 15 "WallMirror$Text" "length" "I" ∈ lw_tbl := List.mem_of_getElem? (i := 84) (by decide +kernel)
theorem kl_RX2_15 : Cond.fieldLink RX2 15 "WallMirror$Text" "length" "I" ∈ WW := ww_in kl_RX2_15_t (by decide +kernel)
theorem kA_int_t : Cond.arrayClass .int ∈ lw_tbl := List.mem_of_getElem? (i := 91) (by decide +kernel)
theorem kA_int : Cond.arrayClass .int ∈ WW := ww_in kA_int_t (by decide +kernel)
theorem kl_RX3_16_t : Cond.classLink RX3 16 RX1 ∈ lw_tbl := List.mem_of_getElem? (i := 92) (by decide +kernel)
theorem kl_RX3_16 : Cond.classLink RX3 16 RX1 ∈ WW := ww_in kl_RX3_16_t (by decide +kernel)
theorem kN_RX1_t : Cond.instantiable RX1 8 ∈ lw_tbl := List.mem_of_getElem? (i := 93) (by decide +kernel)
theorem kN_RX1 : Cond.instantiable RX1 8 ∈ WW := ww_in kN_RX1_t (by decide +kernel)
theorem ki_yX1_init_t : Cond.instanceMethod yX1_init ∈ lw_tbl := List.mem_of_getElem? (i := 95) (by decide +kernel)
theorem ki_yX1_init : Cond.instanceMethod yX1_init ∈ WW := ww_in ki_yX1_init_t (by decide +kernel)
theorem kC_yX1_init_t : Cond.code yX1_init cX1_init 1 none ∈ lw_tbl := List.mem_of_getElem? (i := 96) (by decide +kernel)
theorem kC_yX1_init : Cond.code yX1_init cX1_init 1 none ∈ WW := ww_in kC_yX1_init_t (by decide +kernel)
theorem kl_RX1_5_t : Cond.methodLink RX1 5 objectInit ∈ lw_tbl := List.mem_of_getElem? (i := 97) (by decide +kernel)
theorem kl_RX1_5 : Cond.methodLink RX1 5 objectInit ∈ WW := ww_in kl_RX1_5_t (by decide +kernel)
theorem kl_RX1_11_t : Cond.fieldLink RX1 11 "WallMirror$Court" "people" "I" ∈ lw_tbl := List.mem_of_getElem? (i := 98) (by decide +kernel)
theorem kl_RX1_11 : Cond.fieldLink RX1 11 "WallMirror$Court" "people" "I" ∈ WW := ww_in kl_RX1_11_t (by decide +kernel)
theorem kl_RX1_15_t : Cond.fieldLink RX1 15 "WallMirror$Court" "weights" "[I" ∈ lw_tbl := List.mem_of_getElem? (i := 101) (by decide +kernel)
theorem kl_RX1_15 : Cond.fieldLink RX1 15 "WallMirror$Court" "weights" "[I" ∈ WW := ww_in kl_RX1_15_t (by decide +kernel)
theorem kl_RX1_19_t : Cond.fieldLink RX1 19 "WallMirror$Court" "marks" "[I" ∈ lw_tbl := List.mem_of_getElem? (i := 102) (by decide +kernel)
theorem kl_RX1_19 : Cond.fieldLink RX1 19 "WallMirror$Court" "marks" "[I" ∈ WW := ww_in kl_RX1_19_t (by decide +kernel)
theorem kl_RX1_22_t : Cond.fieldLink RX1 22 "WallMirror$Court" "ageing" "[I" ∈ lw_tbl := List.mem_of_getElem? (i := 104) (by decide +kernel)
theorem kl_RX1_22 : Cond.fieldLink RX1 22 "WallMirror$Court" "ageing" "[I" ∈ WW := ww_in kl_RX1_22_t (by decide +kernel)
theorem kl_RX1_25_t : Cond.fieldLink RX1 25 "WallMirror$Court" "alive" "I" ∈ lw_tbl := List.mem_of_getElem? (i := 106) (by decide +kernel)
theorem kl_RX1_25 : Cond.fieldLink RX1 25 "WallMirror$Court" "alive" "I" ∈ WW := ww_in kl_RX1_25_t (by decide +kernel)
theorem kl_RX1_28_t : Cond.fieldLink RX1 28 "WallMirror$Court" "reported" "I" ∈ lw_tbl := List.mem_of_getElem? (i := 108) (by decide +kernel)
theorem kl_RX1_28 : Cond.fieldLink RX1 28 "WallMirror$Court" "reported" "I" ∈ WW := ww_in kl_RX1_28_t (by decide +kernel)
theorem kl_RX1_31_t : Cond.fieldLink RX1 31 "WallMirror$Court" "mornings" "I" ∈ lw_tbl := List.mem_of_getElem? (i := 110) (by decide +kernel)
theorem kl_RX1_31 : Cond.fieldLink RX1 31 "WallMirror$Court" "mornings" "I" ∈ WW := ww_in kl_RX1_31_t (by decide +kernel)
theorem kl_RX1_34_t : Cond.fieldLink RX1 34 "WallMirror$Court" "years" "I" ∈ lw_tbl := List.mem_of_getElem? (i := 112) (by decide +kernel)
theorem kl_RX1_34 : Cond.fieldLink RX1 34 "WallMirror$Court" "years" "I" ∈ WW := ww_in kl_RX1_34_t (by decide +kernel)
theorem kl_RX3_26_t : Cond.classLink RX3 26 RX0 ∈ lw_tbl := List.mem_of_getElem? (i := 131) (by decide +kernel)
theorem kl_RX3_26 : Cond.classLink RX3 26 RX0 ∈ WW := ww_in kl_RX3_26_t (by decide +kernel)
theorem kN_RX0_t : Cond.instantiable RX0 5 ∈ lw_tbl := List.mem_of_getElem? (i := 132) (by decide +kernel)
theorem kN_RX0 : Cond.instantiable RX0 5 ∈ WW := ww_in kN_RX0_t (by decide +kernel)
theorem ki_yX0_init_t : Cond.instanceMethod yX0_init ∈ lw_tbl := List.mem_of_getElem? (i := 134) (by decide +kernel)
theorem ki_yX0_init : Cond.instanceMethod yX0_init ∈ WW := ww_in ki_yX0_init_t (by decide +kernel)
theorem kC_yX0_init_t : Cond.code yX0_init cX0_init 1 none ∈ lw_tbl := List.mem_of_getElem? (i := 135) (by decide +kernel)
theorem kC_yX0_init : Cond.code yX0_init cX0_init 1 none ∈ WW := ww_in kC_yX0_init_t (by decide +kernel)
theorem kl_RX0_3_t : Cond.methodLink RX0 3 objectInit ∈ lw_tbl := List.mem_of_getElem? (i := 136) (by decide +kernel)
theorem kl_RX0_3 : Cond.methodLink RX0 3 objectInit ∈ WW := ww_in kl_RX0_3_t (by decide +kernel)
theorem kl_RX0_11_t : Cond.fieldLink RX0 11 "WallMirror$Choosing" "values" "[I" ∈ lw_tbl := List.mem_of_getElem? (i := 137) (by decide +kernel)
theorem kl_RX0_11 : Cond.fieldLink RX0 11 "WallMirror$Choosing" "values" "[I" ∈ WW := ww_in kl_RX0_11_t (by decide +kernel)
theorem kl_RX0_15_t : Cond.fieldLink RX0 15 "WallMirror$Choosing" "turnOf" "[I" ∈ lw_tbl := List.mem_of_getElem? (i := 138) (by decide +kernel)
theorem kl_RX0_15 : Cond.fieldLink RX0 15 "WallMirror$Choosing" "turnOf" "[I" ∈ WW := ww_in kl_RX0_15_t (by decide +kernel)
theorem kl_RX0_18_t : Cond.fieldLink RX0 18 "WallMirror$Choosing" "ends" "[I" ∈ lw_tbl := List.mem_of_getElem? (i := 139) (by decide +kernel)
theorem kl_RX0_18 : Cond.fieldLink RX0 18 "WallMirror$Choosing" "ends" "[I" ∈ WW := ww_in kl_RX0_18_t (by decide +kernel)
theorem kl_RX0_21_t : Cond.fieldLink RX0 21 "WallMirror$Choosing" "choosers" "I" ∈ lw_tbl := List.mem_of_getElem? (i := 140) (by decide +kernel)
theorem kl_RX0_21 : Cond.fieldLink RX0 21 "WallMirror$Choosing" "choosers" "I" ∈ WW := ww_in kl_RX0_21_t (by decide +kernel)
theorem kl_RX0_25_t : Cond.fieldLink RX0 25 "WallMirror$Choosing" "queenValue" "I" ∈ lw_tbl := List.mem_of_getElem? (i := 141) (by decide +kernel)
theorem kl_RX0_25 : Cond.fieldLink RX0 25 "WallMirror$Choosing" "queenValue" "I" ∈ WW := ww_in kl_RX0_25_t (by decide +kernel)
theorem kl_RX3_10_t : Cond.fieldLink RX3 10 "WallMirror" "text" "LWallMirror$Text;" ∈ lw_tbl := List.mem_of_getElem? (i := 153) (by decide +kernel)
theorem kl_RX3_10 : Cond.fieldLink RX3 10 "WallMirror" "text" "LWallMirror$Text;" ∈ WW := ww_in kl_RX3_10_t (by decide +kernel)
theorem kl_RX3_19_t : Cond.fieldLink RX3 19 "WallMirror" "now" "LWallMirror$Court;" ∈ lw_tbl := List.mem_of_getElem? (i := 154) (by decide +kernel)
theorem kl_RX3_19 : Cond.fieldLink RX3 19 "WallMirror" "now" "LWallMirror$Court;" ∈ WW := ww_in kl_RX3_19_t (by decide +kernel)
theorem kl_RX3_23_t : Cond.fieldLink RX3 23 "WallMirror" "trial" "LWallMirror$Court;" ∈ lw_tbl := List.mem_of_getElem? (i := 155) (by decide +kernel)
theorem kl_RX3_23 : Cond.fieldLink RX3 23 "WallMirror" "trial" "LWallMirror$Court;" ∈ WW := ww_in kl_RX3_23_t (by decide +kernel)
theorem kl_RX3_29_t : Cond.fieldLink RX3 29 "WallMirror" "choosing" "LWallMirror$Choosing;" ∈ lw_tbl := List.mem_of_getElem? (i := 156) (by decide +kernel)
theorem kl_RX3_29 : Cond.fieldLink RX3 29 "WallMirror" "choosing" "LWallMirror$Choosing;" ∈ WW := ww_in kl_RX3_29_t (by decide +kernel)
theorem kl_RX3_33_t : Cond.fieldLink RX3 33 "WallMirror" "acts" "[I" ∈ lw_tbl := List.mem_of_getElem? (i := 157) (by decide +kernel)
theorem kl_RX3_33 : Cond.fieldLink RX3 33 "WallMirror" "acts" "[I" ∈ WW := ww_in kl_RX3_33_t (by decide +kernel)
theorem kl_RX3_37_t : Cond.fieldLink RX3 37 "WallMirror" "nextAct" "I" ∈ lw_tbl := List.mem_of_getElem? (i := 158) (by decide +kernel)
theorem kl_RX3_37 : Cond.fieldLink RX3 37 "WallMirror" "nextAct" "I" ∈ WW := ww_in kl_RX3_37_t (by decide +kernel)
theorem kl_RX3_41_t : Cond.fieldLink RX3 41 "WallMirror" "actCount" "I" ∈ lw_tbl := List.mem_of_getElem? (i := 159) (by decide +kernel)
theorem kl_RX3_41 : Cond.fieldLink RX3 41 "WallMirror" "actCount" "I" ∈ WW := ww_in kl_RX3_41_t (by decide +kernel)
theorem kl_RX3_44_t : Cond.fieldLink RX3 44 "WallMirror" "slots" "[I" ∈ lw_tbl := List.mem_of_getElem? (i := 160) (by decide +kernel)
theorem kl_RX3_44 : Cond.fieldLink RX3 44 "WallMirror" "slots" "[I" ∈ WW := ww_in kl_RX3_44_t (by decide +kernel)
theorem kl_RX3_47_t : Cond.fieldLink RX3 47 "WallMirror" "isKept" "[Z" ∈ lw_tbl := List.mem_of_getElem? (i := 161) (by decide +kernel)
theorem kl_RX3_47 : Cond.fieldLink RX3 47 "WallMirror" "isKept" "[Z" ∈ WW := ww_in kl_RX3_47_t (by decide +kernel)
theorem kl_RX3_51_t : Cond.fieldLink RX3 51 "WallMirror" "heardPerson" "[I" ∈ lw_tbl := List.mem_of_getElem? (i := 162) (by decide +kernel)
theorem kl_RX3_51 : Cond.fieldLink RX3 51 "WallMirror" "heardPerson" "[I" ∈ WW := ww_in kl_RX3_51_t (by decide +kernel)
theorem kl_RX3_54_t : Cond.fieldLink RX3 54 "WallMirror" "heardIs" "[Z" ∈ lw_tbl := List.mem_of_getElem? (i := 163) (by decide +kernel)
theorem kl_RX3_54 : Cond.fieldLink RX3 54 "WallMirror" "heardIs" "[Z" ∈ WW := ww_in kl_RX3_54_t (by decide +kernel)
theorem kl_RX3_57_t : Cond.fieldLink RX3 57 "WallMirror" "heardCount" "I" ∈ lw_tbl := List.mem_of_getElem? (i := 164) (by decide +kernel)
theorem kl_RX3_57 : Cond.fieldLink RX3 57 "WallMirror" "heardCount" "I" ∈ WW := ww_in kl_RX3_57_t (by decide +kernel)
theorem kl_RX3_60_t : Cond.fieldLink RX3 60 "WallMirror" "seed" "J" ∈ lw_tbl := List.mem_of_getElem? (i := 165) (by decide +kernel)
theorem kl_RX3_60 : Cond.fieldLink RX3 60 "WallMirror" "seed" "J" ∈ WW := ww_in kl_RX3_60_t (by decide +kernel)
theorem kA_boolean_t : Cond.arrayClass .boolean ∈ lw_tbl := List.mem_of_getElem? (i := 193) (by decide +kernel)
theorem kA_boolean : Cond.arrayClass .boolean ∈ WW := ww_in kA_boolean_t (by decide +kernel)
theorem kl_RL_13_t : Cond.methodLink RL 13 yX3_write ∈ lw_tbl := List.mem_of_getElem? (i := 194) (by decide +kernel)
theorem kl_RL_13 : Cond.methodLink RL 13 yX3_write ∈ WW := ww_in kl_RL_13_t (by decide +kernel)
theorem ki_yX3_write_t : Cond.instanceMethod yX3_write ∈ lw_tbl := List.mem_of_getElem? (i := 195) (by decide +kernel)
theorem ki_yX3_write : Cond.instanceMethod yX3_write ∈ WW := ww_in ki_yX3_write_t (by decide +kernel)
theorem kS_yX3_write_t : Cond.selects RX3 yX3_write yX3_write ∈ lw_tbl := List.mem_of_getElem? (i := 196) (by decide +kernel)
theorem kS_yX3_write : Cond.selects RX3 yX3_write yX3_write ∈ WW := ww_in kS_yX3_write_t (by decide +kernel)
theorem kC_yX3_write_t : Cond.code yX3_write cX3_write 2 (some .int) ∈ lw_tbl := List.mem_of_getElem? (i := 197) (by decide +kernel)
theorem kC_yX3_write : Cond.code yX3_write cX3_write 2 (some .int) ∈ WW := ww_in kC_yX3_write_t (by decide +kernel)
theorem ki_yX2_append_t : Cond.instanceMethod yX2_append ∈ lw_tbl := List.mem_of_getElem? (i := 200) (by decide +kernel)
theorem ki_yX2_append : Cond.instanceMethod yX2_append ∈ WW := ww_in ki_yX2_append_t (by decide +kernel)
theorem kC_yX2_append_t : Cond.code yX2_append cX2_append 2 none ∈ lw_tbl := List.mem_of_getElem? (i := 201) (by decide +kernel)
theorem kC_yX2_append : Cond.code yX2_append cX2_append 2 none ∈ WW := ww_in kC_yX2_append_t (by decide +kernel)
theorem kl_RL_18_t : Cond.methodLink RL 18 yX3_wipe ∈ lw_tbl := List.mem_of_getElem? (i := 202) (by decide +kernel)
theorem kl_RL_18 : Cond.methodLink RL 18 yX3_wipe ∈ WW := ww_in kl_RL_18_t (by decide +kernel)
theorem ki_yX3_wipe_t : Cond.instanceMethod yX3_wipe ∈ lw_tbl := List.mem_of_getElem? (i := 203) (by decide +kernel)
theorem ki_yX3_wipe : Cond.instanceMethod yX3_wipe ∈ WW := ww_in ki_yX3_wipe_t (by decide +kernel)
theorem kS_yX3_wipe_t : Cond.selects RX3 yX3_wipe yX3_wipe ∈ lw_tbl := List.mem_of_getElem? (i := 204) (by decide +kernel)
theorem kS_yX3_wipe : Cond.selects RX3 yX3_wipe yX3_wipe ∈ WW := ww_in kS_yX3_wipe_t (by decide +kernel)
theorem kC_yX3_wipe_t : Cond.code yX3_wipe cX3_wipe 2 (some .int) ∈ lw_tbl := List.mem_of_getElem? (i := 205) (by decide +kernel)
theorem kC_yX3_wipe : Cond.code yX3_wipe cX3_wipe 2 (some .int) ∈ WW := ww_in kC_yX3_wipe_t (by decide +kernel)
theorem kl_RL_23_t : Cond.methodLink RL 23 yX3_fault ∈ lw_tbl := List.mem_of_getElem? (i := 206) (by decide +kernel)
theorem kl_RL_23 : Cond.methodLink RL 23 yX3_fault ∈ WW := ww_in kl_RL_23_t (by decide +kernel)
theorem ki_yX3_fault_t : Cond.instanceMethod yX3_fault ∈ lw_tbl := List.mem_of_getElem? (i := 207) (by decide +kernel)
theorem ki_yX3_fault : Cond.instanceMethod yX3_fault ∈ WW := ww_in ki_yX3_fault_t (by decide +kernel)
theorem kS_yX3_fault_t : Cond.selects RX3 yX3_fault yX3_fault ∈ lw_tbl := List.mem_of_getElem? (i := 208) (by decide +kernel)
theorem kS_yX3_fault : Cond.selects RX3 yX3_fault yX3_fault ∈ WW := ww_in kS_yX3_fault_t (by decide +kernel)
theorem kC_yX3_fault_t : Cond.code yX3_fault cX3_fault 1 (some .int) ∈ lw_tbl := List.mem_of_getElem? (i := 209) (by decide +kernel)
theorem kC_yX3_fault : Cond.code yX3_fault cX3_fault 1 (some .int) ∈ WW := ww_in kC_yX3_fault_t (by decide +kernel)
theorem ki_yX2_firstFault_t : Cond.instanceMethod yX2_firstFault ∈ lw_tbl := List.mem_of_getElem? (i := 212) (by decide +kernel)
theorem ki_yX2_firstFault : Cond.instanceMethod yX2_firstFault ∈ WW := ww_in ki_yX2_firstFault_t (by decide +kernel)
theorem kC_yX2_firstFault_t : Cond.code yX2_firstFault cX2_firstFault 2 (some .int) ∈ lw_tbl := List.mem_of_getElem? (i := 213) (by decide +kernel)
theorem kC_yX2_firstFault : Cond.code yX2_firstFault cX2_firstFault 2 (some .int) ∈ WW := ww_in kC_yX2_firstFault_t (by decide +kernel)
theorem kl_RX2_19_t : Cond.methodLink RX2 19 yX2_fitsAt ∈ lw_tbl := List.mem_of_getElem? (i := 214) (by decide +kernel)
theorem kl_RX2_19 : Cond.methodLink RX2 19 yX2_fitsAt ∈ WW := ww_in kl_RX2_19_t (by decide +kernel)
theorem ki_yX2_fitsAt_t : Cond.instanceMethod yX2_fitsAt ∈ lw_tbl := List.mem_of_getElem? (i := 216) (by decide +kernel)
theorem ki_yX2_fitsAt : Cond.instanceMethod yX2_fitsAt ∈ WW := ww_in ki_yX2_fitsAt_t (by decide +kernel)
theorem kC_yX2_fitsAt_t : Cond.code yX2_fitsAt cX2_fitsAt 6 (some .boolean) ∈ lw_tbl := List.mem_of_getElem? (i := 217) (by decide +kernel)
theorem kC_yX2_fitsAt : Cond.code yX2_fitsAt cX2_fitsAt 6 (some .boolean) ∈ WW := ww_in kC_yX2_fitsAt_t (by decide +kernel)
theorem kl_RX2_23_t : Cond.methodLink RX2 23 yX2_areWeightsNothing ∈ lw_tbl := List.mem_of_getElem? (i := 218) (by decide +kernel)
theorem kl_RX2_23 : Cond.methodLink RX2 23 yX2_areWeightsNothing ∈ WW := ww_in kl_RX2_23_t (by decide +kernel)
theorem ki_yX2_areWeightsNothing_t : Cond.instanceMethod yX2_areWeightsNothing ∈ lw_tbl := List.mem_of_getElem? (i := 220) (by decide +kernel)
theorem ki_yX2_areWeightsNothing : Cond.instanceMethod yX2_areWeightsNothing ∈ WW := ww_in ki_yX2_areWeightsNothing_t (by decide +kernel)
theorem kC_yX2_areWeightsNothing_t : Cond.code yX2_areWeightsNothing cX2_areWeightsNothing 2 (some .boolean) ∈ lw_tbl := List.mem_of_getElem? (i := 221) (by decide +kernel)
theorem kC_yX2_areWeightsNothing : Cond.code yX2_areWeightsNothing cX2_areWeightsNothing 2 (some .boolean) ∈ WW := ww_in kC_yX2_areWeightsNothing_t (by decide +kernel)
theorem kl_RX2_27_t : Cond.methodLink RX2 27 yX2_weight ∈ lw_tbl := List.mem_of_getElem? (i := 222) (by decide +kernel)
theorem kl_RX2_27 : Cond.methodLink RX2 27 yX2_weight ∈ WW := ww_in kl_RX2_27_t (by decide +kernel)
theorem ki_yX2_weight_t : Cond.instanceMethod yX2_weight ∈ lw_tbl := List.mem_of_getElem? (i := 224) (by decide +kernel)
theorem ki_yX2_weight : Cond.instanceMethod yX2_weight ∈ WW := ww_in ki_yX2_weight_t (by decide +kernel)
theorem kC_yX2_weight_t : Cond.code yX2_weight cX2_weight 2 (some .int) ∈ lw_tbl := List.mem_of_getElem? (i := 225) (by decide +kernel)
theorem kC_yX2_weight : Cond.code yX2_weight cX2_weight 2 (some .int) ∈ WW := ww_in kC_yX2_weight_t (by decide +kernel)
theorem kl_RL_27_t : Cond.methodLink RL 27 yX3_court ∈ lw_tbl := List.mem_of_getElem? (i := 226) (by decide +kernel)
theorem kl_RL_27 : Cond.methodLink RL 27 yX3_court ∈ WW := ww_in kl_RL_27_t (by decide +kernel)
theorem ki_yX3_court_t : Cond.instanceMethod yX3_court ∈ lw_tbl := List.mem_of_getElem? (i := 227) (by decide +kernel)
theorem ki_yX3_court : Cond.instanceMethod yX3_court ∈ WW := ww_in ki_yX3_court_t (by decide +kernel)
theorem kS_yX3_court_t : Cond.selects RX3 yX3_court yX3_court ∈ lw_tbl := List.mem_of_getElem? (i := 228) (by decide +kernel)
theorem kS_yX3_court : Cond.selects RX3 yX3_court yX3_court ∈ WW := ww_in kS_yX3_court_t (by decide +kernel)
theorem kC_yX3_court_t : Cond.code yX3_court cX3_court 2 (some .int) ∈ lw_tbl := List.mem_of_getElem? (i := 229) (by decide +kernel)
theorem kC_yX3_court : Cond.code yX3_court cX3_court 2 (some .int) ∈ WW := ww_in kC_yX3_court_t (by decide +kernel)
theorem ki_yX1_readFrom_t : Cond.instanceMethod yX1_readFrom ∈ lw_tbl := List.mem_of_getElem? (i := 232) (by decide +kernel)
theorem ki_yX1_readFrom : Cond.instanceMethod yX1_readFrom ∈ WW := ww_in ki_yX1_readFrom_t (by decide +kernel)
theorem kC_yX1_readFrom_t : Cond.code yX1_readFrom cX1_readFrom 4 none ∈ lw_tbl := List.mem_of_getElem? (i := 233) (by decide +kernel)
theorem kC_yX1_readFrom : Cond.code yX1_readFrom cX1_readFrom 4 none ∈ WW := ww_in kC_yX1_readFrom_t (by decide +kernel)
theorem ki_yX2_peopleTold_t : Cond.instanceMethod yX2_peopleTold ∈ lw_tbl := List.mem_of_getElem? (i := 236) (by decide +kernel)
theorem ki_yX2_peopleTold : Cond.instanceMethod yX2_peopleTold ∈ WW := ww_in ki_yX2_peopleTold_t (by decide +kernel)
theorem kC_yX2_peopleTold_t : Cond.code yX2_peopleTold cX2_peopleTold 1 (some .int) ∈ lw_tbl := List.mem_of_getElem? (i := 237) (by decide +kernel)
theorem kC_yX2_peopleTold : Cond.code yX2_peopleTold cX2_peopleTold 1 (some .int) ∈ WW := ww_in kC_yX2_peopleTold_t (by decide +kernel)
theorem kl_RX2_31_t : Cond.methodLink RX2 31 Lib.Math.max.name ∈ lw_tbl := List.mem_of_getElem? (i := 238) (by decide +kernel)
theorem kl_RX2_31 : Cond.methodLink RX2 31 Lib.Math.max.name ∈ WW := ww_in kl_RX2_31_t (by decide +kernel)
theorem ks_Lib_Math_max_name_t : Cond.static Lib.Math.max.name ∈ lw_tbl := List.mem_of_getElem? (i := 239) (by decide +kernel)
theorem ks_Lib_Math_max_name : Cond.static Lib.Math.max.name ∈ WW := ww_in ks_Lib_Math_max_name_t (by decide +kernel)
theorem kC_Lib_Math_max_name_t : Cond.code Lib.Math.max.name Lib.Math.max.code 2 (some .int) ∈ lw_tbl := List.mem_of_getElem? (i := 240) (by decide +kernel)
theorem kC_Lib_Math_max_name : Cond.code Lib.Math.max.name Lib.Math.max.code 2 (some .int) ∈ WW := ww_in kC_Lib_Math_max_name_t (by decide +kernel)
theorem kl_RX1_43_t : Cond.methodLink RX1 43 Lib.Math.min.name ∈ lw_tbl := List.mem_of_getElem? (i := 241) (by decide +kernel)
theorem kl_RX1_43 : Cond.methodLink RX1 43 Lib.Math.min.name ∈ WW := ww_in kl_RX1_43_t (by decide +kernel)
theorem ks_Lib_Math_min_name_t : Cond.static Lib.Math.min.name ∈ lw_tbl := List.mem_of_getElem? (i := 242) (by decide +kernel)
theorem ks_Lib_Math_min_name : Cond.static Lib.Math.min.name ∈ WW := ww_in ks_Lib_Math_min_name_t (by decide +kernel)
theorem kC_Lib_Math_min_name_t : Cond.code Lib.Math.min.name Lib.Math.min.code 2 (some .int) ∈ lw_tbl := List.mem_of_getElem? (i := 243) (by decide +kernel)
theorem kC_Lib_Math_min_name : Cond.code Lib.Math.min.name Lib.Math.min.code 2 (some .int) ∈ WW := ww_in kC_Lib_Math_min_name_t (by decide +kernel)
theorem ki_yX2_figureOf_t : Cond.instanceMethod yX2_figureOf ∈ lw_tbl := List.mem_of_getElem? (i := 247) (by decide +kernel)
theorem ki_yX2_figureOf : Cond.instanceMethod yX2_figureOf ∈ WW := ww_in ki_yX2_figureOf_t (by decide +kernel)
theorem kC_yX2_figureOf_t : Cond.code yX2_figureOf cX2_figureOf 3 (some .int) ∈ lw_tbl := List.mem_of_getElem? (i := 248) (by decide +kernel)
theorem kC_yX2_figureOf : Cond.code yX2_figureOf cX2_figureOf 3 (some .int) ∈ WW := ww_in kC_yX2_figureOf_t (by decide +kernel)
theorem kl_RX1_56_t : Cond.methodLink RX1 56 yX1_everybody ∈ lw_tbl := List.mem_of_getElem? (i := 249) (by decide +kernel)
theorem kl_RX1_56 : Cond.methodLink RX1 56 yX1_everybody ∈ WW := ww_in kl_RX1_56_t (by decide +kernel)
theorem ki_yX1_everybody_t : Cond.instanceMethod yX1_everybody ∈ lw_tbl := List.mem_of_getElem? (i := 251) (by decide +kernel)
theorem ki_yX1_everybody : Cond.instanceMethod yX1_everybody ∈ WW := ww_in ki_yX1_everybody_t (by decide +kernel)
theorem kC_yX1_everybody_t : Cond.code yX1_everybody cX1_everybody 1 (some .int) ∈ lw_tbl := List.mem_of_getElem? (i := 252) (by decide +kernel)
theorem kC_yX1_everybody : Cond.code yX1_everybody cX1_everybody 1 (some .int) ∈ WW := ww_in kC_yX1_everybody_t (by decide +kernel)
theorem kl_RX3_79_t : Cond.methodLink RX3 79 yX3_forgetActs ∈ lw_tbl := List.mem_of_getElem? (i := 253) (by decide +kernel)
theorem kl_RX3_79 : Cond.methodLink RX3 79 yX3_forgetActs ∈ WW := ww_in kl_RX3_79_t (by decide +kernel)
theorem ki_yX3_forgetActs_t : Cond.instanceMethod yX3_forgetActs ∈ lw_tbl := List.mem_of_getElem? (i := 255) (by decide +kernel)
theorem ki_yX3_forgetActs : Cond.instanceMethod yX3_forgetActs ∈ WW := ww_in ki_yX3_forgetActs_t (by decide +kernel)
theorem kC_yX3_forgetActs_t : Cond.code yX3_forgetActs cX3_forgetActs 1 none ∈ lw_tbl := List.mem_of_getElem? (i := 256) (by decide +kernel)
theorem kC_yX3_forgetActs : Cond.code yX3_forgetActs cX3_forgetActs 1 none ∈ WW := ww_in kC_yX3_forgetActs_t (by decide +kernel)
theorem kl_RL_31_t : Cond.methodLink RL 31 yX3_about ∈ lw_tbl := List.mem_of_getElem? (i := 257) (by decide +kernel)
theorem kl_RL_31 : Cond.methodLink RL 31 yX3_about ∈ WW := ww_in kl_RL_31_t (by decide +kernel)
theorem ki_yX3_about_t : Cond.instanceMethod yX3_about ∈ lw_tbl := List.mem_of_getElem? (i := 258) (by decide +kernel)
theorem ki_yX3_about : Cond.instanceMethod yX3_about ∈ WW := ww_in ki_yX3_about_t (by decide +kernel)
theorem kS_yX3_about_t : Cond.selects RX3 yX3_about yX3_about ∈ lw_tbl := List.mem_of_getElem? (i := 259) (by decide +kernel)
theorem kS_yX3_about : Cond.selects RX3 yX3_about yX3_about ∈ WW := ww_in kS_yX3_about_t (by decide +kernel)
theorem kC_yX3_about_t : Cond.code yX3_about cX3_about 2 (some .int) ∈ lw_tbl := List.mem_of_getElem? (i := 260) (by decide +kernel)
theorem kC_yX3_about : Cond.code yX3_about cX3_about 2 (some .int) ∈ WW := ww_in kC_yX3_about_t (by decide +kernel)
theorem ki_yX1_fairestOf_t : Cond.instanceMethod yX1_fairestOf ∈ lw_tbl := List.mem_of_getElem? (i := 263) (by decide +kernel)
theorem ki_yX1_fairestOf : Cond.instanceMethod yX1_fairestOf ∈ WW := ww_in ki_yX1_fairestOf_t (by decide +kernel)
theorem kC_yX1_fairestOf_t : Cond.code yX1_fairestOf cX1_fairestOf 6 (some .int) ∈ lw_tbl := List.mem_of_getElem? (i := 264) (by decide +kernel)
theorem kC_yX1_fairestOf : Cond.code yX1_fairestOf cX1_fairestOf 6 (some .int) ∈ WW := ww_in kC_yX1_fairestOf_t (by decide +kernel)
theorem kl_RX1_76_t : Cond.methodLink RX1 76 yX1_valueOf ∈ lw_tbl := List.mem_of_getElem? (i := 265) (by decide +kernel)
theorem kl_RX1_76 : Cond.methodLink RX1 76 yX1_valueOf ∈ WW := ww_in kl_RX1_76_t (by decide +kernel)
theorem ki_yX1_valueOf_t : Cond.instanceMethod yX1_valueOf ∈ lw_tbl := List.mem_of_getElem? (i := 267) (by decide +kernel)
theorem ki_yX1_valueOf : Cond.instanceMethod yX1_valueOf ∈ WW := ww_in ki_yX1_valueOf_t (by decide +kernel)
theorem kC_yX1_valueOf_t : Cond.code yX1_valueOf cX1_valueOf 3 (some .int) ∈ lw_tbl := List.mem_of_getElem? (i := 268) (by decide +kernel)
theorem kC_yX1_valueOf : Cond.code yX1_valueOf cX1_valueOf 3 (some .int) ∈ WW := ww_in kC_yX1_valueOf_t (by decide +kernel)
theorem ki_yX1_weightsAsFigures_t : Cond.instanceMethod yX1_weightsAsFigures ∈ lw_tbl := List.mem_of_getElem? (i := 271) (by decide +kernel)
theorem ki_yX1_weightsAsFigures : Cond.instanceMethod yX1_weightsAsFigures ∈ WW := ww_in ki_yX1_weightsAsFigures_t (by decide +kernel)
theorem kC_yX1_weightsAsFigures_t : Cond.code yX1_weightsAsFigures cX1_weightsAsFigures 1 (some .int) ∈ lw_tbl := List.mem_of_getElem? (i := 272) (by decide +kernel)
theorem kC_yX1_weightsAsFigures : Cond.code yX1_weightsAsFigures cX1_weightsAsFigures 1 (some .int) ∈ WW := ww_in kC_yX1_weightsAsFigures_t (by decide +kernel)
theorem kl_RL_35_t : Cond.methodLink RL 35 yX3_person ∈ lw_tbl := List.mem_of_getElem? (i := 273) (by decide +kernel)
theorem kl_RL_35 : Cond.methodLink RL 35 yX3_person ∈ WW := ww_in kl_RL_35_t (by decide +kernel)
theorem ki_yX3_person_t : Cond.instanceMethod yX3_person ∈ lw_tbl := List.mem_of_getElem? (i := 274) (by decide +kernel)
theorem ki_yX3_person : Cond.instanceMethod yX3_person ∈ WW := ww_in ki_yX3_person_t (by decide +kernel)
theorem kS_yX3_person_t : Cond.selects RX3 yX3_person yX3_person ∈ lw_tbl := List.mem_of_getElem? (i := 275) (by decide +kernel)
theorem kS_yX3_person : Cond.selects RX3 yX3_person yX3_person ∈ WW := ww_in kS_yX3_person_t (by decide +kernel)
theorem kC_yX3_person_t : Cond.code yX3_person cX3_person 3 (some .int) ∈ lw_tbl := List.mem_of_getElem? (i := 276) (by decide +kernel)
theorem kC_yX3_person : Cond.code yX3_person cX3_person 3 (some .int) ∈ WW := ww_in kC_yX3_person_t (by decide +kernel)
theorem ki_yX1_has_t : Cond.instanceMethod yX1_has ∈ lw_tbl := List.mem_of_getElem? (i := 279) (by decide +kernel)
theorem ki_yX1_has : Cond.instanceMethod yX1_has ∈ WW := ww_in ki_yX1_has_t (by decide +kernel)
theorem kC_yX1_has_t : Cond.code yX1_has cX1_has 2 (some .boolean) ∈ lw_tbl := List.mem_of_getElem? (i := 280) (by decide +kernel)
theorem kC_yX1_has : Cond.code yX1_has cX1_has 2 (some .boolean) ∈ WW := ww_in kC_yX1_has_t (by decide +kernel)
theorem ki_yX1_isAlive_t : Cond.instanceMethod yX1_isAlive ∈ lw_tbl := List.mem_of_getElem? (i := 283) (by decide +kernel)
theorem ki_yX1_isAlive : Cond.instanceMethod yX1_isAlive ∈ WW := ww_in ki_yX1_isAlive_t (by decide +kernel)
theorem kC_yX1_isAlive_t : Cond.code yX1_isAlive cX1_isAlive 2 (some .boolean) ∈ lw_tbl := List.mem_of_getElem? (i := 284) (by decide +kernel)
theorem kC_yX1_isAlive : Cond.code yX1_isAlive cX1_isAlive 2 (some .boolean) ∈ WW := ww_in kC_yX1_isAlive_t (by decide +kernel)
theorem ki_yX1_isReported_t : Cond.instanceMethod yX1_isReported ∈ lw_tbl := List.mem_of_getElem? (i := 287) (by decide +kernel)
theorem ki_yX1_isReported : Cond.instanceMethod yX1_isReported ∈ WW := ww_in ki_yX1_isReported_t (by decide +kernel)
theorem kC_yX1_isReported_t : Cond.code yX1_isReported cX1_isReported 2 (some .boolean) ∈ lw_tbl := List.mem_of_getElem? (i := 288) (by decide +kernel)
theorem kC_yX1_isReported : Cond.code yX1_isReported cX1_isReported 2 (some .boolean) ∈ WW := ww_in kC_yX1_isReported_t (by decide +kernel)
theorem kl_RL_40_t : Cond.methodLink RL 40 yX3_morning ∈ lw_tbl := List.mem_of_getElem? (i := 290) (by decide +kernel)
theorem kl_RL_40 : Cond.methodLink RL 40 yX3_morning ∈ WW := ww_in kl_RL_40_t (by decide +kernel)
theorem ki_yX3_morning_t : Cond.instanceMethod yX3_morning ∈ lw_tbl := List.mem_of_getElem? (i := 291) (by decide +kernel)
theorem ki_yX3_morning : Cond.instanceMethod yX3_morning ∈ WW := ww_in ki_yX3_morning_t (by decide +kernel)
theorem kS_yX3_morning_t : Cond.selects RX3 yX3_morning yX3_morning ∈ lw_tbl := List.mem_of_getElem? (i := 292) (by decide +kernel)
theorem kS_yX3_morning : Cond.selects RX3 yX3_morning yX3_morning ∈ WW := ww_in kS_yX3_morning_t (by decide +kernel)
theorem kC_yX3_morning_t : Cond.code yX3_morning cX3_morning 2 (some .int) ∈ lw_tbl := List.mem_of_getElem? (i := 293) (by decide +kernel)
theorem kC_yX3_morning : Cond.code yX3_morning cX3_morning 2 (some .int) ∈ WW := ww_in kC_yX3_morning_t (by decide +kernel)
theorem kl_RX3_123_t : Cond.methodLink RX3 123 yX3_rememberAct ∈ lw_tbl := List.mem_of_getElem? (i := 294) (by decide +kernel)
theorem kl_RX3_123 : Cond.methodLink RX3 123 yX3_rememberAct ∈ WW := ww_in kl_RX3_123_t (by decide +kernel)
theorem ki_yX3_rememberAct_t : Cond.instanceMethod yX3_rememberAct ∈ lw_tbl := List.mem_of_getElem? (i := 296) (by decide +kernel)
theorem ki_yX3_rememberAct : Cond.instanceMethod yX3_rememberAct ∈ WW := ww_in ki_yX3_rememberAct_t (by decide +kernel)
theorem kC_yX3_rememberAct_t : Cond.code yX3_rememberAct cX3_rememberAct 1 none ∈ lw_tbl := List.mem_of_getElem? (i := 297) (by decide +kernel)
theorem kC_yX3_rememberAct : Cond.code yX3_rememberAct cX3_rememberAct 1 none ∈ WW := ww_in kC_yX3_rememberAct_t (by decide +kernel)
theorem ki_yX1_packInto_t : Cond.instanceMethod yX1_packInto ∈ lw_tbl := List.mem_of_getElem? (i := 300) (by decide +kernel)
theorem ki_yX1_packInto : Cond.instanceMethod yX1_packInto ∈ WW := ww_in ki_yX1_packInto_t (by decide +kernel)
theorem kC_yX1_packInto_t : Cond.code yX1_packInto cX1_packInto 5 none ∈ lw_tbl := List.mem_of_getElem? (i := 301) (by decide +kernel)
theorem kC_yX1_packInto : Cond.code yX1_packInto cX1_packInto 5 none ∈ WW := ww_in kC_yX1_packInto_t (by decide +kernel)
theorem kl_RX1_59_t : Cond.methodLink RX1 59 arraycopyName ∈ lw_tbl := List.mem_of_getElem? (i := 302) (by decide +kernel)
theorem kl_RX1_59 : Cond.methodLink RX1 59 arraycopyName ∈ WW := ww_in kl_RX1_59_t (by decide +kernel)
theorem ks_arraycopyName_t : Cond.static arraycopyName ∈ lw_tbl := List.mem_of_getElem? (i := 303) (by decide +kernel)
theorem ks_arraycopyName : Cond.static arraycopyName ∈ WW := ww_in ks_arraycopyName_t (by decide +kernel)
theorem kn_arraycopyName_t : Cond.native arraycopyName ∈ lw_tbl := List.mem_of_getElem? (i := 304) (by decide +kernel)
theorem kn_arraycopyName : Cond.native arraycopyName ∈ WW := ww_in kn_arraycopyName_t (by decide +kernel)
theorem kl_RX3_161_t : Cond.methodLink RX3 161 Lib.Math.min.name ∈ lw_tbl := List.mem_of_getElem? (i := 305) (by decide +kernel)
theorem kl_RX3_161 : Cond.methodLink RX3 161 Lib.Math.min.name ∈ WW := ww_in kl_RX3_161_t (by decide +kernel)
theorem ki_yX1_passMorning_t : Cond.instanceMethod yX1_passMorning ∈ lw_tbl := List.mem_of_getElem? (i := 308) (by decide +kernel)
theorem ki_yX1_passMorning : Cond.instanceMethod yX1_passMorning ∈ WW := ww_in ki_yX1_passMorning_t (by decide +kernel)
theorem kC_yX1_passMorning_t : Cond.code yX1_passMorning cX1_passMorning 2 none ∈ lw_tbl := List.mem_of_getElem? (i := 309) (by decide +kernel)
theorem kC_yX1_passMorning : Cond.code yX1_passMorning cX1_passMorning 2 none ∈ WW := ww_in kC_yX1_passMorning_t (by decide +kernel)
theorem kl_RX1_83_t : Cond.methodLink RX1 83 yX1_fairestOf ∈ lw_tbl := List.mem_of_getElem? (i := 310) (by decide +kernel)
theorem kl_RX1_83 : Cond.methodLink RX1 83 yX1_fairestOf ∈ WW := ww_in kl_RX1_83_t (by decide +kernel)
theorem kl_RX1_86_t : Cond.methodLink RX1 86 yX1_leastOf ∈ lw_tbl := List.mem_of_getElem? (i := 311) (by decide +kernel)
theorem kl_RX1_86 : Cond.methodLink RX1 86 yX1_leastOf ∈ WW := ww_in kl_RX1_86_t (by decide +kernel)
theorem ki_yX1_leastOf_t : Cond.instanceMethod yX1_leastOf ∈ lw_tbl := List.mem_of_getElem? (i := 313) (by decide +kernel)
theorem ki_yX1_leastOf : Cond.instanceMethod yX1_leastOf ∈ WW := ww_in ki_yX1_leastOf_t (by decide +kernel)
theorem kC_yX1_leastOf_t : Cond.code yX1_leastOf cX1_leastOf 3 (some .int) ∈ lw_tbl := List.mem_of_getElem? (i := 314) (by decide +kernel)
theorem kC_yX1_leastOf : Cond.code yX1_leastOf cX1_leastOf 3 (some .int) ∈ WW := ww_in kC_yX1_leastOf_t (by decide +kernel)
theorem kl_RX1_89_t : Cond.methodLink RX1 89 yX1_weighFearOf ∈ lw_tbl := List.mem_of_getElem? (i := 315) (by decide +kernel)
theorem kl_RX1_89 : Cond.methodLink RX1 89 yX1_weighFearOf ∈ WW := ww_in kl_RX1_89_t (by decide +kernel)
theorem ki_yX1_weighFearOf_t : Cond.instanceMethod yX1_weighFearOf ∈ lw_tbl := List.mem_of_getElem? (i := 317) (by decide +kernel)
theorem ki_yX1_weighFearOf : Cond.instanceMethod yX1_weighFearOf ∈ WW := ww_in ki_yX1_weighFearOf_t (by decide +kernel)
theorem kC_yX1_weighFearOf_t : Cond.code yX1_weighFearOf cX1_weighFearOf 6 none ∈ lw_tbl := List.mem_of_getElem? (i := 318) (by decide +kernel)
theorem kC_yX1_weighFearOf : Cond.code yX1_weighFearOf cX1_weighFearOf 6 none ∈ WW := ww_in kC_yX1_weighFearOf_t (by decide +kernel)
theorem kl_RL_44_t : Cond.methodLink RL 44 yX3_year ∈ lw_tbl := List.mem_of_getElem? (i := 319) (by decide +kernel)
theorem kl_RL_44 : Cond.methodLink RL 44 yX3_year ∈ WW := ww_in kl_RL_44_t (by decide +kernel)
theorem ki_yX3_year_t : Cond.instanceMethod yX3_year ∈ lw_tbl := List.mem_of_getElem? (i := 320) (by decide +kernel)
theorem ki_yX3_year : Cond.instanceMethod yX3_year ∈ WW := ww_in ki_yX3_year_t (by decide +kernel)
theorem kS_yX3_year_t : Cond.selects RX3 yX3_year yX3_year ∈ lw_tbl := List.mem_of_getElem? (i := 321) (by decide +kernel)
theorem kS_yX3_year : Cond.selects RX3 yX3_year yX3_year ∈ WW := ww_in kS_yX3_year_t (by decide +kernel)
theorem kC_yX3_year_t : Cond.code yX3_year cX3_year 1 (some .int) ∈ lw_tbl := List.mem_of_getElem? (i := 322) (by decide +kernel)
theorem kC_yX3_year : Cond.code yX3_year cX3_year 1 (some .int) ∈ WW := ww_in kC_yX3_year_t (by decide +kernel)
theorem ki_yX1_passYear_t : Cond.instanceMethod yX1_passYear ∈ lw_tbl := List.mem_of_getElem? (i := 325) (by decide +kernel)
theorem ki_yX1_passYear : Cond.instanceMethod yX1_passYear ∈ WW := ww_in ki_yX1_passYear_t (by decide +kernel)
theorem kC_yX1_passYear_t : Cond.code yX1_passYear cX1_passYear 4 none ∈ lw_tbl := List.mem_of_getElem? (i := 326) (by decide +kernel)
theorem kC_yX1_passYear : Cond.code yX1_passYear cX1_passYear 4 none ∈ WW := ww_in kC_yX1_passYear_t (by decide +kernel)
theorem kl_RX1_79_t : Cond.methodLink RX1 79 yX1_isAlive ∈ lw_tbl := List.mem_of_getElem? (i := 327) (by decide +kernel)
theorem kl_RX1_79 : Cond.methodLink RX1 79 yX1_isAlive ∈ WW := ww_in kl_RX1_79_t (by decide +kernel)
theorem kl_RX1_73_t : Cond.methodLink RX1 73 Lib.Math.max.name ∈ lw_tbl := List.mem_of_getElem? (i := 328) (by decide +kernel)
theorem kl_RX1_73 : Cond.methodLink RX1 73 Lib.Math.max.name ∈ WW := ww_in kl_RX1_73_t (by decide +kernel)
theorem kl_RL_48_t : Cond.methodLink RL 48 yX3_plain ∈ lw_tbl := List.mem_of_getElem? (i := 329) (by decide +kernel)
theorem kl_RL_48 : Cond.methodLink RL 48 yX3_plain ∈ WW := ww_in kl_RL_48_t (by decide +kernel)
theorem ki_yX3_plain_t : Cond.instanceMethod yX3_plain ∈ lw_tbl := List.mem_of_getElem? (i := 330) (by decide +kernel)
theorem ki_yX3_plain : Cond.instanceMethod yX3_plain ∈ WW := ww_in ki_yX3_plain_t (by decide +kernel)
theorem kS_yX3_plain_t : Cond.selects RX3 yX3_plain yX3_plain ∈ lw_tbl := List.mem_of_getElem? (i := 331) (by decide +kernel)
theorem kS_yX3_plain : Cond.selects RX3 yX3_plain yX3_plain ∈ WW := ww_in kS_yX3_plain_t (by decide +kernel)
theorem kC_yX3_plain_t : Cond.code yX3_plain cX3_plain 4 (some .int) ∈ lw_tbl := List.mem_of_getElem? (i := 332) (by decide +kernel)
theorem kC_yX3_plain : Cond.code yX3_plain cX3_plain 4 (some .int) ∈ WW := ww_in kC_yX3_plain_t (by decide +kernel)
theorem kl_RL_52_t : Cond.methodLink RL 52 yX3_hunt ∈ lw_tbl := List.mem_of_getElem? (i := 333) (by decide +kernel)
theorem kl_RL_52 : Cond.methodLink RL 52 yX3_hunt ∈ WW := ww_in kl_RL_52_t (by decide +kernel)
theorem ki_yX3_hunt_t : Cond.instanceMethod yX3_hunt ∈ lw_tbl := List.mem_of_getElem? (i := 334) (by decide +kernel)
theorem ki_yX3_hunt : Cond.instanceMethod yX3_hunt ∈ WW := ww_in ki_yX3_hunt_t (by decide +kernel)
theorem kS_yX3_hunt_t : Cond.selects RX3 yX3_hunt yX3_hunt ∈ lw_tbl := List.mem_of_getElem? (i := 335) (by decide +kernel)
theorem kS_yX3_hunt : Cond.selects RX3 yX3_hunt yX3_hunt ∈ WW := ww_in kS_yX3_hunt_t (by decide +kernel)
theorem kC_yX3_hunt_t : Cond.code yX3_hunt cX3_hunt 3 (some .int) ∈ lw_tbl := List.mem_of_getElem? (i := 336) (by decide +kernel)
theorem kC_yX3_hunt : Cond.code yX3_hunt cX3_hunt 3 (some .int) ∈ WW := ww_in kC_yX3_hunt_t (by decide +kernel)
theorem ki_yX1_aliveCount_t : Cond.instanceMethod yX1_aliveCount ∈ lw_tbl := List.mem_of_getElem? (i := 339) (by decide +kernel)
theorem ki_yX1_aliveCount : Cond.instanceMethod yX1_aliveCount ∈ WW := ww_in ki_yX1_aliveCount_t (by decide +kernel)
theorem kC_yX1_aliveCount_t : Cond.code yX1_aliveCount cX1_aliveCount 1 (some .int) ∈ lw_tbl := List.mem_of_getElem? (i := 340) (by decide +kernel)
theorem kC_yX1_aliveCount : Cond.code yX1_aliveCount cX1_aliveCount 1 (some .int) ∈ WW := ww_in kC_yX1_aliveCount_t (by decide +kernel)
theorem kl_RX1_65_t : Cond.methodLink RX1 65 yJ6_bitCount_0f7a4 ∈ lw_tbl := List.mem_of_getElem? (i := 341) (by decide +kernel)
theorem kl_RX1_65 : Cond.methodLink RX1 65 yJ6_bitCount_0f7a4 ∈ WW := ww_in kl_RX1_65_t (by decide +kernel)
theorem ks_yJ6_bitCount_0f7a4_t : Cond.static yJ6_bitCount_0f7a4 ∈ lw_tbl := List.mem_of_getElem? (i := 342) (by decide +kernel)
theorem ks_yJ6_bitCount_0f7a4 : Cond.static yJ6_bitCount_0f7a4 ∈ WW := ww_in ks_yJ6_bitCount_0f7a4_t (by decide +kernel)
theorem kC_yJ6_bitCount_0f7a4_t : Cond.code yJ6_bitCount_0f7a4 cJ6_bitCount_0f7a4 1 (some .int) ∈ lw_tbl := List.mem_of_getElem? (i := 343) (by decide +kernel)
theorem kC_yJ6_bitCount_0f7a4 : Cond.code yJ6_bitCount_0f7a4 cJ6_bitCount_0f7a4 1 (some .int) ∈ WW := ww_in kC_yJ6_bitCount_0f7a4_t (by decide +kernel)
theorem kl_RJ6_265_t : Cond.constant RJ6 265 (1431655765) ∈ lw_tbl := List.mem_of_getElem? (i := 344) (by decide +kernel)
theorem kl_RJ6_265 : Cond.constant RJ6 265 (1431655765) ∈ WW := ww_in kl_RJ6_265_t (by decide +kernel)
theorem kl_RJ6_266_t : Cond.constant RJ6 266 (858993459) ∈ lw_tbl := List.mem_of_getElem? (i := 345) (by decide +kernel)
theorem kl_RJ6_266 : Cond.constant RJ6 266 (858993459) ∈ WW := ww_in kl_RJ6_266_t (by decide +kernel)
theorem kl_RJ6_267_t : Cond.constant RJ6 267 (252645135) ∈ lw_tbl := List.mem_of_getElem? (i := 346) (by decide +kernel)
theorem kl_RJ6_267 : Cond.constant RJ6 267 (252645135) ∈ WW := ww_in kl_RJ6_267_t (by decide +kernel)
theorem kl_RL_57_t : Cond.methodLink RL 57 yX3_undo ∈ lw_tbl := List.mem_of_getElem? (i := 347) (by decide +kernel)
theorem kl_RL_57 : Cond.methodLink RL 57 yX3_undo ∈ WW := ww_in kl_RL_57_t (by decide +kernel)
theorem ki_yX3_undo_t : Cond.instanceMethod yX3_undo ∈ lw_tbl := List.mem_of_getElem? (i := 348) (by decide +kernel)
theorem ki_yX3_undo : Cond.instanceMethod yX3_undo ∈ WW := ww_in ki_yX3_undo_t (by decide +kernel)
theorem kS_yX3_undo_t : Cond.selects RX3 yX3_undo yX3_undo ∈ lw_tbl := List.mem_of_getElem? (i := 349) (by decide +kernel)
theorem kS_yX3_undo : Cond.selects RX3 yX3_undo yX3_undo ∈ WW := ww_in kS_yX3_undo_t (by decide +kernel)
theorem kC_yX3_undo_t : Cond.code yX3_undo cX3_undo 1 (some .int) ∈ lw_tbl := List.mem_of_getElem? (i := 350) (by decide +kernel)
theorem kC_yX3_undo : Cond.code yX3_undo cX3_undo 1 (some .int) ∈ WW := ww_in kC_yX3_undo_t (by decide +kernel)
theorem ki_yX1_unpackFrom_t : Cond.instanceMethod yX1_unpackFrom ∈ lw_tbl := List.mem_of_getElem? (i := 353) (by decide +kernel)
theorem ki_yX1_unpackFrom : Cond.instanceMethod yX1_unpackFrom ∈ WW := ww_in ki_yX1_unpackFrom_t (by decide +kernel)
theorem kC_yX1_unpackFrom_t : Cond.code yX1_unpackFrom cX1_unpackFrom 5 none ∈ lw_tbl := List.mem_of_getElem? (i := 354) (by decide +kernel)
theorem kC_yX1_unpackFrom : Cond.code yX1_unpackFrom cX1_unpackFrom 5 none ∈ WW := ww_in kC_yX1_unpackFrom_t (by decide +kernel)
theorem kl_RL_61_t : Cond.methodLink RL 61 yX3_judged ∈ lw_tbl := List.mem_of_getElem? (i := 355) (by decide +kernel)
theorem kl_RL_61 : Cond.methodLink RL 61 yX3_judged ∈ WW := ww_in kl_RL_61_t (by decide +kernel)
theorem ki_yX3_judged_t : Cond.instanceMethod yX3_judged ∈ lw_tbl := List.mem_of_getElem? (i := 356) (by decide +kernel)
theorem ki_yX3_judged : Cond.instanceMethod yX3_judged ∈ WW := ww_in ki_yX3_judged_t (by decide +kernel)
theorem kS_yX3_judged_t : Cond.selects RX3 yX3_judged yX3_judged ∈ lw_tbl := List.mem_of_getElem? (i := 357) (by decide +kernel)
theorem kS_yX3_judged : Cond.selects RX3 yX3_judged yX3_judged ∈ WW := ww_in kS_yX3_judged_t (by decide +kernel)
theorem kC_yX3_judged_t : Cond.code yX3_judged cX3_judged 6 (some .int) ∈ lw_tbl := List.mem_of_getElem? (i := 358) (by decide +kernel)
theorem kC_yX3_judged : Cond.code yX3_judged cX3_judged 6 (some .int) ∈ WW := ww_in kC_yX3_judged_t (by decide +kernel)
theorem ki_yX1_copyFrom_t : Cond.instanceMethod yX1_copyFrom ∈ lw_tbl := List.mem_of_getElem? (i := 361) (by decide +kernel)
theorem ki_yX1_copyFrom : Cond.instanceMethod yX1_copyFrom ∈ WW := ww_in ki_yX1_copyFrom_t (by decide +kernel)
theorem kC_yX1_copyFrom_t : Cond.code yX1_copyFrom cX1_copyFrom 2 none ∈ lw_tbl := List.mem_of_getElem? (i := 362) (by decide +kernel)
theorem kC_yX1_copyFrom : Cond.code yX1_copyFrom cX1_copyFrom 2 none ∈ WW := ww_in kC_yX1_copyFrom_t (by decide +kernel)
theorem kl_RX3_143_t : Cond.methodLink RX3 143 Lib.Math.max.name ∈ lw_tbl := List.mem_of_getElem? (i := 363) (by decide +kernel)
theorem kl_RX3_143 : Cond.methodLink RX3 143 Lib.Math.max.name ∈ WW := ww_in kl_RX3_143_t (by decide +kernel)
theorem kl_RL_65_t : Cond.methodLink RL 65 yX3_hear ∈ lw_tbl := List.mem_of_getElem? (i := 364) (by decide +kernel)
theorem kl_RL_65 : Cond.methodLink RL 65 yX3_hear ∈ WW := ww_in kl_RL_65_t (by decide +kernel)
theorem ki_yX3_hear_t : Cond.instanceMethod yX3_hear ∈ lw_tbl := List.mem_of_getElem? (i := 365) (by decide +kernel)
theorem ki_yX3_hear : Cond.instanceMethod yX3_hear ∈ WW := ww_in ki_yX3_hear_t (by decide +kernel)
theorem kS_yX3_hear_t : Cond.selects RX3 yX3_hear yX3_hear ∈ lw_tbl := List.mem_of_getElem? (i := 366) (by decide +kernel)
theorem kS_yX3_hear : Cond.selects RX3 yX3_hear yX3_hear ∈ WW := ww_in kS_yX3_hear_t (by decide +kernel)
theorem kC_yX3_hear_t : Cond.code yX3_hear cX3_hear 3 (some .int) ∈ lw_tbl := List.mem_of_getElem? (i := 367) (by decide +kernel)
theorem kC_yX3_hear : Cond.code yX3_hear cX3_hear 3 (some .int) ∈ WW := ww_in kC_yX3_hear_t (by decide +kernel)
theorem kl_RL_69_t : Cond.methodLink RL 69 yX3_unhear ∈ lw_tbl := List.mem_of_getElem? (i := 368) (by decide +kernel)
theorem kl_RL_69 : Cond.methodLink RL 69 yX3_unhear ∈ WW := ww_in kl_RL_69_t (by decide +kernel)
theorem ki_yX3_unhear_t : Cond.instanceMethod yX3_unhear ∈ lw_tbl := List.mem_of_getElem? (i := 369) (by decide +kernel)
theorem ki_yX3_unhear : Cond.instanceMethod yX3_unhear ∈ WW := ww_in ki_yX3_unhear_t (by decide +kernel)
theorem kS_yX3_unhear_t : Cond.selects RX3 yX3_unhear yX3_unhear ∈ lw_tbl := List.mem_of_getElem? (i := 370) (by decide +kernel)
theorem kS_yX3_unhear : Cond.selects RX3 yX3_unhear yX3_unhear ∈ WW := ww_in kS_yX3_unhear_t (by decide +kernel)
theorem kC_yX3_unhear_t : Cond.code yX3_unhear cX3_unhear 2 (some .int) ∈ lw_tbl := List.mem_of_getElem? (i := 371) (by decide +kernel)
theorem kC_yX3_unhear : Cond.code yX3_unhear cX3_unhear 2 (some .int) ∈ WW := ww_in kC_yX3_unhear_t (by decide +kernel)
theorem kl_RL_73_t : Cond.methodLink RL 73 yX3_worlds ∈ lw_tbl := List.mem_of_getElem? (i := 372) (by decide +kernel)
theorem kl_RL_73 : Cond.methodLink RL 73 yX3_worlds ∈ WW := ww_in kl_RL_73_t (by decide +kernel)
theorem ki_yX3_worlds_t : Cond.instanceMethod yX3_worlds ∈ lw_tbl := List.mem_of_getElem? (i := 373) (by decide +kernel)
theorem ki_yX3_worlds : Cond.instanceMethod yX3_worlds ∈ WW := ww_in ki_yX3_worlds_t (by decide +kernel)
theorem kS_yX3_worlds_t : Cond.selects RX3 yX3_worlds yX3_worlds ∈ lw_tbl := List.mem_of_getElem? (i := 374) (by decide +kernel)
theorem kS_yX3_worlds : Cond.selects RX3 yX3_worlds yX3_worlds ∈ WW := ww_in kS_yX3_worlds_t (by decide +kernel)
theorem kC_yX3_worlds_t : Cond.code yX3_worlds cX3_worlds 5 (some .int) ∈ lw_tbl := List.mem_of_getElem? (i := 375) (by decide +kernel)
theorem kC_yX3_worlds : Cond.code yX3_worlds cX3_worlds 5 (some .int) ∈ WW := ww_in kC_yX3_worlds_t (by decide +kernel)
theorem kl_RX3_149_t : Cond.methodLink RX3 149 yX3_countWorlds ∈ lw_tbl := List.mem_of_getElem? (i := 376) (by decide +kernel)
theorem kl_RX3_149 : Cond.methodLink RX3 149 yX3_countWorlds ∈ WW := ww_in kl_RX3_149_t (by decide +kernel)
theorem ki_yX3_countWorlds_t : Cond.instanceMethod yX3_countWorlds ∈ lw_tbl := List.mem_of_getElem? (i := 378) (by decide +kernel)
theorem ki_yX3_countWorlds : Cond.instanceMethod yX3_countWorlds ∈ WW := ww_in ki_yX3_countWorlds_t (by decide +kernel)
theorem kC_yX3_countWorlds_t : Cond.code yX3_countWorlds cX3_countWorlds 4 (some .int) ∈ lw_tbl := List.mem_of_getElem? (i := 379) (by decide +kernel)
theorem kC_yX3_countWorlds : Cond.code yX3_countWorlds cX3_countWorlds 4 (some .int) ∈ WW := ww_in kC_yX3_countWorlds_t (by decide +kernel)
theorem kl_RX3_155_t : Cond.methodLink RX3 155 yX3_isWorld ∈ lw_tbl := List.mem_of_getElem? (i := 381) (by decide +kernel)
theorem kl_RX3_155 : Cond.methodLink RX3 155 yX3_isWorld ∈ WW := ww_in kl_RX3_155_t (by decide +kernel)
theorem ki_yX3_isWorld_t : Cond.instanceMethod yX3_isWorld ∈ lw_tbl := List.mem_of_getElem? (i := 383) (by decide +kernel)
theorem ki_yX3_isWorld : Cond.instanceMethod yX3_isWorld ∈ WW := ww_in ki_yX3_isWorld_t (by decide +kernel)
theorem kC_yX3_isWorld_t : Cond.code yX3_isWorld cX3_isWorld 2 (some .boolean) ∈ lw_tbl := List.mem_of_getElem? (i := 384) (by decide +kernel)
theorem kC_yX3_isWorld : Cond.code yX3_isWorld cX3_isWorld 2 (some .boolean) ∈ WW := ww_in kC_yX3_isWorld_t (by decide +kernel)
theorem kl_RX3_158_t : Cond.methodLink RX3 158 yX3_fitsHeard ∈ lw_tbl := List.mem_of_getElem? (i := 385) (by decide +kernel)
theorem kl_RX3_158 : Cond.methodLink RX3 158 yX3_fitsHeard ∈ WW := ww_in kl_RX3_158_t (by decide +kernel)
theorem ki_yX3_fitsHeard_t : Cond.instanceMethod yX3_fitsHeard ∈ lw_tbl := List.mem_of_getElem? (i := 387) (by decide +kernel)
theorem ki_yX3_fitsHeard : Cond.instanceMethod yX3_fitsHeard ∈ WW := ww_in ki_yX3_fitsHeard_t (by decide +kernel)
theorem kC_yX3_fitsHeard_t : Cond.code yX3_fitsHeard cX3_fitsHeard 5 (some .boolean) ∈ lw_tbl := List.mem_of_getElem? (i := 388) (by decide +kernel)
theorem kC_yX3_fitsHeard : Cond.code yX3_fitsHeard cX3_fitsHeard 5 (some .boolean) ∈ WW := ww_in kC_yX3_fitsHeard_t (by decide +kernel)
theorem kl_RL_77_t : Cond.methodLink RL 77 yX3_toAsk ∈ lw_tbl := List.mem_of_getElem? (i := 389) (by decide +kernel)
theorem kl_RL_77 : Cond.methodLink RL 77 yX3_toAsk ∈ WW := ww_in kl_RL_77_t (by decide +kernel)
theorem ki_yX3_toAsk_t : Cond.instanceMethod yX3_toAsk ∈ lw_tbl := List.mem_of_getElem? (i := 390) (by decide +kernel)
theorem ki_yX3_toAsk : Cond.instanceMethod yX3_toAsk ∈ WW := ww_in ki_yX3_toAsk_t (by decide +kernel)
theorem kS_yX3_toAsk_t : Cond.selects RX3 yX3_toAsk yX3_toAsk ∈ lw_tbl := List.mem_of_getElem? (i := 391) (by decide +kernel)
theorem kS_yX3_toAsk : Cond.selects RX3 yX3_toAsk yX3_toAsk ∈ WW := ww_in kS_yX3_toAsk_t (by decide +kernel)
theorem kC_yX3_toAsk_t : Cond.code yX3_toAsk cX3_toAsk 7 (some .int) ∈ lw_tbl := List.mem_of_getElem? (i := 392) (by decide +kernel)
theorem kC_yX3_toAsk : Cond.code yX3_toAsk cX3_toAsk 7 (some .int) ∈ WW := ww_in kC_yX3_toAsk_t (by decide +kernel)
theorem kl_RL_81_t : Cond.methodLink RL 81 yX3_answer ∈ lw_tbl := List.mem_of_getElem? (i := 393) (by decide +kernel)
theorem kl_RL_81 : Cond.methodLink RL 81 yX3_answer ∈ WW := ww_in kl_RL_81_t (by decide +kernel)
theorem ki_yX3_answer_t : Cond.instanceMethod yX3_answer ∈ lw_tbl := List.mem_of_getElem? (i := 394) (by decide +kernel)
theorem ki_yX3_answer : Cond.instanceMethod yX3_answer ∈ WW := ww_in ki_yX3_answer_t (by decide +kernel)
theorem kS_yX3_answer_t : Cond.selects RX3 yX3_answer yX3_answer ∈ lw_tbl := List.mem_of_getElem? (i := 395) (by decide +kernel)
theorem kS_yX3_answer : Cond.selects RX3 yX3_answer yX3_answer ∈ WW := ww_in kS_yX3_answer_t (by decide +kernel)
theorem kC_yX3_answer_t : Cond.code yX3_answer cX3_answer 9 (some .int) ∈ lw_tbl := List.mem_of_getElem? (i := 396) (by decide +kernel)
theorem kC_yX3_answer : Cond.code yX3_answer cX3_answer 9 (some .int) ∈ WW := ww_in kC_yX3_answer_t (by decide +kernel)
theorem kl_RX3_164_t : Cond.methodLink RX3 164 yJ6_bitCount_0f7a4 ∈ lw_tbl := List.mem_of_getElem? (i := 397) (by decide +kernel)
theorem kl_RX3_164 : Cond.methodLink RX3 164 yJ6_bitCount_0f7a4 ∈ WW := ww_in kl_RX3_164_t (by decide +kernel)
theorem kl_RL_85_t : Cond.methodLink RL 85 yX3_chosen ∈ lw_tbl := List.mem_of_getElem? (i := 398) (by decide +kernel)
theorem kl_RL_85 : Cond.methodLink RL 85 yX3_chosen ∈ WW := ww_in kl_RL_85_t (by decide +kernel)
theorem ki_yX3_chosen_t : Cond.instanceMethod yX3_chosen ∈ lw_tbl := List.mem_of_getElem? (i := 399) (by decide +kernel)
theorem ki_yX3_chosen : Cond.instanceMethod yX3_chosen ∈ WW := ww_in ki_yX3_chosen_t (by decide +kernel)
theorem kS_yX3_chosen_t : Cond.selects RX3 yX3_chosen yX3_chosen ∈ lw_tbl := List.mem_of_getElem? (i := 400) (by decide +kernel)
theorem kS_yX3_chosen : Cond.selects RX3 yX3_chosen yX3_chosen ∈ WW := ww_in kS_yX3_chosen_t (by decide +kernel)
theorem kC_yX3_chosen_t : Cond.code yX3_chosen cX3_chosen 3 (some .int) ∈ lw_tbl := List.mem_of_getElem? (i := 401) (by decide +kernel)
theorem kC_yX3_chosen : Cond.code yX3_chosen cX3_chosen 3 (some .int) ∈ WW := ww_in kC_yX3_chosen_t (by decide +kernel)
theorem kl_RX3_169_t : Cond.methodLink RX3 169 yX3_refuseChooser ∈ lw_tbl := List.mem_of_getElem? (i := 402) (by decide +kernel)
theorem kl_RX3_169 : Cond.methodLink RX3 169 yX3_refuseChooser ∈ WW := ww_in kl_RX3_169_t (by decide +kernel)
theorem ki_yX3_refuseChooser_t : Cond.instanceMethod yX3_refuseChooser ∈ lw_tbl := List.mem_of_getElem? (i := 404) (by decide +kernel)
theorem ki_yX3_refuseChooser : Cond.instanceMethod yX3_refuseChooser ∈ WW := ww_in ki_yX3_refuseChooser_t (by decide +kernel)
theorem kC_yX3_refuseChooser_t : Cond.code yX3_refuseChooser cX3_refuseChooser 2 (some .int) ∈ lw_tbl := List.mem_of_getElem? (i := 405) (by decide +kernel)
theorem kC_yX3_refuseChooser : Cond.code yX3_refuseChooser cX3_refuseChooser 2 (some .int) ∈ WW := ww_in kC_yX3_refuseChooser_t (by decide +kernel)
theorem ki_yX0_solve_t : Cond.instanceMethod yX0_solve ∈ lw_tbl := List.mem_of_getElem? (i := 408) (by decide +kernel)
theorem ki_yX0_solve : Cond.instanceMethod yX0_solve ∈ WW := ww_in ki_yX0_solve_t (by decide +kernel)
theorem kC_yX0_solve_t : Cond.code yX0_solve cX0_solve 4 none ∈ lw_tbl := List.mem_of_getElem? (i := 409) (by decide +kernel)
theorem kC_yX0_solve : Cond.code yX0_solve cX0_solve 4 none ∈ WW := ww_in kC_yX0_solve_t (by decide +kernel)
theorem kl_RX0_28_t : Cond.methodLink RX0 28 yX0_meet ∈ lw_tbl := List.mem_of_getElem? (i := 410) (by decide +kernel)
theorem kl_RX0_28 : Cond.methodLink RX0 28 yX0_meet ∈ WW := ww_in kl_RX0_28_t (by decide +kernel)
theorem ki_yX0_meet_t : Cond.instanceMethod yX0_meet ∈ lw_tbl := List.mem_of_getElem? (i := 412) (by decide +kernel)
theorem ki_yX0_meet : Cond.instanceMethod yX0_meet ∈ WW := ww_in ki_yX0_meet_t (by decide +kernel)
theorem kC_yX0_meet_t : Cond.code yX0_meet cX0_meet 4 none ∈ lw_tbl := List.mem_of_getElem? (i := 413) (by decide +kernel)
theorem kC_yX0_meet : Cond.code yX0_meet cX0_meet 4 none ∈ WW := ww_in kC_yX0_meet_t (by decide +kernel)
theorem ki_yX1_valueIfPlain_t : Cond.instanceMethod yX1_valueIfPlain ∈ lw_tbl := List.mem_of_getElem? (i := 418) (by decide +kernel)
theorem ki_yX1_valueIfPlain : Cond.instanceMethod yX1_valueIfPlain ∈ WW := ww_in ki_yX1_valueIfPlain_t (by decide +kernel)
theorem kC_yX1_valueIfPlain_t : Cond.code yX1_valueIfPlain cX1_valueIfPlain 5 (some .int) ∈ lw_tbl := List.mem_of_getElem? (i := 419) (by decide +kernel)
theorem kC_yX1_valueIfPlain : Cond.code yX1_valueIfPlain cX1_valueIfPlain 5 (some .int) ∈ WW := ww_in kC_yX1_valueIfPlain_t (by decide +kernel)
theorem kl_RX0_32_t : Cond.fieldLink RX0 32 "WallMirror$Choosing" "WAYS" "[I" ∈ lw_tbl := List.mem_of_getElem? (i := 420) (by decide +kernel)
theorem kl_RX0_32 : Cond.fieldLink RX0 32 "WallMirror$Choosing" "WAYS" "[I" ∈ WW := ww_in kl_RX0_32_t (by decide +kernel)
theorem kLS : Cond.laysStatic "WallMirror$Choosing" "WAYS" "[I" ∈ lw_tbl := List.mem_of_getElem? (i := 421) (by decide +kernel)
theorem kl_RX0_35_t : Cond.methodLink RX0 35 yX0_bestEnd ∈ lw_tbl := List.mem_of_getElem? (i := 422) (by decide +kernel)
theorem kl_RX0_35 : Cond.methodLink RX0 35 yX0_bestEnd ∈ WW := ww_in kl_RX0_35_t (by decide +kernel)
theorem ki_yX0_bestEnd_t : Cond.instanceMethod yX0_bestEnd ∈ lw_tbl := List.mem_of_getElem? (i := 424) (by decide +kernel)
theorem ki_yX0_bestEnd : Cond.instanceMethod yX0_bestEnd ∈ WW := ww_in ki_yX0_bestEnd_t (by decide +kernel)
theorem kC_yX0_bestEnd_t : Cond.code yX0_bestEnd cX0_bestEnd 6 (some .int) ∈ lw_tbl := List.mem_of_getElem? (i := 425) (by decide +kernel)
theorem kC_yX0_bestEnd : Cond.code yX0_bestEnd cX0_bestEnd 6 (some .int) ∈ WW := ww_in kC_yX0_bestEnd_t (by decide +kernel)
theorem kl_RX0_55_t : Cond.methodLink RX0 55 yX0_worthAt ∈ lw_tbl := List.mem_of_getElem? (i := 426) (by decide +kernel)
theorem kl_RX0_55 : Cond.methodLink RX0 55 yX0_worthAt ∈ WW := ww_in kl_RX0_55_t (by decide +kernel)
theorem ki_yX0_worthAt_t : Cond.instanceMethod yX0_worthAt ∈ lw_tbl := List.mem_of_getElem? (i := 428) (by decide +kernel)
theorem ki_yX0_worthAt : Cond.instanceMethod yX0_worthAt ∈ WW := ww_in ki_yX0_worthAt_t (by decide +kernel)
theorem kC_yX0_worthAt_t : Cond.code yX0_worthAt cX0_worthAt 5 (some .int) ∈ lw_tbl := List.mem_of_getElem? (i := 429) (by decide +kernel)
theorem kC_yX0_worthAt : Cond.code yX0_worthAt cX0_worthAt 5 (some .int) ∈ WW := ww_in kC_yX0_worthAt_t (by decide +kernel)
theorem kl_RX0_58_t : Cond.methodLink RX0 58 yX0_valueAt ∈ lw_tbl := List.mem_of_getElem? (i := 430) (by decide +kernel)
theorem kl_RX0_58 : Cond.methodLink RX0 58 yX0_valueAt ∈ WW := ww_in kl_RX0_58_t (by decide +kernel)
theorem ki_yX0_valueAt_t : Cond.instanceMethod yX0_valueAt ∈ lw_tbl := List.mem_of_getElem? (i := 432) (by decide +kernel)
theorem ki_yX0_valueAt : Cond.instanceMethod yX0_valueAt ∈ WW := ww_in ki_yX0_valueAt_t (by decide +kernel)
theorem kC_yX0_valueAt_t : Cond.code yX0_valueAt cX0_valueAt 3 (some .int) ∈ lw_tbl := List.mem_of_getElem? (i := 433) (by decide +kernel)
theorem kC_yX0_valueAt : Cond.code yX0_valueAt cX0_valueAt 3 (some .int) ∈ WW := ww_in kC_yX0_valueAt_t (by decide +kernel)
theorem kl_RX0_61_t : Cond.methodLink RX0 61 yX0_choiceAt ∈ lw_tbl := List.mem_of_getElem? (i := 434) (by decide +kernel)
theorem kl_RX0_61 : Cond.methodLink RX0 61 yX0_choiceAt ∈ WW := ww_in kl_RX0_61_t (by decide +kernel)
theorem ki_yX0_choiceAt_t : Cond.instanceMethod yX0_choiceAt ∈ lw_tbl := List.mem_of_getElem? (i := 436) (by decide +kernel)
theorem ki_yX0_choiceAt : Cond.instanceMethod yX0_choiceAt ∈ WW := ww_in ki_yX0_choiceAt_t (by decide +kernel)
theorem kC_yX0_choiceAt_t : Cond.code yX0_choiceAt cX0_choiceAt 3 (some .int) ∈ lw_tbl := List.mem_of_getElem? (i := 437) (by decide +kernel)
theorem kC_yX0_choiceAt : Cond.code yX0_choiceAt cX0_choiceAt 3 (some .int) ∈ WW := ww_in kC_yX0_choiceAt_t (by decide +kernel)
theorem ki_yX0_choiceOf_t : Cond.instanceMethod yX0_choiceOf ∈ lw_tbl := List.mem_of_getElem? (i := 440) (by decide +kernel)
theorem ki_yX0_choiceOf : Cond.instanceMethod yX0_choiceOf ∈ WW := ww_in ki_yX0_choiceOf_t (by decide +kernel)
theorem kC_yX0_choiceOf_t : Cond.code yX0_choiceOf cX0_choiceOf 2 (some .int) ∈ lw_tbl := List.mem_of_getElem? (i := 441) (by decide +kernel)
theorem kC_yX0_choiceOf : Cond.code yX0_choiceOf cX0_choiceOf 2 (some .int) ∈ WW := ww_in kC_yX0_choiceOf_t (by decide +kernel)
theorem kl_RL_89_t : Cond.methodLink RL 89 yX3_chosenWorth ∈ lw_tbl := List.mem_of_getElem? (i := 442) (by decide +kernel)
theorem kl_RL_89 : Cond.methodLink RL 89 yX3_chosenWorth ∈ WW := ww_in kl_RL_89_t (by decide +kernel)
theorem ki_yX3_chosenWorth_t : Cond.instanceMethod yX3_chosenWorth ∈ lw_tbl := List.mem_of_getElem? (i := 443) (by decide +kernel)
theorem ki_yX3_chosenWorth : Cond.instanceMethod yX3_chosenWorth ∈ WW := ww_in ki_yX3_chosenWorth_t (by decide +kernel)
theorem kS_yX3_chosenWorth_t : Cond.selects RX3 yX3_chosenWorth yX3_chosenWorth ∈ lw_tbl := List.mem_of_getElem? (i := 444) (by decide +kernel)
theorem kS_yX3_chosenWorth : Cond.selects RX3 yX3_chosenWorth yX3_chosenWorth ∈ WW := ww_in kS_yX3_chosenWorth_t (by decide +kernel)
theorem kC_yX3_chosenWorth_t : Cond.code yX3_chosenWorth cX3_chosenWorth 3 (some .int) ∈ lw_tbl := List.mem_of_getElem? (i := 445) (by decide +kernel)
theorem kC_yX3_chosenWorth : Cond.code yX3_chosenWorth cX3_chosenWorth 3 (some .int) ∈ WW := ww_in kC_yX3_chosenWorth_t (by decide +kernel)
theorem ki_yX0_endOf_t : Cond.instanceMethod yX0_endOf ∈ lw_tbl := List.mem_of_getElem? (i := 448) (by decide +kernel)
theorem ki_yX0_endOf : Cond.instanceMethod yX0_endOf ∈ WW := ww_in ki_yX0_endOf_t (by decide +kernel)
theorem kC_yX0_endOf_t : Cond.code yX0_endOf cX0_endOf 2 (some .int) ∈ lw_tbl := List.mem_of_getElem? (i := 449) (by decide +kernel)
theorem kC_yX0_endOf : Cond.code yX0_endOf cX0_endOf 2 (some .int) ∈ WW := ww_in kC_yX0_endOf_t (by decide +kernel)
theorem kl_RL_93_t : Cond.methodLink RL 93 yX3_measures ∈ lw_tbl := List.mem_of_getElem? (i := 450) (by decide +kernel)
theorem kl_RL_93 : Cond.methodLink RL 93 yX3_measures ∈ WW := ww_in kl_RL_93_t (by decide +kernel)
theorem ki_yX3_measures_t : Cond.instanceMethod yX3_measures ∈ lw_tbl := List.mem_of_getElem? (i := 451) (by decide +kernel)
theorem ki_yX3_measures : Cond.instanceMethod yX3_measures ∈ WW := ww_in ki_yX3_measures_t (by decide +kernel)
theorem kS_yX3_measures_t : Cond.selects RX3 yX3_measures yX3_measures ∈ lw_tbl := List.mem_of_getElem? (i := 452) (by decide +kernel)
theorem kS_yX3_measures : Cond.selects RX3 yX3_measures yX3_measures ∈ WW := ww_in kS_yX3_measures_t (by decide +kernel)
theorem kC_yX3_measures_t : Cond.code yX3_measures cX3_measures 5 (some .int) ∈ lw_tbl := List.mem_of_getElem? (i := 453) (by decide +kernel)
theorem kC_yX3_measures : Cond.code yX3_measures cX3_measures 5 (some .int) ∈ WW := ww_in kC_yX3_measures_t (by decide +kernel)
theorem kl_RX3_181_t : Cond.methodLink RX3 181 yX3_refuseDead ∈ lw_tbl := List.mem_of_getElem? (i := 454) (by decide +kernel)
theorem kl_RX3_181 : Cond.methodLink RX3 181 yX3_refuseDead ∈ WW := ww_in kl_RX3_181_t (by decide +kernel)
theorem ki_yX3_refuseDead_t : Cond.instanceMethod yX3_refuseDead ∈ lw_tbl := List.mem_of_getElem? (i := 456) (by decide +kernel)
theorem ki_yX3_refuseDead : Cond.instanceMethod yX3_refuseDead ∈ WW := ww_in ki_yX3_refuseDead_t (by decide +kernel)
theorem kC_yX3_refuseDead_t : Cond.code yX3_refuseDead cX3_refuseDead 2 (some .int) ∈ lw_tbl := List.mem_of_getElem? (i := 457) (by decide +kernel)
theorem kC_yX3_refuseDead : Cond.code yX3_refuseDead cX3_refuseDead 2 (some .int) ∈ WW := ww_in kC_yX3_refuseDead_t (by decide +kernel)
theorem ki_yX1_weighBy_t : Cond.instanceMethod yX1_weighBy ∈ lw_tbl := List.mem_of_getElem? (i := 460) (by decide +kernel)
theorem ki_yX1_weighBy : Cond.instanceMethod yX1_weighBy ∈ WW := ww_in ki_yX1_weighBy_t (by decide +kernel)
theorem kC_yX1_weighBy_t : Cond.code yX1_weighBy cX1_weighBy 2 none ∈ lw_tbl := List.mem_of_getElem? (i := 461) (by decide +kernel)
theorem kC_yX1_weighBy : Cond.code yX1_weighBy cX1_weighBy 2 none ∈ WW := ww_in kC_yX1_weighBy_t (by decide +kernel)
theorem ki_yX1_isFairestAlone_t : Cond.instanceMethod yX1_isFairestAlone ∈ lw_tbl := List.mem_of_getElem? (i := 464) (by decide +kernel)
theorem ki_yX1_isFairestAlone : Cond.instanceMethod yX1_isFairestAlone ∈ WW := ww_in ki_yX1_isFairestAlone_t (by decide +kernel)
theorem kC_yX1_isFairestAlone_t : Cond.code yX1_isFairestAlone cX1_isFairestAlone 4 (some .boolean) ∈ lw_tbl := List.mem_of_getElem? (i := 465) (by decide +kernel)
theorem kC_yX1_isFairestAlone : Cond.code yX1_isFairestAlone cX1_isFairestAlone 4 (some .boolean) ∈ WW := ww_in kC_yX1_isFairestAlone_t (by decide +kernel)
theorem kl_RL_97_t : Cond.methodLink RL 97 yX3_nearest ∈ lw_tbl := List.mem_of_getElem? (i := 466) (by decide +kernel)
theorem kl_RL_97 : Cond.methodLink RL 97 yX3_nearest ∈ WW := ww_in kl_RL_97_t (by decide +kernel)
theorem ki_yX3_nearest_t : Cond.instanceMethod yX3_nearest ∈ lw_tbl := List.mem_of_getElem? (i := 467) (by decide +kernel)
theorem ki_yX3_nearest : Cond.instanceMethod yX3_nearest ∈ WW := ww_in ki_yX3_nearest_t (by decide +kernel)
theorem kS_yX3_nearest_t : Cond.selects RX3 yX3_nearest yX3_nearest ∈ lw_tbl := List.mem_of_getElem? (i := 468) (by decide +kernel)
theorem kS_yX3_nearest : Cond.selects RX3 yX3_nearest yX3_nearest ∈ WW := ww_in kS_yX3_nearest_t (by decide +kernel)
theorem kC_yX3_nearest_t : Cond.code yX3_nearest cX3_nearest 7 (some .int) ∈ lw_tbl := List.mem_of_getElem? (i := 469) (by decide +kernel)
theorem kC_yX3_nearest : Cond.code yX3_nearest cX3_nearest 7 (some .int) ∈ WW := ww_in kC_yX3_nearest_t (by decide +kernel)
theorem ki_yX1_weightsApartFrom_t : Cond.instanceMethod yX1_weightsApartFrom ∈ lw_tbl := List.mem_of_getElem? (i := 472) (by decide +kernel)
theorem ki_yX1_weightsApartFrom : Cond.instanceMethod yX1_weightsApartFrom ∈ WW := ww_in ki_yX1_weightsApartFrom_t (by decide +kernel)
theorem kC_yX1_weightsApartFrom_t : Cond.code yX1_weightsApartFrom cX1_weightsApartFrom 4 (some .int) ∈ lw_tbl := List.mem_of_getElem? (i := 473) (by decide +kernel)
theorem kC_yX1_weightsApartFrom : Cond.code yX1_weightsApartFrom cX1_weightsApartFrom 4 (some .int) ∈ WW := ww_in kC_yX1_weightsApartFrom_t (by decide +kernel)
theorem kl_RX1_70_t : Cond.methodLink RX1 70 Lib.Math.abs.name ∈ lw_tbl := List.mem_of_getElem? (i := 474) (by decide +kernel)
theorem kl_RX1_70 : Cond.methodLink RX1 70 Lib.Math.abs.name ∈ WW := ww_in kl_RX1_70_t (by decide +kernel)
theorem ks_Lib_Math_abs_name_t : Cond.static Lib.Math.abs.name ∈ lw_tbl := List.mem_of_getElem? (i := 475) (by decide +kernel)
theorem ks_Lib_Math_abs_name : Cond.static Lib.Math.abs.name ∈ WW := ww_in ks_Lib_Math_abs_name_t (by decide +kernel)
theorem kC_Lib_Math_abs_name_t : Cond.code Lib.Math.abs.name Lib.Math.abs.code 1 (some .int) ∈ lw_tbl := List.mem_of_getElem? (i := 476) (by decide +kernel)
theorem kC_Lib_Math_abs_name : Cond.code Lib.Math.abs.name Lib.Math.abs.code 1 (some .int) ∈ WW := ww_in kC_Lib_Math_abs_name_t (by decide +kernel)
theorem kl_RL_101_t : Cond.methodLink RL 101 yX3_reign ∈ lw_tbl := List.mem_of_getElem? (i := 477) (by decide +kernel)
theorem kl_RL_101 : Cond.methodLink RL 101 yX3_reign ∈ WW := ww_in kl_RL_101_t (by decide +kernel)
theorem ki_yX3_reign_t : Cond.instanceMethod yX3_reign ∈ lw_tbl := List.mem_of_getElem? (i := 478) (by decide +kernel)
theorem ki_yX3_reign : Cond.instanceMethod yX3_reign ∈ WW := ww_in ki_yX3_reign_t (by decide +kernel)
theorem kS_yX3_reign_t : Cond.selects RX3 yX3_reign yX3_reign ∈ lw_tbl := List.mem_of_getElem? (i := 479) (by decide +kernel)
theorem kS_yX3_reign : Cond.selects RX3 yX3_reign yX3_reign ∈ WW := ww_in kS_yX3_reign_t (by decide +kernel)
theorem kC_yX3_reign_t : Cond.code yX3_reign cX3_reign 3 (some .int) ∈ lw_tbl := List.mem_of_getElem? (i := 480) (by decide +kernel)
theorem kC_yX3_reign : Cond.code yX3_reign cX3_reign 3 (some .int) ∈ WW := ww_in kC_yX3_reign_t (by decide +kernel)
theorem kl_RL_106_t : Cond.methodLink RL 106 yX3_differs ∈ lw_tbl := List.mem_of_getElem? (i := 481) (by decide +kernel)
theorem kl_RL_106 : Cond.methodLink RL 106 yX3_differs ∈ WW := ww_in kl_RL_106_t (by decide +kernel)
theorem ki_yX3_differs_t : Cond.instanceMethod yX3_differs ∈ lw_tbl := List.mem_of_getElem? (i := 482) (by decide +kernel)
theorem ki_yX3_differs : Cond.instanceMethod yX3_differs ∈ WW := ww_in ki_yX3_differs_t (by decide +kernel)
theorem kS_yX3_differs_t : Cond.selects RX3 yX3_differs yX3_differs ∈ lw_tbl := List.mem_of_getElem? (i := 483) (by decide +kernel)
theorem kS_yX3_differs : Cond.selects RX3 yX3_differs yX3_differs ∈ WW := ww_in kS_yX3_differs_t (by decide +kernel)
theorem kC_yX3_differs_t : Cond.code yX3_differs cX3_differs 2 (some .int) ∈ lw_tbl := List.mem_of_getElem? (i := 484) (by decide +kernel)
theorem kC_yX3_differs : Cond.code yX3_differs cX3_differs 2 (some .int) ∈ WW := ww_in kC_yX3_differs_t (by decide +kernel)
theorem kl_RL_110_t : Cond.methodLink RL 110 yX3_rate ∈ lw_tbl := List.mem_of_getElem? (i := 485) (by decide +kernel)
theorem kl_RL_110 : Cond.methodLink RL 110 yX3_rate ∈ WW := ww_in kl_RL_110_t (by decide +kernel)
theorem ki_yX3_rate_t : Cond.instanceMethod yX3_rate ∈ lw_tbl := List.mem_of_getElem? (i := 486) (by decide +kernel)
theorem ki_yX3_rate : Cond.instanceMethod yX3_rate ∈ WW := ww_in ki_yX3_rate_t (by decide +kernel)
theorem kS_yX3_rate_t : Cond.selects RX3 yX3_rate yX3_rate ∈ lw_tbl := List.mem_of_getElem? (i := 487) (by decide +kernel)
theorem kS_yX3_rate : Cond.selects RX3 yX3_rate yX3_rate ∈ WW := ww_in kS_yX3_rate_t (by decide +kernel)
theorem kC_yX3_rate_t : Cond.code yX3_rate cX3_rate 6 (some .int) ∈ lw_tbl := List.mem_of_getElem? (i := 488) (by decide +kernel)
theorem kC_yX3_rate : Cond.code yX3_rate cX3_rate 6 (some .int) ∈ WW := ww_in kC_yX3_rate_t (by decide +kernel)
theorem kl_RX3_194_t : Cond.methodLink RX3 194 yX3_partOfFraction ∈ lw_tbl := List.mem_of_getElem? (i := 489) (by decide +kernel)
theorem kl_RX3_194 : Cond.methodLink RX3 194 yX3_partOfFraction ∈ WW := ww_in kl_RX3_194_t (by decide +kernel)
theorem ks_yX3_partOfFraction_t : Cond.static yX3_partOfFraction ∈ lw_tbl := List.mem_of_getElem? (i := 490) (by decide +kernel)
theorem ks_yX3_partOfFraction : Cond.static yX3_partOfFraction ∈ WW := ww_in ks_yX3_partOfFraction_t (by decide +kernel)
theorem kC_yX3_partOfFraction_t : Cond.code yX3_partOfFraction cX3_partOfFraction 4 (some .int) ∈ lw_tbl := List.mem_of_getElem? (i := 491) (by decide +kernel)
theorem kC_yX3_partOfFraction : Cond.code yX3_partOfFraction cX3_partOfFraction 4 (some .int) ∈ WW := ww_in kC_yX3_partOfFraction_t (by decide +kernel)
theorem kl_RX3_220_t : Cond.methodLink RX3 220 yX3_commonDivisor ∈ lw_tbl := List.mem_of_getElem? (i := 492) (by decide +kernel)
theorem kl_RX3_220 : Cond.methodLink RX3 220 yX3_commonDivisor ∈ WW := ww_in kl_RX3_220_t (by decide +kernel)
theorem ks_yX3_commonDivisor_t : Cond.static yX3_commonDivisor ∈ lw_tbl := List.mem_of_getElem? (i := 493) (by decide +kernel)
theorem ks_yX3_commonDivisor : Cond.static yX3_commonDivisor ∈ WW := ww_in ks_yX3_commonDivisor_t (by decide +kernel)
theorem kC_yX3_commonDivisor_t : Cond.code yX3_commonDivisor cX3_commonDivisor 4 (some .int) ∈ lw_tbl := List.mem_of_getElem? (i := 494) (by decide +kernel)
theorem kC_yX3_commonDivisor : Cond.code yX3_commonDivisor cX3_commonDivisor 4 (some .int) ∈ WW := ww_in kC_yX3_commonDivisor_t (by decide +kernel)
theorem kl_RL_115_t : Cond.methodLink RL 115 yX3_saying ∈ lw_tbl := List.mem_of_getElem? (i := 495) (by decide +kernel)
theorem kl_RL_115 : Cond.methodLink RL 115 yX3_saying ∈ WW := ww_in kl_RL_115_t (by decide +kernel)
theorem ki_yX3_saying_t : Cond.instanceMethod yX3_saying ∈ lw_tbl := List.mem_of_getElem? (i := 496) (by decide +kernel)
theorem ki_yX3_saying : Cond.instanceMethod yX3_saying ∈ WW := ww_in ki_yX3_saying_t (by decide +kernel)
theorem kS_yX3_saying_t : Cond.selects RX3 yX3_saying yX3_saying ∈ lw_tbl := List.mem_of_getElem? (i := 497) (by decide +kernel)
theorem kS_yX3_saying : Cond.selects RX3 yX3_saying yX3_saying ∈ WW := ww_in kS_yX3_saying_t (by decide +kernel)
theorem kC_yX3_saying_t : Cond.code yX3_saying cX3_saying 6 (some .int) ∈ lw_tbl := List.mem_of_getElem? (i := 498) (by decide +kernel)
theorem kC_yX3_saying : Cond.code yX3_saying cX3_saying 6 (some .int) ∈ WW := ww_in kC_yX3_saying_t (by decide +kernel)
theorem kl_RX3_198_t : Cond.methodLink RX3 198 yX3_isTenths ∈ lw_tbl := List.mem_of_getElem? (i := 499) (by decide +kernel)
theorem kl_RX3_198 : Cond.methodLink RX3 198 yX3_isTenths ∈ WW := ww_in kl_RX3_198_t (by decide +kernel)
theorem ks_yX3_isTenths_t : Cond.static yX3_isTenths ∈ lw_tbl := List.mem_of_getElem? (i := 500) (by decide +kernel)
theorem ks_yX3_isTenths : Cond.static yX3_isTenths ∈ WW := ww_in ks_yX3_isTenths_t (by decide +kernel)
theorem kC_yX3_isTenths_t : Cond.code yX3_isTenths cX3_isTenths 1 (some .boolean) ∈ lw_tbl := List.mem_of_getElem? (i := 501) (by decide +kernel)
theorem kC_yX3_isTenths : Cond.code yX3_isTenths cX3_isTenths 1 (some .boolean) ∈ WW := ww_in kC_yX3_isTenths_t (by decide +kernel)
theorem kl_RX3_204_t : Cond.methodLink RX3 204 yX3_namingIfRight ∈ lw_tbl := List.mem_of_getElem? (i := 503) (by decide +kernel)
theorem kl_RX3_204 : Cond.methodLink RX3 204 yX3_namingIfRight ∈ WW := ww_in kl_RX3_204_t (by decide +kernel)
theorem ki_yX3_namingIfRight_t : Cond.instanceMethod yX3_namingIfRight ∈ lw_tbl := List.mem_of_getElem? (i := 505) (by decide +kernel)
theorem ki_yX3_namingIfRight : Cond.instanceMethod yX3_namingIfRight ∈ WW := ww_in ki_yX3_namingIfRight_t (by decide +kernel)
theorem kC_yX3_namingIfRight_t : Cond.code yX3_namingIfRight cX3_namingIfRight 2 (some .int) ∈ lw_tbl := List.mem_of_getElem? (i := 506) (by decide +kernel)
theorem kC_yX3_namingIfRight : Cond.code yX3_namingIfRight cX3_namingIfRight 2 (some .int) ∈ WW := ww_in kC_yX3_namingIfRight_t (by decide +kernel)
theorem kl_RX3_207_t : Cond.methodLink RX3 207 yX3_namingIfWrong ∈ lw_tbl := List.mem_of_getElem? (i := 507) (by decide +kernel)
theorem kl_RX3_207 : Cond.methodLink RX3 207 yX3_namingIfWrong ∈ WW := ww_in kl_RX3_207_t (by decide +kernel)
theorem ks_yX3_namingIfWrong_t : Cond.static yX3_namingIfWrong ∈ lw_tbl := List.mem_of_getElem? (i := 508) (by decide +kernel)
theorem ks_yX3_namingIfWrong : Cond.static yX3_namingIfWrong ∈ WW := ww_in ks_yX3_namingIfWrong_t (by decide +kernel)
theorem kC_yX3_namingIfWrong_t : Cond.code yX3_namingIfWrong cX3_namingIfWrong 1 (some .int) ∈ lw_tbl := List.mem_of_getElem? (i := 509) (by decide +kernel)
theorem kC_yX3_namingIfWrong : Cond.code yX3_namingIfWrong cX3_namingIfWrong 1 (some .int) ∈ WW := ww_in kC_yX3_namingIfWrong_t (by decide +kernel)
theorem kl_RL_119_t : Cond.methodLink RL 119 yX3_believed ∈ lw_tbl := List.mem_of_getElem? (i := 510) (by decide +kernel)
theorem kl_RL_119 : Cond.methodLink RL 119 yX3_believed ∈ WW := ww_in kl_RL_119_t (by decide +kernel)
theorem ki_yX3_believed_t : Cond.instanceMethod yX3_believed ∈ lw_tbl := List.mem_of_getElem? (i := 511) (by decide +kernel)
theorem ki_yX3_believed : Cond.instanceMethod yX3_believed ∈ WW := ww_in ki_yX3_believed_t (by decide +kernel)
theorem kS_yX3_believed_t : Cond.selects RX3 yX3_believed yX3_believed ∈ lw_tbl := List.mem_of_getElem? (i := 512) (by decide +kernel)
theorem kS_yX3_believed : Cond.selects RX3 yX3_believed yX3_believed ∈ WW := ww_in kS_yX3_believed_t (by decide +kernel)
theorem kC_yX3_believed_t : Cond.code yX3_believed cX3_believed 7 (some .int) ∈ lw_tbl := List.mem_of_getElem? (i := 513) (by decide +kernel)
theorem kC_yX3_believed : Cond.code yX3_believed cX3_believed 7 (some .int) ∈ WW := ww_in kC_yX3_believed_t (by decide +kernel)
theorem kl_RL_124_t : Cond.methodLink RL 124 yX3_chance ∈ lw_tbl := List.mem_of_getElem? (i := 514) (by decide +kernel)
theorem kl_RL_124 : Cond.methodLink RL 124 yX3_chance ∈ WW := ww_in kl_RL_124_t (by decide +kernel)
theorem ki_yX3_chance_t : Cond.instanceMethod yX3_chance ∈ lw_tbl := List.mem_of_getElem? (i := 515) (by decide +kernel)
theorem ki_yX3_chance : Cond.instanceMethod yX3_chance ∈ WW := ww_in ki_yX3_chance_t (by decide +kernel)
theorem kS_yX3_chance_t : Cond.selects RX3 yX3_chance yX3_chance ∈ lw_tbl := List.mem_of_getElem? (i := 516) (by decide +kernel)
theorem kS_yX3_chance : Cond.selects RX3 yX3_chance yX3_chance ∈ WW := ww_in kS_yX3_chance_t (by decide +kernel)
theorem kC_yX3_chance_t : Cond.code yX3_chance cX3_chance 7 (some .int) ∈ lw_tbl := List.mem_of_getElem? (i := 517) (by decide +kernel)
theorem kC_yX3_chance : Cond.code yX3_chance cX3_chance 7 (some .int) ∈ WW := ww_in kC_yX3_chance_t (by decide +kernel)
theorem kl_RX3_210_t : Cond.methodLink RX3 210 yX3_likelihoodOf ∈ lw_tbl := List.mem_of_getElem? (i := 518) (by decide +kernel)
theorem kl_RX3_210 : Cond.methodLink RX3 210 yX3_likelihoodOf ∈ WW := ww_in kl_RX3_210_t (by decide +kernel)
theorem ki_yX3_likelihoodOf_t : Cond.instanceMethod yX3_likelihoodOf ∈ lw_tbl := List.mem_of_getElem? (i := 520) (by decide +kernel)
theorem ki_yX3_likelihoodOf : Cond.instanceMethod yX3_likelihoodOf ∈ WW := ww_in ki_yX3_likelihoodOf_t (by decide +kernel)
theorem kC_yX3_likelihoodOf_t : Cond.code yX3_likelihoodOf cX3_likelihoodOf 5 (some .int) ∈ lw_tbl := List.mem_of_getElem? (i := 521) (by decide +kernel)
theorem kC_yX3_likelihoodOf : Cond.code yX3_likelihoodOf cX3_likelihoodOf 5 (some .int) ∈ WW := ww_in kC_yX3_likelihoodOf_t (by decide +kernel)
theorem kl_RL_130_t : Cond.methodLink RL 130 yX3_seed ∈ lw_tbl := List.mem_of_getElem? (i := 522) (by decide +kernel)
theorem kl_RL_130 : Cond.methodLink RL 130 yX3_seed ∈ WW := ww_in kl_RL_130_t (by decide +kernel)
theorem ki_yX3_seed_t : Cond.instanceMethod yX3_seed ∈ lw_tbl := List.mem_of_getElem? (i := 523) (by decide +kernel)
theorem ki_yX3_seed : Cond.instanceMethod yX3_seed ∈ WW := ww_in ki_yX3_seed_t (by decide +kernel)
theorem kS_yX3_seed_t : Cond.selects RX3 yX3_seed yX3_seed ∈ lw_tbl := List.mem_of_getElem? (i := 524) (by decide +kernel)
theorem kS_yX3_seed : Cond.selects RX3 yX3_seed yX3_seed ∈ WW := ww_in kS_yX3_seed_t (by decide +kernel)
theorem kC_yX3_seed_t : Cond.code yX3_seed cX3_seed 5 (some .long) ∈ lw_tbl := List.mem_of_getElem? (i := 525) (by decide +kernel)
theorem kC_yX3_seed : Cond.code yX3_seed cX3_seed 5 (some .long) ∈ WW := ww_in kC_yX3_seed_t (by decide +kernel)
theorem kl_RL_135_t : Cond.methodLink RL 135 yX3_hunted ∈ lw_tbl := List.mem_of_getElem? (i := 526) (by decide +kernel)
theorem kl_RL_135 : Cond.methodLink RL 135 yX3_hunted ∈ WW := ww_in kl_RL_135_t (by decide +kernel)
theorem ki_yX3_hunted_t : Cond.instanceMethod yX3_hunted ∈ lw_tbl := List.mem_of_getElem? (i := 527) (by decide +kernel)
theorem ki_yX3_hunted : Cond.instanceMethod yX3_hunted ∈ WW := ww_in ki_yX3_hunted_t (by decide +kernel)
theorem kS_yX3_hunted_t : Cond.selects RX3 yX3_hunted yX3_hunted ∈ lw_tbl := List.mem_of_getElem? (i := 528) (by decide +kernel)
theorem kS_yX3_hunted : Cond.selects RX3 yX3_hunted yX3_hunted ∈ WW := ww_in kS_yX3_hunted_t (by decide +kernel)
theorem kC_yX3_hunted_t : Cond.code yX3_hunted cX3_hunted 5 (some .int) ∈ lw_tbl := List.mem_of_getElem? (i := 529) (by decide +kernel)
theorem kC_yX3_hunted : Cond.code yX3_hunted cX3_hunted 5 (some .int) ∈ WW := ww_in kC_yX3_hunted_t (by decide +kernel)
theorem kl_RX3_213_t : Cond.constantLong RX3 213 (6364136223846793005) ∈ lw_tbl := List.mem_of_getElem? (i := 530) (by decide +kernel)
theorem kl_RX3_213 : Cond.constantLong RX3 213 (6364136223846793005) ∈ WW := ww_in kl_RX3_213_t (by decide +kernel)
theorem kl_RX3_215_t : Cond.constantLong RX3 215 (1442695040888963407) ∈ lw_tbl := List.mem_of_getElem? (i := 531) (by decide +kernel)
theorem kl_RX3_215 : Cond.constantLong RX3 215 (1442695040888963407) ∈ WW := ww_in kl_RX3_215_t (by decide +kernel)
theorem kl_RL_139_t : Cond.methodLink RL 139 yX3_keep ∈ lw_tbl := List.mem_of_getElem? (i := 532) (by decide +kernel)
theorem kl_RL_139 : Cond.methodLink RL 139 yX3_keep ∈ WW := ww_in kl_RL_139_t (by decide +kernel)
theorem ki_yX3_keep_t : Cond.instanceMethod yX3_keep ∈ lw_tbl := List.mem_of_getElem? (i := 533) (by decide +kernel)
theorem ki_yX3_keep : Cond.instanceMethod yX3_keep ∈ WW := ww_in ki_yX3_keep_t (by decide +kernel)
theorem kS_yX3_keep_t : Cond.selects RX3 yX3_keep yX3_keep ∈ lw_tbl := List.mem_of_getElem? (i := 534) (by decide +kernel)
theorem kS_yX3_keep : Cond.selects RX3 yX3_keep yX3_keep ∈ WW := ww_in kS_yX3_keep_t (by decide +kernel)
theorem kC_yX3_keep_t : Cond.code yX3_keep cX3_keep 2 (some .int) ∈ lw_tbl := List.mem_of_getElem? (i := 535) (by decide +kernel)
theorem kC_yX3_keep : Cond.code yX3_keep cX3_keep 2 (some .int) ∈ WW := ww_in kC_yX3_keep_t (by decide +kernel)
theorem kl_RL_143_t : Cond.methodLink RL 143 yX3_again ∈ lw_tbl := List.mem_of_getElem? (i := 536) (by decide +kernel)
theorem kl_RL_143 : Cond.methodLink RL 143 yX3_again ∈ WW := ww_in kl_RL_143_t (by decide +kernel)
theorem ki_yX3_again_t : Cond.instanceMethod yX3_again ∈ lw_tbl := List.mem_of_getElem? (i := 537) (by decide +kernel)
theorem ki_yX3_again : Cond.instanceMethod yX3_again ∈ WW := ww_in ki_yX3_again_t (by decide +kernel)
theorem kS_yX3_again_t : Cond.selects RX3 yX3_again yX3_again ∈ lw_tbl := List.mem_of_getElem? (i := 538) (by decide +kernel)
theorem kS_yX3_again : Cond.selects RX3 yX3_again yX3_again ∈ WW := ww_in kS_yX3_again_t (by decide +kernel)
theorem kC_yX3_again_t : Cond.code yX3_again cX3_again 2 (some .int) ∈ lw_tbl := List.mem_of_getElem? (i := 539) (by decide +kernel)
theorem kC_yX3_again : Cond.code yX3_again cX3_again 2 (some .int) ∈ WW := ww_in kC_yX3_again_t (by decide +kernel)
theorem kl_RL_10_t : Cond.classLink RL 10 RX4 ∈ lw_tbl := List.mem_of_getElem? (i := 540) (by decide +kernel)
theorem kl_RL_10 : Cond.classLink RL 10 RX4 ∈ WW := ww_in kl_RL_10_t (by decide +kernel)
theorem kN_RX4_t : Cond.instantiable RX4 25 ∈ lw_tbl := List.mem_of_getElem? (i := 541) (by decide +kernel)
theorem kN_RX4 : Cond.instantiable RX4 25 ∈ WW := ww_in kN_RX4_t (by decide +kernel)
theorem kl_RL_12_t : Cond.methodLink RL 12 yX4_init ∈ lw_tbl := List.mem_of_getElem? (i := 542) (by decide +kernel)
theorem kl_RL_12 : Cond.methodLink RL 12 yX4_init ∈ WW := ww_in kl_RL_12_t (by decide +kernel)
theorem ki_yX4_init_t : Cond.instanceMethod yX4_init ∈ lw_tbl := List.mem_of_getElem? (i := 543) (by decide +kernel)
theorem ki_yX4_init : Cond.instanceMethod yX4_init ∈ WW := ww_in ki_yX4_init_t (by decide +kernel)
theorem kC_yX4_init_t : Cond.code yX4_init cX4_init 2 none ∈ lw_tbl := List.mem_of_getElem? (i := 544) (by decide +kernel)
theorem kC_yX4_init : Cond.code yX4_init cX4_init 2 none ∈ WW := ww_in kC_yX4_init_t (by decide +kernel)
theorem kl_RX4_1_t : Cond.methodLink RX4 1 objectInit ∈ lw_tbl := List.mem_of_getElem? (i := 545) (by decide +kernel)
theorem kl_RX4_1 : Cond.methodLink RX4 1 objectInit ∈ WW := ww_in kl_RX4_1_t (by decide +kernel)
theorem kl_RX4_53_t : Cond.fieldLink RX4 53 "WallMirrorModel" "thrown" "I" ∈ lw_tbl := List.mem_of_getElem? (i := 546) (by decide +kernel)
theorem kl_RX4_53 : Cond.fieldLink RX4 53 "WallMirrorModel" "thrown" "I" ∈ WW := ww_in kl_RX4_53_t (by decide +kernel)
theorem kl_RX4_7_t : Cond.fieldLink RX4 7 "WallMirrorModel" "text" "[I" ∈ lw_tbl := List.mem_of_getElem? (i := 547) (by decide +kernel)
theorem kl_RX4_7 : Cond.fieldLink RX4 7 "WallMirrorModel" "text" "[I" ∈ WW := ww_in kl_RX4_7_t (by decide +kernel)
theorem kl_RX4_66_t : Cond.fieldLink RX4 66 "WallMirrorModel" "textSize" "I" ∈ lw_tbl := List.mem_of_getElem? (i := 548) (by decide +kernel)
theorem kl_RX4_66 : Cond.fieldLink RX4 66 "WallMirrorModel" "textSize" "I" ∈ WW := ww_in kl_RX4_66_t (by decide +kernel)
theorem kl_RX4_69_t : Cond.fieldLink RX4 69 "WallMirrorModel" "place" "I" ∈ lw_tbl := List.mem_of_getElem? (i := 549) (by decide +kernel)
theorem kl_RX4_69 : Cond.fieldLink RX4 69 "WallMirrorModel" "place" "I" ∈ WW := ww_in kl_RX4_69_t (by decide +kernel)
theorem kl_RX4_57_t : Cond.fieldLink RX4 57 "WallMirrorModel" "people" "I" ∈ lw_tbl := List.mem_of_getElem? (i := 550) (by decide +kernel)
theorem kl_RX4_57 : Cond.fieldLink RX4 57 "WallMirrorModel" "people" "I" ∈ WW := ww_in kl_RX4_57_t (by decide +kernel)
theorem kl_RX4_13_t : Cond.fieldLink RX4 13 "WallMirrorModel" "ageing" "[I" ∈ lw_tbl := List.mem_of_getElem? (i := 551) (by decide +kernel)
theorem kl_RX4_13 : Cond.fieldLink RX4 13 "WallMirrorModel" "ageing" "[I" ∈ WW := ww_in kl_RX4_13_t (by decide +kernel)
theorem kl_RX4_16_t : Cond.fieldLink RX4 16 "WallMirrorModel" "page" "[I" ∈ lw_tbl := List.mem_of_getElem? (i := 552) (by decide +kernel)
theorem kl_RX4_16 : Cond.fieldLink RX4 16 "WallMirrorModel" "page" "[I" ∈ WW := ww_in kl_RX4_16_t (by decide +kernel)
theorem kl_RX4_76_t : Cond.fieldLink RX4 76 "WallMirrorModel" "readPeople" "I" ∈ lw_tbl := List.mem_of_getElem? (i := 553) (by decide +kernel)
theorem kl_RX4_76 : Cond.fieldLink RX4 76 "WallMirrorModel" "readPeople" "I" ∈ WW := ww_in kl_RX4_76_t (by decide +kernel)
theorem kl_RX4_19_t : Cond.fieldLink RX4 19 "WallMirrorModel" "readAgeing" "[I" ∈ lw_tbl := List.mem_of_getElem? (i := 554) (by decide +kernel)
theorem kl_RX4_19 : Cond.fieldLink RX4 19 "WallMirrorModel" "readAgeing" "[I" ∈ WW := ww_in kl_RX4_19_t (by decide +kernel)
theorem kl_RX4_22_t : Cond.fieldLink RX4 22 "WallMirrorModel" "readPage" "[I" ∈ lw_tbl := List.mem_of_getElem? (i := 555) (by decide +kernel)
theorem kl_RX4_22 : Cond.fieldLink RX4 22 "WallMirrorModel" "readPage" "[I" ∈ WW := ww_in kl_RX4_22_t (by decide +kernel)
theorem kl_RX4_25_t : Cond.fieldLink RX4 25 "WallMirrorModel" "book" "[I" ∈ lw_tbl := List.mem_of_getElem? (i := 556) (by decide +kernel)
theorem kl_RX4_25 : Cond.fieldLink RX4 25 "WallMirrorModel" "book" "[I" ∈ WW := ww_in kl_RX4_25_t (by decide +kernel)
theorem kl_RX4_87_t : Cond.fieldLink RX4 87 "WallMirrorModel" "acts" "I" ∈ lw_tbl := List.mem_of_getElem? (i := 557) (by decide +kernel)
theorem kl_RX4_87 : Cond.fieldLink RX4 87 "WallMirrorModel" "acts" "I" ∈ WW := ww_in kl_RX4_87_t (by decide +kernel)
theorem kl_RX4_28_t : Cond.fieldLink RX4 28 "WallMirrorModel" "kept" "[I" ∈ lw_tbl := List.mem_of_getElem? (i := 558) (by decide +kernel)
theorem kl_RX4_28 : Cond.fieldLink RX4 28 "WallMirrorModel" "kept" "[I" ∈ WW := ww_in kl_RX4_28_t (by decide +kernel)
theorem kl_RX4_31_t : Cond.fieldLink RX4 31 "WallMirrorModel" "isKept" "[Z" ∈ lw_tbl := List.mem_of_getElem? (i := 559) (by decide +kernel)
theorem kl_RX4_31 : Cond.fieldLink RX4 31 "WallMirrorModel" "isKept" "[Z" ∈ WW := ww_in kl_RX4_31_t (by decide +kernel)
theorem kl_RX4_108_t : Cond.fieldLink RX4 108 "WallMirrorModel" "heard" "I" ∈ lw_tbl := List.mem_of_getElem? (i := 560) (by decide +kernel)
theorem kl_RX4_108 : Cond.fieldLink RX4 108 "WallMirrorModel" "heard" "I" ∈ WW := ww_in kl_RX4_108_t (by decide +kernel)
theorem kl_RX4_35_t : Cond.fieldLink RX4 35 "WallMirrorModel" "heardWho" "[I" ∈ lw_tbl := List.mem_of_getElem? (i := 561) (by decide +kernel)
theorem kl_RX4_35 : Cond.fieldLink RX4 35 "WallMirrorModel" "heardWho" "[I" ∈ WW := ww_in kl_RX4_35_t (by decide +kernel)
theorem kl_RX4_38_t : Cond.fieldLink RX4 38 "WallMirrorModel" "heardIs" "[Z" ∈ lw_tbl := List.mem_of_getElem? (i := 562) (by decide +kernel)
theorem kl_RX4_38 : Cond.fieldLink RX4 38 "WallMirrorModel" "heardIs" "[Z" ∈ WW := ww_in kl_RX4_38_t (by decide +kernel)
theorem kl_RX4_184_t : Cond.fieldLink RX4 184 "WallMirrorModel" "seed" "J" ∈ lw_tbl := List.mem_of_getElem? (i := 563) (by decide +kernel)
theorem kl_RX4_184 : Cond.fieldLink RX4 184 "WallMirrorModel" "seed" "J" ∈ WW := ww_in kl_RX4_184_t (by decide +kernel)
theorem kl_RX4_41_t : Cond.fieldLink RX4 41 "WallMirrorModel" "tried" "[I" ∈ lw_tbl := List.mem_of_getElem? (i := 564) (by decide +kernel)
theorem kl_RX4_41 : Cond.fieldLink RX4 41 "WallMirrorModel" "tried" "[I" ∈ WW := ww_in kl_RX4_41_t (by decide +kernel)
theorem kl_RX4_44_t : Cond.fieldLink RX4 44 "WallMirrorModel" "chooser" "[I" ∈ lw_tbl := List.mem_of_getElem? (i := 565) (by decide +kernel)
theorem kl_RX4_44 : Cond.fieldLink RX4 44 "WallMirrorModel" "chooser" "[I" ∈ WW := ww_in kl_RX4_44_t (by decide +kernel)
theorem kl_RX4_150_t : Cond.fieldLink RX4 150 "WallMirrorModel" "choosers" "I" ∈ lw_tbl := List.mem_of_getElem? (i := 566) (by decide +kernel)
theorem kl_RX4_150 : Cond.fieldLink RX4 150 "WallMirrorModel" "choosers" "I" ∈ WW := ww_in kl_RX4_150_t (by decide +kernel)
theorem kl_RX4_47_t : Cond.fieldLink RX4 47 "WallMirrorModel" "best" "[I" ∈ lw_tbl := List.mem_of_getElem? (i := 567) (by decide +kernel)
theorem kl_RX4_47 : Cond.fieldLink RX4 47 "WallMirrorModel" "best" "[I" ∈ WW := ww_in kl_RX4_47_t (by decide +kernel)
theorem kl_RX4_139_t : Cond.fieldLink RX4 139 "WallMirrorModel" "sets" "I" ∈ lw_tbl := List.mem_of_getElem? (i := 568) (by decide +kernel)
theorem kl_RX4_139 : Cond.fieldLink RX4 139 "WallMirrorModel" "sets" "I" ∈ WW := ww_in kl_RX4_139_t (by decide +kernel)
theorem kl_RX4_142_t : Cond.fieldLink RX4 142 "WallMirrorModel" "surely" "I" ∈ lw_tbl := List.mem_of_getElem? (i := 569) (by decide +kernel)
theorem kl_RX4_142 : Cond.fieldLink RX4 142 "WallMirrorModel" "surely" "I" ∈ WW := ww_in kl_RX4_142_t (by decide +kernel)
theorem kl_RX4_50_t : Cond.fieldLink RX4 50 "WallMirrorModel" "alives" "[I" ∈ lw_tbl := List.mem_of_getElem? (i := 570) (by decide +kernel)
theorem kl_RX4_50 : Cond.fieldLink RX4 50 "WallMirrorModel" "alives" "[I" ∈ WW := ww_in kl_RX4_50_t (by decide +kernel)
theorem kl_RL_17_t : Cond.methodLink RL 17 yX4_write ∈ lw_tbl := List.mem_of_getElem? (i := 622) (by decide +kernel)
theorem kl_RL_17 : Cond.methodLink RL 17 yX4_write ∈ WW := ww_in kl_RL_17_t (by decide +kernel)
theorem ki_yX4_write_t : Cond.instanceMethod yX4_write ∈ lw_tbl := List.mem_of_getElem? (i := 623) (by decide +kernel)
theorem ki_yX4_write : Cond.instanceMethod yX4_write ∈ WW := ww_in ki_yX4_write_t (by decide +kernel)
theorem kS_yX4_write_t : Cond.selects RX4 yX4_write yX4_write ∈ lw_tbl := List.mem_of_getElem? (i := 624) (by decide +kernel)
theorem kS_yX4_write : Cond.selects RX4 yX4_write yX4_write ∈ WW := ww_in kS_yX4_write_t (by decide +kernel)
theorem kC_yX4_write_t : Cond.code yX4_write cX4_write 2 (some .int) ∈ lw_tbl := List.mem_of_getElem? (i := 625) (by decide +kernel)
theorem kC_yX4_write : Cond.code yX4_write cX4_write 2 (some .int) ∈ WW := ww_in kC_yX4_write_t (by decide +kernel)
theorem kl_RX4_64_t : Cond.constantLong RX4 64 (255) ∈ lw_tbl := List.mem_of_getElem? (i := 626) (by decide +kernel)
theorem kl_RX4_64 : Cond.constantLong RX4 64 (255) ∈ WW := ww_in kl_RX4_64_t (by decide +kernel)
theorem kl_RX4_60_t : Cond.methodLink RX4 60 yX4_in ∈ lw_tbl := List.mem_of_getElem? (i := 627) (by decide +kernel)
theorem kl_RX4_60 : Cond.methodLink RX4 60 yX4_in ∈ WW := ww_in kl_RX4_60_t (by decide +kernel)
theorem ks_yX4_in_t : Cond.static yX4_in ∈ lw_tbl := List.mem_of_getElem? (i := 628) (by decide +kernel)
theorem ks_yX4_in : Cond.static yX4_in ∈ WW := ww_in ks_yX4_in_t (by decide +kernel)
theorem kC_yX4_in_t : Cond.code yX4_in cX4_in 6 (some .boolean) ∈ lw_tbl := List.mem_of_getElem? (i := 629) (by decide +kernel)
theorem kC_yX4_in : Cond.code yX4_in cX4_in 6 (some .boolean) ∈ WW := ww_in kC_yX4_in_t (by decide +kernel)
theorem kl_RL_22_t : Cond.methodLink RL 22 yX4_wipe ∈ lw_tbl := List.mem_of_getElem? (i := 630) (by decide +kernel)
theorem kl_RL_22 : Cond.methodLink RL 22 yX4_wipe ∈ WW := ww_in kl_RL_22_t (by decide +kernel)
theorem ki_yX4_wipe_t : Cond.instanceMethod yX4_wipe ∈ lw_tbl := List.mem_of_getElem? (i := 631) (by decide +kernel)
theorem ki_yX4_wipe : Cond.instanceMethod yX4_wipe ∈ WW := ww_in ki_yX4_wipe_t (by decide +kernel)
theorem kS_yX4_wipe_t : Cond.selects RX4 yX4_wipe yX4_wipe ∈ lw_tbl := List.mem_of_getElem? (i := 632) (by decide +kernel)
theorem kS_yX4_wipe : Cond.selects RX4 yX4_wipe yX4_wipe ∈ WW := ww_in kS_yX4_wipe_t (by decide +kernel)
theorem kC_yX4_wipe_t : Cond.code yX4_wipe cX4_wipe 2 (some .int) ∈ lw_tbl := List.mem_of_getElem? (i := 633) (by decide +kernel)
theorem kC_yX4_wipe : Cond.code yX4_wipe cX4_wipe 2 (some .int) ∈ WW := ww_in kC_yX4_wipe_t (by decide +kernel)
theorem kl_RL_26_t : Cond.methodLink RL 26 yX4_fault ∈ lw_tbl := List.mem_of_getElem? (i := 634) (by decide +kernel)
theorem kl_RL_26 : Cond.methodLink RL 26 yX4_fault ∈ WW := ww_in kl_RL_26_t (by decide +kernel)
theorem ki_yX4_fault_t : Cond.instanceMethod yX4_fault ∈ lw_tbl := List.mem_of_getElem? (i := 635) (by decide +kernel)
theorem ki_yX4_fault : Cond.instanceMethod yX4_fault ∈ WW := ww_in ki_yX4_fault_t (by decide +kernel)
theorem kS_yX4_fault_t : Cond.selects RX4 yX4_fault yX4_fault ∈ lw_tbl := List.mem_of_getElem? (i := 636) (by decide +kernel)
theorem kS_yX4_fault : Cond.selects RX4 yX4_fault yX4_fault ∈ WW := ww_in kS_yX4_fault_t (by decide +kernel)
theorem kC_yX4_fault_t : Cond.code yX4_fault cX4_fault 1 (some .int) ∈ lw_tbl := List.mem_of_getElem? (i := 637) (by decide +kernel)
theorem kC_yX4_fault : Cond.code yX4_fault cX4_fault 1 (some .int) ∈ WW := ww_in kC_yX4_fault_t (by decide +kernel)
theorem kl_RX4_83_t : Cond.methodLink RX4 83 yX4_readCourt ∈ lw_tbl := List.mem_of_getElem? (i := 638) (by decide +kernel)
theorem kl_RX4_83 : Cond.methodLink RX4 83 yX4_readCourt ∈ WW := ww_in kl_RX4_83_t (by decide +kernel)
theorem ki_yX4_readCourt_t : Cond.instanceMethod yX4_readCourt ∈ lw_tbl := List.mem_of_getElem? (i := 640) (by decide +kernel)
theorem ki_yX4_readCourt : Cond.instanceMethod yX4_readCourt ∈ WW := ww_in ki_yX4_readCourt_t (by decide +kernel)
theorem kC_yX4_readCourt_t : Cond.code yX4_readCourt cX4_readCourt 3 (some .int) ∈ lw_tbl := List.mem_of_getElem? (i := 641) (by decide +kernel)
theorem kC_yX4_readCourt : Cond.code yX4_readCourt cX4_readCourt 3 (some .int) ∈ WW := ww_in kC_yX4_readCourt_t (by decide +kernel)
theorem kl_RX4_72_t : Cond.methodLink RX4 72 yX4_figure ∈ lw_tbl := List.mem_of_getElem? (i := 642) (by decide +kernel)
theorem kl_RX4_72 : Cond.methodLink RX4 72 yX4_figure ∈ WW := ww_in kl_RX4_72_t (by decide +kernel)
theorem ki_yX4_figure_t : Cond.instanceMethod yX4_figure ∈ lw_tbl := List.mem_of_getElem? (i := 644) (by decide +kernel)
theorem ki_yX4_figure : Cond.instanceMethod yX4_figure ∈ WW := ww_in ki_yX4_figure_t (by decide +kernel)
theorem kC_yX4_figure_t : Cond.code yX4_figure cX4_figure 3 (some .int) ∈ lw_tbl := List.mem_of_getElem? (i := 645) (by decide +kernel)
theorem kC_yX4_figure : Cond.code yX4_figure cX4_figure 3 (some .int) ∈ WW := ww_in kC_yX4_figure_t (by decide +kernel)
theorem kl_RX4_79_t : Cond.methodLink RX4 79 yX4_readPerson ∈ lw_tbl := List.mem_of_getElem? (i := 646) (by decide +kernel)
theorem kl_RX4_79 : Cond.methodLink RX4 79 yX4_readPerson ∈ WW := ww_in kl_RX4_79_t (by decide +kernel)
theorem ki_yX4_readPerson_t : Cond.instanceMethod yX4_readPerson ∈ lw_tbl := List.mem_of_getElem? (i := 648) (by decide +kernel)
theorem ki_yX4_readPerson : Cond.instanceMethod yX4_readPerson ∈ WW := ww_in ki_yX4_readPerson_t (by decide +kernel)
theorem kC_yX4_readPerson_t : Cond.code yX4_readPerson cX4_readPerson 3 (some .boolean) ∈ lw_tbl := List.mem_of_getElem? (i := 649) (by decide +kernel)
theorem kC_yX4_readPerson : Cond.code yX4_readPerson cX4_readPerson 3 (some .boolean) ∈ WW := ww_in kC_yX4_readPerson_t (by decide +kernel)
theorem kl_RL_30_t : Cond.methodLink RL 30 yX4_court ∈ lw_tbl := List.mem_of_getElem? (i := 650) (by decide +kernel)
theorem kl_RL_30 : Cond.methodLink RL 30 yX4_court ∈ WW := ww_in kl_RL_30_t (by decide +kernel)
theorem ki_yX4_court_t : Cond.instanceMethod yX4_court ∈ lw_tbl := List.mem_of_getElem? (i := 651) (by decide +kernel)
theorem ki_yX4_court : Cond.instanceMethod yX4_court ∈ WW := ww_in ki_yX4_court_t (by decide +kernel)
theorem kS_yX4_court_t : Cond.selects RX4 yX4_court yX4_court ∈ lw_tbl := List.mem_of_getElem? (i := 652) (by decide +kernel)
theorem kS_yX4_court : Cond.selects RX4 yX4_court yX4_court ∈ WW := ww_in kS_yX4_court_t (by decide +kernel)
theorem kC_yX4_court_t : Cond.code yX4_court cX4_court 2 (some .int) ∈ lw_tbl := List.mem_of_getElem? (i := 653) (by decide +kernel)
theorem kC_yX4_court : Cond.code yX4_court cX4_court 2 (some .int) ∈ WW := ww_in kC_yX4_court_t (by decide +kernel)
theorem kl_RL_34_t : Cond.methodLink RL 34 yX4_about ∈ lw_tbl := List.mem_of_getElem? (i := 654) (by decide +kernel)
theorem kl_RL_34 : Cond.methodLink RL 34 yX4_about ∈ WW := ww_in kl_RL_34_t (by decide +kernel)
theorem ki_yX4_about_t : Cond.instanceMethod yX4_about ∈ lw_tbl := List.mem_of_getElem? (i := 655) (by decide +kernel)
theorem ki_yX4_about : Cond.instanceMethod yX4_about ∈ WW := ww_in ki_yX4_about_t (by decide +kernel)
theorem kS_yX4_about_t : Cond.selects RX4 yX4_about yX4_about ∈ lw_tbl := List.mem_of_getElem? (i := 656) (by decide +kernel)
theorem kS_yX4_about : Cond.selects RX4 yX4_about yX4_about ∈ WW := ww_in kS_yX4_about_t (by decide +kernel)
theorem kC_yX4_about_t : Cond.code yX4_about cX4_about 2 (some .int) ∈ lw_tbl := List.mem_of_getElem? (i := 657) (by decide +kernel)
theorem kC_yX4_about : Cond.code yX4_about cX4_about 2 (some .int) ∈ WW := ww_in kC_yX4_about_t (by decide +kernel)
theorem kl_RX4_105_t : Cond.methodLink RX4 105 yX4_fairest ∈ lw_tbl := List.mem_of_getElem? (i := 658) (by decide +kernel)
theorem kl_RX4_105 : Cond.methodLink RX4 105 yX4_fairest ∈ WW := ww_in kl_RX4_105_t (by decide +kernel)
theorem ki_yX4_fairest_t : Cond.instanceMethod yX4_fairest ∈ lw_tbl := List.mem_of_getElem? (i := 660) (by decide +kernel)
theorem ki_yX4_fairest : Cond.instanceMethod yX4_fairest ∈ WW := ww_in ki_yX4_fairest_t (by decide +kernel)
theorem kC_yX4_fairest_t : Cond.code yX4_fairest cX4_fairest 1 (some .int) ∈ lw_tbl := List.mem_of_getElem? (i := 661) (by decide +kernel)
theorem kC_yX4_fairest : Cond.code yX4_fairest cX4_fairest 1 (some .int) ∈ WW := ww_in kC_yX4_fairest_t (by decide +kernel)
theorem kl_RX4_98_t : Cond.methodLink RX4 98 yX4_weightsOf ∈ lw_tbl := List.mem_of_getElem? (i := 662) (by decide +kernel)
theorem kl_RX4_98 : Cond.methodLink RX4 98 yX4_weightsOf ∈ WW := ww_in kl_RX4_98_t (by decide +kernel)
theorem ks_yX4_weightsOf_t : Cond.static yX4_weightsOf ∈ lw_tbl := List.mem_of_getElem? (i := 663) (by decide +kernel)
theorem ks_yX4_weightsOf : Cond.static yX4_weightsOf ∈ WW := ww_in ks_yX4_weightsOf_t (by decide +kernel)
theorem kC_yX4_weightsOf_t : Cond.code yX4_weightsOf cX4_weightsOf 1 (some .int) ∈ lw_tbl := List.mem_of_getElem? (i := 664) (by decide +kernel)
theorem kC_yX4_weightsOf : Cond.code yX4_weightsOf cX4_weightsOf 1 (some .int) ∈ WW := ww_in kC_yX4_weightsOf_t (by decide +kernel)
theorem kl_RX4_102_t : Cond.methodLink RX4 102 yX4_fairestOf ∈ lw_tbl := List.mem_of_getElem? (i := 665) (by decide +kernel)
theorem kl_RX4_102 : Cond.methodLink RX4 102 yX4_fairestOf ∈ WW := ww_in kl_RX4_102_t (by decide +kernel)
theorem ki_yX4_fairestOf_t : Cond.instanceMethod yX4_fairestOf ∈ lw_tbl := List.mem_of_getElem? (i := 667) (by decide +kernel)
theorem ki_yX4_fairestOf : Cond.instanceMethod yX4_fairestOf ∈ WW := ww_in ki_yX4_fairestOf_t (by decide +kernel)
theorem kC_yX4_fairestOf_t : Cond.code yX4_fairestOf cX4_fairestOf 8 (some .int) ∈ lw_tbl := List.mem_of_getElem? (i := 668) (by decide +kernel)
theorem kC_yX4_fairestOf : Cond.code yX4_fairestOf cX4_fairestOf 8 (some .int) ∈ WW := ww_in kC_yX4_fairestOf_t (by decide +kernel)
theorem kl_RX4_90_t : Cond.methodLink RX4 90 yX4_has ∈ lw_tbl := List.mem_of_getElem? (i := 669) (by decide +kernel)
theorem kl_RX4_90 : Cond.methodLink RX4 90 yX4_has ∈ WW := ww_in kl_RX4_90_t (by decide +kernel)
theorem ks_yX4_has_t : Cond.static yX4_has ∈ lw_tbl := List.mem_of_getElem? (i := 670) (by decide +kernel)
theorem ks_yX4_has : Cond.static yX4_has ∈ WW := ww_in ks_yX4_has_t (by decide +kernel)
theorem kC_yX4_has_t : Cond.code yX4_has cX4_has 2 (some .boolean) ∈ lw_tbl := List.mem_of_getElem? (i := 671) (by decide +kernel)
theorem kC_yX4_has : Cond.code yX4_has cX4_has 2 (some .boolean) ∈ WW := ww_in kC_yX4_has_t (by decide +kernel)
theorem kl_RX4_94_t : Cond.methodLink RX4 94 yX4_valueOf ∈ lw_tbl := List.mem_of_getElem? (i := 672) (by decide +kernel)
theorem kl_RX4_94 : Cond.methodLink RX4 94 yX4_valueOf ∈ WW := ww_in kl_RX4_94_t (by decide +kernel)
theorem ks_yX4_valueOf_t : Cond.static yX4_valueOf ∈ lw_tbl := List.mem_of_getElem? (i := 673) (by decide +kernel)
theorem ks_yX4_valueOf : Cond.static yX4_valueOf ∈ WW := ww_in ks_yX4_valueOf_t (by decide +kernel)
theorem kC_yX4_valueOf_t : Cond.code yX4_valueOf cX4_valueOf 3 (some .int) ∈ lw_tbl := List.mem_of_getElem? (i := 674) (by decide +kernel)
theorem kC_yX4_valueOf : Cond.code yX4_valueOf cX4_valueOf 3 (some .int) ∈ WW := ww_in kC_yX4_valueOf_t (by decide +kernel)
theorem kl_RL_39_t : Cond.methodLink RL 39 yX4_person ∈ lw_tbl := List.mem_of_getElem? (i := 675) (by decide +kernel)
theorem kl_RL_39 : Cond.methodLink RL 39 yX4_person ∈ WW := ww_in kl_RL_39_t (by decide +kernel)
theorem ki_yX4_person_t : Cond.instanceMethod yX4_person ∈ lw_tbl := List.mem_of_getElem? (i := 676) (by decide +kernel)
theorem ki_yX4_person : Cond.instanceMethod yX4_person ∈ WW := ww_in ki_yX4_person_t (by decide +kernel)
theorem kS_yX4_person_t : Cond.selects RX4 yX4_person yX4_person ∈ lw_tbl := List.mem_of_getElem? (i := 677) (by decide +kernel)
theorem kS_yX4_person : Cond.selects RX4 yX4_person yX4_person ∈ WW := ww_in kS_yX4_person_t (by decide +kernel)
theorem kC_yX4_person_t : Cond.code yX4_person cX4_person 3 (some .int) ∈ lw_tbl := List.mem_of_getElem? (i := 678) (by decide +kernel)
theorem kC_yX4_person : Cond.code yX4_person cX4_person 3 (some .int) ∈ WW := ww_in kC_yX4_person_t (by decide +kernel)
theorem kl_RX4_111_t : Cond.methodLink RX4 111 yX4_noOne ∈ lw_tbl := List.mem_of_getElem? (i := 679) (by decide +kernel)
theorem kl_RX4_111 : Cond.methodLink RX4 111 yX4_noOne ∈ WW := ww_in kl_RX4_111_t (by decide +kernel)
theorem ki_yX4_noOne_t : Cond.instanceMethod yX4_noOne ∈ lw_tbl := List.mem_of_getElem? (i := 681) (by decide +kernel)
theorem ki_yX4_noOne : Cond.instanceMethod yX4_noOne ∈ WW := ww_in ki_yX4_noOne_t (by decide +kernel)
theorem kC_yX4_noOne_t : Cond.code yX4_noOne cX4_noOne 2 (some .boolean) ∈ lw_tbl := List.mem_of_getElem? (i := 682) (by decide +kernel)
theorem kC_yX4_noOne : Cond.code yX4_noOne cX4_noOne 2 (some .boolean) ∈ WW := ww_in kC_yX4_noOne_t (by decide +kernel)
theorem kl_RL_43_t : Cond.methodLink RL 43 yX4_morning ∈ lw_tbl := List.mem_of_getElem? (i := 683) (by decide +kernel)
theorem kl_RL_43 : Cond.methodLink RL 43 yX4_morning ∈ WW := ww_in kl_RL_43_t (by decide +kernel)
theorem ki_yX4_morning_t : Cond.instanceMethod yX4_morning ∈ lw_tbl := List.mem_of_getElem? (i := 684) (by decide +kernel)
theorem ki_yX4_morning : Cond.instanceMethod yX4_morning ∈ WW := ww_in ki_yX4_morning_t (by decide +kernel)
theorem kS_yX4_morning_t : Cond.selects RX4 yX4_morning yX4_morning ∈ lw_tbl := List.mem_of_getElem? (i := 685) (by decide +kernel)
theorem kS_yX4_morning : Cond.selects RX4 yX4_morning yX4_morning ∈ WW := ww_in kS_yX4_morning_t (by decide +kernel)
theorem kC_yX4_morning_t : Cond.code yX4_morning cX4_morning 2 (some .int) ∈ lw_tbl := List.mem_of_getElem? (i := 686) (by decide +kernel)
theorem kC_yX4_morning : Cond.code yX4_morning cX4_morning 2 (some .int) ∈ WW := ww_in kC_yX4_morning_t (by decide +kernel)
theorem kl_RX4_115_t : Cond.methodLink RX4 115 yX4_note ∈ lw_tbl := List.mem_of_getElem? (i := 687) (by decide +kernel)
theorem kl_RX4_115 : Cond.methodLink RX4 115 yX4_note ∈ WW := ww_in kl_RX4_115_t (by decide +kernel)
theorem ki_yX4_note_t : Cond.instanceMethod yX4_note ∈ lw_tbl := List.mem_of_getElem? (i := 689) (by decide +kernel)
theorem ki_yX4_note : Cond.instanceMethod yX4_note ∈ WW := ww_in ki_yX4_note_t (by decide +kernel)
theorem kC_yX4_note_t : Cond.code yX4_note cX4_note 2 none ∈ lw_tbl := List.mem_of_getElem? (i := 690) (by decide +kernel)
theorem kC_yX4_note : Cond.code yX4_note cX4_note 2 none ∈ WW := ww_in kC_yX4_note_t (by decide +kernel)
theorem kl_RX4_118_t : Cond.methodLink RX4 118 yX4_goMorning ∈ lw_tbl := List.mem_of_getElem? (i := 691) (by decide +kernel)
theorem kl_RX4_118 : Cond.methodLink RX4 118 yX4_goMorning ∈ WW := ww_in kl_RX4_118_t (by decide +kernel)
theorem ki_yX4_goMorning_t : Cond.instanceMethod yX4_goMorning ∈ lw_tbl := List.mem_of_getElem? (i := 693) (by decide +kernel)
theorem ki_yX4_goMorning : Cond.instanceMethod yX4_goMorning ∈ WW := ww_in ki_yX4_goMorning_t (by decide +kernel)
theorem kC_yX4_goMorning_t : Cond.code yX4_goMorning cX4_goMorning 8 none ∈ lw_tbl := List.mem_of_getElem? (i := 694) (by decide +kernel)
theorem kC_yX4_goMorning : Cond.code yX4_goMorning cX4_goMorning 8 none ∈ WW := ww_in kC_yX4_goMorning_t (by decide +kernel)
theorem kl_RL_47_t : Cond.methodLink RL 47 yX4_year ∈ lw_tbl := List.mem_of_getElem? (i := 695) (by decide +kernel)
theorem kl_RL_47 : Cond.methodLink RL 47 yX4_year ∈ WW := ww_in kl_RL_47_t (by decide +kernel)
theorem ki_yX4_year_t : Cond.instanceMethod yX4_year ∈ lw_tbl := List.mem_of_getElem? (i := 696) (by decide +kernel)
theorem ki_yX4_year : Cond.instanceMethod yX4_year ∈ WW := ww_in ki_yX4_year_t (by decide +kernel)
theorem kS_yX4_year_t : Cond.selects RX4 yX4_year yX4_year ∈ lw_tbl := List.mem_of_getElem? (i := 697) (by decide +kernel)
theorem kS_yX4_year : Cond.selects RX4 yX4_year yX4_year ∈ WW := ww_in kS_yX4_year_t (by decide +kernel)
theorem kC_yX4_year_t : Cond.code yX4_year cX4_year 1 (some .int) ∈ lw_tbl := List.mem_of_getElem? (i := 698) (by decide +kernel)
theorem kC_yX4_year : Cond.code yX4_year cX4_year 1 (some .int) ∈ WW := ww_in kC_yX4_year_t (by decide +kernel)
theorem kl_RX4_122_t : Cond.methodLink RX4 122 yX4_goYear ∈ lw_tbl := List.mem_of_getElem? (i := 699) (by decide +kernel)
theorem kl_RX4_122 : Cond.methodLink RX4 122 yX4_goYear ∈ WW := ww_in kl_RX4_122_t (by decide +kernel)
theorem ki_yX4_goYear_t : Cond.instanceMethod yX4_goYear ∈ lw_tbl := List.mem_of_getElem? (i := 701) (by decide +kernel)
theorem ki_yX4_goYear : Cond.instanceMethod yX4_goYear ∈ WW := ww_in ki_yX4_goYear_t (by decide +kernel)
theorem kC_yX4_goYear_t : Cond.code yX4_goYear cX4_goYear 5 none ∈ lw_tbl := List.mem_of_getElem? (i := 702) (by decide +kernel)
theorem kC_yX4_goYear : Cond.code yX4_goYear cX4_goYear 5 none ∈ WW := ww_in kC_yX4_goYear_t (by decide +kernel)
theorem kl_RL_51_t : Cond.methodLink RL 51 yX4_plain ∈ lw_tbl := List.mem_of_getElem? (i := 703) (by decide +kernel)
theorem kl_RL_51 : Cond.methodLink RL 51 yX4_plain ∈ WW := ww_in kl_RL_51_t (by decide +kernel)
theorem ki_yX4_plain_t : Cond.instanceMethod yX4_plain ∈ lw_tbl := List.mem_of_getElem? (i := 704) (by decide +kernel)
theorem ki_yX4_plain : Cond.instanceMethod yX4_plain ∈ WW := ww_in ki_yX4_plain_t (by decide +kernel)
theorem kS_yX4_plain_t : Cond.selects RX4 yX4_plain yX4_plain ∈ lw_tbl := List.mem_of_getElem? (i := 705) (by decide +kernel)
theorem kS_yX4_plain : Cond.selects RX4 yX4_plain yX4_plain ∈ WW := ww_in kS_yX4_plain_t (by decide +kernel)
theorem kC_yX4_plain_t : Cond.code yX4_plain cX4_plain 3 (some .int) ∈ lw_tbl := List.mem_of_getElem? (i := 706) (by decide +kernel)
theorem kC_yX4_plain : Cond.code yX4_plain cX4_plain 3 (some .int) ∈ WW := ww_in kC_yX4_plain_t (by decide +kernel)
theorem kl_RX4_125_t : Cond.constantLong RX4 125 (2) ∈ lw_tbl := List.mem_of_getElem? (i := 707) (by decide +kernel)
theorem kl_RX4_125 : Cond.constantLong RX4 125 (2) ∈ WW := ww_in kl_RX4_125_t (by decide +kernel)
theorem kl_RL_56_t : Cond.methodLink RL 56 yX4_hunt ∈ lw_tbl := List.mem_of_getElem? (i := 708) (by decide +kernel)
theorem kl_RL_56 : Cond.methodLink RL 56 yX4_hunt ∈ WW := ww_in kl_RL_56_t (by decide +kernel)
theorem ki_yX4_hunt_t : Cond.instanceMethod yX4_hunt ∈ lw_tbl := List.mem_of_getElem? (i := 709) (by decide +kernel)
theorem ki_yX4_hunt : Cond.instanceMethod yX4_hunt ∈ WW := ww_in ki_yX4_hunt_t (by decide +kernel)
theorem kS_yX4_hunt_t : Cond.selects RX4 yX4_hunt yX4_hunt ∈ lw_tbl := List.mem_of_getElem? (i := 710) (by decide +kernel)
theorem kS_yX4_hunt : Cond.selects RX4 yX4_hunt yX4_hunt ∈ WW := ww_in kS_yX4_hunt_t (by decide +kernel)
theorem kC_yX4_hunt_t : Cond.code yX4_hunt cX4_hunt 3 (some .int) ∈ lw_tbl := List.mem_of_getElem? (i := 711) (by decide +kernel)
theorem kC_yX4_hunt : Cond.code yX4_hunt cX4_hunt 3 (some .int) ∈ WW := ww_in kC_yX4_hunt_t (by decide +kernel)
theorem kl_RX4_127_t : Cond.methodLink RX4 127 yX4_many ∈ lw_tbl := List.mem_of_getElem? (i := 712) (by decide +kernel)
theorem kl_RX4_127 : Cond.methodLink RX4 127 yX4_many ∈ WW := ww_in kl_RX4_127_t (by decide +kernel)
theorem ks_yX4_many_t : Cond.static yX4_many ∈ lw_tbl := List.mem_of_getElem? (i := 713) (by decide +kernel)
theorem ks_yX4_many : Cond.static yX4_many ∈ WW := ww_in ks_yX4_many_t (by decide +kernel)
theorem kC_yX4_many_t : Cond.code yX4_many cX4_many 3 (some .int) ∈ lw_tbl := List.mem_of_getElem? (i := 714) (by decide +kernel)
theorem kC_yX4_many : Cond.code yX4_many cX4_many 3 (some .int) ∈ WW := ww_in kC_yX4_many_t (by decide +kernel)
theorem kl_RL_60_t : Cond.methodLink RL 60 yX4_undo ∈ lw_tbl := List.mem_of_getElem? (i := 715) (by decide +kernel)
theorem kl_RL_60 : Cond.methodLink RL 60 yX4_undo ∈ WW := ww_in kl_RL_60_t (by decide +kernel)
theorem ki_yX4_undo_t : Cond.instanceMethod yX4_undo ∈ lw_tbl := List.mem_of_getElem? (i := 716) (by decide +kernel)
theorem ki_yX4_undo : Cond.instanceMethod yX4_undo ∈ WW := ww_in ki_yX4_undo_t (by decide +kernel)
theorem kS_yX4_undo_t : Cond.selects RX4 yX4_undo yX4_undo ∈ lw_tbl := List.mem_of_getElem? (i := 717) (by decide +kernel)
theorem kS_yX4_undo : Cond.selects RX4 yX4_undo yX4_undo ∈ WW := ww_in kS_yX4_undo_t (by decide +kernel)
theorem kC_yX4_undo_t : Cond.code yX4_undo cX4_undo 2 (some .int) ∈ lw_tbl := List.mem_of_getElem? (i := 718) (by decide +kernel)
theorem kC_yX4_undo : Cond.code yX4_undo cX4_undo 2 (some .int) ∈ WW := ww_in kC_yX4_undo_t (by decide +kernel)
theorem kl_RL_64_t : Cond.methodLink RL 64 yX4_judged ∈ lw_tbl := List.mem_of_getElem? (i := 719) (by decide +kernel)
theorem kl_RL_64 : Cond.methodLink RL 64 yX4_judged ∈ WW := ww_in kl_RL_64_t (by decide +kernel)
theorem ki_yX4_judged_t : Cond.instanceMethod yX4_judged ∈ lw_tbl := List.mem_of_getElem? (i := 720) (by decide +kernel)
theorem ki_yX4_judged : Cond.instanceMethod yX4_judged ∈ WW := ww_in ki_yX4_judged_t (by decide +kernel)
theorem kS_yX4_judged_t : Cond.selects RX4 yX4_judged yX4_judged ∈ lw_tbl := List.mem_of_getElem? (i := 721) (by decide +kernel)
theorem kS_yX4_judged : Cond.selects RX4 yX4_judged yX4_judged ∈ WW := ww_in kS_yX4_judged_t (by decide +kernel)
theorem kC_yX4_judged_t : Cond.code yX4_judged cX4_judged 5 (some .int) ∈ lw_tbl := List.mem_of_getElem? (i := 722) (by decide +kernel)
theorem kC_yX4_judged : Cond.code yX4_judged cX4_judged 5 (some .int) ∈ WW := ww_in kC_yX4_judged_t (by decide +kernel)
theorem kl_RX4_131_t : Cond.constantLong RX4 131 (8) ∈ lw_tbl := List.mem_of_getElem? (i := 723) (by decide +kernel)
theorem kl_RX4_131 : Cond.constantLong RX4 131 (8) ∈ WW := ww_in kl_RX4_131_t (by decide +kernel)
theorem kl_RX4_133_t : Cond.methodLink RX4 133 yX4_ten ∈ lw_tbl := List.mem_of_getElem? (i := 724) (by decide +kernel)
theorem kl_RX4_133 : Cond.methodLink RX4 133 yX4_ten ∈ WW := ww_in kl_RX4_133_t (by decide +kernel)
theorem ks_yX4_ten_t : Cond.static yX4_ten ∈ lw_tbl := List.mem_of_getElem? (i := 725) (by decide +kernel)
theorem ks_yX4_ten : Cond.static yX4_ten ∈ WW := ww_in ks_yX4_ten_t (by decide +kernel)
theorem kC_yX4_ten_t : Cond.code yX4_ten cX4_ten 3 (some .int) ∈ lw_tbl := List.mem_of_getElem? (i := 726) (by decide +kernel)
theorem kC_yX4_ten : Cond.code yX4_ten cX4_ten 3 (some .int) ∈ WW := ww_in kC_yX4_ten_t (by decide +kernel)
theorem kl_RX4_136_t : Cond.methodLink RX4 136 yX4_begin ∈ lw_tbl := List.mem_of_getElem? (i := 727) (by decide +kernel)
theorem kl_RX4_136 : Cond.methodLink RX4 136 yX4_begin ∈ WW := ww_in kl_RX4_136_t (by decide +kernel)
theorem ki_yX4_begin_t : Cond.instanceMethod yX4_begin ∈ lw_tbl := List.mem_of_getElem? (i := 729) (by decide +kernel)
theorem ki_yX4_begin : Cond.instanceMethod yX4_begin ∈ WW := ww_in ki_yX4_begin_t (by decide +kernel)
theorem kC_yX4_begin_t : Cond.code yX4_begin cX4_begin 2 none ∈ lw_tbl := List.mem_of_getElem? (i := 730) (by decide +kernel)
theorem kC_yX4_begin : Cond.code yX4_begin cX4_begin 2 none ∈ WW := ww_in kC_yX4_begin_t (by decide +kernel)
theorem kl_RL_68_t : Cond.methodLink RL 68 yX4_hear ∈ lw_tbl := List.mem_of_getElem? (i := 731) (by decide +kernel)
theorem kl_RL_68 : Cond.methodLink RL 68 yX4_hear ∈ WW := ww_in kl_RL_68_t (by decide +kernel)
theorem ki_yX4_hear_t : Cond.instanceMethod yX4_hear ∈ lw_tbl := List.mem_of_getElem? (i := 732) (by decide +kernel)
theorem ki_yX4_hear : Cond.instanceMethod yX4_hear ∈ WW := ww_in ki_yX4_hear_t (by decide +kernel)
theorem kS_yX4_hear_t : Cond.selects RX4 yX4_hear yX4_hear ∈ lw_tbl := List.mem_of_getElem? (i := 733) (by decide +kernel)
theorem kS_yX4_hear : Cond.selects RX4 yX4_hear yX4_hear ∈ WW := ww_in kS_yX4_hear_t (by decide +kernel)
theorem kC_yX4_hear_t : Cond.code yX4_hear cX4_hear 3 (some .int) ∈ lw_tbl := List.mem_of_getElem? (i := 734) (by decide +kernel)
theorem kC_yX4_hear : Cond.code yX4_hear cX4_hear 3 (some .int) ∈ WW := ww_in kC_yX4_hear_t (by decide +kernel)
theorem kl_RL_72_t : Cond.methodLink RL 72 yX4_unhear ∈ lw_tbl := List.mem_of_getElem? (i := 735) (by decide +kernel)
theorem kl_RL_72 : Cond.methodLink RL 72 yX4_unhear ∈ WW := ww_in kl_RL_72_t (by decide +kernel)
theorem ki_yX4_unhear_t : Cond.instanceMethod yX4_unhear ∈ lw_tbl := List.mem_of_getElem? (i := 736) (by decide +kernel)
theorem ki_yX4_unhear : Cond.instanceMethod yX4_unhear ∈ WW := ww_in ki_yX4_unhear_t (by decide +kernel)
theorem kS_yX4_unhear_t : Cond.selects RX4 yX4_unhear yX4_unhear ∈ lw_tbl := List.mem_of_getElem? (i := 737) (by decide +kernel)
theorem kS_yX4_unhear : Cond.selects RX4 yX4_unhear yX4_unhear ∈ WW := ww_in kS_yX4_unhear_t (by decide +kernel)
theorem kC_yX4_unhear_t : Cond.code yX4_unhear cX4_unhear 2 (some .int) ∈ lw_tbl := List.mem_of_getElem? (i := 738) (by decide +kernel)
theorem kC_yX4_unhear : Cond.code yX4_unhear cX4_unhear 2 (some .int) ∈ WW := ww_in kC_yX4_unhear_t (by decide +kernel)
theorem kl_RL_76_t : Cond.methodLink RL 76 yX4_worlds ∈ lw_tbl := List.mem_of_getElem? (i := 739) (by decide +kernel)
theorem kl_RL_76 : Cond.methodLink RL 76 yX4_worlds ∈ WW := ww_in kl_RL_76_t (by decide +kernel)
theorem ki_yX4_worlds_t : Cond.instanceMethod yX4_worlds ∈ lw_tbl := List.mem_of_getElem? (i := 740) (by decide +kernel)
theorem ki_yX4_worlds : Cond.instanceMethod yX4_worlds ∈ WW := ww_in ki_yX4_worlds_t (by decide +kernel)
theorem kS_yX4_worlds_t : Cond.selects RX4 yX4_worlds yX4_worlds ∈ lw_tbl := List.mem_of_getElem? (i := 741) (by decide +kernel)
theorem kS_yX4_worlds : Cond.selects RX4 yX4_worlds yX4_worlds ∈ WW := ww_in kS_yX4_worlds_t (by decide +kernel)
theorem kC_yX4_worlds_t : Cond.code yX4_worlds cX4_worlds 2 (some .int) ∈ lw_tbl := List.mem_of_getElem? (i := 742) (by decide +kernel)
theorem kC_yX4_worlds : Cond.code yX4_worlds cX4_worlds 2 (some .int) ∈ WW := ww_in kC_yX4_worlds_t (by decide +kernel)
theorem kl_RX4_145_t : Cond.methodLink RX4 145 yX4_laySets ∈ lw_tbl := List.mem_of_getElem? (i := 743) (by decide +kernel)
theorem kl_RX4_145 : Cond.methodLink RX4 145 yX4_laySets ∈ WW := ww_in kl_RX4_145_t (by decide +kernel)
theorem ki_yX4_laySets_t : Cond.instanceMethod yX4_laySets ∈ lw_tbl := List.mem_of_getElem? (i := 745) (by decide +kernel)
theorem ki_yX4_laySets : Cond.instanceMethod yX4_laySets ∈ WW := ww_in ki_yX4_laySets_t (by decide +kernel)
theorem kC_yX4_laySets_t : Cond.code yX4_laySets cX4_laySets 6 none ∈ lw_tbl := List.mem_of_getElem? (i := 746) (by decide +kernel)
theorem kC_yX4_laySets : Cond.code yX4_laySets cX4_laySets 6 none ∈ WW := ww_in kC_yX4_laySets_t (by decide +kernel)
theorem kl_RL_80_t : Cond.methodLink RL 80 yX4_toAsk ∈ lw_tbl := List.mem_of_getElem? (i := 747) (by decide +kernel)
theorem kl_RL_80 : Cond.methodLink RL 80 yX4_toAsk ∈ WW := ww_in kl_RL_80_t (by decide +kernel)
theorem ki_yX4_toAsk_t : Cond.instanceMethod yX4_toAsk ∈ lw_tbl := List.mem_of_getElem? (i := 748) (by decide +kernel)
theorem ki_yX4_toAsk : Cond.instanceMethod yX4_toAsk ∈ WW := ww_in ki_yX4_toAsk_t (by decide +kernel)
theorem kS_yX4_toAsk_t : Cond.selects RX4 yX4_toAsk yX4_toAsk ∈ lw_tbl := List.mem_of_getElem? (i := 749) (by decide +kernel)
theorem kS_yX4_toAsk : Cond.selects RX4 yX4_toAsk yX4_toAsk ∈ WW := ww_in kS_yX4_toAsk_t (by decide +kernel)
theorem kC_yX4_toAsk_t : Cond.code yX4_toAsk cX4_toAsk 5 (some .int) ∈ lw_tbl := List.mem_of_getElem? (i := 750) (by decide +kernel)
theorem kC_yX4_toAsk : Cond.code yX4_toAsk cX4_toAsk 5 (some .int) ∈ WW := ww_in kC_yX4_toAsk_t (by decide +kernel)
theorem kl_RL_84_t : Cond.methodLink RL 84 yX4_answer ∈ lw_tbl := List.mem_of_getElem? (i := 751) (by decide +kernel)
theorem kl_RL_84 : Cond.methodLink RL 84 yX4_answer ∈ WW := ww_in kl_RL_84_t (by decide +kernel)
theorem ki_yX4_answer_t : Cond.instanceMethod yX4_answer ∈ lw_tbl := List.mem_of_getElem? (i := 752) (by decide +kernel)
theorem ki_yX4_answer : Cond.instanceMethod yX4_answer ∈ WW := ww_in ki_yX4_answer_t (by decide +kernel)
theorem kS_yX4_answer_t : Cond.selects RX4 yX4_answer yX4_answer ∈ lw_tbl := List.mem_of_getElem? (i := 753) (by decide +kernel)
theorem kS_yX4_answer : Cond.selects RX4 yX4_answer yX4_answer ∈ WW := ww_in kS_yX4_answer_t (by decide +kernel)
theorem kC_yX4_answer_t : Cond.code yX4_answer cX4_answer 6 (some .int) ∈ lw_tbl := List.mem_of_getElem? (i := 754) (by decide +kernel)
theorem kC_yX4_answer : Cond.code yX4_answer cX4_answer 6 (some .int) ∈ WW := ww_in kC_yX4_answer_t (by decide +kernel)
theorem kl_RX4_148_t : Cond.constantLong RX4 148 (6) ∈ lw_tbl := List.mem_of_getElem? (i := 755) (by decide +kernel)
theorem kl_RX4_148 : Cond.constantLong RX4 148 (6) ∈ WW := ww_in kl_RX4_148_t (by decide +kernel)
theorem kl_RL_88_t : Cond.methodLink RL 88 yX4_chosen ∈ lw_tbl := List.mem_of_getElem? (i := 756) (by decide +kernel)
theorem kl_RL_88 : Cond.methodLink RL 88 yX4_chosen ∈ WW := ww_in kl_RL_88_t (by decide +kernel)
theorem ki_yX4_chosen_t : Cond.instanceMethod yX4_chosen ∈ lw_tbl := List.mem_of_getElem? (i := 757) (by decide +kernel)
theorem ki_yX4_chosen : Cond.instanceMethod yX4_chosen ∈ WW := ww_in ki_yX4_chosen_t (by decide +kernel)
theorem kS_yX4_chosen_t : Cond.selects RX4 yX4_chosen yX4_chosen ∈ lw_tbl := List.mem_of_getElem? (i := 758) (by decide +kernel)
theorem kS_yX4_chosen : Cond.selects RX4 yX4_chosen yX4_chosen ∈ WW := ww_in kS_yX4_chosen_t (by decide +kernel)
theorem kC_yX4_chosen_t : Cond.code yX4_chosen cX4_chosen 3 (some .int) ∈ lw_tbl := List.mem_of_getElem? (i := 759) (by decide +kernel)
theorem kC_yX4_chosen : Cond.code yX4_chosen cX4_chosen 3 (some .int) ∈ WW := ww_in kC_yX4_chosen_t (by decide +kernel)
theorem kl_RX4_159_t : Cond.methodLink RX4 159 yX4_chooserOf ∈ lw_tbl := List.mem_of_getElem? (i := 760) (by decide +kernel)
theorem kl_RX4_159 : Cond.methodLink RX4 159 yX4_chooserOf ∈ WW := ww_in kl_RX4_159_t (by decide +kernel)
theorem ki_yX4_chooserOf_t : Cond.instanceMethod yX4_chooserOf ∈ lw_tbl := List.mem_of_getElem? (i := 762) (by decide +kernel)
theorem ki_yX4_chooserOf : Cond.instanceMethod yX4_chooserOf ∈ WW := ww_in ki_yX4_chooserOf_t (by decide +kernel)
theorem kC_yX4_chooserOf_t : Cond.code yX4_chooserOf cX4_chooserOf 2 (some .int) ∈ lw_tbl := List.mem_of_getElem? (i := 763) (by decide +kernel)
theorem kC_yX4_chooserOf : Cond.code yX4_chooserOf cX4_chooserOf 2 (some .int) ∈ WW := ww_in kC_yX4_chooserOf_t (by decide +kernel)
theorem kl_RX4_162_t : Cond.methodLink RX4 162 yX4_findRow ∈ lw_tbl := List.mem_of_getElem? (i := 764) (by decide +kernel)
theorem kl_RX4_162 : Cond.methodLink RX4 162 yX4_findRow ∈ WW := ww_in kl_RX4_162_t (by decide +kernel)
theorem ki_yX4_findRow_t : Cond.instanceMethod yX4_findRow ∈ lw_tbl := List.mem_of_getElem? (i := 766) (by decide +kernel)
theorem ki_yX4_findRow : Cond.instanceMethod yX4_findRow ∈ WW := ww_in ki_yX4_findRow_t (by decide +kernel)
theorem kC_yX4_findRow_t : Cond.code yX4_findRow cX4_findRow 7 (some .int) ∈ lw_tbl := List.mem_of_getElem? (i := 767) (by decide +kernel)
theorem kC_yX4_findRow : Cond.code yX4_findRow cX4_findRow 7 (some .int) ∈ WW := ww_in kC_yX4_findRow_t (by decide +kernel)
theorem kl_RX4_156_t : Cond.methodLink RX4 156 yX4_worthIn ∈ lw_tbl := List.mem_of_getElem? (i := 768) (by decide +kernel)
theorem kl_RX4_156 : Cond.methodLink RX4 156 yX4_worthIn ∈ WW := ww_in kl_RX4_156_t (by decide +kernel)
theorem ki_yX4_worthIn_t : Cond.instanceMethod yX4_worthIn ∈ lw_tbl := List.mem_of_getElem? (i := 770) (by decide +kernel)
theorem ki_yX4_worthIn : Cond.instanceMethod yX4_worthIn ∈ WW := ww_in ki_yX4_worthIn_t (by decide +kernel)
theorem kC_yX4_worthIn_t : Cond.code yX4_worthIn cX4_worthIn 7 (some .int) ∈ lw_tbl := List.mem_of_getElem? (i := 771) (by decide +kernel)
theorem kC_yX4_worthIn : Cond.code yX4_worthIn cX4_worthIn 7 (some .int) ∈ WW := ww_in kC_yX4_worthIn_t (by decide +kernel)
theorem kl_RX4_153_t : Cond.methodLink RX4 153 yX4_plainIn ∈ lw_tbl := List.mem_of_getElem? (i := 772) (by decide +kernel)
theorem kl_RX4_153 : Cond.methodLink RX4 153 yX4_plainIn ∈ WW := ww_in kl_RX4_153_t (by decide +kernel)
theorem ki_yX4_plainIn_t : Cond.instanceMethod yX4_plainIn ∈ lw_tbl := List.mem_of_getElem? (i := 774) (by decide +kernel)
theorem ki_yX4_plainIn : Cond.instanceMethod yX4_plainIn ∈ WW := ww_in ki_yX4_plainIn_t (by decide +kernel)
theorem kC_yX4_plainIn_t : Cond.code yX4_plainIn cX4_plainIn 5 (some .int) ∈ lw_tbl := List.mem_of_getElem? (i := 775) (by decide +kernel)
theorem kC_yX4_plainIn : Cond.code yX4_plainIn cX4_plainIn 5 (some .int) ∈ WW := ww_in kC_yX4_plainIn_t (by decide +kernel)
theorem kl_RL_92_t : Cond.methodLink RL 92 yX4_chosenWorth ∈ lw_tbl := List.mem_of_getElem? (i := 776) (by decide +kernel)
theorem kl_RL_92 : Cond.methodLink RL 92 yX4_chosenWorth ∈ WW := ww_in kl_RL_92_t (by decide +kernel)
theorem ki_yX4_chosenWorth_t : Cond.instanceMethod yX4_chosenWorth ∈ lw_tbl := List.mem_of_getElem? (i := 777) (by decide +kernel)
theorem ki_yX4_chosenWorth : Cond.instanceMethod yX4_chosenWorth ∈ WW := ww_in ki_yX4_chosenWorth_t (by decide +kernel)
theorem kS_yX4_chosenWorth_t : Cond.selects RX4 yX4_chosenWorth yX4_chosenWorth ∈ lw_tbl := List.mem_of_getElem? (i := 778) (by decide +kernel)
theorem kS_yX4_chosenWorth : Cond.selects RX4 yX4_chosenWorth yX4_chosenWorth ∈ WW := ww_in kS_yX4_chosenWorth_t (by decide +kernel)
theorem kC_yX4_chosenWorth_t : Cond.code yX4_chosenWorth cX4_chosenWorth 3 (some .int) ∈ lw_tbl := List.mem_of_getElem? (i := 779) (by decide +kernel)
theorem kC_yX4_chosenWorth : Cond.code yX4_chosenWorth cX4_chosenWorth 3 (some .int) ∈ WW := ww_in kC_yX4_chosenWorth_t (by decide +kernel)
theorem kl_RL_96_t : Cond.methodLink RL 96 yX4_measures ∈ lw_tbl := List.mem_of_getElem? (i := 780) (by decide +kernel)
theorem kl_RL_96 : Cond.methodLink RL 96 yX4_measures ∈ WW := ww_in kl_RL_96_t (by decide +kernel)
theorem ki_yX4_measures_t : Cond.instanceMethod yX4_measures ∈ lw_tbl := List.mem_of_getElem? (i := 781) (by decide +kernel)
theorem ki_yX4_measures : Cond.instanceMethod yX4_measures ∈ WW := ww_in ki_yX4_measures_t (by decide +kernel)
theorem kS_yX4_measures_t : Cond.selects RX4 yX4_measures yX4_measures ∈ lw_tbl := List.mem_of_getElem? (i := 782) (by decide +kernel)
theorem kS_yX4_measures : Cond.selects RX4 yX4_measures yX4_measures ∈ WW := ww_in kS_yX4_measures_t (by decide +kernel)
theorem kC_yX4_measures_t : Cond.code yX4_measures cX4_measures 4 (some .int) ∈ lw_tbl := List.mem_of_getElem? (i := 783) (by decide +kernel)
theorem kC_yX4_measures : Cond.code yX4_measures cX4_measures 4 (some .int) ∈ WW := ww_in kC_yX4_measures_t (by decide +kernel)
theorem kl_RX4_165_t : Cond.methodLink RX4 165 yX4_isAlone ∈ lw_tbl := List.mem_of_getElem? (i := 784) (by decide +kernel)
theorem kl_RX4_165 : Cond.methodLink RX4 165 yX4_isAlone ∈ WW := ww_in kl_RX4_165_t (by decide +kernel)
theorem ki_yX4_isAlone_t : Cond.instanceMethod yX4_isAlone ∈ lw_tbl := List.mem_of_getElem? (i := 786) (by decide +kernel)
theorem ki_yX4_isAlone : Cond.instanceMethod yX4_isAlone ∈ WW := ww_in ki_yX4_isAlone_t (by decide +kernel)
theorem kC_yX4_isAlone_t : Cond.code yX4_isAlone cX4_isAlone 4 (some .boolean) ∈ lw_tbl := List.mem_of_getElem? (i := 787) (by decide +kernel)
theorem kC_yX4_isAlone : Cond.code yX4_isAlone cX4_isAlone 4 (some .boolean) ∈ WW := ww_in kC_yX4_isAlone_t (by decide +kernel)
theorem kl_RL_100_t : Cond.methodLink RL 100 yX4_nearest ∈ lw_tbl := List.mem_of_getElem? (i := 788) (by decide +kernel)
theorem kl_RL_100 : Cond.methodLink RL 100 yX4_nearest ∈ WW := ww_in kl_RL_100_t (by decide +kernel)
theorem ki_yX4_nearest_t : Cond.instanceMethod yX4_nearest ∈ lw_tbl := List.mem_of_getElem? (i := 789) (by decide +kernel)
theorem ki_yX4_nearest : Cond.instanceMethod yX4_nearest ∈ WW := ww_in ki_yX4_nearest_t (by decide +kernel)
theorem kS_yX4_nearest_t : Cond.selects RX4 yX4_nearest yX4_nearest ∈ lw_tbl := List.mem_of_getElem? (i := 790) (by decide +kernel)
theorem kS_yX4_nearest : Cond.selects RX4 yX4_nearest yX4_nearest ∈ WW := ww_in kS_yX4_nearest_t (by decide +kernel)
theorem kC_yX4_nearest_t : Cond.code yX4_nearest cX4_nearest 6 (some .int) ∈ lw_tbl := List.mem_of_getElem? (i := 791) (by decide +kernel)
theorem kC_yX4_nearest : Cond.code yX4_nearest cX4_nearest 6 (some .int) ∈ WW := ww_in kC_yX4_nearest_t (by decide +kernel)
theorem kl_RX4_169_t : Cond.methodLink RX4 169 yX4_apart ∈ lw_tbl := List.mem_of_getElem? (i := 792) (by decide +kernel)
theorem kl_RX4_169 : Cond.methodLink RX4 169 yX4_apart ∈ WW := ww_in kl_RX4_169_t (by decide +kernel)
theorem ks_yX4_apart_t : Cond.static yX4_apart ∈ lw_tbl := List.mem_of_getElem? (i := 793) (by decide +kernel)
theorem ks_yX4_apart : Cond.static yX4_apart ∈ WW := ww_in ks_yX4_apart_t (by decide +kernel)
theorem kC_yX4_apart_t : Cond.code yX4_apart cX4_apart 2 (some .int) ∈ lw_tbl := List.mem_of_getElem? (i := 794) (by decide +kernel)
theorem kC_yX4_apart : Cond.code yX4_apart cX4_apart 2 (some .int) ∈ WW := ww_in kC_yX4_apart_t (by decide +kernel)
theorem kl_RL_105_t : Cond.methodLink RL 105 yX4_reign ∈ lw_tbl := List.mem_of_getElem? (i := 795) (by decide +kernel)
theorem kl_RL_105 : Cond.methodLink RL 105 yX4_reign ∈ WW := ww_in kl_RL_105_t (by decide +kernel)
theorem ki_yX4_reign_t : Cond.instanceMethod yX4_reign ∈ lw_tbl := List.mem_of_getElem? (i := 796) (by decide +kernel)
theorem ki_yX4_reign : Cond.instanceMethod yX4_reign ∈ WW := ww_in ki_yX4_reign_t (by decide +kernel)
theorem kS_yX4_reign_t : Cond.selects RX4 yX4_reign yX4_reign ∈ lw_tbl := List.mem_of_getElem? (i := 797) (by decide +kernel)
theorem kS_yX4_reign : Cond.selects RX4 yX4_reign yX4_reign ∈ WW := ww_in kS_yX4_reign_t (by decide +kernel)
theorem kC_yX4_reign_t : Cond.code yX4_reign cX4_reign 3 (some .int) ∈ lw_tbl := List.mem_of_getElem? (i := 798) (by decide +kernel)
theorem kC_yX4_reign : Cond.code yX4_reign cX4_reign 3 (some .int) ∈ WW := ww_in kC_yX4_reign_t (by decide +kernel)
theorem kl_RL_109_t : Cond.methodLink RL 109 yX4_differs ∈ lw_tbl := List.mem_of_getElem? (i := 799) (by decide +kernel)
theorem kl_RL_109 : Cond.methodLink RL 109 yX4_differs ∈ WW := ww_in kl_RL_109_t (by decide +kernel)
theorem ki_yX4_differs_t : Cond.instanceMethod yX4_differs ∈ lw_tbl := List.mem_of_getElem? (i := 800) (by decide +kernel)
theorem ki_yX4_differs : Cond.instanceMethod yX4_differs ∈ WW := ww_in ki_yX4_differs_t (by decide +kernel)
theorem kS_yX4_differs_t : Cond.selects RX4 yX4_differs yX4_differs ∈ lw_tbl := List.mem_of_getElem? (i := 801) (by decide +kernel)
theorem kS_yX4_differs : Cond.selects RX4 yX4_differs yX4_differs ∈ WW := ww_in kS_yX4_differs_t (by decide +kernel)
theorem kC_yX4_differs_t : Cond.code yX4_differs cX4_differs 2 (some .int) ∈ lw_tbl := List.mem_of_getElem? (i := 802) (by decide +kernel)
theorem kC_yX4_differs : Cond.code yX4_differs cX4_differs 2 (some .int) ∈ WW := ww_in kC_yX4_differs_t (by decide +kernel)
theorem kl_RX4_172_t : Cond.constantLong RX4 172 (999) ∈ lw_tbl := List.mem_of_getElem? (i := 803) (by decide +kernel)
theorem kl_RX4_172 : Cond.constantLong RX4 172 (999) ∈ WW := ww_in kl_RX4_172_t (by decide +kernel)
theorem kl_RL_114_t : Cond.methodLink RL 114 yX4_rate ∈ lw_tbl := List.mem_of_getElem? (i := 804) (by decide +kernel)
theorem kl_RL_114 : Cond.methodLink RL 114 yX4_rate ∈ WW := ww_in kl_RL_114_t (by decide +kernel)
theorem ki_yX4_rate_t : Cond.instanceMethod yX4_rate ∈ lw_tbl := List.mem_of_getElem? (i := 805) (by decide +kernel)
theorem ki_yX4_rate : Cond.instanceMethod yX4_rate ∈ WW := ww_in ki_yX4_rate_t (by decide +kernel)
theorem kS_yX4_rate_t : Cond.selects RX4 yX4_rate yX4_rate ∈ lw_tbl := List.mem_of_getElem? (i := 806) (by decide +kernel)
theorem kS_yX4_rate : Cond.selects RX4 yX4_rate yX4_rate ∈ WW := ww_in kS_yX4_rate_t (by decide +kernel)
theorem kC_yX4_rate_t : Cond.code yX4_rate cX4_rate 6 (some .int) ∈ lw_tbl := List.mem_of_getElem? (i := 807) (by decide +kernel)
theorem kC_yX4_rate : Cond.code yX4_rate cX4_rate 6 (some .int) ∈ WW := ww_in kC_yX4_rate_t (by decide +kernel)
theorem kl_RX4_178_t : Cond.methodLink RX4 178 yX4_fraction ∈ lw_tbl := List.mem_of_getElem? (i := 808) (by decide +kernel)
theorem kl_RX4_178 : Cond.methodLink RX4 178 yX4_fraction ∈ WW := ww_in kl_RX4_178_t (by decide +kernel)
theorem ks_yX4_fraction_t : Cond.static yX4_fraction ∈ lw_tbl := List.mem_of_getElem? (i := 809) (by decide +kernel)
theorem ks_yX4_fraction : Cond.static yX4_fraction ∈ WW := ww_in ks_yX4_fraction_t (by decide +kernel)
theorem kC_yX4_fraction_t : Cond.code yX4_fraction cX4_fraction 7 (some .int) ∈ lw_tbl := List.mem_of_getElem? (i := 810) (by decide +kernel)
theorem kC_yX4_fraction : Cond.code yX4_fraction cX4_fraction 7 (some .int) ∈ WW := ww_in kC_yX4_fraction_t (by decide +kernel)
theorem kl_RX4_174_t : Cond.methodLink RX4 174 yX4_divisor ∈ lw_tbl := List.mem_of_getElem? (i := 811) (by decide +kernel)
theorem kl_RX4_174 : Cond.methodLink RX4 174 yX4_divisor ∈ WW := ww_in kl_RX4_174_t (by decide +kernel)
theorem ks_yX4_divisor_t : Cond.static yX4_divisor ∈ lw_tbl := List.mem_of_getElem? (i := 812) (by decide +kernel)
theorem ks_yX4_divisor : Cond.static yX4_divisor ∈ WW := ww_in ks_yX4_divisor_t (by decide +kernel)
theorem kC_yX4_divisor_t : Cond.code yX4_divisor cX4_divisor 10 (some .long) ∈ lw_tbl := List.mem_of_getElem? (i := 813) (by decide +kernel)
theorem kC_yX4_divisor : Cond.code yX4_divisor cX4_divisor 10 (some .long) ∈ WW := ww_in kC_yX4_divisor_t (by decide +kernel)
theorem kl_RL_118_t : Cond.methodLink RL 118 yX4_saying ∈ lw_tbl := List.mem_of_getElem? (i := 814) (by decide +kernel)
theorem kl_RL_118 : Cond.methodLink RL 118 yX4_saying ∈ WW := ww_in kl_RL_118_t (by decide +kernel)
theorem ki_yX4_saying_t : Cond.instanceMethod yX4_saying ∈ lw_tbl := List.mem_of_getElem? (i := 815) (by decide +kernel)
theorem ki_yX4_saying : Cond.instanceMethod yX4_saying ∈ WW := ww_in ki_yX4_saying_t (by decide +kernel)
theorem kS_yX4_saying_t : Cond.selects RX4 yX4_saying yX4_saying ∈ lw_tbl := List.mem_of_getElem? (i := 816) (by decide +kernel)
theorem kS_yX4_saying : Cond.selects RX4 yX4_saying yX4_saying ∈ WW := ww_in kS_yX4_saying_t (by decide +kernel)
theorem kC_yX4_saying_t : Cond.code yX4_saying cX4_saying 6 (some .int) ∈ lw_tbl := List.mem_of_getElem? (i := 817) (by decide +kernel)
theorem kC_yX4_saying : Cond.code yX4_saying cX4_saying 6 (some .int) ∈ WW := ww_in kC_yX4_saying_t (by decide +kernel)
theorem kl_RX4_182_t : Cond.constantLong RX4 182 (10) ∈ lw_tbl := List.mem_of_getElem? (i := 818) (by decide +kernel)
theorem kl_RX4_182 : Cond.constantLong RX4 182 (10) ∈ WW := ww_in kl_RX4_182_t (by decide +kernel)
theorem kl_RL_123_t : Cond.methodLink RL 123 yX4_believed ∈ lw_tbl := List.mem_of_getElem? (i := 819) (by decide +kernel)
theorem kl_RL_123 : Cond.methodLink RL 123 yX4_believed ∈ WW := ww_in kl_RL_123_t (by decide +kernel)
theorem ki_yX4_believed_t : Cond.instanceMethod yX4_believed ∈ lw_tbl := List.mem_of_getElem? (i := 820) (by decide +kernel)
theorem ki_yX4_believed : Cond.instanceMethod yX4_believed ∈ WW := ww_in ki_yX4_believed_t (by decide +kernel)
theorem kS_yX4_believed_t : Cond.selects RX4 yX4_believed yX4_believed ∈ lw_tbl := List.mem_of_getElem? (i := 821) (by decide +kernel)
theorem kS_yX4_believed : Cond.selects RX4 yX4_believed yX4_believed ∈ WW := ww_in kS_yX4_believed_t (by decide +kernel)
theorem kC_yX4_believed_t : Cond.code yX4_believed cX4_believed 10 (some .int) ∈ lw_tbl := List.mem_of_getElem? (i := 822) (by decide +kernel)
theorem kC_yX4_believed : Cond.code yX4_believed cX4_believed 10 (some .int) ∈ WW := ww_in kC_yX4_believed_t (by decide +kernel)
theorem kl_RL_127_t : Cond.methodLink RL 127 yX4_chance ∈ lw_tbl := List.mem_of_getElem? (i := 823) (by decide +kernel)
theorem kl_RL_127 : Cond.methodLink RL 127 yX4_chance ∈ WW := ww_in kl_RL_127_t (by decide +kernel)
theorem ki_yX4_chance_t : Cond.instanceMethod yX4_chance ∈ lw_tbl := List.mem_of_getElem? (i := 824) (by decide +kernel)
theorem ki_yX4_chance : Cond.instanceMethod yX4_chance ∈ WW := ww_in ki_yX4_chance_t (by decide +kernel)
theorem kS_yX4_chance_t : Cond.selects RX4 yX4_chance yX4_chance ∈ lw_tbl := List.mem_of_getElem? (i := 825) (by decide +kernel)
theorem kS_yX4_chance : Cond.selects RX4 yX4_chance yX4_chance ∈ WW := ww_in kS_yX4_chance_t (by decide +kernel)
theorem kC_yX4_chance_t : Cond.code yX4_chance cX4_chance 10 (some .int) ∈ lw_tbl := List.mem_of_getElem? (i := 826) (by decide +kernel)
theorem kC_yX4_chance : Cond.code yX4_chance cX4_chance 10 (some .int) ∈ WW := ww_in kC_yX4_chance_t (by decide +kernel)
theorem kl_RL_134_t : Cond.methodLink RL 134 yX4_seed ∈ lw_tbl := List.mem_of_getElem? (i := 827) (by decide +kernel)
theorem kl_RL_134 : Cond.methodLink RL 134 yX4_seed ∈ WW := ww_in kl_RL_134_t (by decide +kernel)
theorem ki_yX4_seed_t : Cond.instanceMethod yX4_seed ∈ lw_tbl := List.mem_of_getElem? (i := 828) (by decide +kernel)
theorem ki_yX4_seed : Cond.instanceMethod yX4_seed ∈ WW := ww_in ki_yX4_seed_t (by decide +kernel)
theorem kS_yX4_seed_t : Cond.selects RX4 yX4_seed yX4_seed ∈ lw_tbl := List.mem_of_getElem? (i := 829) (by decide +kernel)
theorem kS_yX4_seed : Cond.selects RX4 yX4_seed yX4_seed ∈ WW := ww_in kS_yX4_seed_t (by decide +kernel)
theorem kC_yX4_seed_t : Cond.code yX4_seed cX4_seed 5 (some .long) ∈ lw_tbl := List.mem_of_getElem? (i := 830) (by decide +kernel)
theorem kC_yX4_seed : Cond.code yX4_seed cX4_seed 5 (some .long) ∈ WW := ww_in kC_yX4_seed_t (by decide +kernel)
theorem kl_RL_138_t : Cond.methodLink RL 138 yX4_hunted ∈ lw_tbl := List.mem_of_getElem? (i := 831) (by decide +kernel)
theorem kl_RL_138 : Cond.methodLink RL 138 yX4_hunted ∈ WW := ww_in kl_RL_138_t (by decide +kernel)
theorem ki_yX4_hunted_t : Cond.instanceMethod yX4_hunted ∈ lw_tbl := List.mem_of_getElem? (i := 832) (by decide +kernel)
theorem ki_yX4_hunted : Cond.instanceMethod yX4_hunted ∈ WW := ww_in ki_yX4_hunted_t (by decide +kernel)
theorem kS_yX4_hunted_t : Cond.selects RX4 yX4_hunted yX4_hunted ∈ lw_tbl := List.mem_of_getElem? (i := 833) (by decide +kernel)
theorem kS_yX4_hunted : Cond.selects RX4 yX4_hunted yX4_hunted ∈ WW := ww_in kS_yX4_hunted_t (by decide +kernel)
theorem kC_yX4_hunted_t : Cond.code yX4_hunted cX4_hunted 5 (some .int) ∈ lw_tbl := List.mem_of_getElem? (i := 834) (by decide +kernel)
theorem kC_yX4_hunted : Cond.code yX4_hunted cX4_hunted 5 (some .int) ∈ WW := ww_in kC_yX4_hunted_t (by decide +kernel)
theorem kl_RX4_188_t : Cond.constantLong RX4 188 (30) ∈ lw_tbl := List.mem_of_getElem? (i := 835) (by decide +kernel)
theorem kl_RX4_188 : Cond.constantLong RX4 188 (30) ∈ WW := ww_in kl_RX4_188_t (by decide +kernel)
theorem kl_RX4_190_t : Cond.constantLong RX4 190 (6364136223846793005) ∈ lw_tbl := List.mem_of_getElem? (i := 836) (by decide +kernel)
theorem kl_RX4_190 : Cond.constantLong RX4 190 (6364136223846793005) ∈ WW := ww_in kl_RX4_190_t (by decide +kernel)
theorem kl_RX4_192_t : Cond.constantLong RX4 192 (1442695040888963407) ∈ lw_tbl := List.mem_of_getElem? (i := 837) (by decide +kernel)
theorem kl_RX4_192 : Cond.constantLong RX4 192 (1442695040888963407) ∈ WW := ww_in kl_RX4_192_t (by decide +kernel)
theorem kl_RL_142_t : Cond.methodLink RL 142 yX4_keep ∈ lw_tbl := List.mem_of_getElem? (i := 838) (by decide +kernel)
theorem kl_RL_142 : Cond.methodLink RL 142 yX4_keep ∈ WW := ww_in kl_RL_142_t (by decide +kernel)
theorem ki_yX4_keep_t : Cond.instanceMethod yX4_keep ∈ lw_tbl := List.mem_of_getElem? (i := 839) (by decide +kernel)
theorem ki_yX4_keep : Cond.instanceMethod yX4_keep ∈ WW := ww_in ki_yX4_keep_t (by decide +kernel)
theorem kS_yX4_keep_t : Cond.selects RX4 yX4_keep yX4_keep ∈ lw_tbl := List.mem_of_getElem? (i := 840) (by decide +kernel)
theorem kS_yX4_keep : Cond.selects RX4 yX4_keep yX4_keep ∈ WW := ww_in kS_yX4_keep_t (by decide +kernel)
theorem kC_yX4_keep_t : Cond.code yX4_keep cX4_keep 3 (some .int) ∈ lw_tbl := List.mem_of_getElem? (i := 841) (by decide +kernel)
theorem kC_yX4_keep : Cond.code yX4_keep cX4_keep 3 (some .int) ∈ WW := ww_in kC_yX4_keep_t (by decide +kernel)
theorem kl_RL_146_t : Cond.methodLink RL 146 yX4_again ∈ lw_tbl := List.mem_of_getElem? (i := 842) (by decide +kernel)
theorem kl_RL_146 : Cond.methodLink RL 146 yX4_again ∈ WW := ww_in kl_RL_146_t (by decide +kernel)
theorem ki_yX4_again_t : Cond.instanceMethod yX4_again ∈ lw_tbl := List.mem_of_getElem? (i := 843) (by decide +kernel)
theorem ki_yX4_again : Cond.instanceMethod yX4_again ∈ WW := ww_in ki_yX4_again_t (by decide +kernel)
theorem kS_yX4_again_t : Cond.selects RX4 yX4_again yX4_again ∈ lw_tbl := List.mem_of_getElem? (i := 844) (by decide +kernel)
theorem kS_yX4_again : Cond.selects RX4 yX4_again yX4_again ∈ WW := ww_in kS_yX4_again_t (by decide +kernel)
theorem kC_yX4_again_t : Cond.code yX4_again cX4_again 3 (some .int) ∈ lw_tbl := List.mem_of_getElem? (i := 845) (by decide +kernel)
theorem kC_yX4_again : Cond.code yX4_again cX4_again 3 (some .int) ∈ WW := ww_in kC_yX4_again_t (by decide +kernel)
theorem kl_RL_128_t : Cond.constantLong RL 128 (4294967295) ∈ lw_tbl := List.mem_of_getElem? (i := 846) (by decide +kernel)
theorem kl_RL_128 : Cond.constantLong RL 128 (4294967295) ∈ WW := ww_in kl_RL_128_t (by decide +kernel)
theorem kS_yX2_append_t : Cond.selects RX2 yX2_append yX2_append ∈ lw_tbl := List.mem_of_getElem? (i := 0) (by decide +kernel)
theorem kS_yX2_append : Cond.selects RX2 yX2_append yX2_append ∈ WW := ww_in kS_yX2_append_t (by decide +kernel)
theorem kS_yX2_firstFault_t : Cond.selects RX2 yX2_firstFault yX2_firstFault ∈ lw_tbl := List.mem_of_getElem? (i := 1) (by decide +kernel)
theorem kS_yX2_firstFault : Cond.selects RX2 yX2_firstFault yX2_firstFault ∈ WW := ww_in kS_yX2_firstFault_t (by decide +kernel)
theorem kS_yX2_fitsAt_t : Cond.selects RX2 yX2_fitsAt yX2_fitsAt ∈ lw_tbl := List.mem_of_getElem? (i := 2) (by decide +kernel)
theorem kS_yX2_fitsAt : Cond.selects RX2 yX2_fitsAt yX2_fitsAt ∈ WW := ww_in kS_yX2_fitsAt_t (by decide +kernel)
theorem kS_yX2_areWeightsNothing_t : Cond.selects RX2 yX2_areWeightsNothing yX2_areWeightsNothing ∈ lw_tbl := List.mem_of_getElem? (i := 3) (by decide +kernel)
theorem kS_yX2_areWeightsNothing : Cond.selects RX2 yX2_areWeightsNothing yX2_areWeightsNothing ∈ WW := ww_in kS_yX2_areWeightsNothing_t (by decide +kernel)
theorem kS_yX2_weight_t : Cond.selects RX2 yX2_weight yX2_weight ∈ lw_tbl := List.mem_of_getElem? (i := 4) (by decide +kernel)
theorem kS_yX2_weight : Cond.selects RX2 yX2_weight yX2_weight ∈ WW := ww_in kS_yX2_weight_t (by decide +kernel)
theorem kS_yX1_readFrom_t : Cond.selects RX1 yX1_readFrom yX1_readFrom ∈ lw_tbl := List.mem_of_getElem? (i := 5) (by decide +kernel)
theorem kS_yX1_readFrom : Cond.selects RX1 yX1_readFrom yX1_readFrom ∈ WW := ww_in kS_yX1_readFrom_t (by decide +kernel)
theorem kS_yX2_peopleTold_t : Cond.selects RX2 yX2_peopleTold yX2_peopleTold ∈ lw_tbl := List.mem_of_getElem? (i := 6) (by decide +kernel)
theorem kS_yX2_peopleTold : Cond.selects RX2 yX2_peopleTold yX2_peopleTold ∈ WW := ww_in kS_yX2_peopleTold_t (by decide +kernel)
theorem kS_yX2_figureOf_t : Cond.selects RX2 yX2_figureOf yX2_figureOf ∈ lw_tbl := List.mem_of_getElem? (i := 7) (by decide +kernel)
theorem kS_yX2_figureOf : Cond.selects RX2 yX2_figureOf yX2_figureOf ∈ WW := ww_in kS_yX2_figureOf_t (by decide +kernel)
theorem kS_yX1_everybody_t : Cond.selects RX1 yX1_everybody yX1_everybody ∈ lw_tbl := List.mem_of_getElem? (i := 8) (by decide +kernel)
theorem kS_yX1_everybody : Cond.selects RX1 yX1_everybody yX1_everybody ∈ WW := ww_in kS_yX1_everybody_t (by decide +kernel)
theorem kS_yX3_forgetActs_t : Cond.selects RX3 yX3_forgetActs yX3_forgetActs ∈ lw_tbl := List.mem_of_getElem? (i := 9) (by decide +kernel)
theorem kS_yX3_forgetActs : Cond.selects RX3 yX3_forgetActs yX3_forgetActs ∈ WW := ww_in kS_yX3_forgetActs_t (by decide +kernel)
theorem kS_yX1_fairestOf_t : Cond.selects RX1 yX1_fairestOf yX1_fairestOf ∈ lw_tbl := List.mem_of_getElem? (i := 10) (by decide +kernel)
theorem kS_yX1_fairestOf : Cond.selects RX1 yX1_fairestOf yX1_fairestOf ∈ WW := ww_in kS_yX1_fairestOf_t (by decide +kernel)
theorem kS_yX1_valueOf_t : Cond.selects RX1 yX1_valueOf yX1_valueOf ∈ lw_tbl := List.mem_of_getElem? (i := 11) (by decide +kernel)
theorem kS_yX1_valueOf : Cond.selects RX1 yX1_valueOf yX1_valueOf ∈ WW := ww_in kS_yX1_valueOf_t (by decide +kernel)
theorem kS_yX1_weightsAsFigures_t : Cond.selects RX1 yX1_weightsAsFigures yX1_weightsAsFigures ∈ lw_tbl := List.mem_of_getElem? (i := 12) (by decide +kernel)
theorem kS_yX1_weightsAsFigures : Cond.selects RX1 yX1_weightsAsFigures yX1_weightsAsFigures ∈ WW := ww_in kS_yX1_weightsAsFigures_t (by decide +kernel)
theorem kS_yX1_has_t : Cond.selects RX1 yX1_has yX1_has ∈ lw_tbl := List.mem_of_getElem? (i := 13) (by decide +kernel)
theorem kS_yX1_has : Cond.selects RX1 yX1_has yX1_has ∈ WW := ww_in kS_yX1_has_t (by decide +kernel)
theorem kS_yX1_isAlive_t : Cond.selects RX1 yX1_isAlive yX1_isAlive ∈ lw_tbl := List.mem_of_getElem? (i := 14) (by decide +kernel)
theorem kS_yX1_isAlive : Cond.selects RX1 yX1_isAlive yX1_isAlive ∈ WW := ww_in kS_yX1_isAlive_t (by decide +kernel)
theorem kS_yX1_isReported_t : Cond.selects RX1 yX1_isReported yX1_isReported ∈ lw_tbl := List.mem_of_getElem? (i := 15) (by decide +kernel)
theorem kS_yX1_isReported : Cond.selects RX1 yX1_isReported yX1_isReported ∈ WW := ww_in kS_yX1_isReported_t (by decide +kernel)
theorem kS_yX3_rememberAct_t : Cond.selects RX3 yX3_rememberAct yX3_rememberAct ∈ lw_tbl := List.mem_of_getElem? (i := 16) (by decide +kernel)
theorem kS_yX3_rememberAct : Cond.selects RX3 yX3_rememberAct yX3_rememberAct ∈ WW := ww_in kS_yX3_rememberAct_t (by decide +kernel)
theorem kS_yX1_packInto_t : Cond.selects RX1 yX1_packInto yX1_packInto ∈ lw_tbl := List.mem_of_getElem? (i := 17) (by decide +kernel)
theorem kS_yX1_packInto : Cond.selects RX1 yX1_packInto yX1_packInto ∈ WW := ww_in kS_yX1_packInto_t (by decide +kernel)
theorem kS_yX1_passMorning_t : Cond.selects RX1 yX1_passMorning yX1_passMorning ∈ lw_tbl := List.mem_of_getElem? (i := 18) (by decide +kernel)
theorem kS_yX1_passMorning : Cond.selects RX1 yX1_passMorning yX1_passMorning ∈ WW := ww_in kS_yX1_passMorning_t (by decide +kernel)
theorem kS_yX1_leastOf_t : Cond.selects RX1 yX1_leastOf yX1_leastOf ∈ lw_tbl := List.mem_of_getElem? (i := 19) (by decide +kernel)
theorem kS_yX1_leastOf : Cond.selects RX1 yX1_leastOf yX1_leastOf ∈ WW := ww_in kS_yX1_leastOf_t (by decide +kernel)
theorem kS_yX1_weighFearOf_t : Cond.selects RX1 yX1_weighFearOf yX1_weighFearOf ∈ lw_tbl := List.mem_of_getElem? (i := 20) (by decide +kernel)
theorem kS_yX1_weighFearOf : Cond.selects RX1 yX1_weighFearOf yX1_weighFearOf ∈ WW := ww_in kS_yX1_weighFearOf_t (by decide +kernel)
theorem kS_yX1_passYear_t : Cond.selects RX1 yX1_passYear yX1_passYear ∈ lw_tbl := List.mem_of_getElem? (i := 21) (by decide +kernel)
theorem kS_yX1_passYear : Cond.selects RX1 yX1_passYear yX1_passYear ∈ WW := ww_in kS_yX1_passYear_t (by decide +kernel)
theorem kS_yX1_aliveCount_t : Cond.selects RX1 yX1_aliveCount yX1_aliveCount ∈ lw_tbl := List.mem_of_getElem? (i := 22) (by decide +kernel)
theorem kS_yX1_aliveCount : Cond.selects RX1 yX1_aliveCount yX1_aliveCount ∈ WW := ww_in kS_yX1_aliveCount_t (by decide +kernel)
theorem kS_yX1_unpackFrom_t : Cond.selects RX1 yX1_unpackFrom yX1_unpackFrom ∈ lw_tbl := List.mem_of_getElem? (i := 23) (by decide +kernel)
theorem kS_yX1_unpackFrom : Cond.selects RX1 yX1_unpackFrom yX1_unpackFrom ∈ WW := ww_in kS_yX1_unpackFrom_t (by decide +kernel)
theorem kS_yX1_copyFrom_t : Cond.selects RX1 yX1_copyFrom yX1_copyFrom ∈ lw_tbl := List.mem_of_getElem? (i := 24) (by decide +kernel)
theorem kS_yX1_copyFrom : Cond.selects RX1 yX1_copyFrom yX1_copyFrom ∈ WW := ww_in kS_yX1_copyFrom_t (by decide +kernel)
theorem kS_yX3_countWorlds_t : Cond.selects RX3 yX3_countWorlds yX3_countWorlds ∈ lw_tbl := List.mem_of_getElem? (i := 25) (by decide +kernel)
theorem kS_yX3_countWorlds : Cond.selects RX3 yX3_countWorlds yX3_countWorlds ∈ WW := ww_in kS_yX3_countWorlds_t (by decide +kernel)
theorem kS_yX3_isWorld_t : Cond.selects RX3 yX3_isWorld yX3_isWorld ∈ lw_tbl := List.mem_of_getElem? (i := 26) (by decide +kernel)
theorem kS_yX3_isWorld : Cond.selects RX3 yX3_isWorld yX3_isWorld ∈ WW := ww_in kS_yX3_isWorld_t (by decide +kernel)
theorem kS_yX3_fitsHeard_t : Cond.selects RX3 yX3_fitsHeard yX3_fitsHeard ∈ lw_tbl := List.mem_of_getElem? (i := 27) (by decide +kernel)
theorem kS_yX3_fitsHeard : Cond.selects RX3 yX3_fitsHeard yX3_fitsHeard ∈ WW := ww_in kS_yX3_fitsHeard_t (by decide +kernel)
theorem kS_yX3_refuseChooser_t : Cond.selects RX3 yX3_refuseChooser yX3_refuseChooser ∈ lw_tbl := List.mem_of_getElem? (i := 28) (by decide +kernel)
theorem kS_yX3_refuseChooser : Cond.selects RX3 yX3_refuseChooser yX3_refuseChooser ∈ WW := ww_in kS_yX3_refuseChooser_t (by decide +kernel)
theorem kS_yX0_solve_t : Cond.selects RX0 yX0_solve yX0_solve ∈ lw_tbl := List.mem_of_getElem? (i := 29) (by decide +kernel)
theorem kS_yX0_solve : Cond.selects RX0 yX0_solve yX0_solve ∈ WW := ww_in kS_yX0_solve_t (by decide +kernel)
theorem kS_yX0_meet_t : Cond.selects RX0 yX0_meet yX0_meet ∈ lw_tbl := List.mem_of_getElem? (i := 30) (by decide +kernel)
theorem kS_yX0_meet : Cond.selects RX0 yX0_meet yX0_meet ∈ WW := ww_in kS_yX0_meet_t (by decide +kernel)
theorem kS_yX1_valueIfPlain_t : Cond.selects RX1 yX1_valueIfPlain yX1_valueIfPlain ∈ lw_tbl := List.mem_of_getElem? (i := 31) (by decide +kernel)
theorem kS_yX1_valueIfPlain : Cond.selects RX1 yX1_valueIfPlain yX1_valueIfPlain ∈ WW := ww_in kS_yX1_valueIfPlain_t (by decide +kernel)
theorem kS_yX0_bestEnd_t : Cond.selects RX0 yX0_bestEnd yX0_bestEnd ∈ lw_tbl := List.mem_of_getElem? (i := 32) (by decide +kernel)
theorem kS_yX0_bestEnd : Cond.selects RX0 yX0_bestEnd yX0_bestEnd ∈ WW := ww_in kS_yX0_bestEnd_t (by decide +kernel)
theorem kS_yX0_worthAt_t : Cond.selects RX0 yX0_worthAt yX0_worthAt ∈ lw_tbl := List.mem_of_getElem? (i := 33) (by decide +kernel)
theorem kS_yX0_worthAt : Cond.selects RX0 yX0_worthAt yX0_worthAt ∈ WW := ww_in kS_yX0_worthAt_t (by decide +kernel)
theorem kS_yX0_valueAt_t : Cond.selects RX0 yX0_valueAt yX0_valueAt ∈ lw_tbl := List.mem_of_getElem? (i := 34) (by decide +kernel)
theorem kS_yX0_valueAt : Cond.selects RX0 yX0_valueAt yX0_valueAt ∈ WW := ww_in kS_yX0_valueAt_t (by decide +kernel)
theorem kS_yX0_choiceAt_t : Cond.selects RX0 yX0_choiceAt yX0_choiceAt ∈ lw_tbl := List.mem_of_getElem? (i := 35) (by decide +kernel)
theorem kS_yX0_choiceAt : Cond.selects RX0 yX0_choiceAt yX0_choiceAt ∈ WW := ww_in kS_yX0_choiceAt_t (by decide +kernel)
theorem kS_yX0_choiceOf_t : Cond.selects RX0 yX0_choiceOf yX0_choiceOf ∈ lw_tbl := List.mem_of_getElem? (i := 36) (by decide +kernel)
theorem kS_yX0_choiceOf : Cond.selects RX0 yX0_choiceOf yX0_choiceOf ∈ WW := ww_in kS_yX0_choiceOf_t (by decide +kernel)
theorem kS_yX0_endOf_t : Cond.selects RX0 yX0_endOf yX0_endOf ∈ lw_tbl := List.mem_of_getElem? (i := 37) (by decide +kernel)
theorem kS_yX0_endOf : Cond.selects RX0 yX0_endOf yX0_endOf ∈ WW := ww_in kS_yX0_endOf_t (by decide +kernel)
theorem kS_yX3_refuseDead_t : Cond.selects RX3 yX3_refuseDead yX3_refuseDead ∈ lw_tbl := List.mem_of_getElem? (i := 38) (by decide +kernel)
theorem kS_yX3_refuseDead : Cond.selects RX3 yX3_refuseDead yX3_refuseDead ∈ WW := ww_in kS_yX3_refuseDead_t (by decide +kernel)
theorem kS_yX1_weighBy_t : Cond.selects RX1 yX1_weighBy yX1_weighBy ∈ lw_tbl := List.mem_of_getElem? (i := 39) (by decide +kernel)
theorem kS_yX1_weighBy : Cond.selects RX1 yX1_weighBy yX1_weighBy ∈ WW := ww_in kS_yX1_weighBy_t (by decide +kernel)
theorem kS_yX1_isFairestAlone_t : Cond.selects RX1 yX1_isFairestAlone yX1_isFairestAlone ∈ lw_tbl := List.mem_of_getElem? (i := 40) (by decide +kernel)
theorem kS_yX1_isFairestAlone : Cond.selects RX1 yX1_isFairestAlone yX1_isFairestAlone ∈ WW := ww_in kS_yX1_isFairestAlone_t (by decide +kernel)
theorem kS_yX1_weightsApartFrom_t : Cond.selects RX1 yX1_weightsApartFrom yX1_weightsApartFrom ∈ lw_tbl := List.mem_of_getElem? (i := 41) (by decide +kernel)
theorem kS_yX1_weightsApartFrom : Cond.selects RX1 yX1_weightsApartFrom yX1_weightsApartFrom ∈ WW := ww_in kS_yX1_weightsApartFrom_t (by decide +kernel)
theorem kS_yX3_namingIfRight_t : Cond.selects RX3 yX3_namingIfRight yX3_namingIfRight ∈ lw_tbl := List.mem_of_getElem? (i := 42) (by decide +kernel)
theorem kS_yX3_namingIfRight : Cond.selects RX3 yX3_namingIfRight yX3_namingIfRight ∈ WW := ww_in kS_yX3_namingIfRight_t (by decide +kernel)
theorem kS_yX3_likelihoodOf_t : Cond.selects RX3 yX3_likelihoodOf yX3_likelihoodOf ∈ lw_tbl := List.mem_of_getElem? (i := 43) (by decide +kernel)
theorem kS_yX3_likelihoodOf : Cond.selects RX3 yX3_likelihoodOf yX3_likelihoodOf ∈ WW := ww_in kS_yX3_likelihoodOf_t (by decide +kernel)
theorem kS_yX4_readCourt_t : Cond.selects RX4 yX4_readCourt yX4_readCourt ∈ lw_tbl := List.mem_of_getElem? (i := 44) (by decide +kernel)
theorem kS_yX4_readCourt : Cond.selects RX4 yX4_readCourt yX4_readCourt ∈ WW := ww_in kS_yX4_readCourt_t (by decide +kernel)
theorem kS_yX4_figure_t : Cond.selects RX4 yX4_figure yX4_figure ∈ lw_tbl := List.mem_of_getElem? (i := 45) (by decide +kernel)
theorem kS_yX4_figure : Cond.selects RX4 yX4_figure yX4_figure ∈ WW := ww_in kS_yX4_figure_t (by decide +kernel)
theorem kS_yX4_readPerson_t : Cond.selects RX4 yX4_readPerson yX4_readPerson ∈ lw_tbl := List.mem_of_getElem? (i := 46) (by decide +kernel)
theorem kS_yX4_readPerson : Cond.selects RX4 yX4_readPerson yX4_readPerson ∈ WW := ww_in kS_yX4_readPerson_t (by decide +kernel)
theorem kS_yX4_fairest_t : Cond.selects RX4 yX4_fairest yX4_fairest ∈ lw_tbl := List.mem_of_getElem? (i := 47) (by decide +kernel)
theorem kS_yX4_fairest : Cond.selects RX4 yX4_fairest yX4_fairest ∈ WW := ww_in kS_yX4_fairest_t (by decide +kernel)
theorem kS_yX4_fairestOf_t : Cond.selects RX4 yX4_fairestOf yX4_fairestOf ∈ lw_tbl := List.mem_of_getElem? (i := 48) (by decide +kernel)
theorem kS_yX4_fairestOf : Cond.selects RX4 yX4_fairestOf yX4_fairestOf ∈ WW := ww_in kS_yX4_fairestOf_t (by decide +kernel)
theorem kS_yX4_noOne_t : Cond.selects RX4 yX4_noOne yX4_noOne ∈ lw_tbl := List.mem_of_getElem? (i := 49) (by decide +kernel)
theorem kS_yX4_noOne : Cond.selects RX4 yX4_noOne yX4_noOne ∈ WW := ww_in kS_yX4_noOne_t (by decide +kernel)
theorem kS_yX4_note_t : Cond.selects RX4 yX4_note yX4_note ∈ lw_tbl := List.mem_of_getElem? (i := 50) (by decide +kernel)
theorem kS_yX4_note : Cond.selects RX4 yX4_note yX4_note ∈ WW := ww_in kS_yX4_note_t (by decide +kernel)
theorem kS_yX4_goMorning_t : Cond.selects RX4 yX4_goMorning yX4_goMorning ∈ lw_tbl := List.mem_of_getElem? (i := 51) (by decide +kernel)
theorem kS_yX4_goMorning : Cond.selects RX4 yX4_goMorning yX4_goMorning ∈ WW := ww_in kS_yX4_goMorning_t (by decide +kernel)
theorem kS_yX4_goYear_t : Cond.selects RX4 yX4_goYear yX4_goYear ∈ lw_tbl := List.mem_of_getElem? (i := 52) (by decide +kernel)
theorem kS_yX4_goYear : Cond.selects RX4 yX4_goYear yX4_goYear ∈ WW := ww_in kS_yX4_goYear_t (by decide +kernel)
theorem kS_yX4_begin_t : Cond.selects RX4 yX4_begin yX4_begin ∈ lw_tbl := List.mem_of_getElem? (i := 53) (by decide +kernel)
theorem kS_yX4_begin : Cond.selects RX4 yX4_begin yX4_begin ∈ WW := ww_in kS_yX4_begin_t (by decide +kernel)
theorem kS_yX4_laySets_t : Cond.selects RX4 yX4_laySets yX4_laySets ∈ lw_tbl := List.mem_of_getElem? (i := 54) (by decide +kernel)
theorem kS_yX4_laySets : Cond.selects RX4 yX4_laySets yX4_laySets ∈ WW := ww_in kS_yX4_laySets_t (by decide +kernel)
theorem kS_yX4_chooserOf_t : Cond.selects RX4 yX4_chooserOf yX4_chooserOf ∈ lw_tbl := List.mem_of_getElem? (i := 55) (by decide +kernel)
theorem kS_yX4_chooserOf : Cond.selects RX4 yX4_chooserOf yX4_chooserOf ∈ WW := ww_in kS_yX4_chooserOf_t (by decide +kernel)
theorem kS_yX4_findRow_t : Cond.selects RX4 yX4_findRow yX4_findRow ∈ lw_tbl := List.mem_of_getElem? (i := 56) (by decide +kernel)
theorem kS_yX4_findRow : Cond.selects RX4 yX4_findRow yX4_findRow ∈ WW := ww_in kS_yX4_findRow_t (by decide +kernel)
theorem kS_yX4_worthIn_t : Cond.selects RX4 yX4_worthIn yX4_worthIn ∈ lw_tbl := List.mem_of_getElem? (i := 57) (by decide +kernel)
theorem kS_yX4_worthIn : Cond.selects RX4 yX4_worthIn yX4_worthIn ∈ WW := ww_in kS_yX4_worthIn_t (by decide +kernel)
theorem kS_yX4_plainIn_t : Cond.selects RX4 yX4_plainIn yX4_plainIn ∈ lw_tbl := List.mem_of_getElem? (i := 58) (by decide +kernel)
theorem kS_yX4_plainIn : Cond.selects RX4 yX4_plainIn yX4_plainIn ∈ WW := ww_in kS_yX4_plainIn_t (by decide +kernel)
theorem kS_yX4_isAlone_t : Cond.selects RX4 yX4_isAlone yX4_isAlone ∈ lw_tbl := List.mem_of_getElem? (i := 59) (by decide +kernel)
theorem kS_yX4_isAlone : Cond.selects RX4 yX4_isAlone yX4_isAlone ∈ WW := ww_in kS_yX4_isAlone_t (by decide +kernel)
/-- links to nest mates: carried apart -/
def xNst : List Cond := [Cond.methodLinkNest RX3 9 yX2_init "WallMirror", Cond.fieldLinkNest RX3 64 "WallMirror$Text" "length" "I" "WallMirror", Cond.methodLinkNest RX3 18 yX1_init "WallMirror", Cond.fieldLinkNest RX0 45 "WallMirror$Court" "people" "I" "WallMirror", Cond.fieldLinkNest RX3 82 "WallMirror$Court" "people" "I" "WallMirror", Cond.fieldLinkNest RX3 108 "WallMirror$Court" "marks" "[I" "WallMirror", Cond.fieldLinkNest RX3 111 "WallMirror$Court" "ageing" "[I" "WallMirror", Cond.fieldLinkNest RX3 85 "WallMirror$Court" "alive" "I" "WallMirror", Cond.fieldLinkNest RX3 88 "WallMirror$Court" "reported" "I" "WallMirror", Cond.fieldLinkNest RX3 95 "WallMirror$Court" "mornings" "I" "WallMirror", Cond.fieldLinkNest RX3 98 "WallMirror$Court" "years" "I" "WallMirror", Cond.methodLinkNest RX3 28 yX0_init "WallMirror", Cond.methodLinkNest RX3 67 yX2_append "WallMirror", Cond.methodLinkNest RX3 71 yX2_firstFault "WallMirror", Cond.methodLinkNest RX3 75 yX1_readFrom "WallMirror", Cond.methodLinkNest RX1 37 yX2_peopleTold "WallMirror", Cond.methodLinkNest RX1 49 yX2_weight "WallMirror", Cond.methodLinkNest RX1 53 yX2_figureOf "WallMirror", Cond.methodLinkNest RX3 91 yX1_fairestOf "WallMirror", Cond.methodLinkNest RX3 101 yX1_weightsAsFigures "WallMirror", Cond.methodLinkNest RX3 104 yX1_has "WallMirror", Cond.methodLinkNest RX3 114 yX1_isAlive "WallMirror", Cond.methodLinkNest RX3 117 yX1_isReported "WallMirror", Cond.methodLinkNest RX3 120 yX1_valueOf "WallMirror", Cond.methodLinkNest RX3 217 yX1_packInto "WallMirror", Cond.methodLinkNest RX3 126 yX1_passMorning "WallMirror", Cond.methodLinkNest RX3 129 yX1_passYear "WallMirror", Cond.methodLinkNest RX3 132 yX1_aliveCount "WallMirror", Cond.methodLinkNest RX3 135 yX1_unpackFrom "WallMirror", Cond.methodLinkNest RX3 139 yX1_copyFrom "WallMirror", Cond.methodLinkNest RX3 152 yX1_everybody "WallMirror", Cond.methodLinkNest RX3 172 yX0_solve "WallMirror", Cond.methodLinkNest RX0 39 yX1_valueOf "WallMirror", Cond.methodLinkNest RX0 48 yX1_isAlive "WallMirror", Cond.methodLinkNest RX0 52 yX1_valueIfPlain "WallMirror", Cond.methodLinkNest RX3 175 yX0_choiceOf "WallMirror", Cond.methodLinkNest RX3 178 yX0_endOf "WallMirror", Cond.methodLinkNest RX3 184 yX1_weighBy "WallMirror", Cond.methodLinkNest RX3 187 yX1_isFairestAlone "WallMirror", Cond.methodLinkNest RX3 190 yX1_weightsApartFrom "WallMirror", Cond.methodLinkNest RX3 201 yX1_leastOf "WallMirror"]
theorem xNst_in : ∀ w ∈ xNst, w ∈ lw_tbl := by
  intro w hw
  simp only [xNst, List.mem_cons, List.not_mem_nil, or_false] at hw
  rcases hw with rfl | rfl | rfl | rfl | rfl | rfl | rfl | rfl | rfl | rfl | rfl | rfl | rfl | rfl | rfl | rfl | rfl | rfl | rfl | rfl | rfl | rfl | rfl | rfl | rfl | rfl | rfl | rfl | rfl | rfl | rfl | rfl | rfl | rfl | rfl | rfl | rfl | rfl | rfl | rfl | rfl
  · exact List.mem_of_getElem? (i := 79) (by decide +kernel)
  · exact List.mem_of_getElem? (i := 85) (by decide +kernel)
  · exact List.mem_of_getElem? (i := 94) (by decide +kernel)
  · exact List.mem_of_getElem? (i := 99) (by decide +kernel)
  · exact List.mem_of_getElem? (i := 100) (by decide +kernel)
  · exact List.mem_of_getElem? (i := 103) (by decide +kernel)
  · exact List.mem_of_getElem? (i := 105) (by decide +kernel)
  · exact List.mem_of_getElem? (i := 107) (by decide +kernel)
  · exact List.mem_of_getElem? (i := 109) (by decide +kernel)
  · exact List.mem_of_getElem? (i := 111) (by decide +kernel)
  · exact List.mem_of_getElem? (i := 113) (by decide +kernel)
  · exact List.mem_of_getElem? (i := 133) (by decide +kernel)
  · exact List.mem_of_getElem? (i := 198) (by decide +kernel)
  · exact List.mem_of_getElem? (i := 210) (by decide +kernel)
  · exact List.mem_of_getElem? (i := 230) (by decide +kernel)
  · exact List.mem_of_getElem? (i := 234) (by decide +kernel)
  · exact List.mem_of_getElem? (i := 244) (by decide +kernel)
  · exact List.mem_of_getElem? (i := 245) (by decide +kernel)
  · exact List.mem_of_getElem? (i := 261) (by decide +kernel)
  · exact List.mem_of_getElem? (i := 269) (by decide +kernel)
  · exact List.mem_of_getElem? (i := 277) (by decide +kernel)
  · exact List.mem_of_getElem? (i := 281) (by decide +kernel)
  · exact List.mem_of_getElem? (i := 285) (by decide +kernel)
  · exact List.mem_of_getElem? (i := 289) (by decide +kernel)
  · exact List.mem_of_getElem? (i := 298) (by decide +kernel)
  · exact List.mem_of_getElem? (i := 306) (by decide +kernel)
  · exact List.mem_of_getElem? (i := 323) (by decide +kernel)
  · exact List.mem_of_getElem? (i := 337) (by decide +kernel)
  · exact List.mem_of_getElem? (i := 351) (by decide +kernel)
  · exact List.mem_of_getElem? (i := 359) (by decide +kernel)
  · exact List.mem_of_getElem? (i := 380) (by decide +kernel)
  · exact List.mem_of_getElem? (i := 406) (by decide +kernel)
  · exact List.mem_of_getElem? (i := 414) (by decide +kernel)
  · exact List.mem_of_getElem? (i := 415) (by decide +kernel)
  · exact List.mem_of_getElem? (i := 416) (by decide +kernel)
  · exact List.mem_of_getElem? (i := 438) (by decide +kernel)
  · exact List.mem_of_getElem? (i := 446) (by decide +kernel)
  · exact List.mem_of_getElem? (i := 458) (by decide +kernel)
  · exact List.mem_of_getElem? (i := 462) (by decide +kernel)
  · exact List.mem_of_getElem? (i := 470) (by decide +kernel)
  · exact List.mem_of_getElem? (i := 502) (by decide +kernel)
theorem kl_RX3_9 : Cond.methodLinkNest RX3 9 yX2_init "WallMirror" ∈ xNst := List.mem_of_getElem? (i := 0) rfl
theorem kl_RX3_64 : Cond.fieldLinkNest RX3 64 "WallMirror$Text" "length" "I" "WallMirror" ∈ xNst := List.mem_of_getElem? (i := 1) rfl
theorem kl_RX3_18 : Cond.methodLinkNest RX3 18 yX1_init "WallMirror" ∈ xNst := List.mem_of_getElem? (i := 2) rfl
theorem kl_RX0_45 : Cond.fieldLinkNest RX0 45 "WallMirror$Court" "people" "I" "WallMirror" ∈ xNst := List.mem_of_getElem? (i := 3) rfl
theorem kl_RX3_82 : Cond.fieldLinkNest RX3 82 "WallMirror$Court" "people" "I" "WallMirror" ∈ xNst := List.mem_of_getElem? (i := 4) rfl
theorem kl_RX3_108 : Cond.fieldLinkNest RX3 108 "WallMirror$Court" "marks" "[I" "WallMirror" ∈ xNst := List.mem_of_getElem? (i := 5) rfl
theorem kl_RX3_111 : Cond.fieldLinkNest RX3 111 "WallMirror$Court" "ageing" "[I" "WallMirror" ∈ xNst := List.mem_of_getElem? (i := 6) rfl
theorem kl_RX3_85 : Cond.fieldLinkNest RX3 85 "WallMirror$Court" "alive" "I" "WallMirror" ∈ xNst := List.mem_of_getElem? (i := 7) rfl
theorem kl_RX3_88 : Cond.fieldLinkNest RX3 88 "WallMirror$Court" "reported" "I" "WallMirror" ∈ xNst := List.mem_of_getElem? (i := 8) rfl
theorem kl_RX3_95 : Cond.fieldLinkNest RX3 95 "WallMirror$Court" "mornings" "I" "WallMirror" ∈ xNst := List.mem_of_getElem? (i := 9) rfl
theorem kl_RX3_98 : Cond.fieldLinkNest RX3 98 "WallMirror$Court" "years" "I" "WallMirror" ∈ xNst := List.mem_of_getElem? (i := 10) rfl
theorem kl_RX3_28 : Cond.methodLinkNest RX3 28 yX0_init "WallMirror" ∈ xNst := List.mem_of_getElem? (i := 11) rfl
theorem kl_RX3_67 : Cond.methodLinkNest RX3 67 yX2_append "WallMirror" ∈ xNst := List.mem_of_getElem? (i := 12) rfl
theorem kl_RX3_71 : Cond.methodLinkNest RX3 71 yX2_firstFault "WallMirror" ∈ xNst := List.mem_of_getElem? (i := 13) rfl
theorem kl_RX3_75 : Cond.methodLinkNest RX3 75 yX1_readFrom "WallMirror" ∈ xNst := List.mem_of_getElem? (i := 14) rfl
theorem kl_RX1_37 : Cond.methodLinkNest RX1 37 yX2_peopleTold "WallMirror" ∈ xNst := List.mem_of_getElem? (i := 15) rfl
theorem kl_RX1_49 : Cond.methodLinkNest RX1 49 yX2_weight "WallMirror" ∈ xNst := List.mem_of_getElem? (i := 16) rfl
theorem kl_RX1_53 : Cond.methodLinkNest RX1 53 yX2_figureOf "WallMirror" ∈ xNst := List.mem_of_getElem? (i := 17) rfl
theorem kl_RX3_91 : Cond.methodLinkNest RX3 91 yX1_fairestOf "WallMirror" ∈ xNst := List.mem_of_getElem? (i := 18) rfl
theorem kl_RX3_101 : Cond.methodLinkNest RX3 101 yX1_weightsAsFigures "WallMirror" ∈ xNst := List.mem_of_getElem? (i := 19) rfl
theorem kl_RX3_104 : Cond.methodLinkNest RX3 104 yX1_has "WallMirror" ∈ xNst := List.mem_of_getElem? (i := 20) rfl
theorem kl_RX3_114 : Cond.methodLinkNest RX3 114 yX1_isAlive "WallMirror" ∈ xNst := List.mem_of_getElem? (i := 21) rfl
theorem kl_RX3_117 : Cond.methodLinkNest RX3 117 yX1_isReported "WallMirror" ∈ xNst := List.mem_of_getElem? (i := 22) rfl
theorem kl_RX3_120 : Cond.methodLinkNest RX3 120 yX1_valueOf "WallMirror" ∈ xNst := List.mem_of_getElem? (i := 23) rfl
theorem kl_RX3_217 : Cond.methodLinkNest RX3 217 yX1_packInto "WallMirror" ∈ xNst := List.mem_of_getElem? (i := 24) rfl
theorem kl_RX3_126 : Cond.methodLinkNest RX3 126 yX1_passMorning "WallMirror" ∈ xNst := List.mem_of_getElem? (i := 25) rfl
theorem kl_RX3_129 : Cond.methodLinkNest RX3 129 yX1_passYear "WallMirror" ∈ xNst := List.mem_of_getElem? (i := 26) rfl
theorem kl_RX3_132 : Cond.methodLinkNest RX3 132 yX1_aliveCount "WallMirror" ∈ xNst := List.mem_of_getElem? (i := 27) rfl
theorem kl_RX3_135 : Cond.methodLinkNest RX3 135 yX1_unpackFrom "WallMirror" ∈ xNst := List.mem_of_getElem? (i := 28) rfl
theorem kl_RX3_139 : Cond.methodLinkNest RX3 139 yX1_copyFrom "WallMirror" ∈ xNst := List.mem_of_getElem? (i := 29) rfl
theorem kl_RX3_152 : Cond.methodLinkNest RX3 152 yX1_everybody "WallMirror" ∈ xNst := List.mem_of_getElem? (i := 30) rfl
theorem kl_RX3_172 : Cond.methodLinkNest RX3 172 yX0_solve "WallMirror" ∈ xNst := List.mem_of_getElem? (i := 31) rfl
theorem kl_RX0_39 : Cond.methodLinkNest RX0 39 yX1_valueOf "WallMirror" ∈ xNst := List.mem_of_getElem? (i := 32) rfl
theorem kl_RX0_48 : Cond.methodLinkNest RX0 48 yX1_isAlive "WallMirror" ∈ xNst := List.mem_of_getElem? (i := 33) rfl
theorem kl_RX0_52 : Cond.methodLinkNest RX0 52 yX1_valueIfPlain "WallMirror" ∈ xNst := List.mem_of_getElem? (i := 34) rfl
theorem kl_RX3_175 : Cond.methodLinkNest RX3 175 yX0_choiceOf "WallMirror" ∈ xNst := List.mem_of_getElem? (i := 35) rfl
theorem kl_RX3_178 : Cond.methodLinkNest RX3 178 yX0_endOf "WallMirror" ∈ xNst := List.mem_of_getElem? (i := 36) rfl
theorem kl_RX3_184 : Cond.methodLinkNest RX3 184 yX1_weighBy "WallMirror" ∈ xNst := List.mem_of_getElem? (i := 37) rfl
theorem kl_RX3_187 : Cond.methodLinkNest RX3 187 yX1_isFairestAlone "WallMirror" ∈ xNst := List.mem_of_getElem? (i := 38) rfl
theorem kl_RX3_190 : Cond.methodLinkNest RX3 190 yX1_weightsApartFrom "WallMirror" ∈ xNst := List.mem_of_getElem? (i := 39) rfl
theorem kl_RX3_201 : Cond.methodLinkNest RX3 201 yX1_leastOf "WallMirror" ∈ xNst := List.mem_of_getElem? (i := 40) rfl
theorem xNst_kind : ∀ w ∈ xNst, (∃ a i b n d h, w = .fieldLinkNest a i b n d h) ∨ ∃ a i x h, w = .methodLinkNest a i x h := by
  intro w hw
  simp only [xNst, List.mem_cons, List.not_mem_nil, or_false] at hw
  rcases hw with rfl | rfl | rfl | rfl | rfl | rfl | rfl | rfl | rfl | rfl | rfl | rfl | rfl | rfl | rfl | rfl | rfl | rfl | rfl | rfl | rfl | rfl | rfl | rfl | rfl | rfl | rfl | rfl | rfl | rfl | rfl | rfl | rfl | rfl | rfl | rfl | rfl | rfl | rfl | rfl | rfl
  · exact Or.inr ⟨_, _, _, _, rfl⟩
  · exact Or.inl ⟨_, _, _, _, _, _, rfl⟩
  · exact Or.inr ⟨_, _, _, _, rfl⟩
  · exact Or.inl ⟨_, _, _, _, _, _, rfl⟩
  · exact Or.inl ⟨_, _, _, _, _, _, rfl⟩
  · exact Or.inl ⟨_, _, _, _, _, _, rfl⟩
  · exact Or.inl ⟨_, _, _, _, _, _, rfl⟩
  · exact Or.inl ⟨_, _, _, _, _, _, rfl⟩
  · exact Or.inl ⟨_, _, _, _, _, _, rfl⟩
  · exact Or.inl ⟨_, _, _, _, _, _, rfl⟩
  · exact Or.inl ⟨_, _, _, _, _, _, rfl⟩
  · exact Or.inr ⟨_, _, _, _, rfl⟩
  · exact Or.inr ⟨_, _, _, _, rfl⟩
  · exact Or.inr ⟨_, _, _, _, rfl⟩
  · exact Or.inr ⟨_, _, _, _, rfl⟩
  · exact Or.inr ⟨_, _, _, _, rfl⟩
  · exact Or.inr ⟨_, _, _, _, rfl⟩
  · exact Or.inr ⟨_, _, _, _, rfl⟩
  · exact Or.inr ⟨_, _, _, _, rfl⟩
  · exact Or.inr ⟨_, _, _, _, rfl⟩
  · exact Or.inr ⟨_, _, _, _, rfl⟩
  · exact Or.inr ⟨_, _, _, _, rfl⟩
  · exact Or.inr ⟨_, _, _, _, rfl⟩
  · exact Or.inr ⟨_, _, _, _, rfl⟩
  · exact Or.inr ⟨_, _, _, _, rfl⟩
  · exact Or.inr ⟨_, _, _, _, rfl⟩
  · exact Or.inr ⟨_, _, _, _, rfl⟩
  · exact Or.inr ⟨_, _, _, _, rfl⟩
  · exact Or.inr ⟨_, _, _, _, rfl⟩
  · exact Or.inr ⟨_, _, _, _, rfl⟩
  · exact Or.inr ⟨_, _, _, _, rfl⟩
  · exact Or.inr ⟨_, _, _, _, rfl⟩
  · exact Or.inr ⟨_, _, _, _, rfl⟩
  · exact Or.inr ⟨_, _, _, _, rfl⟩
  · exact Or.inr ⟨_, _, _, _, rfl⟩
  · exact Or.inr ⟨_, _, _, _, rfl⟩
  · exact Or.inr ⟨_, _, _, _, rfl⟩
  · exact Or.inr ⟨_, _, _, _, rfl⟩
  · exact Or.inr ⟨_, _, _, _, rfl⟩
  · exact Or.inr ⟨_, _, _, _, rfl⟩
  · exact Or.inr ⟨_, _, _, _, rfl⟩
theorem lay_X0 : ∀ w ∈ wsX00, w ∈ WW := by
  have h : wsX00.all (fun w => decide (w ∈ lw_tbl) && goodWord w) = true := by decide +kernel
  intro w hw
  have h1 := List.all_eq_true.mp h w hw
  simp only [Bool.and_eq_true, decide_eq_true_eq] at h1
  exact ww_in h1.1 h1.2
theorem lay_X1 : ∀ w ∈ wsX10, w ∈ WW := by
  have h : wsX10.all (fun w => decide (w ∈ lw_tbl) && goodWord w) = true := by decide +kernel
  intro w hw
  have h1 := List.all_eq_true.mp h w hw
  simp only [Bool.and_eq_true, decide_eq_true_eq] at h1
  exact ww_in h1.1 h1.2
theorem lay_X2 : ∀ w ∈ wsX20, w ∈ WW := by
  have h : wsX20.all (fun w => decide (w ∈ lw_tbl) && goodWord w) = true := by decide +kernel
  intro w hw
  have h1 := List.all_eq_true.mp h w hw
  simp only [Bool.and_eq_true, decide_eq_true_eq] at h1
  exact ww_in h1.1 h1.2
theorem lay_X3 : ∀ w ∈ wsX30, w ∈ WW := by
  have h : wsX30.all (fun w => decide (w ∈ lw_tbl) && goodWord w) = true := by decide +kernel
  intro w hw
  have h1 := List.all_eq_true.mp h w hw
  simp only [Bool.and_eq_true, decide_eq_true_eq] at h1
  exact ww_in h1.1 h1.2
theorem lay_X4 : ∀ w ∈ wsX40, w ∈ WW := by
  have h : wsX40.all (fun w => decide (w ∈ lw_tbl) && goodWord w) = true := by decide +kernel
  intro w hw
  have h1 := List.all_eq_true.mp h w hw
  simp only [Bool.and_eq_true, decide_eq_true_eq] at h1
  exact ww_in h1.1 h1.2
