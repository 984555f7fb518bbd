/-! ===== BEGIN words of one list among another's, by their places ===== -/
theorem goodIn_r {big : List Cond} (ws : List Cond) (ps : List Nat) (hp : ws = ps.filterMap (fun i => big[i]?)) (h : ws.all goodWord = true) : GoodIn big ws := by
  intro w hw
  have h1 := List.all_eq_true.mp h w hw
  rw [hp] at hw
  obtain ⟨i, -, hi⟩ := List.mem_filterMap.mp hw
  have hm : w ∈ big := by first | exact List.mem_of_getElem? hi | exact List.getElem?_mem hi
  exact ⟨hm, good_of_word h1⟩
theorem goodIn_app {big a b : List Cond} (ha : GoodIn big a) (hb : GoodIn big b) : GoodIn big (a ++ b) := fun w h => (List.mem_append.mp h).elim (ha w) (hb w)
theorem goodIn_ca {big a b : List Cond} {c : Cond} (ha : GoodIn big (c :: a)) (hb : GoodIn big b) : GoodIn big (c :: (a ++ b)) := fun w h => (List.mem_cons.mp h).elim (fun e => ha w (List.mem_cons.mpr (Or.inl e))) (fun h => (List.mem_append.mp h).elim (fun h => ha w (List.mem_cons.mpr (Or.inr h))) (hb w))
theorem goodIn_sub {big ws : List Cond} (hm : ∀ w ∈ ws, w ∈ big) (h : ws.all goodWord = true) : GoodIn big ws := fun w hw => ⟨hm w hw, good_of_word (List.all_eq_true.mp h w hw)⟩
/-! ===== END ===== -/

/-! ===== BEGIN printed: names, fields, word lists, decode rows ===== -/
def RX0 : String := "FerryRounds$Past"
def TX0 : u_T := fun k => match k with
  | 0 => ("FerryRounds$Past", "states", "[LFerryRounds$River;", true)
  | 1 => ("FerryRounds$Past", "next", "I", false)
  | _ => ("FerryRounds$Past", "count", "I", false)
def tyX0 : Nat → FieldType := fun k => match k with
  | 0 => .array (.object "FerryRounds$River")
  | 1 => .int
  | _ => .int
abbrev wsX00 : List Cond := u_ws RX0 TX0 3
theorem nmX0 : ∀ a, a < 3 → ∀ b, b < 3 → a ≠ b → (TX0 a).2.1 ≠ (TX0 b).2.1 := by decide +kernel
theorem tyX0_ok : ∀ k, k < 3 → parseFieldDescriptor (TX0 k).2.2.1 = some (tyX0 k) := by decide +kernel
abbrev cX0_init : ByteArray := prog_2_method_1_code
def yX0_init : MethodName := ⟨RX0, "<init>", "()V"⟩
abbrev cX0_count : ByteArray := prog_2_method_2_code
def yX0_count : MethodName := ⟨RX0, "count", "()I"⟩
abbrev cX0_note : ByteArray := prog_2_method_3_code
def yX0_note : MethodName := ⟨RX0, "note", "(LFerryRounds$River;)V"⟩
abbrev cX0_takeBack : ByteArray := prog_2_method_4_code
def yX0_takeBack : MethodName := ⟨RX0, "takeBack", "(LFerryRounds$River;)V"⟩
abbrev cX0_confirm : ByteArray := prog_2_method_5_code
def yX0_confirm : MethodName := ⟨RX0, "confirm", "()V"⟩
abbrev cX0_goBack : ByteArray := prog_2_method_6_code
def yX0_goBack : MethodName := ⟨RX0, "goBack", "(LFerryRounds$River;)Z"⟩
abbrev cX0_forget : ByteArray := prog_2_method_7_code
def yX0_forget : MethodName := ⟨RX0, "forget", "()V"⟩
def RX1 : String := "FerryRounds$River"
def TX1 : u_T := fun k => match k with
  | 0 => ("FerryRounds$River", "weights", "LFerryRounds$Row;", true)
  | 1 => ("FerryRounds$River", "ropes", "LFerryRounds$Row;", true)
  | 2 => ("FerryRounds$River", "rounds", "[LFerryRounds$Row;", true)
  | 3 => ("FerryRounds$River", "noRound", "LFerryRounds$Row;", true)
  | 4 => ("FerryRounds$River", "joins", "I", false)
  | 5 => ("FerryRounds$River", "cuts", "I", false)
  | _ => ("FerryRounds$River", "turns", "I", false)
def tyX1 : Nat → FieldType := fun k => match k with
  | 0 => .object "FerryRounds$Row"
  | 1 => .object "FerryRounds$Row"
  | 2 => .array (.object "FerryRounds$Row")
  | 3 => .object "FerryRounds$Row"
  | 4 => .int
  | 5 => .int
  | _ => .int
abbrev wsX10 : List Cond := u_ws RX1 TX1 7
theorem nmX1 : ∀ a, a < 7 → ∀ b, b < 7 → a ≠ b → (TX1 a).2.1 ≠ (TX1 b).2.1 := by decide +kernel
theorem tyX1_ok : ∀ k, k < 7 → parseFieldDescriptor (TX1 k).2.2.1 = some (tyX1 k) := by decide +kernel
abbrev cX1_init : ByteArray := prog_3_method_1_code
def yX1_init : MethodName := ⟨RX1, "<init>", "()V"⟩
abbrev cX1_copyFrom : ByteArray := prog_3_method_2_code
def yX1_copyFrom : MethodName := ⟨RX1, "copyFrom", "(LFerryRounds$River;)V"⟩
abbrev cX1_banks : ByteArray := prog_3_method_3_code
def yX1_banks : MethodName := ⟨RX1, "banks", "()I"⟩
abbrev cX1_has : ByteArray := prog_3_method_4_code
def yX1_has : MethodName := ⟨RX1, "has", "(I)Z"⟩
abbrev cX1_allBanks : ByteArray := prog_3_method_5_code
def yX1_allBanks : MethodName := ⟨RX1, "allBanks", "()I"⟩
abbrev cX1_weightOf : ByteArray := prog_3_method_6_code
def yX1_weightOf : MethodName := ⟨RX1, "weightOf", "(I)I"⟩
abbrev cX1_weightOfAll : ByteArray := prog_3_method_7_code
def yX1_weightOfAll : MethodName := ⟨RX1, "weightOfAll", "(I)I"⟩
abbrev cX1_ropesOf : ByteArray := prog_3_method_8_code
def yX1_ropesOf : MethodName := ⟨RX1, "ropesOf", "(I)I"⟩
abbrev cX1_isTied : ByteArray := prog_3_method_9_code
def yX1_isTied : MethodName := ⟨RX1, "isTied", "(II)Z"⟩
abbrev cX1_ropes : ByteArray := prog_3_method_10_code
def yX1_ropes : MethodName := ⟨RX1, "ropes", "()I"⟩
abbrev cX1_joinsSoFar : ByteArray := prog_3_method_11_code
def yX1_joinsSoFar : MethodName := ⟨RX1, "joinsSoFar", "()I"⟩
abbrev cX1_cutsSoFar : ByteArray := prog_3_method_12_code
def yX1_cutsSoFar : MethodName := ⟨RX1, "cutsSoFar", "()I"⟩
abbrev cX1_turnsSoFar : ByteArray := prog_3_method_13_code
def yX1_turnsSoFar : MethodName := ⟨RX1, "turnsSoFar", "()I"⟩
abbrev cX1_addBankOf : ByteArray := prog_3_method_14_code
def yX1_addBankOf : MethodName := ⟨RX1, "addBankOf", "(I)I"⟩
abbrev cX1_putWeight : ByteArray := prog_3_method_15_code
def yX1_putWeight : MethodName := ⟨RX1, "putWeight", "(II)V"⟩
abbrev cX1_raiseAll : ByteArray := prog_3_method_16_code
def yX1_raiseAll : MethodName := ⟨RX1, "raiseAll", "(II)I"⟩
abbrev cX1_turnTo : ByteArray := prog_3_method_17_code
def yX1_turnTo : MethodName := ⟨RX1, "turnTo", "(I)V"⟩
abbrev cX1_countTurn : ByteArray := prog_3_method_18_code
def yX1_countTurn : MethodName := ⟨RX1, "countTurn", "()V"⟩
abbrev cX1_tie : ByteArray := prog_3_method_19_code
def yX1_tie : MethodName := ⟨RX1, "tie", "(II)V"⟩
abbrev cX1_untie : ByteArray := prog_3_method_20_code
def yX1_untie : MethodName := ⟨RX1, "untie", "(II)V"⟩
abbrev cX1_roundAt : ByteArray := prog_3_method_21_code
def yX1_roundAt : MethodName := ⟨RX1, "roundAt", "(I)LFerryRounds$Row;"⟩
abbrev cX1_rootOf : ByteArray := prog_3_method_22_code
def yX1_rootOf : MethodName := ⟨RX1, "rootOf", "(I)I"⟩
abbrev cX1_roundOf : ByteArray := prog_3_method_23_code
def yX1_roundOf : MethodName := ⟨RX1, "roundOf", "(I)LFerryRounds$Row;"⟩
abbrev cX1_isRoot : ByteArray := prog_3_method_24_code
def yX1_isRoot : MethodName := ⟨RX1, "isRoot", "(I)Z"⟩
abbrev cX1_parts : ByteArray := prog_3_method_25_code
def yX1_parts : MethodName := ⟨RX1, "parts", "()I"⟩
abbrev cX1_places : ByteArray := prog_3_method_26_code
def yX1_places : MethodName := ⟨RX1, "places", "()I"⟩
abbrev cX1_banksWith : ByteArray := prog_3_method_27_code
def yX1_banksWith : MethodName := ⟨RX1, "banksWith", "(I)I"⟩
abbrev cX1_isOnePart : ByteArray := prog_3_method_28_code
def yX1_isOnePart : MethodName := ⟨RX1, "isOnePart", "(II)Z"⟩
abbrev cX1_aboveOf : ByteArray := prog_3_method_29_code
def yX1_aboveOf : MethodName := ⟨RX1, "aboveOf", "(I)I"⟩
abbrev cX1_belowOf : ByteArray := prog_3_method_30_code
def yX1_belowOf : MethodName := ⟨RX1, "belowOf", "(I)I"⟩
abbrev cX1_depthOf : ByteArray := prog_3_method_31_code
def yX1_depthOf : MethodName := ⟨RX1, "depthOf", "(I)I"⟩
abbrev cX1_justAbove : ByteArray := prog_3_method_32_code
def yX1_justAbove : MethodName := ⟨RX1, "justAbove", "(I)I"⟩
abbrev cX1_stepsAbove : ByteArray := prog_3_method_33_code
def yX1_stepsAbove : MethodName := ⟨RX1, "stepsAbove", "(II)I"⟩
abbrev cX1_greatestDepth : ByteArray := prog_3_method_34_code
def yX1_greatestDepth : MethodName := ⟨RX1, "greatestDepth", "(I)I"⟩
abbrev cX1_sumOfDepths : ByteArray := prog_3_method_35_code
def yX1_sumOfDepths : MethodName := ⟨RX1, "sumOfDepths", "()I"⟩
abbrev cX1_heaviestWith : ByteArray := prog_3_method_36_code
def yX1_heaviestWith : MethodName := ⟨RX1, "heaviestWith", "(I)I"⟩
abbrev cX1_meetingOf : ByteArray := prog_3_method_37_code
def yX1_meetingOf : MethodName := ⟨RX1, "meetingOf", "(II)I"⟩
abbrev cX1_lowerOf : ByteArray := prog_3_method_38_code
def yX1_lowerOf : MethodName := ⟨RX1, "lowerOf", "(II)I"⟩
abbrev cX1_reached : ByteArray := prog_3_method_39_code
def yX1_reached : MethodName := ⟨RX1, "reached", "(II)I"⟩
abbrev cX1_reachedBelow : ByteArray := prog_3_method_40_code
def yX1_reachedBelow : MethodName := ⟨RX1, "reachedBelow", "(I)I"⟩
abbrev cX1_heaviestLeftWithout : ByteArray := prog_3_method_41_code
def yX1_heaviestLeftWithout : MethodName := ⟨RX1, "heaviestLeftWithout", "(I)I"⟩
abbrev cX1_middleWith : ByteArray := prog_3_method_42_code
def yX1_middleWith : MethodName := ⟨RX1, "middleWith", "(I)I"⟩
abbrev cX1_rootRanked : ByteArray := prog_3_method_43_code
def yX1_rootRanked : MethodName := ⟨RX1, "rootRanked", "(I)I"⟩
abbrev cX1_partsAheadOf : ByteArray := prog_3_method_44_code
def yX1_partsAheadOf : MethodName := ⟨RX1, "partsAheadOf", "(I)I"⟩
abbrev cX1_ranksAhead : ByteArray := prog_3_method_45_code
def yX1_ranksAhead : MethodName := ⟨RX1, "ranksAhead", "(II)Z"⟩
abbrev cX1_isSound : ByteArray := prog_3_method_46_code
def yX1_isSound : MethodName := ⟨RX1, "isSound", "()Z"⟩
abbrev cX1_leavesOverEachRope : ByteArray := prog_3_method_47_code
def yX1_leavesOverEachRope : MethodName := ⟨RX1, "leavesOverEachRope", "(I)Z"⟩
def RX2 : String := "FerryRounds$Row"
def TX2 : u_T := fun k => match k with
  | 0 => ("FerryRounds$Row", "numbers", "[I", true)
  | _ => ("FerryRounds$Row", "length", "I", false)
def tyX2 : Nat → FieldType := fun k => match k with
  | 0 => .array .int
  | _ => .int
abbrev wsX20 : List Cond := u_ws RX2 TX2 2
theorem nmX2 : ∀ a, a < 2 → ∀ b, b < 2 → a ≠ b → (TX2 a).2.1 ≠ (TX2 b).2.1 := by decide +kernel
theorem tyX2_ok : ∀ k, k < 2 → parseFieldDescriptor (TX2 k).2.2.1 = some (tyX2 k) := by decide +kernel
abbrev cX2_init : ByteArray := prog_4_method_1_code
def yX2_init : MethodName := ⟨RX2, "<init>", "(I)V"⟩
abbrev cX2_length : ByteArray := prog_4_method_2_code
def yX2_length : MethodName := ⟨RX2, "length", "()I"⟩
abbrev cX2_get : ByteArray := prog_4_method_3_code
def yX2_get : MethodName := ⟨RX2, "get", "(I)I"⟩
abbrev cX2_put : ByteArray := prog_4_method_4_code
def yX2_put : MethodName := ⟨RX2, "put", "(II)V"⟩
abbrev cX2_add : ByteArray := prog_4_method_5_code
def yX2_add : MethodName := ⟨RX2, "add", "(I)V"⟩
abbrev cX2_addPlaces : ByteArray := prog_4_method_7_code
def yX2_addPlaces : MethodName := ⟨RX2, "addPlaces", "(LFerryRounds$Row;II)V"⟩
abbrev cX2_dropPlaces : ByteArray := prog_4_method_8_code
def yX2_dropPlaces : MethodName := ⟨RX2, "dropPlaces", "(II)V"⟩
abbrev cX2_shorten : ByteArray := prog_4_method_9_code
def yX2_shorten : MethodName := ⟨RX2, "shorten", "(I)V"⟩
abbrev cX2_clear : ByteArray := prog_4_method_10_code
def yX2_clear : MethodName := ⟨RX2, "clear", "()V"⟩
abbrev cX2_copyFrom : ByteArray := prog_4_method_11_code
def yX2_copyFrom : MethodName := ⟨RX2, "copyFrom", "(LFerryRounds$Row;)V"⟩
abbrev cX2_firstOf : ByteArray := prog_4_method_12_code
def yX2_firstOf : MethodName := ⟨RX2, "firstOf", "(I)I"⟩
abbrev cX2_lastOf : ByteArray := prog_4_method_13_code
def yX2_lastOf : MethodName := ⟨RX2, "lastOf", "(I)I"⟩
abbrev cX2_setOfAll : ByteArray := prog_4_method_14_code
def yX2_setOfAll : MethodName := ⟨RX2, "setOfAll", "()I"⟩
abbrev cX2_setOf : ByteArray := prog_4_method_15_code
def yX2_setOf : MethodName := ⟨RX2, "setOf", "(II)I"⟩
def RX3 : String := "FerryRounds$Script"
def TX3 : u_T := fun k => match k with
  | 0 => ("FerryRounds$Script", "kinds", "LFerryRounds$Row;", true)
  | 1 => ("FerryRounds$Script", "firsts", "LFerryRounds$Row;", true)
  | 2 => ("FerryRounds$Script", "seconds", "LFerryRounds$Row;", true)
  | 3 => ("FerryRounds$Script", "at", "I", false)
  | _ => ("FerryRounds$Script", "number", "I", false)
def tyX3 : Nat → FieldType := fun k => match k with
  | 0 => .object "FerryRounds$Row"
  | 1 => .object "FerryRounds$Row"
  | 2 => .object "FerryRounds$Row"
  | 3 => .int
  | _ => .int
abbrev wsX30 : List Cond := u_ws RX3 TX3 5
theorem nmX3 : ∀ a, a < 5 → ∀ b, b < 5 → a ≠ b → (TX3 a).2.1 ≠ (TX3 b).2.1 := by decide +kernel
theorem tyX3_ok : ∀ k, k < 5 → parseFieldDescriptor (TX3 k).2.2.1 = some (tyX3 k) := by decide +kernel
abbrev cX3_init : ByteArray := prog_5_method_1_code
def yX3_init : MethodName := ⟨RX3, "<init>", "()V"⟩
abbrev cX3_commands : ByteArray := prog_5_method_2_code
def yX3_commands : MethodName := ⟨RX3, "commands", "()I"⟩
abbrev cX3_kindOf : ByteArray := prog_5_method_3_code
def yX3_kindOf : MethodName := ⟨RX3, "kindOf", "(I)I"⟩
abbrev cX3_firstOf : ByteArray := prog_5_method_4_code
def yX3_firstOf : MethodName := ⟨RX3, "firstOf", "(I)I"⟩
abbrev cX3_secondOf : ByteArray := prog_5_method_5_code
def yX3_secondOf : MethodName := ⟨RX3, "secondOf", "(I)I"⟩
abbrev cX3_faultIn : ByteArray := prog_5_method_6_code
def yX3_faultIn : MethodName := ⟨RX3, "faultIn", "(LFerryRounds$Row;)I"⟩
abbrev cX3_takeCommand : ByteArray := prog_5_method_7_code
def yX3_takeCommand : MethodName := ⟨RX3, "takeCommand", "(LFerryRounds$Row;)Z"⟩
abbrev cX3_takeNumber : ByteArray := prog_5_method_8_code
def yX3_takeNumber : MethodName := ⟨RX3, "takeNumber", "(LFerryRounds$Row;)Z"⟩
abbrev cX3_isKind : ByteArray := prog_5_method_9_code
def yX3_isKind : MethodName := ⟨RX3, "isKind", "(I)Z"⟩
abbrev cX3_fits : ByteArray := prog_5_method_10_code
def yX3_fits : MethodName := ⟨RX3, "fits", "(II)Z"⟩
abbrev cX3_isDigit : ByteArray := prog_5_method_11_code
def yX3_isDigit : MethodName := ⟨RX3, "isDigit", "(I)Z"⟩
def RX4 : String := "FerryRounds"
def TX4 : u_T := fun k => match k with
  | 0 => ("FerryRounds", "river", "LFerryRounds$River;", true)
  | 1 => ("FerryRounds", "snapshot", "LFerryRounds$River;", true)
  | 2 => ("FerryRounds", "past", "LFerryRounds$Past;", true)
  | 3 => ("FerryRounds", "line", "LFerryRounds$Row;", true)
  | 4 => ("FerryRounds", "text", "LFerryRounds$Row;", true)
  | 5 => ("FerryRounds", "script", "LFerryRounds$Script;", true)
  | 6 => ("FerryRounds", "isSaved", "Z", false)
  | 7 => ("FerryRounds", "reason", "I", false)
  | 8 => ("FerryRounds", "reasonDetail", "I", false)
  | 9 => ("FerryRounds", "reasonCommand", "I", false)
  | _ => ("FerryRounds", "commandNow", "I", false)
def tyX4 : Nat → FieldType := fun k => match k with
  | 0 => .object "FerryRounds$River"
  | 1 => .object "FerryRounds$River"
  | 2 => .object "FerryRounds$Past"
  | 3 => .object "FerryRounds$Row"
  | 4 => .object "FerryRounds$Row"
  | 5 => .object "FerryRounds$Script"
  | 6 => .boolean
  | 7 => .int
  | 8 => .int
  | 9 => .int
  | _ => .int
abbrev wsX40 : List Cond := u_ws RX4 TX4 11
theorem nmX4 : ∀ a, a < 11 → ∀ b, b < 11 → a ≠ b → (TX4 a).2.1 ≠ (TX4 b).2.1 := by decide +kernel
theorem tyX4_ok : ∀ k, k < 11 → parseFieldDescriptor (TX4 k).2.2.1 = some (tyX4 k) := by decide +kernel
abbrev cX4_init : ByteArray := prog_1_method_1_code
def yX4_init : MethodName := ⟨RX4, "<init>", "()V"⟩
abbrev cX4_bank : ByteArray := prog_1_method_2_code
def yX4_bank : MethodName := ⟨RX4, "bank", "(I)I"⟩
abbrev cX4_weigh : ByteArray := prog_1_method_3_code
def yX4_weigh : MethodName := ⟨RX4, "weigh", "(II)I"⟩
abbrev cX4_join : ByteArray := prog_1_method_4_code
def yX4_join : MethodName := ⟨RX4, "join", "(II)I"⟩
abbrev cX4_cut : ByteArray := prog_1_method_5_code
def yX4_cut : MethodName := ⟨RX4, "cut", "(II)I"⟩
abbrev cX4_turn : ByteArray := prog_1_method_6_code
def yX4_turn : MethodName := ⟨RX4, "turn", "(I)I"⟩
abbrev cX4_rise : ByteArray := prog_1_method_7_code
def yX4_rise : MethodName := ⟨RX4, "rise", "(II)I"⟩
abbrev cX4_areJoined : ByteArray := prog_1_method_8_code
def yX4_areJoined : MethodName := ⟨RX4, "areJoined", "(II)I"⟩
abbrev cX4_areJoinedAgain : ByteArray := prog_1_method_9_code
def yX4_areJoinedAgain : MethodName := ⟨RX4, "areJoinedAgain", "(II)I"⟩
abbrev cX4_bankOf : ByteArray := prog_1_method_10_code
def yX4_bankOf : MethodName := ⟨RX4, "bankOf", "(II)I"⟩
abbrev cX4_belowAgain : ByteArray := prog_1_method_11_code
def yX4_belowAgain : MethodName := ⟨RX4, "belowAgain", "(I)I"⟩
abbrev cX4_inRound : ByteArray := prog_1_method_12_code
def yX4_inRound : MethodName := ⟨RX4, "inRound", "(II)I"⟩
abbrev cX4_partOf : ByteArray := prog_1_method_13_code
def yX4_partOf : MethodName := ⟨RX4, "partOf", "(II)I"⟩
abbrev cX4_isRope : ByteArray := prog_1_method_14_code
def yX4_isRope : MethodName := ⟨RX4, "isRope", "(II)I"⟩
abbrev cX4_isBelow : ByteArray := prog_1_method_15_code
def yX4_isBelow : MethodName := ⟨RX4, "isBelow", "(II)I"⟩
abbrev cX4_meet : ByteArray := prog_1_method_16_code
def yX4_meet : MethodName := ⟨RX4, "meet", "(II)I"⟩
abbrev cX4_way : ByteArray := prog_1_method_17_code
def yX4_way : MethodName := ⟨RX4, "way", "(III)I"⟩
abbrev cX4_would : ByteArray := prog_1_method_18_code
def yX4_would : MethodName := ⟨RX4, "would", "(II)I"⟩
abbrev cX4_wouldDiffer : ByteArray := prog_1_method_19_code
def yX4_wouldDiffer : MethodName := ⟨RX4, "wouldDiffer", "(II)I"⟩
abbrev cX4_middle : ByteArray := prog_1_method_20_code
def yX4_middle : MethodName := ⟨RX4, "middle", "(I)I"⟩
abbrev cX4_ranked : ByteArray := prog_1_method_21_code
def yX4_ranked : MethodName := ⟨RX4, "ranked", "(I)I"⟩
abbrev cX4_append : ByteArray := prog_1_method_25_code
def yX4_append : MethodName := ⟨RX4, "append", "(I)I"⟩
abbrev cX4_read : ByteArray := prog_1_method_26_code
def yX4_read : MethodName := ⟨RX4, "read", "()I"⟩
abbrev cX4_refusal : ByteArray := prog_1_method_27_code
def yX4_refusal : MethodName := ⟨RX4, "refusal", "(I)I"⟩
abbrev cX4_account : ByteArray := prog_1_method_28_code
def yX4_account : MethodName := ⟨RX4, "account", "(I)I"⟩
abbrev cX4_isWell : ByteArray := prog_1_method_29_code
def yX4_isWell : MethodName := ⟨RX4, "isWell", "()I"⟩
abbrev cX4_mean : ByteArray := prog_1_method_30_code
def yX4_mean : MethodName := ⟨RX4, "mean", "()I"⟩
abbrev cX4_undo : ByteArray := prog_1_method_31_code
def yX4_undo : MethodName := ⟨RX4, "undo", "()I"⟩
abbrev cX4_save : ByteArray := prog_1_method_32_code
def yX4_save : MethodName := ⟨RX4, "save", "()I"⟩
abbrev cX4_restore : ByteArray := prog_1_method_33_code
def yX4_restore : MethodName := ⟨RX4, "restore", "()I"⟩
abbrev cX4_addBank : ByteArray := prog_1_method_34_code
def yX4_addBank : MethodName := ⟨RX4, "addBank", "(I)I"⟩
abbrev cX4_setWeight : ByteArray := prog_1_method_35_code
def yX4_setWeight : MethodName := ⟨RX4, "setWeight", "(II)I"⟩
abbrev cX4_joinBanks : ByteArray := prog_1_method_36_code
def yX4_joinBanks : MethodName := ⟨RX4, "joinBanks", "(II)I"⟩
abbrev cX4_cutRope : ByteArray := prog_1_method_37_code
def yX4_cutRope : MethodName := ⟨RX4, "cutRope", "(II)I"⟩
abbrev cX4_turnRound : ByteArray := prog_1_method_38_code
def yX4_turnRound : MethodName := ⟨RX4, "turnRound", "(I)I"⟩
abbrev cX4_raisePart : ByteArray := prog_1_method_39_code
def yX4_raisePart : MethodName := ⟨RX4, "raisePart", "(II)I"⟩
abbrev cX4_carryOut : ByteArray := prog_1_method_40_code
def yX4_carryOut : MethodName := ⟨RX4, "carryOut", "(I)I"⟩
abbrev cX4_refuse : ByteArray := prog_1_method_41_code
def yX4_refuse : MethodName := ⟨RX4, "refuse", "(II)I"⟩
abbrev cX4_settle : ByteArray := prog_1_method_42_code
def yX4_settle : MethodName := ⟨RX4, "settle", "(I)I"⟩
abbrev cX4_areThere : ByteArray := prog_1_method_43_code
def yX4_areThere : MethodName := ⟨RX4, "areThere", "(II)Z"⟩
abbrev cX4_bit : ByteArray := prog_1_method_44_code
def yX4_bit : MethodName := ⟨RX4, "bit", "(I)I"⟩
abbrev cX4_lowestIn : ByteArray := prog_1_method_45_code
def yX4_lowestIn : MethodName := ⟨RX4, "lowestIn", "(I)I"⟩
abbrev cX4_bitsOf : ByteArray := prog_1_method_46_code
def yX4_bitsOf : MethodName := ⟨RX4, "bitsOf", "(F)I"⟩
def RX5 : String := "FerryRoundsModel"
def TX5 : u_T := fun k => match k with
  | _ => ("", "", "", false)
def tyX5 : Nat → FieldType := fun k => match k with
  | _ => .int
abbrev wsX50 : List Cond := u_ws RX5 TX5 0
theorem nmX5 : ∀ a, a < 0 → ∀ b, b < 0 → a ≠ b → (TX5 a).2.1 ≠ (TX5 b).2.1 := by decide +kernel
theorem tyX5_ok : ∀ k, k < 0 → parseFieldDescriptor (TX5 k).2.2.1 = some (tyX5 k) := by decide +kernel
def RJxf58ca : String := "java/lang/Float"
def TJxf58ca : u_T := fun k => match k with
  | _ => ("", "", "", false)
def tyJxf58ca : Nat → FieldType := fun k => match k with
  | _ => .int
abbrev wsJxf58ca0 : List Cond := u_ws RJxf58ca TJxf58ca 0
theorem nmJxf58ca : ∀ a, a < 0 → ∀ b, b < 0 → a ≠ b → (TJxf58ca a).2.1 ≠ (TJxf58ca b).2.1 := by decide +kernel
theorem tyJxf58ca_ok : ∀ k, k < 0 → parseFieldDescriptor (TJxf58ca k).2.2.1 = some (tyJxf58ca k) := by decide +kernel
abbrev cJxf58ca_isNaN_12338 : ByteArray := prog_8_method_6_code
def yJxf58ca_isNaN_12338 : MethodName := ⟨RJxf58ca, "isNaN", "(F)Z"⟩
abbrev cJxf58ca_floatToIntBits_5c35a : ByteArray := prog_8_method_24_code
def yJxf58ca_floatToIntBits_5c35a : MethodName := ⟨RJxf58ca, "floatToIntBits", "(F)I"⟩
def RJ6 : String := "java/lang/Integer"
def TJ6 : u_T := fun k => match k with
  | _ => ("", "", "", false)
def tyJ6 : Nat → FieldType := fun k => match k with
  | _ => .int
abbrev wsJ60 : List Cond := u_ws RJ6 TJ6 0
theorem nmJ6 : ∀ a, a < 0 → ∀ b, b < 0 → a ≠ b → (TJ6 a).2.1 ≠ (TJ6 b).2.1 := by decide +kernel
theorem tyJ6_ok : ∀ k, k < 0 → parseFieldDescriptor (TJ6 k).2.2.1 = some (tyJ6 k) := by decide +kernel
abbrev cJ6_bitCount_0f7a4 : ByteArray := prog_9_method_49_code
def yJ6_bitCount_0f7a4 : MethodName := ⟨RJ6, "bitCount", "(I)I"⟩
def RJ9 : String := "java/lang/Math"
def TJ9 : u_T := fun k => match k with
  | _ => ("", "", "", false)
def tyJ9 : Nat → FieldType := fun k => match k with
  | _ => .int
abbrev wsJ90 : List Cond := u_ws RJ9 TJ9 0
theorem nmJ9 : ∀ a, a < 0 → ∀ b, b < 0 → a ≠ b → (TJ9 a).2.1 ≠ (TJ9 b).2.1 := by decide +kernel
theorem tyJ9_ok : ∀ k, k < 0 → parseFieldDescriptor (TJ9 k).2.2.1 = some (tyJ9 k) := by decide +kernel
abbrev cJ9_abs_0f7a4 : ByteArray := prog_10_method_59_code
def yJ9_abs_0f7a4 : MethodName := ⟨RJ9, "abs", "(I)I"⟩
abbrev cJ9_max_7cf53 : ByteArray := prog_10_method_65_code
def yJ9_max_7cf53 : MethodName := ⟨RJ9, "max", "(II)I"⟩
abbrev cJ9_min_7cf53 : ByteArray := prog_10_method_69_code
def yJ9_min_7cf53 : MethodName := ⟨RJ9, "min", "(II)I"⟩
def RJ0 : String := "java/lang/String"
def TJ0 : u_T := fun k => match k with
  | _ => ("", "", "", false)
def tyJ0 : Nat → FieldType := fun k => match k with
  | _ => .int
abbrev wsJ00 : List Cond := u_ws RJ0 TJ0 0
theorem nmJ0 : ∀ a, a < 0 → ∀ b, b < 0 → a ≠ b → (TJ0 a).2.1 ≠ (TJ0 b).2.1 := by decide +kernel
theorem tyJ0_ok : ∀ k, k < 0 → parseFieldDescriptor (TJ0 k).2.2.1 = some (tyJ0 k) := by decide +kernel
abbrev cJ0_length_8abf5 : ByteArray := prog_11_method_54_code
def yJ0_length_8abf5 : MethodName := ⟨RJ0, "length", "()I"⟩
abbrev cJ0_charAt_5068e : ByteArray := prog_11_method_56_code
def yJ0_charAt_5068e : MethodName := ⟨RJ0, "charAt", "(I)C"⟩
abbrev cJ0_coder_7d493 : ByteArray := prog_11_method_152_code
def yJ0_coder_7d493 : MethodName := ⟨RJ0, "coder", "()B"⟩
abbrev cJ0_isLatin1_aae02 : ByteArray := prog_11_method_154_code
def yJ0_isLatin1_aae02 : MethodName := ⟨RJ0, "isLatin1", "()Z"⟩
abbrev cJ0_checkIndex_df160 : ByteArray := prog_11_method_155_code
def yJ0_checkIndex_df160 : MethodName := ⟨RJ0, "checkIndex", "(II)V"⟩
def RJ1 : String := "java/lang/StringLatin1"
def TJ1 : u_T := fun k => match k with
  | _ => ("", "", "", false)
def tyJ1 : Nat → FieldType := fun k => match k with
  | _ => .int
abbrev wsJ10 : List Cond := u_ws RJ1 TJ1 0
theorem nmJ1 : ∀ a, a < 0 → ∀ b, b < 0 → a ≠ b → (TJ1 a).2.1 ≠ (TJ1 b).2.1 := by decide +kernel
theorem tyJ1_ok : ∀ k, k < 0 → parseFieldDescriptor (TJ1 k).2.2.1 = some (tyJ1 k) := by decide +kernel
abbrev cJ1_charAt_3b067 : ByteArray := prog_12_method_2_code
def yJ1_charAt_3b067 : MethodName := ⟨RJ1, "charAt", "([BI)C"⟩
def RJ2 : String := "java/lang/StringUTF16"
def TJ2 : u_T := fun k => match k with
  | _ => ("", "", "", false)
def tyJ2 : Nat → FieldType := fun k => match k with
  | _ => .int
abbrev wsJ20 : List Cond := u_ws RJ2 TJ2 0
theorem nmJ2 : ∀ a, a < 0 → ∀ b, b < 0 → a ≠ b → (TJ2 a).2.1 ≠ (TJ2 b).2.1 := by decide +kernel
theorem tyJ2_ok : ∀ k, k < 0 → parseFieldDescriptor (TJ2 k).2.2.1 = some (tyJ2 k) := by decide +kernel
abbrev cJ2_getChar_3b067 : ByteArray := prog_13_method_5_code
def yJ2_getChar_3b067 : MethodName := ⟨RJ2, "getChar", "([BI)C"⟩
abbrev cJ2_length_9d52b : ByteArray := prog_13_method_6_code
def yJ2_length_9d52b : MethodName := ⟨RJ2, "length", "([B)I"⟩
abbrev cJ2_charAt_3b067 : ByteArray := prog_13_method_83_code
def yJ2_charAt_3b067 : MethodName := ⟨RJ2, "charAt", "([BI)C"⟩
abbrev cJ2_checkIndex_2214a : ByteArray := prog_13_method_91_code
def yJ2_checkIndex_2214a : MethodName := ⟨RJ2, "checkIndex", "(I[B)V"⟩
def RJ3 : String := "jdk/internal/util/Preconditions"
def TJ3 : u_T := fun k => match k with
  | _ => ("", "", "", false)
def tyJ3 : Nat → FieldType := fun k => match k with
  | _ => .int
abbrev wsJ30 : List Cond := u_ws RJ3 TJ3 0
theorem nmJ3 : ∀ a, a < 0 → ∀ b, b < 0 → a ≠ b → (TJ3 a).2.1 ≠ (TJ3 b).2.1 := by decide +kernel
theorem tyJ3_ok : ∀ k, k < 0 → parseFieldDescriptor (TJ3 k).2.2.1 = some (tyJ3 k) := by decide +kernel
abbrev cJ3_checkIndex_8e157 : ByteArray := prog_14_method_11_code
def yJ3_checkIndex_8e157 : MethodName := ⟨RJ3, "checkIndex", "(IILjava/util/function/BiFunction;)I"⟩
def RL : String := "FerryRoundsLaw"
abbrev cL_cell : ByteArray := method_2_code
def yL_cell : MethodName := ⟨RL, "cell", "([II)I"⟩
abbrev cL_write : ByteArray := method_3_code
def yL_write : MethodName := ⟨RL, "write", "(LFerryRounds;Ljava/lang/String;)LFerryRounds;"⟩
abbrev cL_act : ByteArray := method_4_code
def yL_act : MethodName := ⟨RL, "act", "(LFerryRounds;I)I"⟩
abbrev cL_digest : ByteArray := method_5_code
def yL_digest : MethodName := ⟨RL, "digest", "(LFerryRounds;)J"⟩
abbrev cL_isRound : ByteArray := method_6_code
def yL_isRound : MethodName := ⟨RL, "isRound", "(LFerryRounds;I)Z"⟩
abbrev cL_isBank : ByteArray := method_7_code
def yL_isBank : MethodName := ⟨RL, "isBank", "(LFerryRounds;I)Z"⟩
abbrev cL_isPair : ByteArray := method_8_code
def yL_isPair : MethodName := ⟨RL, "isPair", "(LFerryRounds;II)Z"⟩
abbrev cL_isDiffering : ByteArray := method_9_code
def yL_isDiffering : MethodName := ⟨RL, "isDiffering", "(LFerryRounds;II)Z"⟩
abbrev cL_areParts : ByteArray := method_10_code
def yL_areParts : MethodName := ⟨RL, "areParts", "(LFerryRounds;)Z"⟩
abbrev cL_isAhead : ByteArray := method_11_code
def yL_isAhead : MethodName := ⟨RL, "isAhead", "(LFerryRounds;II)Z"⟩
abbrev cL_isFit : ByteArray := method_12_code
def yL_isFit : MethodName := ⟨RL, "isFit", "(LFerryRounds;)Z"⟩
abbrev cL_isTiedAgain : ByteArray := method_13_code
def yL_isTiedAgain : MethodName := ⟨RL, "isTiedAgain", "(LFerryRounds;II)Z"⟩
abbrev cL_law : ByteArray := code
def yL_law : MethodName := ⟨RL, "law", "([I)Z"⟩
theorem dX0_init_0 : decode cX0_init 0 = .ok (.aload_n 0, 1) := by decide +kernel
theorem dX0_init_1 : decode cX0_init 1 = .ok (.invokespecial 3, 3) := by decide +kernel
theorem dX0_init_4 : decode cX0_init 4 = .ok (.aload_n 0, 1) := by decide +kernel
theorem dX0_init_5 : decode cX0_init 5 = .ok (.bipush 9, 2) := by decide +kernel
theorem dX0_init_7 : decode cX0_init 7 = .ok (.anewarray 11, 3) := by decide +kernel
theorem dX0_init_10 : decode cX0_init 10 = .ok (.putfield 13, 3) := by decide +kernel
theorem dX0_init_13 : decode cX0_init 13 = .ok (.iconst 0, 1) := by decide +kernel
theorem dX0_init_14 : decode cX0_init 14 = .ok (.istore_n 1, 1) := by decide +kernel
theorem dX0_init_15 : decode cX0_init 15 = .ok (.iload_n 1, 1) := by decide +kernel
theorem dX0_init_16 : decode cX0_init 16 = .ok (.aload_n 0, 1) := by decide +kernel
theorem dX0_init_17 : decode cX0_init 17 = .ok (.getfield 13, 3) := by decide +kernel
theorem dX0_init_20 : decode cX0_init 20 = .ok (.arraylength, 1) := by decide +kernel
theorem dX0_init_21 : decode cX0_init 21 = .ok (.if_icmp .ge 22, 3) := by decide +kernel
theorem dX0_init_24 : decode cX0_init 24 = .ok (.aload_n 0, 1) := by decide +kernel
theorem dX0_init_25 : decode cX0_init 25 = .ok (.getfield 13, 3) := by decide +kernel
theorem dX0_init_28 : decode cX0_init 28 = .ok (.iload_n 1, 1) := by decide +kernel
theorem dX0_init_29 : decode cX0_init 29 = .ok (.new 11, 3) := by decide +kernel
theorem dX0_init_32 : decode cX0_init 32 = .ok (.dup, 1) := by decide +kernel
theorem dX0_init_33 : decode cX0_init 33 = .ok (.invokespecial 17, 3) := by decide +kernel
theorem dX0_init_36 : decode cX0_init 36 = .ok (.aastore, 1) := by decide +kernel
theorem dX0_init_37 : decode cX0_init 37 = .ok (.iinc 1 1, 3) := by decide +kernel
theorem dX0_init_40 : decode cX0_init 40 = .ok (.goto (-25), 3) := by decide +kernel
theorem dX0_init_43 : decode cX0_init 43 = .ok (.return_, 1) := by decide +kernel
theorem dX0_count_0 : decode cX0_count 0 = .ok (.aload_n 0, 1) := by decide +kernel
theorem dX0_count_1 : decode cX0_count 1 = .ok (.getfield 18, 3) := by decide +kernel
theorem dX0_count_4 : decode cX0_count 4 = .ok (.ireturn, 1) := by decide +kernel
theorem dX0_note_0 : decode cX0_note 0 = .ok (.aload_n 0, 1) := by decide +kernel
theorem dX0_note_1 : decode cX0_note 1 = .ok (.getfield 22, 3) := by decide +kernel
theorem dX0_note_4 : decode cX0_note 4 = .ok (.ifCond .lt 15, 3) := by decide +kernel
theorem dX0_note_7 : decode cX0_note 7 = .ok (.aload_n 0, 1) := by decide +kernel
theorem dX0_note_8 : decode cX0_note 8 = .ok (.getfield 22, 3) := by decide +kernel
theorem dX0_note_11 : decode cX0_note 11 = .ok (.aload_n 0, 1) := by decide +kernel
theorem dX0_note_12 : decode cX0_note 12 = .ok (.getfield 13, 3) := by decide +kernel
theorem dX0_note_15 : decode cX0_note 15 = .ok (.arraylength, 1) := by decide +kernel
theorem dX0_note_16 : decode cX0_note 16 = .ok (.if_icmp .lt 4, 3) := by decide +kernel
theorem dX0_note_19 : decode cX0_note 19 = .ok (.return_, 1) := by decide +kernel
theorem dX0_note_20 : decode cX0_note 20 = .ok (.aload_n 0, 1) := by decide +kernel
theorem dX0_note_21 : decode cX0_note 21 = .ok (.getfield 13, 3) := by decide +kernel
theorem dX0_note_24 : decode cX0_note 24 = .ok (.aload_n 0, 1) := by decide +kernel
theorem dX0_note_25 : decode cX0_note 25 = .ok (.getfield 22, 3) := by decide +kernel
theorem dX0_note_28 : decode cX0_note 28 = .ok (.aaload, 1) := by decide +kernel
theorem dX0_note_29 : decode cX0_note 29 = .ok (.astore_n 2, 1) := by decide +kernel
theorem dX0_note_30 : decode cX0_note 30 = .ok (.aload_n 2, 1) := by decide +kernel
theorem dX0_note_31 : decode cX0_note 31 = .ok (.ifnull 8, 3) := by decide +kernel
theorem dX0_note_34 : decode cX0_note 34 = .ok (.aload_n 2, 1) := by decide +kernel
theorem dX0_note_35 : decode cX0_note 35 = .ok (.aload_n 1, 1) := by decide +kernel
theorem dX0_note_36 : decode cX0_note 36 = .ok (.invokevirtual 25, 3) := by decide +kernel
theorem dX0_note_39 : decode cX0_note 39 = .ok (.return_, 1) := by decide +kernel
theorem dX0_takeBack_0 : decode cX0_takeBack 0 = .ok (.aload_n 1, 1) := by decide +kernel
theorem dX0_takeBack_1 : decode cX0_takeBack 1 = .ok (.ifnull 35, 3) := by decide +kernel
theorem dX0_takeBack_4 : decode cX0_takeBack 4 = .ok (.aload_n 0, 1) := by decide +kernel
theorem dX0_takeBack_5 : decode cX0_takeBack 5 = .ok (.getfield 22, 3) := by decide +kernel
theorem dX0_takeBack_8 : decode cX0_takeBack 8 = .ok (.ifCond .lt 28, 3) := by decide +kernel
theorem dX0_takeBack_11 : decode cX0_takeBack 11 = .ok (.aload_n 0, 1) := by decide +kernel
theorem dX0_takeBack_12 : decode cX0_takeBack 12 = .ok (.getfield 22, 3) := by decide +kernel
theorem dX0_takeBack_15 : decode cX0_takeBack 15 = .ok (.aload_n 0, 1) := by decide +kernel
theorem dX0_takeBack_16 : decode cX0_takeBack 16 = .ok (.getfield 13, 3) := by decide +kernel
theorem dX0_takeBack_19 : decode cX0_takeBack 19 = .ok (.arraylength, 1) := by decide +kernel
theorem dX0_takeBack_20 : decode cX0_takeBack 20 = .ok (.if_icmp .ge 16, 3) := by decide +kernel
theorem dX0_takeBack_23 : decode cX0_takeBack 23 = .ok (.aload_n 1, 1) := by decide +kernel
theorem dX0_takeBack_24 : decode cX0_takeBack 24 = .ok (.aload_n 0, 1) := by decide +kernel
theorem dX0_takeBack_25 : decode cX0_takeBack 25 = .ok (.getfield 13, 3) := by decide +kernel
theorem dX0_takeBack_28 : decode cX0_takeBack 28 = .ok (.aload_n 0, 1) := by decide +kernel
theorem dX0_takeBack_29 : decode cX0_takeBack 29 = .ok (.getfield 22, 3) := by decide +kernel
theorem dX0_takeBack_32 : decode cX0_takeBack 32 = .ok (.aaload, 1) := by decide +kernel
theorem dX0_takeBack_33 : decode cX0_takeBack 33 = .ok (.invokevirtual 25, 3) := by decide +kernel
theorem dX0_takeBack_36 : decode cX0_takeBack 36 = .ok (.return_, 1) := by decide +kernel
theorem dX0_confirm_0 : decode cX0_confirm 0 = .ok (.aload_n 0, 1) := by decide +kernel
theorem dX0_confirm_1 : decode cX0_confirm 1 = .ok (.aload_n 0, 1) := by decide +kernel
theorem dX0_confirm_2 : decode cX0_confirm 2 = .ok (.getfield 22, 3) := by decide +kernel
theorem dX0_confirm_5 : decode cX0_confirm 5 = .ok (.iconst 1, 1) := by decide +kernel
theorem dX0_confirm_6 : decode cX0_confirm 6 = .ok (.iadd, 1) := by decide +kernel
theorem dX0_confirm_7 : decode cX0_confirm 7 = .ok (.bipush 9, 2) := by decide +kernel
theorem dX0_confirm_9 : decode cX0_confirm 9 = .ok (.irem, 1) := by decide +kernel
theorem dX0_confirm_10 : decode cX0_confirm 10 = .ok (.putfield 22, 3) := by decide +kernel
theorem dX0_confirm_13 : decode cX0_confirm 13 = .ok (.aload_n 0, 1) := by decide +kernel
theorem dX0_confirm_14 : decode cX0_confirm 14 = .ok (.bipush 8, 2) := by decide +kernel
theorem dX0_confirm_16 : decode cX0_confirm 16 = .ok (.aload_n 0, 1) := by decide +kernel
theorem dX0_confirm_17 : decode cX0_confirm 17 = .ok (.getfield 18, 3) := by decide +kernel
theorem dX0_confirm_20 : decode cX0_confirm 20 = .ok (.iconst 1, 1) := by decide +kernel
theorem dX0_confirm_21 : decode cX0_confirm 21 = .ok (.iadd, 1) := by decide +kernel
theorem dX0_confirm_22 : decode cX0_confirm 22 = .ok (.invokestatic 29, 3) := by decide +kernel
theorem dX0_confirm_25 : decode cX0_confirm 25 = .ok (.putfield 18, 3) := by decide +kernel
theorem dX0_confirm_28 : decode cX0_confirm 28 = .ok (.return_, 1) := by decide +kernel
theorem dX0_goBack_0 : decode cX0_goBack 0 = .ok (.aload_n 0, 1) := by decide +kernel
theorem dX0_goBack_1 : decode cX0_goBack 1 = .ok (.getfield 18, 3) := by decide +kernel
theorem dX0_goBack_4 : decode cX0_goBack 4 = .ok (.ifCond .gt 5, 3) := by decide +kernel
theorem dX0_goBack_7 : decode cX0_goBack 7 = .ok (.iconst 0, 1) := by decide +kernel
theorem dX0_goBack_8 : decode cX0_goBack 8 = .ok (.ireturn, 1) := by decide +kernel
theorem dX0_goBack_9 : decode cX0_goBack 9 = .ok (.aload_n 0, 1) := by decide +kernel
theorem dX0_goBack_10 : decode cX0_goBack 10 = .ok (.dup, 1) := by decide +kernel
theorem dX0_goBack_11 : decode cX0_goBack 11 = .ok (.getfield 18, 3) := by decide +kernel
theorem dX0_goBack_14 : decode cX0_goBack 14 = .ok (.iconst 1, 1) := by decide +kernel
theorem dX0_goBack_15 : decode cX0_goBack 15 = .ok (.isub, 1) := by decide +kernel
theorem dX0_goBack_16 : decode cX0_goBack 16 = .ok (.putfield 18, 3) := by decide +kernel
theorem dX0_goBack_19 : decode cX0_goBack 19 = .ok (.aload_n 0, 1) := by decide +kernel
theorem dX0_goBack_20 : decode cX0_goBack 20 = .ok (.aload_n 0, 1) := by decide +kernel
theorem dX0_goBack_21 : decode cX0_goBack 21 = .ok (.getfield 22, 3) := by decide +kernel
theorem dX0_goBack_24 : decode cX0_goBack 24 = .ok (.bipush 9, 2) := by decide +kernel
theorem dX0_goBack_26 : decode cX0_goBack 26 = .ok (.iadd, 1) := by decide +kernel
theorem dX0_goBack_27 : decode cX0_goBack 27 = .ok (.iconst 1, 1) := by decide +kernel
theorem dX0_goBack_28 : decode cX0_goBack 28 = .ok (.isub, 1) := by decide +kernel
theorem dX0_goBack_29 : decode cX0_goBack 29 = .ok (.bipush 9, 2) := by decide +kernel
theorem dX0_goBack_31 : decode cX0_goBack 31 = .ok (.irem, 1) := by decide +kernel
theorem dX0_goBack_32 : decode cX0_goBack 32 = .ok (.putfield 22, 3) := by decide +kernel
theorem dX0_goBack_35 : decode cX0_goBack 35 = .ok (.aload_n 0, 1) := by decide +kernel
theorem dX0_goBack_36 : decode cX0_goBack 36 = .ok (.aload_n 1, 1) := by decide +kernel
theorem dX0_goBack_37 : decode cX0_goBack 37 = .ok (.invokevirtual 35, 3) := by decide +kernel
theorem dX0_goBack_40 : decode cX0_goBack 40 = .ok (.iconst 1, 1) := by decide +kernel
theorem dX0_goBack_41 : decode cX0_goBack 41 = .ok (.ireturn, 1) := by decide +kernel
theorem dX0_forget_0 : decode cX0_forget 0 = .ok (.aload_n 0, 1) := by decide +kernel
theorem dX0_forget_1 : decode cX0_forget 1 = .ok (.iconst 0, 1) := by decide +kernel
theorem dX0_forget_2 : decode cX0_forget 2 = .ok (.putfield 18, 3) := by decide +kernel
theorem dX0_forget_5 : decode cX0_forget 5 = .ok (.return_, 1) := by decide +kernel
theorem dX1_init_0 : decode cX1_init 0 = .ok (.aload_n 0, 1) := by decide +kernel
theorem dX1_init_1 : decode cX1_init 1 = .ok (.invokespecial 3, 3) := by decide +kernel
theorem dX1_init_4 : decode cX1_init 4 = .ok (.aload_n 0, 1) := by decide +kernel
theorem dX1_init_5 : decode cX1_init 5 = .ok (.new 9, 3) := by decide +kernel
theorem dX1_init_8 : decode cX1_init 8 = .ok (.dup, 1) := by decide +kernel
theorem dX1_init_9 : decode cX1_init 9 = .ok (.bipush 12, 2) := by decide +kernel
theorem dX1_init_11 : decode cX1_init 11 = .ok (.invokespecial 11, 3) := by decide +kernel
theorem dX1_init_14 : decode cX1_init 14 = .ok (.putfield 14, 3) := by decide +kernel
theorem dX1_init_17 : decode cX1_init 17 = .ok (.aload_n 0, 1) := by decide +kernel
theorem dX1_init_18 : decode cX1_init 18 = .ok (.new 9, 3) := by decide +kernel
theorem dX1_init_21 : decode cX1_init 21 = .ok (.dup, 1) := by decide +kernel
theorem dX1_init_22 : decode cX1_init 22 = .ok (.bipush 12, 2) := by decide +kernel
theorem dX1_init_24 : decode cX1_init 24 = .ok (.invokespecial 11, 3) := by decide +kernel
theorem dX1_init_27 : decode cX1_init 27 = .ok (.putfield 20, 3) := by decide +kernel
theorem dX1_init_30 : decode cX1_init 30 = .ok (.aload_n 0, 1) := by decide +kernel
theorem dX1_init_31 : decode cX1_init 31 = .ok (.bipush 12, 2) := by decide +kernel
theorem dX1_init_33 : decode cX1_init 33 = .ok (.anewarray 9, 3) := by decide +kernel
theorem dX1_init_36 : decode cX1_init 36 = .ok (.putfield 23, 3) := by decide +kernel
theorem dX1_init_39 : decode cX1_init 39 = .ok (.aload_n 0, 1) := by decide +kernel
theorem dX1_init_40 : decode cX1_init 40 = .ok (.new 9, 3) := by decide +kernel
theorem dX1_init_43 : decode cX1_init 43 = .ok (.dup, 1) := by decide +kernel
theorem dX1_init_44 : decode cX1_init 44 = .ok (.iconst 0, 1) := by decide +kernel
theorem dX1_init_45 : decode cX1_init 45 = .ok (.invokespecial 11, 3) := by decide +kernel
theorem dX1_init_48 : decode cX1_init 48 = .ok (.putfield 27, 3) := by decide +kernel
theorem dX1_init_51 : decode cX1_init 51 = .ok (.iconst 0, 1) := by decide +kernel
theorem dX1_init_52 : decode cX1_init 52 = .ok (.istore_n 1, 1) := by decide +kernel
theorem dX1_init_53 : decode cX1_init 53 = .ok (.iload_n 1, 1) := by decide +kernel
theorem dX1_init_54 : decode cX1_init 54 = .ok (.aload_n 0, 1) := by decide +kernel
theorem dX1_init_55 : decode cX1_init 55 = .ok (.getfield 23, 3) := by decide +kernel
theorem dX1_init_58 : decode cX1_init 58 = .ok (.arraylength, 1) := by decide +kernel
theorem dX1_init_59 : decode cX1_init 59 = .ok (.if_icmp .ge 24, 3) := by decide +kernel
theorem dX1_init_62 : decode cX1_init 62 = .ok (.aload_n 0, 1) := by decide +kernel
theorem dX1_init_63 : decode cX1_init 63 = .ok (.getfield 23, 3) := by decide +kernel
theorem dX1_init_66 : decode cX1_init 66 = .ok (.iload_n 1, 1) := by decide +kernel
theorem dX1_init_67 : decode cX1_init 67 = .ok (.new 9, 3) := by decide +kernel
theorem dX1_init_70 : decode cX1_init 70 = .ok (.dup, 1) := by decide +kernel
theorem dX1_init_71 : decode cX1_init 71 = .ok (.bipush 23, 2) := by decide +kernel
theorem dX1_init_73 : decode cX1_init 73 = .ok (.invokespecial 11, 3) := by decide +kernel
theorem dX1_init_76 : decode cX1_init 76 = .ok (.aastore, 1) := by decide +kernel
theorem dX1_init_77 : decode cX1_init 77 = .ok (.iinc 1 1, 3) := by decide +kernel
theorem dX1_init_80 : decode cX1_init 80 = .ok (.goto (-27), 3) := by decide +kernel
theorem dX1_init_83 : decode cX1_init 83 = .ok (.return_, 1) := by decide +kernel
theorem dX1_copyFrom_0 : decode cX1_copyFrom 0 = .ok (.aload_n 1, 1) := by decide +kernel
theorem dX1_copyFrom_1 : decode cX1_copyFrom 1 = .ok (.ifnonnull 4, 3) := by decide +kernel
theorem dX1_copyFrom_4 : decode cX1_copyFrom 4 = .ok (.return_, 1) := by decide +kernel
theorem dX1_copyFrom_5 : decode cX1_copyFrom 5 = .ok (.aload_n 0, 1) := by decide +kernel
theorem dX1_copyFrom_6 : decode cX1_copyFrom 6 = .ok (.getfield 14, 3) := by decide +kernel
theorem dX1_copyFrom_9 : decode cX1_copyFrom 9 = .ok (.aload_n 1, 1) := by decide +kernel
theorem dX1_copyFrom_10 : decode cX1_copyFrom 10 = .ok (.getfield 14, 3) := by decide +kernel
theorem dX1_copyFrom_13 : decode cX1_copyFrom 13 = .ok (.invokevirtual 30, 3) := by decide +kernel
theorem dX1_copyFrom_16 : decode cX1_copyFrom 16 = .ok (.aload_n 0, 1) := by decide +kernel
theorem dX1_copyFrom_17 : decode cX1_copyFrom 17 = .ok (.getfield 20, 3) := by decide +kernel
theorem dX1_copyFrom_20 : decode cX1_copyFrom 20 = .ok (.aload_n 1, 1) := by decide +kernel
theorem dX1_copyFrom_21 : decode cX1_copyFrom 21 = .ok (.getfield 20, 3) := by decide +kernel
theorem dX1_copyFrom_24 : decode cX1_copyFrom 24 = .ok (.invokevirtual 30, 3) := by decide +kernel
theorem dX1_copyFrom_27 : decode cX1_copyFrom 27 = .ok (.iconst 0, 1) := by decide +kernel
theorem dX1_copyFrom_28 : decode cX1_copyFrom 28 = .ok (.istore_n 2, 1) := by decide +kernel
theorem dX1_copyFrom_29 : decode cX1_copyFrom 29 = .ok (.iload_n 2, 1) := by decide +kernel
theorem dX1_copyFrom_30 : decode cX1_copyFrom 30 = .ok (.bipush 12, 2) := by decide +kernel
theorem dX1_copyFrom_32 : decode cX1_copyFrom 32 = .ok (.if_icmp .ge 22, 3) := by decide +kernel
theorem dX1_copyFrom_35 : decode cX1_copyFrom 35 = .ok (.aload_n 0, 1) := by decide +kernel
theorem dX1_copyFrom_36 : decode cX1_copyFrom 36 = .ok (.iload_n 2, 1) := by decide +kernel
theorem dX1_copyFrom_37 : decode cX1_copyFrom 37 = .ok (.invokevirtual 34, 3) := by decide +kernel
theorem dX1_copyFrom_40 : decode cX1_copyFrom 40 = .ok (.aload_n 1, 1) := by decide +kernel
theorem dX1_copyFrom_41 : decode cX1_copyFrom 41 = .ok (.iload_n 2, 1) := by decide +kernel
theorem dX1_copyFrom_42 : decode cX1_copyFrom 42 = .ok (.invokevirtual 34, 3) := by decide +kernel
theorem dX1_copyFrom_45 : decode cX1_copyFrom 45 = .ok (.invokevirtual 30, 3) := by decide +kernel
theorem dX1_copyFrom_48 : decode cX1_copyFrom 48 = .ok (.iinc 2 1, 3) := by decide +kernel
theorem dX1_copyFrom_51 : decode cX1_copyFrom 51 = .ok (.goto (-22), 3) := by decide +kernel
theorem dX1_copyFrom_54 : decode cX1_copyFrom 54 = .ok (.aload_n 0, 1) := by decide +kernel
theorem dX1_copyFrom_55 : decode cX1_copyFrom 55 = .ok (.aload_n 1, 1) := by decide +kernel
theorem dX1_copyFrom_56 : decode cX1_copyFrom 56 = .ok (.getfield 38, 3) := by decide +kernel
theorem dX1_copyFrom_59 : decode cX1_copyFrom 59 = .ok (.putfield 38, 3) := by decide +kernel
theorem dX1_copyFrom_62 : decode cX1_copyFrom 62 = .ok (.aload_n 0, 1) := by decide +kernel
theorem dX1_copyFrom_63 : decode cX1_copyFrom 63 = .ok (.aload_n 1, 1) := by decide +kernel
theorem dX1_copyFrom_64 : decode cX1_copyFrom 64 = .ok (.getfield 42, 3) := by decide +kernel
theorem dX1_copyFrom_67 : decode cX1_copyFrom 67 = .ok (.putfield 42, 3) := by decide +kernel
theorem dX1_copyFrom_70 : decode cX1_copyFrom 70 = .ok (.aload_n 0, 1) := by decide +kernel
theorem dX1_copyFrom_71 : decode cX1_copyFrom 71 = .ok (.aload_n 1, 1) := by decide +kernel
theorem dX1_copyFrom_72 : decode cX1_copyFrom 72 = .ok (.getfield 45, 3) := by decide +kernel
theorem dX1_copyFrom_75 : decode cX1_copyFrom 75 = .ok (.putfield 45, 3) := by decide +kernel
theorem dX1_copyFrom_78 : decode cX1_copyFrom 78 = .ok (.return_, 1) := by decide +kernel
theorem dX1_banks_0 : decode cX1_banks 0 = .ok (.aload_n 0, 1) := by decide +kernel
theorem dX1_banks_1 : decode cX1_banks 1 = .ok (.getfield 14, 3) := by decide +kernel
theorem dX1_banks_4 : decode cX1_banks 4 = .ok (.invokevirtual 48, 3) := by decide +kernel
theorem dX1_banks_7 : decode cX1_banks 7 = .ok (.ireturn, 1) := by decide +kernel
theorem dX1_has_0 : decode cX1_has 0 = .ok (.iload_n 1, 1) := by decide +kernel
theorem dX1_has_1 : decode cX1_has 1 = .ok (.ifCond .lt 18, 3) := by decide +kernel
theorem dX1_has_4 : decode cX1_has 4 = .ok (.iload_n 1, 1) := by decide +kernel
theorem dX1_has_5 : decode cX1_has 5 = .ok (.aload_n 0, 1) := by decide +kernel
theorem dX1_has_6 : decode cX1_has 6 = .ok (.getfield 14, 3) := by decide +kernel
theorem dX1_has_9 : decode cX1_has 9 = .ok (.invokevirtual 48, 3) := by decide +kernel
theorem dX1_has_12 : decode cX1_has 12 = .ok (.if_icmp .ge 7, 3) := by decide +kernel
theorem dX1_has_15 : decode cX1_has 15 = .ok (.iconst 1, 1) := by decide +kernel
theorem dX1_has_16 : decode cX1_has 16 = .ok (.goto 4, 3) := by decide +kernel
theorem dX1_has_19 : decode cX1_has 19 = .ok (.iconst 0, 1) := by decide +kernel
theorem dX1_has_20 : decode cX1_has 20 = .ok (.ireturn, 1) := by decide +kernel
theorem dX1_allBanks_0 : decode cX1_allBanks 0 = .ok (.iconst 1, 1) := by decide +kernel
theorem dX1_allBanks_1 : decode cX1_allBanks 1 = .ok (.aload_n 0, 1) := by decide +kernel
theorem dX1_allBanks_2 : decode cX1_allBanks 2 = .ok (.getfield 14, 3) := by decide +kernel
theorem dX1_allBanks_5 : decode cX1_allBanks 5 = .ok (.invokevirtual 48, 3) := by decide +kernel
theorem dX1_allBanks_8 : decode cX1_allBanks 8 = .ok (.ishl, 1) := by decide +kernel
theorem dX1_allBanks_9 : decode cX1_allBanks 9 = .ok (.iconst 1, 1) := by decide +kernel
theorem dX1_allBanks_10 : decode cX1_allBanks 10 = .ok (.isub, 1) := by decide +kernel
theorem dX1_allBanks_11 : decode cX1_allBanks 11 = .ok (.ireturn, 1) := by decide +kernel
theorem dX1_weightOf_0 : decode cX1_weightOf 0 = .ok (.aload_n 0, 1) := by decide +kernel
theorem dX1_weightOf_1 : decode cX1_weightOf 1 = .ok (.getfield 14, 3) := by decide +kernel
theorem dX1_weightOf_4 : decode cX1_weightOf 4 = .ok (.iload_n 1, 1) := by decide +kernel
theorem dX1_weightOf_5 : decode cX1_weightOf 5 = .ok (.invokevirtual 52, 3) := by decide +kernel
theorem dX1_weightOf_8 : decode cX1_weightOf 8 = .ok (.ireturn, 1) := by decide +kernel
theorem dX1_weightOfAll_0 : decode cX1_weightOfAll 0 = .ok (.iconst 0, 1) := by decide +kernel
theorem dX1_weightOfAll_1 : decode cX1_weightOfAll 1 = .ok (.istore_n 2, 1) := by decide +kernel
theorem dX1_weightOfAll_2 : decode cX1_weightOfAll 2 = .ok (.iconst 0, 1) := by decide +kernel
theorem dX1_weightOfAll_3 : decode cX1_weightOfAll 3 = .ok (.istore_n 3, 1) := by decide +kernel
theorem dX1_weightOfAll_4 : decode cX1_weightOfAll 4 = .ok (.iload_n 3, 1) := by decide +kernel
theorem dX1_weightOfAll_5 : decode cX1_weightOfAll 5 = .ok (.aload_n 0, 1) := by decide +kernel
theorem dX1_weightOfAll_6 : decode cX1_weightOfAll 6 = .ok (.getfield 14, 3) := by decide +kernel
theorem dX1_weightOfAll_9 : decode cX1_weightOfAll 9 = .ok (.invokevirtual 48, 3) := by decide +kernel
theorem dX1_weightOfAll_12 : decode cX1_weightOfAll 12 = .ok (.if_icmp .ge 29, 3) := by decide +kernel
theorem dX1_weightOfAll_15 : decode cX1_weightOfAll 15 = .ok (.iload_n 1, 1) := by decide +kernel
theorem dX1_weightOfAll_16 : decode cX1_weightOfAll 16 = .ok (.iload_n 3, 1) := by decide +kernel
theorem dX1_weightOfAll_17 : decode cX1_weightOfAll 17 = .ok (.invokestatic 56, 3) := by decide +kernel
theorem dX1_weightOfAll_20 : decode cX1_weightOfAll 20 = .ok (.iand, 1) := by decide +kernel
theorem dX1_weightOfAll_21 : decode cX1_weightOfAll 21 = .ok (.ifCond .eq 14, 3) := by decide +kernel
theorem dX1_weightOfAll_24 : decode cX1_weightOfAll 24 = .ok (.iload_n 2, 1) := by decide +kernel
theorem dX1_weightOfAll_25 : decode cX1_weightOfAll 25 = .ok (.aload_n 0, 1) := by decide +kernel
theorem dX1_weightOfAll_26 : decode cX1_weightOfAll 26 = .ok (.getfield 14, 3) := by decide +kernel
theorem dX1_weightOfAll_29 : decode cX1_weightOfAll 29 = .ok (.iload_n 3, 1) := by decide +kernel
theorem dX1_weightOfAll_30 : decode cX1_weightOfAll 30 = .ok (.invokevirtual 52, 3) := by decide +kernel
theorem dX1_weightOfAll_33 : decode cX1_weightOfAll 33 = .ok (.iadd, 1) := by decide +kernel
theorem dX1_weightOfAll_34 : decode cX1_weightOfAll 34 = .ok (.istore_n 2, 1) := by decide +kernel
theorem dX1_weightOfAll_35 : decode cX1_weightOfAll 35 = .ok (.iinc 3 1, 3) := by decide +kernel
theorem dX1_weightOfAll_38 : decode cX1_weightOfAll 38 = .ok (.goto (-34), 3) := by decide +kernel
theorem dX1_weightOfAll_41 : decode cX1_weightOfAll 41 = .ok (.iload_n 2, 1) := by decide +kernel
theorem dX1_weightOfAll_42 : decode cX1_weightOfAll 42 = .ok (.ireturn, 1) := by decide +kernel
theorem dX1_ropesOf_0 : decode cX1_ropesOf 0 = .ok (.aload_n 0, 1) := by decide +kernel
theorem dX1_ropesOf_1 : decode cX1_ropesOf 1 = .ok (.iload_n 1, 1) := by decide +kernel
theorem dX1_ropesOf_2 : decode cX1_ropesOf 2 = .ok (.invokevirtual 59, 3) := by decide +kernel
theorem dX1_ropesOf_5 : decode cX1_ropesOf 5 = .ok (.ifCond .eq 14, 3) := by decide +kernel
theorem dX1_ropesOf_8 : decode cX1_ropesOf 8 = .ok (.aload_n 0, 1) := by decide +kernel
theorem dX1_ropesOf_9 : decode cX1_ropesOf 9 = .ok (.getfield 20, 3) := by decide +kernel
theorem dX1_ropesOf_12 : decode cX1_ropesOf 12 = .ok (.iload_n 1, 1) := by decide +kernel
theorem dX1_ropesOf_13 : decode cX1_ropesOf 13 = .ok (.invokevirtual 52, 3) := by decide +kernel
theorem dX1_ropesOf_16 : decode cX1_ropesOf 16 = .ok (.goto 4, 3) := by decide +kernel
theorem dX1_ropesOf_19 : decode cX1_ropesOf 19 = .ok (.iconst 0, 1) := by decide +kernel
theorem dX1_ropesOf_20 : decode cX1_ropesOf 20 = .ok (.ireturn, 1) := by decide +kernel
theorem dX1_isTied_0 : decode cX1_isTied 0 = .ok (.aload_n 0, 1) := by decide +kernel
theorem dX1_isTied_1 : decode cX1_isTied 1 = .ok (.iload_n 1, 1) := by decide +kernel
theorem dX1_isTied_2 : decode cX1_isTied 2 = .ok (.invokevirtual 63, 3) := by decide +kernel
theorem dX1_isTied_5 : decode cX1_isTied 5 = .ok (.iload_n 2, 1) := by decide +kernel
theorem dX1_isTied_6 : decode cX1_isTied 6 = .ok (.invokestatic 56, 3) := by decide +kernel
theorem dX1_isTied_9 : decode cX1_isTied 9 = .ok (.iand, 1) := by decide +kernel
theorem dX1_isTied_10 : decode cX1_isTied 10 = .ok (.ifCond .eq 7, 3) := by decide +kernel
theorem dX1_isTied_13 : decode cX1_isTied 13 = .ok (.iconst 1, 1) := by decide +kernel
theorem dX1_isTied_14 : decode cX1_isTied 14 = .ok (.goto 4, 3) := by decide +kernel
theorem dX1_isTied_17 : decode cX1_isTied 17 = .ok (.iconst 0, 1) := by decide +kernel
theorem dX1_isTied_18 : decode cX1_isTied 18 = .ok (.ireturn, 1) := by decide +kernel
theorem dX1_ropes_0 : decode cX1_ropes 0 = .ok (.iconst 0, 1) := by decide +kernel
theorem dX1_ropes_1 : decode cX1_ropes 1 = .ok (.istore_n 1, 1) := by decide +kernel
theorem dX1_ropes_2 : decode cX1_ropes 2 = .ok (.iconst 0, 1) := by decide +kernel
theorem dX1_ropes_3 : decode cX1_ropes 3 = .ok (.istore_n 2, 1) := by decide +kernel
theorem dX1_ropes_4 : decode cX1_ropes 4 = .ok (.iload_n 2, 1) := by decide +kernel
theorem dX1_ropes_5 : decode cX1_ropes 5 = .ok (.aload_n 0, 1) := by decide +kernel
theorem dX1_ropes_6 : decode cX1_ropes 6 = .ok (.getfield 20, 3) := by decide +kernel
theorem dX1_ropes_9 : decode cX1_ropes 9 = .ok (.invokevirtual 48, 3) := by decide +kernel
theorem dX1_ropes_12 : decode cX1_ropes 12 = .ok (.if_icmp .ge 23, 3) := by decide +kernel
theorem dX1_ropes_15 : decode cX1_ropes 15 = .ok (.iload_n 1, 1) := by decide +kernel
theorem dX1_ropes_16 : decode cX1_ropes 16 = .ok (.aload_n 0, 1) := by decide +kernel
theorem dX1_ropes_17 : decode cX1_ropes 17 = .ok (.getfield 20, 3) := by decide +kernel
theorem dX1_ropes_20 : decode cX1_ropes 20 = .ok (.iload_n 2, 1) := by decide +kernel
theorem dX1_ropes_21 : decode cX1_ropes 21 = .ok (.invokevirtual 52, 3) := by decide +kernel
theorem dX1_ropes_24 : decode cX1_ropes 24 = .ok (.invokestatic 66, 3) := by decide +kernel
theorem dX1_ropes_27 : decode cX1_ropes 27 = .ok (.iadd, 1) := by decide +kernel
theorem dX1_ropes_28 : decode cX1_ropes 28 = .ok (.istore_n 1, 1) := by decide +kernel
theorem dX1_ropes_29 : decode cX1_ropes 29 = .ok (.iinc 2 1, 3) := by decide +kernel
theorem dX1_ropes_32 : decode cX1_ropes 32 = .ok (.goto (-28), 3) := by decide +kernel
theorem dX1_ropes_35 : decode cX1_ropes 35 = .ok (.iload_n 1, 1) := by decide +kernel
theorem dX1_ropes_36 : decode cX1_ropes 36 = .ok (.iconst 2, 1) := by decide +kernel
theorem dX1_ropes_37 : decode cX1_ropes 37 = .ok (.idiv, 1) := by decide +kernel
theorem dX1_ropes_38 : decode cX1_ropes 38 = .ok (.ireturn, 1) := by decide +kernel
theorem dX1_joinsSoFar_0 : decode cX1_joinsSoFar 0 = .ok (.aload_n 0, 1) := by decide +kernel
theorem dX1_joinsSoFar_1 : decode cX1_joinsSoFar 1 = .ok (.getfield 38, 3) := by decide +kernel
theorem dX1_joinsSoFar_4 : decode cX1_joinsSoFar 4 = .ok (.ireturn, 1) := by decide +kernel
theorem dX1_cutsSoFar_0 : decode cX1_cutsSoFar 0 = .ok (.aload_n 0, 1) := by decide +kernel
theorem dX1_cutsSoFar_1 : decode cX1_cutsSoFar 1 = .ok (.getfield 42, 3) := by decide +kernel
theorem dX1_cutsSoFar_4 : decode cX1_cutsSoFar 4 = .ok (.ireturn, 1) := by decide +kernel
theorem dX1_turnsSoFar_0 : decode cX1_turnsSoFar 0 = .ok (.aload_n 0, 1) := by decide +kernel
theorem dX1_turnsSoFar_1 : decode cX1_turnsSoFar 1 = .ok (.getfield 45, 3) := by decide +kernel
theorem dX1_turnsSoFar_4 : decode cX1_turnsSoFar 4 = .ok (.ireturn, 1) := by decide +kernel
theorem dX1_addBankOf_0 : decode cX1_addBankOf 0 = .ok (.aload_n 0, 1) := by decide +kernel
theorem dX1_addBankOf_1 : decode cX1_addBankOf 1 = .ok (.getfield 14, 3) := by decide +kernel
theorem dX1_addBankOf_4 : decode cX1_addBankOf 4 = .ok (.invokevirtual 48, 3) := by decide +kernel
theorem dX1_addBankOf_7 : decode cX1_addBankOf 7 = .ok (.istore_n 2, 1) := by decide +kernel
theorem dX1_addBankOf_8 : decode cX1_addBankOf 8 = .ok (.aload_n 0, 1) := by decide +kernel
theorem dX1_addBankOf_9 : decode cX1_addBankOf 9 = .ok (.getfield 14, 3) := by decide +kernel
theorem dX1_addBankOf_12 : decode cX1_addBankOf 12 = .ok (.iload_n 1, 1) := by decide +kernel
theorem dX1_addBankOf_13 : decode cX1_addBankOf 13 = .ok (.invokevirtual 71, 3) := by decide +kernel
theorem dX1_addBankOf_16 : decode cX1_addBankOf 16 = .ok (.aload_n 0, 1) := by decide +kernel
theorem dX1_addBankOf_17 : decode cX1_addBankOf 17 = .ok (.getfield 20, 3) := by decide +kernel
theorem dX1_addBankOf_20 : decode cX1_addBankOf 20 = .ok (.iconst 0, 1) := by decide +kernel
theorem dX1_addBankOf_21 : decode cX1_addBankOf 21 = .ok (.invokevirtual 71, 3) := by decide +kernel
theorem dX1_addBankOf_24 : decode cX1_addBankOf 24 = .ok (.aload_n 0, 1) := by decide +kernel
theorem dX1_addBankOf_25 : decode cX1_addBankOf 25 = .ok (.iload_n 2, 1) := by decide +kernel
theorem dX1_addBankOf_26 : decode cX1_addBankOf 26 = .ok (.invokevirtual 34, 3) := by decide +kernel
theorem dX1_addBankOf_29 : decode cX1_addBankOf 29 = .ok (.iload_n 2, 1) := by decide +kernel
theorem dX1_addBankOf_30 : decode cX1_addBankOf 30 = .ok (.invokevirtual 71, 3) := by decide +kernel
theorem dX1_addBankOf_33 : decode cX1_addBankOf 33 = .ok (.iload_n 2, 1) := by decide +kernel
theorem dX1_addBankOf_34 : decode cX1_addBankOf 34 = .ok (.ireturn, 1) := by decide +kernel
theorem dX1_putWeight_0 : decode cX1_putWeight 0 = .ok (.aload_n 0, 1) := by decide +kernel
theorem dX1_putWeight_1 : decode cX1_putWeight 1 = .ok (.getfield 14, 3) := by decide +kernel
theorem dX1_putWeight_4 : decode cX1_putWeight 4 = .ok (.iload_n 1, 1) := by decide +kernel
theorem dX1_putWeight_5 : decode cX1_putWeight 5 = .ok (.iload_n 2, 1) := by decide +kernel
theorem dX1_putWeight_6 : decode cX1_putWeight 6 = .ok (.invokevirtual 74, 3) := by decide +kernel
theorem dX1_putWeight_9 : decode cX1_putWeight 9 = .ok (.return_, 1) := by decide +kernel
theorem dX1_raiseAll_0 : decode cX1_raiseAll 0 = .ok (.iconst 0, 1) := by decide +kernel
theorem dX1_raiseAll_1 : decode cX1_raiseAll 1 = .ok (.istore_n 3, 1) := by decide +kernel
theorem dX1_raiseAll_2 : decode cX1_raiseAll 2 = .ok (.iconst 0, 1) := by decide +kernel
theorem dX1_raiseAll_3 : decode cX1_raiseAll 3 = .ok (.istore 4, 2) := by decide +kernel
theorem dX1_raiseAll_5 : decode cX1_raiseAll 5 = .ok (.iload 4, 2) := by decide +kernel
theorem dX1_raiseAll_7 : decode cX1_raiseAll 7 = .ok (.aload_n 0, 1) := by decide +kernel
theorem dX1_raiseAll_8 : decode cX1_raiseAll 8 = .ok (.getfield 14, 3) := by decide +kernel
theorem dX1_raiseAll_11 : decode cX1_raiseAll 11 = .ok (.invokevirtual 48, 3) := by decide +kernel
theorem dX1_raiseAll_14 : decode cX1_raiseAll 14 = .ok (.if_icmp .ge 66, 3) := by decide +kernel
theorem dX1_raiseAll_17 : decode cX1_raiseAll 17 = .ok (.aload_n 0, 1) := by decide +kernel
theorem dX1_raiseAll_18 : decode cX1_raiseAll 18 = .ok (.getfield 14, 3) := by decide +kernel
theorem dX1_raiseAll_21 : decode cX1_raiseAll 21 = .ok (.iload 4, 2) := by decide +kernel
theorem dX1_raiseAll_23 : decode cX1_raiseAll 23 = .ok (.invokevirtual 52, 3) := by decide +kernel
theorem dX1_raiseAll_26 : decode cX1_raiseAll 26 = .ok (.istore 5, 2) := by decide +kernel
theorem dX1_raiseAll_28 : decode cX1_raiseAll 28 = .ok (.iconst 0, 1) := by decide +kernel
theorem dX1_raiseAll_29 : decode cX1_raiseAll 29 = .ok (.bipush 99, 2) := by decide +kernel
theorem dX1_raiseAll_31 : decode cX1_raiseAll 31 = .ok (.iload 5, 2) := by decide +kernel
theorem dX1_raiseAll_33 : decode cX1_raiseAll 33 = .ok (.iload_n 2, 1) := by decide +kernel
theorem dX1_raiseAll_34 : decode cX1_raiseAll 34 = .ok (.iadd, 1) := by decide +kernel
theorem dX1_raiseAll_35 : decode cX1_raiseAll 35 = .ok (.invokestatic 78, 3) := by decide +kernel
theorem dX1_raiseAll_38 : decode cX1_raiseAll 38 = .ok (.invokestatic 84, 3) := by decide +kernel
theorem dX1_raiseAll_41 : decode cX1_raiseAll 41 = .ok (.istore 6, 2) := by decide +kernel
theorem dX1_raiseAll_43 : decode cX1_raiseAll 43 = .ok (.iload_n 1, 1) := by decide +kernel
theorem dX1_raiseAll_44 : decode cX1_raiseAll 44 = .ok (.iload 4, 2) := by decide +kernel
theorem dX1_raiseAll_46 : decode cX1_raiseAll 46 = .ok (.invokestatic 56, 3) := by decide +kernel
theorem dX1_raiseAll_49 : decode cX1_raiseAll 49 = .ok (.iand, 1) := by decide +kernel
theorem dX1_raiseAll_50 : decode cX1_raiseAll 50 = .ok (.ifCond .eq 24, 3) := by decide +kernel
theorem dX1_raiseAll_53 : decode cX1_raiseAll 53 = .ok (.iload 6, 2) := by decide +kernel
theorem dX1_raiseAll_55 : decode cX1_raiseAll 55 = .ok (.iload 5, 2) := by decide +kernel
theorem dX1_raiseAll_57 : decode cX1_raiseAll 57 = .ok (.if_icmp .eq 17, 3) := by decide +kernel
theorem dX1_raiseAll_60 : decode cX1_raiseAll 60 = .ok (.aload_n 0, 1) := by decide +kernel
theorem dX1_raiseAll_61 : decode cX1_raiseAll 61 = .ok (.getfield 14, 3) := by decide +kernel
theorem dX1_raiseAll_64 : decode cX1_raiseAll 64 = .ok (.iload 4, 2) := by decide +kernel
theorem dX1_raiseAll_66 : decode cX1_raiseAll 66 = .ok (.iload 6, 2) := by decide +kernel
theorem dX1_raiseAll_68 : decode cX1_raiseAll 68 = .ok (.invokevirtual 74, 3) := by decide +kernel
theorem dX1_raiseAll_71 : decode cX1_raiseAll 71 = .ok (.iinc 3 1, 3) := by decide +kernel
theorem dX1_raiseAll_74 : decode cX1_raiseAll 74 = .ok (.iinc 4 1, 3) := by decide +kernel
theorem dX1_raiseAll_77 : decode cX1_raiseAll 77 = .ok (.goto (-72), 3) := by decide +kernel
theorem dX1_raiseAll_80 : decode cX1_raiseAll 80 = .ok (.iload_n 3, 1) := by decide +kernel
theorem dX1_raiseAll_81 : decode cX1_raiseAll 81 = .ok (.ireturn, 1) := by decide +kernel
theorem dX1_turnTo_0 : decode cX1_turnTo 0 = .ok (.aload_n 0, 1) := by decide +kernel
theorem dX1_turnTo_1 : decode cX1_turnTo 1 = .ok (.iload_n 1, 1) := by decide +kernel
theorem dX1_turnTo_2 : decode cX1_turnTo 2 = .ok (.invokevirtual 87, 3) := by decide +kernel
theorem dX1_turnTo_5 : decode cX1_turnTo 5 = .ok (.astore_n 2, 1) := by decide +kernel
theorem dX1_turnTo_6 : decode cX1_turnTo 6 = .ok (.aload_n 0, 1) := by decide +kernel
theorem dX1_turnTo_7 : decode cX1_turnTo 7 = .ok (.iload_n 1, 1) := by decide +kernel
theorem dX1_turnTo_8 : decode cX1_turnTo 8 = .ok (.invokevirtual 34, 3) := by decide +kernel
theorem dX1_turnTo_11 : decode cX1_turnTo 11 = .ok (.astore_n 3, 1) := by decide +kernel
theorem dX1_turnTo_12 : decode cX1_turnTo 12 = .ok (.aload_n 2, 1) := by decide +kernel
theorem dX1_turnTo_13 : decode cX1_turnTo 13 = .ok (.iload_n 1, 1) := by decide +kernel
theorem dX1_turnTo_14 : decode cX1_turnTo 14 = .ok (.invokevirtual 90, 3) := by decide +kernel
theorem dX1_turnTo_17 : decode cX1_turnTo 17 = .ok (.istore 4, 2) := by decide +kernel
theorem dX1_turnTo_19 : decode cX1_turnTo 19 = .ok (.iload 4, 2) := by decide +kernel
theorem dX1_turnTo_21 : decode cX1_turnTo 21 = .ok (.ifCond .gt 4, 3) := by decide +kernel
theorem dX1_turnTo_24 : decode cX1_turnTo 24 = .ok (.return_, 1) := by decide +kernel
theorem dX1_turnTo_25 : decode cX1_turnTo 25 = .ok (.aload_n 3, 1) := by decide +kernel
theorem dX1_turnTo_26 : decode cX1_turnTo 26 = .ok (.aload_n 2, 1) := by decide +kernel
theorem dX1_turnTo_27 : decode cX1_turnTo 27 = .ok (.iload 4, 2) := by decide +kernel
theorem dX1_turnTo_29 : decode cX1_turnTo 29 = .ok (.aload_n 2, 1) := by decide +kernel
theorem dX1_turnTo_30 : decode cX1_turnTo 30 = .ok (.invokevirtual 48, 3) := by decide +kernel
theorem dX1_turnTo_33 : decode cX1_turnTo 33 = .ok (.iconst 1, 1) := by decide +kernel
theorem dX1_turnTo_34 : decode cX1_turnTo 34 = .ok (.isub, 1) := by decide +kernel
theorem dX1_turnTo_35 : decode cX1_turnTo 35 = .ok (.invokevirtual 93, 3) := by decide +kernel
theorem dX1_turnTo_38 : decode cX1_turnTo 38 = .ok (.aload_n 3, 1) := by decide +kernel
theorem dX1_turnTo_39 : decode cX1_turnTo 39 = .ok (.aload_n 2, 1) := by decide +kernel
theorem dX1_turnTo_40 : decode cX1_turnTo 40 = .ok (.iconst 1, 1) := by decide +kernel
theorem dX1_turnTo_41 : decode cX1_turnTo 41 = .ok (.iload 4, 2) := by decide +kernel
theorem dX1_turnTo_43 : decode cX1_turnTo 43 = .ok (.invokevirtual 93, 3) := by decide +kernel
theorem dX1_turnTo_46 : decode cX1_turnTo 46 = .ok (.aload_n 2, 1) := by decide +kernel
theorem dX1_turnTo_47 : decode cX1_turnTo 47 = .ok (.invokevirtual 97, 3) := by decide +kernel
theorem dX1_turnTo_50 : decode cX1_turnTo 50 = .ok (.return_, 1) := by decide +kernel
theorem dX1_countTurn_0 : decode cX1_countTurn 0 = .ok (.aload_n 0, 1) := by decide +kernel
theorem dX1_countTurn_1 : decode cX1_countTurn 1 = .ok (.dup, 1) := by decide +kernel
theorem dX1_countTurn_2 : decode cX1_countTurn 2 = .ok (.getfield 45, 3) := by decide +kernel
theorem dX1_countTurn_5 : decode cX1_countTurn 5 = .ok (.iconst 1, 1) := by decide +kernel
theorem dX1_countTurn_6 : decode cX1_countTurn 6 = .ok (.iadd, 1) := by decide +kernel
theorem dX1_countTurn_7 : decode cX1_countTurn 7 = .ok (.putfield 45, 3) := by decide +kernel
theorem dX1_countTurn_10 : decode cX1_countTurn 10 = .ok (.return_, 1) := by decide +kernel
theorem dX1_tie_0 : decode cX1_tie 0 = .ok (.aload_n 0, 1) := by decide +kernel
theorem dX1_tie_1 : decode cX1_tie 1 = .ok (.iload_n 2, 1) := by decide +kernel
theorem dX1_tie_2 : decode cX1_tie 2 = .ok (.invokevirtual 34, 3) := by decide +kernel
theorem dX1_tie_5 : decode cX1_tie 5 = .ok (.astore_n 3, 1) := by decide +kernel
theorem dX1_tie_6 : decode cX1_tie 6 = .ok (.aload_n 0, 1) := by decide +kernel
theorem dX1_tie_7 : decode cX1_tie 7 = .ok (.iload_n 1, 1) := by decide +kernel
theorem dX1_tie_8 : decode cX1_tie 8 = .ok (.invokevirtual 87, 3) := by decide +kernel
theorem dX1_tie_11 : decode cX1_tie 11 = .ok (.astore 4, 2) := by decide +kernel
theorem dX1_tie_13 : decode cX1_tie 13 = .ok (.aload 4, 2) := by decide +kernel
theorem dX1_tie_15 : decode cX1_tie 15 = .ok (.iload_n 1, 1) := by decide +kernel
theorem dX1_tie_16 : decode cX1_tie 16 = .ok (.invokevirtual 90, 3) := by decide +kernel
theorem dX1_tie_19 : decode cX1_tie 19 = .ok (.istore 5, 2) := by decide +kernel
theorem dX1_tie_21 : decode cX1_tie 21 = .ok (.aload_n 3, 1) := by decide +kernel
theorem dX1_tie_22 : decode cX1_tie 22 = .ok (.iload_n 1, 1) := by decide +kernel
theorem dX1_tie_23 : decode cX1_tie 23 = .ok (.invokevirtual 71, 3) := by decide +kernel
theorem dX1_tie_26 : decode cX1_tie 26 = .ok (.aload_n 3, 1) := by decide +kernel
theorem dX1_tie_27 : decode cX1_tie 27 = .ok (.aload 4, 2) := by decide +kernel
theorem dX1_tie_29 : decode cX1_tie 29 = .ok (.iload 5, 2) := by decide +kernel
theorem dX1_tie_31 : decode cX1_tie 31 = .ok (.iconst 1, 1) := by decide +kernel
theorem dX1_tie_32 : decode cX1_tie 32 = .ok (.iadd, 1) := by decide +kernel
theorem dX1_tie_33 : decode cX1_tie 33 = .ok (.aload 4, 2) := by decide +kernel
theorem dX1_tie_35 : decode cX1_tie 35 = .ok (.invokevirtual 48, 3) := by decide +kernel
theorem dX1_tie_38 : decode cX1_tie 38 = .ok (.iconst 1, 1) := by decide +kernel
theorem dX1_tie_39 : decode cX1_tie 39 = .ok (.isub, 1) := by decide +kernel
theorem dX1_tie_40 : decode cX1_tie 40 = .ok (.invokevirtual 93, 3) := by decide +kernel
theorem dX1_tie_43 : decode cX1_tie 43 = .ok (.aload 4, 2) := by decide +kernel
theorem dX1_tie_45 : decode cX1_tie 45 = .ok (.iload 5, 2) := by decide +kernel
theorem dX1_tie_47 : decode cX1_tie 47 = .ok (.iconst 1, 1) := by decide +kernel
theorem dX1_tie_48 : decode cX1_tie 48 = .ok (.iadd, 1) := by decide +kernel
theorem dX1_tie_49 : decode cX1_tie 49 = .ok (.invokevirtual 100, 3) := by decide +kernel
theorem dX1_tie_52 : decode cX1_tie 52 = .ok (.aload 4, 2) := by decide +kernel
theorem dX1_tie_54 : decode cX1_tie 54 = .ok (.aload_n 3, 1) := by decide +kernel
theorem dX1_tie_55 : decode cX1_tie 55 = .ok (.iconst 0, 1) := by decide +kernel
theorem dX1_tie_56 : decode cX1_tie 56 = .ok (.aload_n 3, 1) := by decide +kernel
theorem dX1_tie_57 : decode cX1_tie 57 = .ok (.invokevirtual 48, 3) := by decide +kernel
theorem dX1_tie_60 : decode cX1_tie 60 = .ok (.iconst 1, 1) := by decide +kernel
theorem dX1_tie_61 : decode cX1_tie 61 = .ok (.isub, 1) := by decide +kernel
theorem dX1_tie_62 : decode cX1_tie 62 = .ok (.invokevirtual 93, 3) := by decide +kernel
theorem dX1_tie_65 : decode cX1_tie 65 = .ok (.aload_n 3, 1) := by decide +kernel
theorem dX1_tie_66 : decode cX1_tie 66 = .ok (.invokevirtual 97, 3) := by decide +kernel
theorem dX1_tie_69 : decode cX1_tie 69 = .ok (.aload_n 0, 1) := by decide +kernel
theorem dX1_tie_70 : decode cX1_tie 70 = .ok (.getfield 20, 3) := by decide +kernel
theorem dX1_tie_73 : decode cX1_tie 73 = .ok (.iload_n 1, 1) := by decide +kernel
theorem dX1_tie_74 : decode cX1_tie 74 = .ok (.aload_n 0, 1) := by decide +kernel
theorem dX1_tie_75 : decode cX1_tie 75 = .ok (.iload_n 1, 1) := by decide +kernel
theorem dX1_tie_76 : decode cX1_tie 76 = .ok (.invokevirtual 63, 3) := by decide +kernel
theorem dX1_tie_79 : decode cX1_tie 79 = .ok (.iload_n 2, 1) := by decide +kernel
theorem dX1_tie_80 : decode cX1_tie 80 = .ok (.invokestatic 56, 3) := by decide +kernel
theorem dX1_tie_83 : decode cX1_tie 83 = .ok (.ior, 1) := by decide +kernel
theorem dX1_tie_84 : decode cX1_tie 84 = .ok (.invokevirtual 74, 3) := by decide +kernel
theorem dX1_tie_87 : decode cX1_tie 87 = .ok (.aload_n 0, 1) := by decide +kernel
theorem dX1_tie_88 : decode cX1_tie 88 = .ok (.getfield 20, 3) := by decide +kernel
theorem dX1_tie_91 : decode cX1_tie 91 = .ok (.iload_n 2, 1) := by decide +kernel
theorem dX1_tie_92 : decode cX1_tie 92 = .ok (.aload_n 0, 1) := by decide +kernel
theorem dX1_tie_93 : decode cX1_tie 93 = .ok (.iload_n 2, 1) := by decide +kernel
theorem dX1_tie_94 : decode cX1_tie 94 = .ok (.invokevirtual 63, 3) := by decide +kernel
theorem dX1_tie_97 : decode cX1_tie 97 = .ok (.iload_n 1, 1) := by decide +kernel
theorem dX1_tie_98 : decode cX1_tie 98 = .ok (.invokestatic 56, 3) := by decide +kernel
theorem dX1_tie_101 : decode cX1_tie 101 = .ok (.ior, 1) := by decide +kernel
theorem dX1_tie_102 : decode cX1_tie 102 = .ok (.invokevirtual 74, 3) := by decide +kernel
theorem dX1_tie_105 : decode cX1_tie 105 = .ok (.aload_n 0, 1) := by decide +kernel
theorem dX1_tie_106 : decode cX1_tie 106 = .ok (.dup, 1) := by decide +kernel
theorem dX1_tie_107 : decode cX1_tie 107 = .ok (.getfield 38, 3) := by decide +kernel
theorem dX1_tie_110 : decode cX1_tie 110 = .ok (.iconst 1, 1) := by decide +kernel
theorem dX1_tie_111 : decode cX1_tie 111 = .ok (.iadd, 1) := by decide +kernel
theorem dX1_tie_112 : decode cX1_tie 112 = .ok (.putfield 38, 3) := by decide +kernel
theorem dX1_tie_115 : decode cX1_tie 115 = .ok (.return_, 1) := by decide +kernel
theorem dX1_untie_0 : decode cX1_untie 0 = .ok (.aload_n 0, 1) := by decide +kernel
theorem dX1_untie_1 : decode cX1_untie 1 = .ok (.iload_n 1, 1) := by decide +kernel
theorem dX1_untie_2 : decode cX1_untie 2 = .ok (.invokevirtual 87, 3) := by decide +kernel
theorem dX1_untie_5 : decode cX1_untie 5 = .ok (.astore_n 3, 1) := by decide +kernel
theorem dX1_untie_6 : decode cX1_untie 6 = .ok (.aload_n 3, 1) := by decide +kernel
theorem dX1_untie_7 : decode cX1_untie 7 = .ok (.iload_n 1, 1) := by decide +kernel
theorem dX1_untie_8 : decode cX1_untie 8 = .ok (.invokevirtual 90, 3) := by decide +kernel
theorem dX1_untie_11 : decode cX1_untie 11 = .ok (.istore 4, 2) := by decide +kernel
theorem dX1_untie_13 : decode cX1_untie 13 = .ok (.aload_n 3, 1) := by decide +kernel
theorem dX1_untie_14 : decode cX1_untie 14 = .ok (.iload_n 1, 1) := by decide +kernel
theorem dX1_untie_15 : decode cX1_untie 15 = .ok (.invokevirtual 103, 3) := by decide +kernel
theorem dX1_untie_18 : decode cX1_untie 18 = .ok (.istore 5, 2) := by decide +kernel
theorem dX1_untie_20 : decode cX1_untie 20 = .ok (.aload_n 0, 1) := by decide +kernel
theorem dX1_untie_21 : decode cX1_untie 21 = .ok (.iload_n 1, 1) := by decide +kernel
theorem dX1_untie_22 : decode cX1_untie 22 = .ok (.invokevirtual 34, 3) := by decide +kernel
theorem dX1_untie_25 : decode cX1_untie 25 = .ok (.aload_n 3, 1) := by decide +kernel
theorem dX1_untie_26 : decode cX1_untie 26 = .ok (.iload 4, 2) := by decide +kernel
theorem dX1_untie_28 : decode cX1_untie 28 = .ok (.iload 5, 2) := by decide +kernel
theorem dX1_untie_30 : decode cX1_untie 30 = .ok (.invokevirtual 93, 3) := by decide +kernel
theorem dX1_untie_33 : decode cX1_untie 33 = .ok (.aload_n 3, 1) := by decide +kernel
theorem dX1_untie_34 : decode cX1_untie 34 = .ok (.iload 4, 2) := by decide +kernel
theorem dX1_untie_36 : decode cX1_untie 36 = .ok (.iload 5, 2) := by decide +kernel
theorem dX1_untie_38 : decode cX1_untie 38 = .ok (.iconst 1, 1) := by decide +kernel
theorem dX1_untie_39 : decode cX1_untie 39 = .ok (.iadd, 1) := by decide +kernel
theorem dX1_untie_40 : decode cX1_untie 40 = .ok (.invokevirtual 106, 3) := by decide +kernel
theorem dX1_untie_43 : decode cX1_untie 43 = .ok (.aload_n 0, 1) := by decide +kernel
theorem dX1_untie_44 : decode cX1_untie 44 = .ok (.getfield 20, 3) := by decide +kernel
theorem dX1_untie_47 : decode cX1_untie 47 = .ok (.iload_n 1, 1) := by decide +kernel
theorem dX1_untie_48 : decode cX1_untie 48 = .ok (.aload_n 0, 1) := by decide +kernel
theorem dX1_untie_49 : decode cX1_untie 49 = .ok (.iload_n 1, 1) := by decide +kernel
theorem dX1_untie_50 : decode cX1_untie 50 = .ok (.invokevirtual 63, 3) := by decide +kernel
theorem dX1_untie_53 : decode cX1_untie 53 = .ok (.iload_n 2, 1) := by decide +kernel
theorem dX1_untie_54 : decode cX1_untie 54 = .ok (.invokestatic 56, 3) := by decide +kernel
theorem dX1_untie_57 : decode cX1_untie 57 = .ok (.iconst (-1), 1) := by decide +kernel
theorem dX1_untie_58 : decode cX1_untie 58 = .ok (.ixor, 1) := by decide +kernel
theorem dX1_untie_59 : decode cX1_untie 59 = .ok (.iand, 1) := by decide +kernel
theorem dX1_untie_60 : decode cX1_untie 60 = .ok (.invokevirtual 74, 3) := by decide +kernel
theorem dX1_untie_63 : decode cX1_untie 63 = .ok (.aload_n 0, 1) := by decide +kernel
theorem dX1_untie_64 : decode cX1_untie 64 = .ok (.getfield 20, 3) := by decide +kernel
theorem dX1_untie_67 : decode cX1_untie 67 = .ok (.iload_n 2, 1) := by decide +kernel
theorem dX1_untie_68 : decode cX1_untie 68 = .ok (.aload_n 0, 1) := by decide +kernel
theorem dX1_untie_69 : decode cX1_untie 69 = .ok (.iload_n 2, 1) := by decide +kernel
theorem dX1_untie_70 : decode cX1_untie 70 = .ok (.invokevirtual 63, 3) := by decide +kernel
theorem dX1_untie_73 : decode cX1_untie 73 = .ok (.iload_n 1, 1) := by decide +kernel
theorem dX1_untie_74 : decode cX1_untie 74 = .ok (.invokestatic 56, 3) := by decide +kernel
theorem dX1_untie_77 : decode cX1_untie 77 = .ok (.iconst (-1), 1) := by decide +kernel
theorem dX1_untie_78 : decode cX1_untie 78 = .ok (.ixor, 1) := by decide +kernel
theorem dX1_untie_79 : decode cX1_untie 79 = .ok (.iand, 1) := by decide +kernel
theorem dX1_untie_80 : decode cX1_untie 80 = .ok (.invokevirtual 74, 3) := by decide +kernel
theorem dX1_untie_83 : decode cX1_untie 83 = .ok (.aload_n 0, 1) := by decide +kernel
theorem dX1_untie_84 : decode cX1_untie 84 = .ok (.dup, 1) := by decide +kernel
theorem dX1_untie_85 : decode cX1_untie 85 = .ok (.getfield 42, 3) := by decide +kernel
theorem dX1_untie_88 : decode cX1_untie 88 = .ok (.iconst 1, 1) := by decide +kernel
theorem dX1_untie_89 : decode cX1_untie 89 = .ok (.iadd, 1) := by decide +kernel
theorem dX1_untie_90 : decode cX1_untie 90 = .ok (.putfield 42, 3) := by decide +kernel
theorem dX1_untie_93 : decode cX1_untie 93 = .ok (.return_, 1) := by decide +kernel
theorem dX1_roundAt_0 : decode cX1_roundAt 0 = .ok (.iload_n 1, 1) := by decide +kernel
theorem dX1_roundAt_1 : decode cX1_roundAt 1 = .ok (.ifCond .lt 12, 3) := by decide +kernel
theorem dX1_roundAt_4 : decode cX1_roundAt 4 = .ok (.iload_n 1, 1) := by decide +kernel
theorem dX1_roundAt_5 : decode cX1_roundAt 5 = .ok (.aload_n 0, 1) := by decide +kernel
theorem dX1_roundAt_6 : decode cX1_roundAt 6 = .ok (.getfield 23, 3) := by decide +kernel
theorem dX1_roundAt_9 : decode cX1_roundAt 9 = .ok (.arraylength, 1) := by decide +kernel
theorem dX1_roundAt_10 : decode cX1_roundAt 10 = .ok (.if_icmp .lt 8, 3) := by decide +kernel
theorem dX1_roundAt_13 : decode cX1_roundAt 13 = .ok (.aload_n 0, 1) := by decide +kernel
theorem dX1_roundAt_14 : decode cX1_roundAt 14 = .ok (.getfield 27, 3) := by decide +kernel
theorem dX1_roundAt_17 : decode cX1_roundAt 17 = .ok (.areturn, 1) := by decide +kernel
theorem dX1_roundAt_18 : decode cX1_roundAt 18 = .ok (.aload_n 0, 1) := by decide +kernel
theorem dX1_roundAt_19 : decode cX1_roundAt 19 = .ok (.getfield 23, 3) := by decide +kernel
theorem dX1_roundAt_22 : decode cX1_roundAt 22 = .ok (.iload_n 1, 1) := by decide +kernel
theorem dX1_roundAt_23 : decode cX1_roundAt 23 = .ok (.aaload, 1) := by decide +kernel
theorem dX1_roundAt_24 : decode cX1_roundAt 24 = .ok (.astore_n 2, 1) := by decide +kernel
theorem dX1_roundAt_25 : decode cX1_roundAt 25 = .ok (.aload_n 2, 1) := by decide +kernel
theorem dX1_roundAt_26 : decode cX1_roundAt 26 = .ok (.ifnonnull 10, 3) := by decide +kernel
theorem dX1_roundAt_29 : decode cX1_roundAt 29 = .ok (.aload_n 0, 1) := by decide +kernel
theorem dX1_roundAt_30 : decode cX1_roundAt 30 = .ok (.getfield 27, 3) := by decide +kernel
theorem dX1_roundAt_33 : decode cX1_roundAt 33 = .ok (.goto 4, 3) := by decide +kernel
theorem dX1_roundAt_36 : decode cX1_roundAt 36 = .ok (.aload_n 2, 1) := by decide +kernel
theorem dX1_roundAt_37 : decode cX1_roundAt 37 = .ok (.areturn, 1) := by decide +kernel
theorem dX1_rootOf_0 : decode cX1_rootOf 0 = .ok (.iconst 0, 1) := by decide +kernel
theorem dX1_rootOf_1 : decode cX1_rootOf 1 = .ok (.istore_n 2, 1) := by decide +kernel
theorem dX1_rootOf_2 : decode cX1_rootOf 2 = .ok (.iload_n 2, 1) := by decide +kernel
theorem dX1_rootOf_3 : decode cX1_rootOf 3 = .ok (.bipush 12, 2) := by decide +kernel
theorem dX1_rootOf_5 : decode cX1_rootOf 5 = .ok (.if_icmp .ge 23, 3) := by decide +kernel
theorem dX1_rootOf_8 : decode cX1_rootOf 8 = .ok (.aload_n 0, 1) := by decide +kernel
theorem dX1_rootOf_9 : decode cX1_rootOf 9 = .ok (.iload_n 2, 1) := by decide +kernel
theorem dX1_rootOf_10 : decode cX1_rootOf 10 = .ok (.invokevirtual 34, 3) := by decide +kernel
theorem dX1_rootOf_13 : decode cX1_rootOf 13 = .ok (.iload_n 1, 1) := by decide +kernel
theorem dX1_rootOf_14 : decode cX1_rootOf 14 = .ok (.invokevirtual 90, 3) := by decide +kernel
theorem dX1_rootOf_17 : decode cX1_rootOf 17 = .ok (.ifCond .lt 5, 3) := by decide +kernel
theorem dX1_rootOf_20 : decode cX1_rootOf 20 = .ok (.iload_n 2, 1) := by decide +kernel
theorem dX1_rootOf_21 : decode cX1_rootOf 21 = .ok (.ireturn, 1) := by decide +kernel
theorem dX1_rootOf_22 : decode cX1_rootOf 22 = .ok (.iinc 2 1, 3) := by decide +kernel
theorem dX1_rootOf_25 : decode cX1_rootOf 25 = .ok (.goto (-23), 3) := by decide +kernel
theorem dX1_rootOf_28 : decode cX1_rootOf 28 = .ok (.iconst (-1), 1) := by decide +kernel
theorem dX1_rootOf_29 : decode cX1_rootOf 29 = .ok (.ireturn, 1) := by decide +kernel
theorem dX1_roundOf_0 : decode cX1_roundOf 0 = .ok (.aload_n 0, 1) := by decide +kernel
theorem dX1_roundOf_1 : decode cX1_roundOf 1 = .ok (.aload_n 0, 1) := by decide +kernel
theorem dX1_roundOf_2 : decode cX1_roundOf 2 = .ok (.iload_n 1, 1) := by decide +kernel
theorem dX1_roundOf_3 : decode cX1_roundOf 3 = .ok (.invokevirtual 109, 3) := by decide +kernel
theorem dX1_roundOf_6 : decode cX1_roundOf 6 = .ok (.invokevirtual 34, 3) := by decide +kernel
theorem dX1_roundOf_9 : decode cX1_roundOf 9 = .ok (.areturn, 1) := by decide +kernel
theorem dX1_isRoot_0 : decode cX1_isRoot 0 = .ok (.aload_n 0, 1) := by decide +kernel
theorem dX1_isRoot_1 : decode cX1_isRoot 1 = .ok (.iload_n 1, 1) := by decide +kernel
theorem dX1_isRoot_2 : decode cX1_isRoot 2 = .ok (.invokevirtual 34, 3) := by decide +kernel
theorem dX1_isRoot_5 : decode cX1_isRoot 5 = .ok (.invokevirtual 48, 3) := by decide +kernel
theorem dX1_isRoot_8 : decode cX1_isRoot 8 = .ok (.ifCond .le 7, 3) := by decide +kernel
theorem dX1_isRoot_11 : decode cX1_isRoot 11 = .ok (.iconst 1, 1) := by decide +kernel
theorem dX1_isRoot_12 : decode cX1_isRoot 12 = .ok (.goto 4, 3) := by decide +kernel
theorem dX1_isRoot_15 : decode cX1_isRoot 15 = .ok (.iconst 0, 1) := by decide +kernel
theorem dX1_isRoot_16 : decode cX1_isRoot 16 = .ok (.ireturn, 1) := by decide +kernel
theorem dX1_parts_0 : decode cX1_parts 0 = .ok (.iconst 0, 1) := by decide +kernel
theorem dX1_parts_1 : decode cX1_parts 1 = .ok (.istore_n 1, 1) := by decide +kernel
theorem dX1_parts_2 : decode cX1_parts 2 = .ok (.iconst 0, 1) := by decide +kernel
theorem dX1_parts_3 : decode cX1_parts 3 = .ok (.istore_n 2, 1) := by decide +kernel
theorem dX1_parts_4 : decode cX1_parts 4 = .ok (.iload_n 2, 1) := by decide +kernel
theorem dX1_parts_5 : decode cX1_parts 5 = .ok (.bipush 12, 2) := by decide +kernel
theorem dX1_parts_7 : decode cX1_parts 7 = .ok (.if_icmp .ge 25, 3) := by decide +kernel
theorem dX1_parts_10 : decode cX1_parts 10 = .ok (.iload_n 1, 1) := by decide +kernel
theorem dX1_parts_11 : decode cX1_parts 11 = .ok (.aload_n 0, 1) := by decide +kernel
theorem dX1_parts_12 : decode cX1_parts 12 = .ok (.iload_n 2, 1) := by decide +kernel
theorem dX1_parts_13 : decode cX1_parts 13 = .ok (.invokevirtual 112, 3) := by decide +kernel
theorem dX1_parts_16 : decode cX1_parts 16 = .ok (.ifCond .eq 7, 3) := by decide +kernel
theorem dX1_parts_19 : decode cX1_parts 19 = .ok (.iconst 1, 1) := by decide +kernel
theorem dX1_parts_20 : decode cX1_parts 20 = .ok (.goto 4, 3) := by decide +kernel
theorem dX1_parts_23 : decode cX1_parts 23 = .ok (.iconst 0, 1) := by decide +kernel
theorem dX1_parts_24 : decode cX1_parts 24 = .ok (.iadd, 1) := by decide +kernel
theorem dX1_parts_25 : decode cX1_parts 25 = .ok (.istore_n 1, 1) := by decide +kernel
theorem dX1_parts_26 : decode cX1_parts 26 = .ok (.iinc 2 1, 3) := by decide +kernel
theorem dX1_parts_29 : decode cX1_parts 29 = .ok (.goto (-25), 3) := by decide +kernel
theorem dX1_parts_32 : decode cX1_parts 32 = .ok (.iload_n 1, 1) := by decide +kernel
theorem dX1_parts_33 : decode cX1_parts 33 = .ok (.ireturn, 1) := by decide +kernel
theorem dX1_places_0 : decode cX1_places 0 = .ok (.iconst 0, 1) := by decide +kernel
theorem dX1_places_1 : decode cX1_places 1 = .ok (.istore_n 1, 1) := by decide +kernel
theorem dX1_places_2 : decode cX1_places 2 = .ok (.iconst 0, 1) := by decide +kernel
theorem dX1_places_3 : decode cX1_places 3 = .ok (.istore_n 2, 1) := by decide +kernel
theorem dX1_places_4 : decode cX1_places 4 = .ok (.iload_n 2, 1) := by decide +kernel
theorem dX1_places_5 : decode cX1_places 5 = .ok (.bipush 12, 2) := by decide +kernel
theorem dX1_places_7 : decode cX1_places 7 = .ok (.if_icmp .ge 20, 3) := by decide +kernel
theorem dX1_places_10 : decode cX1_places 10 = .ok (.iload_n 1, 1) := by decide +kernel
theorem dX1_places_11 : decode cX1_places 11 = .ok (.aload_n 0, 1) := by decide +kernel
theorem dX1_places_12 : decode cX1_places 12 = .ok (.iload_n 2, 1) := by decide +kernel
theorem dX1_places_13 : decode cX1_places 13 = .ok (.invokevirtual 34, 3) := by decide +kernel
theorem dX1_places_16 : decode cX1_places 16 = .ok (.invokevirtual 48, 3) := by decide +kernel
theorem dX1_places_19 : decode cX1_places 19 = .ok (.iadd, 1) := by decide +kernel
theorem dX1_places_20 : decode cX1_places 20 = .ok (.istore_n 1, 1) := by decide +kernel
theorem dX1_places_21 : decode cX1_places 21 = .ok (.iinc 2 1, 3) := by decide +kernel
theorem dX1_places_24 : decode cX1_places 24 = .ok (.goto (-20), 3) := by decide +kernel
theorem dX1_places_27 : decode cX1_places 27 = .ok (.iload_n 1, 1) := by decide +kernel
theorem dX1_places_28 : decode cX1_places 28 = .ok (.ireturn, 1) := by decide +kernel
theorem dX1_banksWith_0 : decode cX1_banksWith 0 = .ok (.aload_n 0, 1) := by decide +kernel
theorem dX1_banksWith_1 : decode cX1_banksWith 1 = .ok (.iload_n 1, 1) := by decide +kernel
theorem dX1_banksWith_2 : decode cX1_banksWith 2 = .ok (.invokevirtual 87, 3) := by decide +kernel
theorem dX1_banksWith_5 : decode cX1_banksWith 5 = .ok (.invokevirtual 115, 3) := by decide +kernel
theorem dX1_banksWith_8 : decode cX1_banksWith 8 = .ok (.ireturn, 1) := by decide +kernel
theorem dX1_isOnePart_0 : decode cX1_isOnePart 0 = .ok (.aload_n 0, 1) := by decide +kernel
theorem dX1_isOnePart_1 : decode cX1_isOnePart 1 = .ok (.iload_n 1, 1) := by decide +kernel
theorem dX1_isOnePart_2 : decode cX1_isOnePart 2 = .ok (.invokevirtual 87, 3) := by decide +kernel
theorem dX1_isOnePart_5 : decode cX1_isOnePart 5 = .ok (.iload_n 2, 1) := by decide +kernel
theorem dX1_isOnePart_6 : decode cX1_isOnePart 6 = .ok (.invokevirtual 90, 3) := by decide +kernel
theorem dX1_isOnePart_9 : decode cX1_isOnePart 9 = .ok (.ifCond .lt 7, 3) := by decide +kernel
theorem dX1_isOnePart_12 : decode cX1_isOnePart 12 = .ok (.iconst 1, 1) := by decide +kernel
theorem dX1_isOnePart_13 : decode cX1_isOnePart 13 = .ok (.goto 4, 3) := by decide +kernel
theorem dX1_isOnePart_16 : decode cX1_isOnePart 16 = .ok (.iconst 0, 1) := by decide +kernel
theorem dX1_isOnePart_17 : decode cX1_isOnePart 17 = .ok (.ireturn, 1) := by decide +kernel
theorem dX1_aboveOf_0 : decode cX1_aboveOf 0 = .ok (.aload_n 0, 1) := by decide +kernel
theorem dX1_aboveOf_1 : decode cX1_aboveOf 1 = .ok (.iload_n 1, 1) := by decide +kernel
theorem dX1_aboveOf_2 : decode cX1_aboveOf 2 = .ok (.invokevirtual 87, 3) := by decide +kernel
theorem dX1_aboveOf_5 : decode cX1_aboveOf 5 = .ok (.astore_n 2, 1) := by decide +kernel
theorem dX1_aboveOf_6 : decode cX1_aboveOf 6 = .ok (.aload_n 2, 1) := by decide +kernel
theorem dX1_aboveOf_7 : decode cX1_aboveOf 7 = .ok (.iconst 0, 1) := by decide +kernel
theorem dX1_aboveOf_8 : decode cX1_aboveOf 8 = .ok (.aload_n 2, 1) := by decide +kernel
theorem dX1_aboveOf_9 : decode cX1_aboveOf 9 = .ok (.iload_n 1, 1) := by decide +kernel
theorem dX1_aboveOf_10 : decode cX1_aboveOf 10 = .ok (.invokevirtual 90, 3) := by decide +kernel
theorem dX1_aboveOf_13 : decode cX1_aboveOf 13 = .ok (.invokevirtual 118, 3) := by decide +kernel
theorem dX1_aboveOf_16 : decode cX1_aboveOf 16 = .ok (.istore_n 3, 1) := by decide +kernel
theorem dX1_aboveOf_17 : decode cX1_aboveOf 17 = .ok (.aload_n 2, 1) := by decide +kernel
theorem dX1_aboveOf_18 : decode cX1_aboveOf 18 = .ok (.aload_n 2, 1) := by decide +kernel
theorem dX1_aboveOf_19 : decode cX1_aboveOf 19 = .ok (.iload_n 1, 1) := by decide +kernel
theorem dX1_aboveOf_20 : decode cX1_aboveOf 20 = .ok (.invokevirtual 103, 3) := by decide +kernel
theorem dX1_aboveOf_23 : decode cX1_aboveOf 23 = .ok (.aload_n 2, 1) := by decide +kernel
theorem dX1_aboveOf_24 : decode cX1_aboveOf 24 = .ok (.invokevirtual 48, 3) := by decide +kernel
theorem dX1_aboveOf_27 : decode cX1_aboveOf 27 = .ok (.iconst 1, 1) := by decide +kernel
theorem dX1_aboveOf_28 : decode cX1_aboveOf 28 = .ok (.isub, 1) := by decide +kernel
theorem dX1_aboveOf_29 : decode cX1_aboveOf 29 = .ok (.invokevirtual 118, 3) := by decide +kernel
theorem dX1_aboveOf_32 : decode cX1_aboveOf 32 = .ok (.istore 4, 2) := by decide +kernel
theorem dX1_aboveOf_34 : decode cX1_aboveOf 34 = .ok (.iload_n 3, 1) := by decide +kernel
theorem dX1_aboveOf_35 : decode cX1_aboveOf 35 = .ok (.iload 4, 2) := by decide +kernel
theorem dX1_aboveOf_37 : decode cX1_aboveOf 37 = .ok (.iand, 1) := by decide +kernel
theorem dX1_aboveOf_38 : decode cX1_aboveOf 38 = .ok (.ireturn, 1) := by decide +kernel
theorem dX1_belowOf_0 : decode cX1_belowOf 0 = .ok (.aload_n 0, 1) := by decide +kernel
theorem dX1_belowOf_1 : decode cX1_belowOf 1 = .ok (.iload_n 1, 1) := by decide +kernel
theorem dX1_belowOf_2 : decode cX1_belowOf 2 = .ok (.invokevirtual 87, 3) := by decide +kernel
theorem dX1_belowOf_5 : decode cX1_belowOf 5 = .ok (.astore_n 2, 1) := by decide +kernel
theorem dX1_belowOf_6 : decode cX1_belowOf 6 = .ok (.aload_n 2, 1) := by decide +kernel
theorem dX1_belowOf_7 : decode cX1_belowOf 7 = .ok (.aload_n 2, 1) := by decide +kernel
theorem dX1_belowOf_8 : decode cX1_belowOf 8 = .ok (.iload_n 1, 1) := by decide +kernel
theorem dX1_belowOf_9 : decode cX1_belowOf 9 = .ok (.invokevirtual 90, 3) := by decide +kernel
theorem dX1_belowOf_12 : decode cX1_belowOf 12 = .ok (.aload_n 2, 1) := by decide +kernel
theorem dX1_belowOf_13 : decode cX1_belowOf 13 = .ok (.iload_n 1, 1) := by decide +kernel
theorem dX1_belowOf_14 : decode cX1_belowOf 14 = .ok (.invokevirtual 103, 3) := by decide +kernel
theorem dX1_belowOf_17 : decode cX1_belowOf 17 = .ok (.invokevirtual 118, 3) := by decide +kernel
theorem dX1_belowOf_20 : decode cX1_belowOf 20 = .ok (.ireturn, 1) := by decide +kernel
theorem dX1_depthOf_0 : decode cX1_depthOf 0 = .ok (.aload_n 0, 1) := by decide +kernel
theorem dX1_depthOf_1 : decode cX1_depthOf 1 = .ok (.iload_n 1, 1) := by decide +kernel
theorem dX1_depthOf_2 : decode cX1_depthOf 2 = .ok (.invokevirtual 121, 3) := by decide +kernel
theorem dX1_depthOf_5 : decode cX1_depthOf 5 = .ok (.invokestatic 66, 3) := by decide +kernel
theorem dX1_depthOf_8 : decode cX1_depthOf 8 = .ok (.iconst 1, 1) := by decide +kernel
theorem dX1_depthOf_9 : decode cX1_depthOf 9 = .ok (.isub, 1) := by decide +kernel
theorem dX1_depthOf_10 : decode cX1_depthOf 10 = .ok (.ireturn, 1) := by decide +kernel
theorem dX1_justAbove_0 : decode cX1_justAbove 0 = .ok (.aload_n 0, 1) := by decide +kernel
theorem dX1_justAbove_1 : decode cX1_justAbove 1 = .ok (.iload_n 1, 1) := by decide +kernel
theorem dX1_justAbove_2 : decode cX1_justAbove 2 = .ok (.invokevirtual 87, 3) := by decide +kernel
theorem dX1_justAbove_5 : decode cX1_justAbove 5 = .ok (.astore_n 2, 1) := by decide +kernel
theorem dX1_justAbove_6 : decode cX1_justAbove 6 = .ok (.aload_n 2, 1) := by decide +kernel
theorem dX1_justAbove_7 : decode cX1_justAbove 7 = .ok (.iload_n 1, 1) := by decide +kernel
theorem dX1_justAbove_8 : decode cX1_justAbove 8 = .ok (.invokevirtual 90, 3) := by decide +kernel
theorem dX1_justAbove_11 : decode cX1_justAbove 11 = .ok (.istore_n 3, 1) := by decide +kernel
theorem dX1_justAbove_12 : decode cX1_justAbove 12 = .ok (.iload_n 3, 1) := by decide +kernel
theorem dX1_justAbove_13 : decode cX1_justAbove 13 = .ok (.ifCond .gt 8, 3) := by decide +kernel
theorem dX1_justAbove_16 : decode cX1_justAbove 16 = .ok (.bipush (-4), 2) := by decide +kernel
theorem dX1_justAbove_18 : decode cX1_justAbove 18 = .ok (.goto 10, 3) := by decide +kernel
theorem dX1_justAbove_21 : decode cX1_justAbove 21 = .ok (.aload_n 2, 1) := by decide +kernel
theorem dX1_justAbove_22 : decode cX1_justAbove 22 = .ok (.iload_n 3, 1) := by decide +kernel
theorem dX1_justAbove_23 : decode cX1_justAbove 23 = .ok (.iconst 1, 1) := by decide +kernel
theorem dX1_justAbove_24 : decode cX1_justAbove 24 = .ok (.isub, 1) := by decide +kernel
theorem dX1_justAbove_25 : decode cX1_justAbove 25 = .ok (.invokevirtual 52, 3) := by decide +kernel
theorem dX1_justAbove_28 : decode cX1_justAbove 28 = .ok (.ireturn, 1) := by decide +kernel
theorem dX1_stepsAbove_0 : decode cX1_stepsAbove 0 = .ok (.iload_n 1, 1) := by decide +kernel
theorem dX1_stepsAbove_1 : decode cX1_stepsAbove 1 = .ok (.istore_n 3, 1) := by decide +kernel
theorem dX1_stepsAbove_2 : decode cX1_stepsAbove 2 = .ok (.iconst 0, 1) := by decide +kernel
theorem dX1_stepsAbove_3 : decode cX1_stepsAbove 3 = .ok (.istore 4, 2) := by decide +kernel
theorem dX1_stepsAbove_5 : decode cX1_stepsAbove 5 = .ok (.iload 4, 2) := by decide +kernel
theorem dX1_stepsAbove_7 : decode cX1_stepsAbove 7 = .ok (.iload_n 2, 1) := by decide +kernel
theorem dX1_stepsAbove_8 : decode cX1_stepsAbove 8 = .ok (.if_icmp .ge 15, 3) := by decide +kernel
theorem dX1_stepsAbove_11 : decode cX1_stepsAbove 11 = .ok (.aload_n 0, 1) := by decide +kernel
theorem dX1_stepsAbove_12 : decode cX1_stepsAbove 12 = .ok (.iload_n 3, 1) := by decide +kernel
theorem dX1_stepsAbove_13 : decode cX1_stepsAbove 13 = .ok (.invokevirtual 124, 3) := by decide +kernel
theorem dX1_stepsAbove_16 : decode cX1_stepsAbove 16 = .ok (.istore_n 3, 1) := by decide +kernel
theorem dX1_stepsAbove_17 : decode cX1_stepsAbove 17 = .ok (.iinc 4 1, 3) := by decide +kernel
theorem dX1_stepsAbove_20 : decode cX1_stepsAbove 20 = .ok (.goto (-15), 3) := by decide +kernel
theorem dX1_stepsAbove_23 : decode cX1_stepsAbove 23 = .ok (.iload_n 3, 1) := by decide +kernel
theorem dX1_stepsAbove_24 : decode cX1_stepsAbove 24 = .ok (.ireturn, 1) := by decide +kernel
theorem dX1_greatestDepth_0 : decode cX1_greatestDepth 0 = .ok (.iconst 0, 1) := by decide +kernel
theorem dX1_greatestDepth_1 : decode cX1_greatestDepth 1 = .ok (.istore_n 2, 1) := by decide +kernel
theorem dX1_greatestDepth_2 : decode cX1_greatestDepth 2 = .ok (.iconst 0, 1) := by decide +kernel
theorem dX1_greatestDepth_3 : decode cX1_greatestDepth 3 = .ok (.istore_n 3, 1) := by decide +kernel
theorem dX1_greatestDepth_4 : decode cX1_greatestDepth 4 = .ok (.iload_n 3, 1) := by decide +kernel
theorem dX1_greatestDepth_5 : decode cX1_greatestDepth 5 = .ok (.aload_n 0, 1) := by decide +kernel
theorem dX1_greatestDepth_6 : decode cX1_greatestDepth 6 = .ok (.getfield 14, 3) := by decide +kernel
theorem dX1_greatestDepth_9 : decode cX1_greatestDepth 9 = .ok (.invokevirtual 48, 3) := by decide +kernel
theorem dX1_greatestDepth_12 : decode cX1_greatestDepth 12 = .ok (.if_icmp .ge 28, 3) := by decide +kernel
theorem dX1_greatestDepth_15 : decode cX1_greatestDepth 15 = .ok (.iload_n 1, 1) := by decide +kernel
theorem dX1_greatestDepth_16 : decode cX1_greatestDepth 16 = .ok (.iload_n 3, 1) := by decide +kernel
theorem dX1_greatestDepth_17 : decode cX1_greatestDepth 17 = .ok (.invokestatic 56, 3) := by decide +kernel
theorem dX1_greatestDepth_20 : decode cX1_greatestDepth 20 = .ok (.iand, 1) := by decide +kernel
theorem dX1_greatestDepth_21 : decode cX1_greatestDepth 21 = .ok (.ifCond .eq 13, 3) := by decide +kernel
theorem dX1_greatestDepth_24 : decode cX1_greatestDepth 24 = .ok (.iload_n 2, 1) := by decide +kernel
theorem dX1_greatestDepth_25 : decode cX1_greatestDepth 25 = .ok (.aload_n 0, 1) := by decide +kernel
theorem dX1_greatestDepth_26 : decode cX1_greatestDepth 26 = .ok (.iload_n 3, 1) := by decide +kernel
theorem dX1_greatestDepth_27 : decode cX1_greatestDepth 27 = .ok (.invokevirtual 127, 3) := by decide +kernel
theorem dX1_greatestDepth_30 : decode cX1_greatestDepth 30 = .ok (.invokestatic 84, 3) := by decide +kernel
theorem dX1_greatestDepth_33 : decode cX1_greatestDepth 33 = .ok (.istore_n 2, 1) := by decide +kernel
theorem dX1_greatestDepth_34 : decode cX1_greatestDepth 34 = .ok (.iinc 3 1, 3) := by decide +kernel
theorem dX1_greatestDepth_37 : decode cX1_greatestDepth 37 = .ok (.goto (-33), 3) := by decide +kernel
theorem dX1_greatestDepth_40 : decode cX1_greatestDepth 40 = .ok (.iload_n 2, 1) := by decide +kernel
theorem dX1_greatestDepth_41 : decode cX1_greatestDepth 41 = .ok (.ireturn, 1) := by decide +kernel
theorem dX1_sumOfDepths_0 : decode cX1_sumOfDepths 0 = .ok (.iconst 0, 1) := by decide +kernel
theorem dX1_sumOfDepths_1 : decode cX1_sumOfDepths 1 = .ok (.istore_n 1, 1) := by decide +kernel
theorem dX1_sumOfDepths_2 : decode cX1_sumOfDepths 2 = .ok (.iconst 0, 1) := by decide +kernel
theorem dX1_sumOfDepths_3 : decode cX1_sumOfDepths 3 = .ok (.istore_n 2, 1) := by decide +kernel
theorem dX1_sumOfDepths_4 : decode cX1_sumOfDepths 4 = .ok (.iload_n 2, 1) := by decide +kernel
theorem dX1_sumOfDepths_5 : decode cX1_sumOfDepths 5 = .ok (.aload_n 0, 1) := by decide +kernel
theorem dX1_sumOfDepths_6 : decode cX1_sumOfDepths 6 = .ok (.getfield 14, 3) := by decide +kernel
theorem dX1_sumOfDepths_9 : decode cX1_sumOfDepths 9 = .ok (.invokevirtual 48, 3) := by decide +kernel
theorem dX1_sumOfDepths_12 : decode cX1_sumOfDepths 12 = .ok (.if_icmp .ge 17, 3) := by decide +kernel
theorem dX1_sumOfDepths_15 : decode cX1_sumOfDepths 15 = .ok (.iload_n 1, 1) := by decide +kernel
theorem dX1_sumOfDepths_16 : decode cX1_sumOfDepths 16 = .ok (.aload_n 0, 1) := by decide +kernel
theorem dX1_sumOfDepths_17 : decode cX1_sumOfDepths 17 = .ok (.iload_n 2, 1) := by decide +kernel
theorem dX1_sumOfDepths_18 : decode cX1_sumOfDepths 18 = .ok (.invokevirtual 127, 3) := by decide +kernel
theorem dX1_sumOfDepths_21 : decode cX1_sumOfDepths 21 = .ok (.iadd, 1) := by decide +kernel
theorem dX1_sumOfDepths_22 : decode cX1_sumOfDepths 22 = .ok (.istore_n 1, 1) := by decide +kernel
theorem dX1_sumOfDepths_23 : decode cX1_sumOfDepths 23 = .ok (.iinc 2 1, 3) := by decide +kernel
theorem dX1_sumOfDepths_26 : decode cX1_sumOfDepths 26 = .ok (.goto (-22), 3) := by decide +kernel
theorem dX1_sumOfDepths_29 : decode cX1_sumOfDepths 29 = .ok (.iload_n 1, 1) := by decide +kernel
theorem dX1_sumOfDepths_30 : decode cX1_sumOfDepths 30 = .ok (.ireturn, 1) := by decide +kernel
theorem dX1_heaviestWith_0 : decode cX1_heaviestWith 0 = .ok (.aload_n 0, 1) := by decide +kernel
theorem dX1_heaviestWith_1 : decode cX1_heaviestWith 1 = .ok (.iload_n 1, 1) := by decide +kernel
theorem dX1_heaviestWith_2 : decode cX1_heaviestWith 2 = .ok (.invokevirtual 87, 3) := by decide +kernel
theorem dX1_heaviestWith_5 : decode cX1_heaviestWith 5 = .ok (.astore_n 2, 1) := by decide +kernel
theorem dX1_heaviestWith_6 : decode cX1_heaviestWith 6 = .ok (.aload_n 2, 1) := by decide +kernel
theorem dX1_heaviestWith_7 : decode cX1_heaviestWith 7 = .ok (.iconst 0, 1) := by decide +kernel
theorem dX1_heaviestWith_8 : decode cX1_heaviestWith 8 = .ok (.invokevirtual 52, 3) := by decide +kernel
theorem dX1_heaviestWith_11 : decode cX1_heaviestWith 11 = .ok (.istore_n 3, 1) := by decide +kernel
theorem dX1_heaviestWith_12 : decode cX1_heaviestWith 12 = .ok (.iconst 1, 1) := by decide +kernel
theorem dX1_heaviestWith_13 : decode cX1_heaviestWith 13 = .ok (.istore 4, 2) := by decide +kernel
theorem dX1_heaviestWith_15 : decode cX1_heaviestWith 15 = .ok (.iload 4, 2) := by decide +kernel
theorem dX1_heaviestWith_17 : decode cX1_heaviestWith 17 = .ok (.aload_n 2, 1) := by decide +kernel
theorem dX1_heaviestWith_18 : decode cX1_heaviestWith 18 = .ok (.invokevirtual 48, 3) := by decide +kernel
theorem dX1_heaviestWith_21 : decode cX1_heaviestWith 21 = .ok (.if_icmp .ge 34, 3) := by decide +kernel
theorem dX1_heaviestWith_24 : decode cX1_heaviestWith 24 = .ok (.aload_n 0, 1) := by decide +kernel
theorem dX1_heaviestWith_25 : decode cX1_heaviestWith 25 = .ok (.aload_n 2, 1) := by decide +kernel
theorem dX1_heaviestWith_26 : decode cX1_heaviestWith 26 = .ok (.iload 4, 2) := by decide +kernel
theorem dX1_heaviestWith_28 : decode cX1_heaviestWith 28 = .ok (.invokevirtual 52, 3) := by decide +kernel
theorem dX1_heaviestWith_31 : decode cX1_heaviestWith 31 = .ok (.invokevirtual 130, 3) := by decide +kernel
theorem dX1_heaviestWith_34 : decode cX1_heaviestWith 34 = .ok (.aload_n 0, 1) := by decide +kernel
theorem dX1_heaviestWith_35 : decode cX1_heaviestWith 35 = .ok (.iload_n 3, 1) := by decide +kernel
theorem dX1_heaviestWith_36 : decode cX1_heaviestWith 36 = .ok (.invokevirtual 130, 3) := by decide +kernel
theorem dX1_heaviestWith_39 : decode cX1_heaviestWith 39 = .ok (.if_icmp .le 10, 3) := by decide +kernel
theorem dX1_heaviestWith_42 : decode cX1_heaviestWith 42 = .ok (.aload_n 2, 1) := by decide +kernel
theorem dX1_heaviestWith_43 : decode cX1_heaviestWith 43 = .ok (.iload 4, 2) := by decide +kernel
theorem dX1_heaviestWith_45 : decode cX1_heaviestWith 45 = .ok (.invokevirtual 52, 3) := by decide +kernel
theorem dX1_heaviestWith_48 : decode cX1_heaviestWith 48 = .ok (.istore_n 3, 1) := by decide +kernel
theorem dX1_heaviestWith_49 : decode cX1_heaviestWith 49 = .ok (.iinc 4 1, 3) := by decide +kernel
theorem dX1_heaviestWith_52 : decode cX1_heaviestWith 52 = .ok (.goto (-37), 3) := by decide +kernel
theorem dX1_heaviestWith_55 : decode cX1_heaviestWith 55 = .ok (.iload_n 3, 1) := by decide +kernel
theorem dX1_heaviestWith_56 : decode cX1_heaviestWith 56 = .ok (.ireturn, 1) := by decide +kernel
theorem dX1_meetingOf_0 : decode cX1_meetingOf 0 = .ok (.aload_n 0, 1) := by decide +kernel
theorem dX1_meetingOf_1 : decode cX1_meetingOf 1 = .ok (.iload_n 1, 1) := by decide +kernel
theorem dX1_meetingOf_2 : decode cX1_meetingOf 2 = .ok (.invokevirtual 121, 3) := by decide +kernel
theorem dX1_meetingOf_5 : decode cX1_meetingOf 5 = .ok (.aload_n 0, 1) := by decide +kernel
theorem dX1_meetingOf_6 : decode cX1_meetingOf 6 = .ok (.iload_n 2, 1) := by decide +kernel
theorem dX1_meetingOf_7 : decode cX1_meetingOf 7 = .ok (.invokevirtual 121, 3) := by decide +kernel
theorem dX1_meetingOf_10 : decode cX1_meetingOf 10 = .ok (.iand, 1) := by decide +kernel
theorem dX1_meetingOf_11 : decode cX1_meetingOf 11 = .ok (.istore_n 3, 1) := by decide +kernel
theorem dX1_meetingOf_12 : decode cX1_meetingOf 12 = .ok (.iconst (-1), 1) := by decide +kernel
theorem dX1_meetingOf_13 : decode cX1_meetingOf 13 = .ok (.istore 4, 2) := by decide +kernel
theorem dX1_meetingOf_15 : decode cX1_meetingOf 15 = .ok (.iconst 0, 1) := by decide +kernel
theorem dX1_meetingOf_16 : decode cX1_meetingOf 16 = .ok (.istore 5, 2) := by decide +kernel
theorem dX1_meetingOf_18 : decode cX1_meetingOf 18 = .ok (.iload 5, 2) := by decide +kernel
theorem dX1_meetingOf_20 : decode cX1_meetingOf 20 = .ok (.aload_n 0, 1) := by decide +kernel
theorem dX1_meetingOf_21 : decode cX1_meetingOf 21 = .ok (.getfield 14, 3) := by decide +kernel
theorem dX1_meetingOf_24 : decode cX1_meetingOf 24 = .ok (.invokevirtual 48, 3) := by decide +kernel
theorem dX1_meetingOf_27 : decode cX1_meetingOf 27 = .ok (.if_icmp .ge 43, 3) := by decide +kernel
theorem dX1_meetingOf_30 : decode cX1_meetingOf 30 = .ok (.iload_n 3, 1) := by decide +kernel
theorem dX1_meetingOf_31 : decode cX1_meetingOf 31 = .ok (.iload 5, 2) := by decide +kernel
theorem dX1_meetingOf_33 : decode cX1_meetingOf 33 = .ok (.invokestatic 56, 3) := by decide +kernel
theorem dX1_meetingOf_36 : decode cX1_meetingOf 36 = .ok (.iand, 1) := by decide +kernel
theorem dX1_meetingOf_37 : decode cX1_meetingOf 37 = .ok (.ifCond .eq 27, 3) := by decide +kernel
theorem dX1_meetingOf_40 : decode cX1_meetingOf 40 = .ok (.iload 4, 2) := by decide +kernel
theorem dX1_meetingOf_42 : decode cX1_meetingOf 42 = .ok (.ifCond .lt 18, 3) := by decide +kernel
theorem dX1_meetingOf_45 : decode cX1_meetingOf 45 = .ok (.aload_n 0, 1) := by decide +kernel
theorem dX1_meetingOf_46 : decode cX1_meetingOf 46 = .ok (.iload 5, 2) := by decide +kernel
theorem dX1_meetingOf_48 : decode cX1_meetingOf 48 = .ok (.invokevirtual 127, 3) := by decide +kernel
theorem dX1_meetingOf_51 : decode cX1_meetingOf 51 = .ok (.aload_n 0, 1) := by decide +kernel
theorem dX1_meetingOf_52 : decode cX1_meetingOf 52 = .ok (.iload 4, 2) := by decide +kernel
theorem dX1_meetingOf_54 : decode cX1_meetingOf 54 = .ok (.invokevirtual 127, 3) := by decide +kernel
theorem dX1_meetingOf_57 : decode cX1_meetingOf 57 = .ok (.if_icmp .le 7, 3) := by decide +kernel
theorem dX1_meetingOf_60 : decode cX1_meetingOf 60 = .ok (.iload 5, 2) := by decide +kernel
theorem dX1_meetingOf_62 : decode cX1_meetingOf 62 = .ok (.istore 4, 2) := by decide +kernel
theorem dX1_meetingOf_64 : decode cX1_meetingOf 64 = .ok (.iinc 5 1, 3) := by decide +kernel
theorem dX1_meetingOf_67 : decode cX1_meetingOf 67 = .ok (.goto (-49), 3) := by decide +kernel
theorem dX1_meetingOf_70 : decode cX1_meetingOf 70 = .ok (.iload 4, 2) := by decide +kernel
theorem dX1_meetingOf_72 : decode cX1_meetingOf 72 = .ok (.ireturn, 1) := by decide +kernel
theorem dX1_lowerOf_0 : decode cX1_lowerOf 0 = .ok (.aload_n 0, 1) := by decide +kernel
theorem dX1_lowerOf_1 : decode cX1_lowerOf 1 = .ok (.iload_n 1, 1) := by decide +kernel
theorem dX1_lowerOf_2 : decode cX1_lowerOf 2 = .ok (.invokevirtual 87, 3) := by decide +kernel
theorem dX1_lowerOf_5 : decode cX1_lowerOf 5 = .ok (.astore_n 3, 1) := by decide +kernel
theorem dX1_lowerOf_6 : decode cX1_lowerOf 6 = .ok (.aload_n 3, 1) := by decide +kernel
theorem dX1_lowerOf_7 : decode cX1_lowerOf 7 = .ok (.iload_n 1, 1) := by decide +kernel
theorem dX1_lowerOf_8 : decode cX1_lowerOf 8 = .ok (.invokevirtual 90, 3) := by decide +kernel
theorem dX1_lowerOf_11 : decode cX1_lowerOf 11 = .ok (.aload_n 3, 1) := by decide +kernel
theorem dX1_lowerOf_12 : decode cX1_lowerOf 12 = .ok (.iload_n 2, 1) := by decide +kernel
theorem dX1_lowerOf_13 : decode cX1_lowerOf 13 = .ok (.invokevirtual 90, 3) := by decide +kernel
theorem dX1_lowerOf_16 : decode cX1_lowerOf 16 = .ok (.if_icmp .le 7, 3) := by decide +kernel
theorem dX1_lowerOf_19 : decode cX1_lowerOf 19 = .ok (.iload_n 1, 1) := by decide +kernel
theorem dX1_lowerOf_20 : decode cX1_lowerOf 20 = .ok (.goto 4, 3) := by decide +kernel
theorem dX1_lowerOf_23 : decode cX1_lowerOf 23 = .ok (.iload_n 2, 1) := by decide +kernel
theorem dX1_lowerOf_24 : decode cX1_lowerOf 24 = .ok (.ireturn, 1) := by decide +kernel
theorem dX1_reached_0 : decode cX1_reached 0 = .ok (.iload_n 1, 1) := by decide +kernel
theorem dX1_reached_1 : decode cX1_reached 1 = .ok (.invokestatic 56, 3) := by decide +kernel
theorem dX1_reached_4 : decode cX1_reached 4 = .ok (.istore_n 3, 1) := by decide +kernel
theorem dX1_reached_5 : decode cX1_reached 5 = .ok (.iload_n 3, 1) := by decide +kernel
theorem dX1_reached_6 : decode cX1_reached 6 = .ok (.istore 4, 2) := by decide +kernel
theorem dX1_reached_8 : decode cX1_reached 8 = .ok (.iconst 0, 1) := by decide +kernel
theorem dX1_reached_9 : decode cX1_reached 9 = .ok (.istore 5, 2) := by decide +kernel
theorem dX1_reached_11 : decode cX1_reached 11 = .ok (.iload 5, 2) := by decide +kernel
theorem dX1_reached_13 : decode cX1_reached 13 = .ok (.bipush 12, 2) := by decide +kernel
theorem dX1_reached_15 : decode cX1_reached 15 = .ok (.if_icmp .ge 57, 3) := by decide +kernel
theorem dX1_reached_18 : decode cX1_reached 18 = .ok (.iload 4, 2) := by decide +kernel
theorem dX1_reached_20 : decode cX1_reached 20 = .ok (.ifCond .eq 52, 3) := by decide +kernel
theorem dX1_reached_23 : decode cX1_reached 23 = .ok (.iload 4, 2) := by decide +kernel
theorem dX1_reached_25 : decode cX1_reached 25 = .ok (.invokestatic 133, 3) := by decide +kernel
theorem dX1_reached_28 : decode cX1_reached 28 = .ok (.istore 6, 2) := by decide +kernel
theorem dX1_reached_30 : decode cX1_reached 30 = .ok (.aload_n 0, 1) := by decide +kernel
theorem dX1_reached_31 : decode cX1_reached 31 = .ok (.iload 6, 2) := by decide +kernel
theorem dX1_reached_33 : decode cX1_reached 33 = .ok (.invokevirtual 63, 3) := by decide +kernel
theorem dX1_reached_36 : decode cX1_reached 36 = .ok (.iload_n 3, 1) := by decide +kernel
theorem dX1_reached_37 : decode cX1_reached 37 = .ok (.iconst (-1), 1) := by decide +kernel
theorem dX1_reached_38 : decode cX1_reached 38 = .ok (.ixor, 1) := by decide +kernel
theorem dX1_reached_39 : decode cX1_reached 39 = .ok (.iand, 1) := by decide +kernel
theorem dX1_reached_40 : decode cX1_reached 40 = .ok (.iload_n 2, 1) := by decide +kernel
theorem dX1_reached_41 : decode cX1_reached 41 = .ok (.iconst (-1), 1) := by decide +kernel
theorem dX1_reached_42 : decode cX1_reached 42 = .ok (.ixor, 1) := by decide +kernel
theorem dX1_reached_43 : decode cX1_reached 43 = .ok (.iand, 1) := by decide +kernel
theorem dX1_reached_44 : decode cX1_reached 44 = .ok (.istore 7, 2) := by decide +kernel
theorem dX1_reached_46 : decode cX1_reached 46 = .ok (.iload_n 3, 1) := by decide +kernel
theorem dX1_reached_47 : decode cX1_reached 47 = .ok (.iload 7, 2) := by decide +kernel
theorem dX1_reached_49 : decode cX1_reached 49 = .ok (.ior, 1) := by decide +kernel
theorem dX1_reached_50 : decode cX1_reached 50 = .ok (.istore_n 3, 1) := by decide +kernel
theorem dX1_reached_51 : decode cX1_reached 51 = .ok (.iload 4, 2) := by decide +kernel
theorem dX1_reached_53 : decode cX1_reached 53 = .ok (.iload 7, 2) := by decide +kernel
theorem dX1_reached_55 : decode cX1_reached 55 = .ok (.ior, 1) := by decide +kernel
theorem dX1_reached_56 : decode cX1_reached 56 = .ok (.iload 6, 2) := by decide +kernel
theorem dX1_reached_58 : decode cX1_reached 58 = .ok (.invokestatic 56, 3) := by decide +kernel
theorem dX1_reached_61 : decode cX1_reached 61 = .ok (.iconst (-1), 1) := by decide +kernel
theorem dX1_reached_62 : decode cX1_reached 62 = .ok (.ixor, 1) := by decide +kernel
theorem dX1_reached_63 : decode cX1_reached 63 = .ok (.iand, 1) := by decide +kernel
theorem dX1_reached_64 : decode cX1_reached 64 = .ok (.istore 4, 2) := by decide +kernel
theorem dX1_reached_66 : decode cX1_reached 66 = .ok (.iinc 5 1, 3) := by decide +kernel
theorem dX1_reached_69 : decode cX1_reached 69 = .ok (.goto (-58), 3) := by decide +kernel
theorem dX1_reached_72 : decode cX1_reached 72 = .ok (.iload_n 3, 1) := by decide +kernel
theorem dX1_reached_73 : decode cX1_reached 73 = .ok (.ireturn, 1) := by decide +kernel
theorem dX1_reachedBelow_0 : decode cX1_reachedBelow 0 = .ok (.aload_n 0, 1) := by decide +kernel
theorem dX1_reachedBelow_1 : decode cX1_reachedBelow 1 = .ok (.iload_n 1, 1) := by decide +kernel
theorem dX1_reachedBelow_2 : decode cX1_reachedBelow 2 = .ok (.invokevirtual 109, 3) := by decide +kernel
theorem dX1_reachedBelow_5 : decode cX1_reachedBelow 5 = .ok (.istore_n 2, 1) := by decide +kernel
theorem dX1_reachedBelow_6 : decode cX1_reachedBelow 6 = .ok (.aload_n 0, 1) := by decide +kernel
theorem dX1_reachedBelow_7 : decode cX1_reachedBelow 7 = .ok (.iload_n 1, 1) := by decide +kernel
theorem dX1_reachedBelow_8 : decode cX1_reachedBelow 8 = .ok (.iload_n 2, 1) := by decide +kernel
theorem dX1_reachedBelow_9 : decode cX1_reachedBelow 9 = .ok (.iload_n 1, 1) := by decide +kernel
theorem dX1_reachedBelow_10 : decode cX1_reachedBelow 10 = .ok (.if_icmp .ne 7, 3) := by decide +kernel
theorem dX1_reachedBelow_13 : decode cX1_reachedBelow 13 = .ok (.iconst 0, 1) := by decide +kernel
theorem dX1_reachedBelow_14 : decode cX1_reachedBelow 14 = .ok (.goto 12, 3) := by decide +kernel
theorem dX1_reachedBelow_17 : decode cX1_reachedBelow 17 = .ok (.aload_n 0, 1) := by decide +kernel
theorem dX1_reachedBelow_18 : decode cX1_reachedBelow 18 = .ok (.iload_n 2, 1) := by decide +kernel
theorem dX1_reachedBelow_19 : decode cX1_reachedBelow 19 = .ok (.iload_n 1, 1) := by decide +kernel
theorem dX1_reachedBelow_20 : decode cX1_reachedBelow 20 = .ok (.invokestatic 56, 3) := by decide +kernel
theorem dX1_reachedBelow_23 : decode cX1_reachedBelow 23 = .ok (.invokevirtual 136, 3) := by decide +kernel
theorem dX1_reachedBelow_26 : decode cX1_reachedBelow 26 = .ok (.invokevirtual 136, 3) := by decide +kernel
theorem dX1_reachedBelow_29 : decode cX1_reachedBelow 29 = .ok (.ireturn, 1) := by decide +kernel
theorem dX1_heaviestLeftWithout_0 : decode cX1_heaviestLeftWithout 0 = .ok (.iconst 0, 1) := by decide +kernel
theorem dX1_heaviestLeftWithout_1 : decode cX1_heaviestLeftWithout 1 = .ok (.istore_n 2, 1) := by decide +kernel
theorem dX1_heaviestLeftWithout_2 : decode cX1_heaviestLeftWithout 2 = .ok (.iconst 0, 1) := by decide +kernel
theorem dX1_heaviestLeftWithout_3 : decode cX1_heaviestLeftWithout 3 = .ok (.istore_n 3, 1) := by decide +kernel
theorem dX1_heaviestLeftWithout_4 : decode cX1_heaviestLeftWithout 4 = .ok (.iload_n 3, 1) := by decide +kernel
theorem dX1_heaviestLeftWithout_5 : decode cX1_heaviestLeftWithout 5 = .ok (.aload_n 0, 1) := by decide +kernel
theorem dX1_heaviestLeftWithout_6 : decode cX1_heaviestLeftWithout 6 = .ok (.getfield 14, 3) := by decide +kernel
theorem dX1_heaviestLeftWithout_9 : decode cX1_heaviestLeftWithout 9 = .ok (.invokevirtual 48, 3) := by decide +kernel
theorem dX1_heaviestLeftWithout_12 : decode cX1_heaviestLeftWithout 12 = .ok (.if_icmp .ge 36, 3) := by decide +kernel
theorem dX1_heaviestLeftWithout_15 : decode cX1_heaviestLeftWithout 15 = .ok (.aload_n 0, 1) := by decide +kernel
theorem dX1_heaviestLeftWithout_16 : decode cX1_heaviestLeftWithout 16 = .ok (.iload_n 1, 1) := by decide +kernel
theorem dX1_heaviestLeftWithout_17 : decode cX1_heaviestLeftWithout 17 = .ok (.iload_n 3, 1) := by decide +kernel
theorem dX1_heaviestLeftWithout_18 : decode cX1_heaviestLeftWithout 18 = .ok (.invokevirtual 139, 3) := by decide +kernel
theorem dX1_heaviestLeftWithout_21 : decode cX1_heaviestLeftWithout 21 = .ok (.ifCond .eq 21, 3) := by decide +kernel
theorem dX1_heaviestLeftWithout_24 : decode cX1_heaviestLeftWithout 24 = .ok (.iload_n 2, 1) := by decide +kernel
theorem dX1_heaviestLeftWithout_25 : decode cX1_heaviestLeftWithout 25 = .ok (.aload_n 0, 1) := by decide +kernel
theorem dX1_heaviestLeftWithout_26 : decode cX1_heaviestLeftWithout 26 = .ok (.aload_n 0, 1) := by decide +kernel
theorem dX1_heaviestLeftWithout_27 : decode cX1_heaviestLeftWithout 27 = .ok (.iload_n 3, 1) := by decide +kernel
theorem dX1_heaviestLeftWithout_28 : decode cX1_heaviestLeftWithout 28 = .ok (.iload_n 1, 1) := by decide +kernel
theorem dX1_heaviestLeftWithout_29 : decode cX1_heaviestLeftWithout 29 = .ok (.invokestatic 56, 3) := by decide +kernel
theorem dX1_heaviestLeftWithout_32 : decode cX1_heaviestLeftWithout 32 = .ok (.invokevirtual 136, 3) := by decide +kernel
theorem dX1_heaviestLeftWithout_35 : decode cX1_heaviestLeftWithout 35 = .ok (.invokevirtual 143, 3) := by decide +kernel
theorem dX1_heaviestLeftWithout_38 : decode cX1_heaviestLeftWithout 38 = .ok (.invokestatic 84, 3) := by decide +kernel
theorem dX1_heaviestLeftWithout_41 : decode cX1_heaviestLeftWithout 41 = .ok (.istore_n 2, 1) := by decide +kernel
theorem dX1_heaviestLeftWithout_42 : decode cX1_heaviestLeftWithout 42 = .ok (.iinc 3 1, 3) := by decide +kernel
theorem dX1_heaviestLeftWithout_45 : decode cX1_heaviestLeftWithout 45 = .ok (.goto (-41), 3) := by decide +kernel
theorem dX1_heaviestLeftWithout_48 : decode cX1_heaviestLeftWithout 48 = .ok (.iload_n 2, 1) := by decide +kernel
theorem dX1_heaviestLeftWithout_49 : decode cX1_heaviestLeftWithout 49 = .ok (.ireturn, 1) := by decide +kernel
theorem dX1_middleWith_0 : decode cX1_middleWith 0 = .ok (.aload_n 0, 1) := by decide +kernel
theorem dX1_middleWith_1 : decode cX1_middleWith 1 = .ok (.iload_n 1, 1) := by decide +kernel
theorem dX1_middleWith_2 : decode cX1_middleWith 2 = .ok (.invokevirtual 146, 3) := by decide +kernel
theorem dX1_middleWith_5 : decode cX1_middleWith 5 = .ok (.istore_n 2, 1) := by decide +kernel
theorem dX1_middleWith_6 : decode cX1_middleWith 6 = .ok (.iconst (-1), 1) := by decide +kernel
theorem dX1_middleWith_7 : decode cX1_middleWith 7 = .ok (.istore_n 3, 1) := by decide +kernel
theorem dX1_middleWith_8 : decode cX1_middleWith 8 = .ok (.iconst 0, 1) := by decide +kernel
theorem dX1_middleWith_9 : decode cX1_middleWith 9 = .ok (.istore 4, 2) := by decide +kernel
theorem dX1_middleWith_11 : decode cX1_middleWith 11 = .ok (.iconst 0, 1) := by decide +kernel
theorem dX1_middleWith_12 : decode cX1_middleWith 12 = .ok (.istore 5, 2) := by decide +kernel
theorem dX1_middleWith_14 : decode cX1_middleWith 14 = .ok (.iload 5, 2) := by decide +kernel
theorem dX1_middleWith_16 : decode cX1_middleWith 16 = .ok (.aload_n 0, 1) := by decide +kernel
theorem dX1_middleWith_17 : decode cX1_middleWith 17 = .ok (.getfield 14, 3) := by decide +kernel
theorem dX1_middleWith_20 : decode cX1_middleWith 20 = .ok (.invokevirtual 48, 3) := by decide +kernel
theorem dX1_middleWith_23 : decode cX1_middleWith 23 = .ok (.if_icmp .ge 45, 3) := by decide +kernel
theorem dX1_middleWith_26 : decode cX1_middleWith 26 = .ok (.iload_n 2, 1) := by decide +kernel
theorem dX1_middleWith_27 : decode cX1_middleWith 27 = .ok (.iload 5, 2) := by decide +kernel
theorem dX1_middleWith_29 : decode cX1_middleWith 29 = .ok (.invokestatic 56, 3) := by decide +kernel
theorem dX1_middleWith_32 : decode cX1_middleWith 32 = .ok (.iand, 1) := by decide +kernel
theorem dX1_middleWith_33 : decode cX1_middleWith 33 = .ok (.ifCond .eq 29, 3) := by decide +kernel
theorem dX1_middleWith_36 : decode cX1_middleWith 36 = .ok (.aload_n 0, 1) := by decide +kernel
theorem dX1_middleWith_37 : decode cX1_middleWith 37 = .ok (.iload 5, 2) := by decide +kernel
theorem dX1_middleWith_39 : decode cX1_middleWith 39 = .ok (.invokevirtual 149, 3) := by decide +kernel
theorem dX1_middleWith_42 : decode cX1_middleWith 42 = .ok (.istore 6, 2) := by decide +kernel
theorem dX1_middleWith_44 : decode cX1_middleWith 44 = .ok (.iload_n 3, 1) := by decide +kernel
theorem dX1_middleWith_45 : decode cX1_middleWith 45 = .ok (.ifCond .lt 10, 3) := by decide +kernel
theorem dX1_middleWith_48 : decode cX1_middleWith 48 = .ok (.iload 6, 2) := by decide +kernel
theorem dX1_middleWith_50 : decode cX1_middleWith 50 = .ok (.iload 4, 2) := by decide +kernel
theorem dX1_middleWith_52 : decode cX1_middleWith 52 = .ok (.if_icmp .ge 10, 3) := by decide +kernel
theorem dX1_middleWith_55 : decode cX1_middleWith 55 = .ok (.iload 5, 2) := by decide +kernel
theorem dX1_middleWith_57 : decode cX1_middleWith 57 = .ok (.istore_n 3, 1) := by decide +kernel
theorem dX1_middleWith_58 : decode cX1_middleWith 58 = .ok (.iload 6, 2) := by decide +kernel
theorem dX1_middleWith_60 : decode cX1_middleWith 60 = .ok (.istore 4, 2) := by decide +kernel
theorem dX1_middleWith_62 : decode cX1_middleWith 62 = .ok (.iinc 5 1, 3) := by decide +kernel
theorem dX1_middleWith_65 : decode cX1_middleWith 65 = .ok (.goto (-51), 3) := by decide +kernel
theorem dX1_middleWith_68 : decode cX1_middleWith 68 = .ok (.iload_n 3, 1) := by decide +kernel
theorem dX1_middleWith_69 : decode cX1_middleWith 69 = .ok (.ireturn, 1) := by decide +kernel
theorem dX1_rootRanked_0 : decode cX1_rootRanked 0 = .ok (.iconst 0, 1) := by decide +kernel
theorem dX1_rootRanked_1 : decode cX1_rootRanked 1 = .ok (.istore_n 2, 1) := by decide +kernel
theorem dX1_rootRanked_2 : decode cX1_rootRanked 2 = .ok (.iload_n 2, 1) := by decide +kernel
theorem dX1_rootRanked_3 : decode cX1_rootRanked 3 = .ok (.bipush 12, 2) := by decide +kernel
theorem dX1_rootRanked_5 : decode cX1_rootRanked 5 = .ok (.if_icmp .ge 28, 3) := by decide +kernel
theorem dX1_rootRanked_8 : decode cX1_rootRanked 8 = .ok (.aload_n 0, 1) := by decide +kernel
theorem dX1_rootRanked_9 : decode cX1_rootRanked 9 = .ok (.iload_n 2, 1) := by decide +kernel
theorem dX1_rootRanked_10 : decode cX1_rootRanked 10 = .ok (.invokevirtual 112, 3) := by decide +kernel
theorem dX1_rootRanked_13 : decode cX1_rootRanked 13 = .ok (.ifCond .eq 14, 3) := by decide +kernel
theorem dX1_rootRanked_16 : decode cX1_rootRanked 16 = .ok (.aload_n 0, 1) := by decide +kernel
theorem dX1_rootRanked_17 : decode cX1_rootRanked 17 = .ok (.iload_n 2, 1) := by decide +kernel
theorem dX1_rootRanked_18 : decode cX1_rootRanked 18 = .ok (.invokevirtual 152, 3) := by decide +kernel
theorem dX1_rootRanked_21 : decode cX1_rootRanked 21 = .ok (.iload_n 1, 1) := by decide +kernel
theorem dX1_rootRanked_22 : decode cX1_rootRanked 22 = .ok (.if_icmp .ne 5, 3) := by decide +kernel
theorem dX1_rootRanked_25 : decode cX1_rootRanked 25 = .ok (.iload_n 2, 1) := by decide +kernel
theorem dX1_rootRanked_26 : decode cX1_rootRanked 26 = .ok (.ireturn, 1) := by decide +kernel
theorem dX1_rootRanked_27 : decode cX1_rootRanked 27 = .ok (.iinc 2 1, 3) := by decide +kernel
theorem dX1_rootRanked_30 : decode cX1_rootRanked 30 = .ok (.goto (-28), 3) := by decide +kernel
theorem dX1_rootRanked_33 : decode cX1_rootRanked 33 = .ok (.iconst (-1), 1) := by decide +kernel
theorem dX1_rootRanked_34 : decode cX1_rootRanked 34 = .ok (.ireturn, 1) := by decide +kernel
theorem dX1_partsAheadOf_0 : decode cX1_partsAheadOf 0 = .ok (.iconst 0, 1) := by decide +kernel
theorem dX1_partsAheadOf_1 : decode cX1_partsAheadOf 1 = .ok (.istore_n 2, 1) := by decide +kernel
theorem dX1_partsAheadOf_2 : decode cX1_partsAheadOf 2 = .ok (.iconst 0, 1) := by decide +kernel
theorem dX1_partsAheadOf_3 : decode cX1_partsAheadOf 3 = .ok (.istore_n 3, 1) := by decide +kernel
theorem dX1_partsAheadOf_4 : decode cX1_partsAheadOf 4 = .ok (.iload_n 3, 1) := by decide +kernel
theorem dX1_partsAheadOf_5 : decode cX1_partsAheadOf 5 = .ok (.bipush 12, 2) := by decide +kernel
theorem dX1_partsAheadOf_7 : decode cX1_partsAheadOf 7 = .ok (.if_icmp .ge 34, 3) := by decide +kernel
theorem dX1_partsAheadOf_10 : decode cX1_partsAheadOf 10 = .ok (.iload_n 3, 1) := by decide +kernel
theorem dX1_partsAheadOf_11 : decode cX1_partsAheadOf 11 = .ok (.iload_n 1, 1) := by decide +kernel
theorem dX1_partsAheadOf_12 : decode cX1_partsAheadOf 12 = .ok (.if_icmp .eq 23, 3) := by decide +kernel
theorem dX1_partsAheadOf_15 : decode cX1_partsAheadOf 15 = .ok (.aload_n 0, 1) := by decide +kernel
theorem dX1_partsAheadOf_16 : decode cX1_partsAheadOf 16 = .ok (.iload_n 3, 1) := by decide +kernel
theorem dX1_partsAheadOf_17 : decode cX1_partsAheadOf 17 = .ok (.invokevirtual 112, 3) := by decide +kernel
theorem dX1_partsAheadOf_20 : decode cX1_partsAheadOf 20 = .ok (.ifCond .eq 15, 3) := by decide +kernel
theorem dX1_partsAheadOf_23 : decode cX1_partsAheadOf 23 = .ok (.aload_n 0, 1) := by decide +kernel
theorem dX1_partsAheadOf_24 : decode cX1_partsAheadOf 24 = .ok (.iload_n 3, 1) := by decide +kernel
theorem dX1_partsAheadOf_25 : decode cX1_partsAheadOf 25 = .ok (.iload_n 1, 1) := by decide +kernel
theorem dX1_partsAheadOf_26 : decode cX1_partsAheadOf 26 = .ok (.invokevirtual 155, 3) := by decide +kernel
theorem dX1_partsAheadOf_29 : decode cX1_partsAheadOf 29 = .ok (.ifCond .eq 6, 3) := by decide +kernel
theorem dX1_partsAheadOf_32 : decode cX1_partsAheadOf 32 = .ok (.iinc 2 1, 3) := by decide +kernel
theorem dX1_partsAheadOf_35 : decode cX1_partsAheadOf 35 = .ok (.iinc 3 1, 3) := by decide +kernel
theorem dX1_partsAheadOf_38 : decode cX1_partsAheadOf 38 = .ok (.goto (-34), 3) := by decide +kernel
theorem dX1_partsAheadOf_41 : decode cX1_partsAheadOf 41 = .ok (.iload_n 2, 1) := by decide +kernel
theorem dX1_partsAheadOf_42 : decode cX1_partsAheadOf 42 = .ok (.ireturn, 1) := by decide +kernel
theorem dX1_ranksAhead_0 : decode cX1_ranksAhead 0 = .ok (.aload_n 0, 1) := by decide +kernel
theorem dX1_ranksAhead_1 : decode cX1_ranksAhead 1 = .ok (.aload_n 0, 1) := by decide +kernel
theorem dX1_ranksAhead_2 : decode cX1_ranksAhead 2 = .ok (.iload_n 1, 1) := by decide +kernel
theorem dX1_ranksAhead_3 : decode cX1_ranksAhead 3 = .ok (.invokevirtual 34, 3) := by decide +kernel
theorem dX1_ranksAhead_6 : decode cX1_ranksAhead 6 = .ok (.invokevirtual 115, 3) := by decide +kernel
theorem dX1_ranksAhead_9 : decode cX1_ranksAhead 9 = .ok (.invokevirtual 143, 3) := by decide +kernel
theorem dX1_ranksAhead_12 : decode cX1_ranksAhead 12 = .ok (.istore_n 3, 1) := by decide +kernel
theorem dX1_ranksAhead_13 : decode cX1_ranksAhead 13 = .ok (.aload_n 0, 1) := by decide +kernel
theorem dX1_ranksAhead_14 : decode cX1_ranksAhead 14 = .ok (.aload_n 0, 1) := by decide +kernel
theorem dX1_ranksAhead_15 : decode cX1_ranksAhead 15 = .ok (.iload_n 2, 1) := by decide +kernel
theorem dX1_ranksAhead_16 : decode cX1_ranksAhead 16 = .ok (.invokevirtual 34, 3) := by decide +kernel
theorem dX1_ranksAhead_19 : decode cX1_ranksAhead 19 = .ok (.invokevirtual 115, 3) := by decide +kernel
theorem dX1_ranksAhead_22 : decode cX1_ranksAhead 22 = .ok (.invokevirtual 143, 3) := by decide +kernel
theorem dX1_ranksAhead_25 : decode cX1_ranksAhead 25 = .ok (.istore 4, 2) := by decide +kernel
theorem dX1_ranksAhead_27 : decode cX1_ranksAhead 27 = .ok (.iload_n 3, 1) := by decide +kernel
theorem dX1_ranksAhead_28 : decode cX1_ranksAhead 28 = .ok (.iload 4, 2) := by decide +kernel
theorem dX1_ranksAhead_30 : decode cX1_ranksAhead 30 = .ok (.if_icmp .eq 15, 3) := by decide +kernel
theorem dX1_ranksAhead_33 : decode cX1_ranksAhead 33 = .ok (.iload_n 3, 1) := by decide +kernel
theorem dX1_ranksAhead_34 : decode cX1_ranksAhead 34 = .ok (.iload 4, 2) := by decide +kernel
theorem dX1_ranksAhead_36 : decode cX1_ranksAhead 36 = .ok (.if_icmp .le 7, 3) := by decide +kernel
theorem dX1_ranksAhead_39 : decode cX1_ranksAhead 39 = .ok (.iconst 1, 1) := by decide +kernel
theorem dX1_ranksAhead_40 : decode cX1_ranksAhead 40 = .ok (.goto 4, 3) := by decide +kernel
theorem dX1_ranksAhead_43 : decode cX1_ranksAhead 43 = .ok (.iconst 0, 1) := by decide +kernel
theorem dX1_ranksAhead_44 : decode cX1_ranksAhead 44 = .ok (.ireturn, 1) := by decide +kernel
theorem dX1_ranksAhead_45 : decode cX1_ranksAhead 45 = .ok (.aload_n 0, 1) := by decide +kernel
theorem dX1_ranksAhead_46 : decode cX1_ranksAhead 46 = .ok (.iload_n 1, 1) := by decide +kernel
theorem dX1_ranksAhead_47 : decode cX1_ranksAhead 47 = .ok (.invokevirtual 34, 3) := by decide +kernel
theorem dX1_ranksAhead_50 : decode cX1_ranksAhead 50 = .ok (.invokevirtual 48, 3) := by decide +kernel
theorem dX1_ranksAhead_53 : decode cX1_ranksAhead 53 = .ok (.istore 5, 2) := by decide +kernel
theorem dX1_ranksAhead_55 : decode cX1_ranksAhead 55 = .ok (.aload_n 0, 1) := by decide +kernel
theorem dX1_ranksAhead_56 : decode cX1_ranksAhead 56 = .ok (.iload_n 2, 1) := by decide +kernel
theorem dX1_ranksAhead_57 : decode cX1_ranksAhead 57 = .ok (.invokevirtual 34, 3) := by decide +kernel
theorem dX1_ranksAhead_60 : decode cX1_ranksAhead 60 = .ok (.invokevirtual 48, 3) := by decide +kernel
theorem dX1_ranksAhead_63 : decode cX1_ranksAhead 63 = .ok (.istore 6, 2) := by decide +kernel
theorem dX1_ranksAhead_65 : decode cX1_ranksAhead 65 = .ok (.iload 5, 2) := by decide +kernel
theorem dX1_ranksAhead_67 : decode cX1_ranksAhead 67 = .ok (.iload 6, 2) := by decide +kernel
theorem dX1_ranksAhead_69 : decode cX1_ranksAhead 69 = .ok (.if_icmp .eq 18, 3) := by decide +kernel
theorem dX1_ranksAhead_72 : decode cX1_ranksAhead 72 = .ok (.iload 5, 2) := by decide +kernel
theorem dX1_ranksAhead_74 : decode cX1_ranksAhead 74 = .ok (.iload 6, 2) := by decide +kernel
theorem dX1_ranksAhead_76 : decode cX1_ranksAhead 76 = .ok (.if_icmp .le 7, 3) := by decide +kernel
theorem dX1_ranksAhead_79 : decode cX1_ranksAhead 79 = .ok (.iconst 1, 1) := by decide +kernel
theorem dX1_ranksAhead_80 : decode cX1_ranksAhead 80 = .ok (.goto 17, 3) := by decide +kernel
theorem dX1_ranksAhead_83 : decode cX1_ranksAhead 83 = .ok (.iconst 0, 1) := by decide +kernel
theorem dX1_ranksAhead_84 : decode cX1_ranksAhead 84 = .ok (.goto 13, 3) := by decide +kernel
theorem dX1_ranksAhead_87 : decode cX1_ranksAhead 87 = .ok (.iload_n 1, 1) := by decide +kernel
theorem dX1_ranksAhead_88 : decode cX1_ranksAhead 88 = .ok (.iload_n 2, 1) := by decide +kernel
theorem dX1_ranksAhead_89 : decode cX1_ranksAhead 89 = .ok (.if_icmp .ge 7, 3) := by decide +kernel
theorem dX1_ranksAhead_92 : decode cX1_ranksAhead 92 = .ok (.iconst 1, 1) := by decide +kernel
theorem dX1_ranksAhead_93 : decode cX1_ranksAhead 93 = .ok (.goto 4, 3) := by decide +kernel
theorem dX1_ranksAhead_96 : decode cX1_ranksAhead 96 = .ok (.iconst 0, 1) := by decide +kernel
theorem dX1_ranksAhead_97 : decode cX1_ranksAhead 97 = .ok (.ireturn, 1) := by decide +kernel
theorem dX1_isSound_0 : decode cX1_isSound 0 = .ok (.iconst 0, 1) := by decide +kernel
theorem dX1_isSound_1 : decode cX1_isSound 1 = .ok (.istore_n 1, 1) := by decide +kernel
theorem dX1_isSound_2 : decode cX1_isSound 2 = .ok (.iload_n 1, 1) := by decide +kernel
theorem dX1_isSound_3 : decode cX1_isSound 3 = .ok (.aload_n 0, 1) := by decide +kernel
theorem dX1_isSound_4 : decode cX1_isSound 4 = .ok (.getfield 14, 3) := by decide +kernel
theorem dX1_isSound_7 : decode cX1_isSound 7 = .ok (.invokevirtual 48, 3) := by decide +kernel
theorem dX1_isSound_10 : decode cX1_isSound 10 = .ok (.if_icmp .ge 46, 3) := by decide +kernel
theorem dX1_isSound_13 : decode cX1_isSound 13 = .ok (.aload_n 0, 1) := by decide +kernel
theorem dX1_isSound_14 : decode cX1_isSound 14 = .ok (.iload_n 1, 1) := by decide +kernel
theorem dX1_isSound_15 : decode cX1_isSound 15 = .ok (.invokevirtual 146, 3) := by decide +kernel
theorem dX1_isSound_18 : decode cX1_isSound 18 = .ok (.aload_n 0, 1) := by decide +kernel
theorem dX1_isSound_19 : decode cX1_isSound 19 = .ok (.iload_n 1, 1) := by decide +kernel
theorem dX1_isSound_20 : decode cX1_isSound 20 = .ok (.iconst 0, 1) := by decide +kernel
theorem dX1_isSound_21 : decode cX1_isSound 21 = .ok (.invokevirtual 136, 3) := by decide +kernel
theorem dX1_isSound_24 : decode cX1_isSound 24 = .ok (.if_icmp .ne 24, 3) := by decide +kernel
theorem dX1_isSound_27 : decode cX1_isSound 27 = .ok (.aload_n 0, 1) := by decide +kernel
theorem dX1_isSound_28 : decode cX1_isSound 28 = .ok (.iload_n 1, 1) := by decide +kernel
theorem dX1_isSound_29 : decode cX1_isSound 29 = .ok (.invokevirtual 158, 3) := by decide +kernel
theorem dX1_isSound_32 : decode cX1_isSound 32 = .ok (.aload_n 0, 1) := by decide +kernel
theorem dX1_isSound_33 : decode cX1_isSound 33 = .ok (.iload_n 1, 1) := by decide +kernel
theorem dX1_isSound_34 : decode cX1_isSound 34 = .ok (.invokevirtual 161, 3) := by decide +kernel
theorem dX1_isSound_37 : decode cX1_isSound 37 = .ok (.if_icmp .ne 11, 3) := by decide +kernel
theorem dX1_isSound_40 : decode cX1_isSound 40 = .ok (.aload_n 0, 1) := by decide +kernel
theorem dX1_isSound_41 : decode cX1_isSound 41 = .ok (.iload_n 1, 1) := by decide +kernel
theorem dX1_isSound_42 : decode cX1_isSound 42 = .ok (.invokevirtual 164, 3) := by decide +kernel
theorem dX1_isSound_45 : decode cX1_isSound 45 = .ok (.ifCond .ne 5, 3) := by decide +kernel
theorem dX1_isSound_48 : decode cX1_isSound 48 = .ok (.iconst 0, 1) := by decide +kernel
theorem dX1_isSound_49 : decode cX1_isSound 49 = .ok (.ireturn, 1) := by decide +kernel
theorem dX1_isSound_50 : decode cX1_isSound 50 = .ok (.iinc 1 1, 3) := by decide +kernel
theorem dX1_isSound_53 : decode cX1_isSound 53 = .ok (.goto (-51), 3) := by decide +kernel
theorem dX1_isSound_56 : decode cX1_isSound 56 = .ok (.iconst 1, 1) := by decide +kernel
theorem dX1_isSound_57 : decode cX1_isSound 57 = .ok (.ireturn, 1) := by decide +kernel
theorem dX1_leavesOverEachRope_0 : decode cX1_leavesOverEachRope 0 = .ok (.aload_n 0, 1) := by decide +kernel
theorem dX1_leavesOverEachRope_1 : decode cX1_leavesOverEachRope 1 = .ok (.iload_n 1, 1) := by decide +kernel
theorem dX1_leavesOverEachRope_2 : decode cX1_leavesOverEachRope 2 = .ok (.invokevirtual 87, 3) := by decide +kernel
theorem dX1_leavesOverEachRope_5 : decode cX1_leavesOverEachRope 5 = .ok (.astore_n 2, 1) := by decide +kernel
theorem dX1_leavesOverEachRope_6 : decode cX1_leavesOverEachRope 6 = .ok (.iconst 0, 1) := by decide +kernel
theorem dX1_leavesOverEachRope_7 : decode cX1_leavesOverEachRope 7 = .ok (.istore_n 3, 1) := by decide +kernel
theorem dX1_leavesOverEachRope_8 : decode cX1_leavesOverEachRope 8 = .ok (.iconst 0, 1) := by decide +kernel
theorem dX1_leavesOverEachRope_9 : decode cX1_leavesOverEachRope 9 = .ok (.istore 4, 2) := by decide +kernel
theorem dX1_leavesOverEachRope_11 : decode cX1_leavesOverEachRope 11 = .ok (.iconst 0, 1) := by decide +kernel
theorem dX1_leavesOverEachRope_12 : decode cX1_leavesOverEachRope 12 = .ok (.istore 5, 2) := by decide +kernel
theorem dX1_leavesOverEachRope_14 : decode cX1_leavesOverEachRope 14 = .ok (.iload 5, 2) := by decide +kernel
theorem dX1_leavesOverEachRope_16 : decode cX1_leavesOverEachRope 16 = .ok (.iconst 1, 1) := by decide +kernel
theorem dX1_leavesOverEachRope_17 : decode cX1_leavesOverEachRope 17 = .ok (.iadd, 1) := by decide +kernel
theorem dX1_leavesOverEachRope_18 : decode cX1_leavesOverEachRope 18 = .ok (.aload_n 2, 1) := by decide +kernel
theorem dX1_leavesOverEachRope_19 : decode cX1_leavesOverEachRope 19 = .ok (.invokevirtual 48, 3) := by decide +kernel
theorem dX1_leavesOverEachRope_22 : decode cX1_leavesOverEachRope 22 = .ok (.if_icmp .ge 36, 3) := by decide +kernel
theorem dX1_leavesOverEachRope_25 : decode cX1_leavesOverEachRope 25 = .ok (.aload_n 2, 1) := by decide +kernel
theorem dX1_leavesOverEachRope_26 : decode cX1_leavesOverEachRope 26 = .ok (.iload 5, 2) := by decide +kernel
theorem dX1_leavesOverEachRope_28 : decode cX1_leavesOverEachRope 28 = .ok (.invokevirtual 52, 3) := by decide +kernel
theorem dX1_leavesOverEachRope_31 : decode cX1_leavesOverEachRope 31 = .ok (.iload_n 1, 1) := by decide +kernel
theorem dX1_leavesOverEachRope_32 : decode cX1_leavesOverEachRope 32 = .ok (.if_icmp .ne 20, 3) := by decide +kernel
theorem dX1_leavesOverEachRope_35 : decode cX1_leavesOverEachRope 35 = .ok (.iload_n 3, 1) := by decide +kernel
theorem dX1_leavesOverEachRope_36 : decode cX1_leavesOverEachRope 36 = .ok (.aload_n 2, 1) := by decide +kernel
theorem dX1_leavesOverEachRope_37 : decode cX1_leavesOverEachRope 37 = .ok (.iload 5, 2) := by decide +kernel
theorem dX1_leavesOverEachRope_39 : decode cX1_leavesOverEachRope 39 = .ok (.iconst 1, 1) := by decide +kernel
theorem dX1_leavesOverEachRope_40 : decode cX1_leavesOverEachRope 40 = .ok (.iadd, 1) := by decide +kernel
theorem dX1_leavesOverEachRope_41 : decode cX1_leavesOverEachRope 41 = .ok (.invokevirtual 52, 3) := by decide +kernel
theorem dX1_leavesOverEachRope_44 : decode cX1_leavesOverEachRope 44 = .ok (.invokestatic 56, 3) := by decide +kernel
theorem dX1_leavesOverEachRope_47 : decode cX1_leavesOverEachRope 47 = .ok (.ior, 1) := by decide +kernel
theorem dX1_leavesOverEachRope_48 : decode cX1_leavesOverEachRope 48 = .ok (.istore_n 3, 1) := by decide +kernel
theorem dX1_leavesOverEachRope_49 : decode cX1_leavesOverEachRope 49 = .ok (.iinc 4 1, 3) := by decide +kernel
theorem dX1_leavesOverEachRope_52 : decode cX1_leavesOverEachRope 52 = .ok (.iinc 5 1, 3) := by decide +kernel
theorem dX1_leavesOverEachRope_55 : decode cX1_leavesOverEachRope 55 = .ok (.goto (-41), 3) := by decide +kernel
theorem dX1_leavesOverEachRope_58 : decode cX1_leavesOverEachRope 58 = .ok (.iload_n 3, 1) := by decide +kernel
theorem dX1_leavesOverEachRope_59 : decode cX1_leavesOverEachRope 59 = .ok (.aload_n 0, 1) := by decide +kernel
theorem dX1_leavesOverEachRope_60 : decode cX1_leavesOverEachRope 60 = .ok (.iload_n 1, 1) := by decide +kernel
theorem dX1_leavesOverEachRope_61 : decode cX1_leavesOverEachRope 61 = .ok (.invokevirtual 63, 3) := by decide +kernel
theorem dX1_leavesOverEachRope_64 : decode cX1_leavesOverEachRope 64 = .ok (.if_icmp .ne 16, 3) := by decide +kernel
theorem dX1_leavesOverEachRope_67 : decode cX1_leavesOverEachRope 67 = .ok (.iload 4, 2) := by decide +kernel
theorem dX1_leavesOverEachRope_69 : decode cX1_leavesOverEachRope 69 = .ok (.iload_n 3, 1) := by decide +kernel
theorem dX1_leavesOverEachRope_70 : decode cX1_leavesOverEachRope 70 = .ok (.invokestatic 66, 3) := by decide +kernel
theorem dX1_leavesOverEachRope_73 : decode cX1_leavesOverEachRope 73 = .ok (.if_icmp .ne 7, 3) := by decide +kernel
theorem dX1_leavesOverEachRope_76 : decode cX1_leavesOverEachRope 76 = .ok (.iconst 1, 1) := by decide +kernel
theorem dX1_leavesOverEachRope_77 : decode cX1_leavesOverEachRope 77 = .ok (.goto 4, 3) := by decide +kernel
theorem dX1_leavesOverEachRope_80 : decode cX1_leavesOverEachRope 80 = .ok (.iconst 0, 1) := by decide +kernel
theorem dX1_leavesOverEachRope_81 : decode cX1_leavesOverEachRope 81 = .ok (.ireturn, 1) := by decide +kernel
theorem dX2_init_0 : decode cX2_init 0 = .ok (.aload_n 0, 1) := by decide +kernel
theorem dX2_init_1 : decode cX2_init 1 = .ok (.invokespecial 3, 3) := by decide +kernel
theorem dX2_init_4 : decode cX2_init 4 = .ok (.aload_n 0, 1) := by decide +kernel
theorem dX2_init_5 : decode cX2_init 5 = .ok (.iload_n 1, 1) := by decide +kernel
theorem dX2_init_6 : decode cX2_init 6 = .ok (.ifCond .ge 7, 3) := by decide +kernel
theorem dX2_init_9 : decode cX2_init 9 = .ok (.iconst 0, 1) := by decide +kernel
theorem dX2_init_10 : decode cX2_init 10 = .ok (.goto 4, 3) := by decide +kernel
theorem dX2_init_13 : decode cX2_init 13 = .ok (.iload_n 1, 1) := by decide +kernel
theorem dX2_init_14 : decode cX2_init 14 = .ok (.newarray .int, 2) := by decide +kernel
theorem dX2_init_16 : decode cX2_init 16 = .ok (.putfield 9, 3) := by decide +kernel
theorem dX2_init_19 : decode cX2_init 19 = .ok (.return_, 1) := by decide +kernel
theorem dX2_length_0 : decode cX2_length 0 = .ok (.aload_n 0, 1) := by decide +kernel
theorem dX2_length_1 : decode cX2_length 1 = .ok (.getfield 15, 3) := by decide +kernel
theorem dX2_length_4 : decode cX2_length 4 = .ok (.ireturn, 1) := by decide +kernel
theorem dX2_get_0 : decode cX2_get 0 = .ok (.iload_n 1, 1) := by decide +kernel
theorem dX2_get_1 : decode cX2_get 1 = .ok (.ifCond .lt 20, 3) := by decide +kernel
theorem dX2_get_4 : decode cX2_get 4 = .ok (.iload_n 1, 1) := by decide +kernel
theorem dX2_get_5 : decode cX2_get 5 = .ok (.aload_n 0, 1) := by decide +kernel
theorem dX2_get_6 : decode cX2_get 6 = .ok (.getfield 15, 3) := by decide +kernel
theorem dX2_get_9 : decode cX2_get 9 = .ok (.if_icmp .ge 12, 3) := by decide +kernel
theorem dX2_get_12 : decode cX2_get 12 = .ok (.iload_n 1, 1) := by decide +kernel
theorem dX2_get_13 : decode cX2_get 13 = .ok (.aload_n 0, 1) := by decide +kernel
theorem dX2_get_14 : decode cX2_get 14 = .ok (.getfield 9, 3) := by decide +kernel
theorem dX2_get_17 : decode cX2_get 17 = .ok (.arraylength, 1) := by decide +kernel
theorem dX2_get_18 : decode cX2_get 18 = .ok (.if_icmp .lt 7, 3) := by decide +kernel
theorem dX2_get_21 : decode cX2_get 21 = .ok (.iconst (-1), 1) := by decide +kernel
theorem dX2_get_22 : decode cX2_get 22 = .ok (.goto 9, 3) := by decide +kernel
theorem dX2_get_25 : decode cX2_get 25 = .ok (.aload_n 0, 1) := by decide +kernel
theorem dX2_get_26 : decode cX2_get 26 = .ok (.getfield 9, 3) := by decide +kernel
theorem dX2_get_29 : decode cX2_get 29 = .ok (.iload_n 1, 1) := by decide +kernel
theorem dX2_get_30 : decode cX2_get 30 = .ok (.iaload, 1) := by decide +kernel
theorem dX2_get_31 : decode cX2_get 31 = .ok (.ireturn, 1) := by decide +kernel
theorem dX2_put_0 : decode cX2_put 0 = .ok (.iload_n 1, 1) := by decide +kernel
theorem dX2_put_1 : decode cX2_put 1 = .ok (.ifCond .lt 27, 3) := by decide +kernel
theorem dX2_put_4 : decode cX2_put 4 = .ok (.iload_n 1, 1) := by decide +kernel
theorem dX2_put_5 : decode cX2_put 5 = .ok (.aload_n 0, 1) := by decide +kernel
theorem dX2_put_6 : decode cX2_put 6 = .ok (.getfield 15, 3) := by decide +kernel
theorem dX2_put_9 : decode cX2_put 9 = .ok (.if_icmp .ge 19, 3) := by decide +kernel
theorem dX2_put_12 : decode cX2_put 12 = .ok (.iload_n 1, 1) := by decide +kernel
theorem dX2_put_13 : decode cX2_put 13 = .ok (.aload_n 0, 1) := by decide +kernel
theorem dX2_put_14 : decode cX2_put 14 = .ok (.getfield 9, 3) := by decide +kernel
theorem dX2_put_17 : decode cX2_put 17 = .ok (.arraylength, 1) := by decide +kernel
theorem dX2_put_18 : decode cX2_put 18 = .ok (.if_icmp .ge 10, 3) := by decide +kernel
theorem dX2_put_21 : decode cX2_put 21 = .ok (.aload_n 0, 1) := by decide +kernel
theorem dX2_put_22 : decode cX2_put 22 = .ok (.getfield 9, 3) := by decide +kernel
theorem dX2_put_25 : decode cX2_put 25 = .ok (.iload_n 1, 1) := by decide +kernel
theorem dX2_put_26 : decode cX2_put 26 = .ok (.iload_n 2, 1) := by decide +kernel
theorem dX2_put_27 : decode cX2_put 27 = .ok (.iastore, 1) := by decide +kernel
theorem dX2_put_28 : decode cX2_put 28 = .ok (.return_, 1) := by decide +kernel
theorem dX2_add_0 : decode cX2_add 0 = .ok (.aload_n 0, 1) := by decide +kernel
theorem dX2_add_1 : decode cX2_add 1 = .ok (.getfield 15, 3) := by decide +kernel
theorem dX2_add_4 : decode cX2_add 4 = .ok (.ifCond .lt 35, 3) := by decide +kernel
theorem dX2_add_7 : decode cX2_add 7 = .ok (.aload_n 0, 1) := by decide +kernel
theorem dX2_add_8 : decode cX2_add 8 = .ok (.getfield 15, 3) := by decide +kernel
theorem dX2_add_11 : decode cX2_add 11 = .ok (.aload_n 0, 1) := by decide +kernel
theorem dX2_add_12 : decode cX2_add 12 = .ok (.getfield 9, 3) := by decide +kernel
theorem dX2_add_15 : decode cX2_add 15 = .ok (.arraylength, 1) := by decide +kernel
theorem dX2_add_16 : decode cX2_add 16 = .ok (.if_icmp .ge 23, 3) := by decide +kernel
theorem dX2_add_19 : decode cX2_add 19 = .ok (.aload_n 0, 1) := by decide +kernel
theorem dX2_add_20 : decode cX2_add 20 = .ok (.getfield 9, 3) := by decide +kernel
theorem dX2_add_23 : decode cX2_add 23 = .ok (.aload_n 0, 1) := by decide +kernel
theorem dX2_add_24 : decode cX2_add 24 = .ok (.getfield 15, 3) := by decide +kernel
theorem dX2_add_27 : decode cX2_add 27 = .ok (.iload_n 1, 1) := by decide +kernel
theorem dX2_add_28 : decode cX2_add 28 = .ok (.iastore, 1) := by decide +kernel
theorem dX2_add_29 : decode cX2_add 29 = .ok (.aload_n 0, 1) := by decide +kernel
theorem dX2_add_30 : decode cX2_add 30 = .ok (.dup, 1) := by decide +kernel
theorem dX2_add_31 : decode cX2_add 31 = .ok (.getfield 15, 3) := by decide +kernel
theorem dX2_add_34 : decode cX2_add 34 = .ok (.iconst 1, 1) := by decide +kernel
theorem dX2_add_35 : decode cX2_add 35 = .ok (.iadd, 1) := by decide +kernel
theorem dX2_add_36 : decode cX2_add 36 = .ok (.putfield 15, 3) := by decide +kernel
theorem dX2_add_39 : decode cX2_add 39 = .ok (.return_, 1) := by decide +kernel
theorem dX2_addPlaces_0 : decode cX2_addPlaces 0 = .ok (.aload_n 1, 1) := by decide +kernel
theorem dX2_addPlaces_1 : decode cX2_addPlaces 1 = .ok (.ifnonnull 4, 3) := by decide +kernel
theorem dX2_addPlaces_4 : decode cX2_addPlaces 4 = .ok (.return_, 1) := by decide +kernel
theorem dX2_addPlaces_5 : decode cX2_addPlaces 5 = .ok (.iload_n 2, 1) := by decide +kernel
theorem dX2_addPlaces_6 : decode cX2_addPlaces 6 = .ok (.istore 4, 2) := by decide +kernel
theorem dX2_addPlaces_8 : decode cX2_addPlaces 8 = .ok (.iload 4, 2) := by decide +kernel
theorem dX2_addPlaces_10 : decode cX2_addPlaces 10 = .ok (.iload_n 3, 1) := by decide +kernel
theorem dX2_addPlaces_11 : decode cX2_addPlaces 11 = .ok (.if_icmp .gt 26, 3) := by decide +kernel
theorem dX2_addPlaces_14 : decode cX2_addPlaces 14 = .ok (.iload 4, 2) := by decide +kernel
theorem dX2_addPlaces_16 : decode cX2_addPlaces 16 = .ok (.bipush 23, 2) := by decide +kernel
theorem dX2_addPlaces_18 : decode cX2_addPlaces 18 = .ok (.if_icmp .ge 19, 3) := by decide +kernel
theorem dX2_addPlaces_21 : decode cX2_addPlaces 21 = .ok (.aload_n 0, 1) := by decide +kernel
theorem dX2_addPlaces_22 : decode cX2_addPlaces 22 = .ok (.aload_n 1, 1) := by decide +kernel
theorem dX2_addPlaces_23 : decode cX2_addPlaces 23 = .ok (.iload 4, 2) := by decide +kernel
theorem dX2_addPlaces_25 : decode cX2_addPlaces 25 = .ok (.invokevirtual 23, 3) := by decide +kernel
theorem dX2_addPlaces_28 : decode cX2_addPlaces 28 = .ok (.invokevirtual 19, 3) := by decide +kernel
theorem dX2_addPlaces_31 : decode cX2_addPlaces 31 = .ok (.iinc 4 1, 3) := by decide +kernel
theorem dX2_addPlaces_34 : decode cX2_addPlaces 34 = .ok (.goto (-26), 3) := by decide +kernel
theorem dX2_addPlaces_37 : decode cX2_addPlaces 37 = .ok (.return_, 1) := by decide +kernel
theorem dX2_dropPlaces_0 : decode cX2_dropPlaces 0 = .ok (.iload_n 2, 1) := by decide +kernel
theorem dX2_dropPlaces_1 : decode cX2_dropPlaces 1 = .ok (.iload_n 1, 1) := by decide +kernel
theorem dX2_dropPlaces_2 : decode cX2_dropPlaces 2 = .ok (.isub, 1) := by decide +kernel
theorem dX2_dropPlaces_3 : decode cX2_dropPlaces 3 = .ok (.iconst 1, 1) := by decide +kernel
theorem dX2_dropPlaces_4 : decode cX2_dropPlaces 4 = .ok (.iadd, 1) := by decide +kernel
theorem dX2_dropPlaces_5 : decode cX2_dropPlaces 5 = .ok (.istore_n 3, 1) := by decide +kernel
theorem dX2_dropPlaces_6 : decode cX2_dropPlaces 6 = .ok (.iload_n 2, 1) := by decide +kernel
theorem dX2_dropPlaces_7 : decode cX2_dropPlaces 7 = .ok (.iconst 1, 1) := by decide +kernel
theorem dX2_dropPlaces_8 : decode cX2_dropPlaces 8 = .ok (.iadd, 1) := by decide +kernel
theorem dX2_dropPlaces_9 : decode cX2_dropPlaces 9 = .ok (.istore 4, 2) := by decide +kernel
theorem dX2_dropPlaces_11 : decode cX2_dropPlaces 11 = .ok (.iload 4, 2) := by decide +kernel
theorem dX2_dropPlaces_13 : decode cX2_dropPlaces 13 = .ok (.aload_n 0, 1) := by decide +kernel
theorem dX2_dropPlaces_14 : decode cX2_dropPlaces 14 = .ok (.getfield 15, 3) := by decide +kernel
theorem dX2_dropPlaces_17 : decode cX2_dropPlaces 17 = .ok (.if_icmp .ge 23, 3) := by decide +kernel
theorem dX2_dropPlaces_20 : decode cX2_dropPlaces 20 = .ok (.aload_n 0, 1) := by decide +kernel
theorem dX2_dropPlaces_21 : decode cX2_dropPlaces 21 = .ok (.iload 4, 2) := by decide +kernel
theorem dX2_dropPlaces_23 : decode cX2_dropPlaces 23 = .ok (.iload_n 3, 1) := by decide +kernel
theorem dX2_dropPlaces_24 : decode cX2_dropPlaces 24 = .ok (.isub, 1) := by decide +kernel
theorem dX2_dropPlaces_25 : decode cX2_dropPlaces 25 = .ok (.aload_n 0, 1) := by decide +kernel
theorem dX2_dropPlaces_26 : decode cX2_dropPlaces 26 = .ok (.iload 4, 2) := by decide +kernel
theorem dX2_dropPlaces_28 : decode cX2_dropPlaces 28 = .ok (.invokevirtual 23, 3) := by decide +kernel
theorem dX2_dropPlaces_31 : decode cX2_dropPlaces 31 = .ok (.invokevirtual 27, 3) := by decide +kernel
theorem dX2_dropPlaces_34 : decode cX2_dropPlaces 34 = .ok (.iinc 4 1, 3) := by decide +kernel
theorem dX2_dropPlaces_37 : decode cX2_dropPlaces 37 = .ok (.goto (-26), 3) := by decide +kernel
theorem dX2_dropPlaces_40 : decode cX2_dropPlaces 40 = .ok (.aload_n 0, 1) := by decide +kernel
theorem dX2_dropPlaces_41 : decode cX2_dropPlaces 41 = .ok (.aload_n 0, 1) := by decide +kernel
theorem dX2_dropPlaces_42 : decode cX2_dropPlaces 42 = .ok (.getfield 15, 3) := by decide +kernel
theorem dX2_dropPlaces_45 : decode cX2_dropPlaces 45 = .ok (.iload_n 3, 1) := by decide +kernel
theorem dX2_dropPlaces_46 : decode cX2_dropPlaces 46 = .ok (.isub, 1) := by decide +kernel
theorem dX2_dropPlaces_47 : decode cX2_dropPlaces 47 = .ok (.invokevirtual 31, 3) := by decide +kernel
theorem dX2_dropPlaces_50 : decode cX2_dropPlaces 50 = .ok (.return_, 1) := by decide +kernel
theorem dX2_shorten_0 : decode cX2_shorten 0 = .ok (.iload_n 1, 1) := by decide +kernel
theorem dX2_shorten_1 : decode cX2_shorten 1 = .ok (.ifCond .lt 16, 3) := by decide +kernel
theorem dX2_shorten_4 : decode cX2_shorten 4 = .ok (.iload_n 1, 1) := by decide +kernel
theorem dX2_shorten_5 : decode cX2_shorten 5 = .ok (.aload_n 0, 1) := by decide +kernel
theorem dX2_shorten_6 : decode cX2_shorten 6 = .ok (.getfield 15, 3) := by decide +kernel
theorem dX2_shorten_9 : decode cX2_shorten 9 = .ok (.if_icmp .ge 8, 3) := by decide +kernel
theorem dX2_shorten_12 : decode cX2_shorten 12 = .ok (.aload_n 0, 1) := by decide +kernel
theorem dX2_shorten_13 : decode cX2_shorten 13 = .ok (.iload_n 1, 1) := by decide +kernel
theorem dX2_shorten_14 : decode cX2_shorten 14 = .ok (.putfield 15, 3) := by decide +kernel
theorem dX2_shorten_17 : decode cX2_shorten 17 = .ok (.return_, 1) := by decide +kernel
theorem dX2_clear_0 : decode cX2_clear 0 = .ok (.aload_n 0, 1) := by decide +kernel
theorem dX2_clear_1 : decode cX2_clear 1 = .ok (.iconst 0, 1) := by decide +kernel
theorem dX2_clear_2 : decode cX2_clear 2 = .ok (.putfield 15, 3) := by decide +kernel
theorem dX2_clear_5 : decode cX2_clear 5 = .ok (.return_, 1) := by decide +kernel
theorem dX2_copyFrom_0 : decode cX2_copyFrom 0 = .ok (.aload_n 1, 1) := by decide +kernel
theorem dX2_copyFrom_1 : decode cX2_copyFrom 1 = .ok (.ifnonnull 4, 3) := by decide +kernel
theorem dX2_copyFrom_4 : decode cX2_copyFrom 4 = .ok (.return_, 1) := by decide +kernel
theorem dX2_copyFrom_5 : decode cX2_copyFrom 5 = .ok (.aload_n 0, 1) := by decide +kernel
theorem dX2_copyFrom_6 : decode cX2_copyFrom 6 = .ok (.iconst 0, 1) := by decide +kernel
theorem dX2_copyFrom_7 : decode cX2_copyFrom 7 = .ok (.putfield 15, 3) := by decide +kernel
theorem dX2_copyFrom_10 : decode cX2_copyFrom 10 = .ok (.iconst 0, 1) := by decide +kernel
theorem dX2_copyFrom_11 : decode cX2_copyFrom 11 = .ok (.istore_n 2, 1) := by decide +kernel
theorem dX2_copyFrom_12 : decode cX2_copyFrom 12 = .ok (.iload_n 2, 1) := by decide +kernel
theorem dX2_copyFrom_13 : decode cX2_copyFrom 13 = .ok (.aload_n 1, 1) := by decide +kernel
theorem dX2_copyFrom_14 : decode cX2_copyFrom 14 = .ok (.getfield 15, 3) := by decide +kernel
theorem dX2_copyFrom_17 : decode cX2_copyFrom 17 = .ok (.if_icmp .ge 18, 3) := by decide +kernel
theorem dX2_copyFrom_20 : decode cX2_copyFrom 20 = .ok (.aload_n 0, 1) := by decide +kernel
theorem dX2_copyFrom_21 : decode cX2_copyFrom 21 = .ok (.aload_n 1, 1) := by decide +kernel
theorem dX2_copyFrom_22 : decode cX2_copyFrom 22 = .ok (.iload_n 2, 1) := by decide +kernel
theorem dX2_copyFrom_23 : decode cX2_copyFrom 23 = .ok (.invokevirtual 23, 3) := by decide +kernel
theorem dX2_copyFrom_26 : decode cX2_copyFrom 26 = .ok (.invokevirtual 19, 3) := by decide +kernel
theorem dX2_copyFrom_29 : decode cX2_copyFrom 29 = .ok (.iinc 2 1, 3) := by decide +kernel
theorem dX2_copyFrom_32 : decode cX2_copyFrom 32 = .ok (.goto (-20), 3) := by decide +kernel
theorem dX2_copyFrom_35 : decode cX2_copyFrom 35 = .ok (.return_, 1) := by decide +kernel
theorem dX2_firstOf_0 : decode cX2_firstOf 0 = .ok (.iconst 0, 1) := by decide +kernel
theorem dX2_firstOf_1 : decode cX2_firstOf 1 = .ok (.istore_n 2, 1) := by decide +kernel
theorem dX2_firstOf_2 : decode cX2_firstOf 2 = .ok (.iload_n 2, 1) := by decide +kernel
theorem dX2_firstOf_3 : decode cX2_firstOf 3 = .ok (.aload_n 0, 1) := by decide +kernel
theorem dX2_firstOf_4 : decode cX2_firstOf 4 = .ok (.getfield 15, 3) := by decide +kernel
theorem dX2_firstOf_7 : decode cX2_firstOf 7 = .ok (.if_icmp .ge 30, 3) := by decide +kernel
theorem dX2_firstOf_10 : decode cX2_firstOf 10 = .ok (.iload_n 2, 1) := by decide +kernel
theorem dX2_firstOf_11 : decode cX2_firstOf 11 = .ok (.aload_n 0, 1) := by decide +kernel
theorem dX2_firstOf_12 : decode cX2_firstOf 12 = .ok (.getfield 9, 3) := by decide +kernel
theorem dX2_firstOf_15 : decode cX2_firstOf 15 = .ok (.arraylength, 1) := by decide +kernel
theorem dX2_firstOf_16 : decode cX2_firstOf 16 = .ok (.if_icmp .ge 21, 3) := by decide +kernel
theorem dX2_firstOf_19 : decode cX2_firstOf 19 = .ok (.aload_n 0, 1) := by decide +kernel
theorem dX2_firstOf_20 : decode cX2_firstOf 20 = .ok (.getfield 9, 3) := by decide +kernel
theorem dX2_firstOf_23 : decode cX2_firstOf 23 = .ok (.iload_n 2, 1) := by decide +kernel
theorem dX2_firstOf_24 : decode cX2_firstOf 24 = .ok (.iaload, 1) := by decide +kernel
theorem dX2_firstOf_25 : decode cX2_firstOf 25 = .ok (.iload_n 1, 1) := by decide +kernel
theorem dX2_firstOf_26 : decode cX2_firstOf 26 = .ok (.if_icmp .ne 5, 3) := by decide +kernel
theorem dX2_firstOf_29 : decode cX2_firstOf 29 = .ok (.iload_n 2, 1) := by decide +kernel
theorem dX2_firstOf_30 : decode cX2_firstOf 30 = .ok (.ireturn, 1) := by decide +kernel
theorem dX2_firstOf_31 : decode cX2_firstOf 31 = .ok (.iinc 2 1, 3) := by decide +kernel
theorem dX2_firstOf_34 : decode cX2_firstOf 34 = .ok (.goto (-32), 3) := by decide +kernel
theorem dX2_firstOf_37 : decode cX2_firstOf 37 = .ok (.iconst (-1), 1) := by decide +kernel
theorem dX2_firstOf_38 : decode cX2_firstOf 38 = .ok (.ireturn, 1) := by decide +kernel
theorem dX2_lastOf_0 : decode cX2_lastOf 0 = .ok (.aload_n 0, 1) := by decide +kernel
theorem dX2_lastOf_1 : decode cX2_lastOf 1 = .ok (.getfield 15, 3) := by decide +kernel
theorem dX2_lastOf_4 : decode cX2_lastOf 4 = .ok (.iconst 1, 1) := by decide +kernel
theorem dX2_lastOf_5 : decode cX2_lastOf 5 = .ok (.isub, 1) := by decide +kernel
theorem dX2_lastOf_6 : decode cX2_lastOf 6 = .ok (.istore_n 2, 1) := by decide +kernel
theorem dX2_lastOf_7 : decode cX2_lastOf 7 = .ok (.iload_n 2, 1) := by decide +kernel
theorem dX2_lastOf_8 : decode cX2_lastOf 8 = .ok (.ifCond .lt 20, 3) := by decide +kernel
theorem dX2_lastOf_11 : decode cX2_lastOf 11 = .ok (.aload_n 0, 1) := by decide +kernel
theorem dX2_lastOf_12 : decode cX2_lastOf 12 = .ok (.iload_n 2, 1) := by decide +kernel
theorem dX2_lastOf_13 : decode cX2_lastOf 13 = .ok (.invokevirtual 23, 3) := by decide +kernel
theorem dX2_lastOf_16 : decode cX2_lastOf 16 = .ok (.iload_n 1, 1) := by decide +kernel
theorem dX2_lastOf_17 : decode cX2_lastOf 17 = .ok (.if_icmp .ne 5, 3) := by decide +kernel
theorem dX2_lastOf_20 : decode cX2_lastOf 20 = .ok (.iload_n 2, 1) := by decide +kernel
theorem dX2_lastOf_21 : decode cX2_lastOf 21 = .ok (.ireturn, 1) := by decide +kernel
theorem dX2_lastOf_22 : decode cX2_lastOf 22 = .ok (.iinc 2 (-1), 3) := by decide +kernel
theorem dX2_lastOf_25 : decode cX2_lastOf 25 = .ok (.goto (-18), 3) := by decide +kernel
theorem dX2_lastOf_28 : decode cX2_lastOf 28 = .ok (.iconst (-1), 1) := by decide +kernel
theorem dX2_lastOf_29 : decode cX2_lastOf 29 = .ok (.ireturn, 1) := by decide +kernel
theorem dX2_setOfAll_0 : decode cX2_setOfAll 0 = .ok (.aload_n 0, 1) := by decide +kernel
theorem dX2_setOfAll_1 : decode cX2_setOfAll 1 = .ok (.iconst 0, 1) := by decide +kernel
theorem dX2_setOfAll_2 : decode cX2_setOfAll 2 = .ok (.aload_n 0, 1) := by decide +kernel
theorem dX2_setOfAll_3 : decode cX2_setOfAll 3 = .ok (.getfield 15, 3) := by decide +kernel
theorem dX2_setOfAll_6 : decode cX2_setOfAll 6 = .ok (.iconst 1, 1) := by decide +kernel
theorem dX2_setOfAll_7 : decode cX2_setOfAll 7 = .ok (.isub, 1) := by decide +kernel
theorem dX2_setOfAll_8 : decode cX2_setOfAll 8 = .ok (.invokevirtual 34, 3) := by decide +kernel
theorem dX2_setOfAll_11 : decode cX2_setOfAll 11 = .ok (.ireturn, 1) := by decide +kernel
theorem dX2_setOf_0 : decode cX2_setOf 0 = .ok (.iconst 0, 1) := by decide +kernel
theorem dX2_setOf_1 : decode cX2_setOf 1 = .ok (.istore_n 3, 1) := by decide +kernel
theorem dX2_setOf_2 : decode cX2_setOf 2 = .ok (.iload_n 1, 1) := by decide +kernel
theorem dX2_setOf_3 : decode cX2_setOf 3 = .ok (.istore 4, 2) := by decide +kernel
theorem dX2_setOf_5 : decode cX2_setOf 5 = .ok (.iload 4, 2) := by decide +kernel
theorem dX2_setOf_7 : decode cX2_setOf 7 = .ok (.iload_n 2, 1) := by decide +kernel
theorem dX2_setOf_8 : decode cX2_setOf 8 = .ok (.if_icmp .gt 28, 3) := by decide +kernel
theorem dX2_setOf_11 : decode cX2_setOf 11 = .ok (.iload 4, 2) := by decide +kernel
theorem dX2_setOf_13 : decode cX2_setOf 13 = .ok (.bipush 23, 2) := by decide +kernel
theorem dX2_setOf_15 : decode cX2_setOf 15 = .ok (.if_icmp .ge 21, 3) := by decide +kernel
theorem dX2_setOf_18 : decode cX2_setOf 18 = .ok (.iload_n 3, 1) := by decide +kernel
theorem dX2_setOf_19 : decode cX2_setOf 19 = .ok (.aload_n 0, 1) := by decide +kernel
theorem dX2_setOf_20 : decode cX2_setOf 20 = .ok (.iload 4, 2) := by decide +kernel
theorem dX2_setOf_22 : decode cX2_setOf 22 = .ok (.invokevirtual 23, 3) := by decide +kernel
theorem dX2_setOf_25 : decode cX2_setOf 25 = .ok (.invokestatic 38, 3) := by decide +kernel
theorem dX2_setOf_28 : decode cX2_setOf 28 = .ok (.ior, 1) := by decide +kernel
theorem dX2_setOf_29 : decode cX2_setOf 29 = .ok (.istore_n 3, 1) := by decide +kernel
theorem dX2_setOf_30 : decode cX2_setOf 30 = .ok (.iinc 4 1, 3) := by decide +kernel
theorem dX2_setOf_33 : decode cX2_setOf 33 = .ok (.goto (-28), 3) := by decide +kernel
theorem dX2_setOf_36 : decode cX2_setOf 36 = .ok (.iload_n 3, 1) := by decide +kernel
theorem dX2_setOf_37 : decode cX2_setOf 37 = .ok (.ireturn, 1) := by decide +kernel
theorem dX3_init_0 : decode cX3_init 0 = .ok (.aload_n 0, 1) := by decide +kernel
theorem dX3_init_1 : decode cX3_init 1 = .ok (.invokespecial 3, 3) := by decide +kernel
theorem dX3_init_4 : decode cX3_init 4 = .ok (.aload_n 0, 1) := by decide +kernel
theorem dX3_init_5 : decode cX3_init 5 = .ok (.new 9, 3) := by decide +kernel
theorem dX3_init_8 : decode cX3_init 8 = .ok (.dup, 1) := by decide +kernel
theorem dX3_init_9 : decode cX3_init 9 = .ok (.bipush 70, 2) := by decide +kernel
theorem dX3_init_11 : decode cX3_init 11 = .ok (.invokespecial 11, 3) := by decide +kernel
theorem dX3_init_14 : decode cX3_init 14 = .ok (.putfield 14, 3) := by decide +kernel
theorem dX3_init_17 : decode cX3_init 17 = .ok (.aload_n 0, 1) := by decide +kernel
theorem dX3_init_18 : decode cX3_init 18 = .ok (.new 9, 3) := by decide +kernel
theorem dX3_init_21 : decode cX3_init 21 = .ok (.dup, 1) := by decide +kernel
theorem dX3_init_22 : decode cX3_init 22 = .ok (.bipush 70, 2) := by decide +kernel
theorem dX3_init_24 : decode cX3_init 24 = .ok (.invokespecial 11, 3) := by decide +kernel
theorem dX3_init_27 : decode cX3_init 27 = .ok (.putfield 20, 3) := by decide +kernel
theorem dX3_init_30 : decode cX3_init 30 = .ok (.aload_n 0, 1) := by decide +kernel
theorem dX3_init_31 : decode cX3_init 31 = .ok (.new 9, 3) := by decide +kernel
theorem dX3_init_34 : decode cX3_init 34 = .ok (.dup, 1) := by decide +kernel
theorem dX3_init_35 : decode cX3_init 35 = .ok (.bipush 70, 2) := by decide +kernel
theorem dX3_init_37 : decode cX3_init 37 = .ok (.invokespecial 11, 3) := by decide +kernel
theorem dX3_init_40 : decode cX3_init 40 = .ok (.putfield 23, 3) := by decide +kernel
theorem dX3_init_43 : decode cX3_init 43 = .ok (.return_, 1) := by decide +kernel
theorem dX3_commands_0 : decode cX3_commands 0 = .ok (.aload_n 0, 1) := by decide +kernel
theorem dX3_commands_1 : decode cX3_commands 1 = .ok (.getfield 14, 3) := by decide +kernel
theorem dX3_commands_4 : decode cX3_commands 4 = .ok (.invokevirtual 26, 3) := by decide +kernel
theorem dX3_commands_7 : decode cX3_commands 7 = .ok (.ireturn, 1) := by decide +kernel
theorem dX3_kindOf_0 : decode cX3_kindOf 0 = .ok (.aload_n 0, 1) := by decide +kernel
theorem dX3_kindOf_1 : decode cX3_kindOf 1 = .ok (.getfield 14, 3) := by decide +kernel
theorem dX3_kindOf_4 : decode cX3_kindOf 4 = .ok (.iload_n 1, 1) := by decide +kernel
theorem dX3_kindOf_5 : decode cX3_kindOf 5 = .ok (.invokevirtual 30, 3) := by decide +kernel
theorem dX3_kindOf_8 : decode cX3_kindOf 8 = .ok (.ireturn, 1) := by decide +kernel
theorem dX3_firstOf_0 : decode cX3_firstOf 0 = .ok (.aload_n 0, 1) := by decide +kernel
theorem dX3_firstOf_1 : decode cX3_firstOf 1 = .ok (.getfield 20, 3) := by decide +kernel
theorem dX3_firstOf_4 : decode cX3_firstOf 4 = .ok (.iload_n 1, 1) := by decide +kernel
theorem dX3_firstOf_5 : decode cX3_firstOf 5 = .ok (.invokevirtual 30, 3) := by decide +kernel
theorem dX3_firstOf_8 : decode cX3_firstOf 8 = .ok (.ireturn, 1) := by decide +kernel
theorem dX3_secondOf_0 : decode cX3_secondOf 0 = .ok (.aload_n 0, 1) := by decide +kernel
theorem dX3_secondOf_1 : decode cX3_secondOf 1 = .ok (.getfield 23, 3) := by decide +kernel
theorem dX3_secondOf_4 : decode cX3_secondOf 4 = .ok (.iload_n 1, 1) := by decide +kernel
theorem dX3_secondOf_5 : decode cX3_secondOf 5 = .ok (.invokevirtual 30, 3) := by decide +kernel
theorem dX3_secondOf_8 : decode cX3_secondOf 8 = .ok (.ireturn, 1) := by decide +kernel
theorem dX3_faultIn_0 : decode cX3_faultIn 0 = .ok (.aload_n 0, 1) := by decide +kernel
theorem dX3_faultIn_1 : decode cX3_faultIn 1 = .ok (.getfield 14, 3) := by decide +kernel
theorem dX3_faultIn_4 : decode cX3_faultIn 4 = .ok (.invokevirtual 34, 3) := by decide +kernel
theorem dX3_faultIn_7 : decode cX3_faultIn 7 = .ok (.aload_n 0, 1) := by decide +kernel
theorem dX3_faultIn_8 : decode cX3_faultIn 8 = .ok (.getfield 20, 3) := by decide +kernel
theorem dX3_faultIn_11 : decode cX3_faultIn 11 = .ok (.invokevirtual 34, 3) := by decide +kernel
theorem dX3_faultIn_14 : decode cX3_faultIn 14 = .ok (.aload_n 0, 1) := by decide +kernel
theorem dX3_faultIn_15 : decode cX3_faultIn 15 = .ok (.getfield 23, 3) := by decide +kernel
theorem dX3_faultIn_18 : decode cX3_faultIn 18 = .ok (.invokevirtual 34, 3) := by decide +kernel
theorem dX3_faultIn_21 : decode cX3_faultIn 21 = .ok (.aload_n 0, 1) := by decide +kernel
theorem dX3_faultIn_22 : decode cX3_faultIn 22 = .ok (.iconst 0, 1) := by decide +kernel
theorem dX3_faultIn_23 : decode cX3_faultIn 23 = .ok (.putfield 37, 3) := by decide +kernel
theorem dX3_faultIn_26 : decode cX3_faultIn 26 = .ok (.aload_n 1, 1) := by decide +kernel
theorem dX3_faultIn_27 : decode cX3_faultIn 27 = .ok (.ifnonnull 8, 3) := by decide +kernel
theorem dX3_faultIn_30 : decode cX3_faultIn 30 = .ok (.aload_n 0, 1) := by decide +kernel
theorem dX3_faultIn_31 : decode cX3_faultIn 31 = .ok (.getfield 37, 3) := by decide +kernel
theorem dX3_faultIn_34 : decode cX3_faultIn 34 = .ok (.ireturn, 1) := by decide +kernel
theorem dX3_faultIn_35 : decode cX3_faultIn 35 = .ok (.iconst 0, 1) := by decide +kernel
theorem dX3_faultIn_36 : decode cX3_faultIn 36 = .ok (.istore_n 2, 1) := by decide +kernel
theorem dX3_faultIn_37 : decode cX3_faultIn 37 = .ok (.iload_n 2, 1) := by decide +kernel
theorem dX3_faultIn_38 : decode cX3_faultIn 38 = .ok (.bipush 70, 2) := by decide +kernel
theorem dX3_faultIn_40 : decode cX3_faultIn 40 = .ok (.if_icmp .ge 58, 3) := by decide +kernel
theorem dX3_faultIn_43 : decode cX3_faultIn 43 = .ok (.aload_n 0, 1) := by decide +kernel
theorem dX3_faultIn_44 : decode cX3_faultIn 44 = .ok (.aload_n 1, 1) := by decide +kernel
theorem dX3_faultIn_45 : decode cX3_faultIn 45 = .ok (.invokevirtual 41, 3) := by decide +kernel
theorem dX3_faultIn_48 : decode cX3_faultIn 48 = .ok (.ifCond .eq 50, 3) := by decide +kernel
theorem dX3_faultIn_51 : decode cX3_faultIn 51 = .ok (.aload_n 0, 1) := by decide +kernel
theorem dX3_faultIn_52 : decode cX3_faultIn 52 = .ok (.getfield 37, 3) := by decide +kernel
theorem dX3_faultIn_55 : decode cX3_faultIn 55 = .ok (.aload_n 1, 1) := by decide +kernel
theorem dX3_faultIn_56 : decode cX3_faultIn 56 = .ok (.invokevirtual 26, 3) := by decide +kernel
theorem dX3_faultIn_59 : decode cX3_faultIn 59 = .ok (.if_icmp .ne 5, 3) := by decide +kernel
theorem dX3_faultIn_62 : decode cX3_faultIn 62 = .ok (.iconst (-1), 1) := by decide +kernel
theorem dX3_faultIn_63 : decode cX3_faultIn 63 = .ok (.ireturn, 1) := by decide +kernel
theorem dX3_faultIn_64 : decode cX3_faultIn 64 = .ok (.aload_n 1, 1) := by decide +kernel
theorem dX3_faultIn_65 : decode cX3_faultIn 65 = .ok (.aload_n 0, 1) := by decide +kernel
theorem dX3_faultIn_66 : decode cX3_faultIn 66 = .ok (.getfield 37, 3) := by decide +kernel
theorem dX3_faultIn_69 : decode cX3_faultIn 69 = .ok (.invokevirtual 30, 3) := by decide +kernel
theorem dX3_faultIn_72 : decode cX3_faultIn 72 = .ok (.bipush 59, 2) := by decide +kernel
theorem dX3_faultIn_74 : decode cX3_faultIn 74 = .ok (.if_icmp .eq 8, 3) := by decide +kernel
theorem dX3_faultIn_77 : decode cX3_faultIn 77 = .ok (.aload_n 0, 1) := by decide +kernel
theorem dX3_faultIn_78 : decode cX3_faultIn 78 = .ok (.getfield 37, 3) := by decide +kernel
theorem dX3_faultIn_81 : decode cX3_faultIn 81 = .ok (.ireturn, 1) := by decide +kernel
theorem dX3_faultIn_82 : decode cX3_faultIn 82 = .ok (.aload_n 0, 1) := by decide +kernel
theorem dX3_faultIn_83 : decode cX3_faultIn 83 = .ok (.dup, 1) := by decide +kernel
theorem dX3_faultIn_84 : decode cX3_faultIn 84 = .ok (.getfield 37, 3) := by decide +kernel
theorem dX3_faultIn_87 : decode cX3_faultIn 87 = .ok (.iconst 1, 1) := by decide +kernel
theorem dX3_faultIn_88 : decode cX3_faultIn 88 = .ok (.iadd, 1) := by decide +kernel
theorem dX3_faultIn_89 : decode cX3_faultIn 89 = .ok (.putfield 37, 3) := by decide +kernel
theorem dX3_faultIn_92 : decode cX3_faultIn 92 = .ok (.iinc 2 1, 3) := by decide +kernel
theorem dX3_faultIn_95 : decode cX3_faultIn 95 = .ok (.goto (-58), 3) := by decide +kernel
theorem dX3_faultIn_98 : decode cX3_faultIn 98 = .ok (.aload_n 0, 1) := by decide +kernel
theorem dX3_faultIn_99 : decode cX3_faultIn 99 = .ok (.getfield 37, 3) := by decide +kernel
theorem dX3_faultIn_102 : decode cX3_faultIn 102 = .ok (.ireturn, 1) := by decide +kernel
theorem dX3_takeCommand_0 : decode cX3_takeCommand 0 = .ok (.aload_n 1, 1) := by decide +kernel
theorem dX3_takeCommand_1 : decode cX3_takeCommand 1 = .ok (.aload_n 0, 1) := by decide +kernel
theorem dX3_takeCommand_2 : decode cX3_takeCommand 2 = .ok (.getfield 37, 3) := by decide +kernel
theorem dX3_takeCommand_5 : decode cX3_takeCommand 5 = .ok (.invokevirtual 30, 3) := by decide +kernel
theorem dX3_takeCommand_8 : decode cX3_takeCommand 8 = .ok (.istore_n 2, 1) := by decide +kernel
theorem dX3_takeCommand_9 : decode cX3_takeCommand 9 = .ok (.iload_n 2, 1) := by decide +kernel
theorem dX3_takeCommand_10 : decode cX3_takeCommand 10 = .ok (.invokestatic 45, 3) := by decide +kernel
theorem dX3_takeCommand_13 : decode cX3_takeCommand 13 = .ok (.ifCond .ne 5, 3) := by decide +kernel
theorem dX3_takeCommand_16 : decode cX3_takeCommand 16 = .ok (.iconst 0, 1) := by decide +kernel
theorem dX3_takeCommand_17 : decode cX3_takeCommand 17 = .ok (.ireturn, 1) := by decide +kernel
theorem dX3_takeCommand_18 : decode cX3_takeCommand 18 = .ok (.aload_n 0, 1) := by decide +kernel
theorem dX3_takeCommand_19 : decode cX3_takeCommand 19 = .ok (.dup, 1) := by decide +kernel
theorem dX3_takeCommand_20 : decode cX3_takeCommand 20 = .ok (.getfield 37, 3) := by decide +kernel
theorem dX3_takeCommand_23 : decode cX3_takeCommand 23 = .ok (.iconst 1, 1) := by decide +kernel
theorem dX3_takeCommand_24 : decode cX3_takeCommand 24 = .ok (.iadd, 1) := by decide +kernel
theorem dX3_takeCommand_25 : decode cX3_takeCommand 25 = .ok (.putfield 37, 3) := by decide +kernel
theorem dX3_takeCommand_28 : decode cX3_takeCommand 28 = .ok (.aload_n 0, 1) := by decide +kernel
theorem dX3_takeCommand_29 : decode cX3_takeCommand 29 = .ok (.aload_n 1, 1) := by decide +kernel
theorem dX3_takeCommand_30 : decode cX3_takeCommand 30 = .ok (.invokevirtual 49, 3) := by decide +kernel
theorem dX3_takeCommand_33 : decode cX3_takeCommand 33 = .ok (.ifCond .ne 5, 3) := by decide +kernel
theorem dX3_takeCommand_36 : decode cX3_takeCommand 36 = .ok (.iconst 0, 1) := by decide +kernel
theorem dX3_takeCommand_37 : decode cX3_takeCommand 37 = .ok (.ireturn, 1) := by decide +kernel
theorem dX3_takeCommand_38 : decode cX3_takeCommand 38 = .ok (.aload_n 0, 1) := by decide +kernel
theorem dX3_takeCommand_39 : decode cX3_takeCommand 39 = .ok (.getfield 52, 3) := by decide +kernel
theorem dX3_takeCommand_42 : decode cX3_takeCommand 42 = .ok (.istore_n 3, 1) := by decide +kernel
theorem dX3_takeCommand_43 : decode cX3_takeCommand 43 = .ok (.iconst 0, 1) := by decide +kernel
theorem dX3_takeCommand_44 : decode cX3_takeCommand 44 = .ok (.istore 4, 2) := by decide +kernel
theorem dX3_takeCommand_46 : decode cX3_takeCommand 46 = .ok (.iload_n 2, 1) := by decide +kernel
theorem dX3_takeCommand_47 : decode cX3_takeCommand 47 = .ok (.bipush 98, 2) := by decide +kernel
theorem dX3_takeCommand_49 : decode cX3_takeCommand 49 = .ok (.if_icmp .eq 71, 3) := by decide +kernel
theorem dX3_takeCommand_52 : decode cX3_takeCommand 52 = .ok (.iload_n 2, 1) := by decide +kernel
theorem dX3_takeCommand_53 : decode cX3_takeCommand 53 = .ok (.bipush 116, 2) := by decide +kernel
theorem dX3_takeCommand_55 : decode cX3_takeCommand 55 = .ok (.if_icmp .eq 65, 3) := by decide +kernel
theorem dX3_takeCommand_58 : decode cX3_takeCommand 58 = .ok (.aload_n 1, 1) := by decide +kernel
theorem dX3_takeCommand_59 : decode cX3_takeCommand 59 = .ok (.aload_n 0, 1) := by decide +kernel
theorem dX3_takeCommand_60 : decode cX3_takeCommand 60 = .ok (.getfield 37, 3) := by decide +kernel
theorem dX3_takeCommand_63 : decode cX3_takeCommand 63 = .ok (.invokevirtual 30, 3) := by decide +kernel
theorem dX3_takeCommand_66 : decode cX3_takeCommand 66 = .ok (.istore 5, 2) := by decide +kernel
theorem dX3_takeCommand_68 : decode cX3_takeCommand 68 = .ok (.iload_n 2, 1) := by decide +kernel
theorem dX3_takeCommand_69 : decode cX3_takeCommand 69 = .ok (.iload 5, 2) := by decide +kernel
theorem dX3_takeCommand_71 : decode cX3_takeCommand 71 = .ok (.invokestatic 55, 3) := by decide +kernel
theorem dX3_takeCommand_74 : decode cX3_takeCommand 74 = .ok (.ifCond .ne 5, 3) := by decide +kernel
theorem dX3_takeCommand_77 : decode cX3_takeCommand 77 = .ok (.iconst 0, 1) := by decide +kernel
theorem dX3_takeCommand_78 : decode cX3_takeCommand 78 = .ok (.ireturn, 1) := by decide +kernel
theorem dX3_takeCommand_79 : decode cX3_takeCommand 79 = .ok (.aload_n 0, 1) := by decide +kernel
theorem dX3_takeCommand_80 : decode cX3_takeCommand 80 = .ok (.dup, 1) := by decide +kernel
theorem dX3_takeCommand_81 : decode cX3_takeCommand 81 = .ok (.getfield 37, 3) := by decide +kernel
theorem dX3_takeCommand_84 : decode cX3_takeCommand 84 = .ok (.iconst 1, 1) := by decide +kernel
theorem dX3_takeCommand_85 : decode cX3_takeCommand 85 = .ok (.iadd, 1) := by decide +kernel
theorem dX3_takeCommand_86 : decode cX3_takeCommand 86 = .ok (.putfield 37, 3) := by decide +kernel
theorem dX3_takeCommand_89 : decode cX3_takeCommand 89 = .ok (.aload_n 0, 1) := by decide +kernel
theorem dX3_takeCommand_90 : decode cX3_takeCommand 90 = .ok (.aload_n 1, 1) := by decide +kernel
theorem dX3_takeCommand_91 : decode cX3_takeCommand 91 = .ok (.invokevirtual 49, 3) := by decide +kernel
theorem dX3_takeCommand_94 : decode cX3_takeCommand 94 = .ok (.ifCond .ne 5, 3) := by decide +kernel
theorem dX3_takeCommand_97 : decode cX3_takeCommand 97 = .ok (.iconst 0, 1) := by decide +kernel
theorem dX3_takeCommand_98 : decode cX3_takeCommand 98 = .ok (.ireturn, 1) := by decide +kernel
theorem dX3_takeCommand_99 : decode cX3_takeCommand 99 = .ok (.iload 5, 2) := by decide +kernel
theorem dX3_takeCommand_101 : decode cX3_takeCommand 101 = .ok (.bipush 45, 2) := by decide +kernel
theorem dX3_takeCommand_103 : decode cX3_takeCommand 103 = .ok (.if_icmp .ne 11, 3) := by decide +kernel
theorem dX3_takeCommand_106 : decode cX3_takeCommand 106 = .ok (.aload_n 0, 1) := by decide +kernel
theorem dX3_takeCommand_107 : decode cX3_takeCommand 107 = .ok (.getfield 52, 3) := by decide +kernel
theorem dX3_takeCommand_110 : decode cX3_takeCommand 110 = .ok (.ineg, 1) := by decide +kernel
theorem dX3_takeCommand_111 : decode cX3_takeCommand 111 = .ok (.goto 7, 3) := by decide +kernel
theorem dX3_takeCommand_114 : decode cX3_takeCommand 114 = .ok (.aload_n 0, 1) := by decide +kernel
theorem dX3_takeCommand_115 : decode cX3_takeCommand 115 = .ok (.getfield 52, 3) := by decide +kernel
theorem dX3_takeCommand_118 : decode cX3_takeCommand 118 = .ok (.istore 4, 2) := by decide +kernel
theorem dX3_takeCommand_120 : decode cX3_takeCommand 120 = .ok (.aload_n 0, 1) := by decide +kernel
theorem dX3_takeCommand_121 : decode cX3_takeCommand 121 = .ok (.getfield 14, 3) := by decide +kernel
theorem dX3_takeCommand_124 : decode cX3_takeCommand 124 = .ok (.iload_n 2, 1) := by decide +kernel
theorem dX3_takeCommand_125 : decode cX3_takeCommand 125 = .ok (.invokevirtual 59, 3) := by decide +kernel
theorem dX3_takeCommand_128 : decode cX3_takeCommand 128 = .ok (.aload_n 0, 1) := by decide +kernel
theorem dX3_takeCommand_129 : decode cX3_takeCommand 129 = .ok (.getfield 20, 3) := by decide +kernel
theorem dX3_takeCommand_132 : decode cX3_takeCommand 132 = .ok (.iload_n 3, 1) := by decide +kernel
theorem dX3_takeCommand_133 : decode cX3_takeCommand 133 = .ok (.invokevirtual 59, 3) := by decide +kernel
theorem dX3_takeCommand_136 : decode cX3_takeCommand 136 = .ok (.aload_n 0, 1) := by decide +kernel
theorem dX3_takeCommand_137 : decode cX3_takeCommand 137 = .ok (.getfield 23, 3) := by decide +kernel
theorem dX3_takeCommand_140 : decode cX3_takeCommand 140 = .ok (.iload 4, 2) := by decide +kernel
theorem dX3_takeCommand_142 : decode cX3_takeCommand 142 = .ok (.invokevirtual 59, 3) := by decide +kernel
theorem dX3_takeCommand_145 : decode cX3_takeCommand 145 = .ok (.iconst 1, 1) := by decide +kernel
theorem dX3_takeCommand_146 : decode cX3_takeCommand 146 = .ok (.ireturn, 1) := by decide +kernel
theorem dX3_takeNumber_0 : decode cX3_takeNumber 0 = .ok (.aload_n 1, 1) := by decide +kernel
theorem dX3_takeNumber_1 : decode cX3_takeNumber 1 = .ok (.aload_n 0, 1) := by decide +kernel
theorem dX3_takeNumber_2 : decode cX3_takeNumber 2 = .ok (.getfield 37, 3) := by decide +kernel
theorem dX3_takeNumber_5 : decode cX3_takeNumber 5 = .ok (.invokevirtual 30, 3) := by decide +kernel
theorem dX3_takeNumber_8 : decode cX3_takeNumber 8 = .ok (.invokestatic 62, 3) := by decide +kernel
theorem dX3_takeNumber_11 : decode cX3_takeNumber 11 = .ok (.ifCond .ne 5, 3) := by decide +kernel
theorem dX3_takeNumber_14 : decode cX3_takeNumber 14 = .ok (.iconst 0, 1) := by decide +kernel
theorem dX3_takeNumber_15 : decode cX3_takeNumber 15 = .ok (.ireturn, 1) := by decide +kernel
theorem dX3_takeNumber_16 : decode cX3_takeNumber 16 = .ok (.aload_n 0, 1) := by decide +kernel
theorem dX3_takeNumber_17 : decode cX3_takeNumber 17 = .ok (.aload_n 1, 1) := by decide +kernel
theorem dX3_takeNumber_18 : decode cX3_takeNumber 18 = .ok (.aload_n 0, 1) := by decide +kernel
theorem dX3_takeNumber_19 : decode cX3_takeNumber 19 = .ok (.getfield 37, 3) := by decide +kernel
theorem dX3_takeNumber_22 : decode cX3_takeNumber 22 = .ok (.invokevirtual 30, 3) := by decide +kernel
theorem dX3_takeNumber_25 : decode cX3_takeNumber 25 = .ok (.bipush 48, 2) := by decide +kernel
theorem dX3_takeNumber_27 : decode cX3_takeNumber 27 = .ok (.isub, 1) := by decide +kernel
theorem dX3_takeNumber_28 : decode cX3_takeNumber 28 = .ok (.putfield 52, 3) := by decide +kernel
theorem dX3_takeNumber_31 : decode cX3_takeNumber 31 = .ok (.aload_n 0, 1) := by decide +kernel
theorem dX3_takeNumber_32 : decode cX3_takeNumber 32 = .ok (.dup, 1) := by decide +kernel
theorem dX3_takeNumber_33 : decode cX3_takeNumber 33 = .ok (.getfield 37, 3) := by decide +kernel
theorem dX3_takeNumber_36 : decode cX3_takeNumber 36 = .ok (.iconst 1, 1) := by decide +kernel
theorem dX3_takeNumber_37 : decode cX3_takeNumber 37 = .ok (.iadd, 1) := by decide +kernel
theorem dX3_takeNumber_38 : decode cX3_takeNumber 38 = .ok (.putfield 37, 3) := by decide +kernel
theorem dX3_takeNumber_41 : decode cX3_takeNumber 41 = .ok (.aload_n 1, 1) := by decide +kernel
theorem dX3_takeNumber_42 : decode cX3_takeNumber 42 = .ok (.aload_n 0, 1) := by decide +kernel
theorem dX3_takeNumber_43 : decode cX3_takeNumber 43 = .ok (.getfield 37, 3) := by decide +kernel
theorem dX3_takeNumber_46 : decode cX3_takeNumber 46 = .ok (.invokevirtual 30, 3) := by decide +kernel
theorem dX3_takeNumber_49 : decode cX3_takeNumber 49 = .ok (.invokestatic 62, 3) := by decide +kernel
theorem dX3_takeNumber_52 : decode cX3_takeNumber 52 = .ok (.ifCond .eq 36, 3) := by decide +kernel
theorem dX3_takeNumber_55 : decode cX3_takeNumber 55 = .ok (.aload_n 0, 1) := by decide +kernel
theorem dX3_takeNumber_56 : decode cX3_takeNumber 56 = .ok (.bipush 10, 2) := by decide +kernel
theorem dX3_takeNumber_58 : decode cX3_takeNumber 58 = .ok (.aload_n 0, 1) := by decide +kernel
theorem dX3_takeNumber_59 : decode cX3_takeNumber 59 = .ok (.getfield 52, 3) := by decide +kernel
theorem dX3_takeNumber_62 : decode cX3_takeNumber 62 = .ok (.imul, 1) := by decide +kernel
theorem dX3_takeNumber_63 : decode cX3_takeNumber 63 = .ok (.aload_n 1, 1) := by decide +kernel
theorem dX3_takeNumber_64 : decode cX3_takeNumber 64 = .ok (.aload_n 0, 1) := by decide +kernel
theorem dX3_takeNumber_65 : decode cX3_takeNumber 65 = .ok (.getfield 37, 3) := by decide +kernel
theorem dX3_takeNumber_68 : decode cX3_takeNumber 68 = .ok (.invokevirtual 30, 3) := by decide +kernel
theorem dX3_takeNumber_71 : decode cX3_takeNumber 71 = .ok (.iadd, 1) := by decide +kernel
theorem dX3_takeNumber_72 : decode cX3_takeNumber 72 = .ok (.bipush 48, 2) := by decide +kernel
theorem dX3_takeNumber_74 : decode cX3_takeNumber 74 = .ok (.isub, 1) := by decide +kernel
theorem dX3_takeNumber_75 : decode cX3_takeNumber 75 = .ok (.putfield 52, 3) := by decide +kernel
theorem dX3_takeNumber_78 : decode cX3_takeNumber 78 = .ok (.aload_n 0, 1) := by decide +kernel
theorem dX3_takeNumber_79 : decode cX3_takeNumber 79 = .ok (.dup, 1) := by decide +kernel
theorem dX3_takeNumber_80 : decode cX3_takeNumber 80 = .ok (.getfield 37, 3) := by decide +kernel
theorem dX3_takeNumber_83 : decode cX3_takeNumber 83 = .ok (.iconst 1, 1) := by decide +kernel
theorem dX3_takeNumber_84 : decode cX3_takeNumber 84 = .ok (.iadd, 1) := by decide +kernel
theorem dX3_takeNumber_85 : decode cX3_takeNumber 85 = .ok (.putfield 37, 3) := by decide +kernel
theorem dX3_takeNumber_88 : decode cX3_takeNumber 88 = .ok (.iconst 1, 1) := by decide +kernel
theorem dX3_takeNumber_89 : decode cX3_takeNumber 89 = .ok (.ireturn, 1) := by decide +kernel
theorem dX3_isKind_0 : decode cX3_isKind 0 = .ok (.iload_n 0, 1) := by decide +kernel
theorem dX3_isKind_1 : decode cX3_isKind 1 = .ok (.bipush 98, 2) := by decide +kernel
theorem dX3_isKind_3 : decode cX3_isKind 3 = .ok (.if_icmp .eq 33, 3) := by decide +kernel
theorem dX3_isKind_6 : decode cX3_isKind 6 = .ok (.iload_n 0, 1) := by decide +kernel
theorem dX3_isKind_7 : decode cX3_isKind 7 = .ok (.bipush 119, 2) := by decide +kernel
theorem dX3_isKind_9 : decode cX3_isKind 9 = .ok (.if_icmp .eq 27, 3) := by decide +kernel
theorem dX3_isKind_12 : decode cX3_isKind 12 = .ok (.iload_n 0, 1) := by decide +kernel
theorem dX3_isKind_13 : decode cX3_isKind 13 = .ok (.bipush 106, 2) := by decide +kernel
theorem dX3_isKind_15 : decode cX3_isKind 15 = .ok (.if_icmp .eq 21, 3) := by decide +kernel
theorem dX3_isKind_18 : decode cX3_isKind 18 = .ok (.iload_n 0, 1) := by decide +kernel
theorem dX3_isKind_19 : decode cX3_isKind 19 = .ok (.bipush 99, 2) := by decide +kernel
theorem dX3_isKind_21 : decode cX3_isKind 21 = .ok (.if_icmp .eq 15, 3) := by decide +kernel
theorem dX3_isKind_24 : decode cX3_isKind 24 = .ok (.iload_n 0, 1) := by decide +kernel
theorem dX3_isKind_25 : decode cX3_isKind 25 = .ok (.bipush 116, 2) := by decide +kernel
theorem dX3_isKind_27 : decode cX3_isKind 27 = .ok (.if_icmp .eq 9, 3) := by decide +kernel
theorem dX3_isKind_30 : decode cX3_isKind 30 = .ok (.iload_n 0, 1) := by decide +kernel
theorem dX3_isKind_31 : decode cX3_isKind 31 = .ok (.bipush 117, 2) := by decide +kernel
theorem dX3_isKind_33 : decode cX3_isKind 33 = .ok (.if_icmp .ne 7, 3) := by decide +kernel
theorem dX3_isKind_36 : decode cX3_isKind 36 = .ok (.iconst 1, 1) := by decide +kernel
theorem dX3_isKind_37 : decode cX3_isKind 37 = .ok (.goto 4, 3) := by decide +kernel
theorem dX3_isKind_40 : decode cX3_isKind 40 = .ok (.iconst 0, 1) := by decide +kernel
theorem dX3_isKind_41 : decode cX3_isKind 41 = .ok (.ireturn, 1) := by decide +kernel
theorem dX3_fits_0 : decode cX3_fits 0 = .ok (.iload_n 0, 1) := by decide +kernel
theorem dX3_fits_1 : decode cX3_fits 1 = .ok (.lookupswitch 57 #[(117, 39), (119, 27)], 27) := by decide +kernel
theorem dX3_fits_28 : decode cX3_fits 28 = .ok (.iload_n 1, 1) := by decide +kernel
theorem dX3_fits_29 : decode cX3_fits 29 = .ok (.bipush 61, 2) := by decide +kernel
theorem dX3_fits_31 : decode cX3_fits 31 = .ok (.if_icmp .ne 7, 3) := by decide +kernel
theorem dX3_fits_34 : decode cX3_fits 34 = .ok (.iconst 1, 1) := by decide +kernel
theorem dX3_fits_35 : decode cX3_fits 35 = .ok (.goto 4, 3) := by decide +kernel
theorem dX3_fits_38 : decode cX3_fits 38 = .ok (.iconst 0, 1) := by decide +kernel
theorem dX3_fits_39 : decode cX3_fits 39 = .ok (.ireturn, 1) := by decide +kernel
theorem dX3_fits_40 : decode cX3_fits 40 = .ok (.iload_n 1, 1) := by decide +kernel
theorem dX3_fits_41 : decode cX3_fits 41 = .ok (.bipush 43, 2) := by decide +kernel
theorem dX3_fits_43 : decode cX3_fits 43 = .ok (.if_icmp .eq 9, 3) := by decide +kernel
theorem dX3_fits_46 : decode cX3_fits 46 = .ok (.iload_n 1, 1) := by decide +kernel
theorem dX3_fits_47 : decode cX3_fits 47 = .ok (.bipush 45, 2) := by decide +kernel
theorem dX3_fits_49 : decode cX3_fits 49 = .ok (.if_icmp .ne 7, 3) := by decide +kernel
theorem dX3_fits_52 : decode cX3_fits 52 = .ok (.iconst 1, 1) := by decide +kernel
theorem dX3_fits_53 : decode cX3_fits 53 = .ok (.goto 4, 3) := by decide +kernel
theorem dX3_fits_56 : decode cX3_fits 56 = .ok (.iconst 0, 1) := by decide +kernel
theorem dX3_fits_57 : decode cX3_fits 57 = .ok (.ireturn, 1) := by decide +kernel
theorem dX3_fits_58 : decode cX3_fits 58 = .ok (.iload_n 1, 1) := by decide +kernel
theorem dX3_fits_59 : decode cX3_fits 59 = .ok (.bipush 126, 2) := by decide +kernel
theorem dX3_fits_61 : decode cX3_fits 61 = .ok (.if_icmp .ne 7, 3) := by decide +kernel
theorem dX3_fits_64 : decode cX3_fits 64 = .ok (.iconst 1, 1) := by decide +kernel
theorem dX3_fits_65 : decode cX3_fits 65 = .ok (.goto 4, 3) := by decide +kernel
theorem dX3_fits_68 : decode cX3_fits 68 = .ok (.iconst 0, 1) := by decide +kernel
theorem dX3_fits_69 : decode cX3_fits 69 = .ok (.ireturn, 1) := by decide +kernel
theorem dX3_isDigit_0 : decode cX3_isDigit 0 = .ok (.iload_n 0, 1) := by decide +kernel
theorem dX3_isDigit_1 : decode cX3_isDigit 1 = .ok (.bipush 48, 2) := by decide +kernel
theorem dX3_isDigit_3 : decode cX3_isDigit 3 = .ok (.if_icmp .lt 13, 3) := by decide +kernel
theorem dX3_isDigit_6 : decode cX3_isDigit 6 = .ok (.iload_n 0, 1) := by decide +kernel
theorem dX3_isDigit_7 : decode cX3_isDigit 7 = .ok (.bipush 57, 2) := by decide +kernel
theorem dX3_isDigit_9 : decode cX3_isDigit 9 = .ok (.if_icmp .gt 7, 3) := by decide +kernel
theorem dX3_isDigit_12 : decode cX3_isDigit 12 = .ok (.iconst 1, 1) := by decide +kernel
theorem dX3_isDigit_13 : decode cX3_isDigit 13 = .ok (.goto 4, 3) := by decide +kernel
theorem dX3_isDigit_16 : decode cX3_isDigit 16 = .ok (.iconst 0, 1) := by decide +kernel
theorem dX3_isDigit_17 : decode cX3_isDigit 17 = .ok (.ireturn, 1) := by decide +kernel
theorem dX4_init_0 : decode cX4_init 0 = .ok (.aload_n 0, 1) := by decide +kernel
theorem dX4_init_1 : decode cX4_init 1 = .ok (.invokespecial 3, 3) := by decide +kernel
theorem dX4_init_4 : decode cX4_init 4 = .ok (.aload_n 0, 1) := by decide +kernel
theorem dX4_init_5 : decode cX4_init 5 = .ok (.new 9, 3) := by decide +kernel
theorem dX4_init_8 : decode cX4_init 8 = .ok (.dup, 1) := by decide +kernel
theorem dX4_init_9 : decode cX4_init 9 = .ok (.invokespecial 11, 3) := by decide +kernel
theorem dX4_init_12 : decode cX4_init 12 = .ok (.putfield 12, 3) := by decide +kernel
theorem dX4_init_15 : decode cX4_init 15 = .ok (.aload_n 0, 1) := by decide +kernel
theorem dX4_init_16 : decode cX4_init 16 = .ok (.new 9, 3) := by decide +kernel
theorem dX4_init_19 : decode cX4_init 19 = .ok (.dup, 1) := by decide +kernel
theorem dX4_init_20 : decode cX4_init 20 = .ok (.invokespecial 11, 3) := by decide +kernel
theorem dX4_init_23 : decode cX4_init 23 = .ok (.putfield 16, 3) := by decide +kernel
theorem dX4_init_26 : decode cX4_init 26 = .ok (.aload_n 0, 1) := by decide +kernel
theorem dX4_init_27 : decode cX4_init 27 = .ok (.new 19, 3) := by decide +kernel
theorem dX4_init_30 : decode cX4_init 30 = .ok (.dup, 1) := by decide +kernel
theorem dX4_init_31 : decode cX4_init 31 = .ok (.invokespecial 21, 3) := by decide +kernel
theorem dX4_init_34 : decode cX4_init 34 = .ok (.putfield 22, 3) := by decide +kernel
theorem dX4_init_37 : decode cX4_init 37 = .ok (.aload_n 0, 1) := by decide +kernel
theorem dX4_init_38 : decode cX4_init 38 = .ok (.new 26, 3) := by decide +kernel
theorem dX4_init_41 : decode cX4_init 41 = .ok (.dup, 1) := by decide +kernel
theorem dX4_init_42 : decode cX4_init 42 = .ok (.bipush 69, 2) := by decide +kernel
theorem dX4_init_44 : decode cX4_init 44 = .ok (.invokespecial 28, 3) := by decide +kernel
theorem dX4_init_47 : decode cX4_init 47 = .ok (.putfield 31, 3) := by decide +kernel
theorem dX4_init_50 : decode cX4_init 50 = .ok (.aload_n 0, 1) := by decide +kernel
theorem dX4_init_51 : decode cX4_init 51 = .ok (.new 26, 3) := by decide +kernel
theorem dX4_init_54 : decode cX4_init 54 = .ok (.dup, 1) := by decide +kernel
theorem dX4_init_55 : decode cX4_init 55 = .ok (.bipush 70, 2) := by decide +kernel
theorem dX4_init_57 : decode cX4_init 57 = .ok (.invokespecial 28, 3) := by decide +kernel
theorem dX4_init_60 : decode cX4_init 60 = .ok (.putfield 35, 3) := by decide +kernel
theorem dX4_init_63 : decode cX4_init 63 = .ok (.aload_n 0, 1) := by decide +kernel
theorem dX4_init_64 : decode cX4_init 64 = .ok (.new 38, 3) := by decide +kernel
theorem dX4_init_67 : decode cX4_init 67 = .ok (.dup, 1) := by decide +kernel
theorem dX4_init_68 : decode cX4_init 68 = .ok (.invokespecial 40, 3) := by decide +kernel
theorem dX4_init_71 : decode cX4_init 71 = .ok (.putfield 41, 3) := by decide +kernel
theorem dX4_init_74 : decode cX4_init 74 = .ok (.aload_n 0, 1) := by decide +kernel
theorem dX4_init_75 : decode cX4_init 75 = .ok (.bipush (-4), 2) := by decide +kernel
theorem dX4_init_77 : decode cX4_init 77 = .ok (.putfield 45, 3) := by decide +kernel
theorem dX4_init_80 : decode cX4_init 80 = .ok (.return_, 1) := by decide +kernel
theorem dX4_bank_0 : decode cX4_bank 0 = .ok (.aload_n 0, 1) := by decide +kernel
theorem dX4_bank_1 : decode cX4_bank 1 = .ok (.getfield 22, 3) := by decide +kernel
theorem dX4_bank_4 : decode cX4_bank 4 = .ok (.aload_n 0, 1) := by decide +kernel
theorem dX4_bank_5 : decode cX4_bank 5 = .ok (.getfield 12, 3) := by decide +kernel
theorem dX4_bank_8 : decode cX4_bank 8 = .ok (.invokevirtual 49, 3) := by decide +kernel
theorem dX4_bank_11 : decode cX4_bank 11 = .ok (.aload_n 0, 1) := by decide +kernel
theorem dX4_bank_12 : decode cX4_bank 12 = .ok (.aload_n 0, 1) := by decide +kernel
theorem dX4_bank_13 : decode cX4_bank 13 = .ok (.iload_n 1, 1) := by decide +kernel
theorem dX4_bank_14 : decode cX4_bank 14 = .ok (.invokevirtual 53, 3) := by decide +kernel
theorem dX4_bank_17 : decode cX4_bank 17 = .ok (.invokevirtual 57, 3) := by decide +kernel
theorem dX4_bank_20 : decode cX4_bank 20 = .ok (.ireturn, 1) := by decide +kernel
theorem dX4_weigh_0 : decode cX4_weigh 0 = .ok (.aload_n 0, 1) := by decide +kernel
theorem dX4_weigh_1 : decode cX4_weigh 1 = .ok (.getfield 22, 3) := by decide +kernel
theorem dX4_weigh_4 : decode cX4_weigh 4 = .ok (.aload_n 0, 1) := by decide +kernel
theorem dX4_weigh_5 : decode cX4_weigh 5 = .ok (.getfield 12, 3) := by decide +kernel
theorem dX4_weigh_8 : decode cX4_weigh 8 = .ok (.invokevirtual 49, 3) := by decide +kernel
theorem dX4_weigh_11 : decode cX4_weigh 11 = .ok (.aload_n 0, 1) := by decide +kernel
theorem dX4_weigh_12 : decode cX4_weigh 12 = .ok (.aload_n 0, 1) := by decide +kernel
theorem dX4_weigh_13 : decode cX4_weigh 13 = .ok (.iload_n 1, 1) := by decide +kernel
theorem dX4_weigh_14 : decode cX4_weigh 14 = .ok (.iload_n 2, 1) := by decide +kernel
theorem dX4_weigh_15 : decode cX4_weigh 15 = .ok (.invokevirtual 60, 3) := by decide +kernel
theorem dX4_weigh_18 : decode cX4_weigh 18 = .ok (.invokevirtual 57, 3) := by decide +kernel
theorem dX4_weigh_21 : decode cX4_weigh 21 = .ok (.ireturn, 1) := by decide +kernel
theorem dX4_join_0 : decode cX4_join 0 = .ok (.aload_n 0, 1) := by decide +kernel
theorem dX4_join_1 : decode cX4_join 1 = .ok (.getfield 22, 3) := by decide +kernel
theorem dX4_join_4 : decode cX4_join 4 = .ok (.aload_n 0, 1) := by decide +kernel
theorem dX4_join_5 : decode cX4_join 5 = .ok (.getfield 12, 3) := by decide +kernel
theorem dX4_join_8 : decode cX4_join 8 = .ok (.invokevirtual 49, 3) := by decide +kernel
theorem dX4_join_11 : decode cX4_join 11 = .ok (.aload_n 0, 1) := by decide +kernel
theorem dX4_join_12 : decode cX4_join 12 = .ok (.aload_n 0, 1) := by decide +kernel
theorem dX4_join_13 : decode cX4_join 13 = .ok (.iload_n 1, 1) := by decide +kernel
theorem dX4_join_14 : decode cX4_join 14 = .ok (.iload_n 2, 1) := by decide +kernel
theorem dX4_join_15 : decode cX4_join 15 = .ok (.invokevirtual 64, 3) := by decide +kernel
theorem dX4_join_18 : decode cX4_join 18 = .ok (.invokevirtual 57, 3) := by decide +kernel
theorem dX4_join_21 : decode cX4_join 21 = .ok (.ireturn, 1) := by decide +kernel
theorem dX4_cut_0 : decode cX4_cut 0 = .ok (.aload_n 0, 1) := by decide +kernel
theorem dX4_cut_1 : decode cX4_cut 1 = .ok (.getfield 22, 3) := by decide +kernel
theorem dX4_cut_4 : decode cX4_cut 4 = .ok (.aload_n 0, 1) := by decide +kernel
theorem dX4_cut_5 : decode cX4_cut 5 = .ok (.getfield 12, 3) := by decide +kernel
theorem dX4_cut_8 : decode cX4_cut 8 = .ok (.invokevirtual 49, 3) := by decide +kernel
theorem dX4_cut_11 : decode cX4_cut 11 = .ok (.aload_n 0, 1) := by decide +kernel
theorem dX4_cut_12 : decode cX4_cut 12 = .ok (.aload_n 0, 1) := by decide +kernel
theorem dX4_cut_13 : decode cX4_cut 13 = .ok (.iload_n 1, 1) := by decide +kernel
theorem dX4_cut_14 : decode cX4_cut 14 = .ok (.iload_n 2, 1) := by decide +kernel
theorem dX4_cut_15 : decode cX4_cut 15 = .ok (.invokevirtual 67, 3) := by decide +kernel
theorem dX4_cut_18 : decode cX4_cut 18 = .ok (.invokevirtual 57, 3) := by decide +kernel
theorem dX4_cut_21 : decode cX4_cut 21 = .ok (.ireturn, 1) := by decide +kernel
theorem dX4_turn_0 : decode cX4_turn 0 = .ok (.aload_n 0, 1) := by decide +kernel
theorem dX4_turn_1 : decode cX4_turn 1 = .ok (.getfield 22, 3) := by decide +kernel
theorem dX4_turn_4 : decode cX4_turn 4 = .ok (.aload_n 0, 1) := by decide +kernel
theorem dX4_turn_5 : decode cX4_turn 5 = .ok (.getfield 12, 3) := by decide +kernel
theorem dX4_turn_8 : decode cX4_turn 8 = .ok (.invokevirtual 49, 3) := by decide +kernel
theorem dX4_turn_11 : decode cX4_turn 11 = .ok (.aload_n 0, 1) := by decide +kernel
theorem dX4_turn_12 : decode cX4_turn 12 = .ok (.aload_n 0, 1) := by decide +kernel
theorem dX4_turn_13 : decode cX4_turn 13 = .ok (.iload_n 1, 1) := by decide +kernel
theorem dX4_turn_14 : decode cX4_turn 14 = .ok (.invokevirtual 70, 3) := by decide +kernel
theorem dX4_turn_17 : decode cX4_turn 17 = .ok (.invokevirtual 57, 3) := by decide +kernel
theorem dX4_turn_20 : decode cX4_turn 20 = .ok (.ireturn, 1) := by decide +kernel
theorem dX4_rise_0 : decode cX4_rise 0 = .ok (.aload_n 0, 1) := by decide +kernel
theorem dX4_rise_1 : decode cX4_rise 1 = .ok (.getfield 22, 3) := by decide +kernel
theorem dX4_rise_4 : decode cX4_rise 4 = .ok (.aload_n 0, 1) := by decide +kernel
theorem dX4_rise_5 : decode cX4_rise 5 = .ok (.getfield 12, 3) := by decide +kernel
theorem dX4_rise_8 : decode cX4_rise 8 = .ok (.invokevirtual 49, 3) := by decide +kernel
theorem dX4_rise_11 : decode cX4_rise 11 = .ok (.aload_n 0, 1) := by decide +kernel
theorem dX4_rise_12 : decode cX4_rise 12 = .ok (.aload_n 0, 1) := by decide +kernel
theorem dX4_rise_13 : decode cX4_rise 13 = .ok (.iload_n 1, 1) := by decide +kernel
theorem dX4_rise_14 : decode cX4_rise 14 = .ok (.iload_n 2, 1) := by decide +kernel
theorem dX4_rise_15 : decode cX4_rise 15 = .ok (.invokevirtual 73, 3) := by decide +kernel
theorem dX4_rise_18 : decode cX4_rise 18 = .ok (.invokevirtual 57, 3) := by decide +kernel
theorem dX4_rise_21 : decode cX4_rise 21 = .ok (.ireturn, 1) := by decide +kernel
theorem dX4_areJoined_0 : decode cX4_areJoined 0 = .ok (.aload_n 0, 1) := by decide +kernel
theorem dX4_areJoined_1 : decode cX4_areJoined 1 = .ok (.iload_n 1, 1) := by decide +kernel
theorem dX4_areJoined_2 : decode cX4_areJoined 2 = .ok (.iload_n 2, 1) := by decide +kernel
theorem dX4_areJoined_3 : decode cX4_areJoined 3 = .ok (.invokevirtual 76, 3) := by decide +kernel
theorem dX4_areJoined_6 : decode cX4_areJoined 6 = .ok (.ifCond .ne 5, 3) := by decide +kernel
theorem dX4_areJoined_9 : decode cX4_areJoined 9 = .ok (.iconst (-1), 1) := by decide +kernel
theorem dX4_areJoined_10 : decode cX4_areJoined 10 = .ok (.ireturn, 1) := by decide +kernel
theorem dX4_areJoined_11 : decode cX4_areJoined 11 = .ok (.aload_n 0, 1) := by decide +kernel
theorem dX4_areJoined_12 : decode cX4_areJoined 12 = .ok (.getfield 12, 3) := by decide +kernel
theorem dX4_areJoined_15 : decode cX4_areJoined 15 = .ok (.iload_n 1, 1) := by decide +kernel
theorem dX4_areJoined_16 : decode cX4_areJoined 16 = .ok (.iload_n 2, 1) := by decide +kernel
theorem dX4_areJoined_17 : decode cX4_areJoined 17 = .ok (.invokevirtual 80, 3) := by decide +kernel
theorem dX4_areJoined_20 : decode cX4_areJoined 20 = .ok (.ifCond .eq 7, 3) := by decide +kernel
theorem dX4_areJoined_23 : decode cX4_areJoined 23 = .ok (.iconst 1, 1) := by decide +kernel
theorem dX4_areJoined_24 : decode cX4_areJoined 24 = .ok (.goto 4, 3) := by decide +kernel
theorem dX4_areJoined_27 : decode cX4_areJoined 27 = .ok (.iconst 0, 1) := by decide +kernel
theorem dX4_areJoined_28 : decode cX4_areJoined 28 = .ok (.ireturn, 1) := by decide +kernel
theorem dX4_areJoinedAgain_0 : decode cX4_areJoinedAgain 0 = .ok (.aload_n 0, 1) := by decide +kernel
theorem dX4_areJoinedAgain_1 : decode cX4_areJoinedAgain 1 = .ok (.iload_n 1, 1) := by decide +kernel
theorem dX4_areJoinedAgain_2 : decode cX4_areJoinedAgain 2 = .ok (.iload_n 2, 1) := by decide +kernel
theorem dX4_areJoinedAgain_3 : decode cX4_areJoinedAgain 3 = .ok (.invokevirtual 76, 3) := by decide +kernel
theorem dX4_areJoinedAgain_6 : decode cX4_areJoinedAgain 6 = .ok (.ifCond .ne 5, 3) := by decide +kernel
theorem dX4_areJoinedAgain_9 : decode cX4_areJoinedAgain 9 = .ok (.iconst (-1), 1) := by decide +kernel
theorem dX4_areJoinedAgain_10 : decode cX4_areJoinedAgain 10 = .ok (.ireturn, 1) := by decide +kernel
theorem dX4_areJoinedAgain_11 : decode cX4_areJoinedAgain 11 = .ok (.aload_n 0, 1) := by decide +kernel
theorem dX4_areJoinedAgain_12 : decode cX4_areJoinedAgain 12 = .ok (.getfield 12, 3) := by decide +kernel
theorem dX4_areJoinedAgain_15 : decode cX4_areJoinedAgain 15 = .ok (.iload_n 1, 1) := by decide +kernel
theorem dX4_areJoinedAgain_16 : decode cX4_areJoinedAgain 16 = .ok (.iconst 0, 1) := by decide +kernel
theorem dX4_areJoinedAgain_17 : decode cX4_areJoinedAgain 17 = .ok (.invokevirtual 83, 3) := by decide +kernel
theorem dX4_areJoinedAgain_20 : decode cX4_areJoinedAgain 20 = .ok (.iload_n 2, 1) := by decide +kernel
theorem dX4_areJoinedAgain_21 : decode cX4_areJoinedAgain 21 = .ok (.invokestatic 86, 3) := by decide +kernel
theorem dX4_areJoinedAgain_24 : decode cX4_areJoinedAgain 24 = .ok (.iand, 1) := by decide +kernel
theorem dX4_areJoinedAgain_25 : decode cX4_areJoinedAgain 25 = .ok (.ifCond .eq 7, 3) := by decide +kernel
theorem dX4_areJoinedAgain_28 : decode cX4_areJoinedAgain 28 = .ok (.iconst 1, 1) := by decide +kernel
theorem dX4_areJoinedAgain_29 : decode cX4_areJoinedAgain 29 = .ok (.goto 4, 3) := by decide +kernel
theorem dX4_areJoinedAgain_32 : decode cX4_areJoinedAgain 32 = .ok (.iconst 0, 1) := by decide +kernel
theorem dX4_areJoinedAgain_33 : decode cX4_areJoinedAgain 33 = .ok (.ireturn, 1) := by decide +kernel
theorem dX4_bankOf_0 : decode cX4_bankOf 0 = .ok (.aload_n 0, 1) := by decide +kernel
theorem dX4_bankOf_1 : decode cX4_bankOf 1 = .ok (.getfield 12, 3) := by decide +kernel
theorem dX4_bankOf_4 : decode cX4_bankOf 4 = .ok (.iload_n 1, 1) := by decide +kernel
theorem dX4_bankOf_5 : decode cX4_bankOf 5 = .ok (.invokevirtual 89, 3) := by decide +kernel
theorem dX4_bankOf_8 : decode cX4_bankOf 8 = .ok (.ifCond .ne 5, 3) := by decide +kernel
theorem dX4_bankOf_11 : decode cX4_bankOf 11 = .ok (.iconst (-1), 1) := by decide +kernel
theorem dX4_bankOf_12 : decode cX4_bankOf 12 = .ok (.ireturn, 1) := by decide +kernel
theorem dX4_bankOf_13 : decode cX4_bankOf 13 = .ok (.iload_n 2, 1) := by decide +kernel
theorem dX4_bankOf_14 : decode cX4_bankOf 14 = .ok (.tableswitch 152 0 8 #[50, 59, 68, 77, 90, 103, 115, 124, 136], 50) := by decide +kernel
theorem dX4_bankOf_64 : decode cX4_bankOf 64 = .ok (.aload_n 0, 1) := by decide +kernel
theorem dX4_bankOf_65 : decode cX4_bankOf 65 = .ok (.getfield 12, 3) := by decide +kernel
theorem dX4_bankOf_68 : decode cX4_bankOf 68 = .ok (.iload_n 1, 1) := by decide +kernel
theorem dX4_bankOf_69 : decode cX4_bankOf 69 = .ok (.invokevirtual 93, 3) := by decide +kernel
theorem dX4_bankOf_72 : decode cX4_bankOf 72 = .ok (.ireturn, 1) := by decide +kernel
theorem dX4_bankOf_73 : decode cX4_bankOf 73 = .ok (.aload_n 0, 1) := by decide +kernel
theorem dX4_bankOf_74 : decode cX4_bankOf 74 = .ok (.getfield 12, 3) := by decide +kernel
theorem dX4_bankOf_77 : decode cX4_bankOf 77 = .ok (.iload_n 1, 1) := by decide +kernel
theorem dX4_bankOf_78 : decode cX4_bankOf 78 = .ok (.invokevirtual 96, 3) := by decide +kernel
theorem dX4_bankOf_81 : decode cX4_bankOf 81 = .ok (.ireturn, 1) := by decide +kernel
theorem dX4_bankOf_82 : decode cX4_bankOf 82 = .ok (.aload_n 0, 1) := by decide +kernel
theorem dX4_bankOf_83 : decode cX4_bankOf 83 = .ok (.getfield 12, 3) := by decide +kernel
theorem dX4_bankOf_86 : decode cX4_bankOf 86 = .ok (.iload_n 1, 1) := by decide +kernel
theorem dX4_bankOf_87 : decode cX4_bankOf 87 = .ok (.invokevirtual 99, 3) := by decide +kernel
theorem dX4_bankOf_90 : decode cX4_bankOf 90 = .ok (.ireturn, 1) := by decide +kernel
theorem dX4_bankOf_91 : decode cX4_bankOf 91 = .ok (.aload_n 0, 1) := by decide +kernel
theorem dX4_bankOf_92 : decode cX4_bankOf 92 = .ok (.getfield 12, 3) := by decide +kernel
theorem dX4_bankOf_95 : decode cX4_bankOf 95 = .ok (.iload_n 1, 1) := by decide +kernel
theorem dX4_bankOf_96 : decode cX4_bankOf 96 = .ok (.invokevirtual 102, 3) := by decide +kernel
theorem dX4_bankOf_99 : decode cX4_bankOf 99 = .ok (.iload_n 1, 1) := by decide +kernel
theorem dX4_bankOf_100 : decode cX4_bankOf 100 = .ok (.invokevirtual 106, 3) := by decide +kernel
theorem dX4_bankOf_103 : decode cX4_bankOf 103 = .ok (.ireturn, 1) := by decide +kernel
theorem dX4_bankOf_104 : decode cX4_bankOf 104 = .ok (.aload_n 0, 1) := by decide +kernel
theorem dX4_bankOf_105 : decode cX4_bankOf 105 = .ok (.getfield 12, 3) := by decide +kernel
theorem dX4_bankOf_108 : decode cX4_bankOf 108 = .ok (.iload_n 1, 1) := by decide +kernel
theorem dX4_bankOf_109 : decode cX4_bankOf 109 = .ok (.invokevirtual 102, 3) := by decide +kernel
theorem dX4_bankOf_112 : decode cX4_bankOf 112 = .ok (.iload_n 1, 1) := by decide +kernel
theorem dX4_bankOf_113 : decode cX4_bankOf 113 = .ok (.invokevirtual 109, 3) := by decide +kernel
theorem dX4_bankOf_116 : decode cX4_bankOf 116 = .ok (.ireturn, 1) := by decide +kernel
theorem dX4_bankOf_117 : decode cX4_bankOf 117 = .ok (.aload_n 0, 1) := by decide +kernel
theorem dX4_bankOf_118 : decode cX4_bankOf 118 = .ok (.getfield 12, 3) := by decide +kernel
theorem dX4_bankOf_121 : decode cX4_bankOf 121 = .ok (.iload_n 1, 1) := by decide +kernel
theorem dX4_bankOf_122 : decode cX4_bankOf 122 = .ok (.invokevirtual 112, 3) := by decide +kernel
theorem dX4_bankOf_125 : decode cX4_bankOf 125 = .ok (.invokestatic 115, 3) := by decide +kernel
theorem dX4_bankOf_128 : decode cX4_bankOf 128 = .ok (.ireturn, 1) := by decide +kernel
theorem dX4_bankOf_129 : decode cX4_bankOf 129 = .ok (.aload_n 0, 1) := by decide +kernel
theorem dX4_bankOf_130 : decode cX4_bankOf 130 = .ok (.getfield 12, 3) := by decide +kernel
theorem dX4_bankOf_133 : decode cX4_bankOf 133 = .ok (.iload_n 1, 1) := by decide +kernel
theorem dX4_bankOf_134 : decode cX4_bankOf 134 = .ok (.invokevirtual 120, 3) := by decide +kernel
theorem dX4_bankOf_137 : decode cX4_bankOf 137 = .ok (.ireturn, 1) := by decide +kernel
theorem dX4_bankOf_138 : decode cX4_bankOf 138 = .ok (.aload_n 0, 1) := by decide +kernel
theorem dX4_bankOf_139 : decode cX4_bankOf 139 = .ok (.getfield 12, 3) := by decide +kernel
theorem dX4_bankOf_142 : decode cX4_bankOf 142 = .ok (.iload_n 1, 1) := by decide +kernel
theorem dX4_bankOf_143 : decode cX4_bankOf 143 = .ok (.invokevirtual 123, 3) := by decide +kernel
theorem dX4_bankOf_146 : decode cX4_bankOf 146 = .ok (.invokestatic 115, 3) := by decide +kernel
theorem dX4_bankOf_149 : decode cX4_bankOf 149 = .ok (.ireturn, 1) := by decide +kernel
theorem dX4_bankOf_150 : decode cX4_bankOf 150 = .ok (.aload_n 0, 1) := by decide +kernel
theorem dX4_bankOf_151 : decode cX4_bankOf 151 = .ok (.getfield 12, 3) := by decide +kernel
theorem dX4_bankOf_154 : decode cX4_bankOf 154 = .ok (.aload_n 0, 1) := by decide +kernel
theorem dX4_bankOf_155 : decode cX4_bankOf 155 = .ok (.getfield 12, 3) := by decide +kernel
theorem dX4_bankOf_158 : decode cX4_bankOf 158 = .ok (.iload_n 1, 1) := by decide +kernel
theorem dX4_bankOf_159 : decode cX4_bankOf 159 = .ok (.invokevirtual 123, 3) := by decide +kernel
theorem dX4_bankOf_162 : decode cX4_bankOf 162 = .ok (.invokevirtual 126, 3) := by decide +kernel
theorem dX4_bankOf_165 : decode cX4_bankOf 165 = .ok (.ireturn, 1) := by decide +kernel
theorem dX4_bankOf_166 : decode cX4_bankOf 166 = .ok (.bipush (-2), 2) := by decide +kernel
theorem dX4_bankOf_168 : decode cX4_bankOf 168 = .ok (.ireturn, 1) := by decide +kernel
theorem dX4_belowAgain_0 : decode cX4_belowAgain 0 = .ok (.aload_n 0, 1) := by decide +kernel
theorem dX4_belowAgain_1 : decode cX4_belowAgain 1 = .ok (.getfield 12, 3) := by decide +kernel
theorem dX4_belowAgain_4 : decode cX4_belowAgain 4 = .ok (.iload_n 1, 1) := by decide +kernel
theorem dX4_belowAgain_5 : decode cX4_belowAgain 5 = .ok (.invokevirtual 89, 3) := by decide +kernel
theorem dX4_belowAgain_8 : decode cX4_belowAgain 8 = .ok (.ifCond .ne 5, 3) := by decide +kernel
theorem dX4_belowAgain_11 : decode cX4_belowAgain 11 = .ok (.iconst (-1), 1) := by decide +kernel
theorem dX4_belowAgain_12 : decode cX4_belowAgain 12 = .ok (.ireturn, 1) := by decide +kernel
theorem dX4_belowAgain_13 : decode cX4_belowAgain 13 = .ok (.aload_n 0, 1) := by decide +kernel
theorem dX4_belowAgain_14 : decode cX4_belowAgain 14 = .ok (.getfield 12, 3) := by decide +kernel
theorem dX4_belowAgain_17 : decode cX4_belowAgain 17 = .ok (.aload_n 0, 1) := by decide +kernel
theorem dX4_belowAgain_18 : decode cX4_belowAgain 18 = .ok (.getfield 12, 3) := by decide +kernel
theorem dX4_belowAgain_21 : decode cX4_belowAgain 21 = .ok (.iload_n 1, 1) := by decide +kernel
theorem dX4_belowAgain_22 : decode cX4_belowAgain 22 = .ok (.invokevirtual 129, 3) := by decide +kernel
theorem dX4_belowAgain_25 : decode cX4_belowAgain 25 = .ok (.invokevirtual 126, 3) := by decide +kernel
theorem dX4_belowAgain_28 : decode cX4_belowAgain 28 = .ok (.ireturn, 1) := by decide +kernel
theorem dX4_inRound_0 : decode cX4_inRound 0 = .ok (.aload_n 0, 1) := by decide +kernel
theorem dX4_inRound_1 : decode cX4_inRound 1 = .ok (.getfield 12, 3) := by decide +kernel
theorem dX4_inRound_4 : decode cX4_inRound 4 = .ok (.iload_n 1, 1) := by decide +kernel
theorem dX4_inRound_5 : decode cX4_inRound 5 = .ok (.invokevirtual 89, 3) := by decide +kernel
theorem dX4_inRound_8 : decode cX4_inRound 8 = .ok (.ifCond .ne 5, 3) := by decide +kernel
theorem dX4_inRound_11 : decode cX4_inRound 11 = .ok (.iconst (-1), 1) := by decide +kernel
theorem dX4_inRound_12 : decode cX4_inRound 12 = .ok (.ireturn, 1) := by decide +kernel
theorem dX4_inRound_13 : decode cX4_inRound 13 = .ok (.aload_n 0, 1) := by decide +kernel
theorem dX4_inRound_14 : decode cX4_inRound 14 = .ok (.getfield 12, 3) := by decide +kernel
theorem dX4_inRound_17 : decode cX4_inRound 17 = .ok (.iload_n 1, 1) := by decide +kernel
theorem dX4_inRound_18 : decode cX4_inRound 18 = .ok (.invokevirtual 102, 3) := by decide +kernel
theorem dX4_inRound_21 : decode cX4_inRound 21 = .ok (.iload_n 2, 1) := by decide +kernel
theorem dX4_inRound_22 : decode cX4_inRound 22 = .ok (.invokevirtual 132, 3) := by decide +kernel
theorem dX4_inRound_25 : decode cX4_inRound 25 = .ok (.ireturn, 1) := by decide +kernel
theorem dX4_partOf_0 : decode cX4_partOf 0 = .ok (.aload_n 0, 1) := by decide +kernel
theorem dX4_partOf_1 : decode cX4_partOf 1 = .ok (.getfield 12, 3) := by decide +kernel
theorem dX4_partOf_4 : decode cX4_partOf 4 = .ok (.iload_n 1, 1) := by decide +kernel
theorem dX4_partOf_5 : decode cX4_partOf 5 = .ok (.invokevirtual 89, 3) := by decide +kernel
theorem dX4_partOf_8 : decode cX4_partOf 8 = .ok (.ifCond .ne 5, 3) := by decide +kernel
theorem dX4_partOf_11 : decode cX4_partOf 11 = .ok (.iconst (-1), 1) := by decide +kernel
theorem dX4_partOf_12 : decode cX4_partOf 12 = .ok (.ireturn, 1) := by decide +kernel
theorem dX4_partOf_13 : decode cX4_partOf 13 = .ok (.iload_n 2, 1) := by decide +kernel
theorem dX4_partOf_14 : decode cX4_partOf 14 = .ok (.tableswitch 99 0 4 #[34, 46, 58, 74, 90], 34) := by decide +kernel
theorem dX4_partOf_48 : decode cX4_partOf 48 = .ok (.aload_n 0, 1) := by decide +kernel
theorem dX4_partOf_49 : decode cX4_partOf 49 = .ok (.getfield 12, 3) := by decide +kernel
theorem dX4_partOf_52 : decode cX4_partOf 52 = .ok (.iload_n 1, 1) := by decide +kernel
theorem dX4_partOf_53 : decode cX4_partOf 53 = .ok (.invokevirtual 135, 3) := by decide +kernel
theorem dX4_partOf_56 : decode cX4_partOf 56 = .ok (.invokestatic 115, 3) := by decide +kernel
theorem dX4_partOf_59 : decode cX4_partOf 59 = .ok (.ireturn, 1) := by decide +kernel
theorem dX4_partOf_60 : decode cX4_partOf 60 = .ok (.aload_n 0, 1) := by decide +kernel
theorem dX4_partOf_61 : decode cX4_partOf 61 = .ok (.getfield 12, 3) := by decide +kernel
theorem dX4_partOf_64 : decode cX4_partOf 64 = .ok (.iload_n 1, 1) := by decide +kernel
theorem dX4_partOf_65 : decode cX4_partOf 65 = .ok (.invokevirtual 102, 3) := by decide +kernel
theorem dX4_partOf_68 : decode cX4_partOf 68 = .ok (.invokevirtual 138, 3) := by decide +kernel
theorem dX4_partOf_71 : decode cX4_partOf 71 = .ok (.ireturn, 1) := by decide +kernel
theorem dX4_partOf_72 : decode cX4_partOf 72 = .ok (.aload_n 0, 1) := by decide +kernel
theorem dX4_partOf_73 : decode cX4_partOf 73 = .ok (.getfield 12, 3) := by decide +kernel
theorem dX4_partOf_76 : decode cX4_partOf 76 = .ok (.aload_n 0, 1) := by decide +kernel
theorem dX4_partOf_77 : decode cX4_partOf 77 = .ok (.getfield 12, 3) := by decide +kernel
theorem dX4_partOf_80 : decode cX4_partOf 80 = .ok (.iload_n 1, 1) := by decide +kernel
theorem dX4_partOf_81 : decode cX4_partOf 81 = .ok (.invokevirtual 135, 3) := by decide +kernel
theorem dX4_partOf_84 : decode cX4_partOf 84 = .ok (.invokevirtual 126, 3) := by decide +kernel
theorem dX4_partOf_87 : decode cX4_partOf 87 = .ok (.ireturn, 1) := by decide +kernel
theorem dX4_partOf_88 : decode cX4_partOf 88 = .ok (.aload_n 0, 1) := by decide +kernel
theorem dX4_partOf_89 : decode cX4_partOf 89 = .ok (.getfield 12, 3) := by decide +kernel
theorem dX4_partOf_92 : decode cX4_partOf 92 = .ok (.aload_n 0, 1) := by decide +kernel
theorem dX4_partOf_93 : decode cX4_partOf 93 = .ok (.getfield 12, 3) := by decide +kernel
theorem dX4_partOf_96 : decode cX4_partOf 96 = .ok (.iload_n 1, 1) := by decide +kernel
theorem dX4_partOf_97 : decode cX4_partOf 97 = .ok (.invokevirtual 135, 3) := by decide +kernel
theorem dX4_partOf_100 : decode cX4_partOf 100 = .ok (.invokevirtual 142, 3) := by decide +kernel
theorem dX4_partOf_103 : decode cX4_partOf 103 = .ok (.ireturn, 1) := by decide +kernel
theorem dX4_partOf_104 : decode cX4_partOf 104 = .ok (.aload_n 0, 1) := by decide +kernel
theorem dX4_partOf_105 : decode cX4_partOf 105 = .ok (.getfield 12, 3) := by decide +kernel
theorem dX4_partOf_108 : decode cX4_partOf 108 = .ok (.iload_n 1, 1) := by decide +kernel
theorem dX4_partOf_109 : decode cX4_partOf 109 = .ok (.invokevirtual 145, 3) := by decide +kernel
theorem dX4_partOf_112 : decode cX4_partOf 112 = .ok (.ireturn, 1) := by decide +kernel
theorem dX4_partOf_113 : decode cX4_partOf 113 = .ok (.bipush (-2), 2) := by decide +kernel
theorem dX4_partOf_115 : decode cX4_partOf 115 = .ok (.ireturn, 1) := by decide +kernel
theorem dX4_isRope_0 : decode cX4_isRope 0 = .ok (.aload_n 0, 1) := by decide +kernel
theorem dX4_isRope_1 : decode cX4_isRope 1 = .ok (.iload_n 1, 1) := by decide +kernel
theorem dX4_isRope_2 : decode cX4_isRope 2 = .ok (.iload_n 2, 1) := by decide +kernel
theorem dX4_isRope_3 : decode cX4_isRope 3 = .ok (.invokevirtual 76, 3) := by decide +kernel
theorem dX4_isRope_6 : decode cX4_isRope 6 = .ok (.ifCond .ne 5, 3) := by decide +kernel
theorem dX4_isRope_9 : decode cX4_isRope 9 = .ok (.iconst (-1), 1) := by decide +kernel
theorem dX4_isRope_10 : decode cX4_isRope 10 = .ok (.ireturn, 1) := by decide +kernel
theorem dX4_isRope_11 : decode cX4_isRope 11 = .ok (.aload_n 0, 1) := by decide +kernel
theorem dX4_isRope_12 : decode cX4_isRope 12 = .ok (.getfield 12, 3) := by decide +kernel
theorem dX4_isRope_15 : decode cX4_isRope 15 = .ok (.iload_n 1, 1) := by decide +kernel
theorem dX4_isRope_16 : decode cX4_isRope 16 = .ok (.iload_n 2, 1) := by decide +kernel
theorem dX4_isRope_17 : decode cX4_isRope 17 = .ok (.invokevirtual 148, 3) := by decide +kernel
theorem dX4_isRope_20 : decode cX4_isRope 20 = .ok (.ifCond .eq 7, 3) := by decide +kernel
theorem dX4_isRope_23 : decode cX4_isRope 23 = .ok (.iconst 1, 1) := by decide +kernel
theorem dX4_isRope_24 : decode cX4_isRope 24 = .ok (.goto 4, 3) := by decide +kernel
theorem dX4_isRope_27 : decode cX4_isRope 27 = .ok (.iconst 0, 1) := by decide +kernel
theorem dX4_isRope_28 : decode cX4_isRope 28 = .ok (.ireturn, 1) := by decide +kernel
theorem dX4_isBelow_0 : decode cX4_isBelow 0 = .ok (.aload_n 0, 1) := by decide +kernel
theorem dX4_isBelow_1 : decode cX4_isBelow 1 = .ok (.iload_n 1, 1) := by decide +kernel
theorem dX4_isBelow_2 : decode cX4_isBelow 2 = .ok (.iload_n 2, 1) := by decide +kernel
theorem dX4_isBelow_3 : decode cX4_isBelow 3 = .ok (.invokevirtual 76, 3) := by decide +kernel
theorem dX4_isBelow_6 : decode cX4_isBelow 6 = .ok (.ifCond .ne 5, 3) := by decide +kernel
theorem dX4_isBelow_9 : decode cX4_isBelow 9 = .ok (.iconst (-1), 1) := by decide +kernel
theorem dX4_isBelow_10 : decode cX4_isBelow 10 = .ok (.ireturn, 1) := by decide +kernel
theorem dX4_isBelow_11 : decode cX4_isBelow 11 = .ok (.aload_n 0, 1) := by decide +kernel
theorem dX4_isBelow_12 : decode cX4_isBelow 12 = .ok (.getfield 12, 3) := by decide +kernel
theorem dX4_isBelow_15 : decode cX4_isBelow 15 = .ok (.iload_n 1, 1) := by decide +kernel
theorem dX4_isBelow_16 : decode cX4_isBelow 16 = .ok (.invokevirtual 151, 3) := by decide +kernel
theorem dX4_isBelow_19 : decode cX4_isBelow 19 = .ok (.iload_n 2, 1) := by decide +kernel
theorem dX4_isBelow_20 : decode cX4_isBelow 20 = .ok (.invokestatic 86, 3) := by decide +kernel
theorem dX4_isBelow_23 : decode cX4_isBelow 23 = .ok (.iand, 1) := by decide +kernel
theorem dX4_isBelow_24 : decode cX4_isBelow 24 = .ok (.ifCond .eq 7, 3) := by decide +kernel
theorem dX4_isBelow_27 : decode cX4_isBelow 27 = .ok (.iconst 1, 1) := by decide +kernel
theorem dX4_isBelow_28 : decode cX4_isBelow 28 = .ok (.goto 4, 3) := by decide +kernel
theorem dX4_isBelow_31 : decode cX4_isBelow 31 = .ok (.iconst 0, 1) := by decide +kernel
theorem dX4_isBelow_32 : decode cX4_isBelow 32 = .ok (.ireturn, 1) := by decide +kernel
theorem dX4_meet_0 : decode cX4_meet 0 = .ok (.aload_n 0, 1) := by decide +kernel
theorem dX4_meet_1 : decode cX4_meet 1 = .ok (.iload_n 1, 1) := by decide +kernel
theorem dX4_meet_2 : decode cX4_meet 2 = .ok (.iload_n 2, 1) := by decide +kernel
theorem dX4_meet_3 : decode cX4_meet 3 = .ok (.invokevirtual 76, 3) := by decide +kernel
theorem dX4_meet_6 : decode cX4_meet 6 = .ok (.ifCond .ne 5, 3) := by decide +kernel
theorem dX4_meet_9 : decode cX4_meet 9 = .ok (.iconst (-1), 1) := by decide +kernel
theorem dX4_meet_10 : decode cX4_meet 10 = .ok (.ireturn, 1) := by decide +kernel
theorem dX4_meet_11 : decode cX4_meet 11 = .ok (.aload_n 0, 1) := by decide +kernel
theorem dX4_meet_12 : decode cX4_meet 12 = .ok (.getfield 12, 3) := by decide +kernel
theorem dX4_meet_15 : decode cX4_meet 15 = .ok (.iload_n 1, 1) := by decide +kernel
theorem dX4_meet_16 : decode cX4_meet 16 = .ok (.iload_n 2, 1) := by decide +kernel
theorem dX4_meet_17 : decode cX4_meet 17 = .ok (.invokevirtual 80, 3) := by decide +kernel
theorem dX4_meet_20 : decode cX4_meet 20 = .ok (.ifCond .eq 15, 3) := by decide +kernel
theorem dX4_meet_23 : decode cX4_meet 23 = .ok (.aload_n 0, 1) := by decide +kernel
theorem dX4_meet_24 : decode cX4_meet 24 = .ok (.getfield 12, 3) := by decide +kernel
theorem dX4_meet_27 : decode cX4_meet 27 = .ok (.iload_n 1, 1) := by decide +kernel
theorem dX4_meet_28 : decode cX4_meet 28 = .ok (.iload_n 2, 1) := by decide +kernel
theorem dX4_meet_29 : decode cX4_meet 29 = .ok (.invokevirtual 154, 3) := by decide +kernel
theorem dX4_meet_32 : decode cX4_meet 32 = .ok (.goto 5, 3) := by decide +kernel
theorem dX4_meet_35 : decode cX4_meet 35 = .ok (.bipush (-4), 2) := by decide +kernel
theorem dX4_meet_37 : decode cX4_meet 37 = .ok (.ireturn, 1) := by decide +kernel
theorem dX4_way_0 : decode cX4_way 0 = .ok (.aload_n 0, 1) := by decide +kernel
theorem dX4_way_1 : decode cX4_way 1 = .ok (.iload_n 1, 1) := by decide +kernel
theorem dX4_way_2 : decode cX4_way 2 = .ok (.iload_n 2, 1) := by decide +kernel
theorem dX4_way_3 : decode cX4_way 3 = .ok (.invokevirtual 76, 3) := by decide +kernel
theorem dX4_way_6 : decode cX4_way 6 = .ok (.ifCond .ne 5, 3) := by decide +kernel
theorem dX4_way_9 : decode cX4_way 9 = .ok (.iconst (-1), 1) := by decide +kernel
theorem dX4_way_10 : decode cX4_way 10 = .ok (.ireturn, 1) := by decide +kernel
theorem dX4_way_11 : decode cX4_way 11 = .ok (.aload_n 0, 1) := by decide +kernel
theorem dX4_way_12 : decode cX4_way 12 = .ok (.getfield 12, 3) := by decide +kernel
theorem dX4_way_15 : decode cX4_way 15 = .ok (.iload_n 1, 1) := by decide +kernel
theorem dX4_way_16 : decode cX4_way 16 = .ok (.iload_n 2, 1) := by decide +kernel
theorem dX4_way_17 : decode cX4_way 17 = .ok (.invokevirtual 80, 3) := by decide +kernel
theorem dX4_way_20 : decode cX4_way 20 = .ok (.ifCond .ne 6, 3) := by decide +kernel
theorem dX4_way_23 : decode cX4_way 23 = .ok (.bipush (-4), 2) := by decide +kernel
theorem dX4_way_25 : decode cX4_way 25 = .ok (.ireturn, 1) := by decide +kernel
theorem dX4_way_26 : decode cX4_way 26 = .ok (.aload_n 0, 1) := by decide +kernel
theorem dX4_way_27 : decode cX4_way 27 = .ok (.getfield 12, 3) := by decide +kernel
theorem dX4_way_30 : decode cX4_way 30 = .ok (.aload_n 0, 1) := by decide +kernel
theorem dX4_way_31 : decode cX4_way 31 = .ok (.getfield 12, 3) := by decide +kernel
theorem dX4_way_34 : decode cX4_way 34 = .ok (.iload_n 1, 1) := by decide +kernel
theorem dX4_way_35 : decode cX4_way 35 = .ok (.iload_n 2, 1) := by decide +kernel
theorem dX4_way_36 : decode cX4_way 36 = .ok (.invokevirtual 154, 3) := by decide +kernel
theorem dX4_way_39 : decode cX4_way 39 = .ok (.invokevirtual 99, 3) := by decide +kernel
theorem dX4_way_42 : decode cX4_way 42 = .ok (.istore 4, 2) := by decide +kernel
theorem dX4_way_44 : decode cX4_way 44 = .ok (.aload_n 0, 1) := by decide +kernel
theorem dX4_way_45 : decode cX4_way 45 = .ok (.getfield 12, 3) := by decide +kernel
theorem dX4_way_48 : decode cX4_way 48 = .ok (.iload_n 1, 1) := by decide +kernel
theorem dX4_way_49 : decode cX4_way 49 = .ok (.invokevirtual 99, 3) := by decide +kernel
theorem dX4_way_52 : decode cX4_way 52 = .ok (.iload 4, 2) := by decide +kernel
theorem dX4_way_54 : decode cX4_way 54 = .ok (.isub, 1) := by decide +kernel
theorem dX4_way_55 : decode cX4_way 55 = .ok (.istore 5, 2) := by decide +kernel
theorem dX4_way_57 : decode cX4_way 57 = .ok (.iload 5, 2) := by decide +kernel
theorem dX4_way_59 : decode cX4_way 59 = .ok (.aload_n 0, 1) := by decide +kernel
theorem dX4_way_60 : decode cX4_way 60 = .ok (.getfield 12, 3) := by decide +kernel
theorem dX4_way_63 : decode cX4_way 63 = .ok (.iload_n 2, 1) := by decide +kernel
theorem dX4_way_64 : decode cX4_way 64 = .ok (.invokevirtual 99, 3) := by decide +kernel
theorem dX4_way_67 : decode cX4_way 67 = .ok (.iadd, 1) := by decide +kernel
theorem dX4_way_68 : decode cX4_way 68 = .ok (.iload 4, 2) := by decide +kernel
theorem dX4_way_70 : decode cX4_way 70 = .ok (.isub, 1) := by decide +kernel
theorem dX4_way_71 : decode cX4_way 71 = .ok (.istore 6, 2) := by decide +kernel
theorem dX4_way_73 : decode cX4_way 73 = .ok (.iload_n 3, 1) := by decide +kernel
theorem dX4_way_74 : decode cX4_way 74 = .ok (.iconst (-1), 1) := by decide +kernel
theorem dX4_way_75 : decode cX4_way 75 = .ok (.if_icmp .ne 6, 3) := by decide +kernel
theorem dX4_way_78 : decode cX4_way 78 = .ok (.iload 6, 2) := by decide +kernel
theorem dX4_way_80 : decode cX4_way 80 = .ok (.ireturn, 1) := by decide +kernel
theorem dX4_way_81 : decode cX4_way 81 = .ok (.iload_n 3, 1) := by decide +kernel
theorem dX4_way_82 : decode cX4_way 82 = .ok (.ifCond .lt 9, 3) := by decide +kernel
theorem dX4_way_85 : decode cX4_way 85 = .ok (.iload_n 3, 1) := by decide +kernel
theorem dX4_way_86 : decode cX4_way 86 = .ok (.iload 6, 2) := by decide +kernel
theorem dX4_way_88 : decode cX4_way 88 = .ok (.if_icmp .le 5, 3) := by decide +kernel
theorem dX4_way_91 : decode cX4_way 91 = .ok (.iconst (-1), 1) := by decide +kernel
theorem dX4_way_92 : decode cX4_way 92 = .ok (.ireturn, 1) := by decide +kernel
theorem dX4_way_93 : decode cX4_way 93 = .ok (.iload_n 3, 1) := by decide +kernel
theorem dX4_way_94 : decode cX4_way 94 = .ok (.iload 5, 2) := by decide +kernel
theorem dX4_way_96 : decode cX4_way 96 = .ok (.if_icmp .gt 15, 3) := by decide +kernel
theorem dX4_way_99 : decode cX4_way 99 = .ok (.aload_n 0, 1) := by decide +kernel
theorem dX4_way_100 : decode cX4_way 100 = .ok (.getfield 12, 3) := by decide +kernel
theorem dX4_way_103 : decode cX4_way 103 = .ok (.iload_n 1, 1) := by decide +kernel
theorem dX4_way_104 : decode cX4_way 104 = .ok (.iload_n 3, 1) := by decide +kernel
theorem dX4_way_105 : decode cX4_way 105 = .ok (.invokevirtual 157, 3) := by decide +kernel
theorem dX4_way_108 : decode cX4_way 108 = .ok (.goto 15, 3) := by decide +kernel
theorem dX4_way_111 : decode cX4_way 111 = .ok (.aload_n 0, 1) := by decide +kernel
theorem dX4_way_112 : decode cX4_way 112 = .ok (.getfield 12, 3) := by decide +kernel
theorem dX4_way_115 : decode cX4_way 115 = .ok (.iload_n 2, 1) := by decide +kernel
theorem dX4_way_116 : decode cX4_way 116 = .ok (.iload 6, 2) := by decide +kernel
theorem dX4_way_118 : decode cX4_way 118 = .ok (.iload_n 3, 1) := by decide +kernel
theorem dX4_way_119 : decode cX4_way 119 = .ok (.isub, 1) := by decide +kernel
theorem dX4_way_120 : decode cX4_way 120 = .ok (.invokevirtual 157, 3) := by decide +kernel
theorem dX4_way_123 : decode cX4_way 123 = .ok (.ireturn, 1) := by decide +kernel
theorem dX4_would_0 : decode cX4_would 0 = .ok (.aload_n 0, 1) := by decide +kernel
theorem dX4_would_1 : decode cX4_would 1 = .ok (.iload_n 1, 1) := by decide +kernel
theorem dX4_would_2 : decode cX4_would 2 = .ok (.iload_n 2, 1) := by decide +kernel
theorem dX4_would_3 : decode cX4_would 3 = .ok (.invokevirtual 76, 3) := by decide +kernel
theorem dX4_would_6 : decode cX4_would 6 = .ok (.ifCond .ne 5, 3) := by decide +kernel
theorem dX4_would_9 : decode cX4_would 9 = .ok (.iconst (-1), 1) := by decide +kernel
theorem dX4_would_10 : decode cX4_would 10 = .ok (.ireturn, 1) := by decide +kernel
theorem dX4_would_11 : decode cX4_would 11 = .ok (.aload_n 0, 1) := by decide +kernel
theorem dX4_would_12 : decode cX4_would 12 = .ok (.getfield 12, 3) := by decide +kernel
theorem dX4_would_15 : decode cX4_would 15 = .ok (.iload_n 1, 1) := by decide +kernel
theorem dX4_would_16 : decode cX4_would 16 = .ok (.iload_n 2, 1) := by decide +kernel
theorem dX4_would_17 : decode cX4_would 17 = .ok (.invokevirtual 80, 3) := by decide +kernel
theorem dX4_would_20 : decode cX4_would 20 = .ok (.ifCond .eq 8, 3) := by decide +kernel
theorem dX4_would_23 : decode cX4_would 23 = .ok (.bipush (-4), 2) := by decide +kernel
theorem dX4_would_25 : decode cX4_would 25 = .ok (.goto 11, 3) := by decide +kernel
theorem dX4_would_28 : decode cX4_would 28 = .ok (.aload_n 0, 1) := by decide +kernel
theorem dX4_would_29 : decode cX4_would 29 = .ok (.getfield 12, 3) := by decide +kernel
theorem dX4_would_32 : decode cX4_would 32 = .ok (.iload_n 1, 1) := by decide +kernel
theorem dX4_would_33 : decode cX4_would 33 = .ok (.invokevirtual 96, 3) := by decide +kernel
theorem dX4_would_36 : decode cX4_would 36 = .ok (.ireturn, 1) := by decide +kernel
theorem dX4_wouldDiffer_0 : decode cX4_wouldDiffer 0 = .ok (.aload_n 0, 1) := by decide +kernel
theorem dX4_wouldDiffer_1 : decode cX4_wouldDiffer 1 = .ok (.iload_n 1, 1) := by decide +kernel
theorem dX4_wouldDiffer_2 : decode cX4_wouldDiffer 2 = .ok (.iload_n 2, 1) := by decide +kernel
theorem dX4_wouldDiffer_3 : decode cX4_wouldDiffer 3 = .ok (.invokevirtual 76, 3) := by decide +kernel
theorem dX4_wouldDiffer_6 : decode cX4_wouldDiffer 6 = .ok (.ifCond .ne 5, 3) := by decide +kernel
theorem dX4_wouldDiffer_9 : decode cX4_wouldDiffer 9 = .ok (.iconst (-1), 1) := by decide +kernel
theorem dX4_wouldDiffer_10 : decode cX4_wouldDiffer 10 = .ok (.ireturn, 1) := by decide +kernel
theorem dX4_wouldDiffer_11 : decode cX4_wouldDiffer 11 = .ok (.aload_n 0, 1) := by decide +kernel
theorem dX4_wouldDiffer_12 : decode cX4_wouldDiffer 12 = .ok (.getfield 12, 3) := by decide +kernel
theorem dX4_wouldDiffer_15 : decode cX4_wouldDiffer 15 = .ok (.iload_n 1, 1) := by decide +kernel
theorem dX4_wouldDiffer_16 : decode cX4_wouldDiffer 16 = .ok (.iload_n 2, 1) := by decide +kernel
theorem dX4_wouldDiffer_17 : decode cX4_wouldDiffer 17 = .ok (.invokevirtual 148, 3) := by decide +kernel
theorem dX4_wouldDiffer_20 : decode cX4_wouldDiffer 20 = .ok (.ifCond .ne 6, 3) := by decide +kernel
theorem dX4_wouldDiffer_23 : decode cX4_wouldDiffer 23 = .ok (.bipush (-4), 2) := by decide +kernel
theorem dX4_wouldDiffer_25 : decode cX4_wouldDiffer 25 = .ok (.ireturn, 1) := by decide +kernel
theorem dX4_wouldDiffer_26 : decode cX4_wouldDiffer 26 = .ok (.aload_n 0, 1) := by decide +kernel
theorem dX4_wouldDiffer_27 : decode cX4_wouldDiffer 27 = .ok (.getfield 12, 3) := by decide +kernel
theorem dX4_wouldDiffer_30 : decode cX4_wouldDiffer 30 = .ok (.aload_n 0, 1) := by decide +kernel
theorem dX4_wouldDiffer_31 : decode cX4_wouldDiffer 31 = .ok (.getfield 12, 3) := by decide +kernel
theorem dX4_wouldDiffer_34 : decode cX4_wouldDiffer 34 = .ok (.iload_n 1, 1) := by decide +kernel
theorem dX4_wouldDiffer_35 : decode cX4_wouldDiffer 35 = .ok (.invokevirtual 135, 3) := by decide +kernel
theorem dX4_wouldDiffer_38 : decode cX4_wouldDiffer 38 = .ok (.invokevirtual 126, 3) := by decide +kernel
theorem dX4_wouldDiffer_41 : decode cX4_wouldDiffer 41 = .ok (.istore_n 3, 1) := by decide +kernel
theorem dX4_wouldDiffer_42 : decode cX4_wouldDiffer 42 = .ok (.aload_n 0, 1) := by decide +kernel
theorem dX4_wouldDiffer_43 : decode cX4_wouldDiffer 43 = .ok (.getfield 12, 3) := by decide +kernel
theorem dX4_wouldDiffer_46 : decode cX4_wouldDiffer 46 = .ok (.aload_n 0, 1) := by decide +kernel
theorem dX4_wouldDiffer_47 : decode cX4_wouldDiffer 47 = .ok (.getfield 12, 3) := by decide +kernel
theorem dX4_wouldDiffer_50 : decode cX4_wouldDiffer 50 = .ok (.aload_n 0, 1) := by decide +kernel
theorem dX4_wouldDiffer_51 : decode cX4_wouldDiffer 51 = .ok (.getfield 12, 3) := by decide +kernel
theorem dX4_wouldDiffer_54 : decode cX4_wouldDiffer 54 = .ok (.iload_n 1, 1) := by decide +kernel
theorem dX4_wouldDiffer_55 : decode cX4_wouldDiffer 55 = .ok (.iload_n 2, 1) := by decide +kernel
theorem dX4_wouldDiffer_56 : decode cX4_wouldDiffer 56 = .ok (.invokevirtual 160, 3) := by decide +kernel
theorem dX4_wouldDiffer_59 : decode cX4_wouldDiffer 59 = .ok (.invokevirtual 123, 3) := by decide +kernel
theorem dX4_wouldDiffer_62 : decode cX4_wouldDiffer 62 = .ok (.invokevirtual 126, 3) := by decide +kernel
theorem dX4_wouldDiffer_65 : decode cX4_wouldDiffer 65 = .ok (.istore 4, 2) := by decide +kernel
theorem dX4_wouldDiffer_67 : decode cX4_wouldDiffer 67 = .ok (.iload_n 3, 1) := by decide +kernel
theorem dX4_wouldDiffer_68 : decode cX4_wouldDiffer 68 = .ok (.iconst 2, 1) := by decide +kernel
theorem dX4_wouldDiffer_69 : decode cX4_wouldDiffer 69 = .ok (.iload 4, 2) := by decide +kernel
theorem dX4_wouldDiffer_71 : decode cX4_wouldDiffer 71 = .ok (.imul, 1) := by decide +kernel
theorem dX4_wouldDiffer_72 : decode cX4_wouldDiffer 72 = .ok (.isub, 1) := by decide +kernel
theorem dX4_wouldDiffer_73 : decode cX4_wouldDiffer 73 = .ok (.invokestatic 163, 3) := by decide +kernel
theorem dX4_wouldDiffer_76 : decode cX4_wouldDiffer 76 = .ok (.ireturn, 1) := by decide +kernel
theorem dX4_middle_0 : decode cX4_middle 0 = .ok (.aload_n 0, 1) := by decide +kernel
theorem dX4_middle_1 : decode cX4_middle 1 = .ok (.getfield 12, 3) := by decide +kernel
theorem dX4_middle_4 : decode cX4_middle 4 = .ok (.iload_n 1, 1) := by decide +kernel
theorem dX4_middle_5 : decode cX4_middle 5 = .ok (.invokevirtual 89, 3) := by decide +kernel
theorem dX4_middle_8 : decode cX4_middle 8 = .ok (.ifCond .ne 5, 3) := by decide +kernel
theorem dX4_middle_11 : decode cX4_middle 11 = .ok (.iconst (-1), 1) := by decide +kernel
theorem dX4_middle_12 : decode cX4_middle 12 = .ok (.ireturn, 1) := by decide +kernel
theorem dX4_middle_13 : decode cX4_middle 13 = .ok (.aload_n 0, 1) := by decide +kernel
theorem dX4_middle_14 : decode cX4_middle 14 = .ok (.getfield 12, 3) := by decide +kernel
theorem dX4_middle_17 : decode cX4_middle 17 = .ok (.iload_n 1, 1) := by decide +kernel
theorem dX4_middle_18 : decode cX4_middle 18 = .ok (.invokevirtual 168, 3) := by decide +kernel
theorem dX4_middle_21 : decode cX4_middle 21 = .ok (.ireturn, 1) := by decide +kernel
theorem dX4_ranked_0 : decode cX4_ranked 0 = .ok (.aload_n 0, 1) := by decide +kernel
theorem dX4_ranked_1 : decode cX4_ranked 1 = .ok (.getfield 12, 3) := by decide +kernel
theorem dX4_ranked_4 : decode cX4_ranked 4 = .ok (.iload_n 1, 1) := by decide +kernel
theorem dX4_ranked_5 : decode cX4_ranked 5 = .ok (.invokevirtual 171, 3) := by decide +kernel
theorem dX4_ranked_8 : decode cX4_ranked 8 = .ok (.ireturn, 1) := by decide +kernel
theorem dX4_append_0 : decode cX4_append 0 = .ok (.iload_n 1, 1) := by decide +kernel
theorem dX4_append_1 : decode cX4_append 1 = .ok (.bipush 32, 2) := by decide +kernel
theorem dX4_append_3 : decode cX4_append 3 = .ok (.if_icmp .lt 21, 3) := by decide +kernel
theorem dX4_append_6 : decode cX4_append 6 = .ok (.iload_n 1, 1) := by decide +kernel
theorem dX4_append_7 : decode cX4_append 7 = .ok (.bipush 126, 2) := by decide +kernel
theorem dX4_append_9 : decode cX4_append 9 = .ok (.if_icmp .gt 15, 3) := by decide +kernel
theorem dX4_append_12 : decode cX4_append 12 = .ok (.aload_n 0, 1) := by decide +kernel
theorem dX4_append_13 : decode cX4_append 13 = .ok (.getfield 35, 3) := by decide +kernel
theorem dX4_append_16 : decode cX4_append 16 = .ok (.invokevirtual 138, 3) := by decide +kernel
theorem dX4_append_19 : decode cX4_append 19 = .ok (.bipush 70, 2) := by decide +kernel
theorem dX4_append_21 : decode cX4_append 21 = .ok (.if_icmp .lt 6, 3) := by decide +kernel
theorem dX4_append_24 : decode cX4_append 24 = .ok (.bipush (-2), 2) := by decide +kernel
theorem dX4_append_26 : decode cX4_append 26 = .ok (.ireturn, 1) := by decide +kernel
theorem dX4_append_27 : decode cX4_append 27 = .ok (.aload_n 0, 1) := by decide +kernel
theorem dX4_append_28 : decode cX4_append 28 = .ok (.getfield 35, 3) := by decide +kernel
theorem dX4_append_31 : decode cX4_append 31 = .ok (.iload_n 1, 1) := by decide +kernel
theorem dX4_append_32 : decode cX4_append 32 = .ok (.invokevirtual 180, 3) := by decide +kernel
theorem dX4_append_35 : decode cX4_append 35 = .ok (.aload_n 0, 1) := by decide +kernel
theorem dX4_append_36 : decode cX4_append 36 = .ok (.getfield 35, 3) := by decide +kernel
theorem dX4_append_39 : decode cX4_append 39 = .ok (.invokevirtual 138, 3) := by decide +kernel
theorem dX4_append_42 : decode cX4_append 42 = .ok (.ireturn, 1) := by decide +kernel
theorem dX4_read_0 : decode cX4_read 0 = .ok (.aload_n 0, 1) := by decide +kernel
theorem dX4_read_1 : decode cX4_read 1 = .ok (.getfield 41, 3) := by decide +kernel
theorem dX4_read_4 : decode cX4_read 4 = .ok (.aload_n 0, 1) := by decide +kernel
theorem dX4_read_5 : decode cX4_read 5 = .ok (.getfield 35, 3) := by decide +kernel
theorem dX4_read_8 : decode cX4_read 8 = .ok (.invokevirtual 183, 3) := by decide +kernel
theorem dX4_read_11 : decode cX4_read 11 = .ok (.istore_n 1, 1) := by decide +kernel
theorem dX4_read_12 : decode cX4_read 12 = .ok (.aload_n 0, 1) := by decide +kernel
theorem dX4_read_13 : decode cX4_read 13 = .ok (.getfield 35, 3) := by decide +kernel
theorem dX4_read_16 : decode cX4_read 16 = .ok (.invokevirtual 174, 3) := by decide +kernel
theorem dX4_read_19 : decode cX4_read 19 = .ok (.iload_n 1, 1) := by decide +kernel
theorem dX4_read_20 : decode cX4_read 20 = .ok (.ifCond .lt 8, 3) := by decide +kernel
theorem dX4_read_23 : decode cX4_read 23 = .ok (.bipush (-100), 2) := by decide +kernel
theorem dX4_read_25 : decode cX4_read 25 = .ok (.iload_n 1, 1) := by decide +kernel
theorem dX4_read_26 : decode cX4_read 26 = .ok (.isub, 1) := by decide +kernel
theorem dX4_read_27 : decode cX4_read 27 = .ok (.ireturn, 1) := by decide +kernel
theorem dX4_read_28 : decode cX4_read 28 = .ok (.aload_n 0, 1) := by decide +kernel
theorem dX4_read_29 : decode cX4_read 29 = .ok (.getfield 22, 3) := by decide +kernel
theorem dX4_read_32 : decode cX4_read 32 = .ok (.aload_n 0, 1) := by decide +kernel
theorem dX4_read_33 : decode cX4_read 33 = .ok (.getfield 12, 3) := by decide +kernel
theorem dX4_read_36 : decode cX4_read 36 = .ok (.invokevirtual 49, 3) := by decide +kernel
theorem dX4_read_39 : decode cX4_read 39 = .ok (.aload_n 0, 1) := by decide +kernel
theorem dX4_read_40 : decode cX4_read 40 = .ok (.getfield 41, 3) := by decide +kernel
theorem dX4_read_43 : decode cX4_read 43 = .ok (.invokevirtual 187, 3) := by decide +kernel
theorem dX4_read_46 : decode cX4_read 46 = .ok (.istore_n 2, 1) := by decide +kernel
theorem dX4_read_47 : decode cX4_read 47 = .ok (.iconst 0, 1) := by decide +kernel
theorem dX4_read_48 : decode cX4_read 48 = .ok (.istore_n 3, 1) := by decide +kernel
theorem dX4_read_49 : decode cX4_read 49 = .ok (.iload_n 3, 1) := by decide +kernel
theorem dX4_read_50 : decode cX4_read 50 = .ok (.aload_n 0, 1) := by decide +kernel
theorem dX4_read_51 : decode cX4_read 51 = .ok (.getfield 41, 3) := by decide +kernel
theorem dX4_read_54 : decode cX4_read 54 = .ok (.invokevirtual 187, 3) := by decide +kernel
theorem dX4_read_57 : decode cX4_read 57 = .ok (.if_icmp .ge 45, 3) := by decide +kernel
theorem dX4_read_60 : decode cX4_read 60 = .ok (.iload_n 2, 1) := by decide +kernel
theorem dX4_read_61 : decode cX4_read 61 = .ok (.ifCond .lt 41, 3) := by decide +kernel
theorem dX4_read_64 : decode cX4_read 64 = .ok (.aload_n 0, 1) := by decide +kernel
theorem dX4_read_65 : decode cX4_read 65 = .ok (.iload_n 3, 1) := by decide +kernel
theorem dX4_read_66 : decode cX4_read 66 = .ok (.putfield 45, 3) := by decide +kernel
theorem dX4_read_69 : decode cX4_read 69 = .ok (.aload_n 0, 1) := by decide +kernel
theorem dX4_read_70 : decode cX4_read 70 = .ok (.iload_n 3, 1) := by decide +kernel
theorem dX4_read_71 : decode cX4_read 71 = .ok (.invokevirtual 190, 3) := by decide +kernel
theorem dX4_read_74 : decode cX4_read 74 = .ok (.istore 4, 2) := by decide +kernel
theorem dX4_read_76 : decode cX4_read 76 = .ok (.iload 4, 2) := by decide +kernel
theorem dX4_read_78 : decode cX4_read 78 = .ok (.ifCond .ge 18, 3) := by decide +kernel
theorem dX4_read_81 : decode cX4_read 81 = .ok (.iload 4, 2) := by decide +kernel
theorem dX4_read_83 : decode cX4_read 83 = .ok (.bipush (-3), 2) := by decide +kernel
theorem dX4_read_85 : decode cX4_read 85 = .ok (.if_icmp .ne 8, 3) := by decide +kernel
theorem dX4_read_88 : decode cX4_read 88 = .ok (.bipush (-3), 2) := by decide +kernel
theorem dX4_read_90 : decode cX4_read 90 = .ok (.goto 5, 3) := by decide +kernel
theorem dX4_read_93 : decode cX4_read 93 = .ok (.bipush (-2), 2) := by decide +kernel
theorem dX4_read_95 : decode cX4_read 95 = .ok (.istore_n 2, 1) := by decide +kernel
theorem dX4_read_96 : decode cX4_read 96 = .ok (.iinc 3 1, 3) := by decide +kernel
theorem dX4_read_99 : decode cX4_read 99 = .ok (.goto (-50), 3) := by decide +kernel
theorem dX4_read_102 : decode cX4_read 102 = .ok (.aload_n 0, 1) := by decide +kernel
theorem dX4_read_103 : decode cX4_read 103 = .ok (.bipush (-4), 2) := by decide +kernel
theorem dX4_read_105 : decode cX4_read 105 = .ok (.putfield 45, 3) := by decide +kernel
theorem dX4_read_108 : decode cX4_read 108 = .ok (.iload_n 2, 1) := by decide +kernel
theorem dX4_read_109 : decode cX4_read 109 = .ok (.ifCond .ge 14, 3) := by decide +kernel
theorem dX4_read_112 : decode cX4_read 112 = .ok (.aload_n 0, 1) := by decide +kernel
theorem dX4_read_113 : decode cX4_read 113 = .ok (.getfield 22, 3) := by decide +kernel
theorem dX4_read_116 : decode cX4_read 116 = .ok (.aload_n 0, 1) := by decide +kernel
theorem dX4_read_117 : decode cX4_read 117 = .ok (.getfield 12, 3) := by decide +kernel
theorem dX4_read_120 : decode cX4_read 120 = .ok (.invokevirtual 193, 3) := by decide +kernel
theorem dX4_read_123 : decode cX4_read 123 = .ok (.aload_n 0, 1) := by decide +kernel
theorem dX4_read_124 : decode cX4_read 124 = .ok (.iload_n 2, 1) := by decide +kernel
theorem dX4_read_125 : decode cX4_read 125 = .ok (.invokevirtual 57, 3) := by decide +kernel
theorem dX4_read_128 : decode cX4_read 128 = .ok (.ireturn, 1) := by decide +kernel
theorem dX4_refusal_0 : decode cX4_refusal 0 = .ok (.iload_n 1, 1) := by decide +kernel
theorem dX4_refusal_1 : decode cX4_refusal 1 = .ok (.ifCond .lt 8, 3) := by decide +kernel
theorem dX4_refusal_4 : decode cX4_refusal 4 = .ok (.iload_n 1, 1) := by decide +kernel
theorem dX4_refusal_5 : decode cX4_refusal 5 = .ok (.iconst 2, 1) := by decide +kernel
theorem dX4_refusal_6 : decode cX4_refusal 6 = .ok (.if_icmp .le 6, 3) := by decide +kernel
theorem dX4_refusal_9 : decode cX4_refusal 9 = .ok (.bipush (-2), 2) := by decide +kernel
theorem dX4_refusal_11 : decode cX4_refusal 11 = .ok (.ireturn, 1) := by decide +kernel
theorem dX4_refusal_12 : decode cX4_refusal 12 = .ok (.aload_n 0, 1) := by decide +kernel
theorem dX4_refusal_13 : decode cX4_refusal 13 = .ok (.getfield 196, 3) := by decide +kernel
theorem dX4_refusal_16 : decode cX4_refusal 16 = .ok (.ifCond .ne 6, 3) := by decide +kernel
theorem dX4_refusal_19 : decode cX4_refusal 19 = .ok (.bipush (-4), 2) := by decide +kernel
theorem dX4_refusal_21 : decode cX4_refusal 21 = .ok (.ireturn, 1) := by decide +kernel
theorem dX4_refusal_22 : decode cX4_refusal 22 = .ok (.iload_n 1, 1) := by decide +kernel
theorem dX4_refusal_23 : decode cX4_refusal 23 = .ok (.lookupswitch 35 #[(0, 25), (1, 30)], 25) := by decide +kernel
theorem dX4_refusal_48 : decode cX4_refusal 48 = .ok (.aload_n 0, 1) := by decide +kernel
theorem dX4_refusal_49 : decode cX4_refusal 49 = .ok (.getfield 196, 3) := by decide +kernel
theorem dX4_refusal_52 : decode cX4_refusal 52 = .ok (.ireturn, 1) := by decide +kernel
theorem dX4_refusal_53 : decode cX4_refusal 53 = .ok (.aload_n 0, 1) := by decide +kernel
theorem dX4_refusal_54 : decode cX4_refusal 54 = .ok (.getfield 199, 3) := by decide +kernel
theorem dX4_refusal_57 : decode cX4_refusal 57 = .ok (.ireturn, 1) := by decide +kernel
theorem dX4_refusal_58 : decode cX4_refusal 58 = .ok (.aload_n 0, 1) := by decide +kernel
theorem dX4_refusal_59 : decode cX4_refusal 59 = .ok (.getfield 202, 3) := by decide +kernel
theorem dX4_refusal_62 : decode cX4_refusal 62 = .ok (.ireturn, 1) := by decide +kernel
theorem dX4_account_0 : decode cX4_account 0 = .ok (.iload_n 1, 1) := by decide +kernel
theorem dX4_account_1 : decode cX4_account 1 = .ok (.tableswitch 161 0 10 #[59, 67, 75, 83, 98, 106, 114, 122, 130, 145, 153], 59) := by decide +kernel
theorem dX4_account_60 : decode cX4_account 60 = .ok (.aload_n 0, 1) := by decide +kernel
theorem dX4_account_61 : decode cX4_account 61 = .ok (.getfield 12, 3) := by decide +kernel
theorem dX4_account_64 : decode cX4_account 64 = .ok (.invokevirtual 205, 3) := by decide +kernel
theorem dX4_account_67 : decode cX4_account 67 = .ok (.ireturn, 1) := by decide +kernel
theorem dX4_account_68 : decode cX4_account 68 = .ok (.aload_n 0, 1) := by decide +kernel
theorem dX4_account_69 : decode cX4_account 69 = .ok (.getfield 12, 3) := by decide +kernel
theorem dX4_account_72 : decode cX4_account 72 = .ok (.invokevirtual 208, 3) := by decide +kernel
theorem dX4_account_75 : decode cX4_account 75 = .ok (.ireturn, 1) := by decide +kernel
theorem dX4_account_76 : decode cX4_account 76 = .ok (.aload_n 0, 1) := by decide +kernel
theorem dX4_account_77 : decode cX4_account 77 = .ok (.getfield 12, 3) := by decide +kernel
theorem dX4_account_80 : decode cX4_account 80 = .ok (.invokevirtual 211, 3) := by decide +kernel
theorem dX4_account_83 : decode cX4_account 83 = .ok (.ireturn, 1) := by decide +kernel
theorem dX4_account_84 : decode cX4_account 84 = .ok (.aload_n 0, 1) := by decide +kernel
theorem dX4_account_85 : decode cX4_account 85 = .ok (.getfield 12, 3) := by decide +kernel
theorem dX4_account_88 : decode cX4_account 88 = .ok (.aload_n 0, 1) := by decide +kernel
theorem dX4_account_89 : decode cX4_account 89 = .ok (.getfield 12, 3) := by decide +kernel
theorem dX4_account_92 : decode cX4_account 92 = .ok (.invokevirtual 214, 3) := by decide +kernel
theorem dX4_account_95 : decode cX4_account 95 = .ok (.invokevirtual 126, 3) := by decide +kernel
theorem dX4_account_98 : decode cX4_account 98 = .ok (.ireturn, 1) := by decide +kernel
theorem dX4_account_99 : decode cX4_account 99 = .ok (.aload_n 0, 1) := by decide +kernel
theorem dX4_account_100 : decode cX4_account 100 = .ok (.getfield 12, 3) := by decide +kernel
theorem dX4_account_103 : decode cX4_account 103 = .ok (.invokevirtual 217, 3) := by decide +kernel
theorem dX4_account_106 : decode cX4_account 106 = .ok (.ireturn, 1) := by decide +kernel
theorem dX4_account_107 : decode cX4_account 107 = .ok (.aload_n 0, 1) := by decide +kernel
theorem dX4_account_108 : decode cX4_account 108 = .ok (.getfield 12, 3) := by decide +kernel
theorem dX4_account_111 : decode cX4_account 111 = .ok (.invokevirtual 220, 3) := by decide +kernel
theorem dX4_account_114 : decode cX4_account 114 = .ok (.ireturn, 1) := by decide +kernel
theorem dX4_account_115 : decode cX4_account 115 = .ok (.aload_n 0, 1) := by decide +kernel
theorem dX4_account_116 : decode cX4_account 116 = .ok (.getfield 12, 3) := by decide +kernel
theorem dX4_account_119 : decode cX4_account 119 = .ok (.invokevirtual 223, 3) := by decide +kernel
theorem dX4_account_122 : decode cX4_account 122 = .ok (.ireturn, 1) := by decide +kernel
theorem dX4_account_123 : decode cX4_account 123 = .ok (.aload_n 0, 1) := by decide +kernel
theorem dX4_account_124 : decode cX4_account 124 = .ok (.getfield 12, 3) := by decide +kernel
theorem dX4_account_127 : decode cX4_account 127 = .ok (.invokevirtual 226, 3) := by decide +kernel
theorem dX4_account_130 : decode cX4_account 130 = .ok (.ireturn, 1) := by decide +kernel
theorem dX4_account_131 : decode cX4_account 131 = .ok (.aload_n 0, 1) := by decide +kernel
theorem dX4_account_132 : decode cX4_account 132 = .ok (.getfield 12, 3) := by decide +kernel
theorem dX4_account_135 : decode cX4_account 135 = .ok (.aload_n 0, 1) := by decide +kernel
theorem dX4_account_136 : decode cX4_account 136 = .ok (.getfield 12, 3) := by decide +kernel
theorem dX4_account_139 : decode cX4_account 139 = .ok (.invokevirtual 214, 3) := by decide +kernel
theorem dX4_account_142 : decode cX4_account 142 = .ok (.invokevirtual 142, 3) := by decide +kernel
theorem dX4_account_145 : decode cX4_account 145 = .ok (.ireturn, 1) := by decide +kernel
theorem dX4_account_146 : decode cX4_account 146 = .ok (.aload_n 0, 1) := by decide +kernel
theorem dX4_account_147 : decode cX4_account 147 = .ok (.getfield 35, 3) := by decide +kernel
theorem dX4_account_150 : decode cX4_account 150 = .ok (.invokevirtual 138, 3) := by decide +kernel
theorem dX4_account_153 : decode cX4_account 153 = .ok (.ireturn, 1) := by decide +kernel
theorem dX4_account_154 : decode cX4_account 154 = .ok (.aload_n 0, 1) := by decide +kernel
theorem dX4_account_155 : decode cX4_account 155 = .ok (.getfield 22, 3) := by decide +kernel
theorem dX4_account_158 : decode cX4_account 158 = .ok (.invokevirtual 229, 3) := by decide +kernel
theorem dX4_account_161 : decode cX4_account 161 = .ok (.ireturn, 1) := by decide +kernel
theorem dX4_account_162 : decode cX4_account 162 = .ok (.bipush (-2), 2) := by decide +kernel
theorem dX4_account_164 : decode cX4_account 164 = .ok (.ireturn, 1) := by decide +kernel
theorem dX4_isWell_0 : decode cX4_isWell 0 = .ok (.aload_n 0, 1) := by decide +kernel
theorem dX4_isWell_1 : decode cX4_isWell 1 = .ok (.getfield 12, 3) := by decide +kernel
theorem dX4_isWell_4 : decode cX4_isWell 4 = .ok (.invokevirtual 232, 3) := by decide +kernel
theorem dX4_isWell_7 : decode cX4_isWell 7 = .ok (.ifCond .eq 7, 3) := by decide +kernel
theorem dX4_isWell_10 : decode cX4_isWell 10 = .ok (.iconst 1, 1) := by decide +kernel
theorem dX4_isWell_11 : decode cX4_isWell 11 = .ok (.goto 4, 3) := by decide +kernel
theorem dX4_isWell_14 : decode cX4_isWell 14 = .ok (.iconst 0, 1) := by decide +kernel
theorem dX4_isWell_15 : decode cX4_isWell 15 = .ok (.ireturn, 1) := by decide +kernel
theorem dX4_mean_0 : decode cX4_mean 0 = .ok (.aload_n 0, 1) := by decide +kernel
theorem dX4_mean_1 : decode cX4_mean 1 = .ok (.getfield 12, 3) := by decide +kernel
theorem dX4_mean_4 : decode cX4_mean 4 = .ok (.invokevirtual 205, 3) := by decide +kernel
theorem dX4_mean_7 : decode cX4_mean 7 = .ok (.istore_n 1, 1) := by decide +kernel
theorem dX4_mean_8 : decode cX4_mean 8 = .ok (.iload_n 1, 1) := by decide +kernel
theorem dX4_mean_9 : decode cX4_mean 9 = .ok (.ifCond .gt 6, 3) := by decide +kernel
theorem dX4_mean_12 : decode cX4_mean 12 = .ok (.bipush (-4), 2) := by decide +kernel
theorem dX4_mean_14 : decode cX4_mean 14 = .ok (.ireturn, 1) := by decide +kernel
theorem dX4_mean_15 : decode cX4_mean 15 = .ok (.aload_n 0, 1) := by decide +kernel
theorem dX4_mean_16 : decode cX4_mean 16 = .ok (.getfield 12, 3) := by decide +kernel
theorem dX4_mean_19 : decode cX4_mean 19 = .ok (.invokevirtual 236, 3) := by decide +kernel
theorem dX4_mean_22 : decode cX4_mean 22 = .ok (.i2f, 1) := by decide +kernel
theorem dX4_mean_23 : decode cX4_mean 23 = .ok (.iload_n 1, 1) := by decide +kernel
theorem dX4_mean_24 : decode cX4_mean 24 = .ok (.i2f, 1) := by decide +kernel
theorem dX4_mean_25 : decode cX4_mean 25 = .ok (.fdiv, 1) := by decide +kernel
theorem dX4_mean_26 : decode cX4_mean 26 = .ok (.invokestatic 239, 3) := by decide +kernel
theorem dX4_mean_29 : decode cX4_mean 29 = .ok (.ireturn, 1) := by decide +kernel
theorem dX4_undo_0 : decode cX4_undo 0 = .ok (.aload_n 0, 1) := by decide +kernel
theorem dX4_undo_1 : decode cX4_undo 1 = .ok (.getfield 22, 3) := by decide +kernel
theorem dX4_undo_4 : decode cX4_undo 4 = .ok (.aload_n 0, 1) := by decide +kernel
theorem dX4_undo_5 : decode cX4_undo 5 = .ok (.getfield 12, 3) := by decide +kernel
theorem dX4_undo_8 : decode cX4_undo 8 = .ok (.invokevirtual 243, 3) := by decide +kernel
theorem dX4_undo_11 : decode cX4_undo 11 = .ok (.ifCond .eq 13, 3) := by decide +kernel
theorem dX4_undo_14 : decode cX4_undo 14 = .ok (.aload_n 0, 1) := by decide +kernel
theorem dX4_undo_15 : decode cX4_undo 15 = .ok (.getfield 22, 3) := by decide +kernel
theorem dX4_undo_18 : decode cX4_undo 18 = .ok (.invokevirtual 229, 3) := by decide +kernel
theorem dX4_undo_21 : decode cX4_undo 21 = .ok (.goto 5, 3) := by decide +kernel
theorem dX4_undo_24 : decode cX4_undo 24 = .ok (.bipush (-4), 2) := by decide +kernel
theorem dX4_undo_26 : decode cX4_undo 26 = .ok (.ireturn, 1) := by decide +kernel
theorem dX4_save_0 : decode cX4_save 0 = .ok (.aload_n 0, 1) := by decide +kernel
theorem dX4_save_1 : decode cX4_save 1 = .ok (.getfield 16, 3) := by decide +kernel
theorem dX4_save_4 : decode cX4_save 4 = .ok (.aload_n 0, 1) := by decide +kernel
theorem dX4_save_5 : decode cX4_save 5 = .ok (.getfield 12, 3) := by decide +kernel
theorem dX4_save_8 : decode cX4_save 8 = .ok (.invokevirtual 247, 3) := by decide +kernel
theorem dX4_save_11 : decode cX4_save 11 = .ok (.aload_n 0, 1) := by decide +kernel
theorem dX4_save_12 : decode cX4_save 12 = .ok (.iconst 1, 1) := by decide +kernel
theorem dX4_save_13 : decode cX4_save 13 = .ok (.putfield 250, 3) := by decide +kernel
theorem dX4_save_16 : decode cX4_save 16 = .ok (.aload_n 0, 1) := by decide +kernel
theorem dX4_save_17 : decode cX4_save 17 = .ok (.getfield 12, 3) := by decide +kernel
theorem dX4_save_20 : decode cX4_save 20 = .ok (.invokevirtual 205, 3) := by decide +kernel
theorem dX4_save_23 : decode cX4_save 23 = .ok (.ireturn, 1) := by decide +kernel
theorem dX4_restore_0 : decode cX4_restore 0 = .ok (.aload_n 0, 1) := by decide +kernel
theorem dX4_restore_1 : decode cX4_restore 1 = .ok (.getfield 250, 3) := by decide +kernel
theorem dX4_restore_4 : decode cX4_restore 4 = .ok (.ifCond .ne 6, 3) := by decide +kernel
theorem dX4_restore_7 : decode cX4_restore 7 = .ok (.bipush (-4), 2) := by decide +kernel
theorem dX4_restore_9 : decode cX4_restore 9 = .ok (.ireturn, 1) := by decide +kernel
theorem dX4_restore_10 : decode cX4_restore 10 = .ok (.aload_n 0, 1) := by decide +kernel
theorem dX4_restore_11 : decode cX4_restore 11 = .ok (.getfield 12, 3) := by decide +kernel
theorem dX4_restore_14 : decode cX4_restore 14 = .ok (.aload_n 0, 1) := by decide +kernel
theorem dX4_restore_15 : decode cX4_restore 15 = .ok (.getfield 16, 3) := by decide +kernel
theorem dX4_restore_18 : decode cX4_restore 18 = .ok (.invokevirtual 247, 3) := by decide +kernel
theorem dX4_restore_21 : decode cX4_restore 21 = .ok (.aload_n 0, 1) := by decide +kernel
theorem dX4_restore_22 : decode cX4_restore 22 = .ok (.getfield 22, 3) := by decide +kernel
theorem dX4_restore_25 : decode cX4_restore 25 = .ok (.invokevirtual 254, 3) := by decide +kernel
theorem dX4_restore_28 : decode cX4_restore 28 = .ok (.aload_n 0, 1) := by decide +kernel
theorem dX4_restore_29 : decode cX4_restore 29 = .ok (.getfield 12, 3) := by decide +kernel
theorem dX4_restore_32 : decode cX4_restore 32 = .ok (.invokevirtual 205, 3) := by decide +kernel
theorem dX4_restore_35 : decode cX4_restore 35 = .ok (.ireturn, 1) := by decide +kernel
theorem dX4_addBank_0 : decode cX4_addBank 0 = .ok (.iload_n 1, 1) := by decide +kernel
theorem dX4_addBank_1 : decode cX4_addBank 1 = .ok (.ifCond .lt 9, 3) := by decide +kernel
theorem dX4_addBank_4 : decode cX4_addBank 4 = .ok (.iload_n 1, 1) := by decide +kernel
theorem dX4_addBank_5 : decode cX4_addBank 5 = .ok (.bipush 99, 2) := by decide +kernel
theorem dX4_addBank_7 : decode cX4_addBank 7 = .ok (.if_icmp .le 6, 3) := by decide +kernel
theorem dX4_addBank_10 : decode cX4_addBank 10 = .ok (.bipush (-2), 2) := by decide +kernel
theorem dX4_addBank_12 : decode cX4_addBank 12 = .ok (.ireturn, 1) := by decide +kernel
theorem dX4_addBank_13 : decode cX4_addBank 13 = .ok (.aload_n 0, 1) := by decide +kernel
theorem dX4_addBank_14 : decode cX4_addBank 14 = .ok (.getfield 12, 3) := by decide +kernel
theorem dX4_addBank_17 : decode cX4_addBank 17 = .ok (.invokevirtual 205, 3) := by decide +kernel
theorem dX4_addBank_20 : decode cX4_addBank 20 = .ok (.bipush 12, 2) := by decide +kernel
theorem dX4_addBank_22 : decode cX4_addBank 22 = .ok (.if_icmp .lt 11, 3) := by decide +kernel
theorem dX4_addBank_25 : decode cX4_addBank 25 = .ok (.aload_n 0, 1) := by decide +kernel
theorem dX4_addBank_26 : decode cX4_addBank 26 = .ok (.iconst 1, 1) := by decide +kernel
theorem dX4_addBank_27 : decode cX4_addBank 27 = .ok (.bipush 12, 2) := by decide +kernel
theorem dX4_addBank_29 : decode cX4_addBank 29 = .ok (.invokevirtual 257, 3) := by decide +kernel
theorem dX4_addBank_32 : decode cX4_addBank 32 = .ok (.ireturn, 1) := by decide +kernel
theorem dX4_addBank_33 : decode cX4_addBank 33 = .ok (.aload_n 0, 1) := by decide +kernel
theorem dX4_addBank_34 : decode cX4_addBank 34 = .ok (.getfield 12, 3) := by decide +kernel
theorem dX4_addBank_37 : decode cX4_addBank 37 = .ok (.iload_n 1, 1) := by decide +kernel
theorem dX4_addBank_38 : decode cX4_addBank 38 = .ok (.invokevirtual 260, 3) := by decide +kernel
theorem dX4_addBank_41 : decode cX4_addBank 41 = .ok (.ireturn, 1) := by decide +kernel
theorem dX4_setWeight_0 : decode cX4_setWeight 0 = .ok (.aload_n 0, 1) := by decide +kernel
theorem dX4_setWeight_1 : decode cX4_setWeight 1 = .ok (.getfield 12, 3) := by decide +kernel
theorem dX4_setWeight_4 : decode cX4_setWeight 4 = .ok (.iload_n 1, 1) := by decide +kernel
theorem dX4_setWeight_5 : decode cX4_setWeight 5 = .ok (.invokevirtual 89, 3) := by decide +kernel
theorem dX4_setWeight_8 : decode cX4_setWeight 8 = .ok (.ifCond .ne 5, 3) := by decide +kernel
theorem dX4_setWeight_11 : decode cX4_setWeight 11 = .ok (.iconst (-1), 1) := by decide +kernel
theorem dX4_setWeight_12 : decode cX4_setWeight 12 = .ok (.ireturn, 1) := by decide +kernel
theorem dX4_setWeight_13 : decode cX4_setWeight 13 = .ok (.iload_n 2, 1) := by decide +kernel
theorem dX4_setWeight_14 : decode cX4_setWeight 14 = .ok (.ifCond .lt 9, 3) := by decide +kernel
theorem dX4_setWeight_17 : decode cX4_setWeight 17 = .ok (.iload_n 2, 1) := by decide +kernel
theorem dX4_setWeight_18 : decode cX4_setWeight 18 = .ok (.bipush 99, 2) := by decide +kernel
theorem dX4_setWeight_20 : decode cX4_setWeight 20 = .ok (.if_icmp .le 6, 3) := by decide +kernel
theorem dX4_setWeight_23 : decode cX4_setWeight 23 = .ok (.bipush (-2), 2) := by decide +kernel
theorem dX4_setWeight_25 : decode cX4_setWeight 25 = .ok (.ireturn, 1) := by decide +kernel
theorem dX4_setWeight_26 : decode cX4_setWeight 26 = .ok (.aload_n 0, 1) := by decide +kernel
theorem dX4_setWeight_27 : decode cX4_setWeight 27 = .ok (.getfield 12, 3) := by decide +kernel
theorem dX4_setWeight_30 : decode cX4_setWeight 30 = .ok (.iload_n 1, 1) := by decide +kernel
theorem dX4_setWeight_31 : decode cX4_setWeight 31 = .ok (.invokevirtual 93, 3) := by decide +kernel
theorem dX4_setWeight_34 : decode cX4_setWeight 34 = .ok (.istore_n 3, 1) := by decide +kernel
theorem dX4_setWeight_35 : decode cX4_setWeight 35 = .ok (.iload_n 3, 1) := by decide +kernel
theorem dX4_setWeight_36 : decode cX4_setWeight 36 = .ok (.iload_n 2, 1) := by decide +kernel
theorem dX4_setWeight_37 : decode cX4_setWeight 37 = .ok (.if_icmp .ne 10, 3) := by decide +kernel
theorem dX4_setWeight_40 : decode cX4_setWeight 40 = .ok (.aload_n 0, 1) := by decide +kernel
theorem dX4_setWeight_41 : decode cX4_setWeight 41 = .ok (.iconst 5, 1) := by decide +kernel
theorem dX4_setWeight_42 : decode cX4_setWeight 42 = .ok (.iload_n 2, 1) := by decide +kernel
theorem dX4_setWeight_43 : decode cX4_setWeight 43 = .ok (.invokevirtual 257, 3) := by decide +kernel
theorem dX4_setWeight_46 : decode cX4_setWeight 46 = .ok (.ireturn, 1) := by decide +kernel
theorem dX4_setWeight_47 : decode cX4_setWeight 47 = .ok (.aload_n 0, 1) := by decide +kernel
theorem dX4_setWeight_48 : decode cX4_setWeight 48 = .ok (.getfield 12, 3) := by decide +kernel
theorem dX4_setWeight_51 : decode cX4_setWeight 51 = .ok (.iload_n 1, 1) := by decide +kernel
theorem dX4_setWeight_52 : decode cX4_setWeight 52 = .ok (.iload_n 2, 1) := by decide +kernel
theorem dX4_setWeight_53 : decode cX4_setWeight 53 = .ok (.invokevirtual 263, 3) := by decide +kernel
theorem dX4_setWeight_56 : decode cX4_setWeight 56 = .ok (.iload_n 3, 1) := by decide +kernel
theorem dX4_setWeight_57 : decode cX4_setWeight 57 = .ok (.ireturn, 1) := by decide +kernel
theorem dX4_joinBanks_0 : decode cX4_joinBanks 0 = .ok (.aload_n 0, 1) := by decide +kernel
theorem dX4_joinBanks_1 : decode cX4_joinBanks 1 = .ok (.iload_n 1, 1) := by decide +kernel
theorem dX4_joinBanks_2 : decode cX4_joinBanks 2 = .ok (.iload_n 2, 1) := by decide +kernel
theorem dX4_joinBanks_3 : decode cX4_joinBanks 3 = .ok (.invokevirtual 76, 3) := by decide +kernel
theorem dX4_joinBanks_6 : decode cX4_joinBanks 6 = .ok (.ifCond .ne 5, 3) := by decide +kernel
theorem dX4_joinBanks_9 : decode cX4_joinBanks 9 = .ok (.iconst (-1), 1) := by decide +kernel
theorem dX4_joinBanks_10 : decode cX4_joinBanks 10 = .ok (.ireturn, 1) := by decide +kernel
theorem dX4_joinBanks_11 : decode cX4_joinBanks 11 = .ok (.iload_n 1, 1) := by decide +kernel
theorem dX4_joinBanks_12 : decode cX4_joinBanks 12 = .ok (.iload_n 2, 1) := by decide +kernel
theorem dX4_joinBanks_13 : decode cX4_joinBanks 13 = .ok (.if_icmp .ne 10, 3) := by decide +kernel
theorem dX4_joinBanks_16 : decode cX4_joinBanks 16 = .ok (.aload_n 0, 1) := by decide +kernel
theorem dX4_joinBanks_17 : decode cX4_joinBanks 17 = .ok (.iconst 2, 1) := by decide +kernel
theorem dX4_joinBanks_18 : decode cX4_joinBanks 18 = .ok (.iload_n 1, 1) := by decide +kernel
theorem dX4_joinBanks_19 : decode cX4_joinBanks 19 = .ok (.invokevirtual 257, 3) := by decide +kernel
theorem dX4_joinBanks_22 : decode cX4_joinBanks 22 = .ok (.ireturn, 1) := by decide +kernel
theorem dX4_joinBanks_23 : decode cX4_joinBanks 23 = .ok (.aload_n 0, 1) := by decide +kernel
theorem dX4_joinBanks_24 : decode cX4_joinBanks 24 = .ok (.getfield 12, 3) := by decide +kernel
theorem dX4_joinBanks_27 : decode cX4_joinBanks 27 = .ok (.iload_n 1, 1) := by decide +kernel
theorem dX4_joinBanks_28 : decode cX4_joinBanks 28 = .ok (.iload_n 2, 1) := by decide +kernel
theorem dX4_joinBanks_29 : decode cX4_joinBanks 29 = .ok (.invokevirtual 80, 3) := by decide +kernel
theorem dX4_joinBanks_32 : decode cX4_joinBanks 32 = .ok (.ifCond .eq 17, 3) := by decide +kernel
theorem dX4_joinBanks_35 : decode cX4_joinBanks 35 = .ok (.aload_n 0, 1) := by decide +kernel
theorem dX4_joinBanks_36 : decode cX4_joinBanks 36 = .ok (.iconst 3, 1) := by decide +kernel
theorem dX4_joinBanks_37 : decode cX4_joinBanks 37 = .ok (.aload_n 0, 1) := by decide +kernel
theorem dX4_joinBanks_38 : decode cX4_joinBanks 38 = .ok (.getfield 12, 3) := by decide +kernel
theorem dX4_joinBanks_41 : decode cX4_joinBanks 41 = .ok (.iload_n 1, 1) := by decide +kernel
theorem dX4_joinBanks_42 : decode cX4_joinBanks 42 = .ok (.invokevirtual 96, 3) := by decide +kernel
theorem dX4_joinBanks_45 : decode cX4_joinBanks 45 = .ok (.invokevirtual 257, 3) := by decide +kernel
theorem dX4_joinBanks_48 : decode cX4_joinBanks 48 = .ok (.ireturn, 1) := by decide +kernel
theorem dX4_joinBanks_49 : decode cX4_joinBanks 49 = .ok (.aload_n 0, 1) := by decide +kernel
theorem dX4_joinBanks_50 : decode cX4_joinBanks 50 = .ok (.getfield 12, 3) := by decide +kernel
theorem dX4_joinBanks_53 : decode cX4_joinBanks 53 = .ok (.iload_n 2, 1) := by decide +kernel
theorem dX4_joinBanks_54 : decode cX4_joinBanks 54 = .ok (.invokevirtual 267, 3) := by decide +kernel
theorem dX4_joinBanks_57 : decode cX4_joinBanks 57 = .ok (.aload_n 0, 1) := by decide +kernel
theorem dX4_joinBanks_58 : decode cX4_joinBanks 58 = .ok (.getfield 12, 3) := by decide +kernel
theorem dX4_joinBanks_61 : decode cX4_joinBanks 61 = .ok (.iload_n 1, 1) := by decide +kernel
theorem dX4_joinBanks_62 : decode cX4_joinBanks 62 = .ok (.iload_n 2, 1) := by decide +kernel
theorem dX4_joinBanks_63 : decode cX4_joinBanks 63 = .ok (.invokevirtual 270, 3) := by decide +kernel
theorem dX4_joinBanks_66 : decode cX4_joinBanks 66 = .ok (.aload_n 0, 1) := by decide +kernel
theorem dX4_joinBanks_67 : decode cX4_joinBanks 67 = .ok (.getfield 12, 3) := by decide +kernel
theorem dX4_joinBanks_70 : decode cX4_joinBanks 70 = .ok (.iload_n 1, 1) := by decide +kernel
theorem dX4_joinBanks_71 : decode cX4_joinBanks 71 = .ok (.invokevirtual 135, 3) := by decide +kernel
theorem dX4_joinBanks_74 : decode cX4_joinBanks 74 = .ok (.invokestatic 115, 3) := by decide +kernel
theorem dX4_joinBanks_77 : decode cX4_joinBanks 77 = .ok (.ireturn, 1) := by decide +kernel
theorem dX4_cutRope_0 : decode cX4_cutRope 0 = .ok (.aload_n 0, 1) := by decide +kernel
theorem dX4_cutRope_1 : decode cX4_cutRope 1 = .ok (.iload_n 1, 1) := by decide +kernel
theorem dX4_cutRope_2 : decode cX4_cutRope 2 = .ok (.iload_n 2, 1) := by decide +kernel
theorem dX4_cutRope_3 : decode cX4_cutRope 3 = .ok (.invokevirtual 76, 3) := by decide +kernel
theorem dX4_cutRope_6 : decode cX4_cutRope 6 = .ok (.ifCond .ne 5, 3) := by decide +kernel
theorem dX4_cutRope_9 : decode cX4_cutRope 9 = .ok (.iconst (-1), 1) := by decide +kernel
theorem dX4_cutRope_10 : decode cX4_cutRope 10 = .ok (.ireturn, 1) := by decide +kernel
theorem dX4_cutRope_11 : decode cX4_cutRope 11 = .ok (.aload_n 0, 1) := by decide +kernel
theorem dX4_cutRope_12 : decode cX4_cutRope 12 = .ok (.getfield 12, 3) := by decide +kernel
theorem dX4_cutRope_15 : decode cX4_cutRope 15 = .ok (.iload_n 1, 1) := by decide +kernel
theorem dX4_cutRope_16 : decode cX4_cutRope 16 = .ok (.iload_n 2, 1) := by decide +kernel
theorem dX4_cutRope_17 : decode cX4_cutRope 17 = .ok (.invokevirtual 148, 3) := by decide +kernel
theorem dX4_cutRope_20 : decode cX4_cutRope 20 = .ok (.ifCond .ne 10, 3) := by decide +kernel
theorem dX4_cutRope_23 : decode cX4_cutRope 23 = .ok (.aload_n 0, 1) := by decide +kernel
theorem dX4_cutRope_24 : decode cX4_cutRope 24 = .ok (.iconst 4, 1) := by decide +kernel
theorem dX4_cutRope_25 : decode cX4_cutRope 25 = .ok (.iload_n 1, 1) := by decide +kernel
theorem dX4_cutRope_26 : decode cX4_cutRope 26 = .ok (.invokevirtual 257, 3) := by decide +kernel
theorem dX4_cutRope_29 : decode cX4_cutRope 29 = .ok (.ireturn, 1) := by decide +kernel
theorem dX4_cutRope_30 : decode cX4_cutRope 30 = .ok (.aload_n 0, 1) := by decide +kernel
theorem dX4_cutRope_31 : decode cX4_cutRope 31 = .ok (.getfield 12, 3) := by decide +kernel
theorem dX4_cutRope_34 : decode cX4_cutRope 34 = .ok (.iload_n 1, 1) := by decide +kernel
theorem dX4_cutRope_35 : decode cX4_cutRope 35 = .ok (.iload_n 2, 1) := by decide +kernel
theorem dX4_cutRope_36 : decode cX4_cutRope 36 = .ok (.invokevirtual 160, 3) := by decide +kernel
theorem dX4_cutRope_39 : decode cX4_cutRope 39 = .ok (.istore_n 3, 1) := by decide +kernel
theorem dX4_cutRope_40 : decode cX4_cutRope 40 = .ok (.aload_n 0, 1) := by decide +kernel
theorem dX4_cutRope_41 : decode cX4_cutRope 41 = .ok (.getfield 12, 3) := by decide +kernel
theorem dX4_cutRope_44 : decode cX4_cutRope 44 = .ok (.iload_n 3, 1) := by decide +kernel
theorem dX4_cutRope_45 : decode cX4_cutRope 45 = .ok (.iload_n 3, 1) := by decide +kernel
theorem dX4_cutRope_46 : decode cX4_cutRope 46 = .ok (.iload_n 1, 1) := by decide +kernel
theorem dX4_cutRope_47 : decode cX4_cutRope 47 = .ok (.if_icmp .ne 7, 3) := by decide +kernel
theorem dX4_cutRope_50 : decode cX4_cutRope 50 = .ok (.iload_n 2, 1) := by decide +kernel
theorem dX4_cutRope_51 : decode cX4_cutRope 51 = .ok (.goto 4, 3) := by decide +kernel
theorem dX4_cutRope_54 : decode cX4_cutRope 54 = .ok (.iload_n 1, 1) := by decide +kernel
theorem dX4_cutRope_55 : decode cX4_cutRope 55 = .ok (.invokevirtual 273, 3) := by decide +kernel
theorem dX4_cutRope_58 : decode cX4_cutRope 58 = .ok (.iload_n 3, 1) := by decide +kernel
theorem dX4_cutRope_59 : decode cX4_cutRope 59 = .ok (.ireturn, 1) := by decide +kernel
theorem dX4_turnRound_0 : decode cX4_turnRound 0 = .ok (.aload_n 0, 1) := by decide +kernel
theorem dX4_turnRound_1 : decode cX4_turnRound 1 = .ok (.getfield 12, 3) := by decide +kernel
theorem dX4_turnRound_4 : decode cX4_turnRound 4 = .ok (.iload_n 1, 1) := by decide +kernel
theorem dX4_turnRound_5 : decode cX4_turnRound 5 = .ok (.invokevirtual 89, 3) := by decide +kernel
theorem dX4_turnRound_8 : decode cX4_turnRound 8 = .ok (.ifCond .ne 5, 3) := by decide +kernel
theorem dX4_turnRound_11 : decode cX4_turnRound 11 = .ok (.iconst (-1), 1) := by decide +kernel
theorem dX4_turnRound_12 : decode cX4_turnRound 12 = .ok (.ireturn, 1) := by decide +kernel
theorem dX4_turnRound_13 : decode cX4_turnRound 13 = .ok (.aload_n 0, 1) := by decide +kernel
theorem dX4_turnRound_14 : decode cX4_turnRound 14 = .ok (.getfield 12, 3) := by decide +kernel
theorem dX4_turnRound_17 : decode cX4_turnRound 17 = .ok (.iload_n 1, 1) := by decide +kernel
theorem dX4_turnRound_18 : decode cX4_turnRound 18 = .ok (.invokevirtual 96, 3) := by decide +kernel
theorem dX4_turnRound_21 : decode cX4_turnRound 21 = .ok (.istore_n 2, 1) := by decide +kernel
theorem dX4_turnRound_22 : decode cX4_turnRound 22 = .ok (.iload_n 2, 1) := by decide +kernel
theorem dX4_turnRound_23 : decode cX4_turnRound 23 = .ok (.iload_n 1, 1) := by decide +kernel
theorem dX4_turnRound_24 : decode cX4_turnRound 24 = .ok (.if_icmp .ne 11, 3) := by decide +kernel
theorem dX4_turnRound_27 : decode cX4_turnRound 27 = .ok (.aload_n 0, 1) := by decide +kernel
theorem dX4_turnRound_28 : decode cX4_turnRound 28 = .ok (.bipush 7, 2) := by decide +kernel
theorem dX4_turnRound_30 : decode cX4_turnRound 30 = .ok (.iload_n 1, 1) := by decide +kernel
theorem dX4_turnRound_31 : decode cX4_turnRound 31 = .ok (.invokevirtual 257, 3) := by decide +kernel
theorem dX4_turnRound_34 : decode cX4_turnRound 34 = .ok (.ireturn, 1) := by decide +kernel
theorem dX4_turnRound_35 : decode cX4_turnRound 35 = .ok (.aload_n 0, 1) := by decide +kernel
theorem dX4_turnRound_36 : decode cX4_turnRound 36 = .ok (.getfield 12, 3) := by decide +kernel
theorem dX4_turnRound_39 : decode cX4_turnRound 39 = .ok (.iload_n 1, 1) := by decide +kernel
theorem dX4_turnRound_40 : decode cX4_turnRound 40 = .ok (.invokevirtual 267, 3) := by decide +kernel
theorem dX4_turnRound_43 : decode cX4_turnRound 43 = .ok (.aload_n 0, 1) := by decide +kernel
theorem dX4_turnRound_44 : decode cX4_turnRound 44 = .ok (.getfield 12, 3) := by decide +kernel
theorem dX4_turnRound_47 : decode cX4_turnRound 47 = .ok (.invokevirtual 276, 3) := by decide +kernel
theorem dX4_turnRound_50 : decode cX4_turnRound 50 = .ok (.iload_n 2, 1) := by decide +kernel
theorem dX4_turnRound_51 : decode cX4_turnRound 51 = .ok (.ireturn, 1) := by decide +kernel
theorem dX4_raisePart_0 : decode cX4_raisePart 0 = .ok (.aload_n 0, 1) := by decide +kernel
theorem dX4_raisePart_1 : decode cX4_raisePart 1 = .ok (.getfield 12, 3) := by decide +kernel
theorem dX4_raisePart_4 : decode cX4_raisePart 4 = .ok (.iload_n 1, 1) := by decide +kernel
theorem dX4_raisePart_5 : decode cX4_raisePart 5 = .ok (.invokevirtual 89, 3) := by decide +kernel
theorem dX4_raisePart_8 : decode cX4_raisePart 8 = .ok (.ifCond .ne 5, 3) := by decide +kernel
theorem dX4_raisePart_11 : decode cX4_raisePart 11 = .ok (.iconst (-1), 1) := by decide +kernel
theorem dX4_raisePart_12 : decode cX4_raisePart 12 = .ok (.ireturn, 1) := by decide +kernel
theorem dX4_raisePart_13 : decode cX4_raisePart 13 = .ok (.iload_n 2, 1) := by decide +kernel
theorem dX4_raisePart_14 : decode cX4_raisePart 14 = .ok (.bipush (-99), 2) := by decide +kernel
theorem dX4_raisePart_16 : decode cX4_raisePart 16 = .ok (.if_icmp .lt 9, 3) := by decide +kernel
theorem dX4_raisePart_19 : decode cX4_raisePart 19 = .ok (.iload_n 2, 1) := by decide +kernel
theorem dX4_raisePart_20 : decode cX4_raisePart 20 = .ok (.bipush 99, 2) := by decide +kernel
theorem dX4_raisePart_22 : decode cX4_raisePart 22 = .ok (.if_icmp .le 6, 3) := by decide +kernel
theorem dX4_raisePart_25 : decode cX4_raisePart 25 = .ok (.bipush (-2), 2) := by decide +kernel
theorem dX4_raisePart_27 : decode cX4_raisePart 27 = .ok (.ireturn, 1) := by decide +kernel
theorem dX4_raisePart_28 : decode cX4_raisePart 28 = .ok (.aload_n 0, 1) := by decide +kernel
theorem dX4_raisePart_29 : decode cX4_raisePart 29 = .ok (.getfield 12, 3) := by decide +kernel
theorem dX4_raisePart_32 : decode cX4_raisePart 32 = .ok (.iload_n 1, 1) := by decide +kernel
theorem dX4_raisePart_33 : decode cX4_raisePart 33 = .ok (.invokevirtual 135, 3) := by decide +kernel
theorem dX4_raisePart_36 : decode cX4_raisePart 36 = .ok (.istore_n 3, 1) := by decide +kernel
theorem dX4_raisePart_37 : decode cX4_raisePart 37 = .ok (.aload_n 0, 1) := by decide +kernel
theorem dX4_raisePart_38 : decode cX4_raisePart 38 = .ok (.getfield 12, 3) := by decide +kernel
theorem dX4_raisePart_41 : decode cX4_raisePart 41 = .ok (.iload_n 3, 1) := by decide +kernel
theorem dX4_raisePart_42 : decode cX4_raisePart 42 = .ok (.iload_n 2, 1) := by decide +kernel
theorem dX4_raisePart_43 : decode cX4_raisePart 43 = .ok (.invokevirtual 279, 3) := by decide +kernel
theorem dX4_raisePart_46 : decode cX4_raisePart 46 = .ok (.istore 4, 2) := by decide +kernel
theorem dX4_raisePart_48 : decode cX4_raisePart 48 = .ok (.iload 4, 2) := by decide +kernel
theorem dX4_raisePart_50 : decode cX4_raisePart 50 = .ok (.ifCond .le 8, 3) := by decide +kernel
theorem dX4_raisePart_53 : decode cX4_raisePart 53 = .ok (.iload 4, 2) := by decide +kernel
theorem dX4_raisePart_55 : decode cX4_raisePart 55 = .ok (.goto 13, 3) := by decide +kernel
theorem dX4_raisePart_58 : decode cX4_raisePart 58 = .ok (.aload_n 0, 1) := by decide +kernel
theorem dX4_raisePart_59 : decode cX4_raisePart 59 = .ok (.bipush 6, 2) := by decide +kernel
theorem dX4_raisePart_61 : decode cX4_raisePart 61 = .ok (.iload_n 3, 1) := by decide +kernel
theorem dX4_raisePart_62 : decode cX4_raisePart 62 = .ok (.invokestatic 115, 3) := by decide +kernel
theorem dX4_raisePart_65 : decode cX4_raisePart 65 = .ok (.invokevirtual 257, 3) := by decide +kernel
theorem dX4_raisePart_68 : decode cX4_raisePart 68 = .ok (.ireturn, 1) := by decide +kernel
theorem dX4_carryOut_0 : decode cX4_carryOut 0 = .ok (.aload_n 0, 1) := by decide +kernel
theorem dX4_carryOut_1 : decode cX4_carryOut 1 = .ok (.getfield 41, 3) := by decide +kernel
theorem dX4_carryOut_4 : decode cX4_carryOut 4 = .ok (.iload_n 1, 1) := by decide +kernel
theorem dX4_carryOut_5 : decode cX4_carryOut 5 = .ok (.invokevirtual 282, 3) := by decide +kernel
theorem dX4_carryOut_8 : decode cX4_carryOut 8 = .ok (.istore_n 2, 1) := by decide +kernel
theorem dX4_carryOut_9 : decode cX4_carryOut 9 = .ok (.aload_n 0, 1) := by decide +kernel
theorem dX4_carryOut_10 : decode cX4_carryOut 10 = .ok (.getfield 41, 3) := by decide +kernel
theorem dX4_carryOut_13 : decode cX4_carryOut 13 = .ok (.iload_n 1, 1) := by decide +kernel
theorem dX4_carryOut_14 : decode cX4_carryOut 14 = .ok (.invokevirtual 283, 3) := by decide +kernel
theorem dX4_carryOut_17 : decode cX4_carryOut 17 = .ok (.istore_n 3, 1) := by decide +kernel
theorem dX4_carryOut_18 : decode cX4_carryOut 18 = .ok (.aload_n 0, 1) := by decide +kernel
theorem dX4_carryOut_19 : decode cX4_carryOut 19 = .ok (.getfield 41, 3) := by decide +kernel
theorem dX4_carryOut_22 : decode cX4_carryOut 22 = .ok (.iload_n 1, 1) := by decide +kernel
theorem dX4_carryOut_23 : decode cX4_carryOut 23 = .ok (.invokevirtual 286, 3) := by decide +kernel
theorem dX4_carryOut_26 : decode cX4_carryOut 26 = .ok (.lookupswitch 98 #[(98, 58), (99, 78), (106, 71), (116, 85), (117, 91), (119, 64)], 58) := by decide +kernel
theorem dX4_carryOut_84 : decode cX4_carryOut 84 = .ok (.aload_n 0, 1) := by decide +kernel
theorem dX4_carryOut_85 : decode cX4_carryOut 85 = .ok (.iload_n 2, 1) := by decide +kernel
theorem dX4_carryOut_86 : decode cX4_carryOut 86 = .ok (.invokevirtual 53, 3) := by decide +kernel
theorem dX4_carryOut_89 : decode cX4_carryOut 89 = .ok (.ireturn, 1) := by decide +kernel
theorem dX4_carryOut_90 : decode cX4_carryOut 90 = .ok (.aload_n 0, 1) := by decide +kernel
theorem dX4_carryOut_91 : decode cX4_carryOut 91 = .ok (.iload_n 2, 1) := by decide +kernel
theorem dX4_carryOut_92 : decode cX4_carryOut 92 = .ok (.iload_n 3, 1) := by decide +kernel
theorem dX4_carryOut_93 : decode cX4_carryOut 93 = .ok (.invokevirtual 60, 3) := by decide +kernel
theorem dX4_carryOut_96 : decode cX4_carryOut 96 = .ok (.ireturn, 1) := by decide +kernel
theorem dX4_carryOut_97 : decode cX4_carryOut 97 = .ok (.aload_n 0, 1) := by decide +kernel
theorem dX4_carryOut_98 : decode cX4_carryOut 98 = .ok (.iload_n 2, 1) := by decide +kernel
theorem dX4_carryOut_99 : decode cX4_carryOut 99 = .ok (.iload_n 3, 1) := by decide +kernel
theorem dX4_carryOut_100 : decode cX4_carryOut 100 = .ok (.invokevirtual 64, 3) := by decide +kernel
theorem dX4_carryOut_103 : decode cX4_carryOut 103 = .ok (.ireturn, 1) := by decide +kernel
theorem dX4_carryOut_104 : decode cX4_carryOut 104 = .ok (.aload_n 0, 1) := by decide +kernel
theorem dX4_carryOut_105 : decode cX4_carryOut 105 = .ok (.iload_n 2, 1) := by decide +kernel
theorem dX4_carryOut_106 : decode cX4_carryOut 106 = .ok (.iload_n 3, 1) := by decide +kernel
theorem dX4_carryOut_107 : decode cX4_carryOut 107 = .ok (.invokevirtual 67, 3) := by decide +kernel
theorem dX4_carryOut_110 : decode cX4_carryOut 110 = .ok (.ireturn, 1) := by decide +kernel
theorem dX4_carryOut_111 : decode cX4_carryOut 111 = .ok (.aload_n 0, 1) := by decide +kernel
theorem dX4_carryOut_112 : decode cX4_carryOut 112 = .ok (.iload_n 2, 1) := by decide +kernel
theorem dX4_carryOut_113 : decode cX4_carryOut 113 = .ok (.invokevirtual 70, 3) := by decide +kernel
theorem dX4_carryOut_116 : decode cX4_carryOut 116 = .ok (.ireturn, 1) := by decide +kernel
theorem dX4_carryOut_117 : decode cX4_carryOut 117 = .ok (.aload_n 0, 1) := by decide +kernel
theorem dX4_carryOut_118 : decode cX4_carryOut 118 = .ok (.iload_n 2, 1) := by decide +kernel
theorem dX4_carryOut_119 : decode cX4_carryOut 119 = .ok (.iload_n 3, 1) := by decide +kernel
theorem dX4_carryOut_120 : decode cX4_carryOut 120 = .ok (.invokevirtual 73, 3) := by decide +kernel
theorem dX4_carryOut_123 : decode cX4_carryOut 123 = .ok (.ireturn, 1) := by decide +kernel
theorem dX4_carryOut_124 : decode cX4_carryOut 124 = .ok (.bipush (-2), 2) := by decide +kernel
theorem dX4_carryOut_126 : decode cX4_carryOut 126 = .ok (.ireturn, 1) := by decide +kernel
theorem dX4_refuse_0 : decode cX4_refuse 0 = .ok (.aload_n 0, 1) := by decide +kernel
theorem dX4_refuse_1 : decode cX4_refuse 1 = .ok (.iload_n 1, 1) := by decide +kernel
theorem dX4_refuse_2 : decode cX4_refuse 2 = .ok (.putfield 196, 3) := by decide +kernel
theorem dX4_refuse_5 : decode cX4_refuse 5 = .ok (.aload_n 0, 1) := by decide +kernel
theorem dX4_refuse_6 : decode cX4_refuse 6 = .ok (.iload_n 2, 1) := by decide +kernel
theorem dX4_refuse_7 : decode cX4_refuse 7 = .ok (.putfield 199, 3) := by decide +kernel
theorem dX4_refuse_10 : decode cX4_refuse 10 = .ok (.aload_n 0, 1) := by decide +kernel
theorem dX4_refuse_11 : decode cX4_refuse 11 = .ok (.aload_n 0, 1) := by decide +kernel
theorem dX4_refuse_12 : decode cX4_refuse 12 = .ok (.getfield 45, 3) := by decide +kernel
theorem dX4_refuse_15 : decode cX4_refuse 15 = .ok (.putfield 202, 3) := by decide +kernel
theorem dX4_refuse_18 : decode cX4_refuse 18 = .ok (.bipush (-3), 2) := by decide +kernel
theorem dX4_refuse_20 : decode cX4_refuse 20 = .ok (.ireturn, 1) := by decide +kernel
theorem dX4_settle_0 : decode cX4_settle 0 = .ok (.iload_n 1, 1) := by decide +kernel
theorem dX4_settle_1 : decode cX4_settle 1 = .ok (.ifCond .lt 10, 3) := by decide +kernel
theorem dX4_settle_4 : decode cX4_settle 4 = .ok (.aload_n 0, 1) := by decide +kernel
theorem dX4_settle_5 : decode cX4_settle 5 = .ok (.getfield 22, 3) := by decide +kernel
theorem dX4_settle_8 : decode cX4_settle 8 = .ok (.invokevirtual 289, 3) := by decide +kernel
theorem dX4_settle_11 : decode cX4_settle 11 = .ok (.iload_n 1, 1) := by decide +kernel
theorem dX4_settle_12 : decode cX4_settle 12 = .ok (.ireturn, 1) := by decide +kernel
theorem dX4_areThere_0 : decode cX4_areThere 0 = .ok (.aload_n 0, 1) := by decide +kernel
theorem dX4_areThere_1 : decode cX4_areThere 1 = .ok (.getfield 12, 3) := by decide +kernel
theorem dX4_areThere_4 : decode cX4_areThere 4 = .ok (.iload_n 1, 1) := by decide +kernel
theorem dX4_areThere_5 : decode cX4_areThere 5 = .ok (.invokevirtual 89, 3) := by decide +kernel
theorem dX4_areThere_8 : decode cX4_areThere 8 = .ok (.ifCond .eq 18, 3) := by decide +kernel
theorem dX4_areThere_11 : decode cX4_areThere 11 = .ok (.aload_n 0, 1) := by decide +kernel
theorem dX4_areThere_12 : decode cX4_areThere 12 = .ok (.getfield 12, 3) := by decide +kernel
theorem dX4_areThere_15 : decode cX4_areThere 15 = .ok (.iload_n 2, 1) := by decide +kernel
theorem dX4_areThere_16 : decode cX4_areThere 16 = .ok (.invokevirtual 89, 3) := by decide +kernel
theorem dX4_areThere_19 : decode cX4_areThere 19 = .ok (.ifCond .eq 7, 3) := by decide +kernel
theorem dX4_areThere_22 : decode cX4_areThere 22 = .ok (.iconst 1, 1) := by decide +kernel
theorem dX4_areThere_23 : decode cX4_areThere 23 = .ok (.goto 4, 3) := by decide +kernel
theorem dX4_areThere_26 : decode cX4_areThere 26 = .ok (.iconst 0, 1) := by decide +kernel
theorem dX4_areThere_27 : decode cX4_areThere 27 = .ok (.ireturn, 1) := by decide +kernel
theorem dX4_bit_0 : decode cX4_bit 0 = .ok (.iload_n 0, 1) := by decide +kernel
theorem dX4_bit_1 : decode cX4_bit 1 = .ok (.ifCond .lt 9, 3) := by decide +kernel
theorem dX4_bit_4 : decode cX4_bit 4 = .ok (.iload_n 0, 1) := by decide +kernel
theorem dX4_bit_5 : decode cX4_bit 5 = .ok (.bipush 12, 2) := by decide +kernel
theorem dX4_bit_7 : decode cX4_bit 7 = .ok (.if_icmp .lt 7, 3) := by decide +kernel
theorem dX4_bit_10 : decode cX4_bit 10 = .ok (.iconst 0, 1) := by decide +kernel
theorem dX4_bit_11 : decode cX4_bit 11 = .ok (.goto 6, 3) := by decide +kernel
theorem dX4_bit_14 : decode cX4_bit 14 = .ok (.iconst 1, 1) := by decide +kernel
theorem dX4_bit_15 : decode cX4_bit 15 = .ok (.iload_n 0, 1) := by decide +kernel
theorem dX4_bit_16 : decode cX4_bit 16 = .ok (.ishl, 1) := by decide +kernel
theorem dX4_bit_17 : decode cX4_bit 17 = .ok (.ireturn, 1) := by decide +kernel
theorem dX4_lowestIn_0 : decode cX4_lowestIn 0 = .ok (.iload_n 0, 1) := by decide +kernel
theorem dX4_lowestIn_1 : decode cX4_lowestIn 1 = .ok (.iload_n 0, 1) := by decide +kernel
theorem dX4_lowestIn_2 : decode cX4_lowestIn 2 = .ok (.ineg, 1) := by decide +kernel
theorem dX4_lowestIn_3 : decode cX4_lowestIn 3 = .ok (.iand, 1) := by decide +kernel
theorem dX4_lowestIn_4 : decode cX4_lowestIn 4 = .ok (.iconst 1, 1) := by decide +kernel
theorem dX4_lowestIn_5 : decode cX4_lowestIn 5 = .ok (.isub, 1) := by decide +kernel
theorem dX4_lowestIn_6 : decode cX4_lowestIn 6 = .ok (.invokestatic 115, 3) := by decide +kernel
theorem dX4_lowestIn_9 : decode cX4_lowestIn 9 = .ok (.ireturn, 1) := by decide +kernel
theorem dX4_bitsOf_0 : decode cX4_bitsOf 0 = .ok (.fload_n 0, 1) := by decide +kernel
theorem dX4_bitsOf_1 : decode cX4_bitsOf 1 = .ok (.fconst 0, 1) := by decide +kernel
theorem dX4_bitsOf_2 : decode cX4_bitsOf 2 = .ok (.fcmp .l, 1) := by decide +kernel
theorem dX4_bitsOf_3 : decode cX4_bitsOf 3 = .ok (.ifCond .gt 5, 3) := by decide +kernel
theorem dX4_bitsOf_6 : decode cX4_bitsOf 6 = .ok (.iconst 0, 1) := by decide +kernel
theorem dX4_bitsOf_7 : decode cX4_bitsOf 7 = .ok (.ireturn, 1) := by decide +kernel
theorem dX4_bitsOf_8 : decode cX4_bitsOf 8 = .ok (.fload_n 0, 1) := by decide +kernel
theorem dX4_bitsOf_9 : decode cX4_bitsOf 9 = .ok (.fstore_n 1, 1) := by decide +kernel
theorem dX4_bitsOf_10 : decode cX4_bitsOf 10 = .ok (.bipush 127, 2) := by decide +kernel
theorem dX4_bitsOf_12 : decode cX4_bitsOf 12 = .ok (.istore_n 2, 1) := by decide +kernel
theorem dX4_bitsOf_13 : decode cX4_bitsOf 13 = .ok (.iconst 0, 1) := by decide +kernel
theorem dX4_bitsOf_14 : decode cX4_bitsOf 14 = .ok (.istore_n 3, 1) := by decide +kernel
theorem dX4_bitsOf_15 : decode cX4_bitsOf 15 = .ok (.iload_n 3, 1) := by decide +kernel
theorem dX4_bitsOf_16 : decode cX4_bitsOf 16 = .ok (.bipush 127, 2) := by decide +kernel
theorem dX4_bitsOf_18 : decode cX4_bitsOf 18 = .ok (.if_icmp .ge 22, 3) := by decide +kernel
theorem dX4_bitsOf_21 : decode cX4_bitsOf 21 = .ok (.fload_n 1, 1) := by decide +kernel
theorem dX4_bitsOf_22 : decode cX4_bitsOf 22 = .ok (.fconst 2, 1) := by decide +kernel
theorem dX4_bitsOf_23 : decode cX4_bitsOf 23 = .ok (.fcmp .l, 1) := by decide +kernel
theorem dX4_bitsOf_24 : decode cX4_bitsOf 24 = .ok (.ifCond .lt 16, 3) := by decide +kernel
theorem dX4_bitsOf_27 : decode cX4_bitsOf 27 = .ok (.fload_n 1, 1) := by decide +kernel
theorem dX4_bitsOf_28 : decode cX4_bitsOf 28 = .ok (.fconst 2, 1) := by decide +kernel
theorem dX4_bitsOf_29 : decode cX4_bitsOf 29 = .ok (.fdiv, 1) := by decide +kernel
theorem dX4_bitsOf_30 : decode cX4_bitsOf 30 = .ok (.fstore_n 1, 1) := by decide +kernel
theorem dX4_bitsOf_31 : decode cX4_bitsOf 31 = .ok (.iinc 2 1, 3) := by decide +kernel
theorem dX4_bitsOf_34 : decode cX4_bitsOf 34 = .ok (.iinc 3 1, 3) := by decide +kernel
theorem dX4_bitsOf_37 : decode cX4_bitsOf 37 = .ok (.goto (-22), 3) := by decide +kernel
theorem dX4_bitsOf_40 : decode cX4_bitsOf 40 = .ok (.iconst 0, 1) := by decide +kernel
theorem dX4_bitsOf_41 : decode cX4_bitsOf 41 = .ok (.istore_n 3, 1) := by decide +kernel
theorem dX4_bitsOf_42 : decode cX4_bitsOf 42 = .ok (.iload_n 3, 1) := by decide +kernel
theorem dX4_bitsOf_43 : decode cX4_bitsOf 43 = .ok (.bipush 126, 2) := by decide +kernel
theorem dX4_bitsOf_45 : decode cX4_bitsOf 45 = .ok (.if_icmp .ge 22, 3) := by decide +kernel
theorem dX4_bitsOf_48 : decode cX4_bitsOf 48 = .ok (.fload_n 1, 1) := by decide +kernel
theorem dX4_bitsOf_49 : decode cX4_bitsOf 49 = .ok (.fconst 1, 1) := by decide +kernel
theorem dX4_bitsOf_50 : decode cX4_bitsOf 50 = .ok (.fcmp .g, 1) := by decide +kernel
theorem dX4_bitsOf_51 : decode cX4_bitsOf 51 = .ok (.ifCond .ge 16, 3) := by decide +kernel
theorem dX4_bitsOf_54 : decode cX4_bitsOf 54 = .ok (.fload_n 1, 1) := by decide +kernel
theorem dX4_bitsOf_55 : decode cX4_bitsOf 55 = .ok (.fconst 2, 1) := by decide +kernel
theorem dX4_bitsOf_56 : decode cX4_bitsOf 56 = .ok (.fmul, 1) := by decide +kernel
theorem dX4_bitsOf_57 : decode cX4_bitsOf 57 = .ok (.fstore_n 1, 1) := by decide +kernel
theorem dX4_bitsOf_58 : decode cX4_bitsOf 58 = .ok (.iinc 2 (-1), 3) := by decide +kernel
theorem dX4_bitsOf_61 : decode cX4_bitsOf 61 = .ok (.iinc 3 1, 3) := by decide +kernel
theorem dX4_bitsOf_64 : decode cX4_bitsOf 64 = .ok (.goto (-22), 3) := by decide +kernel
theorem dX4_bitsOf_67 : decode cX4_bitsOf 67 = .ok (.iload_n 2, 1) := by decide +kernel
theorem dX4_bitsOf_68 : decode cX4_bitsOf 68 = .ok (.bipush 23, 2) := by decide +kernel
theorem dX4_bitsOf_70 : decode cX4_bitsOf 70 = .ok (.ishl, 1) := by decide +kernel
theorem dX4_bitsOf_71 : decode cX4_bitsOf 71 = .ok (.fload_n 1, 1) := by decide +kernel
theorem dX4_bitsOf_72 : decode cX4_bitsOf 72 = .ok (.fconst 1, 1) := by decide +kernel
theorem dX4_bitsOf_73 : decode cX4_bitsOf 73 = .ok (.fsub, 1) := by decide +kernel
theorem dX4_bitsOf_74 : decode cX4_bitsOf 74 = .ok (.ldc_w 292, 3) := by decide +kernel
theorem dX4_bitsOf_77 : decode cX4_bitsOf 77 = .ok (.fmul, 1) := by decide +kernel
theorem dX4_bitsOf_78 : decode cX4_bitsOf 78 = .ok (.f2i, 1) := by decide +kernel
theorem dX4_bitsOf_79 : decode cX4_bitsOf 79 = .ok (.ior, 1) := by decide +kernel
theorem dX4_bitsOf_80 : decode cX4_bitsOf 80 = .ok (.ireturn, 1) := by decide +kernel
theorem dJxf58ca_isNaN_12338_0 : decode cJxf58ca_isNaN_12338 0 = .ok (.fload_n 0, 1) := by decide +kernel
theorem dJxf58ca_isNaN_12338_1 : decode cJxf58ca_isNaN_12338 1 = .ok (.fload_n 0, 1) := by decide +kernel
theorem dJxf58ca_isNaN_12338_2 : decode cJxf58ca_isNaN_12338 2 = .ok (.fcmp .l, 1) := by decide +kernel
theorem dJxf58ca_isNaN_12338_3 : decode cJxf58ca_isNaN_12338 3 = .ok (.ifCond .eq 7, 3) := by decide +kernel
theorem dJxf58ca_isNaN_12338_6 : decode cJxf58ca_isNaN_12338 6 = .ok (.iconst 1, 1) := by decide +kernel
theorem dJxf58ca_isNaN_12338_7 : decode cJxf58ca_isNaN_12338 7 = .ok (.goto 4, 3) := by decide +kernel
theorem dJxf58ca_isNaN_12338_10 : decode cJxf58ca_isNaN_12338 10 = .ok (.iconst 0, 1) := by decide +kernel
theorem dJxf58ca_isNaN_12338_11 : decode cJxf58ca_isNaN_12338 11 = .ok (.ireturn, 1) := by decide +kernel
theorem dJxf58ca_floatToIntBits_5c35a_0 : decode cJxf58ca_floatToIntBits_5c35a 0 = .ok (.fload_n 0, 1) := by decide +kernel
theorem dJxf58ca_floatToIntBits_5c35a_1 : decode cJxf58ca_floatToIntBits_5c35a 1 = .ok (.invokestatic 59, 3) := by decide +kernel
theorem dJxf58ca_floatToIntBits_5c35a_4 : decode cJxf58ca_floatToIntBits_5c35a 4 = .ok (.ifCond .ne 8, 3) := by decide +kernel
theorem dJxf58ca_floatToIntBits_5c35a_7 : decode cJxf58ca_floatToIntBits_5c35a 7 = .ok (.fload_n 0, 1) := by decide +kernel
theorem dJxf58ca_floatToIntBits_5c35a_8 : decode cJxf58ca_floatToIntBits_5c35a 8 = .ok (.invokestatic 74, 3) := by decide +kernel
theorem dJxf58ca_floatToIntBits_5c35a_11 : decode cJxf58ca_floatToIntBits_5c35a 11 = .ok (.ireturn, 1) := by decide +kernel
theorem dJxf58ca_floatToIntBits_5c35a_12 : decode cJxf58ca_floatToIntBits_5c35a 12 = .ok (.ldc 77, 2) := by decide +kernel
theorem dJxf58ca_floatToIntBits_5c35a_14 : decode cJxf58ca_floatToIntBits_5c35a 14 = .ok (.ireturn, 1) := by decide +kernel
theorem dJ6_bitCount_0f7a4_0 : decode cJ6_bitCount_0f7a4 0 = .ok (.iload_n 0, 1) := by decide +kernel
theorem dJ6_bitCount_0f7a4_1 : decode cJ6_bitCount_0f7a4 1 = .ok (.iload_n 0, 1) := by decide +kernel
theorem dJ6_bitCount_0f7a4_2 : decode cJ6_bitCount_0f7a4 2 = .ok (.iconst 1, 1) := by decide +kernel
theorem dJ6_bitCount_0f7a4_3 : decode cJ6_bitCount_0f7a4 3 = .ok (.iushr, 1) := by decide +kernel
theorem dJ6_bitCount_0f7a4_4 : decode cJ6_bitCount_0f7a4 4 = .ok (.ldc_w 265, 3) := by decide +kernel
theorem dJ6_bitCount_0f7a4_7 : decode cJ6_bitCount_0f7a4 7 = .ok (.iand, 1) := by decide +kernel
theorem dJ6_bitCount_0f7a4_8 : decode cJ6_bitCount_0f7a4 8 = .ok (.isub, 1) := by decide +kernel
theorem dJ6_bitCount_0f7a4_9 : decode cJ6_bitCount_0f7a4 9 = .ok (.istore_n 0, 1) := by decide +kernel
theorem dJ6_bitCount_0f7a4_10 : decode cJ6_bitCount_0f7a4 10 = .ok (.iload_n 0, 1) := by decide +kernel
theorem dJ6_bitCount_0f7a4_11 : decode cJ6_bitCount_0f7a4 11 = .ok (.ldc_w 266, 3) := by decide +kernel
theorem dJ6_bitCount_0f7a4_14 : decode cJ6_bitCount_0f7a4 14 = .ok (.iand, 1) := by decide +kernel
theorem dJ6_bitCount_0f7a4_15 : decode cJ6_bitCount_0f7a4 15 = .ok (.iload_n 0, 1) := by decide +kernel
theorem dJ6_bitCount_0f7a4_16 : decode cJ6_bitCount_0f7a4 16 = .ok (.iconst 2, 1) := by decide +kernel
theorem dJ6_bitCount_0f7a4_17 : decode cJ6_bitCount_0f7a4 17 = .ok (.iushr, 1) := by decide +kernel
theorem dJ6_bitCount_0f7a4_18 : decode cJ6_bitCount_0f7a4 18 = .ok (.ldc_w 266, 3) := by decide +kernel
theorem dJ6_bitCount_0f7a4_21 : decode cJ6_bitCount_0f7a4 21 = .ok (.iand, 1) := by decide +kernel
theorem dJ6_bitCount_0f7a4_22 : decode cJ6_bitCount_0f7a4 22 = .ok (.iadd, 1) := by decide +kernel
theorem dJ6_bitCount_0f7a4_23 : decode cJ6_bitCount_0f7a4 23 = .ok (.istore_n 0, 1) := by decide +kernel
theorem dJ6_bitCount_0f7a4_24 : decode cJ6_bitCount_0f7a4 24 = .ok (.iload_n 0, 1) := by decide +kernel
theorem dJ6_bitCount_0f7a4_25 : decode cJ6_bitCount_0f7a4 25 = .ok (.iload_n 0, 1) := by decide +kernel
theorem dJ6_bitCount_0f7a4_26 : decode cJ6_bitCount_0f7a4 26 = .ok (.iconst 4, 1) := by decide +kernel
theorem dJ6_bitCount_0f7a4_27 : decode cJ6_bitCount_0f7a4 27 = .ok (.iushr, 1) := by decide +kernel
theorem dJ6_bitCount_0f7a4_28 : decode cJ6_bitCount_0f7a4 28 = .ok (.iadd, 1) := by decide +kernel
theorem dJ6_bitCount_0f7a4_29 : decode cJ6_bitCount_0f7a4 29 = .ok (.ldc_w 267, 3) := by decide +kernel
theorem dJ6_bitCount_0f7a4_32 : decode cJ6_bitCount_0f7a4 32 = .ok (.iand, 1) := by decide +kernel
theorem dJ6_bitCount_0f7a4_33 : decode cJ6_bitCount_0f7a4 33 = .ok (.istore_n 0, 1) := by decide +kernel
theorem dJ6_bitCount_0f7a4_34 : decode cJ6_bitCount_0f7a4 34 = .ok (.iload_n 0, 1) := by decide +kernel
theorem dJ6_bitCount_0f7a4_35 : decode cJ6_bitCount_0f7a4 35 = .ok (.iload_n 0, 1) := by decide +kernel
theorem dJ6_bitCount_0f7a4_36 : decode cJ6_bitCount_0f7a4 36 = .ok (.bipush 8, 2) := by decide +kernel
theorem dJ6_bitCount_0f7a4_38 : decode cJ6_bitCount_0f7a4 38 = .ok (.iushr, 1) := by decide +kernel
theorem dJ6_bitCount_0f7a4_39 : decode cJ6_bitCount_0f7a4 39 = .ok (.iadd, 1) := by decide +kernel
theorem dJ6_bitCount_0f7a4_40 : decode cJ6_bitCount_0f7a4 40 = .ok (.istore_n 0, 1) := by decide +kernel
theorem dJ6_bitCount_0f7a4_41 : decode cJ6_bitCount_0f7a4 41 = .ok (.iload_n 0, 1) := by decide +kernel
theorem dJ6_bitCount_0f7a4_42 : decode cJ6_bitCount_0f7a4 42 = .ok (.iload_n 0, 1) := by decide +kernel
theorem dJ6_bitCount_0f7a4_43 : decode cJ6_bitCount_0f7a4 43 = .ok (.bipush 16, 2) := by decide +kernel
theorem dJ6_bitCount_0f7a4_45 : decode cJ6_bitCount_0f7a4 45 = .ok (.iushr, 1) := by decide +kernel
theorem dJ6_bitCount_0f7a4_46 : decode cJ6_bitCount_0f7a4 46 = .ok (.iadd, 1) := by decide +kernel
theorem dJ6_bitCount_0f7a4_47 : decode cJ6_bitCount_0f7a4 47 = .ok (.istore_n 0, 1) := by decide +kernel
theorem dJ6_bitCount_0f7a4_48 : decode cJ6_bitCount_0f7a4 48 = .ok (.iload_n 0, 1) := by decide +kernel
theorem dJ6_bitCount_0f7a4_49 : decode cJ6_bitCount_0f7a4 49 = .ok (.bipush 63, 2) := by decide +kernel
theorem dJ6_bitCount_0f7a4_51 : decode cJ6_bitCount_0f7a4 51 = .ok (.iand, 1) := by decide +kernel
theorem dJ6_bitCount_0f7a4_52 : decode cJ6_bitCount_0f7a4 52 = .ok (.ireturn, 1) := by decide +kernel
theorem dJ9_abs_0f7a4_0 : decode cJ9_abs_0f7a4 0 = .ok (.iload_n 0, 1) := by decide +kernel
theorem dJ9_abs_0f7a4_1 : decode cJ9_abs_0f7a4 1 = .ok (.ifCond .ge 8, 3) := by decide +kernel
theorem dJ9_abs_0f7a4_4 : decode cJ9_abs_0f7a4 4 = .ok (.iload_n 0, 1) := by decide +kernel
theorem dJ9_abs_0f7a4_5 : decode cJ9_abs_0f7a4 5 = .ok (.ineg, 1) := by decide +kernel
theorem dJ9_abs_0f7a4_6 : decode cJ9_abs_0f7a4 6 = .ok (.goto 4, 3) := by decide +kernel
theorem dJ9_abs_0f7a4_9 : decode cJ9_abs_0f7a4 9 = .ok (.iload_n 0, 1) := by decide +kernel
theorem dJ9_abs_0f7a4_10 : decode cJ9_abs_0f7a4 10 = .ok (.ireturn, 1) := by decide +kernel
theorem dJ9_max_7cf53_0 : decode cJ9_max_7cf53 0 = .ok (.iload_n 0, 1) := by decide +kernel
theorem dJ9_max_7cf53_1 : decode cJ9_max_7cf53 1 = .ok (.iload_n 1, 1) := by decide +kernel
theorem dJ9_max_7cf53_2 : decode cJ9_max_7cf53 2 = .ok (.if_icmp .lt 7, 3) := by decide +kernel
theorem dJ9_max_7cf53_5 : decode cJ9_max_7cf53 5 = .ok (.iload_n 0, 1) := by decide +kernel
theorem dJ9_max_7cf53_6 : decode cJ9_max_7cf53 6 = .ok (.goto 4, 3) := by decide +kernel
theorem dJ9_max_7cf53_9 : decode cJ9_max_7cf53 9 = .ok (.iload_n 1, 1) := by decide +kernel
theorem dJ9_max_7cf53_10 : decode cJ9_max_7cf53 10 = .ok (.ireturn, 1) := by decide +kernel
theorem dJ9_min_7cf53_0 : decode cJ9_min_7cf53 0 = .ok (.iload_n 0, 1) := by decide +kernel
theorem dJ9_min_7cf53_1 : decode cJ9_min_7cf53 1 = .ok (.iload_n 1, 1) := by decide +kernel
theorem dJ9_min_7cf53_2 : decode cJ9_min_7cf53 2 = .ok (.if_icmp .gt 7, 3) := by decide +kernel
theorem dJ9_min_7cf53_5 : decode cJ9_min_7cf53 5 = .ok (.iload_n 0, 1) := by decide +kernel
theorem dJ9_min_7cf53_6 : decode cJ9_min_7cf53 6 = .ok (.goto 4, 3) := by decide +kernel
theorem dJ9_min_7cf53_9 : decode cJ9_min_7cf53 9 = .ok (.iload_n 1, 1) := by decide +kernel
theorem dJ9_min_7cf53_10 : decode cJ9_min_7cf53 10 = .ok (.ireturn, 1) := by decide +kernel
theorem dJ0_length_8abf5_0 : decode cJ0_length_8abf5 0 = .ok (.aload_n 0, 1) := by decide +kernel
theorem dJ0_length_8abf5_1 : decode cJ0_length_8abf5 1 = .ok (.getfield 9, 3) := by decide +kernel
theorem dJ0_length_8abf5_4 : decode cJ0_length_8abf5 4 = .ok (.arraylength, 1) := by decide +kernel
theorem dJ0_length_8abf5_5 : decode cJ0_length_8abf5 5 = .ok (.aload_n 0, 1) := by decide +kernel
theorem dJ0_length_8abf5_6 : decode cJ0_length_8abf5 6 = .ok (.invokevirtual 335, 3) := by decide +kernel
theorem dJ0_length_8abf5_9 : decode cJ0_length_8abf5 9 = .ok (.ishr, 1) := by decide +kernel
theorem dJ0_length_8abf5_10 : decode cJ0_length_8abf5 10 = .ok (.ireturn, 1) := by decide +kernel
theorem dJ0_charAt_5068e_0 : decode cJ0_charAt_5068e 0 = .ok (.aload_n 0, 1) := by decide +kernel
theorem dJ0_charAt_5068e_1 : decode cJ0_charAt_5068e 1 = .ok (.invokevirtual 492, 3) := by decide +kernel
theorem dJ0_charAt_5068e_4 : decode cJ0_charAt_5068e 4 = .ok (.ifCond .eq 12, 3) := by decide +kernel
theorem dJ0_charAt_5068e_7 : decode cJ0_charAt_5068e 7 = .ok (.aload_n 0, 1) := by decide +kernel
theorem dJ0_charAt_5068e_8 : decode cJ0_charAt_5068e 8 = .ok (.getfield 9, 3) := by decide +kernel
theorem dJ0_charAt_5068e_11 : decode cJ0_charAt_5068e 11 = .ok (.iload_n 1, 1) := by decide +kernel
theorem dJ0_charAt_5068e_12 : decode cJ0_charAt_5068e 12 = .ok (.invokestatic 495, 3) := by decide +kernel
theorem dJ0_charAt_5068e_15 : decode cJ0_charAt_5068e 15 = .ok (.ireturn, 1) := by decide +kernel
theorem dJ0_charAt_5068e_16 : decode cJ0_charAt_5068e 16 = .ok (.aload_n 0, 1) := by decide +kernel
theorem dJ0_charAt_5068e_17 : decode cJ0_charAt_5068e 17 = .ok (.getfield 9, 3) := by decide +kernel
theorem dJ0_charAt_5068e_20 : decode cJ0_charAt_5068e 20 = .ok (.iload_n 1, 1) := by decide +kernel
theorem dJ0_charAt_5068e_21 : decode cJ0_charAt_5068e 21 = .ok (.invokestatic 498, 3) := by decide +kernel
theorem dJ0_charAt_5068e_24 : decode cJ0_charAt_5068e 24 = .ok (.ireturn, 1) := by decide +kernel
theorem dJ0_coder_7d493_0 : decode cJ0_coder_7d493 0 = .ok (.getstatic 38, 3) := by decide +kernel
theorem dJ0_coder_7d493_3 : decode cJ0_coder_7d493 3 = .ok (.ifCond .eq 10, 3) := by decide +kernel
theorem dJ0_coder_7d493_6 : decode cJ0_coder_7d493 6 = .ok (.aload_n 0, 1) := by decide +kernel
theorem dJ0_coder_7d493_7 : decode cJ0_coder_7d493 7 = .ok (.getfield 15, 3) := by decide +kernel
theorem dJ0_coder_7d493_10 : decode cJ0_coder_7d493 10 = .ok (.goto 4, 3) := by decide +kernel
theorem dJ0_coder_7d493_13 : decode cJ0_coder_7d493 13 = .ok (.iconst 1, 1) := by decide +kernel
theorem dJ0_coder_7d493_14 : decode cJ0_coder_7d493 14 = .ok (.ireturn, 1) := by decide +kernel
theorem dJ0_isLatin1_aae02_0 : decode cJ0_isLatin1_aae02 0 = .ok (.getstatic 38, 3) := by decide +kernel
theorem dJ0_isLatin1_aae02_3 : decode cJ0_isLatin1_aae02 3 = .ok (.ifCond .eq 14, 3) := by decide +kernel
theorem dJ0_isLatin1_aae02_6 : decode cJ0_isLatin1_aae02 6 = .ok (.aload_n 0, 1) := by decide +kernel
theorem dJ0_isLatin1_aae02_7 : decode cJ0_isLatin1_aae02 7 = .ok (.getfield 15, 3) := by decide +kernel
theorem dJ0_isLatin1_aae02_10 : decode cJ0_isLatin1_aae02 10 = .ok (.ifCond .ne 7, 3) := by decide +kernel
theorem dJ0_isLatin1_aae02_13 : decode cJ0_isLatin1_aae02 13 = .ok (.iconst 1, 1) := by decide +kernel
theorem dJ0_isLatin1_aae02_14 : decode cJ0_isLatin1_aae02 14 = .ok (.goto 4, 3) := by decide +kernel
theorem dJ0_isLatin1_aae02_17 : decode cJ0_isLatin1_aae02 17 = .ok (.iconst 0, 1) := by decide +kernel
theorem dJ0_isLatin1_aae02_18 : decode cJ0_isLatin1_aae02 18 = .ok (.ireturn, 1) := by decide +kernel
theorem dJ0_checkIndex_df160_0 : decode cJ0_checkIndex_df160 0 = .ok (.iload_n 0, 1) := by decide +kernel
theorem dJ0_checkIndex_df160_1 : decode cJ0_checkIndex_df160 1 = .ok (.iload_n 1, 1) := by decide +kernel
theorem dJ0_checkIndex_df160_2 : decode cJ0_checkIndex_df160 2 = .ok (.getstatic 1053, 3) := by decide +kernel
theorem dJ0_checkIndex_df160_5 : decode cJ0_checkIndex_df160 5 = .ok (.invokestatic 1059, 3) := by decide +kernel
theorem dJ0_checkIndex_df160_8 : decode cJ0_checkIndex_df160 8 = .ok (.pop, 1) := by decide +kernel
theorem dJ0_checkIndex_df160_9 : decode cJ0_checkIndex_df160 9 = .ok (.return_, 1) := by decide +kernel
theorem dJ1_charAt_3b067_0 : decode cJ1_charAt_3b067 0 = .ok (.iload_n 1, 1) := by decide +kernel
theorem dJ1_charAt_3b067_1 : decode cJ1_charAt_3b067 1 = .ok (.aload_n 0, 1) := by decide +kernel
theorem dJ1_charAt_3b067_2 : decode cJ1_charAt_3b067 2 = .ok (.arraylength, 1) := by decide +kernel
theorem dJ1_charAt_3b067_3 : decode cJ1_charAt_3b067 3 = .ok (.invokestatic 9, 3) := by decide +kernel
theorem dJ1_charAt_3b067_6 : decode cJ1_charAt_3b067 6 = .ok (.aload_n 0, 1) := by decide +kernel
theorem dJ1_charAt_3b067_7 : decode cJ1_charAt_3b067 7 = .ok (.iload_n 1, 1) := by decide +kernel
theorem dJ1_charAt_3b067_8 : decode cJ1_charAt_3b067 8 = .ok (.baload, 1) := by decide +kernel
theorem dJ1_charAt_3b067_9 : decode cJ1_charAt_3b067 9 = .ok (.sipush 255, 3) := by decide +kernel
theorem dJ1_charAt_3b067_12 : decode cJ1_charAt_3b067 12 = .ok (.iand, 1) := by decide +kernel
theorem dJ1_charAt_3b067_13 : decode cJ1_charAt_3b067 13 = .ok (.i2c, 1) := by decide +kernel
theorem dJ1_charAt_3b067_14 : decode cJ1_charAt_3b067 14 = .ok (.ireturn, 1) := by decide +kernel
theorem dJ2_getChar_3b067_0 : decode cJ2_getChar_3b067 0 = .ok (.getstatic 44, 3) := by decide +kernel
theorem dJ2_getChar_3b067_3 : decode cJ2_getChar_3b067 3 = .ok (.ifCond .ne 25, 3) := by decide +kernel
theorem dJ2_getChar_3b067_6 : decode cJ2_getChar_3b067 6 = .ok (.iload_n 1, 1) := by decide +kernel
theorem dJ2_getChar_3b067_7 : decode cJ2_getChar_3b067 7 = .ok (.ifCond .lt 11, 3) := by decide +kernel
theorem dJ2_getChar_3b067_10 : decode cJ2_getChar_3b067 10 = .ok (.iload_n 1, 1) := by decide +kernel
theorem dJ2_getChar_3b067_11 : decode cJ2_getChar_3b067 11 = .ok (.aload_n 0, 1) := by decide +kernel
theorem dJ2_getChar_3b067_12 : decode cJ2_getChar_3b067 12 = .ok (.invokestatic 48, 3) := by decide +kernel
theorem dJ2_getChar_3b067_15 : decode cJ2_getChar_3b067 15 = .ok (.if_icmp .lt 13, 3) := by decide +kernel
theorem dJ2_getChar_3b067_18 : decode cJ2_getChar_3b067 18 = .ok (.new 52, 3) := by decide +kernel
theorem dJ2_getChar_3b067_21 : decode cJ2_getChar_3b067 21 = .ok (.dup, 1) := by decide +kernel
theorem dJ2_getChar_3b067_22 : decode cJ2_getChar_3b067 22 = .ok (.ldc 54, 2) := by decide +kernel
theorem dJ2_getChar_3b067_24 : decode cJ2_getChar_3b067 24 = .ok (.invokespecial 56, 3) := by decide +kernel
theorem dJ2_getChar_3b067_27 : decode cJ2_getChar_3b067 27 = .ok (.athrow, 1) := by decide +kernel
theorem dJ2_getChar_3b067_28 : decode cJ2_getChar_3b067 28 = .ok (.iload_n 1, 1) := by decide +kernel
theorem dJ2_getChar_3b067_29 : decode cJ2_getChar_3b067 29 = .ok (.iconst 1, 1) := by decide +kernel
theorem dJ2_getChar_3b067_30 : decode cJ2_getChar_3b067 30 = .ok (.ishl, 1) := by decide +kernel
theorem dJ2_getChar_3b067_31 : decode cJ2_getChar_3b067 31 = .ok (.istore_n 1, 1) := by decide +kernel
theorem dJ2_getChar_3b067_32 : decode cJ2_getChar_3b067 32 = .ok (.aload_n 0, 1) := by decide +kernel
theorem dJ2_getChar_3b067_33 : decode cJ2_getChar_3b067 33 = .ok (.iload_n 1, 1) := by decide +kernel
theorem dJ2_getChar_3b067_34 : decode cJ2_getChar_3b067 34 = .ok (.iinc 1 1, 3) := by decide +kernel
theorem dJ2_getChar_3b067_37 : decode cJ2_getChar_3b067 37 = .ok (.baload, 1) := by decide +kernel
theorem dJ2_getChar_3b067_38 : decode cJ2_getChar_3b067 38 = .ok (.sipush 255, 3) := by decide +kernel
theorem dJ2_getChar_3b067_41 : decode cJ2_getChar_3b067 41 = .ok (.iand, 1) := by decide +kernel
theorem dJ2_getChar_3b067_42 : decode cJ2_getChar_3b067 42 = .ok (.getstatic 59, 3) := by decide +kernel
theorem dJ2_getChar_3b067_45 : decode cJ2_getChar_3b067 45 = .ok (.ishl, 1) := by decide +kernel
theorem dJ2_getChar_3b067_46 : decode cJ2_getChar_3b067 46 = .ok (.aload_n 0, 1) := by decide +kernel
theorem dJ2_getChar_3b067_47 : decode cJ2_getChar_3b067 47 = .ok (.iload_n 1, 1) := by decide +kernel
theorem dJ2_getChar_3b067_48 : decode cJ2_getChar_3b067 48 = .ok (.baload, 1) := by decide +kernel
theorem dJ2_getChar_3b067_49 : decode cJ2_getChar_3b067 49 = .ok (.sipush 255, 3) := by decide +kernel
theorem dJ2_getChar_3b067_52 : decode cJ2_getChar_3b067 52 = .ok (.iand, 1) := by decide +kernel
theorem dJ2_getChar_3b067_53 : decode cJ2_getChar_3b067 53 = .ok (.getstatic 63, 3) := by decide +kernel
theorem dJ2_getChar_3b067_56 : decode cJ2_getChar_3b067 56 = .ok (.ishl, 1) := by decide +kernel
theorem dJ2_getChar_3b067_57 : decode cJ2_getChar_3b067 57 = .ok (.ior, 1) := by decide +kernel
theorem dJ2_getChar_3b067_58 : decode cJ2_getChar_3b067 58 = .ok (.i2c, 1) := by decide +kernel
theorem dJ2_getChar_3b067_59 : decode cJ2_getChar_3b067 59 = .ok (.ireturn, 1) := by decide +kernel
theorem dJ2_length_9d52b_0 : decode cJ2_length_9d52b 0 = .ok (.aload_n 0, 1) := by decide +kernel
theorem dJ2_length_9d52b_1 : decode cJ2_length_9d52b 1 = .ok (.arraylength, 1) := by decide +kernel
theorem dJ2_length_9d52b_2 : decode cJ2_length_9d52b 2 = .ok (.iconst 1, 1) := by decide +kernel
theorem dJ2_length_9d52b_3 : decode cJ2_length_9d52b 3 = .ok (.ishr, 1) := by decide +kernel
theorem dJ2_length_9d52b_4 : decode cJ2_length_9d52b 4 = .ok (.ireturn, 1) := by decide +kernel
theorem dJ2_charAt_3b067_0 : decode cJ2_charAt_3b067 0 = .ok (.iload_n 1, 1) := by decide +kernel
theorem dJ2_charAt_3b067_1 : decode cJ2_charAt_3b067 1 = .ok (.aload_n 0, 1) := by decide +kernel
theorem dJ2_charAt_3b067_2 : decode cJ2_charAt_3b067 2 = .ok (.invokestatic 67, 3) := by decide +kernel
theorem dJ2_charAt_3b067_5 : decode cJ2_charAt_3b067 5 = .ok (.aload_n 0, 1) := by decide +kernel
theorem dJ2_charAt_3b067_6 : decode cJ2_charAt_3b067 6 = .ok (.iload_n 1, 1) := by decide +kernel
theorem dJ2_charAt_3b067_7 : decode cJ2_charAt_3b067 7 = .ok (.invokestatic 71, 3) := by decide +kernel
theorem dJ2_charAt_3b067_10 : decode cJ2_charAt_3b067 10 = .ok (.ireturn, 1) := by decide +kernel
theorem dJ2_checkIndex_2214a_0 : decode cJ2_checkIndex_2214a 0 = .ok (.iload_n 0, 1) := by decide +kernel
theorem dJ2_checkIndex_2214a_1 : decode cJ2_checkIndex_2214a 1 = .ok (.aload_n 1, 1) := by decide +kernel
theorem dJ2_checkIndex_2214a_2 : decode cJ2_checkIndex_2214a 2 = .ok (.invokestatic 48, 3) := by decide +kernel
theorem dJ2_checkIndex_2214a_5 : decode cJ2_checkIndex_2214a 5 = .ok (.invokestatic 414, 3) := by decide +kernel
theorem dJ2_checkIndex_2214a_8 : decode cJ2_checkIndex_2214a 8 = .ok (.return_, 1) := by decide +kernel
theorem dJ3_checkIndex_8e157_0 : decode cJ3_checkIndex_8e157 0 = .ok (.iload_n 0, 1) := by decide +kernel
theorem dJ3_checkIndex_8e157_1 : decode cJ3_checkIndex_8e157 1 = .ok (.ifCond .lt 8, 3) := by decide +kernel
theorem dJ3_checkIndex_8e157_4 : decode cJ3_checkIndex_8e157 4 = .ok (.iload_n 0, 1) := by decide +kernel
theorem dJ3_checkIndex_8e157_5 : decode cJ3_checkIndex_8e157 5 = .ok (.iload_n 1, 1) := by decide +kernel
theorem dJ3_checkIndex_8e157_6 : decode cJ3_checkIndex_8e157 6 = .ok (.if_icmp .lt 10, 3) := by decide +kernel
theorem dJ3_checkIndex_8e157_9 : decode cJ3_checkIndex_8e157 9 = .ok (.aload_n 2, 1) := by decide +kernel
theorem dJ3_checkIndex_8e157_10 : decode cJ3_checkIndex_8e157 10 = .ok (.iload_n 0, 1) := by decide +kernel
theorem dJ3_checkIndex_8e157_11 : decode cJ3_checkIndex_8e157 11 = .ok (.iload_n 1, 1) := by decide +kernel
theorem dJ3_checkIndex_8e157_12 : decode cJ3_checkIndex_8e157 12 = .ok (.invokestatic 95, 3) := by decide +kernel
theorem dJ3_checkIndex_8e157_15 : decode cJ3_checkIndex_8e157 15 = .ok (.athrow, 1) := by decide +kernel
theorem dJ3_checkIndex_8e157_16 : decode cJ3_checkIndex_8e157 16 = .ok (.iload_n 0, 1) := by decide +kernel
theorem dJ3_checkIndex_8e157_17 : decode cJ3_checkIndex_8e157 17 = .ok (.ireturn, 1) := by decide +kernel
theorem dL_cell_0 : decode cL_cell 0 = .ok (.aload_n 0, 1) := by decide +kernel
theorem dL_cell_1 : decode cL_cell 1 = .ok (.arraylength, 1) := by decide +kernel
theorem dL_cell_2 : decode cL_cell 2 = .ok (.ifCond .ne 11, 3) := by decide +kernel
theorem dL_cell_5 : decode cL_cell 5 = .ok (.sipush 577, 3) := by decide +kernel
theorem dL_cell_8 : decode cL_cell 8 = .ok (.iload_n 1, 1) := by decide +kernel
theorem dL_cell_9 : decode cL_cell 9 = .ok (.imul, 1) := by decide +kernel
theorem dL_cell_10 : decode cL_cell 10 = .ok (.goto 12, 3) := by decide +kernel
theorem dL_cell_13 : decode cL_cell 13 = .ok (.aload_n 0, 1) := by decide +kernel
theorem dL_cell_14 : decode cL_cell 14 = .ok (.iload_n 1, 1) := by decide +kernel
theorem dL_cell_15 : decode cL_cell 15 = .ok (.ldc 7, 2) := by decide +kernel
theorem dL_cell_17 : decode cL_cell 17 = .ok (.iand, 1) := by decide +kernel
theorem dL_cell_18 : decode cL_cell 18 = .ok (.aload_n 0, 1) := by decide +kernel
theorem dL_cell_19 : decode cL_cell 19 = .ok (.arraylength, 1) := by decide +kernel
theorem dL_cell_20 : decode cL_cell 20 = .ok (.irem, 1) := by decide +kernel
theorem dL_cell_21 : decode cL_cell 21 = .ok (.iaload, 1) := by decide +kernel
theorem dL_cell_22 : decode cL_cell 22 = .ok (.ireturn, 1) := by decide +kernel
theorem dL_write_0 : decode cL_write 0 = .ok (.iconst 0, 1) := by decide +kernel
theorem dL_write_1 : decode cL_write 1 = .ok (.istore_n 2, 1) := by decide +kernel
theorem dL_write_2 : decode cL_write 2 = .ok (.iload_n 2, 1) := by decide +kernel
theorem dL_write_3 : decode cL_write 3 = .ok (.aload_n 1, 1) := by decide +kernel
theorem dL_write_4 : decode cL_write 4 = .ok (.invokevirtual 8, 3) := by decide +kernel
theorem dL_write_7 : decode cL_write 7 = .ok (.if_icmp .ge 19, 3) := by decide +kernel
theorem dL_write_10 : decode cL_write 10 = .ok (.aload_n 0, 1) := by decide +kernel
theorem dL_write_11 : decode cL_write 11 = .ok (.aload_n 1, 1) := by decide +kernel
theorem dL_write_12 : decode cL_write 12 = .ok (.iload_n 2, 1) := by decide +kernel
theorem dL_write_13 : decode cL_write 13 = .ok (.invokevirtual 14, 3) := by decide +kernel
theorem dL_write_16 : decode cL_write 16 = .ok (.invokevirtual 18, 3) := by decide +kernel
theorem dL_write_19 : decode cL_write 19 = .ok (.pop, 1) := by decide +kernel
theorem dL_write_20 : decode cL_write 20 = .ok (.iinc 2 1, 3) := by decide +kernel
theorem dL_write_23 : decode cL_write 23 = .ok (.goto (-21), 3) := by decide +kernel
theorem dL_write_26 : decode cL_write 26 = .ok (.aload_n 0, 1) := by decide +kernel
theorem dL_write_27 : decode cL_write 27 = .ok (.areturn, 1) := by decide +kernel
theorem dL_act_0 : decode cL_act 0 = .ok (.iload_n 1, 1) := by decide +kernel
theorem dL_act_1 : decode cL_act 1 = .ok (.iconst 4, 1) := by decide +kernel
theorem dL_act_2 : decode cL_act 2 = .ok (.ishr, 1) := by decide +kernel
theorem dL_act_3 : decode cL_act 3 = .ok (.ldc 7, 2) := by decide +kernel
theorem dL_act_5 : decode cL_act 5 = .ok (.iand, 1) := by decide +kernel
theorem dL_act_6 : decode cL_act 6 = .ok (.istore_n 2, 1) := by decide +kernel
theorem dL_act_7 : decode cL_act 7 = .ok (.iload_n 2, 1) := by decide +kernel
theorem dL_act_8 : decode cL_act 8 = .ok (.iconst 1, 1) := by decide +kernel
theorem dL_act_9 : decode cL_act 9 = .ok (.ishr, 1) := by decide +kernel
theorem dL_act_10 : decode cL_act 10 = .ok (.bipush 9, 2) := by decide +kernel
theorem dL_act_12 : decode cL_act 12 = .ok (.irem, 1) := by decide +kernel
theorem dL_act_13 : decode cL_act 13 = .ok (.istore_n 3, 1) := by decide +kernel
theorem dL_act_14 : decode cL_act 14 = .ok (.iload_n 2, 1) := by decide +kernel
theorem dL_act_15 : decode cL_act 15 = .ok (.iconst 5, 1) := by decide +kernel
theorem dL_act_16 : decode cL_act 16 = .ok (.ishr, 1) := by decide +kernel
theorem dL_act_17 : decode cL_act 17 = .ok (.bipush 9, 2) := by decide +kernel
theorem dL_act_19 : decode cL_act 19 = .ok (.irem, 1) := by decide +kernel
theorem dL_act_20 : decode cL_act 20 = .ok (.istore 4, 2) := by decide +kernel
theorem dL_act_22 : decode cL_act 22 = .ok (.iload_n 1, 1) := by decide +kernel
theorem dL_act_23 : decode cL_act 23 = .ok (.bipush 15, 2) := by decide +kernel
theorem dL_act_25 : decode cL_act 25 = .ok (.iand, 1) := by decide +kernel
theorem dL_act_26 : decode cL_act 26 = .ok (.tableswitch 177 0 14 #[74, 83, 83, 83, 83, 83, 91, 91, 99, 125, 125, 131, 143, 159, 159], 74) := by decide +kernel
theorem dL_act_100 : decode cL_act 100 = .ok (.aload_n 0, 1) := by decide +kernel
theorem dL_act_101 : decode cL_act 101 = .ok (.iload_n 2, 1) := by decide +kernel
theorem dL_act_102 : decode cL_act 102 = .ok (.bipush 102, 2) := by decide +kernel
theorem dL_act_104 : decode cL_act 104 = .ok (.irem, 1) := by decide +kernel
theorem dL_act_105 : decode cL_act 105 = .ok (.invokevirtual 24, 3) := by decide +kernel
theorem dL_act_108 : decode cL_act 108 = .ok (.ireturn, 1) := by decide +kernel
theorem dL_act_109 : decode cL_act 109 = .ok (.aload_n 0, 1) := by decide +kernel
theorem dL_act_110 : decode cL_act 110 = .ok (.iload_n 3, 1) := by decide +kernel
theorem dL_act_111 : decode cL_act 111 = .ok (.iload 4, 2) := by decide +kernel
theorem dL_act_113 : decode cL_act 113 = .ok (.invokevirtual 27, 3) := by decide +kernel
theorem dL_act_116 : decode cL_act 116 = .ok (.ireturn, 1) := by decide +kernel
theorem dL_act_117 : decode cL_act 117 = .ok (.aload_n 0, 1) := by decide +kernel
theorem dL_act_118 : decode cL_act 118 = .ok (.iload_n 3, 1) := by decide +kernel
theorem dL_act_119 : decode cL_act 119 = .ok (.iload 4, 2) := by decide +kernel
theorem dL_act_121 : decode cL_act 121 = .ok (.invokevirtual 31, 3) := by decide +kernel
theorem dL_act_124 : decode cL_act 124 = .ok (.ireturn, 1) := by decide +kernel
theorem dL_act_125 : decode cL_act 125 = .ok (.aload_n 0, 1) := by decide +kernel
theorem dL_act_126 : decode cL_act 126 = .ok (.iload_n 3, 1) := by decide +kernel
theorem dL_act_127 : decode cL_act 127 = .ok (.bipush 6, 2) := by decide +kernel
theorem dL_act_129 : decode cL_act 129 = .ok (.invokevirtual 34, 3) := by decide +kernel
theorem dL_act_132 : decode cL_act 132 = .ok (.istore 5, 2) := by decide +kernel
theorem dL_act_134 : decode cL_act 134 = .ok (.iload 5, 2) := by decide +kernel
theorem dL_act_136 : decode cL_act 136 = .ok (.ifCond .ge 7, 3) := by decide +kernel
theorem dL_act_139 : decode cL_act 139 = .ok (.iconst 0, 1) := by decide +kernel
theorem dL_act_140 : decode cL_act 140 = .ok (.goto 10, 3) := by decide +kernel
theorem dL_act_143 : decode cL_act 143 = .ok (.aload_n 0, 1) := by decide +kernel
theorem dL_act_144 : decode cL_act 144 = .ok (.iload 5, 2) := by decide +kernel
theorem dL_act_146 : decode cL_act 146 = .ok (.iload_n 3, 1) := by decide +kernel
theorem dL_act_147 : decode cL_act 147 = .ok (.invokevirtual 31, 3) := by decide +kernel
theorem dL_act_150 : decode cL_act 150 = .ok (.ireturn, 1) := by decide +kernel
theorem dL_act_151 : decode cL_act 151 = .ok (.aload_n 0, 1) := by decide +kernel
theorem dL_act_152 : decode cL_act 152 = .ok (.iload_n 3, 1) := by decide +kernel
theorem dL_act_153 : decode cL_act 153 = .ok (.invokevirtual 37, 3) := by decide +kernel
theorem dL_act_156 : decode cL_act 156 = .ok (.ireturn, 1) := by decide +kernel
theorem dL_act_157 : decode cL_act 157 = .ok (.aload_n 0, 1) := by decide +kernel
theorem dL_act_158 : decode cL_act 158 = .ok (.iload_n 3, 1) := by decide +kernel
theorem dL_act_159 : decode cL_act 159 = .ok (.iload_n 2, 1) := by decide +kernel
theorem dL_act_160 : decode cL_act 160 = .ok (.iconst 5, 1) := by decide +kernel
theorem dL_act_161 : decode cL_act 161 = .ok (.ishr, 1) := by decide +kernel
theorem dL_act_162 : decode cL_act 162 = .ok (.bipush 101, 2) := by decide +kernel
theorem dL_act_164 : decode cL_act 164 = .ok (.irem, 1) := by decide +kernel
theorem dL_act_165 : decode cL_act 165 = .ok (.invokevirtual 40, 3) := by decide +kernel
theorem dL_act_168 : decode cL_act 168 = .ok (.ireturn, 1) := by decide +kernel
theorem dL_act_169 : decode cL_act 169 = .ok (.aload_n 0, 1) := by decide +kernel
theorem dL_act_170 : decode cL_act 170 = .ok (.iload_n 3, 1) := by decide +kernel
theorem dL_act_171 : decode cL_act 171 = .ok (.iload_n 2, 1) := by decide +kernel
theorem dL_act_172 : decode cL_act 172 = .ok (.iconst 5, 1) := by decide +kernel
theorem dL_act_173 : decode cL_act 173 = .ok (.ishr, 1) := by decide +kernel
theorem dL_act_174 : decode cL_act 174 = .ok (.sipush 202, 3) := by decide +kernel
theorem dL_act_177 : decode cL_act 177 = .ok (.irem, 1) := by decide +kernel
theorem dL_act_178 : decode cL_act 178 = .ok (.bipush 101, 2) := by decide +kernel
theorem dL_act_180 : decode cL_act 180 = .ok (.isub, 1) := by decide +kernel
theorem dL_act_181 : decode cL_act 181 = .ok (.invokevirtual 43, 3) := by decide +kernel
theorem dL_act_184 : decode cL_act 184 = .ok (.ireturn, 1) := by decide +kernel
theorem dL_act_185 : decode cL_act 185 = .ok (.aload_n 0, 1) := by decide +kernel
theorem dL_act_186 : decode cL_act 186 = .ok (.getstatic 46, 3) := by decide +kernel
theorem dL_act_189 : decode cL_act 189 = .ok (.iload_n 2, 1) := by decide +kernel
theorem dL_act_190 : decode cL_act 190 = .ok (.getstatic 46, 3) := by decide +kernel
theorem dL_act_193 : decode cL_act 193 = .ok (.arraylength, 1) := by decide +kernel
theorem dL_act_194 : decode cL_act 194 = .ok (.irem, 1) := by decide +kernel
theorem dL_act_195 : decode cL_act 195 = .ok (.aaload, 1) := by decide +kernel
theorem dL_act_196 : decode cL_act 196 = .ok (.invokestatic 52, 3) := by decide +kernel
theorem dL_act_199 : decode cL_act 199 = .ok (.invokevirtual 56, 3) := by decide +kernel
theorem dL_act_202 : decode cL_act 202 = .ok (.ireturn, 1) := by decide +kernel
theorem dL_act_203 : decode cL_act 203 = .ok (.iload_n 2, 1) := by decide +kernel
theorem dL_act_204 : decode cL_act 204 = .ok (.iconst 3, 1) := by decide +kernel
theorem dL_act_205 : decode cL_act 205 = .ok (.iand, 1) := by decide +kernel
theorem dL_act_206 : decode cL_act 206 = .ok (.ifCond .ne 10, 3) := by decide +kernel
theorem dL_act_209 : decode cL_act 209 = .ok (.aload_n 0, 1) := by decide +kernel
theorem dL_act_210 : decode cL_act 210 = .ok (.invokevirtual 59, 3) := by decide +kernel
theorem dL_act_213 : decode cL_act 213 = .ok (.goto 21, 3) := by decide +kernel
theorem dL_act_216 : decode cL_act 216 = .ok (.iload_n 2, 1) := by decide +kernel
theorem dL_act_217 : decode cL_act 217 = .ok (.iconst 3, 1) := by decide +kernel
theorem dL_act_218 : decode cL_act 218 = .ok (.iand, 1) := by decide +kernel
theorem dL_act_219 : decode cL_act 219 = .ok (.iconst 1, 1) := by decide +kernel
theorem dL_act_220 : decode cL_act 220 = .ok (.if_icmp .ne 10, 3) := by decide +kernel
theorem dL_act_223 : decode cL_act 223 = .ok (.aload_n 0, 1) := by decide +kernel
theorem dL_act_224 : decode cL_act 224 = .ok (.invokevirtual 62, 3) := by decide +kernel
theorem dL_act_227 : decode cL_act 227 = .ok (.goto 7, 3) := by decide +kernel
theorem dL_act_230 : decode cL_act 230 = .ok (.aload_n 0, 1) := by decide +kernel
theorem dL_act_231 : decode cL_act 231 = .ok (.invokevirtual 65, 3) := by decide +kernel
theorem dL_act_234 : decode cL_act 234 = .ok (.ireturn, 1) := by decide +kernel
theorem dL_digest_0 : decode cL_digest 0 = .ok (.ldc2_w 68, 3) := by decide +kernel
theorem dL_digest_3 : decode cL_digest 3 = .ok (.lstore_n 1, 1) := by decide +kernel
theorem dL_digest_4 : decode cL_digest 4 = .ok (.iconst 0, 1) := by decide +kernel
theorem dL_digest_5 : decode cL_digest 5 = .ok (.istore_n 3, 1) := by decide +kernel
theorem dL_digest_6 : decode cL_digest 6 = .ok (.iload_n 3, 1) := by decide +kernel
theorem dL_digest_7 : decode cL_digest 7 = .ok (.bipush 9, 2) := by decide +kernel
theorem dL_digest_9 : decode cL_digest 9 = .ok (.if_icmp .ge 22, 3) := by decide +kernel
theorem dL_digest_12 : decode cL_digest 12 = .ok (.ldc2_w 70, 3) := by decide +kernel
theorem dL_digest_15 : decode cL_digest 15 = .ok (.lload_n 1, 1) := by decide +kernel
theorem dL_digest_16 : decode cL_digest 16 = .ok (.lmul, 1) := by decide +kernel
theorem dL_digest_17 : decode cL_digest 17 = .ok (.aload_n 0, 1) := by decide +kernel
theorem dL_digest_18 : decode cL_digest 18 = .ok (.iload_n 3, 1) := by decide +kernel
theorem dL_digest_19 : decode cL_digest 19 = .ok (.invokevirtual 72, 3) := by decide +kernel
theorem dL_digest_22 : decode cL_digest 22 = .ok (.i2l, 1) := by decide +kernel
theorem dL_digest_23 : decode cL_digest 23 = .ok (.ladd, 1) := by decide +kernel
theorem dL_digest_24 : decode cL_digest 24 = .ok (.lstore_n 1, 1) := by decide +kernel
theorem dL_digest_25 : decode cL_digest 25 = .ok (.iinc 3 1, 3) := by decide +kernel
theorem dL_digest_28 : decode cL_digest 28 = .ok (.goto (-22), 3) := by decide +kernel
theorem dL_digest_31 : decode cL_digest 31 = .ok (.iconst 0, 1) := by decide +kernel
theorem dL_digest_32 : decode cL_digest 32 = .ok (.istore_n 3, 1) := by decide +kernel
theorem dL_digest_33 : decode cL_digest 33 = .ok (.iload_n 3, 1) := by decide +kernel
theorem dL_digest_34 : decode cL_digest 34 = .ok (.aload_n 0, 1) := by decide +kernel
theorem dL_digest_35 : decode cL_digest 35 = .ok (.iconst 0, 1) := by decide +kernel
theorem dL_digest_36 : decode cL_digest 36 = .ok (.invokevirtual 72, 3) := by decide +kernel
theorem dL_digest_39 : decode cL_digest 39 = .ok (.if_icmp .ge 58, 3) := by decide +kernel
theorem dL_digest_42 : decode cL_digest 42 = .ok (.ldc2_w 70, 3) := by decide +kernel
theorem dL_digest_45 : decode cL_digest 45 = .ok (.lload_n 1, 1) := by decide +kernel
theorem dL_digest_46 : decode cL_digest 46 = .ok (.lmul, 1) := by decide +kernel
theorem dL_digest_47 : decode cL_digest 47 = .ok (.aload_n 0, 1) := by decide +kernel
theorem dL_digest_48 : decode cL_digest 48 = .ok (.iload_n 3, 1) := by decide +kernel
theorem dL_digest_49 : decode cL_digest 49 = .ok (.iconst 0, 1) := by decide +kernel
theorem dL_digest_50 : decode cL_digest 50 = .ok (.invokevirtual 34, 3) := by decide +kernel
theorem dL_digest_53 : decode cL_digest 53 = .ok (.i2l, 1) := by decide +kernel
theorem dL_digest_54 : decode cL_digest 54 = .ok (.ladd, 1) := by decide +kernel
theorem dL_digest_55 : decode cL_digest 55 = .ok (.lstore_n 1, 1) := by decide +kernel
theorem dL_digest_56 : decode cL_digest 56 = .ok (.iconst 0, 1) := by decide +kernel
theorem dL_digest_57 : decode cL_digest 57 = .ok (.istore 4, 2) := by decide +kernel
theorem dL_digest_59 : decode cL_digest 59 = .ok (.iload 4, 2) := by decide +kernel
theorem dL_digest_61 : decode cL_digest 61 = .ok (.aload_n 0, 1) := by decide +kernel
theorem dL_digest_62 : decode cL_digest 62 = .ok (.iload_n 3, 1) := by decide +kernel
theorem dL_digest_63 : decode cL_digest 63 = .ok (.iconst 1, 1) := by decide +kernel
theorem dL_digest_64 : decode cL_digest 64 = .ok (.invokevirtual 75, 3) := by decide +kernel
theorem dL_digest_67 : decode cL_digest 67 = .ok (.if_icmp .ge 24, 3) := by decide +kernel
theorem dL_digest_70 : decode cL_digest 70 = .ok (.ldc2_w 70, 3) := by decide +kernel
theorem dL_digest_73 : decode cL_digest 73 = .ok (.lload_n 1, 1) := by decide +kernel
theorem dL_digest_74 : decode cL_digest 74 = .ok (.lmul, 1) := by decide +kernel
theorem dL_digest_75 : decode cL_digest 75 = .ok (.aload_n 0, 1) := by decide +kernel
theorem dL_digest_76 : decode cL_digest 76 = .ok (.iload_n 3, 1) := by decide +kernel
theorem dL_digest_77 : decode cL_digest 77 = .ok (.iload 4, 2) := by decide +kernel
theorem dL_digest_79 : decode cL_digest 79 = .ok (.invokevirtual 78, 3) := by decide +kernel
theorem dL_digest_82 : decode cL_digest 82 = .ok (.i2l, 1) := by decide +kernel
theorem dL_digest_83 : decode cL_digest 83 = .ok (.ladd, 1) := by decide +kernel
theorem dL_digest_84 : decode cL_digest 84 = .ok (.lstore_n 1, 1) := by decide +kernel
theorem dL_digest_85 : decode cL_digest 85 = .ok (.iinc 4 1, 3) := by decide +kernel
theorem dL_digest_88 : decode cL_digest 88 = .ok (.goto (-29), 3) := by decide +kernel
theorem dL_digest_91 : decode cL_digest 91 = .ok (.iinc 3 1, 3) := by decide +kernel
theorem dL_digest_94 : decode cL_digest 94 = .ok (.goto (-61), 3) := by decide +kernel
theorem dL_digest_97 : decode cL_digest 97 = .ok (.lload_n 1, 1) := by decide +kernel
theorem dL_digest_98 : decode cL_digest 98 = .ok (.lreturn, 1) := by decide +kernel
theorem dL_isRound_0 : decode cL_isRound 0 = .ok (.aload_n 0, 1) := by decide +kernel
theorem dL_isRound_1 : decode cL_isRound 1 = .ok (.iload_n 1, 1) := by decide +kernel
theorem dL_isRound_2 : decode cL_isRound 2 = .ok (.iconst 1, 1) := by decide +kernel
theorem dL_isRound_3 : decode cL_isRound 3 = .ok (.invokevirtual 75, 3) := by decide +kernel
theorem dL_isRound_6 : decode cL_isRound 6 = .ok (.istore_n 2, 1) := by decide +kernel
theorem dL_isRound_7 : decode cL_isRound 7 = .ok (.aload_n 0, 1) := by decide +kernel
theorem dL_isRound_8 : decode cL_isRound 8 = .ok (.iload_n 1, 1) := by decide +kernel
theorem dL_isRound_9 : decode cL_isRound 9 = .ok (.iconst 1, 1) := by decide +kernel
theorem dL_isRound_10 : decode cL_isRound 10 = .ok (.invokevirtual 34, 3) := by decide +kernel
theorem dL_isRound_13 : decode cL_isRound 13 = .ok (.istore_n 3, 1) := by decide +kernel
theorem dL_isRound_14 : decode cL_isRound 14 = .ok (.sipush 144, 3) := by decide +kernel
theorem dL_isRound_17 : decode cL_isRound 17 = .ok (.newarray .boolean, 2) := by decide +kernel
theorem dL_isRound_19 : decode cL_isRound 19 = .ok (.astore 4, 2) := by decide +kernel
theorem dL_isRound_21 : decode cL_isRound 21 = .ok (.iload_n 2, 1) := by decide +kernel
theorem dL_isRound_22 : decode cL_isRound 22 = .ok (.iconst 2, 1) := by decide +kernel
theorem dL_isRound_23 : decode cL_isRound 23 = .ok (.aload_n 0, 1) := by decide +kernel
theorem dL_isRound_24 : decode cL_isRound 24 = .ok (.iload_n 1, 1) := by decide +kernel
theorem dL_isRound_25 : decode cL_isRound 25 = .ok (.iconst 0, 1) := by decide +kernel
theorem dL_isRound_26 : decode cL_isRound 26 = .ok (.invokevirtual 75, 3) := by decide +kernel
theorem dL_isRound_29 : decode cL_isRound 29 = .ok (.imul, 1) := by decide +kernel
theorem dL_isRound_30 : decode cL_isRound 30 = .ok (.iconst 1, 1) := by decide +kernel
theorem dL_isRound_31 : decode cL_isRound 31 = .ok (.isub, 1) := by decide +kernel
theorem dL_isRound_32 : decode cL_isRound 32 = .ok (.if_icmp .ne 49, 3) := by decide +kernel
theorem dL_isRound_35 : decode cL_isRound 35 = .ok (.aload_n 0, 1) := by decide +kernel
theorem dL_isRound_36 : decode cL_isRound 36 = .ok (.iload_n 1, 1) := by decide +kernel
theorem dL_isRound_37 : decode cL_isRound 37 = .ok (.iconst 0, 1) := by decide +kernel
theorem dL_isRound_38 : decode cL_isRound 38 = .ok (.invokevirtual 78, 3) := by decide +kernel
theorem dL_isRound_41 : decode cL_isRound 41 = .ok (.iload_n 3, 1) := by decide +kernel
theorem dL_isRound_42 : decode cL_isRound 42 = .ok (.if_icmp .ne 39, 3) := by decide +kernel
theorem dL_isRound_45 : decode cL_isRound 45 = .ok (.aload_n 0, 1) := by decide +kernel
theorem dL_isRound_46 : decode cL_isRound 46 = .ok (.iload_n 1, 1) := by decide +kernel
theorem dL_isRound_47 : decode cL_isRound 47 = .ok (.iload_n 2, 1) := by decide +kernel
theorem dL_isRound_48 : decode cL_isRound 48 = .ok (.iconst 1, 1) := by decide +kernel
theorem dL_isRound_49 : decode cL_isRound 49 = .ok (.isub, 1) := by decide +kernel
theorem dL_isRound_50 : decode cL_isRound 50 = .ok (.invokevirtual 78, 3) := by decide +kernel
theorem dL_isRound_53 : decode cL_isRound 53 = .ok (.iload_n 3, 1) := by decide +kernel
theorem dL_isRound_54 : decode cL_isRound 54 = .ok (.if_icmp .ne 27, 3) := by decide +kernel
theorem dL_isRound_57 : decode cL_isRound 57 = .ok (.aload_n 0, 1) := by decide +kernel
theorem dL_isRound_58 : decode cL_isRound 58 = .ok (.iload_n 1, 1) := by decide +kernel
theorem dL_isRound_59 : decode cL_isRound 59 = .ok (.iload_n 2, 1) := by decide +kernel
theorem dL_isRound_60 : decode cL_isRound 60 = .ok (.invokevirtual 78, 3) := by decide +kernel
theorem dL_isRound_63 : decode cL_isRound 63 = .ok (.iconst (-1), 1) := by decide +kernel
theorem dL_isRound_64 : decode cL_isRound 64 = .ok (.if_icmp .ne 17, 3) := by decide +kernel
theorem dL_isRound_67 : decode cL_isRound 67 = .ok (.aload_n 0, 1) := by decide +kernel
theorem dL_isRound_68 : decode cL_isRound 68 = .ok (.iload_n 1, 1) := by decide +kernel
theorem dL_isRound_69 : decode cL_isRound 69 = .ok (.iconst (-1), 1) := by decide +kernel
theorem dL_isRound_70 : decode cL_isRound 70 = .ok (.invokevirtual 78, 3) := by decide +kernel
theorem dL_isRound_73 : decode cL_isRound 73 = .ok (.iconst (-1), 1) := by decide +kernel
theorem dL_isRound_74 : decode cL_isRound 74 = .ok (.if_icmp .ne 7, 3) := by decide +kernel
theorem dL_isRound_77 : decode cL_isRound 77 = .ok (.iconst 1, 1) := by decide +kernel
theorem dL_isRound_78 : decode cL_isRound 78 = .ok (.goto 4, 3) := by decide +kernel
theorem dL_isRound_81 : decode cL_isRound 81 = .ok (.iconst 0, 1) := by decide +kernel
theorem dL_isRound_82 : decode cL_isRound 82 = .ok (.istore 5, 2) := by decide +kernel
theorem dL_isRound_84 : decode cL_isRound 84 = .ok (.iconst 1, 1) := by decide +kernel
theorem dL_isRound_85 : decode cL_isRound 85 = .ok (.istore 6, 2) := by decide +kernel
theorem dL_isRound_87 : decode cL_isRound 87 = .ok (.iload 5, 2) := by decide +kernel
theorem dL_isRound_89 : decode cL_isRound 89 = .ok (.ifCond .eq 103, 3) := by decide +kernel
theorem dL_isRound_92 : decode cL_isRound 92 = .ok (.iload 6, 2) := by decide +kernel
theorem dL_isRound_94 : decode cL_isRound 94 = .ok (.iload_n 2, 1) := by decide +kernel
theorem dL_isRound_95 : decode cL_isRound 95 = .ok (.if_icmp .ge 97, 3) := by decide +kernel
theorem dL_isRound_98 : decode cL_isRound 98 = .ok (.aload_n 0, 1) := by decide +kernel
theorem dL_isRound_99 : decode cL_isRound 99 = .ok (.iload_n 1, 1) := by decide +kernel
theorem dL_isRound_100 : decode cL_isRound 100 = .ok (.iload 6, 2) := by decide +kernel
theorem dL_isRound_102 : decode cL_isRound 102 = .ok (.iconst 1, 1) := by decide +kernel
theorem dL_isRound_103 : decode cL_isRound 103 = .ok (.isub, 1) := by decide +kernel
theorem dL_isRound_104 : decode cL_isRound 104 = .ok (.invokevirtual 78, 3) := by decide +kernel
theorem dL_isRound_107 : decode cL_isRound 107 = .ok (.istore 7, 2) := by decide +kernel
theorem dL_isRound_109 : decode cL_isRound 109 = .ok (.aload_n 0, 1) := by decide +kernel
theorem dL_isRound_110 : decode cL_isRound 110 = .ok (.iload_n 1, 1) := by decide +kernel
theorem dL_isRound_111 : decode cL_isRound 111 = .ok (.iload 6, 2) := by decide +kernel
theorem dL_isRound_113 : decode cL_isRound 113 = .ok (.invokevirtual 78, 3) := by decide +kernel
theorem dL_isRound_116 : decode cL_isRound 116 = .ok (.istore 8, 2) := by decide +kernel
theorem dL_isRound_118 : decode cL_isRound 118 = .ok (.aload_n 0, 1) := by decide +kernel
theorem dL_isRound_119 : decode cL_isRound 119 = .ok (.iload 7, 2) := by decide +kernel
theorem dL_isRound_121 : decode cL_isRound 121 = .ok (.iload 8, 2) := by decide +kernel
theorem dL_isRound_123 : decode cL_isRound 123 = .ok (.invokevirtual 81, 3) := by decide +kernel
theorem dL_isRound_126 : decode cL_isRound 126 = .ok (.iconst 1, 1) := by decide +kernel
theorem dL_isRound_127 : decode cL_isRound 127 = .ok (.if_icmp .ne 44, 3) := by decide +kernel
theorem dL_isRound_130 : decode cL_isRound 130 = .ok (.aload_n 0, 1) := by decide +kernel
theorem dL_isRound_131 : decode cL_isRound 131 = .ok (.iload 8, 2) := by decide +kernel
theorem dL_isRound_133 : decode cL_isRound 133 = .ok (.iload 7, 2) := by decide +kernel
theorem dL_isRound_135 : decode cL_isRound 135 = .ok (.invokevirtual 81, 3) := by decide +kernel
theorem dL_isRound_138 : decode cL_isRound 138 = .ok (.iconst 1, 1) := by decide +kernel
theorem dL_isRound_139 : decode cL_isRound 139 = .ok (.if_icmp .ne 32, 3) := by decide +kernel
theorem dL_isRound_142 : decode cL_isRound 142 = .ok (.aload 4, 2) := by decide +kernel
theorem dL_isRound_144 : decode cL_isRound 144 = .ok (.bipush 12, 2) := by decide +kernel
theorem dL_isRound_146 : decode cL_isRound 146 = .ok (.iload 7, 2) := by decide +kernel
theorem dL_isRound_148 : decode cL_isRound 148 = .ok (.imul, 1) := by decide +kernel
theorem dL_isRound_149 : decode cL_isRound 149 = .ok (.iload 8, 2) := by decide +kernel
theorem dL_isRound_151 : decode cL_isRound 151 = .ok (.iadd, 1) := by decide +kernel
theorem dL_isRound_152 : decode cL_isRound 152 = .ok (.baload, 1) := by decide +kernel
theorem dL_isRound_153 : decode cL_isRound 153 = .ok (.ifCond .ne 18, 3) := by decide +kernel
theorem dL_isRound_156 : decode cL_isRound 156 = .ok (.aload_n 0, 1) := by decide +kernel
theorem dL_isRound_157 : decode cL_isRound 157 = .ok (.iload 8, 2) := by decide +kernel
theorem dL_isRound_159 : decode cL_isRound 159 = .ok (.iconst 1, 1) := by decide +kernel
theorem dL_isRound_160 : decode cL_isRound 160 = .ok (.invokevirtual 34, 3) := by decide +kernel
theorem dL_isRound_163 : decode cL_isRound 163 = .ok (.iload_n 3, 1) := by decide +kernel
theorem dL_isRound_164 : decode cL_isRound 164 = .ok (.if_icmp .ne 7, 3) := by decide +kernel
theorem dL_isRound_167 : decode cL_isRound 167 = .ok (.iconst 1, 1) := by decide +kernel
theorem dL_isRound_168 : decode cL_isRound 168 = .ok (.goto 4, 3) := by decide +kernel
theorem dL_isRound_171 : decode cL_isRound 171 = .ok (.iconst 0, 1) := by decide +kernel
theorem dL_isRound_172 : decode cL_isRound 172 = .ok (.istore 5, 2) := by decide +kernel
theorem dL_isRound_174 : decode cL_isRound 174 = .ok (.aload 4, 2) := by decide +kernel
theorem dL_isRound_176 : decode cL_isRound 176 = .ok (.bipush 12, 2) := by decide +kernel
theorem dL_isRound_178 : decode cL_isRound 178 = .ok (.iload 7, 2) := by decide +kernel
theorem dL_isRound_180 : decode cL_isRound 180 = .ok (.imul, 1) := by decide +kernel
theorem dL_isRound_181 : decode cL_isRound 181 = .ok (.iload 8, 2) := by decide +kernel
theorem dL_isRound_183 : decode cL_isRound 183 = .ok (.iadd, 1) := by decide +kernel
theorem dL_isRound_184 : decode cL_isRound 184 = .ok (.iconst 1, 1) := by decide +kernel
theorem dL_isRound_185 : decode cL_isRound 185 = .ok (.bastore, 1) := by decide +kernel
theorem dL_isRound_186 : decode cL_isRound 186 = .ok (.iinc 6 1, 3) := by decide +kernel
theorem dL_isRound_189 : decode cL_isRound 189 = .ok (.goto (-102), 3) := by decide +kernel
theorem dL_isRound_192 : decode cL_isRound 192 = .ok (.iload 5, 2) := by decide +kernel
theorem dL_isRound_194 : decode cL_isRound 194 = .ok (.ireturn, 1) := by decide +kernel
theorem dL_isBank_0 : decode cL_isBank 0 = .ok (.aload_n 0, 1) := by decide +kernel
theorem dL_isBank_1 : decode cL_isBank 1 = .ok (.iload_n 1, 1) := by decide +kernel
theorem dL_isBank_2 : decode cL_isBank 2 = .ok (.iconst 3, 1) := by decide +kernel
theorem dL_isBank_3 : decode cL_isBank 3 = .ok (.invokevirtual 34, 3) := by decide +kernel
theorem dL_isBank_6 : decode cL_isBank 6 = .ok (.istore_n 2, 1) := by decide +kernel
theorem dL_isBank_7 : decode cL_isBank 7 = .ok (.aload_n 0, 1) := by decide +kernel
theorem dL_isBank_8 : decode cL_isBank 8 = .ok (.iload_n 1, 1) := by decide +kernel
theorem dL_isBank_9 : decode cL_isBank 9 = .ok (.iconst 4, 1) := by decide +kernel
theorem dL_isBank_10 : decode cL_isBank 10 = .ok (.invokevirtual 34, 3) := by decide +kernel
theorem dL_isBank_13 : decode cL_isBank 13 = .ok (.istore_n 3, 1) := by decide +kernel
theorem dL_isBank_14 : decode cL_isBank 14 = .ok (.aload_n 0, 1) := by decide +kernel
theorem dL_isBank_15 : decode cL_isBank 15 = .ok (.iload_n 1, 1) := by decide +kernel
theorem dL_isBank_16 : decode cL_isBank 16 = .ok (.bipush 6, 2) := by decide +kernel
theorem dL_isBank_18 : decode cL_isBank 18 = .ok (.invokevirtual 34, 3) := by decide +kernel
theorem dL_isBank_21 : decode cL_isBank 21 = .ok (.istore 4, 2) := by decide +kernel
theorem dL_isBank_23 : decode cL_isBank 23 = .ok (.iconst 0, 1) := by decide +kernel
theorem dL_isBank_24 : decode cL_isBank 24 = .ok (.istore 5, 2) := by decide +kernel
theorem dL_isBank_26 : decode cL_isBank 26 = .ok (.iconst 0, 1) := by decide +kernel
theorem dL_isBank_27 : decode cL_isBank 27 = .ok (.istore 6, 2) := by decide +kernel
theorem dL_isBank_29 : decode cL_isBank 29 = .ok (.iconst 0, 1) := by decide +kernel
theorem dL_isBank_30 : decode cL_isBank 30 = .ok (.istore 7, 2) := by decide +kernel
theorem dL_isBank_32 : decode cL_isBank 32 = .ok (.aload_n 0, 1) := by decide +kernel
theorem dL_isBank_33 : decode cL_isBank 33 = .ok (.iload_n 1, 1) := by decide +kernel
theorem dL_isBank_34 : decode cL_isBank 34 = .ok (.iload_n 2, 1) := by decide +kernel
theorem dL_isBank_35 : decode cL_isBank 35 = .ok (.invokevirtual 78, 3) := by decide +kernel
theorem dL_isBank_38 : decode cL_isBank 38 = .ok (.iload_n 1, 1) := by decide +kernel
theorem dL_isBank_39 : decode cL_isBank 39 = .ok (.if_icmp .ne 111, 3) := by decide +kernel
theorem dL_isBank_42 : decode cL_isBank 42 = .ok (.aload_n 0, 1) := by decide +kernel
theorem dL_isBank_43 : decode cL_isBank 43 = .ok (.iload_n 1, 1) := by decide +kernel
theorem dL_isBank_44 : decode cL_isBank 44 = .ok (.iload_n 3, 1) := by decide +kernel
theorem dL_isBank_45 : decode cL_isBank 45 = .ok (.invokevirtual 78, 3) := by decide +kernel
theorem dL_isBank_48 : decode cL_isBank 48 = .ok (.iload_n 1, 1) := by decide +kernel
theorem dL_isBank_49 : decode cL_isBank 49 = .ok (.if_icmp .ne 101, 3) := by decide +kernel
theorem dL_isBank_52 : decode cL_isBank 52 = .ok (.iload_n 2, 1) := by decide +kernel
theorem dL_isBank_53 : decode cL_isBank 53 = .ok (.iload_n 3, 1) := by decide +kernel
theorem dL_isBank_54 : decode cL_isBank 54 = .ok (.if_icmp .gt 96, 3) := by decide +kernel
theorem dL_isBank_57 : decode cL_isBank 57 = .ok (.iload 4, 2) := by decide +kernel
theorem dL_isBank_59 : decode cL_isBank 59 = .ok (.bipush (-4), 2) := by decide +kernel
theorem dL_isBank_61 : decode cL_isBank 61 = .ok (.if_icmp .ne 7, 3) := by decide +kernel
theorem dL_isBank_64 : decode cL_isBank 64 = .ok (.iconst 1, 1) := by decide +kernel
theorem dL_isBank_65 : decode cL_isBank 65 = .ok (.goto 4, 3) := by decide +kernel
theorem dL_isBank_68 : decode cL_isBank 68 = .ok (.iconst 0, 1) := by decide +kernel
theorem dL_isBank_69 : decode cL_isBank 69 = .ok (.aload_n 0, 1) := by decide +kernel
theorem dL_isBank_70 : decode cL_isBank 70 = .ok (.iload_n 1, 1) := by decide +kernel
theorem dL_isBank_71 : decode cL_isBank 71 = .ok (.iconst 1, 1) := by decide +kernel
theorem dL_isBank_72 : decode cL_isBank 72 = .ok (.invokevirtual 34, 3) := by decide +kernel
theorem dL_isBank_75 : decode cL_isBank 75 = .ok (.iload_n 1, 1) := by decide +kernel
theorem dL_isBank_76 : decode cL_isBank 76 = .ok (.if_icmp .ne 7, 3) := by decide +kernel
theorem dL_isBank_79 : decode cL_isBank 79 = .ok (.iconst 1, 1) := by decide +kernel
theorem dL_isBank_80 : decode cL_isBank 80 = .ok (.goto 4, 3) := by decide +kernel
theorem dL_isBank_83 : decode cL_isBank 83 = .ok (.iconst 0, 1) := by decide +kernel
theorem dL_isBank_84 : decode cL_isBank 84 = .ok (.if_icmp .ne 66, 3) := by decide +kernel
theorem dL_isBank_87 : decode cL_isBank 87 = .ok (.iload 4, 2) := by decide +kernel
theorem dL_isBank_89 : decode cL_isBank 89 = .ok (.bipush (-4), 2) := by decide +kernel
theorem dL_isBank_91 : decode cL_isBank 91 = .ok (.if_icmp .ne 15, 3) := by decide +kernel
theorem dL_isBank_94 : decode cL_isBank 94 = .ok (.aload_n 0, 1) := by decide +kernel
theorem dL_isBank_95 : decode cL_isBank 95 = .ok (.iload_n 1, 1) := by decide +kernel
theorem dL_isBank_96 : decode cL_isBank 96 = .ok (.iconst 2, 1) := by decide +kernel
theorem dL_isBank_97 : decode cL_isBank 97 = .ok (.invokevirtual 34, 3) := by decide +kernel
theorem dL_isBank_100 : decode cL_isBank 100 = .ok (.ifCond .ne 50, 3) := by decide +kernel
theorem dL_isBank_103 : decode cL_isBank 103 = .ok (.goto 43, 3) := by decide +kernel
theorem dL_isBank_106 : decode cL_isBank 106 = .ok (.aload_n 0, 1) := by decide +kernel
theorem dL_isBank_107 : decode cL_isBank 107 = .ok (.iload 4, 2) := by decide +kernel
theorem dL_isBank_109 : decode cL_isBank 109 = .ok (.iload_n 1, 1) := by decide +kernel
theorem dL_isBank_110 : decode cL_isBank 110 = .ok (.invokevirtual 81, 3) := by decide +kernel
theorem dL_isBank_113 : decode cL_isBank 113 = .ok (.iconst 1, 1) := by decide +kernel
theorem dL_isBank_114 : decode cL_isBank 114 = .ok (.if_icmp .ne 36, 3) := by decide +kernel
theorem dL_isBank_117 : decode cL_isBank 117 = .ok (.aload_n 0, 1) := by decide +kernel
theorem dL_isBank_118 : decode cL_isBank 118 = .ok (.iload_n 1, 1) := by decide +kernel
theorem dL_isBank_119 : decode cL_isBank 119 = .ok (.iconst 2, 1) := by decide +kernel
theorem dL_isBank_120 : decode cL_isBank 120 = .ok (.invokevirtual 34, 3) := by decide +kernel
theorem dL_isBank_123 : decode cL_isBank 123 = .ok (.aload_n 0, 1) := by decide +kernel
theorem dL_isBank_124 : decode cL_isBank 124 = .ok (.iload 4, 2) := by decide +kernel
theorem dL_isBank_126 : decode cL_isBank 126 = .ok (.iconst 2, 1) := by decide +kernel
theorem dL_isBank_127 : decode cL_isBank 127 = .ok (.invokevirtual 34, 3) := by decide +kernel
theorem dL_isBank_130 : decode cL_isBank 130 = .ok (.iconst 1, 1) := by decide +kernel
theorem dL_isBank_131 : decode cL_isBank 131 = .ok (.iadd, 1) := by decide +kernel
theorem dL_isBank_132 : decode cL_isBank 132 = .ok (.if_icmp .ne 18, 3) := by decide +kernel
theorem dL_isBank_135 : decode cL_isBank 135 = .ok (.aload_n 0, 1) := by decide +kernel
theorem dL_isBank_136 : decode cL_isBank 136 = .ok (.iload_n 1, 1) := by decide +kernel
theorem dL_isBank_137 : decode cL_isBank 137 = .ok (.iload 4, 2) := by decide +kernel
theorem dL_isBank_139 : decode cL_isBank 139 = .ok (.invokevirtual 84, 3) := by decide +kernel
theorem dL_isBank_142 : decode cL_isBank 142 = .ok (.iconst 1, 1) := by decide +kernel
theorem dL_isBank_143 : decode cL_isBank 143 = .ok (.if_icmp .ne 7, 3) := by decide +kernel
theorem dL_isBank_146 : decode cL_isBank 146 = .ok (.iconst 1, 1) := by decide +kernel
theorem dL_isBank_147 : decode cL_isBank 147 = .ok (.goto 4, 3) := by decide +kernel
theorem dL_isBank_150 : decode cL_isBank 150 = .ok (.iconst 0, 1) := by decide +kernel
theorem dL_isBank_151 : decode cL_isBank 151 = .ok (.istore 8, 2) := by decide +kernel
theorem dL_isBank_153 : decode cL_isBank 153 = .ok (.iconst 0, 1) := by decide +kernel
theorem dL_isBank_154 : decode cL_isBank 154 = .ok (.istore 9, 2) := by decide +kernel
theorem dL_isBank_156 : decode cL_isBank 156 = .ok (.iload 8, 2) := by decide +kernel
theorem dL_isBank_158 : decode cL_isBank 158 = .ok (.ifCond .eq 119, 3) := by decide +kernel
theorem dL_isBank_161 : decode cL_isBank 161 = .ok (.iload 9, 2) := by decide +kernel
theorem dL_isBank_163 : decode cL_isBank 163 = .ok (.aload_n 0, 1) := by decide +kernel
theorem dL_isBank_164 : decode cL_isBank 164 = .ok (.iconst 0, 1) := by decide +kernel
theorem dL_isBank_165 : decode cL_isBank 165 = .ok (.invokevirtual 72, 3) := by decide +kernel
theorem dL_isBank_168 : decode cL_isBank 168 = .ok (.if_icmp .ge 109, 3) := by decide +kernel
theorem dL_isBank_171 : decode cL_isBank 171 = .ok (.aload_n 0, 1) := by decide +kernel
theorem dL_isBank_172 : decode cL_isBank 172 = .ok (.iload 9, 2) := by decide +kernel
theorem dL_isBank_174 : decode cL_isBank 174 = .ok (.iload_n 1, 1) := by decide +kernel
theorem dL_isBank_175 : decode cL_isBank 175 = .ok (.invokevirtual 84, 3) := by decide +kernel
theorem dL_isBank_178 : decode cL_isBank 178 = .ok (.iconst 1, 1) := by decide +kernel
theorem dL_isBank_179 : decode cL_isBank 179 = .ok (.if_icmp .ne 7, 3) := by decide +kernel
theorem dL_isBank_182 : decode cL_isBank 182 = .ok (.iconst 1, 1) := by decide +kernel
theorem dL_isBank_183 : decode cL_isBank 183 = .ok (.goto 4, 3) := by decide +kernel
theorem dL_isBank_186 : decode cL_isBank 186 = .ok (.iconst 0, 1) := by decide +kernel
theorem dL_isBank_187 : decode cL_isBank 187 = .ok (.istore 10, 2) := by decide +kernel
theorem dL_isBank_189 : decode cL_isBank 189 = .ok (.iload 5, 2) := by decide +kernel
theorem dL_isBank_191 : decode cL_isBank 191 = .ok (.iload 10, 2) := by decide +kernel
theorem dL_isBank_193 : decode cL_isBank 193 = .ok (.ifCond .eq 7, 3) := by decide +kernel
theorem dL_isBank_196 : decode cL_isBank 196 = .ok (.iconst 1, 1) := by decide +kernel
theorem dL_isBank_197 : decode cL_isBank 197 = .ok (.goto 4, 3) := by decide +kernel
theorem dL_isBank_200 : decode cL_isBank 200 = .ok (.iconst 0, 1) := by decide +kernel
theorem dL_isBank_201 : decode cL_isBank 201 = .ok (.iadd, 1) := by decide +kernel
theorem dL_isBank_202 : decode cL_isBank 202 = .ok (.istore 5, 2) := by decide +kernel
theorem dL_isBank_204 : decode cL_isBank 204 = .ok (.iload 6, 2) := by decide +kernel
theorem dL_isBank_206 : decode cL_isBank 206 = .ok (.iload 10, 2) := by decide +kernel
theorem dL_isBank_208 : decode cL_isBank 208 = .ok (.ifCond .eq 13, 3) := by decide +kernel
theorem dL_isBank_211 : decode cL_isBank 211 = .ok (.aload_n 0, 1) := by decide +kernel
theorem dL_isBank_212 : decode cL_isBank 212 = .ok (.iload 9, 2) := by decide +kernel
theorem dL_isBank_214 : decode cL_isBank 214 = .ok (.iconst 0, 1) := by decide +kernel
theorem dL_isBank_215 : decode cL_isBank 215 = .ok (.invokevirtual 34, 3) := by decide +kernel
theorem dL_isBank_218 : decode cL_isBank 218 = .ok (.goto 4, 3) := by decide +kernel
theorem dL_isBank_221 : decode cL_isBank 221 = .ok (.iconst 0, 1) := by decide +kernel
theorem dL_isBank_222 : decode cL_isBank 222 = .ok (.iadd, 1) := by decide +kernel
theorem dL_isBank_223 : decode cL_isBank 223 = .ok (.istore 6, 2) := by decide +kernel
theorem dL_isBank_225 : decode cL_isBank 225 = .ok (.iload 7, 2) := by decide +kernel
theorem dL_isBank_227 : decode cL_isBank 227 = .ok (.aload_n 0, 1) := by decide +kernel
theorem dL_isBank_228 : decode cL_isBank 228 = .ok (.iload_n 1, 1) := by decide +kernel
theorem dL_isBank_229 : decode cL_isBank 229 = .ok (.iload 9, 2) := by decide +kernel
theorem dL_isBank_231 : decode cL_isBank 231 = .ok (.invokevirtual 81, 3) := by decide +kernel
theorem dL_isBank_234 : decode cL_isBank 234 = .ok (.iadd, 1) := by decide +kernel
theorem dL_isBank_235 : decode cL_isBank 235 = .ok (.istore 7, 2) := by decide +kernel
theorem dL_isBank_237 : decode cL_isBank 237 = .ok (.iload 10, 2) := by decide +kernel
theorem dL_isBank_239 : decode cL_isBank 239 = .ok (.ifCond .eq 25, 3) := by decide +kernel
theorem dL_isBank_242 : decode cL_isBank 242 = .ok (.aload_n 0, 1) := by decide +kernel
theorem dL_isBank_243 : decode cL_isBank 243 = .ok (.iload 9, 2) := by decide +kernel
theorem dL_isBank_245 : decode cL_isBank 245 = .ok (.iconst 3, 1) := by decide +kernel
theorem dL_isBank_246 : decode cL_isBank 246 = .ok (.invokevirtual 34, 3) := by decide +kernel
theorem dL_isBank_249 : decode cL_isBank 249 = .ok (.iload_n 2, 1) := by decide +kernel
theorem dL_isBank_250 : decode cL_isBank 250 = .ok (.if_icmp .lt 18, 3) := by decide +kernel
theorem dL_isBank_253 : decode cL_isBank 253 = .ok (.aload_n 0, 1) := by decide +kernel
theorem dL_isBank_254 : decode cL_isBank 254 = .ok (.iload 9, 2) := by decide +kernel
theorem dL_isBank_256 : decode cL_isBank 256 = .ok (.iconst 4, 1) := by decide +kernel
theorem dL_isBank_257 : decode cL_isBank 257 = .ok (.invokevirtual 34, 3) := by decide +kernel
theorem dL_isBank_260 : decode cL_isBank 260 = .ok (.iload_n 3, 1) := by decide +kernel
theorem dL_isBank_261 : decode cL_isBank 261 = .ok (.if_icmp .gt 7, 3) := by decide +kernel
theorem dL_isBank_264 : decode cL_isBank 264 = .ok (.iconst 1, 1) := by decide +kernel
theorem dL_isBank_265 : decode cL_isBank 265 = .ok (.goto 4, 3) := by decide +kernel
theorem dL_isBank_268 : decode cL_isBank 268 = .ok (.iconst 0, 1) := by decide +kernel
theorem dL_isBank_269 : decode cL_isBank 269 = .ok (.istore 8, 2) := by decide +kernel
theorem dL_isBank_271 : decode cL_isBank 271 = .ok (.iinc 9 1, 3) := by decide +kernel
theorem dL_isBank_274 : decode cL_isBank 274 = .ok (.goto (-118), 3) := by decide +kernel
theorem dL_isBank_277 : decode cL_isBank 277 = .ok (.iload 8, 2) := by decide +kernel
theorem dL_isBank_279 : decode cL_isBank 279 = .ok (.ifCond .eq 62, 3) := by decide +kernel
theorem dL_isBank_282 : decode cL_isBank 282 = .ok (.iload 5, 2) := by decide +kernel
theorem dL_isBank_284 : decode cL_isBank 284 = .ok (.aload_n 0, 1) := by decide +kernel
theorem dL_isBank_285 : decode cL_isBank 285 = .ok (.iload_n 1, 1) := by decide +kernel
theorem dL_isBank_286 : decode cL_isBank 286 = .ok (.bipush 7, 2) := by decide +kernel
theorem dL_isBank_288 : decode cL_isBank 288 = .ok (.invokevirtual 34, 3) := by decide +kernel
theorem dL_isBank_291 : decode cL_isBank 291 = .ok (.if_icmp .ne 50, 3) := by decide +kernel
theorem dL_isBank_294 : decode cL_isBank 294 = .ok (.iload 6, 2) := by decide +kernel
theorem dL_isBank_296 : decode cL_isBank 296 = .ok (.aload_n 0, 1) := by decide +kernel
theorem dL_isBank_297 : decode cL_isBank 297 = .ok (.iload_n 1, 1) := by decide +kernel
theorem dL_isBank_298 : decode cL_isBank 298 = .ok (.bipush 8, 2) := by decide +kernel
theorem dL_isBank_300 : decode cL_isBank 300 = .ok (.invokevirtual 34, 3) := by decide +kernel
theorem dL_isBank_303 : decode cL_isBank 303 = .ok (.if_icmp .ne 38, 3) := by decide +kernel
theorem dL_isBank_306 : decode cL_isBank 306 = .ok (.iload 6, 2) := by decide +kernel
theorem dL_isBank_308 : decode cL_isBank 308 = .ok (.aload_n 0, 1) := by decide +kernel
theorem dL_isBank_309 : decode cL_isBank 309 = .ok (.iload_n 1, 1) := by decide +kernel
theorem dL_isBank_310 : decode cL_isBank 310 = .ok (.invokevirtual 87, 3) := by decide +kernel
theorem dL_isBank_313 : decode cL_isBank 313 = .ok (.if_icmp .ne 28, 3) := by decide +kernel
theorem dL_isBank_316 : decode cL_isBank 316 = .ok (.iload 7, 2) := by decide +kernel
theorem dL_isBank_318 : decode cL_isBank 318 = .ok (.aload_n 0, 1) := by decide +kernel
theorem dL_isBank_319 : decode cL_isBank 319 = .ok (.iload_n 1, 1) := by decide +kernel
theorem dL_isBank_320 : decode cL_isBank 320 = .ok (.iconst 5, 1) := by decide +kernel
theorem dL_isBank_321 : decode cL_isBank 321 = .ok (.invokevirtual 34, 3) := by decide +kernel
theorem dL_isBank_324 : decode cL_isBank 324 = .ok (.if_icmp .ne 17, 3) := by decide +kernel
theorem dL_isBank_327 : decode cL_isBank 327 = .ok (.aload_n 0, 1) := by decide +kernel
theorem dL_isBank_328 : decode cL_isBank 328 = .ok (.iload_n 1, 1) := by decide +kernel
theorem dL_isBank_329 : decode cL_isBank 329 = .ok (.iload_n 1, 1) := by decide +kernel
theorem dL_isBank_330 : decode cL_isBank 330 = .ok (.invokevirtual 84, 3) := by decide +kernel
theorem dL_isBank_333 : decode cL_isBank 333 = .ok (.iconst 1, 1) := by decide +kernel
theorem dL_isBank_334 : decode cL_isBank 334 = .ok (.if_icmp .ne 7, 3) := by decide +kernel
theorem dL_isBank_337 : decode cL_isBank 337 = .ok (.iconst 1, 1) := by decide +kernel
theorem dL_isBank_338 : decode cL_isBank 338 = .ok (.goto 4, 3) := by decide +kernel
theorem dL_isBank_341 : decode cL_isBank 341 = .ok (.iconst 0, 1) := by decide +kernel
theorem dL_isBank_342 : decode cL_isBank 342 = .ok (.ireturn, 1) := by decide +kernel
theorem dL_isPair_0 : decode cL_isPair 0 = .ok (.aload_n 0, 1) := by decide +kernel
theorem dL_isPair_1 : decode cL_isPair 1 = .ok (.iload_n 1, 1) := by decide +kernel
theorem dL_isPair_2 : decode cL_isPair 2 = .ok (.iload_n 2, 1) := by decide +kernel
theorem dL_isPair_3 : decode cL_isPair 3 = .ok (.invokevirtual 90, 3) := by decide +kernel
theorem dL_isPair_6 : decode cL_isPair 6 = .ok (.iconst 1, 1) := by decide +kernel
theorem dL_isPair_7 : decode cL_isPair 7 = .ok (.if_icmp .ne 7, 3) := by decide +kernel
theorem dL_isPair_10 : decode cL_isPair 10 = .ok (.iconst 1, 1) := by decide +kernel
theorem dL_isPair_11 : decode cL_isPair 11 = .ok (.goto 4, 3) := by decide +kernel
theorem dL_isPair_14 : decode cL_isPair 14 = .ok (.iconst 0, 1) := by decide +kernel
theorem dL_isPair_15 : decode cL_isPair 15 = .ok (.istore_n 3, 1) := by decide +kernel
theorem dL_isPair_16 : decode cL_isPair 16 = .ok (.aload_n 0, 1) := by decide +kernel
theorem dL_isPair_17 : decode cL_isPair 17 = .ok (.iload_n 1, 1) := by decide +kernel
theorem dL_isPair_18 : decode cL_isPair 18 = .ok (.iload_n 2, 1) := by decide +kernel
theorem dL_isPair_19 : decode cL_isPair 19 = .ok (.invokevirtual 93, 3) := by decide +kernel
theorem dL_isPair_22 : decode cL_isPair 22 = .ok (.istore 4, 2) := by decide +kernel
theorem dL_isPair_24 : decode cL_isPair 24 = .ok (.aload_n 0, 1) := by decide +kernel
theorem dL_isPair_25 : decode cL_isPair 25 = .ok (.iload_n 1, 1) := by decide +kernel
theorem dL_isPair_26 : decode cL_isPair 26 = .ok (.iload_n 2, 1) := by decide +kernel
theorem dL_isPair_27 : decode cL_isPair 27 = .ok (.iconst (-1), 1) := by decide +kernel
theorem dL_isPair_28 : decode cL_isPair 28 = .ok (.invokevirtual 96, 3) := by decide +kernel
theorem dL_isPair_31 : decode cL_isPair 31 = .ok (.istore 5, 2) := by decide +kernel
theorem dL_isPair_33 : decode cL_isPair 33 = .ok (.aload_n 0, 1) := by decide +kernel
theorem dL_isPair_34 : decode cL_isPair 34 = .ok (.iload_n 1, 1) := by decide +kernel
theorem dL_isPair_35 : decode cL_isPair 35 = .ok (.iload_n 2, 1) := by decide +kernel
theorem dL_isPair_36 : decode cL_isPair 36 = .ok (.invokevirtual 100, 3) := by decide +kernel
theorem dL_isPair_39 : decode cL_isPair 39 = .ok (.iload_n 3, 1) := by decide +kernel
theorem dL_isPair_40 : decode cL_isPair 40 = .ok (.ifCond .eq 7, 3) := by decide +kernel
theorem dL_isPair_43 : decode cL_isPair 43 = .ok (.iconst 1, 1) := by decide +kernel
theorem dL_isPair_44 : decode cL_isPair 44 = .ok (.goto 4, 3) := by decide +kernel
theorem dL_isPair_47 : decode cL_isPair 47 = .ok (.iconst 0, 1) := by decide +kernel
theorem dL_isPair_48 : decode cL_isPair 48 = .ok (.if_icmp .ne 103, 3) := by decide +kernel
theorem dL_isPair_51 : decode cL_isPair 51 = .ok (.iload_n 3, 1) := by decide +kernel
theorem dL_isPair_52 : decode cL_isPair 52 = .ok (.aload_n 0, 1) := by decide +kernel
theorem dL_isPair_53 : decode cL_isPair 53 = .ok (.iload_n 1, 1) := by decide +kernel
theorem dL_isPair_54 : decode cL_isPair 54 = .ok (.iconst 1, 1) := by decide +kernel
theorem dL_isPair_55 : decode cL_isPair 55 = .ok (.invokevirtual 34, 3) := by decide +kernel
theorem dL_isPair_58 : decode cL_isPair 58 = .ok (.aload_n 0, 1) := by decide +kernel
theorem dL_isPair_59 : decode cL_isPair 59 = .ok (.iload_n 2, 1) := by decide +kernel
theorem dL_isPair_60 : decode cL_isPair 60 = .ok (.iconst 1, 1) := by decide +kernel
theorem dL_isPair_61 : decode cL_isPair 61 = .ok (.invokevirtual 34, 3) := by decide +kernel
theorem dL_isPair_64 : decode cL_isPair 64 = .ok (.if_icmp .ne 7, 3) := by decide +kernel
theorem dL_isPair_67 : decode cL_isPair 67 = .ok (.iconst 1, 1) := by decide +kernel
theorem dL_isPair_68 : decode cL_isPair 68 = .ok (.goto 4, 3) := by decide +kernel
theorem dL_isPair_71 : decode cL_isPair 71 = .ok (.iconst 0, 1) := by decide +kernel
theorem dL_isPair_72 : decode cL_isPair 72 = .ok (.if_icmp .ne 79, 3) := by decide +kernel
theorem dL_isPair_75 : decode cL_isPair 75 = .ok (.iload 4, 2) := by decide +kernel
theorem dL_isPair_77 : decode cL_isPair 77 = .ok (.bipush (-4), 2) := by decide +kernel
theorem dL_isPair_79 : decode cL_isPair 79 = .ok (.if_icmp .ne 7, 3) := by decide +kernel
theorem dL_isPair_82 : decode cL_isPair 82 = .ok (.iconst 1, 1) := by decide +kernel
theorem dL_isPair_83 : decode cL_isPair 83 = .ok (.goto 4, 3) := by decide +kernel
theorem dL_isPair_86 : decode cL_isPair 86 = .ok (.iconst 0, 1) := by decide +kernel
theorem dL_isPair_87 : decode cL_isPair 87 = .ok (.iload_n 3, 1) := by decide +kernel
theorem dL_isPair_88 : decode cL_isPair 88 = .ok (.ifCond .ne 7, 3) := by decide +kernel
theorem dL_isPair_91 : decode cL_isPair 91 = .ok (.iconst 1, 1) := by decide +kernel
theorem dL_isPair_92 : decode cL_isPair 92 = .ok (.goto 4, 3) := by decide +kernel
theorem dL_isPair_95 : decode cL_isPair 95 = .ok (.iconst 0, 1) := by decide +kernel
theorem dL_isPair_96 : decode cL_isPair 96 = .ok (.if_icmp .ne 55, 3) := by decide +kernel
theorem dL_isPair_99 : decode cL_isPair 99 = .ok (.iload 5, 2) := by decide +kernel
theorem dL_isPair_101 : decode cL_isPair 101 = .ok (.bipush (-4), 2) := by decide +kernel
theorem dL_isPair_103 : decode cL_isPair 103 = .ok (.if_icmp .ne 7, 3) := by decide +kernel
theorem dL_isPair_106 : decode cL_isPair 106 = .ok (.iconst 1, 1) := by decide +kernel
theorem dL_isPair_107 : decode cL_isPair 107 = .ok (.goto 4, 3) := by decide +kernel
theorem dL_isPair_110 : decode cL_isPair 110 = .ok (.iconst 0, 1) := by decide +kernel
theorem dL_isPair_111 : decode cL_isPair 111 = .ok (.iload_n 3, 1) := by decide +kernel
theorem dL_isPair_112 : decode cL_isPair 112 = .ok (.ifCond .ne 7, 3) := by decide +kernel
theorem dL_isPair_115 : decode cL_isPair 115 = .ok (.iconst 1, 1) := by decide +kernel
theorem dL_isPair_116 : decode cL_isPair 116 = .ok (.goto 4, 3) := by decide +kernel
theorem dL_isPair_119 : decode cL_isPair 119 = .ok (.iconst 0, 1) := by decide +kernel
theorem dL_isPair_120 : decode cL_isPair 120 = .ok (.if_icmp .ne 31, 3) := by decide +kernel
theorem dL_isPair_123 : decode cL_isPair 123 = .ok (.aload_n 0, 1) := by decide +kernel
theorem dL_isPair_124 : decode cL_isPair 124 = .ok (.iload_n 1, 1) := by decide +kernel
theorem dL_isPair_125 : decode cL_isPair 125 = .ok (.iload_n 2, 1) := by decide +kernel
theorem dL_isPair_126 : decode cL_isPair 126 = .ok (.invokevirtual 103, 3) := by decide +kernel
theorem dL_isPair_129 : decode cL_isPair 129 = .ok (.iload_n 3, 1) := by decide +kernel
theorem dL_isPair_130 : decode cL_isPair 130 = .ok (.ifCond .eq 8, 3) := by decide +kernel
theorem dL_isPair_133 : decode cL_isPair 133 = .ok (.bipush (-4), 2) := by decide +kernel
theorem dL_isPair_135 : decode cL_isPair 135 = .ok (.goto 9, 3) := by decide +kernel
theorem dL_isPair_138 : decode cL_isPair 138 = .ok (.aload_n 0, 1) := by decide +kernel
theorem dL_isPair_139 : decode cL_isPair 139 = .ok (.iload_n 1, 1) := by decide +kernel
theorem dL_isPair_140 : decode cL_isPair 140 = .ok (.iconst 1, 1) := by decide +kernel
theorem dL_isPair_141 : decode cL_isPair 141 = .ok (.invokevirtual 34, 3) := by decide +kernel
theorem dL_isPair_144 : decode cL_isPair 144 = .ok (.if_icmp .ne 7, 3) := by decide +kernel
theorem dL_isPair_147 : decode cL_isPair 147 = .ok (.iconst 1, 1) := by decide +kernel
theorem dL_isPair_148 : decode cL_isPair 148 = .ok (.goto 4, 3) := by decide +kernel
theorem dL_isPair_151 : decode cL_isPair 151 = .ok (.iconst 0, 1) := by decide +kernel
theorem dL_isPair_152 : decode cL_isPair 152 = .ok (.istore 6, 2) := by decide +kernel
theorem dL_isPair_154 : decode cL_isPair 154 = .ok (.iload 6, 2) := by decide +kernel
theorem dL_isPair_156 : decode cL_isPair 156 = .ok (.ifCond .eq 7, 3) := by decide +kernel
theorem dL_isPair_159 : decode cL_isPair 159 = .ok (.iload_n 3, 1) := by decide +kernel
theorem dL_isPair_160 : decode cL_isPair 160 = .ok (.ifCond .ne 23, 3) := by decide +kernel
theorem dL_isPair_163 : decode cL_isPair 163 = .ok (.iload 6, 2) := by decide +kernel
theorem dL_isPair_165 : decode cL_isPair 165 = .ok (.ifCond .eq 16, 3) := by decide +kernel
theorem dL_isPair_168 : decode cL_isPair 168 = .ok (.aload_n 0, 1) := by decide +kernel
theorem dL_isPair_169 : decode cL_isPair 169 = .ok (.iload_n 1, 1) := by decide +kernel
theorem dL_isPair_170 : decode cL_isPair 170 = .ok (.iload_n 2, 1) := by decide +kernel
theorem dL_isPair_171 : decode cL_isPair 171 = .ok (.invokevirtual 81, 3) := by decide +kernel
theorem dL_isPair_174 : decode cL_isPair 174 = .ok (.ifCond .ne 7, 3) := by decide +kernel
theorem dL_isPair_177 : decode cL_isPair 177 = .ok (.iconst 1, 1) := by decide +kernel
theorem dL_isPair_178 : decode cL_isPair 178 = .ok (.goto 4, 3) := by decide +kernel
theorem dL_isPair_181 : decode cL_isPair 181 = .ok (.iconst 0, 1) := by decide +kernel
theorem dL_isPair_182 : decode cL_isPair 182 = .ok (.ireturn, 1) := by decide +kernel
theorem dL_isPair_183 : decode cL_isPair 183 = .ok (.iload 5, 2) := by decide +kernel
theorem dL_isPair_185 : decode cL_isPair 185 = .ok (.aload_n 0, 1) := by decide +kernel
theorem dL_isPair_186 : decode cL_isPair 186 = .ok (.iload_n 1, 1) := by decide +kernel
theorem dL_isPair_187 : decode cL_isPair 187 = .ok (.iconst 2, 1) := by decide +kernel
theorem dL_isPair_188 : decode cL_isPair 188 = .ok (.invokevirtual 34, 3) := by decide +kernel
theorem dL_isPair_191 : decode cL_isPair 191 = .ok (.aload_n 0, 1) := by decide +kernel
theorem dL_isPair_192 : decode cL_isPair 192 = .ok (.iload_n 2, 1) := by decide +kernel
theorem dL_isPair_193 : decode cL_isPair 193 = .ok (.iconst 2, 1) := by decide +kernel
theorem dL_isPair_194 : decode cL_isPair 194 = .ok (.invokevirtual 34, 3) := by decide +kernel
theorem dL_isPair_197 : decode cL_isPair 197 = .ok (.iadd, 1) := by decide +kernel
theorem dL_isPair_198 : decode cL_isPair 198 = .ok (.iconst 2, 1) := by decide +kernel
theorem dL_isPair_199 : decode cL_isPair 199 = .ok (.aload_n 0, 1) := by decide +kernel
theorem dL_isPair_200 : decode cL_isPair 200 = .ok (.iload 4, 2) := by decide +kernel
theorem dL_isPair_202 : decode cL_isPair 202 = .ok (.iconst 2, 1) := by decide +kernel
theorem dL_isPair_203 : decode cL_isPair 203 = .ok (.invokevirtual 34, 3) := by decide +kernel
theorem dL_isPair_206 : decode cL_isPair 206 = .ok (.imul, 1) := by decide +kernel
theorem dL_isPair_207 : decode cL_isPair 207 = .ok (.isub, 1) := by decide +kernel
theorem dL_isPair_208 : decode cL_isPair 208 = .ok (.if_icmp .ne 107, 3) := by decide +kernel
theorem dL_isPair_211 : decode cL_isPair 211 = .ok (.aload_n 0, 1) := by decide +kernel
theorem dL_isPair_212 : decode cL_isPair 212 = .ok (.iload_n 1, 1) := by decide +kernel
theorem dL_isPair_213 : decode cL_isPair 213 = .ok (.iload 4, 2) := by decide +kernel
theorem dL_isPair_215 : decode cL_isPair 215 = .ok (.invokevirtual 84, 3) := by decide +kernel
theorem dL_isPair_218 : decode cL_isPair 218 = .ok (.iconst 1, 1) := by decide +kernel
theorem dL_isPair_219 : decode cL_isPair 219 = .ok (.if_icmp .ne 96, 3) := by decide +kernel
theorem dL_isPair_222 : decode cL_isPair 222 = .ok (.aload_n 0, 1) := by decide +kernel
theorem dL_isPair_223 : decode cL_isPair 223 = .ok (.iload_n 2, 1) := by decide +kernel
theorem dL_isPair_224 : decode cL_isPair 224 = .ok (.iload 4, 2) := by decide +kernel
theorem dL_isPair_226 : decode cL_isPair 226 = .ok (.invokevirtual 84, 3) := by decide +kernel
theorem dL_isPair_229 : decode cL_isPair 229 = .ok (.iconst 1, 1) := by decide +kernel
theorem dL_isPair_230 : decode cL_isPair 230 = .ok (.if_icmp .ne 85, 3) := by decide +kernel
theorem dL_isPair_233 : decode cL_isPair 233 = .ok (.aload_n 0, 1) := by decide +kernel
theorem dL_isPair_234 : decode cL_isPair 234 = .ok (.iload_n 1, 1) := by decide +kernel
theorem dL_isPair_235 : decode cL_isPair 235 = .ok (.iload_n 2, 1) := by decide +kernel
theorem dL_isPair_236 : decode cL_isPair 236 = .ok (.iconst 0, 1) := by decide +kernel
theorem dL_isPair_237 : decode cL_isPair 237 = .ok (.invokevirtual 96, 3) := by decide +kernel
theorem dL_isPair_240 : decode cL_isPair 240 = .ok (.iload_n 1, 1) := by decide +kernel
theorem dL_isPair_241 : decode cL_isPair 241 = .ok (.if_icmp .ne 74, 3) := by decide +kernel
theorem dL_isPair_244 : decode cL_isPair 244 = .ok (.aload_n 0, 1) := by decide +kernel
theorem dL_isPair_245 : decode cL_isPair 245 = .ok (.iload_n 1, 1) := by decide +kernel
theorem dL_isPair_246 : decode cL_isPair 246 = .ok (.iload_n 2, 1) := by decide +kernel
theorem dL_isPair_247 : decode cL_isPair 247 = .ok (.iload 5, 2) := by decide +kernel
theorem dL_isPair_249 : decode cL_isPair 249 = .ok (.invokevirtual 96, 3) := by decide +kernel
theorem dL_isPair_252 : decode cL_isPair 252 = .ok (.iload_n 2, 1) := by decide +kernel
theorem dL_isPair_253 : decode cL_isPair 253 = .ok (.if_icmp .ne 62, 3) := by decide +kernel
theorem dL_isPair_256 : decode cL_isPair 256 = .ok (.aload_n 0, 1) := by decide +kernel
theorem dL_isPair_257 : decode cL_isPair 257 = .ok (.iload_n 1, 1) := by decide +kernel
theorem dL_isPair_258 : decode cL_isPair 258 = .ok (.iload_n 2, 1) := by decide +kernel
theorem dL_isPair_259 : decode cL_isPair 259 = .ok (.iload 5, 2) := by decide +kernel
theorem dL_isPair_261 : decode cL_isPair 261 = .ok (.iconst 1, 1) := by decide +kernel
theorem dL_isPair_262 : decode cL_isPair 262 = .ok (.iadd, 1) := by decide +kernel
theorem dL_isPair_263 : decode cL_isPair 263 = .ok (.invokevirtual 96, 3) := by decide +kernel
theorem dL_isPair_266 : decode cL_isPair 266 = .ok (.iconst (-1), 1) := by decide +kernel
theorem dL_isPair_267 : decode cL_isPair 267 = .ok (.if_icmp .ne 48, 3) := by decide +kernel
theorem dL_isPair_270 : decode cL_isPair 270 = .ok (.iload 5, 2) := by decide +kernel
theorem dL_isPair_272 : decode cL_isPair 272 = .ok (.aload_n 0, 1) := by decide +kernel
theorem dL_isPair_273 : decode cL_isPair 273 = .ok (.iload_n 2, 1) := by decide +kernel
theorem dL_isPair_274 : decode cL_isPair 274 = .ok (.iload_n 1, 1) := by decide +kernel
theorem dL_isPair_275 : decode cL_isPair 275 = .ok (.iconst (-1), 1) := by decide +kernel
theorem dL_isPair_276 : decode cL_isPair 276 = .ok (.invokevirtual 96, 3) := by decide +kernel
theorem dL_isPair_279 : decode cL_isPair 279 = .ok (.if_icmp .ne 36, 3) := by decide +kernel
theorem dL_isPair_282 : decode cL_isPair 282 = .ok (.iload 5, 2) := by decide +kernel
theorem dL_isPair_284 : decode cL_isPair 284 = .ok (.iconst 1, 1) := by decide +kernel
theorem dL_isPair_285 : decode cL_isPair 285 = .ok (.if_icmp .ne 7, 3) := by decide +kernel
theorem dL_isPair_288 : decode cL_isPair 288 = .ok (.iconst 1, 1) := by decide +kernel
theorem dL_isPair_289 : decode cL_isPair 289 = .ok (.goto 4, 3) := by decide +kernel
theorem dL_isPair_292 : decode cL_isPair 292 = .ok (.iconst 0, 1) := by decide +kernel
theorem dL_isPair_293 : decode cL_isPair 293 = .ok (.aload_n 0, 1) := by decide +kernel
theorem dL_isPair_294 : decode cL_isPair 294 = .ok (.iload_n 1, 1) := by decide +kernel
theorem dL_isPair_295 : decode cL_isPair 295 = .ok (.iload_n 2, 1) := by decide +kernel
theorem dL_isPair_296 : decode cL_isPair 296 = .ok (.invokevirtual 81, 3) := by decide +kernel
theorem dL_isPair_299 : decode cL_isPair 299 = .ok (.iconst 1, 1) := by decide +kernel
theorem dL_isPair_300 : decode cL_isPair 300 = .ok (.if_icmp .ne 7, 3) := by decide +kernel
theorem dL_isPair_303 : decode cL_isPair 303 = .ok (.iconst 1, 1) := by decide +kernel
theorem dL_isPair_304 : decode cL_isPair 304 = .ok (.goto 4, 3) := by decide +kernel
theorem dL_isPair_307 : decode cL_isPair 307 = .ok (.iconst 0, 1) := by decide +kernel
theorem dL_isPair_308 : decode cL_isPair 308 = .ok (.if_icmp .ne 7, 3) := by decide +kernel
theorem dL_isPair_311 : decode cL_isPair 311 = .ok (.iconst 1, 1) := by decide +kernel
theorem dL_isPair_312 : decode cL_isPair 312 = .ok (.goto 4, 3) := by decide +kernel
theorem dL_isPair_315 : decode cL_isPair 315 = .ok (.iconst 0, 1) := by decide +kernel
theorem dL_isPair_316 : decode cL_isPair 316 = .ok (.istore 6, 2) := by decide +kernel
theorem dL_isPair_318 : decode cL_isPair 318 = .ok (.iconst 1, 1) := by decide +kernel
theorem dL_isPair_319 : decode cL_isPair 319 = .ok (.istore 7, 2) := by decide +kernel
theorem dL_isPair_321 : decode cL_isPair 321 = .ok (.iload 6, 2) := by decide +kernel
theorem dL_isPair_323 : decode cL_isPair 323 = .ok (.ifCond .eq 71, 3) := by decide +kernel
theorem dL_isPair_326 : decode cL_isPair 326 = .ok (.iload 7, 2) := by decide +kernel
theorem dL_isPair_328 : decode cL_isPair 328 = .ok (.iload 5, 2) := by decide +kernel
theorem dL_isPair_330 : decode cL_isPair 330 = .ok (.if_icmp .gt 64, 3) := by decide +kernel
theorem dL_isPair_333 : decode cL_isPair 333 = .ok (.aload_n 0, 1) := by decide +kernel
theorem dL_isPair_334 : decode cL_isPair 334 = .ok (.aload_n 0, 1) := by decide +kernel
theorem dL_isPair_335 : decode cL_isPair 335 = .ok (.iload_n 1, 1) := by decide +kernel
theorem dL_isPair_336 : decode cL_isPair 336 = .ok (.iload_n 2, 1) := by decide +kernel
theorem dL_isPair_337 : decode cL_isPair 337 = .ok (.iload 7, 2) := by decide +kernel
theorem dL_isPair_339 : decode cL_isPair 339 = .ok (.iconst 1, 1) := by decide +kernel
theorem dL_isPair_340 : decode cL_isPair 340 = .ok (.isub, 1) := by decide +kernel
theorem dL_isPair_341 : decode cL_isPair 341 = .ok (.invokevirtual 96, 3) := by decide +kernel
theorem dL_isPair_344 : decode cL_isPair 344 = .ok (.aload_n 0, 1) := by decide +kernel
theorem dL_isPair_345 : decode cL_isPair 345 = .ok (.iload_n 1, 1) := by decide +kernel
theorem dL_isPair_346 : decode cL_isPair 346 = .ok (.iload_n 2, 1) := by decide +kernel
theorem dL_isPair_347 : decode cL_isPair 347 = .ok (.iload 7, 2) := by decide +kernel
theorem dL_isPair_349 : decode cL_isPair 349 = .ok (.invokevirtual 96, 3) := by decide +kernel
theorem dL_isPair_352 : decode cL_isPair 352 = .ok (.invokevirtual 81, 3) := by decide +kernel
theorem dL_isPair_355 : decode cL_isPair 355 = .ok (.iconst 1, 1) := by decide +kernel
theorem dL_isPair_356 : decode cL_isPair 356 = .ok (.if_icmp .ne 29, 3) := by decide +kernel
theorem dL_isPair_359 : decode cL_isPair 359 = .ok (.aload_n 0, 1) := by decide +kernel
theorem dL_isPair_360 : decode cL_isPair 360 = .ok (.iload_n 1, 1) := by decide +kernel
theorem dL_isPair_361 : decode cL_isPair 361 = .ok (.iload_n 2, 1) := by decide +kernel
theorem dL_isPair_362 : decode cL_isPair 362 = .ok (.iload 7, 2) := by decide +kernel
theorem dL_isPair_364 : decode cL_isPair 364 = .ok (.invokevirtual 96, 3) := by decide +kernel
theorem dL_isPair_367 : decode cL_isPair 367 = .ok (.aload_n 0, 1) := by decide +kernel
theorem dL_isPair_368 : decode cL_isPair 368 = .ok (.iload_n 2, 1) := by decide +kernel
theorem dL_isPair_369 : decode cL_isPair 369 = .ok (.iload_n 1, 1) := by decide +kernel
theorem dL_isPair_370 : decode cL_isPair 370 = .ok (.iload 5, 2) := by decide +kernel
theorem dL_isPair_372 : decode cL_isPair 372 = .ok (.iload 7, 2) := by decide +kernel
theorem dL_isPair_374 : decode cL_isPair 374 = .ok (.isub, 1) := by decide +kernel
theorem dL_isPair_375 : decode cL_isPair 375 = .ok (.invokevirtual 96, 3) := by decide +kernel
theorem dL_isPair_378 : decode cL_isPair 378 = .ok (.if_icmp .ne 7, 3) := by decide +kernel
theorem dL_isPair_381 : decode cL_isPair 381 = .ok (.iconst 1, 1) := by decide +kernel
theorem dL_isPair_382 : decode cL_isPair 382 = .ok (.goto 4, 3) := by decide +kernel
theorem dL_isPair_385 : decode cL_isPair 385 = .ok (.iconst 0, 1) := by decide +kernel
theorem dL_isPair_386 : decode cL_isPair 386 = .ok (.istore 6, 2) := by decide +kernel
theorem dL_isPair_388 : decode cL_isPair 388 = .ok (.iinc 7 1, 3) := by decide +kernel
theorem dL_isPair_391 : decode cL_isPair 391 = .ok (.goto (-70), 3) := by decide +kernel
theorem dL_isPair_394 : decode cL_isPair 394 = .ok (.iload 6, 2) := by decide +kernel
theorem dL_isPair_396 : decode cL_isPair 396 = .ok (.ifCond .eq 22, 3) := by decide +kernel
theorem dL_isPair_399 : decode cL_isPair 399 = .ok (.iload 5, 2) := by decide +kernel
theorem dL_isPair_401 : decode cL_isPair 401 = .ok (.iconst 1, 1) := by decide +kernel
theorem dL_isPair_402 : decode cL_isPair 402 = .ok (.if_icmp .ne 12, 3) := by decide +kernel
theorem dL_isPair_405 : decode cL_isPair 405 = .ok (.aload_n 0, 1) := by decide +kernel
theorem dL_isPair_406 : decode cL_isPair 406 = .ok (.iload_n 1, 1) := by decide +kernel
theorem dL_isPair_407 : decode cL_isPair 407 = .ok (.iload_n 2, 1) := by decide +kernel
theorem dL_isPair_408 : decode cL_isPair 408 = .ok (.invokestatic 106, 3) := by decide +kernel
theorem dL_isPair_411 : decode cL_isPair 411 = .ok (.ifCond .eq 7, 3) := by decide +kernel
theorem dL_isPair_414 : decode cL_isPair 414 = .ok (.iconst 1, 1) := by decide +kernel
theorem dL_isPair_415 : decode cL_isPair 415 = .ok (.goto 4, 3) := by decide +kernel
theorem dL_isPair_418 : decode cL_isPair 418 = .ok (.iconst 0, 1) := by decide +kernel
theorem dL_isPair_419 : decode cL_isPair 419 = .ok (.ireturn, 1) := by decide +kernel
theorem dL_isDiffering_0 : decode cL_isDiffering 0 = .ok (.aload_n 0, 1) := by decide +kernel
theorem dL_isDiffering_1 : decode cL_isDiffering 1 = .ok (.iload_n 1, 1) := by decide +kernel
theorem dL_isDiffering_2 : decode cL_isDiffering 2 = .ok (.iload_n 2, 1) := by decide +kernel
theorem dL_isDiffering_3 : decode cL_isDiffering 3 = .ok (.invokevirtual 84, 3) := by decide +kernel
theorem dL_isDiffering_6 : decode cL_isDiffering 6 = .ok (.iconst 1, 1) := by decide +kernel
theorem dL_isDiffering_7 : decode cL_isDiffering 7 = .ok (.if_icmp .ne 7, 3) := by decide +kernel
theorem dL_isDiffering_10 : decode cL_isDiffering 10 = .ok (.iload_n 1, 1) := by decide +kernel
theorem dL_isDiffering_11 : decode cL_isDiffering 11 = .ok (.goto 4, 3) := by decide +kernel
theorem dL_isDiffering_14 : decode cL_isDiffering 14 = .ok (.iload_n 2, 1) := by decide +kernel
theorem dL_isDiffering_15 : decode cL_isDiffering 15 = .ok (.istore_n 3, 1) := by decide +kernel
theorem dL_isDiffering_16 : decode cL_isDiffering 16 = .ok (.aload_n 0, 1) := by decide +kernel
theorem dL_isDiffering_17 : decode cL_isDiffering 17 = .ok (.iload_n 1, 1) := by decide +kernel
theorem dL_isDiffering_18 : decode cL_isDiffering 18 = .ok (.iload_n 2, 1) := by decide +kernel
theorem dL_isDiffering_19 : decode cL_isDiffering 19 = .ok (.invokevirtual 110, 3) := by decide +kernel
theorem dL_isDiffering_22 : decode cL_isDiffering 22 = .ok (.aload_n 0, 1) := by decide +kernel
theorem dL_isDiffering_23 : decode cL_isDiffering 23 = .ok (.iload_n 1, 1) := by decide +kernel
theorem dL_isDiffering_24 : decode cL_isDiffering 24 = .ok (.iconst 2, 1) := by decide +kernel
theorem dL_isDiffering_25 : decode cL_isDiffering 25 = .ok (.invokevirtual 75, 3) := by decide +kernel
theorem dL_isDiffering_28 : decode cL_isDiffering 28 = .ok (.iconst 2, 1) := by decide +kernel
theorem dL_isDiffering_29 : decode cL_isDiffering 29 = .ok (.aload_n 0, 1) := by decide +kernel
theorem dL_isDiffering_30 : decode cL_isDiffering 30 = .ok (.iload_n 3, 1) := by decide +kernel
theorem dL_isDiffering_31 : decode cL_isDiffering 31 = .ok (.bipush 8, 2) := by decide +kernel
theorem dL_isDiffering_33 : decode cL_isDiffering 33 = .ok (.invokevirtual 34, 3) := by decide +kernel
theorem dL_isDiffering_36 : decode cL_isDiffering 36 = .ok (.imul, 1) := by decide +kernel
theorem dL_isDiffering_37 : decode cL_isDiffering 37 = .ok (.isub, 1) := by decide +kernel
theorem dL_isDiffering_38 : decode cL_isDiffering 38 = .ok (.invokestatic 113, 3) := by decide +kernel
theorem dL_isDiffering_41 : decode cL_isDiffering 41 = .ok (.if_icmp .ne 7, 3) := by decide +kernel
theorem dL_isDiffering_44 : decode cL_isDiffering 44 = .ok (.iconst 1, 1) := by decide +kernel
theorem dL_isDiffering_45 : decode cL_isDiffering 45 = .ok (.goto 4, 3) := by decide +kernel
theorem dL_isDiffering_48 : decode cL_isDiffering 48 = .ok (.iconst 0, 1) := by decide +kernel
theorem dL_isDiffering_49 : decode cL_isDiffering 49 = .ok (.ireturn, 1) := by decide +kernel
theorem dL_areParts_0 : decode cL_areParts 0 = .ok (.aload_n 0, 1) := by decide +kernel
theorem dL_areParts_1 : decode cL_areParts 1 = .ok (.iconst 2, 1) := by decide +kernel
theorem dL_areParts_2 : decode cL_areParts 2 = .ok (.invokevirtual 72, 3) := by decide +kernel
theorem dL_areParts_5 : decode cL_areParts 5 = .ok (.istore_n 1, 1) := by decide +kernel
theorem dL_areParts_6 : decode cL_areParts 6 = .ok (.iconst 0, 1) := by decide +kernel
theorem dL_areParts_7 : decode cL_areParts 7 = .ok (.istore_n 2, 1) := by decide +kernel
theorem dL_areParts_8 : decode cL_areParts 8 = .ok (.iconst 0, 1) := by decide +kernel
theorem dL_areParts_9 : decode cL_areParts 9 = .ok (.istore_n 3, 1) := by decide +kernel
theorem dL_areParts_10 : decode cL_areParts 10 = .ok (.iconst 0, 1) := by decide +kernel
theorem dL_areParts_11 : decode cL_areParts 11 = .ok (.istore 4, 2) := by decide +kernel
theorem dL_areParts_13 : decode cL_areParts 13 = .ok (.aload_n 0, 1) := by decide +kernel
theorem dL_areParts_14 : decode cL_areParts 14 = .ok (.iload_n 1, 1) := by decide +kernel
theorem dL_areParts_15 : decode cL_areParts 15 = .ok (.invokevirtual 118, 3) := by decide +kernel
theorem dL_areParts_18 : decode cL_areParts 18 = .ok (.iconst (-1), 1) := by decide +kernel
theorem dL_areParts_19 : decode cL_areParts 19 = .ok (.if_icmp .ne 16, 3) := by decide +kernel
theorem dL_areParts_22 : decode cL_areParts 22 = .ok (.aload_n 0, 1) := by decide +kernel
theorem dL_areParts_23 : decode cL_areParts 23 = .ok (.iconst (-1), 1) := by decide +kernel
theorem dL_areParts_24 : decode cL_areParts 24 = .ok (.invokevirtual 118, 3) := by decide +kernel
theorem dL_areParts_27 : decode cL_areParts 27 = .ok (.iconst (-1), 1) := by decide +kernel
theorem dL_areParts_28 : decode cL_areParts 28 = .ok (.if_icmp .ne 7, 3) := by decide +kernel
theorem dL_areParts_31 : decode cL_areParts 31 = .ok (.iconst 1, 1) := by decide +kernel
theorem dL_areParts_32 : decode cL_areParts 32 = .ok (.goto 4, 3) := by decide +kernel
theorem dL_areParts_35 : decode cL_areParts 35 = .ok (.iconst 0, 1) := by decide +kernel
theorem dL_areParts_36 : decode cL_areParts 36 = .ok (.istore 5, 2) := by decide +kernel
theorem dL_areParts_38 : decode cL_areParts 38 = .ok (.iconst 0, 1) := by decide +kernel
theorem dL_areParts_39 : decode cL_areParts 39 = .ok (.istore 6, 2) := by decide +kernel
theorem dL_areParts_41 : decode cL_areParts 41 = .ok (.iload 5, 2) := by decide +kernel
theorem dL_areParts_43 : decode cL_areParts 43 = .ok (.ifCond .eq 151, 3) := by decide +kernel
theorem dL_areParts_46 : decode cL_areParts 46 = .ok (.iload 6, 2) := by decide +kernel
theorem dL_areParts_48 : decode cL_areParts 48 = .ok (.iload_n 1, 1) := by decide +kernel
theorem dL_areParts_49 : decode cL_areParts 49 = .ok (.if_icmp .ge 145, 3) := by decide +kernel
theorem dL_areParts_52 : decode cL_areParts 52 = .ok (.aload_n 0, 1) := by decide +kernel
theorem dL_areParts_53 : decode cL_areParts 53 = .ok (.iload 6, 2) := by decide +kernel
theorem dL_areParts_55 : decode cL_areParts 55 = .ok (.invokevirtual 118, 3) := by decide +kernel
theorem dL_areParts_58 : decode cL_areParts 58 = .ok (.istore 7, 2) := by decide +kernel
theorem dL_areParts_60 : decode cL_areParts 60 = .ok (.iload_n 2, 1) := by decide +kernel
theorem dL_areParts_61 : decode cL_areParts 61 = .ok (.aload_n 0, 1) := by decide +kernel
theorem dL_areParts_62 : decode cL_areParts 62 = .ok (.iload 7, 2) := by decide +kernel
theorem dL_areParts_64 : decode cL_areParts 64 = .ok (.iconst 0, 1) := by decide +kernel
theorem dL_areParts_65 : decode cL_areParts 65 = .ok (.invokevirtual 75, 3) := by decide +kernel
theorem dL_areParts_68 : decode cL_areParts 68 = .ok (.iadd, 1) := by decide +kernel
theorem dL_areParts_69 : decode cL_areParts 69 = .ok (.istore_n 2, 1) := by decide +kernel
theorem dL_areParts_70 : decode cL_areParts 70 = .ok (.iload_n 3, 1) := by decide +kernel
theorem dL_areParts_71 : decode cL_areParts 71 = .ok (.aload_n 0, 1) := by decide +kernel
theorem dL_areParts_72 : decode cL_areParts 72 = .ok (.iload 7, 2) := by decide +kernel
theorem dL_areParts_74 : decode cL_areParts 74 = .ok (.iconst 2, 1) := by decide +kernel
theorem dL_areParts_75 : decode cL_areParts 75 = .ok (.invokevirtual 75, 3) := by decide +kernel
theorem dL_areParts_78 : decode cL_areParts 78 = .ok (.iadd, 1) := by decide +kernel
theorem dL_areParts_79 : decode cL_areParts 79 = .ok (.istore_n 3, 1) := by decide +kernel
theorem dL_areParts_80 : decode cL_areParts 80 = .ok (.iload 4, 2) := by decide +kernel
theorem dL_areParts_82 : decode cL_areParts 82 = .ok (.aload_n 0, 1) := by decide +kernel
theorem dL_areParts_83 : decode cL_areParts 83 = .ok (.iload 7, 2) := by decide +kernel
theorem dL_areParts_85 : decode cL_areParts 85 = .ok (.iconst 1, 1) := by decide +kernel
theorem dL_areParts_86 : decode cL_areParts 86 = .ok (.invokevirtual 75, 3) := by decide +kernel
theorem dL_areParts_89 : decode cL_areParts 89 = .ok (.iadd, 1) := by decide +kernel
theorem dL_areParts_90 : decode cL_areParts 90 = .ok (.istore 4, 2) := by decide +kernel
theorem dL_areParts_92 : decode cL_areParts 92 = .ok (.aload_n 0, 1) := by decide +kernel
theorem dL_areParts_93 : decode cL_areParts 93 = .ok (.iload 7, 2) := by decide +kernel
theorem dL_areParts_95 : decode cL_areParts 95 = .ok (.iconst 1, 1) := by decide +kernel
theorem dL_areParts_96 : decode cL_areParts 96 = .ok (.invokevirtual 34, 3) := by decide +kernel
theorem dL_areParts_99 : decode cL_areParts 99 = .ok (.iload 7, 2) := by decide +kernel
theorem dL_areParts_101 : decode cL_areParts 101 = .ok (.if_icmp .ne 84, 3) := by decide +kernel
theorem dL_areParts_104 : decode cL_areParts 104 = .ok (.aload_n 0, 1) := by decide +kernel
theorem dL_areParts_105 : decode cL_areParts 105 = .ok (.iload 7, 2) := by decide +kernel
theorem dL_areParts_107 : decode cL_areParts 107 = .ok (.invokestatic 121, 3) := by decide +kernel
theorem dL_areParts_110 : decode cL_areParts 110 = .ok (.ifCond .eq 75, 3) := by decide +kernel
theorem dL_areParts_113 : decode cL_areParts 113 = .ok (.iload 6, 2) := by decide +kernel
theorem dL_areParts_115 : decode cL_areParts 115 = .ok (.ifCond .eq 20, 3) := by decide +kernel
theorem dL_areParts_118 : decode cL_areParts 118 = .ok (.aload_n 0, 1) := by decide +kernel
theorem dL_areParts_119 : decode cL_areParts 119 = .ok (.aload_n 0, 1) := by decide +kernel
theorem dL_areParts_120 : decode cL_areParts 120 = .ok (.iload 6, 2) := by decide +kernel
theorem dL_areParts_122 : decode cL_areParts 122 = .ok (.iconst 1, 1) := by decide +kernel
theorem dL_areParts_123 : decode cL_areParts 123 = .ok (.isub, 1) := by decide +kernel
theorem dL_areParts_124 : decode cL_areParts 124 = .ok (.invokevirtual 118, 3) := by decide +kernel
theorem dL_areParts_127 : decode cL_areParts 127 = .ok (.iload 7, 2) := by decide +kernel
theorem dL_areParts_129 : decode cL_areParts 129 = .ok (.invokestatic 125, 3) := by decide +kernel
theorem dL_areParts_132 : decode cL_areParts 132 = .ok (.ifCond .eq 53, 3) := by decide +kernel
theorem dL_areParts_135 : decode cL_areParts 135 = .ok (.aload_n 0, 1) := by decide +kernel
theorem dL_areParts_136 : decode cL_areParts 136 = .ok (.aload_n 0, 1) := by decide +kernel
theorem dL_areParts_137 : decode cL_areParts 137 = .ok (.iload 7, 2) := by decide +kernel
theorem dL_areParts_139 : decode cL_areParts 139 = .ok (.invokevirtual 128, 3) := by decide +kernel
theorem dL_areParts_142 : decode cL_areParts 142 = .ok (.iconst 1, 1) := by decide +kernel
theorem dL_areParts_143 : decode cL_areParts 143 = .ok (.invokevirtual 34, 3) := by decide +kernel
theorem dL_areParts_146 : decode cL_areParts 146 = .ok (.iload 7, 2) := by decide +kernel
theorem dL_areParts_148 : decode cL_areParts 148 = .ok (.if_icmp .ne 37, 3) := by decide +kernel
theorem dL_areParts_151 : decode cL_areParts 151 = .ok (.aload_n 0, 1) := by decide +kernel
theorem dL_areParts_152 : decode cL_areParts 152 = .ok (.aload_n 0, 1) := by decide +kernel
theorem dL_areParts_153 : decode cL_areParts 153 = .ok (.iload 7, 2) := by decide +kernel
theorem dL_areParts_155 : decode cL_areParts 155 = .ok (.iconst 4, 1) := by decide +kernel
theorem dL_areParts_156 : decode cL_areParts 156 = .ok (.invokevirtual 75, 3) := by decide +kernel
theorem dL_areParts_159 : decode cL_areParts 159 = .ok (.iconst 0, 1) := by decide +kernel
theorem dL_areParts_160 : decode cL_areParts 160 = .ok (.invokevirtual 34, 3) := by decide +kernel
theorem dL_areParts_163 : decode cL_areParts 163 = .ok (.aload_n 0, 1) := by decide +kernel
theorem dL_areParts_164 : decode cL_areParts 164 = .ok (.iload 7, 2) := by decide +kernel
theorem dL_areParts_166 : decode cL_areParts 166 = .ok (.iconst 0, 1) := by decide +kernel
theorem dL_areParts_167 : decode cL_areParts 167 = .ok (.invokevirtual 75, 3) := by decide +kernel
theorem dL_areParts_170 : decode cL_areParts 170 = .ok (.imul, 1) := by decide +kernel
theorem dL_areParts_171 : decode cL_areParts 171 = .ok (.aload_n 0, 1) := by decide +kernel
theorem dL_areParts_172 : decode cL_areParts 172 = .ok (.iload 7, 2) := by decide +kernel
theorem dL_areParts_174 : decode cL_areParts 174 = .ok (.iconst 2, 1) := by decide +kernel
theorem dL_areParts_175 : decode cL_areParts 175 = .ok (.invokevirtual 75, 3) := by decide +kernel
theorem dL_areParts_178 : decode cL_areParts 178 = .ok (.if_icmp .lt 7, 3) := by decide +kernel
theorem dL_areParts_181 : decode cL_areParts 181 = .ok (.iconst 1, 1) := by decide +kernel
theorem dL_areParts_182 : decode cL_areParts 182 = .ok (.goto 4, 3) := by decide +kernel
theorem dL_areParts_185 : decode cL_areParts 185 = .ok (.iconst 0, 1) := by decide +kernel
theorem dL_areParts_186 : decode cL_areParts 186 = .ok (.istore 5, 2) := by decide +kernel
theorem dL_areParts_188 : decode cL_areParts 188 = .ok (.iinc 6 1, 3) := by decide +kernel
theorem dL_areParts_191 : decode cL_areParts 191 = .ok (.goto (-150), 3) := by decide +kernel
theorem dL_areParts_194 : decode cL_areParts 194 = .ok (.iload 5, 2) := by decide +kernel
theorem dL_areParts_196 : decode cL_areParts 196 = .ok (.ifCond .eq 70, 3) := by decide +kernel
theorem dL_areParts_199 : decode cL_areParts 199 = .ok (.iload_n 2, 1) := by decide +kernel
theorem dL_areParts_200 : decode cL_areParts 200 = .ok (.aload_n 0, 1) := by decide +kernel
theorem dL_areParts_201 : decode cL_areParts 201 = .ok (.iconst 0, 1) := by decide +kernel
theorem dL_areParts_202 : decode cL_areParts 202 = .ok (.invokevirtual 72, 3) := by decide +kernel
theorem dL_areParts_205 : decode cL_areParts 205 = .ok (.if_icmp .ne 61, 3) := by decide +kernel
theorem dL_areParts_208 : decode cL_areParts 208 = .ok (.iload_n 3, 1) := by decide +kernel
theorem dL_areParts_209 : decode cL_areParts 209 = .ok (.aload_n 0, 1) := by decide +kernel
theorem dL_areParts_210 : decode cL_areParts 210 = .ok (.iconst 3, 1) := by decide +kernel
theorem dL_areParts_211 : decode cL_areParts 211 = .ok (.invokevirtual 72, 3) := by decide +kernel
theorem dL_areParts_214 : decode cL_areParts 214 = .ok (.if_icmp .ne 52, 3) := by decide +kernel
theorem dL_areParts_217 : decode cL_areParts 217 = .ok (.iload 4, 2) := by decide +kernel
theorem dL_areParts_219 : decode cL_areParts 219 = .ok (.aload_n 0, 1) := by decide +kernel
theorem dL_areParts_220 : decode cL_areParts 220 = .ok (.iconst 4, 1) := by decide +kernel
theorem dL_areParts_221 : decode cL_areParts 221 = .ok (.invokevirtual 72, 3) := by decide +kernel
theorem dL_areParts_224 : decode cL_areParts 224 = .ok (.if_icmp .ne 42, 3) := by decide +kernel
theorem dL_areParts_227 : decode cL_areParts 227 = .ok (.aload_n 0, 1) := by decide +kernel
theorem dL_areParts_228 : decode cL_areParts 228 = .ok (.iconst 1, 1) := by decide +kernel
theorem dL_areParts_229 : decode cL_areParts 229 = .ok (.invokevirtual 72, 3) := by decide +kernel
theorem dL_areParts_232 : decode cL_areParts 232 = .ok (.aload_n 0, 1) := by decide +kernel
theorem dL_areParts_233 : decode cL_areParts 233 = .ok (.iconst 0, 1) := by decide +kernel
theorem dL_areParts_234 : decode cL_areParts 234 = .ok (.invokevirtual 72, 3) := by decide +kernel
theorem dL_areParts_237 : decode cL_areParts 237 = .ok (.iload_n 1, 1) := by decide +kernel
theorem dL_areParts_238 : decode cL_areParts 238 = .ok (.isub, 1) := by decide +kernel
theorem dL_areParts_239 : decode cL_areParts 239 = .ok (.if_icmp .ne 27, 3) := by decide +kernel
theorem dL_areParts_242 : decode cL_areParts 242 = .ok (.aload_n 0, 1) := by decide +kernel
theorem dL_areParts_243 : decode cL_areParts 243 = .ok (.iconst 5, 1) := by decide +kernel
theorem dL_areParts_244 : decode cL_areParts 244 = .ok (.invokevirtual 72, 3) := by decide +kernel
theorem dL_areParts_247 : decode cL_areParts 247 = .ok (.aload_n 0, 1) := by decide +kernel
theorem dL_areParts_248 : decode cL_areParts 248 = .ok (.bipush 6, 2) := by decide +kernel
theorem dL_areParts_250 : decode cL_areParts 250 = .ok (.invokevirtual 72, 3) := by decide +kernel
theorem dL_areParts_253 : decode cL_areParts 253 = .ok (.isub, 1) := by decide +kernel
theorem dL_areParts_254 : decode cL_areParts 254 = .ok (.aload_n 0, 1) := by decide +kernel
theorem dL_areParts_255 : decode cL_areParts 255 = .ok (.iconst 1, 1) := by decide +kernel
theorem dL_areParts_256 : decode cL_areParts 256 = .ok (.invokevirtual 72, 3) := by decide +kernel
theorem dL_areParts_259 : decode cL_areParts 259 = .ok (.if_icmp .ne 7, 3) := by decide +kernel
theorem dL_areParts_262 : decode cL_areParts 262 = .ok (.iconst 1, 1) := by decide +kernel
theorem dL_areParts_263 : decode cL_areParts 263 = .ok (.goto 4, 3) := by decide +kernel
theorem dL_areParts_266 : decode cL_areParts 266 = .ok (.iconst 0, 1) := by decide +kernel
theorem dL_areParts_267 : decode cL_areParts 267 = .ok (.ireturn, 1) := by decide +kernel
theorem dL_isAhead_0 : decode cL_isAhead 0 = .ok (.aload_n 0, 1) := by decide +kernel
theorem dL_isAhead_1 : decode cL_isAhead 1 = .ok (.iload_n 1, 1) := by decide +kernel
theorem dL_isAhead_2 : decode cL_isAhead 2 = .ok (.iconst 2, 1) := by decide +kernel
theorem dL_isAhead_3 : decode cL_isAhead 3 = .ok (.invokevirtual 75, 3) := by decide +kernel
theorem dL_isAhead_6 : decode cL_isAhead 6 = .ok (.aload_n 0, 1) := by decide +kernel
theorem dL_isAhead_7 : decode cL_isAhead 7 = .ok (.iload_n 2, 1) := by decide +kernel
theorem dL_isAhead_8 : decode cL_isAhead 8 = .ok (.iconst 2, 1) := by decide +kernel
theorem dL_isAhead_9 : decode cL_isAhead 9 = .ok (.invokevirtual 75, 3) := by decide +kernel
theorem dL_isAhead_12 : decode cL_isAhead 12 = .ok (.isub, 1) := by decide +kernel
theorem dL_isAhead_13 : decode cL_isAhead 13 = .ok (.istore_n 3, 1) := by decide +kernel
theorem dL_isAhead_14 : decode cL_isAhead 14 = .ok (.aload_n 0, 1) := by decide +kernel
theorem dL_isAhead_15 : decode cL_isAhead 15 = .ok (.iload_n 1, 1) := by decide +kernel
theorem dL_isAhead_16 : decode cL_isAhead 16 = .ok (.iconst 0, 1) := by decide +kernel
theorem dL_isAhead_17 : decode cL_isAhead 17 = .ok (.invokevirtual 75, 3) := by decide +kernel
theorem dL_isAhead_20 : decode cL_isAhead 20 = .ok (.aload_n 0, 1) := by decide +kernel
theorem dL_isAhead_21 : decode cL_isAhead 21 = .ok (.iload_n 2, 1) := by decide +kernel
theorem dL_isAhead_22 : decode cL_isAhead 22 = .ok (.iconst 0, 1) := by decide +kernel
theorem dL_isAhead_23 : decode cL_isAhead 23 = .ok (.invokevirtual 75, 3) := by decide +kernel
theorem dL_isAhead_26 : decode cL_isAhead 26 = .ok (.isub, 1) := by decide +kernel
theorem dL_isAhead_27 : decode cL_isAhead 27 = .ok (.istore 4, 2) := by decide +kernel
theorem dL_isAhead_29 : decode cL_isAhead 29 = .ok (.iload_n 3, 1) := by decide +kernel
theorem dL_isAhead_30 : decode cL_isAhead 30 = .ok (.ifCond .gt 22, 3) := by decide +kernel
theorem dL_isAhead_33 : decode cL_isAhead 33 = .ok (.iload_n 3, 1) := by decide +kernel
theorem dL_isAhead_34 : decode cL_isAhead 34 = .ok (.ifCond .ne 22, 3) := by decide +kernel
theorem dL_isAhead_37 : decode cL_isAhead 37 = .ok (.iload 4, 2) := by decide +kernel
theorem dL_isAhead_39 : decode cL_isAhead 39 = .ok (.ifCond .gt 13, 3) := by decide +kernel
theorem dL_isAhead_42 : decode cL_isAhead 42 = .ok (.iload 4, 2) := by decide +kernel
theorem dL_isAhead_44 : decode cL_isAhead 44 = .ok (.ifCond .ne 12, 3) := by decide +kernel
theorem dL_isAhead_47 : decode cL_isAhead 47 = .ok (.iload_n 1, 1) := by decide +kernel
theorem dL_isAhead_48 : decode cL_isAhead 48 = .ok (.iload_n 2, 1) := by decide +kernel
theorem dL_isAhead_49 : decode cL_isAhead 49 = .ok (.if_icmp .ge 7, 3) := by decide +kernel
theorem dL_isAhead_52 : decode cL_isAhead 52 = .ok (.iconst 1, 1) := by decide +kernel
theorem dL_isAhead_53 : decode cL_isAhead 53 = .ok (.goto 4, 3) := by decide +kernel
theorem dL_isAhead_56 : decode cL_isAhead 56 = .ok (.iconst 0, 1) := by decide +kernel
theorem dL_isAhead_57 : decode cL_isAhead 57 = .ok (.ireturn, 1) := by decide +kernel
theorem dL_isFit_0 : decode cL_isFit 0 = .ok (.aload_n 0, 1) := by decide +kernel
theorem dL_isFit_1 : decode cL_isFit 1 = .ok (.invokestatic 131, 3) := by decide +kernel
theorem dL_isFit_4 : decode cL_isFit 4 = .ok (.ifCond .eq 15, 3) := by decide +kernel
theorem dL_isFit_7 : decode cL_isFit 7 = .ok (.aload_n 0, 1) := by decide +kernel
theorem dL_isFit_8 : decode cL_isFit 8 = .ok (.invokevirtual 135, 3) := by decide +kernel
theorem dL_isFit_11 : decode cL_isFit 11 = .ok (.iconst 1, 1) := by decide +kernel
theorem dL_isFit_12 : decode cL_isFit 12 = .ok (.if_icmp .ne 7, 3) := by decide +kernel
theorem dL_isFit_15 : decode cL_isFit 15 = .ok (.iconst 1, 1) := by decide +kernel
theorem dL_isFit_16 : decode cL_isFit 16 = .ok (.goto 4, 3) := by decide +kernel
theorem dL_isFit_19 : decode cL_isFit 19 = .ok (.iconst 0, 1) := by decide +kernel
theorem dL_isFit_20 : decode cL_isFit 20 = .ok (.istore_n 1, 1) := by decide +kernel
theorem dL_isFit_21 : decode cL_isFit 21 = .ok (.iconst 0, 1) := by decide +kernel
theorem dL_isFit_22 : decode cL_isFit 22 = .ok (.istore_n 2, 1) := by decide +kernel
theorem dL_isFit_23 : decode cL_isFit 23 = .ok (.iconst 0, 1) := by decide +kernel
theorem dL_isFit_24 : decode cL_isFit 24 = .ok (.istore_n 3, 1) := by decide +kernel
theorem dL_isFit_25 : decode cL_isFit 25 = .ok (.iconst 0, 1) := by decide +kernel
theorem dL_isFit_26 : decode cL_isFit 26 = .ok (.istore 4, 2) := by decide +kernel
theorem dL_isFit_28 : decode cL_isFit 28 = .ok (.iload_n 1, 1) := by decide +kernel
theorem dL_isFit_29 : decode cL_isFit 29 = .ok (.ifCond .eq 80, 3) := by decide +kernel
theorem dL_isFit_32 : decode cL_isFit 32 = .ok (.iload 4, 2) := by decide +kernel
theorem dL_isFit_34 : decode cL_isFit 34 = .ok (.aload_n 0, 1) := by decide +kernel
theorem dL_isFit_35 : decode cL_isFit 35 = .ok (.iconst 0, 1) := by decide +kernel
theorem dL_isFit_36 : decode cL_isFit 36 = .ok (.invokevirtual 72, 3) := by decide +kernel
theorem dL_isFit_39 : decode cL_isFit 39 = .ok (.if_icmp .ge 70, 3) := by decide +kernel
theorem dL_isFit_42 : decode cL_isFit 42 = .ok (.iload_n 2, 1) := by decide +kernel
theorem dL_isFit_43 : decode cL_isFit 43 = .ok (.aload_n 0, 1) := by decide +kernel
theorem dL_isFit_44 : decode cL_isFit 44 = .ok (.iload 4, 2) := by decide +kernel
theorem dL_isFit_46 : decode cL_isFit 46 = .ok (.iconst 2, 1) := by decide +kernel
theorem dL_isFit_47 : decode cL_isFit 47 = .ok (.invokevirtual 34, 3) := by decide +kernel
theorem dL_isFit_50 : decode cL_isFit 50 = .ok (.iadd, 1) := by decide +kernel
theorem dL_isFit_51 : decode cL_isFit 51 = .ok (.istore_n 2, 1) := by decide +kernel
theorem dL_isFit_52 : decode cL_isFit 52 = .ok (.iload_n 3, 1) := by decide +kernel
theorem dL_isFit_53 : decode cL_isFit 53 = .ok (.aload_n 0, 1) := by decide +kernel
theorem dL_isFit_54 : decode cL_isFit 54 = .ok (.iload 4, 2) := by decide +kernel
theorem dL_isFit_56 : decode cL_isFit 56 = .ok (.iconst 2, 1) := by decide +kernel
theorem dL_isFit_57 : decode cL_isFit 57 = .ok (.invokevirtual 34, 3) := by decide +kernel
theorem dL_isFit_60 : decode cL_isFit 60 = .ok (.invokestatic 138, 3) := by decide +kernel
theorem dL_isFit_63 : decode cL_isFit 63 = .ok (.istore_n 3, 1) := by decide +kernel
theorem dL_isFit_64 : decode cL_isFit 64 = .ok (.aload_n 0, 1) := by decide +kernel
theorem dL_isFit_65 : decode cL_isFit 65 = .ok (.iload 4, 2) := by decide +kernel
theorem dL_isFit_67 : decode cL_isFit 67 = .ok (.invokestatic 141, 3) := by decide +kernel
theorem dL_isFit_70 : decode cL_isFit 70 = .ok (.istore_n 1, 1) := by decide +kernel
theorem dL_isFit_71 : decode cL_isFit 71 = .ok (.iconst 0, 1) := by decide +kernel
theorem dL_isFit_72 : decode cL_isFit 72 = .ok (.istore 5, 2) := by decide +kernel
theorem dL_isFit_74 : decode cL_isFit 74 = .ok (.iload_n 1, 1) := by decide +kernel
theorem dL_isFit_75 : decode cL_isFit 75 = .ok (.ifCond .eq 28, 3) := by decide +kernel
theorem dL_isFit_78 : decode cL_isFit 78 = .ok (.iload 5, 2) := by decide +kernel
theorem dL_isFit_80 : decode cL_isFit 80 = .ok (.aload_n 0, 1) := by decide +kernel
theorem dL_isFit_81 : decode cL_isFit 81 = .ok (.iconst 0, 1) := by decide +kernel
theorem dL_isFit_82 : decode cL_isFit 82 = .ok (.invokevirtual 72, 3) := by decide +kernel
theorem dL_isFit_85 : decode cL_isFit 85 = .ok (.if_icmp .ge 18, 3) := by decide +kernel
theorem dL_isFit_88 : decode cL_isFit 88 = .ok (.aload_n 0, 1) := by decide +kernel
theorem dL_isFit_89 : decode cL_isFit 89 = .ok (.iload 4, 2) := by decide +kernel
theorem dL_isFit_91 : decode cL_isFit 91 = .ok (.iload 5, 2) := by decide +kernel
theorem dL_isFit_93 : decode cL_isFit 93 = .ok (.invokestatic 144, 3) := by decide +kernel
theorem dL_isFit_96 : decode cL_isFit 96 = .ok (.istore_n 1, 1) := by decide +kernel
theorem dL_isFit_97 : decode cL_isFit 97 = .ok (.iinc 5 1, 3) := by decide +kernel
theorem dL_isFit_100 : decode cL_isFit 100 = .ok (.goto (-26), 3) := by decide +kernel
theorem dL_isFit_103 : decode cL_isFit 103 = .ok (.iinc 4 1, 3) := by decide +kernel
theorem dL_isFit_106 : decode cL_isFit 106 = .ok (.goto (-78), 3) := by decide +kernel
theorem dL_isFit_109 : decode cL_isFit 109 = .ok (.iload_n 1, 1) := by decide +kernel
theorem dL_isFit_110 : decode cL_isFit 110 = .ok (.ifCond .eq 49, 3) := by decide +kernel
theorem dL_isFit_113 : decode cL_isFit 113 = .ok (.iload_n 3, 1) := by decide +kernel
theorem dL_isFit_114 : decode cL_isFit 114 = .ok (.aload_n 0, 1) := by decide +kernel
theorem dL_isFit_115 : decode cL_isFit 115 = .ok (.bipush 8, 2) := by decide +kernel
theorem dL_isFit_117 : decode cL_isFit 117 = .ok (.invokevirtual 72, 3) := by decide +kernel
theorem dL_isFit_120 : decode cL_isFit 120 = .ok (.if_icmp .ne 39, 3) := by decide +kernel
theorem dL_isFit_123 : decode cL_isFit 123 = .ok (.aload_n 0, 1) := by decide +kernel
theorem dL_isFit_124 : decode cL_isFit 124 = .ok (.invokevirtual 147, 3) := by decide +kernel
theorem dL_isFit_127 : decode cL_isFit 127 = .ok (.aload_n 0, 1) := by decide +kernel
theorem dL_isFit_128 : decode cL_isFit 128 = .ok (.iconst 0, 1) := by decide +kernel
theorem dL_isFit_129 : decode cL_isFit 129 = .ok (.invokevirtual 72, 3) := by decide +kernel
theorem dL_isFit_132 : decode cL_isFit 132 = .ok (.ifCond .ne 8, 3) := by decide +kernel
theorem dL_isFit_135 : decode cL_isFit 135 = .ok (.bipush (-4), 2) := by decide +kernel
theorem dL_isFit_137 : decode cL_isFit 137 = .ok (.goto 15, 3) := by decide +kernel
theorem dL_isFit_140 : decode cL_isFit 140 = .ok (.iload_n 2, 1) := by decide +kernel
theorem dL_isFit_141 : decode cL_isFit 141 = .ok (.i2f, 1) := by decide +kernel
theorem dL_isFit_142 : decode cL_isFit 142 = .ok (.aload_n 0, 1) := by decide +kernel
theorem dL_isFit_143 : decode cL_isFit 143 = .ok (.iconst 0, 1) := by decide +kernel
theorem dL_isFit_144 : decode cL_isFit 144 = .ok (.invokevirtual 72, 3) := by decide +kernel
theorem dL_isFit_147 : decode cL_isFit 147 = .ok (.i2f, 1) := by decide +kernel
theorem dL_isFit_148 : decode cL_isFit 148 = .ok (.fdiv, 1) := by decide +kernel
theorem dL_isFit_149 : decode cL_isFit 149 = .ok (.invokestatic 150, 3) := by decide +kernel
theorem dL_isFit_152 : decode cL_isFit 152 = .ok (.if_icmp .ne 7, 3) := by decide +kernel
theorem dL_isFit_155 : decode cL_isFit 155 = .ok (.iconst 1, 1) := by decide +kernel
theorem dL_isFit_156 : decode cL_isFit 156 = .ok (.goto 4, 3) := by decide +kernel
theorem dL_isFit_159 : decode cL_isFit 159 = .ok (.iconst 0, 1) := by decide +kernel
theorem dL_isFit_160 : decode cL_isFit 160 = .ok (.ireturn, 1) := by decide +kernel
theorem dL_isTiedAgain_0 : decode cL_isTiedAgain 0 = .ok (.aload_n 0, 1) := by decide +kernel
theorem dL_isTiedAgain_1 : decode cL_isTiedAgain 1 = .ok (.invokestatic 156, 3) := by decide +kernel
theorem dL_isTiedAgain_4 : decode cL_isTiedAgain 4 = .ok (.lstore_n 3, 1) := by decide +kernel
theorem dL_isTiedAgain_5 : decode cL_isTiedAgain 5 = .ok (.aload_n 0, 1) := by decide +kernel
theorem dL_isTiedAgain_6 : decode cL_isTiedAgain 6 = .ok (.iload_n 1, 1) := by decide +kernel
theorem dL_isTiedAgain_7 : decode cL_isTiedAgain 7 = .ok (.iconst 0, 1) := by decide +kernel
theorem dL_isTiedAgain_8 : decode cL_isTiedAgain 8 = .ok (.invokevirtual 75, 3) := by decide +kernel
theorem dL_isTiedAgain_11 : decode cL_isTiedAgain 11 = .ok (.istore 5, 2) := by decide +kernel
theorem dL_isTiedAgain_13 : decode cL_isTiedAgain 13 = .ok (.aload_n 0, 1) := by decide +kernel
theorem dL_isTiedAgain_14 : decode cL_isTiedAgain 14 = .ok (.iload_n 1, 1) := by decide +kernel
theorem dL_isTiedAgain_15 : decode cL_isTiedAgain 15 = .ok (.iload_n 2, 1) := by decide +kernel
theorem dL_isTiedAgain_16 : decode cL_isTiedAgain 16 = .ok (.invokevirtual 110, 3) := by decide +kernel
theorem dL_isTiedAgain_19 : decode cL_isTiedAgain 19 = .ok (.istore 6, 2) := by decide +kernel
theorem dL_isTiedAgain_21 : decode cL_isTiedAgain 21 = .ok (.aload_n 0, 1) := by decide +kernel
theorem dL_isTiedAgain_22 : decode cL_isTiedAgain 22 = .ok (.iload_n 1, 1) := by decide +kernel
theorem dL_isTiedAgain_23 : decode cL_isTiedAgain 23 = .ok (.iload_n 2, 1) := by decide +kernel
theorem dL_isTiedAgain_24 : decode cL_isTiedAgain 24 = .ok (.invokevirtual 31, 3) := by decide +kernel
theorem dL_isTiedAgain_27 : decode cL_isTiedAgain 27 = .ok (.istore 7, 2) := by decide +kernel
theorem dL_isTiedAgain_29 : decode cL_isTiedAgain 29 = .ok (.iload 7, 2) := by decide +kernel
theorem dL_isTiedAgain_31 : decode cL_isTiedAgain 31 = .ok (.ifCond .ge 33, 3) := by decide +kernel
theorem dL_isTiedAgain_34 : decode cL_isTiedAgain 34 = .ok (.aload_n 0, 1) := by decide +kernel
theorem dL_isTiedAgain_35 : decode cL_isTiedAgain 35 = .ok (.invokestatic 156, 3) := by decide +kernel
theorem dL_isTiedAgain_38 : decode cL_isTiedAgain 38 = .ok (.lload_n 3, 1) := by decide +kernel
theorem dL_isTiedAgain_39 : decode cL_isTiedAgain 39 = .ok (.lcmp, 1) := by decide +kernel
theorem dL_isTiedAgain_40 : decode cL_isTiedAgain 40 = .ok (.ifCond .ne 22, 3) := by decide +kernel
theorem dL_isTiedAgain_43 : decode cL_isTiedAgain 43 = .ok (.iload 7, 2) := by decide +kernel
theorem dL_isTiedAgain_45 : decode cL_isTiedAgain 45 = .ok (.iconst (-1), 1) := by decide +kernel
theorem dL_isTiedAgain_46 : decode cL_isTiedAgain 46 = .ok (.if_icmp .eq 12, 3) := by decide +kernel
theorem dL_isTiedAgain_49 : decode cL_isTiedAgain 49 = .ok (.aload_n 0, 1) := by decide +kernel
theorem dL_isTiedAgain_50 : decode cL_isTiedAgain 50 = .ok (.iconst 0, 1) := by decide +kernel
theorem dL_isTiedAgain_51 : decode cL_isTiedAgain 51 = .ok (.invokevirtual 160, 3) := by decide +kernel
theorem dL_isTiedAgain_54 : decode cL_isTiedAgain 54 = .ok (.iconst 4, 1) := by decide +kernel
theorem dL_isTiedAgain_55 : decode cL_isTiedAgain 55 = .ok (.if_icmp .ne 7, 3) := by decide +kernel
theorem dL_isTiedAgain_58 : decode cL_isTiedAgain 58 = .ok (.iconst 1, 1) := by decide +kernel
theorem dL_isTiedAgain_59 : decode cL_isTiedAgain 59 = .ok (.goto 4, 3) := by decide +kernel
theorem dL_isTiedAgain_62 : decode cL_isTiedAgain 62 = .ok (.iconst 0, 1) := by decide +kernel
theorem dL_isTiedAgain_63 : decode cL_isTiedAgain 63 = .ok (.ireturn, 1) := by decide +kernel
theorem dL_isTiedAgain_64 : decode cL_isTiedAgain 64 = .ok (.iload 7, 2) := by decide +kernel
theorem dL_isTiedAgain_66 : decode cL_isTiedAgain 66 = .ok (.iload_n 1, 1) := by decide +kernel
theorem dL_isTiedAgain_67 : decode cL_isTiedAgain 67 = .ok (.if_icmp .eq 9, 3) := by decide +kernel
theorem dL_isTiedAgain_70 : decode cL_isTiedAgain 70 = .ok (.iload 7, 2) := by decide +kernel
theorem dL_isTiedAgain_72 : decode cL_isTiedAgain 72 = .ok (.iload_n 2, 1) := by decide +kernel
theorem dL_isTiedAgain_73 : decode cL_isTiedAgain 73 = .ok (.if_icmp .ne 49, 3) := by decide +kernel
theorem dL_isTiedAgain_76 : decode cL_isTiedAgain 76 = .ok (.aload_n 0, 1) := by decide +kernel
theorem dL_isTiedAgain_77 : decode cL_isTiedAgain 77 = .ok (.iload 7, 2) := by decide +kernel
theorem dL_isTiedAgain_79 : decode cL_isTiedAgain 79 = .ok (.iconst 1, 1) := by decide +kernel
theorem dL_isTiedAgain_80 : decode cL_isTiedAgain 80 = .ok (.invokevirtual 34, 3) := by decide +kernel
theorem dL_isTiedAgain_83 : decode cL_isTiedAgain 83 = .ok (.iload 7, 2) := by decide +kernel
theorem dL_isTiedAgain_85 : decode cL_isTiedAgain 85 = .ok (.if_icmp .ne 37, 3) := by decide +kernel
theorem dL_isTiedAgain_88 : decode cL_isTiedAgain 88 = .ok (.aload_n 0, 1) := by decide +kernel
theorem dL_isTiedAgain_89 : decode cL_isTiedAgain 89 = .ok (.iload_n 1, 1) := by decide +kernel
theorem dL_isTiedAgain_90 : decode cL_isTiedAgain 90 = .ok (.iload_n 2, 1) := by decide +kernel
theorem dL_isTiedAgain_91 : decode cL_isTiedAgain 91 = .ok (.invokevirtual 90, 3) := by decide +kernel
theorem dL_isTiedAgain_94 : decode cL_isTiedAgain 94 = .ok (.ifCond .ne 28, 3) := by decide +kernel
theorem dL_isTiedAgain_97 : decode cL_isTiedAgain 97 = .ok (.aload_n 0, 1) := by decide +kernel
theorem dL_isTiedAgain_98 : decode cL_isTiedAgain 98 = .ok (.iload_n 1, 1) := by decide +kernel
theorem dL_isTiedAgain_99 : decode cL_isTiedAgain 99 = .ok (.iconst 2, 1) := by decide +kernel
theorem dL_isTiedAgain_100 : decode cL_isTiedAgain 100 = .ok (.invokevirtual 75, 3) := by decide +kernel
theorem dL_isTiedAgain_103 : decode cL_isTiedAgain 103 = .ok (.aload_n 0, 1) := by decide +kernel
theorem dL_isTiedAgain_104 : decode cL_isTiedAgain 104 = .ok (.iload_n 2, 1) := by decide +kernel
theorem dL_isTiedAgain_105 : decode cL_isTiedAgain 105 = .ok (.iconst 2, 1) := by decide +kernel
theorem dL_isTiedAgain_106 : decode cL_isTiedAgain 106 = .ok (.invokevirtual 75, 3) := by decide +kernel
theorem dL_isTiedAgain_109 : decode cL_isTiedAgain 109 = .ok (.isub, 1) := by decide +kernel
theorem dL_isTiedAgain_110 : decode cL_isTiedAgain 110 = .ok (.invokestatic 113, 3) := by decide +kernel
theorem dL_isTiedAgain_113 : decode cL_isTiedAgain 113 = .ok (.iload 6, 2) := by decide +kernel
theorem dL_isTiedAgain_115 : decode cL_isTiedAgain 115 = .ok (.if_icmp .ne 7, 3) := by decide +kernel
theorem dL_isTiedAgain_118 : decode cL_isTiedAgain 118 = .ok (.iconst 1, 1) := by decide +kernel
theorem dL_isTiedAgain_119 : decode cL_isTiedAgain 119 = .ok (.goto 4, 3) := by decide +kernel
theorem dL_isTiedAgain_122 : decode cL_isTiedAgain 122 = .ok (.iconst 0, 1) := by decide +kernel
theorem dL_isTiedAgain_123 : decode cL_isTiedAgain 123 = .ok (.istore 8, 2) := by decide +kernel
theorem dL_isTiedAgain_125 : decode cL_isTiedAgain 125 = .ok (.iload 8, 2) := by decide +kernel
theorem dL_isTiedAgain_127 : decode cL_isTiedAgain 127 = .ok (.ifCond .eq 35, 3) := by decide +kernel
theorem dL_isTiedAgain_130 : decode cL_isTiedAgain 130 = .ok (.aload_n 0, 1) := by decide +kernel
theorem dL_isTiedAgain_131 : decode cL_isTiedAgain 131 = .ok (.iload_n 1, 1) := by decide +kernel
theorem dL_isTiedAgain_132 : decode cL_isTiedAgain 132 = .ok (.iload_n 2, 1) := by decide +kernel
theorem dL_isTiedAgain_133 : decode cL_isTiedAgain 133 = .ok (.invokevirtual 27, 3) := by decide +kernel
theorem dL_isTiedAgain_136 : decode cL_isTiedAgain 136 = .ok (.iload 5, 2) := by decide +kernel
theorem dL_isTiedAgain_138 : decode cL_isTiedAgain 138 = .ok (.if_icmp .ne 24, 3) := by decide +kernel
theorem dL_isTiedAgain_141 : decode cL_isTiedAgain 141 = .ok (.aload_n 0, 1) := by decide +kernel
theorem dL_isTiedAgain_142 : decode cL_isTiedAgain 142 = .ok (.iload_n 1, 1) := by decide +kernel
theorem dL_isTiedAgain_143 : decode cL_isTiedAgain 143 = .ok (.iload_n 2, 1) := by decide +kernel
theorem dL_isTiedAgain_144 : decode cL_isTiedAgain 144 = .ok (.invokevirtual 81, 3) := by decide +kernel
theorem dL_isTiedAgain_147 : decode cL_isTiedAgain 147 = .ok (.iconst 1, 1) := by decide +kernel
theorem dL_isTiedAgain_148 : decode cL_isTiedAgain 148 = .ok (.if_icmp .ne 14, 3) := by decide +kernel
theorem dL_isTiedAgain_151 : decode cL_isTiedAgain 151 = .ok (.aload_n 0, 1) := by decide +kernel
theorem dL_isTiedAgain_152 : decode cL_isTiedAgain 152 = .ok (.invokestatic 131, 3) := by decide +kernel
theorem dL_isTiedAgain_155 : decode cL_isTiedAgain 155 = .ok (.ifCond .eq 7, 3) := by decide +kernel
theorem dL_isTiedAgain_158 : decode cL_isTiedAgain 158 = .ok (.iconst 1, 1) := by decide +kernel
theorem dL_isTiedAgain_159 : decode cL_isTiedAgain 159 = .ok (.goto 4, 3) := by decide +kernel
theorem dL_isTiedAgain_162 : decode cL_isTiedAgain 162 = .ok (.iconst 0, 1) := by decide +kernel
theorem dL_isTiedAgain_163 : decode cL_isTiedAgain 163 = .ok (.istore 8, 2) := by decide +kernel
theorem dL_isTiedAgain_165 : decode cL_isTiedAgain 165 = .ok (.iload 8, 2) := by decide +kernel
theorem dL_isTiedAgain_167 : decode cL_isTiedAgain 167 = .ok (.ifCond .eq 30, 3) := by decide +kernel
theorem dL_isTiedAgain_170 : decode cL_isTiedAgain 170 = .ok (.aload_n 0, 1) := by decide +kernel
theorem dL_isTiedAgain_171 : decode cL_isTiedAgain 171 = .ok (.invokevirtual 65, 3) := by decide +kernel
theorem dL_isTiedAgain_174 : decode cL_isTiedAgain 174 = .ok (.ifCond .lt 23, 3) := by decide +kernel
theorem dL_isTiedAgain_177 : decode cL_isTiedAgain 177 = .ok (.aload_n 0, 1) := by decide +kernel
theorem dL_isTiedAgain_178 : decode cL_isTiedAgain 178 = .ok (.invokevirtual 65, 3) := by decide +kernel
theorem dL_isTiedAgain_181 : decode cL_isTiedAgain 181 = .ok (.ifCond .lt 16, 3) := by decide +kernel
theorem dL_isTiedAgain_184 : decode cL_isTiedAgain 184 = .ok (.aload_n 0, 1) := by decide +kernel
theorem dL_isTiedAgain_185 : decode cL_isTiedAgain 185 = .ok (.invokestatic 156, 3) := by decide +kernel
theorem dL_isTiedAgain_188 : decode cL_isTiedAgain 188 = .ok (.lload_n 3, 1) := by decide +kernel
theorem dL_isTiedAgain_189 : decode cL_isTiedAgain 189 = .ok (.lcmp, 1) := by decide +kernel
theorem dL_isTiedAgain_190 : decode cL_isTiedAgain 190 = .ok (.ifCond .ne 7, 3) := by decide +kernel
theorem dL_isTiedAgain_193 : decode cL_isTiedAgain 193 = .ok (.iconst 1, 1) := by decide +kernel
theorem dL_isTiedAgain_194 : decode cL_isTiedAgain 194 = .ok (.goto 4, 3) := by decide +kernel
theorem dL_isTiedAgain_197 : decode cL_isTiedAgain 197 = .ok (.iconst 0, 1) := by decide +kernel
theorem dL_isTiedAgain_198 : decode cL_isTiedAgain 198 = .ok (.ireturn, 1) := by decide +kernel
theorem dL_law_0 : decode cL_law 0 = .ok (.new 19, 3) := by decide +kernel
theorem dL_law_3 : decode cL_law 3 = .ok (.dup, 1) := by decide +kernel
theorem dL_law_4 : decode cL_law 4 = .ok (.invokespecial 163, 3) := by decide +kernel
theorem dL_law_7 : decode cL_law 7 = .ok (.astore_n 1, 1) := by decide +kernel
theorem dL_law_8 : decode cL_law 8 = .ok (.iconst 0, 1) := by decide +kernel
theorem dL_law_9 : decode cL_law 9 = .ok (.istore_n 2, 1) := by decide +kernel
theorem dL_law_10 : decode cL_law 10 = .ok (.iload_n 2, 1) := by decide +kernel
theorem dL_law_11 : decode cL_law 11 = .ok (.bipush 6, 2) := by decide +kernel
theorem dL_law_13 : decode cL_law 13 = .ok (.if_icmp .ge 20, 3) := by decide +kernel
theorem dL_law_16 : decode cL_law 16 = .ok (.aload_n 1, 1) := by decide +kernel
theorem dL_law_17 : decode cL_law 17 = .ok (.bipush 10, 2) := by decide +kernel
theorem dL_law_19 : decode cL_law 19 = .ok (.iload_n 2, 1) := by decide +kernel
theorem dL_law_20 : decode cL_law 20 = .ok (.imul, 1) := by decide +kernel
theorem dL_law_21 : decode cL_law 21 = .ok (.iconst 5, 1) := by decide +kernel
theorem dL_law_22 : decode cL_law 22 = .ok (.iadd, 1) := by decide +kernel
theorem dL_law_23 : decode cL_law 23 = .ok (.invokevirtual 24, 3) := by decide +kernel
theorem dL_law_26 : decode cL_law 26 = .ok (.pop, 1) := by decide +kernel
theorem dL_law_27 : decode cL_law 27 = .ok (.iinc 2 1, 3) := by decide +kernel
theorem dL_law_30 : decode cL_law 30 = .ok (.goto (-20), 3) := by decide +kernel
theorem dL_law_33 : decode cL_law 33 = .ok (.aload_n 1, 1) := by decide +kernel
theorem dL_law_34 : decode cL_law 34 = .ok (.iconst 0, 1) := by decide +kernel
theorem dL_law_35 : decode cL_law 35 = .ok (.iconst 1, 1) := by decide +kernel
theorem dL_law_36 : decode cL_law 36 = .ok (.invokevirtual 27, 3) := by decide +kernel
theorem dL_law_39 : decode cL_law 39 = .ok (.pop, 1) := by decide +kernel
theorem dL_law_40 : decode cL_law 40 = .ok (.aload_n 1, 1) := by decide +kernel
theorem dL_law_41 : decode cL_law 41 = .ok (.iconst 0, 1) := by decide +kernel
theorem dL_law_42 : decode cL_law 42 = .ok (.iconst 2, 1) := by decide +kernel
theorem dL_law_43 : decode cL_law 43 = .ok (.invokevirtual 27, 3) := by decide +kernel
theorem dL_law_46 : decode cL_law 46 = .ok (.pop, 1) := by decide +kernel
theorem dL_law_47 : decode cL_law 47 = .ok (.aload_n 1, 1) := by decide +kernel
theorem dL_law_48 : decode cL_law 48 = .ok (.iconst 2, 1) := by decide +kernel
theorem dL_law_49 : decode cL_law 49 = .ok (.iconst 3, 1) := by decide +kernel
theorem dL_law_50 : decode cL_law 50 = .ok (.invokevirtual 27, 3) := by decide +kernel
theorem dL_law_53 : decode cL_law 53 = .ok (.pop, 1) := by decide +kernel
theorem dL_law_54 : decode cL_law 54 = .ok (.aload_n 0, 1) := by decide +kernel
theorem dL_law_55 : decode cL_law 55 = .ok (.arraylength, 1) := by decide +kernel
theorem dL_law_56 : decode cL_law 56 = .ok (.bipush 40, 2) := by decide +kernel
theorem dL_law_58 : decode cL_law 58 = .ok (.if_icmp .ge 8, 3) := by decide +kernel
theorem dL_law_61 : decode cL_law 61 = .ok (.aload_n 0, 1) := by decide +kernel
theorem dL_law_62 : decode cL_law 62 = .ok (.arraylength, 1) := by decide +kernel
theorem dL_law_63 : decode cL_law 63 = .ok (.goto 5, 3) := by decide +kernel
theorem dL_law_66 : decode cL_law 66 = .ok (.bipush 40, 2) := by decide +kernel
theorem dL_law_68 : decode cL_law 68 = .ok (.istore_n 2, 1) := by decide +kernel
theorem dL_law_69 : decode cL_law 69 = .ok (.iconst 0, 1) := by decide +kernel
theorem dL_law_70 : decode cL_law 70 = .ok (.istore_n 3, 1) := by decide +kernel
theorem dL_law_71 : decode cL_law 71 = .ok (.iload_n 3, 1) := by decide +kernel
theorem dL_law_72 : decode cL_law 72 = .ok (.iload_n 2, 1) := by decide +kernel
theorem dL_law_73 : decode cL_law 73 = .ok (.if_icmp .ge 39, 3) := by decide +kernel
theorem dL_law_76 : decode cL_law 76 = .ok (.aload_n 1, 1) := by decide +kernel
theorem dL_law_77 : decode cL_law 77 = .ok (.invokestatic 156, 3) := by decide +kernel
theorem dL_law_80 : decode cL_law 80 = .ok (.lstore 4, 2) := by decide +kernel
theorem dL_law_82 : decode cL_law 82 = .ok (.aload_n 1, 1) := by decide +kernel
theorem dL_law_83 : decode cL_law 83 = .ok (.aload_n 0, 1) := by decide +kernel
theorem dL_law_84 : decode cL_law 84 = .ok (.iload_n 3, 1) := by decide +kernel
theorem dL_law_85 : decode cL_law 85 = .ok (.invokestatic 164, 3) := by decide +kernel
theorem dL_law_88 : decode cL_law 88 = .ok (.invokestatic 168, 3) := by decide +kernel
theorem dL_law_91 : decode cL_law 91 = .ok (.ifCond .ge 15, 3) := by decide +kernel
theorem dL_law_94 : decode cL_law 94 = .ok (.aload_n 1, 1) := by decide +kernel
theorem dL_law_95 : decode cL_law 95 = .ok (.invokestatic 156, 3) := by decide +kernel
theorem dL_law_98 : decode cL_law 98 = .ok (.lload 4, 2) := by decide +kernel
theorem dL_law_100 : decode cL_law 100 = .ok (.lcmp, 1) := by decide +kernel
theorem dL_law_101 : decode cL_law 101 = .ok (.ifCond .eq 5, 3) := by decide +kernel
theorem dL_law_104 : decode cL_law 104 = .ok (.iconst 0, 1) := by decide +kernel
theorem dL_law_105 : decode cL_law 105 = .ok (.ireturn, 1) := by decide +kernel
theorem dL_law_106 : decode cL_law 106 = .ok (.iinc 3 1, 3) := by decide +kernel
theorem dL_law_109 : decode cL_law 109 = .ok (.goto (-38), 3) := by decide +kernel
theorem dL_law_112 : decode cL_law 112 = .ok (.aload_n 1, 1) := by decide +kernel
theorem dL_law_113 : decode cL_law 113 = .ok (.invokestatic 172, 3) := by decide +kernel
theorem dL_law_116 : decode cL_law 116 = .ok (.istore_n 3, 1) := by decide +kernel
theorem dL_law_117 : decode cL_law 117 = .ok (.iconst 0, 1) := by decide +kernel
theorem dL_law_118 : decode cL_law 118 = .ok (.istore 4, 2) := by decide +kernel
theorem dL_law_120 : decode cL_law 120 = .ok (.iload_n 3, 1) := by decide +kernel
theorem dL_law_121 : decode cL_law 121 = .ok (.ifCond .eq 37, 3) := by decide +kernel
theorem dL_law_124 : decode cL_law 124 = .ok (.iload 4, 2) := by decide +kernel
theorem dL_law_126 : decode cL_law 126 = .ok (.bipush 12, 2) := by decide +kernel
theorem dL_law_128 : decode cL_law 128 = .ok (.if_icmp .ge 30, 3) := by decide +kernel
theorem dL_law_131 : decode cL_law 131 = .ok (.aload_n 1, 1) := by decide +kernel
theorem dL_law_132 : decode cL_law 132 = .ok (.iload 4, 2) := by decide +kernel
theorem dL_law_134 : decode cL_law 134 = .ok (.iconst 4, 1) := by decide +kernel
theorem dL_law_135 : decode cL_law 135 = .ok (.irem, 1) := by decide +kernel
theorem dL_law_136 : decode cL_law 136 = .ok (.iload 4, 2) := by decide +kernel
theorem dL_law_138 : decode cL_law 138 = .ok (.iconst 1, 1) := by decide +kernel
theorem dL_law_139 : decode cL_law 139 = .ok (.iadd, 1) := by decide +kernel
theorem dL_law_140 : decode cL_law 140 = .ok (.iload 4, 2) := by decide +kernel
theorem dL_law_142 : decode cL_law 142 = .ok (.iconst 4, 1) := by decide +kernel
theorem dL_law_143 : decode cL_law 143 = .ok (.idiv, 1) := by decide +kernel
theorem dL_law_144 : decode cL_law 144 = .ok (.iadd, 1) := by decide +kernel
theorem dL_law_145 : decode cL_law 145 = .ok (.bipush 6, 2) := by decide +kernel
theorem dL_law_147 : decode cL_law 147 = .ok (.irem, 1) := by decide +kernel
theorem dL_law_148 : decode cL_law 148 = .ok (.invokestatic 175, 3) := by decide +kernel
theorem dL_law_151 : decode cL_law 151 = .ok (.istore_n 3, 1) := by decide +kernel
theorem dL_law_152 : decode cL_law 152 = .ok (.iinc 4 1, 3) := by decide +kernel
theorem dL_law_155 : decode cL_law 155 = .ok (.goto (-35), 3) := by decide +kernel
theorem dL_law_158 : decode cL_law 158 = .ok (.aload_n 1, 1) := by decide +kernel
theorem dL_law_159 : decode cL_law 159 = .ok (.invokevirtual 56, 3) := by decide +kernel
theorem dL_law_162 : decode cL_law 162 = .ok (.pop, 1) := by decide +kernel
theorem dL_law_163 : decode cL_law 163 = .ok (.aload_n 1, 1) := by decide +kernel
theorem dL_law_164 : decode cL_law 164 = .ok (.invokestatic 156, 3) := by decide +kernel
theorem dL_law_167 : decode cL_law 167 = .ok (.lstore 4, 2) := by decide +kernel
theorem dL_law_169 : decode cL_law 169 = .ok (.aload_n 1, 1) := by decide +kernel
theorem dL_law_170 : decode cL_law 170 = .ok (.invokevirtual 59, 3) := by decide +kernel
theorem dL_law_173 : decode cL_law 173 = .ok (.istore 6, 2) := by decide +kernel
theorem dL_law_175 : decode cL_law 175 = .ok (.iconst 0, 1) := by decide +kernel
theorem dL_law_176 : decode cL_law 176 = .ok (.istore 7, 2) := by decide +kernel
theorem dL_law_178 : decode cL_law 178 = .ok (.iload_n 3, 1) := by decide +kernel
theorem dL_law_179 : decode cL_law 179 = .ok (.ifCond .eq 78, 3) := by decide +kernel
theorem dL_law_182 : decode cL_law 182 = .ok (.iload 7, 2) := by decide +kernel
theorem dL_law_184 : decode cL_law 184 = .ok (.getstatic 46, 3) := by decide +kernel
theorem dL_law_187 : decode cL_law 187 = .ok (.arraylength, 1) := by decide +kernel
theorem dL_law_188 : decode cL_law 188 = .ok (.if_icmp .ge 69, 3) := by decide +kernel
theorem dL_law_191 : decode cL_law 191 = .ok (.aload_n 1, 1) := by decide +kernel
theorem dL_law_192 : decode cL_law 192 = .ok (.getstatic 46, 3) := by decide +kernel
theorem dL_law_195 : decode cL_law 195 = .ok (.iload 7, 2) := by decide +kernel
theorem dL_law_197 : decode cL_law 197 = .ok (.aaload, 1) := by decide +kernel
theorem dL_law_198 : decode cL_law 198 = .ok (.invokestatic 52, 3) := by decide +kernel
theorem dL_law_201 : decode cL_law 201 = .ok (.invokevirtual 56, 3) := by decide +kernel
theorem dL_law_204 : decode cL_law 204 = .ok (.istore 8, 2) := by decide +kernel
theorem dL_law_206 : decode cL_law 206 = .ok (.iload 8, 2) := by decide +kernel
theorem dL_law_208 : decode cL_law 208 = .ok (.ifCond .ge 13, 3) := by decide +kernel
theorem dL_law_211 : decode cL_law 211 = .ok (.iload 8, 2) := by decide +kernel
theorem dL_law_213 : decode cL_law 213 = .ok (.bipush (-3), 2) := by decide +kernel
theorem dL_law_215 : decode cL_law 215 = .ok (.if_icmp .lt 34, 3) := by decide +kernel
theorem dL_law_218 : decode cL_law 218 = .ok (.goto 17, 3) := by decide +kernel
theorem dL_law_221 : decode cL_law 221 = .ok (.aload_n 1, 1) := by decide +kernel
theorem dL_law_222 : decode cL_law 222 = .ok (.invokestatic 131, 3) := by decide +kernel
theorem dL_law_225 : decode cL_law 225 = .ok (.ifCond .eq 24, 3) := by decide +kernel
theorem dL_law_228 : decode cL_law 228 = .ok (.aload_n 1, 1) := by decide +kernel
theorem dL_law_229 : decode cL_law 229 = .ok (.invokevirtual 65, 3) := by decide +kernel
theorem dL_law_232 : decode cL_law 232 = .ok (.ifCond .lt 17, 3) := by decide +kernel
theorem dL_law_235 : decode cL_law 235 = .ok (.aload_n 1, 1) := by decide +kernel
theorem dL_law_236 : decode cL_law 236 = .ok (.invokestatic 156, 3) := by decide +kernel
theorem dL_law_239 : decode cL_law 239 = .ok (.lload 4, 2) := by decide +kernel
theorem dL_law_241 : decode cL_law 241 = .ok (.lcmp, 1) := by decide +kernel
theorem dL_law_242 : decode cL_law 242 = .ok (.ifCond .ne 7, 3) := by decide +kernel
theorem dL_law_245 : decode cL_law 245 = .ok (.iconst 1, 1) := by decide +kernel
theorem dL_law_246 : decode cL_law 246 = .ok (.goto 4, 3) := by decide +kernel
theorem dL_law_249 : decode cL_law 249 = .ok (.iconst 0, 1) := by decide +kernel
theorem dL_law_250 : decode cL_law 250 = .ok (.istore_n 3, 1) := by decide +kernel
theorem dL_law_251 : decode cL_law 251 = .ok (.iinc 7 1, 3) := by decide +kernel
theorem dL_law_254 : decode cL_law 254 = .ok (.goto (-76), 3) := by decide +kernel
theorem dL_law_257 : decode cL_law 257 = .ok (.iconst 0, 1) := by decide +kernel
theorem dL_law_258 : decode cL_law 258 = .ok (.istore 7, 2) := by decide +kernel
theorem dL_law_260 : decode cL_law 260 = .ok (.iload_n 3, 1) := by decide +kernel
theorem dL_law_261 : decode cL_law 261 = .ok (.ifCond .eq 70, 3) := by decide +kernel
theorem dL_law_264 : decode cL_law 264 = .ok (.iload 7, 2) := by decide +kernel
theorem dL_law_266 : decode cL_law 266 = .ok (.iconst 5, 1) := by decide +kernel
theorem dL_law_267 : decode cL_law 267 = .ok (.if_icmp .ge 64, 3) := by decide +kernel
theorem dL_law_270 : decode cL_law 270 = .ok (.aload_n 1, 1) := by decide +kernel
theorem dL_law_271 : decode cL_law 271 = .ok (.iload 7, 2) := by decide +kernel
theorem dL_law_273 : decode cL_law 273 = .ok (.iload 7, 2) := by decide +kernel
theorem dL_law_275 : decode cL_law 275 = .ok (.iconst 1, 1) := by decide +kernel
theorem dL_law_276 : decode cL_law 276 = .ok (.iadd, 1) := by decide +kernel
theorem dL_law_277 : decode cL_law 277 = .ok (.invokevirtual 31, 3) := by decide +kernel
theorem dL_law_280 : decode cL_law 280 = .ok (.pop, 1) := by decide +kernel
theorem dL_law_281 : decode cL_law 281 = .ok (.aload_n 1, 1) := by decide +kernel
theorem dL_law_282 : decode cL_law 282 = .ok (.iload 7, 2) := by decide +kernel
theorem dL_law_284 : decode cL_law 284 = .ok (.iconst 3, 1) := by decide +kernel
theorem dL_law_285 : decode cL_law 285 = .ok (.iload 7, 2) := by decide +kernel
theorem dL_law_287 : decode cL_law 287 = .ok (.imul, 1) := by decide +kernel
theorem dL_law_288 : decode cL_law 288 = .ok (.iconst 2, 1) := by decide +kernel
theorem dL_law_289 : decode cL_law 289 = .ok (.iadd, 1) := by decide +kernel
theorem dL_law_290 : decode cL_law 290 = .ok (.bipush 6, 2) := by decide +kernel
theorem dL_law_292 : decode cL_law 292 = .ok (.irem, 1) := by decide +kernel
theorem dL_law_293 : decode cL_law 293 = .ok (.invokevirtual 27, 3) := by decide +kernel
theorem dL_law_296 : decode cL_law 296 = .ok (.pop, 1) := by decide +kernel
theorem dL_law_297 : decode cL_law 297 = .ok (.aload_n 1, 1) := by decide +kernel
theorem dL_law_298 : decode cL_law 298 = .ok (.iconst 5, 1) := by decide +kernel
theorem dL_law_299 : decode cL_law 299 = .ok (.iload 7, 2) := by decide +kernel
theorem dL_law_301 : decode cL_law 301 = .ok (.isub, 1) := by decide +kernel
theorem dL_law_302 : decode cL_law 302 = .ok (.invokevirtual 37, 3) := by decide +kernel
theorem dL_law_305 : decode cL_law 305 = .ok (.pop, 1) := by decide +kernel
theorem dL_law_306 : decode cL_law 306 = .ok (.aload_n 1, 1) := by decide +kernel
theorem dL_law_307 : decode cL_law 307 = .ok (.iload 7, 2) := by decide +kernel
theorem dL_law_309 : decode cL_law 309 = .ok (.bipush 7, 2) := by decide +kernel
theorem dL_law_311 : decode cL_law 311 = .ok (.iconst 3, 1) := by decide +kernel
theorem dL_law_312 : decode cL_law 312 = .ok (.iload 7, 2) := by decide +kernel
theorem dL_law_314 : decode cL_law 314 = .ok (.imul, 1) := by decide +kernel
theorem dL_law_315 : decode cL_law 315 = .ok (.isub, 1) := by decide +kernel
theorem dL_law_316 : decode cL_law 316 = .ok (.invokevirtual 43, 3) := by decide +kernel
theorem dL_law_319 : decode cL_law 319 = .ok (.pop, 1) := by decide +kernel
theorem dL_law_320 : decode cL_law 320 = .ok (.aload_n 1, 1) := by decide +kernel
theorem dL_law_321 : decode cL_law 321 = .ok (.invokestatic 172, 3) := by decide +kernel
theorem dL_law_324 : decode cL_law 324 = .ok (.istore_n 3, 1) := by decide +kernel
theorem dL_law_325 : decode cL_law 325 = .ok (.iinc 7 1, 3) := by decide +kernel
theorem dL_law_328 : decode cL_law 328 = .ok (.goto (-68), 3) := by decide +kernel
theorem dL_law_331 : decode cL_law 331 = .ok (.iload_n 3, 1) := by decide +kernel
theorem dL_law_332 : decode cL_law 332 = .ok (.ifCond .eq 35, 3) := by decide +kernel
theorem dL_law_335 : decode cL_law 335 = .ok (.aload_n 1, 1) := by decide +kernel
theorem dL_law_336 : decode cL_law 336 = .ok (.invokevirtual 62, 3) := by decide +kernel
theorem dL_law_339 : decode cL_law 339 = .ok (.iload 6, 2) := by decide +kernel
theorem dL_law_341 : decode cL_law 341 = .ok (.if_icmp .ne 26, 3) := by decide +kernel
theorem dL_law_344 : decode cL_law 344 = .ok (.aload_n 1, 1) := by decide +kernel
theorem dL_law_345 : decode cL_law 345 = .ok (.invokestatic 156, 3) := by decide +kernel
theorem dL_law_348 : decode cL_law 348 = .ok (.lload 4, 2) := by decide +kernel
theorem dL_law_350 : decode cL_law 350 = .ok (.lcmp, 1) := by decide +kernel
theorem dL_law_351 : decode cL_law 351 = .ok (.ifCond .ne 16, 3) := by decide +kernel
theorem dL_law_354 : decode cL_law 354 = .ok (.aload_n 1, 1) := by decide +kernel
theorem dL_law_355 : decode cL_law 355 = .ok (.invokevirtual 65, 3) := by decide +kernel
theorem dL_law_358 : decode cL_law 358 = .ok (.bipush (-4), 2) := by decide +kernel
theorem dL_law_360 : decode cL_law 360 = .ok (.if_icmp .ne 7, 3) := by decide +kernel
theorem dL_law_363 : decode cL_law 363 = .ok (.iconst 1, 1) := by decide +kernel
theorem dL_law_364 : decode cL_law 364 = .ok (.goto 4, 3) := by decide +kernel
theorem dL_law_367 : decode cL_law 367 = .ok (.iconst 0, 1) := by decide +kernel
theorem dL_law_368 : decode cL_law 368 = .ok (.ireturn, 1) := by decide +kernel
abbrev vwCl : List vw_C := [(RX0, TX0, 3), (RX1, TX1, 7), (RX2, TX2, 2), (RX3, TX3, 5), (RX4, TX4, 11)]
