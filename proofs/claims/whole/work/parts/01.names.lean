/-! ===== BEGIN words of one list among another's, by their places ===== -/
theorem goodIn_r {big : List Cond} (ws : List Cond) (ps : List Nat) (hp : ws = ps.filterMap (fun i => big[i]?)) (h : ws.all goodWord = true) : GoodIn big ws := by
  intro w hw
  have h1 := List.all_eq_true.mp h w hw
  rw [hp] at hw
  obtain ⟨i, -, hi⟩ := List.mem_filterMap.mp hw
  have hm : w ∈ big := by first | exact List.mem_of_getElem? hi | exact List.getElem?_mem hi
  exact ⟨hm, good_of_word h1⟩
theorem goodIn_app {big a b : List Cond} (ha : GoodIn big a) (hb : GoodIn big b) : GoodIn big (a ++ b) := fun w h => (List.mem_append.mp h).elim (ha w) (hb w)
theorem goodIn_ca {big a b : List Cond} {c : Cond} (ha : GoodIn big (c :: a)) (hb : GoodIn big b) : GoodIn big (c :: (a ++ b)) := fun w h => (List.mem_cons.mp h).elim (fun e => ha w (List.mem_cons.mpr (Or.inl e))) (fun h => (List.mem_append.mp h).elim (fun h => ha w (List.mem_cons.mpr (Or.inr h))) (hb w))
theorem goodIn_sub {big ws : List Cond} (hm : ∀ w ∈ ws, w ∈ big) (h : ws.all goodWord = true) : GoodIn big ws := fun w hw => ⟨hm w hw, good_of_word (List.all_eq_true.mp h w hw)⟩
/-! ===== END ===== -/

/-! ===== BEGIN printed: names, fields, word lists, decode rows ===== -/
def RX0 : String := "MiddleClaims$Clauses"
def TX0 : u_T := fun k => match k with
  | 0 => ("MiddleClaims$Clauses", "sides", "[I", true)
  | 1 => ("MiddleClaims$Clauses", "signs", "[I", true)
  | 2 => ("MiddleClaims$Clauses", "opposites", "[I", true)
  | _ => ("MiddleClaims$Clauses", "size", "I", false)
def tyX0 : Nat → FieldType := fun k => match k with
  | 0 => .array .int
  | 1 => .array .int
  | 2 => .array .int
  | _ => .int
abbrev wsX00 : List Cond := u_ws RX0 TX0 4
theorem nmX0 : ∀ a, a < 4 → ∀ b, b < 4 → a ≠ b → (TX0 a).2.1 ≠ (TX0 b).2.1 := by decide +kernel
theorem tyX0_ok : ∀ k, k < 4 → parseFieldDescriptor (TX0 k).2.2.1 = some (tyX0 k) := by decide +kernel
abbrev cX0_init : ByteArray := prog_2_method_1_code
def yX0_init : MethodName := ⟨RX0, "<init>", "(I)V"⟩
abbrev cX0_size : ByteArray := prog_2_method_2_code
def yX0_size : MethodName := ⟨RX0, "size", "()I"⟩
abbrev cX0_has : ByteArray := prog_2_method_3_code
def yX0_has : MethodName := ⟨RX0, "has", "(I)Z"⟩
abbrev cX0_sideOf : ByteArray := prog_2_method_4_code
def yX0_sideOf : MethodName := ⟨RX0, "sideOf", "(I)I"⟩
abbrev cX0_signsOf : ByteArray := prog_2_method_5_code
def yX0_signsOf : MethodName := ⟨RX0, "signsOf", "(I)I"⟩
abbrev cX0_oppositesOf : ByteArray := prog_2_method_6_code
def yX0_oppositesOf : MethodName := ⟨RX0, "oppositesOf", "(I)I"⟩
abbrev cX0_clear : ByteArray := prog_2_method_7_code
def yX0_clear : MethodName := ⟨RX0, "clear", "()V"⟩
abbrev cX0_append : ByteArray := prog_2_method_8_code
def yX0_append : MethodName := ⟨RX0, "append", "(III)V"⟩
abbrev cX0_appendEach : ByteArray := prog_2_method_9_code
def yX0_appendEach : MethodName := ⟨RX0, "appendEach", "(LMiddleClaims$Clauses;)V"⟩
abbrev cX0_becomeLike : ByteArray := prog_2_method_10_code
def yX0_becomeLike : MethodName := ⟨RX0, "becomeLike", "(LMiddleClaims$Clauses;)V"⟩
abbrev cX0_drop : ByteArray := prog_2_method_11_code
def yX0_drop : MethodName := ⟨RX0, "drop", "(I)V"⟩
abbrev cX0_changeSide : ByteArray := prog_2_method_12_code
def yX0_changeSide : MethodName := ⟨RX0, "changeSide", "(I)V"⟩
abbrev cX0_sizeOfSide : ByteArray := prog_2_method_13_code
def yX0_sizeOfSide : MethodName := ⟨RX0, "sizeOfSide", "(I)I"⟩
abbrev cX0_signsKnownTo : ByteArray := prog_2_method_14_code
def yX0_signsKnownTo : MethodName := ⟨RX0, "signsKnownTo", "(I)I"⟩
abbrev cX0_sharedSigns : ByteArray := prog_2_method_15_code
def yX0_sharedSigns : MethodName := ⟨RX0, "sharedSigns", "()I"⟩
abbrev cX0_worldsOf : ByteArray := prog_2_method_16_code
def yX0_worldsOf : MethodName := ⟨RX0, "worldsOf", "(I)J"⟩
abbrev cX0_worldsOfSide : ByteArray := prog_2_method_17_code
def yX0_worldsOfSide : MethodName := ⟨RX0, "worldsOfSide", "(I)J"⟩
abbrev cX0_worldsOfBoth : ByteArray := prog_2_method_18_code
def yX0_worldsOfBoth : MethodName := ⟨RX0, "worldsOfBoth", "()J"⟩
abbrev cX0_clash : ByteArray := prog_2_method_19_code
def yX0_clash : MethodName := ⟨RX0, "clash", "()Z"⟩
def RX1 : String := "MiddleClaims$History"
def TX1 : u_T := fun k => match k with
  | 0 => ("MiddleClaims$History", "states", "[LMiddleClaims$Clauses;", true)
  | _ => ("MiddleClaims$History", "size", "I", false)
def tyX1 : Nat → FieldType := fun k => match k with
  | 0 => .array (.object "MiddleClaims$Clauses")
  | _ => .int
abbrev wsX10 : List Cond := u_ws RX1 TX1 2
theorem nmX1 : ∀ a, a < 2 → ∀ b, b < 2 → a ≠ b → (TX1 a).2.1 ≠ (TX1 b).2.1 := by decide +kernel
theorem tyX1_ok : ∀ k, k < 2 → parseFieldDescriptor (TX1 k).2.2.1 = some (tyX1 k) := by decide +kernel
abbrev cX1_init : ByteArray := prog_3_method_1_code
def yX1_init : MethodName := ⟨RX1, "<init>", "()V"⟩
abbrev cX1_size : ByteArray := prog_3_method_2_code
def yX1_size : MethodName := ⟨RX1, "size", "()I"⟩
abbrev cX1_remember : ByteArray := prog_3_method_3_code
def yX1_remember : MethodName := ⟨RX1, "remember", "(LMiddleClaims$Clauses;)V"⟩
abbrev cX1_takeLatestInto : ByteArray := prog_3_method_4_code
def yX1_takeLatestInto : MethodName := ⟨RX1, "takeLatestInto", "(LMiddleClaims$Clauses;)V"⟩
abbrev cX1_dropOldest : ByteArray := prog_3_method_5_code
def yX1_dropOldest : MethodName := ⟨RX1, "dropOldest", "()V"⟩
def RX2 : String := "MiddleClaims$Proof"
def TX2 : u_T := fun k => match k with
  | 0 => ("MiddleClaims$Proof", "signs", "[I", true)
  | 1 => ("MiddleClaims$Proof", "opposites", "[I", true)
  | 2 => ("MiddleClaims$Proof", "firstParents", "[I", true)
  | 3 => ("MiddleClaims$Proof", "secondParents", "[I", true)
  | 4 => ("MiddleClaims$Proof", "pivots", "[I", true)
  | 5 => ("MiddleClaims$Proof", "claims0", "[J", true)
  | 6 => ("MiddleClaims$Proof", "claims1", "[J", true)
  | 7 => ("MiddleClaims$Proof", "needed", "[Z", true)
  | 8 => ("MiddleClaims$Proof", "stepsWithSigns", "[J", true)
  | 9 => ("MiddleClaims$Proof", "size", "I", false)
  | 10 => ("MiddleClaims$Proof", "overfull", "Z", false)
  | 11 => ("MiddleClaims$Proof", "emptyClauseFound", "Z", false)
  | 12 => ("MiddleClaims$Proof", "knownToSide0", "I", false)
  | _ => ("MiddleClaims$Proof", "knownToSide1", "I", false)
def tyX2 : Nat → FieldType := fun k => match k with
  | 0 => .array .int
  | 1 => .array .int
  | 2 => .array .int
  | 3 => .array .int
  | 4 => .array .int
  | 5 => .array .long
  | 6 => .array .long
  | 7 => .array .boolean
  | 8 => .array .long
  | 9 => .int
  | 10 => .boolean
  | 11 => .boolean
  | 12 => .int
  | _ => .int
abbrev wsX20 : List Cond := u_ws RX2 TX2 14
theorem nmX2 : ∀ a, a < 14 → ∀ b, b < 14 → a ≠ b → (TX2 a).2.1 ≠ (TX2 b).2.1 := by decide +kernel
theorem tyX2_ok : ∀ k, k < 14 → parseFieldDescriptor (TX2 k).2.2.1 = some (tyX2 k) := by decide +kernel
abbrev cX2_init : ByteArray := prog_4_method_1_code
def yX2_init : MethodName := ⟨RX2, "<init>", "()V"⟩
abbrev cX2_size : ByteArray := prog_4_method_2_code
def yX2_size : MethodName := ⟨RX2, "size", "()I"⟩
abbrev cX2_isKnown : ByteArray := prog_4_method_3_code
def yX2_isKnown : MethodName := ⟨RX2, "isKnown", "()Z"⟩
abbrev cX2_hasEmptyClause : ByteArray := prog_4_method_4_code
def yX2_hasEmptyClause : MethodName := ⟨RX2, "hasEmptyClause", "()Z"⟩
abbrev cX2_has : ByteArray := prog_4_method_5_code
def yX2_has : MethodName := ⟨RX2, "has", "(I)Z"⟩
abbrev cX2_signsOf : ByteArray := prog_4_method_6_code
def yX2_signsOf : MethodName := ⟨RX2, "signsOf", "(I)I"⟩
abbrev cX2_oppositesOf : ByteArray := prog_4_method_7_code
def yX2_oppositesOf : MethodName := ⟨RX2, "oppositesOf", "(I)I"⟩
abbrev cX2_firstParentOf : ByteArray := prog_4_method_8_code
def yX2_firstParentOf : MethodName := ⟨RX2, "firstParentOf", "(I)I"⟩
abbrev cX2_secondParentOf : ByteArray := prog_4_method_9_code
def yX2_secondParentOf : MethodName := ⟨RX2, "secondParentOf", "(I)I"⟩
abbrev cX2_pivotOf : ByteArray := prog_4_method_10_code
def yX2_pivotOf : MethodName := ⟨RX2, "pivotOf", "(I)I"⟩
abbrev cX2_isNeeded : ByteArray := prog_4_method_11_code
def yX2_isNeeded : MethodName := ⟨RX2, "isNeeded", "(I)Z"⟩
abbrev cX2_neededAmong : ByteArray := prog_4_method_12_code
def yX2_neededAmong : MethodName := ⟨RX2, "neededAmong", "(I)I"⟩
abbrev cX2_partialClaim : ByteArray := prog_4_method_13_code
def yX2_partialClaim : MethodName := ⟨RX2, "partialClaim", "(II)J"⟩
abbrev cX2_middleClaim : ByteArray := prog_4_method_14_code
def yX2_middleClaim : MethodName := ⟨RX2, "middleClaim", "(I)J"⟩
abbrev cX2_make : ByteArray := prog_4_method_15_code
def yX2_make : MethodName := ⟨RX2, "make", "(LMiddleClaims$Clauses;)V"⟩
abbrev cX2_appendClause : ByteArray := prog_4_method_16_code
def yX2_appendClause : MethodName := ⟨RX2, "appendClause", "(III)V"⟩
abbrev cX2_resolveAll : ByteArray := prog_4_method_17_code
def yX2_resolveAll : MethodName := ⟨RX2, "resolveAll", "()V"⟩
abbrev cX2_resolve : ByteArray := prog_4_method_18_code
def yX2_resolve : MethodName := ⟨RX2, "resolve", "(III)V"⟩
abbrev cX2_resolvedClaim : ByteArray := prog_4_method_19_code
def yX2_resolvedClaim : MethodName := ⟨RX2, "resolvedClaim", "(IIJJ)J"⟩
abbrev cX2_isStep : ByteArray := prog_4_method_20_code
def yX2_isStep : MethodName := ⟨RX2, "isStep", "(II)Z"⟩
abbrev cX2_appendStep : ByteArray := prog_4_method_21_code
def yX2_appendStep : MethodName := ⟨RX2, "appendStep", "(IIIIIJJ)V"⟩
abbrev cX2_markNeededSteps : ByteArray := prog_4_method_22_code
def yX2_markNeededSteps : MethodName := ⟨RX2, "markNeededSteps", "()V"⟩
abbrev cX2_markNeeded : ByteArray := prog_4_method_23_code
def yX2_markNeeded : MethodName := ⟨RX2, "markNeeded", "(I)V"⟩
def RX3 : String := "MiddleClaims$Text"
def TX3 : u_T := fun k => match k with
  | 0 => ("MiddleClaims$Text", "characters", "[C", true)
  | 1 => ("MiddleClaims$Text", "length", "I", false)
  | 2 => ("MiddleClaims$Text", "side", "I", false)
  | 3 => ("MiddleClaims$Text", "signs", "I", false)
  | 4 => ("MiddleClaims$Text", "opposites", "I", false)
  | 5 => ("MiddleClaims$Text", "lastSign", "I", false)
  | _ => ("MiddleClaims$Text", "afterMinus", "Z", false)
def tyX3 : Nat → FieldType := fun k => match k with
  | 0 => .array .char
  | 1 => .int
  | 2 => .int
  | 3 => .int
  | 4 => .int
  | 5 => .int
  | _ => .boolean
abbrev wsX30 : List Cond := u_ws RX3 TX3 7
theorem nmX3 : ∀ a, a < 7 → ∀ b, b < 7 → a ≠ b → (TX3 a).2.1 ≠ (TX3 b).2.1 := by decide +kernel
theorem tyX3_ok : ∀ k, k < 7 → parseFieldDescriptor (TX3 k).2.2.1 = some (tyX3 k) := by decide +kernel
abbrev cX3_init : ByteArray := prog_5_method_1_code
def yX3_init : MethodName := ⟨RX3, "<init>", "()V"⟩
abbrev cX3_length : ByteArray := prog_5_method_2_code
def yX3_length : MethodName := ⟨RX3, "length", "()I"⟩
abbrev cX3_clear : ByteArray := prog_5_method_3_code
def yX3_clear : MethodName := ⟨RX3, "clear", "()V"⟩
abbrev cX3_append : ByteArray := prog_5_method_4_code
def yX3_append : MethodName := ⟨RX3, "append", "(C)Z"⟩
abbrev cX3_readInto : ByteArray := prog_5_method_5_code
def yX3_readInto : MethodName := ⟨RX3, "readInto", "(LMiddleClaims$Clauses;)I"⟩
abbrev cX3_beginClause : ByteArray := prog_5_method_6_code
def yX3_beginClause : MethodName := ⟨RX3, "beginClause", "()V"⟩
abbrev cX3_reads : ByteArray := prog_5_method_7_code
def yX3_reads : MethodName := ⟨RX3, "reads", "(CLMiddleClaims$Clauses;)Z"⟩
abbrev cX3_readsMinus : ByteArray := prog_5_method_8_code
def yX3_readsMinus : MethodName := ⟨RX3, "readsMinus", "()Z"⟩
abbrev cX3_readsSlash : ByteArray := prog_5_method_9_code
def yX3_readsSlash : MethodName := ⟨RX3, "readsSlash", "(LMiddleClaims$Clauses;)Z"⟩
abbrev cX3_readsSign : ByteArray := prog_5_method_10_code
def yX3_readsSign : MethodName := ⟨RX3, "readsSign", "(I)Z"⟩
abbrev cX3_endsClause : ByteArray := prog_5_method_11_code
def yX3_endsClause : MethodName := ⟨RX3, "endsClause", "(LMiddleClaims$Clauses;)Z"⟩
def RX4 : String := "MiddleClaims"
def TX4 : u_T := fun k => match k with
  | 0 => ("MiddleClaims", "clauses", "LMiddleClaims$Clauses;", true)
  | 1 => ("MiddleClaims", "textClauses", "LMiddleClaims$Clauses;", true)
  | 2 => ("MiddleClaims", "snapshot", "LMiddleClaims$Clauses;", true)
  | 3 => ("MiddleClaims", "snapshotTaken", "Z", false)
  | 4 => ("MiddleClaims", "history", "LMiddleClaims$History;", true)
  | 5 => ("MiddleClaims", "text", "LMiddleClaims$Text;", true)
  | 6 => ("MiddleClaims", "proof", "LMiddleClaims$Proof;", true)
  | _ => ("MiddleClaims", "proofStands", "Z", false)
def tyX4 : Nat → FieldType := fun k => match k with
  | 0 => .object "MiddleClaims$Clauses"
  | 1 => .object "MiddleClaims$Clauses"
  | 2 => .object "MiddleClaims$Clauses"
  | 3 => .boolean
  | 4 => .object "MiddleClaims$History"
  | 5 => .object "MiddleClaims$Text"
  | 6 => .object "MiddleClaims$Proof"
  | _ => .boolean
abbrev wsX40 : List Cond := u_ws RX4 TX4 8
theorem nmX4 : ∀ a, a < 8 → ∀ b, b < 8 → a ≠ b → (TX4 a).2.1 ≠ (TX4 b).2.1 := by decide +kernel
theorem tyX4_ok : ∀ k, k < 8 → parseFieldDescriptor (TX4 k).2.2.1 = some (tyX4 k) := by decide +kernel
abbrev cX4_init : ByteArray := prog_1_method_1_code
def yX4_init : MethodName := ⟨RX4, "<init>", "()V"⟩
abbrev cX4_add : ByteArray := prog_1_method_2_code
def yX4_add : MethodName := ⟨RX4, "add", "(III)I"⟩
abbrev cX4_addAll : ByteArray := prog_1_method_3_code
def yX4_addAll : MethodName := ⟨RX4, "addAll", "()I"⟩
abbrev cX4_remove : ByteArray := prog_1_method_4_code
def yX4_remove : MethodName := ⟨RX4, "remove", "(I)I"⟩
abbrev cX4_move : ByteArray := prog_1_method_5_code
def yX4_move : MethodName := ⟨RX4, "move", "(I)I"⟩
abbrev cX4_exchange : ByteArray := prog_1_method_6_code
def yX4_exchange : MethodName := ⟨RX4, "exchange", "()I"⟩
abbrev cX4_shrink : ByteArray := prog_1_method_7_code
def yX4_shrink : MethodName := ⟨RX4, "shrink", "()I"⟩
abbrev cX4_type : ByteArray := prog_1_method_8_code
def yX4_type : MethodName := ⟨RX4, "type", "(C)I"⟩
abbrev cX4_clearText : ByteArray := prog_1_method_9_code
def yX4_clearText : MethodName := ⟨RX4, "clearText", "()I"⟩
abbrev cX4_undo : ByteArray := prog_1_method_10_code
def yX4_undo : MethodName := ⟨RX4, "undo", "()I"⟩
abbrev cX4_keep : ByteArray := prog_1_method_11_code
def yX4_keep : MethodName := ⟨RX4, "keep", "()I"⟩
abbrev cX4_restore : ByteArray := prog_1_method_12_code
def yX4_restore : MethodName := ⟨RX4, "restore", "()I"⟩
abbrev cX4_clause : ByteArray := prog_1_method_13_code
def yX4_clause : MethodName := ⟨RX4, "clause", "(II)I"⟩
abbrev cX4_side : ByteArray := prog_1_method_14_code
def yX4_side : MethodName := ⟨RX4, "side", "(II)I"⟩
abbrev cX4_step : ByteArray := prog_1_method_15_code
def yX4_step : MethodName := ⟨RX4, "step", "(II)I"⟩
abbrev cX4_partial : ByteArray := prog_1_method_16_code
def yX4_partial : MethodName := ⟨RX4, "partial", "(III)I"⟩
abbrev cX4_middle : ByteArray := prog_1_method_17_code
def yX4_middle : MethodName := ⟨RX4, "middle", "(II)I"⟩
abbrev cX4_outermost : ByteArray := prog_1_method_18_code
def yX4_outermost : MethodName := ⟨RX4, "outermost", "(ZI)I"⟩
abbrev cX4_test : ByteArray := prog_1_method_19_code
def yX4_test : MethodName := ⟨RX4, "test", "(II)I"⟩
abbrev cX4_compare : ByteArray := prog_1_method_20_code
def yX4_compare : MethodName := ⟨RX4, "compare", "()I"⟩
abbrev cX4_count : ByteArray := prog_1_method_21_code
def yX4_count : MethodName := ⟨RX4, "count", "(I)I"⟩
abbrev cX4_beginAct : ByteArray := prog_1_method_22_code
def yX4_beginAct : MethodName := ⟨RX4, "beginAct", "()V"⟩
abbrev cX4_currentProof : ByteArray := prog_1_method_23_code
def yX4_currentProof : MethodName := ⟨RX4, "currentProof", "()LMiddleClaims$Proof;"⟩
abbrev cX4_stepsOf : ByteArray := prog_1_method_24_code
def yX4_stepsOf : MethodName := ⟨RX4, "stepsOf", "(LMiddleClaims$Proof;)I"⟩
abbrev cX4_worldsOfMiddleClaim : ByteArray := prog_1_method_25_code
def yX4_worldsOfMiddleClaim : MethodName := ⟨RX4, "worldsOfMiddleClaim", "(LMiddleClaims$Proof;I)I"⟩
abbrev cX4_isZeroOrOne : ByteArray := prog_1_method_26_code
def yX4_isZeroOrOne : MethodName := ⟨RX4, "isZeroOrOne", "(I)Z"⟩
abbrev cX4_isSetOfSigns : ByteArray := prog_1_method_27_code
def yX4_isSetOfSigns : MethodName := ⟨RX4, "isSetOfSigns", "(I)Z"⟩
abbrev cX4_asNumber : ByteArray := prog_1_method_28_code
def yX4_asNumber : MethodName := ⟨RX4, "asNumber", "(Z)I"⟩
abbrev cX4_isIn : ByteArray := prog_1_method_29_code
def yX4_isIn : MethodName := ⟨RX4, "isIn", "(II)Z"⟩
abbrev cX4_halfOf : ByteArray := prog_1_method_30_code
def yX4_halfOf : MethodName := ⟨RX4, "halfOf", "(JI)I"⟩
abbrev cX4_lowestWorld : ByteArray := prog_1_method_31_code
def yX4_lowestWorld : MethodName := ⟨RX4, "lowestWorld", "(J)I"⟩
abbrev cX4_worldsOfSign : ByteArray := prog_1_method_32_code
def yX4_worldsOfSign : MethodName := ⟨RX4, "worldsOfSign", "(I)J"⟩
abbrev cX4_worldsOfLiterals : ByteArray := prog_1_method_33_code
def yX4_worldsOfLiterals : MethodName := ⟨RX4, "worldsOfLiterals", "(II)J"⟩
abbrev cX4_spread : ByteArray := prog_1_method_34_code
def yX4_spread : MethodName := ⟨RX4, "spread", "(JI)J"⟩
def RX5 : String := "MiddleClaimsModel"
def TX5 : u_T := fun k => match k with
  | 0 => ("MiddleClaimsModel", "s", "[I", true)
  | 1 => ("MiddleClaimsModel", "before", "[I", true)
  | 2 => ("MiddleClaimsModel", "known", "I", false)
  | 3 => ("MiddleClaimsModel", "kept", "[I", true)
  | 4 => ("MiddleClaimsModel", "isKept", "Z", false)
  | 5 => ("MiddleClaimsModel", "text", "[I", true)
  | 6 => ("MiddleClaimsModel", "typed", "I", false)
  | 7 => ("MiddleClaimsModel", "plains", "[I", true)
  | 8 => ("MiddleClaimsModel", "others", "[I", true)
  | 9 => ("MiddleClaimsModel", "firsts", "[I", true)
  | 10 => ("MiddleClaimsModel", "seconds", "[I", true)
  | 11 => ("MiddleClaimsModel", "pivots", "[I", true)
  | 12 => ("MiddleClaimsModel", "isNeeded", "[Z", true)
  | 13 => ("MiddleClaimsModel", "isStep", "[Z", true)
  | 14 => ("MiddleClaimsModel", "steps", "I", false)
  | 15 => ("MiddleClaimsModel", "empty", "I", false)
  | 16 => ("MiddleClaimsModel", "isKnown", "Z", false)
  | 17 => ("MiddleClaimsModel", "claims", "[J", true)
  | 18 => ("MiddleClaimsModel", "at", "I", false)
  | 19 => ("MiddleClaimsModel", "isWrong", "Z", false)
  | 20 => ("MiddleClaimsModel", "plain", "I", false)
  | _ => ("MiddleClaimsModel", "other", "I", false)
def tyX5 : Nat → FieldType := fun k => match k with
  | 0 => .array .int
  | 1 => .array .int
  | 2 => .int
  | 3 => .array .int
  | 4 => .boolean
  | 5 => .array .int
  | 6 => .int
  | 7 => .array .int
  | 8 => .array .int
  | 9 => .array .int
  | 10 => .array .int
  | 11 => .array .int
  | 12 => .array .boolean
  | 13 => .array .boolean
  | 14 => .int
  | 15 => .int
  | 16 => .boolean
  | 17 => .array .long
  | 18 => .int
  | 19 => .boolean
  | 20 => .int
  | _ => .int
abbrev wsX50 : List Cond := u_ws RX5 TX5 22
theorem nmX5 : ∀ a, a < 22 → ∀ b, b < 22 → a ≠ b → (TX5 a).2.1 ≠ (TX5 b).2.1 := by decide +kernel
theorem tyX5_ok : ∀ k, k < 22 → parseFieldDescriptor (TX5 k).2.2.1 = some (tyX5 k) := by decide +kernel
abbrev cX5_init : ByteArray := prog_7_method_1_code
def yX5_init : MethodName := ⟨RX5, "<init>", "()V"⟩
abbrev cX5_in : ByteArray := prog_7_method_3_code
def yX5_in : MethodName := ⟨RX5, "in", "(III)Z"⟩
abbrev cX5_isClause : ByteArray := prog_7_method_4_code
def yX5_isClause : MethodName := ⟨RX5, "isClause", "(I)Z"⟩
abbrev cX5_know : ByteArray := prog_7_method_5_code
def yX5_know : MethodName := ⟨RX5, "know", "()V"⟩
abbrev cX5_bitsOf : ByteArray := prog_7_method_6_code
def yX5_bitsOf : MethodName := ⟨RX5, "bitsOf", "(J)I"⟩
abbrev cX5_worldsOf : ByteArray := prog_7_method_7_code
def yX5_worldsOf : MethodName := ⟨RX5, "worldsOf", "(I)J"⟩
abbrev cX5_worldsOfClause : ByteArray := prog_7_method_8_code
def yX5_worldsOfClause : MethodName := ⟨RX5, "worldsOfClause", "(I)J"⟩
abbrev cX5_truths : ByteArray := prog_7_method_9_code
def yX5_truths : MethodName := ⟨RX5, "truths", "(III)J"⟩
abbrev cX5_worldsOfSide : ByteArray := prog_7_method_10_code
def yX5_worldsOfSide : MethodName := ⟨RX5, "worldsOfSide", "(I)J"⟩
abbrev cX5_knownTo : ByteArray := prog_7_method_11_code
def yX5_knownTo : MethodName := ⟨RX5, "knownTo", "(I)I"⟩
abbrev cX5_shared : ByteArray := prog_7_method_12_code
def yX5_shared : MethodName := ⟨RX5, "shared", "()I"⟩
abbrev cX5_clash : ByteArray := prog_7_method_13_code
def yX5_clash : MethodName := ⟨RX5, "clash", "()Z"⟩
abbrev cX5_spread : ByteArray := prog_7_method_14_code
def yX5_spread : MethodName := ⟨RX5, "spread", "(J)J"⟩
abbrev cX5_addStep : ByteArray := prog_7_method_15_code
def yX5_addStep : MethodName := ⟨RX5, "addStep", "(IIIII)V"⟩
abbrev cX5_onlySign : ByteArray := prog_7_method_16_code
def yX5_onlySign : MethodName := ⟨RX5, "onlySign", "(I)I"⟩
abbrev cX5_prove : ByteArray := prog_7_method_17_code
def yX5_prove : MethodName := ⟨RX5, "prove", "()V"⟩
abbrev cX5_isProved : ByteArray := prog_7_method_18_code
def yX5_isProved : MethodName := ⟨RX5, "isProved", "()Z"⟩
abbrev cX5_claim : ByteArray := prog_7_method_19_code
def yX5_claim : MethodName := ⟨RX5, "claim", "(I)V"⟩
abbrev cX5_middleOf : ByteArray := prog_7_method_20_code
def yX5_middleOf : MethodName := ⟨RX5, "middleOf", "(I)J"⟩
abbrev cX5_add : ByteArray := prog_7_method_21_code
def yX5_add : MethodName := ⟨RX5, "add", "(III)I"⟩
abbrev cX5_put : ByteArray := prog_7_method_22_code
def yX5_put : MethodName := ⟨RX5, "put", "(III)V"⟩
abbrev cX5_sign : ByteArray := prog_7_method_23_code
def yX5_sign : MethodName := ⟨RX5, "sign", "(II)I"⟩
abbrev cX5_isNext : ByteArray := prog_7_method_24_code
def yX5_isNext : MethodName := ⟨RX5, "isNext", "(I)Z"⟩
abbrev cX5_isLetter : ByteArray := prog_7_method_25_code
def yX5_isLetter : MethodName := ⟨RX5, "isLetter", "(I)Z"⟩
abbrev cX5_read : ByteArray := prog_7_method_26_code
def yX5_read : MethodName := ⟨RX5, "read", "()V"⟩
abbrev cX5_go : ByteArray := prog_7_method_27_code
def yX5_go : MethodName := ⟨RX5, "go", "(Z)I"⟩
abbrev cX5_addAll : ByteArray := prog_7_method_28_code
def yX5_addAll : MethodName := ⟨RX5, "addAll", "()I"⟩
abbrev cX5_drop : ByteArray := prog_7_method_29_code
def yX5_drop : MethodName := ⟨RX5, "drop", "(I)V"⟩
abbrev cX5_remove : ByteArray := prog_7_method_30_code
def yX5_remove : MethodName := ⟨RX5, "remove", "(I)I"⟩
abbrev cX5_move : ByteArray := prog_7_method_31_code
def yX5_move : MethodName := ⟨RX5, "move", "(I)I"⟩
abbrev cX5_clausesOf : ByteArray := prog_7_method_32_code
def yX5_clausesOf : MethodName := ⟨RX5, "clausesOf", "(I)I"⟩
abbrev cX5_exchange : ByteArray := prog_7_method_33_code
def yX5_exchange : MethodName := ⟨RX5, "exchange", "()I"⟩
abbrev cX5_shrink : ByteArray := prog_7_method_34_code
def yX5_shrink : MethodName := ⟨RX5, "shrink", "()I"⟩
abbrev cX5_type : ByteArray := prog_7_method_35_code
def yX5_type : MethodName := ⟨RX5, "type", "(C)I"⟩
abbrev cX5_clearText : ByteArray := prog_7_method_36_code
def yX5_clearText : MethodName := ⟨RX5, "clearText", "()I"⟩
abbrev cX5_undo : ByteArray := prog_7_method_37_code
def yX5_undo : MethodName := ⟨RX5, "undo", "()I"⟩
abbrev cX5_keep : ByteArray := prog_7_method_38_code
def yX5_keep : MethodName := ⟨RX5, "keep", "()I"⟩
abbrev cX5_restore : ByteArray := prog_7_method_39_code
def yX5_restore : MethodName := ⟨RX5, "restore", "()I"⟩
abbrev cX5_clause : ByteArray := prog_7_method_40_code
def yX5_clause : MethodName := ⟨RX5, "clause", "(II)I"⟩
abbrev cX5_lowest : ByteArray := prog_7_method_41_code
def yX5_lowest : MethodName := ⟨RX5, "lowest", "(J)I"⟩
abbrev cX5_side : ByteArray := prog_7_method_42_code
def yX5_side : MethodName := ⟨RX5, "side", "(II)I"⟩
abbrev cX5_step : ByteArray := prog_7_method_43_code
def yX5_step : MethodName := ⟨RX5, "step", "(II)I"⟩
abbrev cX5_partial : ByteArray := prog_7_method_44_code
def yX5_partial : MethodName := ⟨RX5, "partial", "(III)I"⟩
abbrev cX5_half : ByteArray := prog_7_method_45_code
def yX5_half : MethodName := ⟨RX5, "half", "(JI)I"⟩
abbrev cX5_middle : ByteArray := prog_7_method_46_code
def yX5_middle : MethodName := ⟨RX5, "middle", "(II)I"⟩
abbrev cX5_outermost : ByteArray := prog_7_method_47_code
def yX5_outermost : MethodName := ⟨RX5, "outermost", "(ZI)I"⟩
abbrev cX5_test : ByteArray := prog_7_method_48_code
def yX5_test : MethodName := ⟨RX5, "test", "(II)I"⟩
abbrev cX5_compare : ByteArray := prog_7_method_49_code
def yX5_compare : MethodName := ⟨RX5, "compare", "()I"⟩
abbrev cX5_needed : ByteArray := prog_7_method_50_code
def yX5_needed : MethodName := ⟨RX5, "needed", "()I"⟩
abbrev cX5_count : ByteArray := prog_7_method_51_code
def yX5_count : MethodName := ⟨RX5, "count", "(I)I"⟩
def RJ6 : String := "java/lang/Integer"
def TJ6 : u_T := fun k => match k with
  | _ => ("", "", "", false)
def tyJ6 : Nat → FieldType := fun k => match k with
  | _ => .int
abbrev wsJ60 : List Cond := u_ws RJ6 TJ6 0
theorem nmJ6 : ∀ a, a < 0 → ∀ b, b < 0 → a ≠ b → (TJ6 a).2.1 ≠ (TJ6 b).2.1 := by decide +kernel
theorem tyJ6_ok : ∀ k, k < 0 → parseFieldDescriptor (TJ6 k).2.2.1 = some (tyJ6 k) := by decide +kernel
abbrev cJ6_bitCount_0f7a4 : ByteArray := prog_8_method_49_code
def yJ6_bitCount_0f7a4 : MethodName := ⟨RJ6, "bitCount", "(I)I"⟩
def RJ13 : String := "java/lang/Long"
def TJ13 : u_T := fun k => match k with
  | _ => ("", "", "", false)
def tyJ13 : Nat → FieldType := fun k => match k with
  | _ => .int
abbrev wsJ130 : List Cond := u_ws RJ13 TJ13 0
theorem nmJ13 : ∀ a, a < 0 → ∀ b, b < 0 → a ≠ b → (TJ13 a).2.1 ≠ (TJ13 b).2.1 := by decide +kernel
theorem tyJ13_ok : ∀ k, k < 0 → parseFieldDescriptor (TJ13 k).2.2.1 = some (tyJ13 k) := by decide +kernel
abbrev cJ13_bitCount_95d88 : ByteArray := prog_9_method_50_code
def yJ13_bitCount_95d88 : MethodName := ⟨RJ13, "bitCount", "(J)I"⟩
def RJ9 : String := "java/lang/Math"
def TJ9 : u_T := fun k => match k with
  | _ => ("", "", "", false)
def tyJ9 : Nat → FieldType := fun k => match k with
  | _ => .int
abbrev wsJ90 : List Cond := u_ws RJ9 TJ9 0
theorem nmJ9 : ∀ a, a < 0 → ∀ b, b < 0 → a ≠ b → (TJ9 a).2.1 ≠ (TJ9 b).2.1 := by decide +kernel
theorem tyJ9_ok : ∀ k, k < 0 → parseFieldDescriptor (TJ9 k).2.2.1 = some (tyJ9 k) := by decide +kernel
abbrev cJ9_max_7cf53 : ByteArray := prog_10_method_65_code
def yJ9_max_7cf53 : MethodName := ⟨RJ9, "max", "(II)I"⟩
def RL : String := "MiddleClaimsLaw"
abbrev cL_law : ByteArray := code
def yL_law : MethodName := ⟨RL, "law", "([I)Z"⟩
def wsX0_init : List Cond := .code yX0_init cX0_init 3 none :: ([.methodLink RX0 1 objectInit, .instanceMethod objectInit, .code objectInit ⟨#[0xb1]⟩ 1 none, .methodLink RX0 7 Lib.Math.max.name, .static Lib.Math.max.name, .initialized "java/lang/Math", .code Lib.Math.max.name Lib.Math.max.code 2 (some .int), .arrayClass .int, .fieldLink RX0 13 "MiddleClaims$Clauses" "sides" "[I", .fieldLink RX0 19 "MiddleClaims$Clauses" "signs" "[I", .fieldLink RX0 22 "MiddleClaims$Clauses" "opposites" "[I", .fieldLink RX0 25 "MiddleClaims$Clauses" "size" "I"] ++ wsX00)
def wsX0_size : List Cond := .code yX0_size cX0_size 1 (some .int) :: ([.fieldLink RX0 25 "MiddleClaims$Clauses" "size" "I"] ++ wsX00)
def wsX0_has : List Cond := .code yX0_has cX0_has 2 (some .boolean) :: ([.fieldLink RX0 25 "MiddleClaims$Clauses" "size" "I", .fieldLink RX0 13 "MiddleClaims$Clauses" "sides" "[I"] ++ wsX00)
def wsX0_sideOf : List Cond := .code yX0_sideOf cX0_sideOf 2 (some .int) :: ([.fieldLink RX0 13 "MiddleClaims$Clauses" "sides" "[I", .methodLink RX0 29 yX0_has, .instanceMethod yX0_has, .selects RX0 yX0_has yX0_has, .initialized RX0, .code yX0_has cX0_has 2 (some .boolean), .fieldLink RX0 25 "MiddleClaims$Clauses" "size" "I"] ++ wsX00)
def wsX0_signsOf : List Cond := .code yX0_signsOf cX0_signsOf 2 (some .int) :: ([.fieldLink RX0 19 "MiddleClaims$Clauses" "signs" "[I", .methodLink RX0 29 yX0_has, .instanceMethod yX0_has, .selects RX0 yX0_has yX0_has, .initialized RX0, .code yX0_has cX0_has 2 (some .boolean), .fieldLink RX0 25 "MiddleClaims$Clauses" "size" "I", .fieldLink RX0 13 "MiddleClaims$Clauses" "sides" "[I"] ++ wsX00)
def wsX0_oppositesOf : List Cond := .code yX0_oppositesOf cX0_oppositesOf 2 (some .int) :: ([.fieldLink RX0 22 "MiddleClaims$Clauses" "opposites" "[I", .methodLink RX0 29 yX0_has, .instanceMethod yX0_has, .selects RX0 yX0_has yX0_has, .initialized RX0, .code yX0_has cX0_has 2 (some .boolean), .fieldLink RX0 25 "MiddleClaims$Clauses" "size" "I", .fieldLink RX0 13 "MiddleClaims$Clauses" "sides" "[I"] ++ wsX00)
def wsX0_clear : List Cond := .code yX0_clear cX0_clear 1 none :: ([.fieldLink RX0 25 "MiddleClaims$Clauses" "size" "I"] ++ wsX00)
def wsX0_append : List Cond := .code yX0_append cX0_append 4 none :: ([.fieldLink RX0 25 "MiddleClaims$Clauses" "size" "I", .fieldLink RX0 13 "MiddleClaims$Clauses" "sides" "[I", .fieldLink RX0 19 "MiddleClaims$Clauses" "signs" "[I", .fieldLink RX0 22 "MiddleClaims$Clauses" "opposites" "[I"] ++ wsX00)
def wsX0_appendEach_r1 : List Cond := [Cond.methodLink RX0 33 yX0_size, Cond.instanceMethod yX0_size, Cond.selects RX0 yX0_size yX0_size, Cond.initialized RX0, Cond.code yX0_size cX0_size 1 (some .int), Cond.fieldLink RX0 25 "MiddleClaims$Clauses" "size" "I", Cond.methodLink RX0 36 yX0_sideOf, Cond.instanceMethod yX0_sideOf, Cond.selects RX0 yX0_sideOf yX0_sideOf, Cond.code yX0_sideOf cX0_sideOf 2 (some .int), Cond.fieldLink RX0 13 "MiddleClaims$Clauses" "sides" "[I", Cond.methodLink RX0 29 yX0_has, Cond.instanceMethod yX0_has, Cond.selects RX0 yX0_has yX0_has, Cond.code yX0_has cX0_has 2 (some .boolean), Cond.methodLink RX0 40 yX0_signsOf, Cond.instanceMethod yX0_signsOf, Cond.selects RX0 yX0_signsOf yX0_signsOf, Cond.code yX0_signsOf cX0_signsOf 2 (some .int), Cond.fieldLink RX0 19 "MiddleClaims$Clauses" "signs" "[I", Cond.methodLink RX0 43 yX0_oppositesOf, Cond.instanceMethod yX0_oppositesOf, Cond.selects RX0 yX0_oppositesOf yX0_oppositesOf, Cond.code yX0_oppositesOf cX0_oppositesOf 2 (some .int)]
def wsX0_appendEach_r2 : List Cond := [Cond.fieldLink RX0 22 "MiddleClaims$Clauses" "opposites" "[I", Cond.methodLink RX0 46 yX0_append, Cond.instanceMethod yX0_append, Cond.selects RX0 yX0_append yX0_append, Cond.code yX0_append cX0_append 4 none]
def wsX0_appendEach : List Cond := .code yX0_appendEach cX0_appendEach 4 none :: ((wsX0_appendEach_r1 ++ wsX0_appendEach_r2) ++ wsX00)
def wsX0_becomeLike_r1 : List Cond := [Cond.methodLink RX0 50 yX0_clear, Cond.instanceMethod yX0_clear, Cond.selects RX0 yX0_clear yX0_clear, Cond.initialized RX0, Cond.code yX0_clear cX0_clear 1 none, Cond.fieldLink RX0 25 "MiddleClaims$Clauses" "size" "I", Cond.methodLink RX0 53 yX0_appendEach, Cond.instanceMethod yX0_appendEach, Cond.selects RX0 yX0_appendEach yX0_appendEach, Cond.code yX0_appendEach cX0_appendEach 4 none, Cond.methodLink RX0 33 yX0_size, Cond.instanceMethod yX0_size, Cond.selects RX0 yX0_size yX0_size, Cond.code yX0_size cX0_size 1 (some .int), Cond.methodLink RX0 36 yX0_sideOf, Cond.instanceMethod yX0_sideOf, Cond.selects RX0 yX0_sideOf yX0_sideOf, Cond.code yX0_sideOf cX0_sideOf 2 (some .int), Cond.fieldLink RX0 13 "MiddleClaims$Clauses" "sides" "[I", Cond.methodLink RX0 29 yX0_has, Cond.instanceMethod yX0_has, Cond.selects RX0 yX0_has yX0_has, Cond.code yX0_has cX0_has 2 (some .boolean), Cond.methodLink RX0 40 yX0_signsOf]
def wsX0_becomeLike_r2 : List Cond := [Cond.instanceMethod yX0_signsOf, Cond.selects RX0 yX0_signsOf yX0_signsOf, Cond.code yX0_signsOf cX0_signsOf 2 (some .int), Cond.fieldLink RX0 19 "MiddleClaims$Clauses" "signs" "[I", Cond.methodLink RX0 43 yX0_oppositesOf, Cond.instanceMethod yX0_oppositesOf, Cond.selects RX0 yX0_oppositesOf yX0_oppositesOf, Cond.code yX0_oppositesOf cX0_oppositesOf 2 (some .int), Cond.fieldLink RX0 22 "MiddleClaims$Clauses" "opposites" "[I", Cond.methodLink RX0 46 yX0_append, Cond.instanceMethod yX0_append, Cond.selects RX0 yX0_append yX0_append, Cond.code yX0_append cX0_append 4 none]
def wsX0_becomeLike : List Cond := .code yX0_becomeLike cX0_becomeLike 2 none :: ((wsX0_becomeLike_r1 ++ wsX0_becomeLike_r2) ++ wsX00)
def wsX0_drop : List Cond := .code yX0_drop cX0_drop 3 none :: ([.fieldLink RX0 25 "MiddleClaims$Clauses" "size" "I", .fieldLink RX0 13 "MiddleClaims$Clauses" "sides" "[I", .fieldLink RX0 19 "MiddleClaims$Clauses" "signs" "[I", .fieldLink RX0 22 "MiddleClaims$Clauses" "opposites" "[I", .methodLink RX0 29 yX0_has, .instanceMethod yX0_has, .selects RX0 yX0_has yX0_has, .initialized RX0, .code yX0_has cX0_has 2 (some .boolean)] ++ wsX00)
def wsX0_changeSide : List Cond := .code yX0_changeSide cX0_changeSide 2 none :: ([.fieldLink RX0 13 "MiddleClaims$Clauses" "sides" "[I", .methodLink RX0 29 yX0_has, .instanceMethod yX0_has, .selects RX0 yX0_has yX0_has, .initialized RX0, .code yX0_has cX0_has 2 (some .boolean), .fieldLink RX0 25 "MiddleClaims$Clauses" "size" "I"] ++ wsX00)
def wsX4_asNumber : List Cond := .code yX4_asNumber cX4_asNumber 1 (some .int) :: ([])
def wsX0_sizeOfSide : List Cond := .code yX0_sizeOfSide cX0_sizeOfSide 4 (some .int) :: ([.fieldLink RX0 25 "MiddleClaims$Clauses" "size" "I", .methodLink RX0 36 yX0_sideOf, .instanceMethod yX0_sideOf, .selects RX0 yX0_sideOf yX0_sideOf, .initialized RX0, .code yX0_sideOf cX0_sideOf 2 (some .int), .fieldLink RX0 13 "MiddleClaims$Clauses" "sides" "[I", .methodLink RX0 29 yX0_has, .instanceMethod yX0_has, .selects RX0 yX0_has yX0_has, .code yX0_has cX0_has 2 (some .boolean), .static yX4_asNumber, .initialized RX4, .code yX4_asNumber cX4_asNumber 1 (some .int)] ++ wsX00)
def wsX0_signsKnownTo : List Cond := .code yX0_signsKnownTo cX0_signsKnownTo 4 (some .int) :: ([.fieldLink RX0 25 "MiddleClaims$Clauses" "size" "I", .methodLink RX0 36 yX0_sideOf, .instanceMethod yX0_sideOf, .selects RX0 yX0_sideOf yX0_sideOf, .initialized RX0, .code yX0_sideOf cX0_sideOf 2 (some .int), .fieldLink RX0 13 "MiddleClaims$Clauses" "sides" "[I", .methodLink RX0 29 yX0_has, .instanceMethod yX0_has, .selects RX0 yX0_has yX0_has, .code yX0_has cX0_has 2 (some .boolean), .methodLink RX0 40 yX0_signsOf, .instanceMethod yX0_signsOf, .selects RX0 yX0_signsOf yX0_signsOf, .code yX0_signsOf cX0_signsOf 2 (some .int), .fieldLink RX0 19 "MiddleClaims$Clauses" "signs" "[I", .methodLink RX0 43 yX0_oppositesOf, .instanceMethod yX0_oppositesOf, .selects RX0 yX0_oppositesOf yX0_oppositesOf, .code yX0_oppositesOf cX0_oppositesOf 2 (some .int), .fieldLink RX0 22 "MiddleClaims$Clauses" "opposites" "[I"] ++ wsX00)
def wsX0_sharedSigns_r1 : List Cond := [Cond.methodLink RX0 63 yX0_signsKnownTo, Cond.instanceMethod yX0_signsKnownTo, Cond.selects RX0 yX0_signsKnownTo yX0_signsKnownTo, Cond.initialized RX0, Cond.code yX0_signsKnownTo cX0_signsKnownTo 4 (some .int), Cond.fieldLink RX0 25 "MiddleClaims$Clauses" "size" "I", Cond.methodLink RX0 36 yX0_sideOf, Cond.instanceMethod yX0_sideOf, Cond.selects RX0 yX0_sideOf yX0_sideOf, Cond.code yX0_sideOf cX0_sideOf 2 (some .int), Cond.fieldLink RX0 13 "MiddleClaims$Clauses" "sides" "[I", Cond.methodLink RX0 29 yX0_has, Cond.instanceMethod yX0_has, Cond.selects RX0 yX0_has yX0_has, Cond.code yX0_has cX0_has 2 (some .boolean), Cond.methodLink RX0 40 yX0_signsOf, Cond.instanceMethod yX0_signsOf, Cond.selects RX0 yX0_signsOf yX0_signsOf, Cond.code yX0_signsOf cX0_signsOf 2 (some .int), Cond.fieldLink RX0 19 "MiddleClaims$Clauses" "signs" "[I", Cond.methodLink RX0 43 yX0_oppositesOf, Cond.instanceMethod yX0_oppositesOf, Cond.selects RX0 yX0_oppositesOf yX0_oppositesOf, Cond.code yX0_oppositesOf cX0_oppositesOf 2 (some .int)]
def wsX0_sharedSigns_r2 : List Cond := [Cond.fieldLink RX0 22 "MiddleClaims$Clauses" "opposites" "[I"]
def wsX0_sharedSigns : List Cond := .code yX0_sharedSigns cX0_sharedSigns 1 (some .int) :: ((wsX0_sharedSigns_r1 ++ wsX0_sharedSigns_r2) ++ wsX00)
def wsX4_isIn : List Cond := .code yX4_isIn cX4_isIn 2 (some .boolean) :: ([])
def wsX4_worldsOfSign : List Cond := .code yX4_worldsOfSign cX4_worldsOfSign 1 (some .long) :: ([.fieldLink RX4 212 "MiddleClaims" "WORLDS_OF_SIGN" "[J"])
def wsX4_worldsOfLiterals : List Cond := .code yX4_worldsOfLiterals cX4_worldsOfLiterals 5 (some .long) :: ([.constantLong RX4 189 (-1), .methodLink RX4 216 yX4_isIn, .static yX4_isIn, .initialized RX4, .code yX4_isIn cX4_isIn 2 (some .boolean), .methodLink RX4 220 yX4_worldsOfSign, .static yX4_worldsOfSign, .code yX4_worldsOfSign cX4_worldsOfSign 1 (some .long), .fieldLink RX4 212 "MiddleClaims" "WORLDS_OF_SIGN" "[J"])
def wsX0_worldsOf_r1 : List Cond := [Cond.methodLink RX0 40 yX0_signsOf, Cond.instanceMethod yX0_signsOf, Cond.selects RX0 yX0_signsOf yX0_signsOf, Cond.initialized RX0, Cond.code yX0_signsOf cX0_signsOf 2 (some .int), Cond.fieldLink RX0 19 "MiddleClaims$Clauses" "signs" "[I", Cond.methodLink RX0 29 yX0_has, Cond.instanceMethod yX0_has, Cond.selects RX0 yX0_has yX0_has, Cond.code yX0_has cX0_has 2 (some .boolean), Cond.fieldLink RX0 25 "MiddleClaims$Clauses" "size" "I", Cond.fieldLink RX0 13 "MiddleClaims$Clauses" "sides" "[I", Cond.methodLink RX0 43 yX0_oppositesOf, Cond.instanceMethod yX0_oppositesOf, Cond.selects RX0 yX0_oppositesOf yX0_oppositesOf, Cond.code yX0_oppositesOf cX0_oppositesOf 2 (some .int), Cond.fieldLink RX0 22 "MiddleClaims$Clauses" "opposites" "[I", Cond.static yX4_worldsOfLiterals, Cond.initialized RX4, Cond.code yX4_worldsOfLiterals cX4_worldsOfLiterals 5 (some .long), Cond.constantLong RX4 189 (-1), Cond.methodLink RX4 216 yX4_isIn, Cond.static yX4_isIn, Cond.code yX4_isIn cX4_isIn 2 (some .boolean)]
def wsX0_worldsOf_r2 : List Cond := [Cond.methodLink RX4 220 yX4_worldsOfSign, Cond.static yX4_worldsOfSign, Cond.code yX4_worldsOfSign cX4_worldsOfSign 1 (some .long), Cond.fieldLink RX4 212 "MiddleClaims" "WORLDS_OF_SIGN" "[J"]
def wsX0_worldsOf : List Cond := .code yX0_worldsOf cX0_worldsOf 2 (some .long) :: ((wsX0_worldsOf_r1 ++ wsX0_worldsOf_r2) ++ wsX00)
def wsX0_worldsOfSide_r1 : List Cond := [Cond.constantLong RX0 70 (-1), Cond.fieldLink RX0 25 "MiddleClaims$Clauses" "size" "I", Cond.methodLink RX0 36 yX0_sideOf, Cond.instanceMethod yX0_sideOf, Cond.selects RX0 yX0_sideOf yX0_sideOf, Cond.initialized RX0, Cond.code yX0_sideOf cX0_sideOf 2 (some .int), Cond.fieldLink RX0 13 "MiddleClaims$Clauses" "sides" "[I", Cond.methodLink RX0 29 yX0_has, Cond.instanceMethod yX0_has, Cond.selects RX0 yX0_has yX0_has, Cond.code yX0_has cX0_has 2 (some .boolean), Cond.methodLink RX0 72 yX0_worldsOf, Cond.instanceMethod yX0_worldsOf, Cond.selects RX0 yX0_worldsOf yX0_worldsOf, Cond.code yX0_worldsOf cX0_worldsOf 2 (some .long), Cond.methodLink RX0 40 yX0_signsOf, Cond.instanceMethod yX0_signsOf, Cond.selects RX0 yX0_signsOf yX0_signsOf, Cond.code yX0_signsOf cX0_signsOf 2 (some .int), Cond.fieldLink RX0 19 "MiddleClaims$Clauses" "signs" "[I", Cond.methodLink RX0 43 yX0_oppositesOf, Cond.instanceMethod yX0_oppositesOf, Cond.selects RX0 yX0_oppositesOf yX0_oppositesOf]
def wsX0_worldsOfSide_r2 : List Cond := [Cond.code yX0_oppositesOf cX0_oppositesOf 2 (some .int), Cond.fieldLink RX0 22 "MiddleClaims$Clauses" "opposites" "[I", Cond.static yX4_worldsOfLiterals, Cond.initialized RX4, Cond.code yX4_worldsOfLiterals cX4_worldsOfLiterals 5 (some .long), Cond.constantLong RX4 189 (-1), Cond.methodLink RX4 216 yX4_isIn, Cond.static yX4_isIn, Cond.code yX4_isIn cX4_isIn 2 (some .boolean), Cond.methodLink RX4 220 yX4_worldsOfSign, Cond.static yX4_worldsOfSign, Cond.code yX4_worldsOfSign cX4_worldsOfSign 1 (some .long), Cond.fieldLink RX4 212 "MiddleClaims" "WORLDS_OF_SIGN" "[J"]
def wsX0_worldsOfSide : List Cond := .code yX0_worldsOfSide cX0_worldsOfSide 5 (some .long) :: ((wsX0_worldsOfSide_r1 ++ wsX0_worldsOfSide_r2) ++ wsX00)
def wsX0_worldsOfBoth_r1 : List Cond := [Cond.methodLink RX0 76 yX0_worldsOfSide, Cond.instanceMethod yX0_worldsOfSide, Cond.selects RX0 yX0_worldsOfSide yX0_worldsOfSide, Cond.initialized RX0, Cond.code yX0_worldsOfSide cX0_worldsOfSide 5 (some .long), Cond.constantLong RX0 70 (-1), Cond.fieldLink RX0 25 "MiddleClaims$Clauses" "size" "I", Cond.methodLink RX0 36 yX0_sideOf, Cond.instanceMethod yX0_sideOf, Cond.selects RX0 yX0_sideOf yX0_sideOf, Cond.code yX0_sideOf cX0_sideOf 2 (some .int), Cond.fieldLink RX0 13 "MiddleClaims$Clauses" "sides" "[I", Cond.methodLink RX0 29 yX0_has, Cond.instanceMethod yX0_has, Cond.selects RX0 yX0_has yX0_has, Cond.code yX0_has cX0_has 2 (some .boolean), Cond.methodLink RX0 72 yX0_worldsOf, Cond.instanceMethod yX0_worldsOf, Cond.selects RX0 yX0_worldsOf yX0_worldsOf, Cond.code yX0_worldsOf cX0_worldsOf 2 (some .long), Cond.methodLink RX0 40 yX0_signsOf, Cond.instanceMethod yX0_signsOf, Cond.selects RX0 yX0_signsOf yX0_signsOf, Cond.code yX0_signsOf cX0_signsOf 2 (some .int)]
def wsX0_worldsOfBoth_r2 : List Cond := [Cond.fieldLink RX0 19 "MiddleClaims$Clauses" "signs" "[I", Cond.methodLink RX0 43 yX0_oppositesOf, Cond.instanceMethod yX0_oppositesOf, Cond.selects RX0 yX0_oppositesOf yX0_oppositesOf, Cond.code yX0_oppositesOf cX0_oppositesOf 2 (some .int), Cond.fieldLink RX0 22 "MiddleClaims$Clauses" "opposites" "[I", Cond.static yX4_worldsOfLiterals, Cond.initialized RX4, Cond.code yX4_worldsOfLiterals cX4_worldsOfLiterals 5 (some .long), Cond.constantLong RX4 189 (-1), Cond.methodLink RX4 216 yX4_isIn, Cond.static yX4_isIn, Cond.code yX4_isIn cX4_isIn 2 (some .boolean), Cond.methodLink RX4 220 yX4_worldsOfSign, Cond.static yX4_worldsOfSign, Cond.code yX4_worldsOfSign cX4_worldsOfSign 1 (some .long), Cond.fieldLink RX4 212 "MiddleClaims" "WORLDS_OF_SIGN" "[J"]
def wsX0_worldsOfBoth : List Cond := .code yX0_worldsOfBoth cX0_worldsOfBoth 1 (some .long) :: ((wsX0_worldsOfBoth_r1 ++ wsX0_worldsOfBoth_r2) ++ wsX00)
def wsX0_clash_r1 : List Cond := [Cond.methodLink RX0 79 yX0_worldsOfBoth, Cond.instanceMethod yX0_worldsOfBoth, Cond.selects RX0 yX0_worldsOfBoth yX0_worldsOfBoth, Cond.initialized RX0, Cond.code yX0_worldsOfBoth cX0_worldsOfBoth 1 (some .long), Cond.methodLink RX0 76 yX0_worldsOfSide, Cond.instanceMethod yX0_worldsOfSide, Cond.selects RX0 yX0_worldsOfSide yX0_worldsOfSide, Cond.code yX0_worldsOfSide cX0_worldsOfSide 5 (some .long), Cond.constantLong RX0 70 (-1), Cond.fieldLink RX0 25 "MiddleClaims$Clauses" "size" "I", Cond.methodLink RX0 36 yX0_sideOf, Cond.instanceMethod yX0_sideOf, Cond.selects RX0 yX0_sideOf yX0_sideOf, Cond.code yX0_sideOf cX0_sideOf 2 (some .int), Cond.fieldLink RX0 13 "MiddleClaims$Clauses" "sides" "[I", Cond.methodLink RX0 29 yX0_has, Cond.instanceMethod yX0_has, Cond.selects RX0 yX0_has yX0_has, Cond.code yX0_has cX0_has 2 (some .boolean), Cond.methodLink RX0 72 yX0_worldsOf, Cond.instanceMethod yX0_worldsOf, Cond.selects RX0 yX0_worldsOf yX0_worldsOf, Cond.code yX0_worldsOf cX0_worldsOf 2 (some .long)]
def wsX0_clash_r2 : List Cond := [Cond.methodLink RX0 40 yX0_signsOf, Cond.instanceMethod yX0_signsOf, Cond.selects RX0 yX0_signsOf yX0_signsOf, Cond.code yX0_signsOf cX0_signsOf 2 (some .int), Cond.fieldLink RX0 19 "MiddleClaims$Clauses" "signs" "[I", Cond.methodLink RX0 43 yX0_oppositesOf, Cond.instanceMethod yX0_oppositesOf, Cond.selects RX0 yX0_oppositesOf yX0_oppositesOf, Cond.code yX0_oppositesOf cX0_oppositesOf 2 (some .int), Cond.fieldLink RX0 22 "MiddleClaims$Clauses" "opposites" "[I", Cond.static yX4_worldsOfLiterals, Cond.initialized RX4, Cond.code yX4_worldsOfLiterals cX4_worldsOfLiterals 5 (some .long), Cond.constantLong RX4 189 (-1), Cond.methodLink RX4 216 yX4_isIn, Cond.static yX4_isIn, Cond.code yX4_isIn cX4_isIn 2 (some .boolean), Cond.methodLink RX4 220 yX4_worldsOfSign, Cond.static yX4_worldsOfSign, Cond.code yX4_worldsOfSign cX4_worldsOfSign 1 (some .long), Cond.fieldLink RX4 212 "MiddleClaims" "WORLDS_OF_SIGN" "[J"]
def wsX0_clash : List Cond := .code yX0_clash cX0_clash 1 (some .boolean) :: ((wsX0_clash_r1 ++ wsX0_clash_r2) ++ wsX00)
def wsX1_init : List Cond := .code yX1_init cX1_init 2 none :: ([.methodLink RX1 3 objectInit, .instanceMethod objectInit, .code objectInit ⟨#[0xb1]⟩ 1 none, .classLink RX1 9 RX0, .fieldLink RX1 11 "MiddleClaims$History" "states" "[LMiddleClaims$Clauses;", .instantiable RX0 4, .initialized RX0, .fieldLink RX1 20 "MiddleClaims$History" "size" "I", .methodLink RX1 17 yX0_init, .instanceMethod yX0_init, .code yX0_init cX0_init 3 none, .methodLink RX0 1 objectInit, .methodLink RX0 7 Lib.Math.max.name, .static Lib.Math.max.name, .initialized "java/lang/Math", .code Lib.Math.max.name Lib.Math.max.code 2 (some .int), .arrayClass .int, .fieldLink RX0 13 "MiddleClaims$Clauses" "sides" "[I", .fieldLink RX0 19 "MiddleClaims$Clauses" "signs" "[I", .fieldLink RX0 22 "MiddleClaims$Clauses" "opposites" "[I", .fieldLink RX0 25 "MiddleClaims$Clauses" "size" "I"] ++ wsX10 ++ wsX00)
def wsX1_size : List Cond := .code yX1_size cX1_size 1 (some .int) :: ([.fieldLink RX1 20 "MiddleClaims$History" "size" "I"] ++ wsX10)
def wsX1_dropOldest : List Cond := .code yX1_dropOldest cX1_dropOldest 3 none :: ([.fieldLink RX1 11 "MiddleClaims$History" "states" "[LMiddleClaims$Clauses;", .fieldLink RX1 20 "MiddleClaims$History" "size" "I"] ++ wsX10)
def wsX1_remember_r1 : List Cond := [Cond.fieldLink RX1 20 "MiddleClaims$History" "size" "I", Cond.fieldLink RX1 11 "MiddleClaims$History" "states" "[LMiddleClaims$Clauses;", Cond.methodLink RX1 24 yX1_dropOldest, Cond.instanceMethod yX1_dropOldest, Cond.selects RX1 yX1_dropOldest yX1_dropOldest, Cond.initialized RX1, Cond.code yX1_dropOldest cX1_dropOldest 3 none, Cond.methodLink RX1 27 yX0_becomeLike, Cond.instanceMethod yX0_becomeLike, Cond.selects RX0 yX0_becomeLike yX0_becomeLike, Cond.initialized RX0, Cond.code yX0_becomeLike cX0_becomeLike 2 none, Cond.methodLink RX0 50 yX0_clear, Cond.instanceMethod yX0_clear, Cond.selects RX0 yX0_clear yX0_clear, Cond.code yX0_clear cX0_clear 1 none, Cond.fieldLink RX0 25 "MiddleClaims$Clauses" "size" "I", Cond.methodLink RX0 53 yX0_appendEach, Cond.instanceMethod yX0_appendEach, Cond.selects RX0 yX0_appendEach yX0_appendEach, Cond.code yX0_appendEach cX0_appendEach 4 none, Cond.methodLink RX0 33 yX0_size, Cond.instanceMethod yX0_size, Cond.selects RX0 yX0_size yX0_size]
def wsX1_remember_r2 : List Cond := [Cond.code yX0_size cX0_size 1 (some .int), Cond.methodLink RX0 36 yX0_sideOf, Cond.instanceMethod yX0_sideOf, Cond.selects RX0 yX0_sideOf yX0_sideOf, Cond.code yX0_sideOf cX0_sideOf 2 (some .int), Cond.fieldLink RX0 13 "MiddleClaims$Clauses" "sides" "[I", Cond.methodLink RX0 29 yX0_has, Cond.instanceMethod yX0_has, Cond.selects RX0 yX0_has yX0_has, Cond.code yX0_has cX0_has 2 (some .boolean), Cond.methodLink RX0 40 yX0_signsOf, Cond.instanceMethod yX0_signsOf, Cond.selects RX0 yX0_signsOf yX0_signsOf, Cond.code yX0_signsOf cX0_signsOf 2 (some .int), Cond.fieldLink RX0 19 "MiddleClaims$Clauses" "signs" "[I", Cond.methodLink RX0 43 yX0_oppositesOf, Cond.instanceMethod yX0_oppositesOf, Cond.selects RX0 yX0_oppositesOf yX0_oppositesOf, Cond.code yX0_oppositesOf cX0_oppositesOf 2 (some .int), Cond.fieldLink RX0 22 "MiddleClaims$Clauses" "opposites" "[I", Cond.methodLink RX0 46 yX0_append, Cond.instanceMethod yX0_append, Cond.selects RX0 yX0_append yX0_append, Cond.code yX0_append cX0_append 4 none]
def wsX1_remember : List Cond := .code yX1_remember cX1_remember 2 none :: ((wsX1_remember_r1 ++ wsX1_remember_r2) ++ wsX10 ++ wsX00)
def wsX1_takeLatestInto_r1 : List Cond := [Cond.fieldLink RX1 20 "MiddleClaims$History" "size" "I", Cond.fieldLink RX1 11 "MiddleClaims$History" "states" "[LMiddleClaims$Clauses;", Cond.methodLink RX1 27 yX0_becomeLike, Cond.instanceMethod yX0_becomeLike, Cond.selects RX0 yX0_becomeLike yX0_becomeLike, Cond.initialized RX0, Cond.code yX0_becomeLike cX0_becomeLike 2 none, Cond.methodLink RX0 50 yX0_clear, Cond.instanceMethod yX0_clear, Cond.selects RX0 yX0_clear yX0_clear, Cond.code yX0_clear cX0_clear 1 none, Cond.fieldLink RX0 25 "MiddleClaims$Clauses" "size" "I", Cond.methodLink RX0 53 yX0_appendEach, Cond.instanceMethod yX0_appendEach, Cond.selects RX0 yX0_appendEach yX0_appendEach, Cond.code yX0_appendEach cX0_appendEach 4 none, Cond.methodLink RX0 33 yX0_size, Cond.instanceMethod yX0_size, Cond.selects RX0 yX0_size yX0_size, Cond.code yX0_size cX0_size 1 (some .int), Cond.methodLink RX0 36 yX0_sideOf, Cond.instanceMethod yX0_sideOf, Cond.selects RX0 yX0_sideOf yX0_sideOf, Cond.code yX0_sideOf cX0_sideOf 2 (some .int)]
def wsX1_takeLatestInto_r2 : List Cond := [Cond.fieldLink RX0 13 "MiddleClaims$Clauses" "sides" "[I", Cond.methodLink RX0 29 yX0_has, Cond.instanceMethod yX0_has, Cond.selects RX0 yX0_has yX0_has, Cond.code yX0_has cX0_has 2 (some .boolean), Cond.methodLink RX0 40 yX0_signsOf, Cond.instanceMethod yX0_signsOf, Cond.selects RX0 yX0_signsOf yX0_signsOf, Cond.code yX0_signsOf cX0_signsOf 2 (some .int), Cond.fieldLink RX0 19 "MiddleClaims$Clauses" "signs" "[I", Cond.methodLink RX0 43 yX0_oppositesOf, Cond.instanceMethod yX0_oppositesOf, Cond.selects RX0 yX0_oppositesOf yX0_oppositesOf, Cond.code yX0_oppositesOf cX0_oppositesOf 2 (some .int), Cond.fieldLink RX0 22 "MiddleClaims$Clauses" "opposites" "[I", Cond.methodLink RX0 46 yX0_append, Cond.instanceMethod yX0_append, Cond.selects RX0 yX0_append yX0_append, Cond.code yX0_append cX0_append 4 none]
def wsX1_takeLatestInto : List Cond := .code yX1_takeLatestInto cX1_takeLatestInto 3 none :: ((wsX1_takeLatestInto_r1 ++ wsX1_takeLatestInto_r2) ++ wsX10 ++ wsX00)
def wsX2_init : List Cond := .code yX2_init cX2_init 1 none :: ([.methodLink RX2 3 objectInit, .instanceMethod objectInit, .code objectInit ⟨#[0xb1]⟩ 1 none, .arrayClass .int, .fieldLink RX2 9 "MiddleClaims$Proof" "signs" "[I", .fieldLink RX2 15 "MiddleClaims$Proof" "opposites" "[I", .fieldLink RX2 18 "MiddleClaims$Proof" "firstParents" "[I", .fieldLink RX2 21 "MiddleClaims$Proof" "secondParents" "[I", .fieldLink RX2 24 "MiddleClaims$Proof" "pivots" "[I", .arrayClass .long, .fieldLink RX2 27 "MiddleClaims$Proof" "claims0" "[J", .fieldLink RX2 31 "MiddleClaims$Proof" "claims1" "[J", .arrayClass .boolean, .fieldLink RX2 34 "MiddleClaims$Proof" "needed" "[Z", .fieldLink RX2 38 "MiddleClaims$Proof" "stepsWithSigns" "[J", .fieldLink RX2 41 "MiddleClaims$Proof" "size" "I"] ++ wsX20)
def wsX2_size : List Cond := .code yX2_size cX2_size 1 (some .int) :: ([.fieldLink RX2 41 "MiddleClaims$Proof" "size" "I"] ++ wsX20)
def wsX2_isKnown : List Cond := .code yX2_isKnown cX2_isKnown 1 (some .boolean) :: ([.fieldLink RX2 45 "MiddleClaims$Proof" "overfull" "Z"] ++ wsX20)
def wsX2_hasEmptyClause : List Cond := .code yX2_hasEmptyClause cX2_hasEmptyClause 1 (some .boolean) :: ([.fieldLink RX2 49 "MiddleClaims$Proof" "emptyClauseFound" "Z"] ++ wsX20)
def wsX2_has : List Cond := .code yX2_has cX2_has 2 (some .boolean) :: ([.fieldLink RX2 41 "MiddleClaims$Proof" "size" "I"] ++ wsX20)
def wsX2_signsOf : List Cond := .code yX2_signsOf cX2_signsOf 2 (some .int) :: ([.fieldLink RX2 9 "MiddleClaims$Proof" "signs" "[I", .methodLink RX2 52 yX2_has, .instanceMethod yX2_has, .selects RX2 yX2_has yX2_has, .initialized RX2, .code yX2_has cX2_has 2 (some .boolean), .fieldLink RX2 41 "MiddleClaims$Proof" "size" "I"] ++ wsX20)
def wsX2_oppositesOf : List Cond := .code yX2_oppositesOf cX2_oppositesOf 2 (some .int) :: ([.fieldLink RX2 15 "MiddleClaims$Proof" "opposites" "[I", .methodLink RX2 52 yX2_has, .instanceMethod yX2_has, .selects RX2 yX2_has yX2_has, .initialized RX2, .code yX2_has cX2_has 2 (some .boolean), .fieldLink RX2 41 "MiddleClaims$Proof" "size" "I"] ++ wsX20)
def wsX2_firstParentOf : List Cond := .code yX2_firstParentOf cX2_firstParentOf 2 (some .int) :: ([.fieldLink RX2 18 "MiddleClaims$Proof" "firstParents" "[I", .methodLink RX2 52 yX2_has, .instanceMethod yX2_has, .selects RX2 yX2_has yX2_has, .initialized RX2, .code yX2_has cX2_has 2 (some .boolean), .fieldLink RX2 41 "MiddleClaims$Proof" "size" "I"] ++ wsX20)
def wsX2_secondParentOf : List Cond := .code yX2_secondParentOf cX2_secondParentOf 2 (some .int) :: ([.fieldLink RX2 21 "MiddleClaims$Proof" "secondParents" "[I", .methodLink RX2 52 yX2_has, .instanceMethod yX2_has, .selects RX2 yX2_has yX2_has, .initialized RX2, .code yX2_has cX2_has 2 (some .boolean), .fieldLink RX2 41 "MiddleClaims$Proof" "size" "I"] ++ wsX20)
def wsX2_pivotOf : List Cond := .code yX2_pivotOf cX2_pivotOf 2 (some .int) :: ([.fieldLink RX2 24 "MiddleClaims$Proof" "pivots" "[I", .methodLink RX2 52 yX2_has, .instanceMethod yX2_has, .selects RX2 yX2_has yX2_has, .initialized RX2, .code yX2_has cX2_has 2 (some .boolean), .fieldLink RX2 41 "MiddleClaims$Proof" "size" "I"] ++ wsX20)
def wsX2_isNeeded : List Cond := .code yX2_isNeeded cX2_isNeeded 2 (some .boolean) :: ([.fieldLink RX2 34 "MiddleClaims$Proof" "needed" "[Z", .methodLink RX2 52 yX2_has, .instanceMethod yX2_has, .selects RX2 yX2_has yX2_has, .initialized RX2, .code yX2_has cX2_has 2 (some .boolean), .fieldLink RX2 41 "MiddleClaims$Proof" "size" "I"] ++ wsX20)
def wsX2_neededAmong : List Cond := .code yX2_neededAmong cX2_neededAmong 4 (some .int) :: ([.fieldLink RX2 41 "MiddleClaims$Proof" "size" "I", .methodLink RX2 56 yX2_isNeeded, .instanceMethod yX2_isNeeded, .selects RX2 yX2_isNeeded yX2_isNeeded, .initialized RX2, .code yX2_isNeeded cX2_isNeeded 2 (some .boolean), .fieldLink RX2 34 "MiddleClaims$Proof" "needed" "[Z", .methodLink RX2 52 yX2_has, .instanceMethod yX2_has, .selects RX2 yX2_has yX2_has, .code yX2_has cX2_has 2 (some .boolean), .static yX4_asNumber, .initialized RX4, .code yX4_asNumber cX4_asNumber 1 (some .int)] ++ wsX20)
def wsX2_partialClaim : List Cond := .code yX2_partialClaim cX2_partialClaim 3 (some .long) :: ([.fieldLink RX2 27 "MiddleClaims$Proof" "claims0" "[J", .fieldLink RX2 31 "MiddleClaims$Proof" "claims1" "[J", .methodLink RX2 52 yX2_has, .instanceMethod yX2_has, .selects RX2 yX2_has yX2_has, .initialized RX2, .code yX2_has cX2_has 2 (some .boolean), .fieldLink RX2 41 "MiddleClaims$Proof" "size" "I"] ++ wsX20)
def wsX2_middleClaim : List Cond := .code yX2_middleClaim cX2_middleClaim 2 (some .long) :: ([.fieldLink RX2 41 "MiddleClaims$Proof" "size" "I", .methodLink RX2 63 yX2_partialClaim, .instanceMethod yX2_partialClaim, .selects RX2 yX2_partialClaim yX2_partialClaim, .initialized RX2, .code yX2_partialClaim cX2_partialClaim 3 (some .long), .fieldLink RX2 27 "MiddleClaims$Proof" "claims0" "[J", .fieldLink RX2 31 "MiddleClaims$Proof" "claims1" "[J", .methodLink RX2 52 yX2_has, .instanceMethod yX2_has, .selects RX2 yX2_has yX2_has, .code yX2_has cX2_has 2 (some .boolean)] ++ wsX20)
def wsX2_appendStep : List Cond := .code yX2_appendStep cX2_appendStep 10 none :: ([.fieldLink RX2 41 "MiddleClaims$Proof" "size" "I", .fieldLink RX2 9 "MiddleClaims$Proof" "signs" "[I", .fieldLink RX2 15 "MiddleClaims$Proof" "opposites" "[I", .fieldLink RX2 18 "MiddleClaims$Proof" "firstParents" "[I", .fieldLink RX2 21 "MiddleClaims$Proof" "secondParents" "[I", .fieldLink RX2 24 "MiddleClaims$Proof" "pivots" "[I", .fieldLink RX2 27 "MiddleClaims$Proof" "claims0" "[J", .fieldLink RX2 31 "MiddleClaims$Proof" "claims1" "[J", .fieldLink RX2 34 "MiddleClaims$Proof" "needed" "[Z", .fieldLink RX2 38 "MiddleClaims$Proof" "stepsWithSigns" "[J"] ++ wsX20)
def wsX2_appendClause_r1 : List Cond := [Cond.fieldLink RX2 73 "MiddleClaims$Proof" "knownToSide0" "I", Cond.fieldLink RX2 76 "MiddleClaims$Proof" "knownToSide1" "I", Cond.constantLong RX2 108 (-1), Cond.static yX4_worldsOfLiterals, Cond.initialized RX4, Cond.code yX4_worldsOfLiterals cX4_worldsOfLiterals 5 (some .long), Cond.constantLong RX4 189 (-1), Cond.methodLink RX4 216 yX4_isIn, Cond.static yX4_isIn, Cond.code yX4_isIn cX4_isIn 2 (some .boolean), Cond.methodLink RX4 220 yX4_worldsOfSign, Cond.static yX4_worldsOfSign, Cond.code yX4_worldsOfSign cX4_worldsOfSign 1 (some .long), Cond.fieldLink RX4 212 "MiddleClaims" "WORLDS_OF_SIGN" "[J", Cond.methodLink RX2 104 yX2_appendStep, Cond.instanceMethod yX2_appendStep, Cond.selects RX2 yX2_appendStep yX2_appendStep, Cond.initialized RX2, Cond.code yX2_appendStep cX2_appendStep 10 none, Cond.fieldLink RX2 41 "MiddleClaims$Proof" "size" "I", Cond.fieldLink RX2 9 "MiddleClaims$Proof" "signs" "[I", Cond.fieldLink RX2 15 "MiddleClaims$Proof" "opposites" "[I", Cond.fieldLink RX2 18 "MiddleClaims$Proof" "firstParents" "[I", Cond.fieldLink RX2 21 "MiddleClaims$Proof" "secondParents" "[I"]
def wsX2_appendClause_r2 : List Cond := [Cond.fieldLink RX2 24 "MiddleClaims$Proof" "pivots" "[I", Cond.fieldLink RX2 27 "MiddleClaims$Proof" "claims0" "[J", Cond.fieldLink RX2 31 "MiddleClaims$Proof" "claims1" "[J", Cond.fieldLink RX2 34 "MiddleClaims$Proof" "needed" "[Z", Cond.fieldLink RX2 38 "MiddleClaims$Proof" "stepsWithSigns" "[J"]
def wsX2_appendClause : List Cond := .code yX2_appendClause cX2_appendClause 7 none :: ((wsX2_appendClause_r1 ++ wsX2_appendClause_r2) ++ wsX20)
def wsJ6_bitCount_0f7a4 : List Cond := .code yJ6_bitCount_0f7a4 cJ6_bitCount_0f7a4 1 (some .int) :: ([.constant RJ6 265 (1431655765), .constant RJ6 266 (858993459), .constant RJ6 267 (252645135)])
def wsX2_isStep : List Cond := .code yX2_isStep cX2_isStep 3 (some .boolean) :: ([.fieldLink RX2 38 "MiddleClaims$Proof" "stepsWithSigns" "[J"] ++ wsX20)
def wsX2_resolvedClaim : List Cond := .code yX2_resolvedClaim cX2_resolvedClaim 9 (some .long) :: ([.fieldLink RX2 76 "MiddleClaims$Proof" "knownToSide1" "I", .fieldLink RX2 73 "MiddleClaims$Proof" "knownToSide0" "I", .constantLong RX2 108 (-1), .static yX4_isIn, .initialized RX4, .code yX4_isIn cX4_isIn 2 (some .boolean), .static yX4_worldsOfSign, .code yX4_worldsOfSign cX4_worldsOfSign 1 (some .long), .fieldLink RX4 212 "MiddleClaims" "WORLDS_OF_SIGN" "[J"] ++ wsX20)
def wsX2_resolve_r1 : List Cond := [Cond.fieldLink RX2 41 "MiddleClaims$Proof" "size" "I", Cond.fieldLink RX2 45 "MiddleClaims$Proof" "overfull" "Z", Cond.fieldLink RX2 49 "MiddleClaims$Proof" "emptyClauseFound" "Z", Cond.methodLink RX2 118 yX2_signsOf, Cond.instanceMethod yX2_signsOf, Cond.selects RX2 yX2_signsOf yX2_signsOf, Cond.initialized RX2, Cond.code yX2_signsOf cX2_signsOf 2 (some .int), Cond.fieldLink RX2 9 "MiddleClaims$Proof" "signs" "[I", Cond.methodLink RX2 52 yX2_has, Cond.instanceMethod yX2_has, Cond.selects RX2 yX2_has yX2_has, Cond.code yX2_has cX2_has 2 (some .boolean), Cond.methodLink RX2 119 yX2_oppositesOf, Cond.instanceMethod yX2_oppositesOf, Cond.selects RX2 yX2_oppositesOf yX2_oppositesOf, Cond.code yX2_oppositesOf cX2_oppositesOf 2 (some .int), Cond.fieldLink RX2 15 "MiddleClaims$Proof" "opposites" "[I", Cond.methodLink RX2 120 yX2_isStep, Cond.instanceMethod yX2_isStep, Cond.selects RX2 yX2_isStep yX2_isStep, Cond.code yX2_isStep cX2_isStep 3 (some .boolean), Cond.fieldLink RX2 38 "MiddleClaims$Proof" "stepsWithSigns" "[J", Cond.methodLink RX2 110 yJ6_bitCount_0f7a4]
def wsX2_resolve_r2 : List Cond := [Cond.static yJ6_bitCount_0f7a4, Cond.initialized RJ6, Cond.code yJ6_bitCount_0f7a4 cJ6_bitCount_0f7a4 1 (some .int), Cond.constant RJ6 265 (1431655765), Cond.constant RJ6 266 (858993459), Cond.constant RJ6 267 (252645135), Cond.methodLink RX2 63 yX2_partialClaim, Cond.instanceMethod yX2_partialClaim, Cond.selects RX2 yX2_partialClaim yX2_partialClaim, Cond.code yX2_partialClaim cX2_partialClaim 3 (some .long), Cond.fieldLink RX2 27 "MiddleClaims$Proof" "claims0" "[J", Cond.fieldLink RX2 31 "MiddleClaims$Proof" "claims1" "[J", Cond.methodLink RX2 124 yX2_resolvedClaim, Cond.instanceMethod yX2_resolvedClaim, Cond.selects RX2 yX2_resolvedClaim yX2_resolvedClaim, Cond.code yX2_resolvedClaim cX2_resolvedClaim 9 (some .long), Cond.fieldLink RX2 76 "MiddleClaims$Proof" "knownToSide1" "I", Cond.fieldLink RX2 73 "MiddleClaims$Proof" "knownToSide0" "I", Cond.constantLong RX2 108 (-1), Cond.static yX4_isIn, Cond.initialized RX4, Cond.code yX4_isIn cX4_isIn 2 (some .boolean), Cond.static yX4_worldsOfSign, Cond.code yX4_worldsOfSign cX4_worldsOfSign 1 (some .long)]
def wsX2_resolve_r3 : List Cond := [Cond.fieldLink RX4 212 "MiddleClaims" "WORLDS_OF_SIGN" "[J", Cond.methodLink RX2 104 yX2_appendStep, Cond.instanceMethod yX2_appendStep, Cond.selects RX2 yX2_appendStep yX2_appendStep, Cond.code yX2_appendStep cX2_appendStep 10 none, Cond.fieldLink RX2 18 "MiddleClaims$Proof" "firstParents" "[I", Cond.fieldLink RX2 21 "MiddleClaims$Proof" "secondParents" "[I", Cond.fieldLink RX2 24 "MiddleClaims$Proof" "pivots" "[I", Cond.fieldLink RX2 34 "MiddleClaims$Proof" "needed" "[Z"]
def wsX2_resolve : List Cond := .code yX2_resolve cX2_resolve 13 none :: ((wsX2_resolve_r1 ++ (wsX2_resolve_r2 ++ wsX2_resolve_r3)) ++ wsX20)
def wsX2_resolveAll_r1 : List Cond := [Cond.fieldLink RX2 41 "MiddleClaims$Proof" "size" "I", Cond.fieldLink RX2 9 "MiddleClaims$Proof" "signs" "[I", Cond.fieldLink RX2 15 "MiddleClaims$Proof" "opposites" "[I", Cond.fieldLink RX2 45 "MiddleClaims$Proof" "overfull" "Z", Cond.fieldLink RX2 49 "MiddleClaims$Proof" "emptyClauseFound" "Z", Cond.methodLink RX2 110 yJ6_bitCount_0f7a4, Cond.static yJ6_bitCount_0f7a4, Cond.initialized RJ6, Cond.code yJ6_bitCount_0f7a4 cJ6_bitCount_0f7a4 1 (some .int), Cond.constant RJ6 265 (1431655765), Cond.constant RJ6 266 (858993459), Cond.constant RJ6 267 (252645135), Cond.methodLink RX2 115 yX2_resolve, Cond.instanceMethod yX2_resolve, Cond.selects RX2 yX2_resolve yX2_resolve, Cond.initialized RX2, Cond.code yX2_resolve cX2_resolve 13 none, Cond.methodLink RX2 118 yX2_signsOf, Cond.instanceMethod yX2_signsOf, Cond.selects RX2 yX2_signsOf yX2_signsOf, Cond.code yX2_signsOf cX2_signsOf 2 (some .int), Cond.methodLink RX2 52 yX2_has, Cond.instanceMethod yX2_has, Cond.selects RX2 yX2_has yX2_has]
def wsX2_resolveAll_r2 : List Cond := [Cond.code yX2_has cX2_has 2 (some .boolean), Cond.methodLink RX2 119 yX2_oppositesOf, Cond.instanceMethod yX2_oppositesOf, Cond.selects RX2 yX2_oppositesOf yX2_oppositesOf, Cond.code yX2_oppositesOf cX2_oppositesOf 2 (some .int), Cond.methodLink RX2 120 yX2_isStep, Cond.instanceMethod yX2_isStep, Cond.selects RX2 yX2_isStep yX2_isStep, Cond.code yX2_isStep cX2_isStep 3 (some .boolean), Cond.fieldLink RX2 38 "MiddleClaims$Proof" "stepsWithSigns" "[J", Cond.methodLink RX2 63 yX2_partialClaim, Cond.instanceMethod yX2_partialClaim, Cond.selects RX2 yX2_partialClaim yX2_partialClaim, Cond.code yX2_partialClaim cX2_partialClaim 3 (some .long), Cond.fieldLink RX2 27 "MiddleClaims$Proof" "claims0" "[J", Cond.fieldLink RX2 31 "MiddleClaims$Proof" "claims1" "[J", Cond.methodLink RX2 124 yX2_resolvedClaim, Cond.instanceMethod yX2_resolvedClaim, Cond.selects RX2 yX2_resolvedClaim yX2_resolvedClaim, Cond.code yX2_resolvedClaim cX2_resolvedClaim 9 (some .long), Cond.fieldLink RX2 76 "MiddleClaims$Proof" "knownToSide1" "I", Cond.fieldLink RX2 73 "MiddleClaims$Proof" "knownToSide0" "I", Cond.constantLong RX2 108 (-1), Cond.static yX4_isIn]
def wsX2_resolveAll_r3 : List Cond := [Cond.initialized RX4, Cond.code yX4_isIn cX4_isIn 2 (some .boolean), Cond.static yX4_worldsOfSign, Cond.code yX4_worldsOfSign cX4_worldsOfSign 1 (some .long), Cond.fieldLink RX4 212 "MiddleClaims" "WORLDS_OF_SIGN" "[J", Cond.methodLink RX2 104 yX2_appendStep, Cond.instanceMethod yX2_appendStep, Cond.selects RX2 yX2_appendStep yX2_appendStep, Cond.code yX2_appendStep cX2_appendStep 10 none, Cond.fieldLink RX2 18 "MiddleClaims$Proof" "firstParents" "[I", Cond.fieldLink RX2 21 "MiddleClaims$Proof" "secondParents" "[I", Cond.fieldLink RX2 24 "MiddleClaims$Proof" "pivots" "[I", Cond.fieldLink RX2 34 "MiddleClaims$Proof" "needed" "[Z"]
def wsX2_resolveAll : List Cond := .code yX2_resolveAll cX2_resolveAll 4 none :: ((wsX2_resolveAll_r1 ++ (wsX2_resolveAll_r2 ++ wsX2_resolveAll_r3)) ++ wsX20)
def wsX2_markNeeded : List Cond := .code yX2_markNeeded cX2_markNeeded 2 none :: ([.fieldLink RX2 34 "MiddleClaims$Proof" "needed" "[Z", .methodLink RX2 52 yX2_has, .instanceMethod yX2_has, .selects RX2 yX2_has yX2_has, .initialized RX2, .code yX2_has cX2_has 2 (some .boolean), .fieldLink RX2 41 "MiddleClaims$Proof" "size" "I"] ++ wsX20)
def wsX2_markNeededSteps_r1 : List Cond := [Cond.fieldLink RX2 41 "MiddleClaims$Proof" "size" "I", Cond.methodLink RX2 135 yX2_markNeeded, Cond.instanceMethod yX2_markNeeded, Cond.selects RX2 yX2_markNeeded yX2_markNeeded, Cond.initialized RX2, Cond.code yX2_markNeeded cX2_markNeeded 2 none, Cond.fieldLink RX2 34 "MiddleClaims$Proof" "needed" "[Z", Cond.methodLink RX2 52 yX2_has, Cond.instanceMethod yX2_has, Cond.selects RX2 yX2_has yX2_has, Cond.code yX2_has cX2_has 2 (some .boolean), Cond.methodLink RX2 56 yX2_isNeeded, Cond.instanceMethod yX2_isNeeded, Cond.selects RX2 yX2_isNeeded yX2_isNeeded, Cond.code yX2_isNeeded cX2_isNeeded 2 (some .boolean), Cond.methodLink RX2 139 yX2_firstParentOf, Cond.instanceMethod yX2_firstParentOf, Cond.selects RX2 yX2_firstParentOf yX2_firstParentOf, Cond.code yX2_firstParentOf cX2_firstParentOf 2 (some .int), Cond.fieldLink RX2 18 "MiddleClaims$Proof" "firstParents" "[I", Cond.methodLink RX2 142 yX2_secondParentOf, Cond.instanceMethod yX2_secondParentOf, Cond.selects RX2 yX2_secondParentOf yX2_secondParentOf, Cond.code yX2_secondParentOf cX2_secondParentOf 2 (some .int)]
def wsX2_markNeededSteps_r2 : List Cond := [Cond.fieldLink RX2 21 "MiddleClaims$Proof" "secondParents" "[I"]
def wsX2_markNeededSteps : List Cond := .code yX2_markNeededSteps cX2_markNeededSteps 2 none :: ((wsX2_markNeededSteps_r1 ++ wsX2_markNeededSteps_r2) ++ wsX20)
def wsX2_make_r1 : List Cond := [Cond.fieldLink RX2 41 "MiddleClaims$Proof" "size" "I", Cond.fieldLink RX2 45 "MiddleClaims$Proof" "overfull" "Z", Cond.fieldLink RX2 49 "MiddleClaims$Proof" "emptyClauseFound" "Z", Cond.fieldLink RX2 73 "MiddleClaims$Proof" "knownToSide0" "I", Cond.fieldLink RX2 76 "MiddleClaims$Proof" "knownToSide1" "I", Cond.fieldLink RX2 38 "MiddleClaims$Proof" "stepsWithSigns" "[J", Cond.methodLink RX2 67 yX0_signsKnownTo, Cond.instanceMethod yX0_signsKnownTo, Cond.selects RX0 yX0_signsKnownTo yX0_signsKnownTo, Cond.initialized RX0, Cond.code yX0_signsKnownTo cX0_signsKnownTo 4 (some .int), Cond.fieldLink RX0 25 "MiddleClaims$Clauses" "size" "I", Cond.methodLink RX0 36 yX0_sideOf, Cond.instanceMethod yX0_sideOf, Cond.selects RX0 yX0_sideOf yX0_sideOf, Cond.code yX0_sideOf cX0_sideOf 2 (some .int), Cond.fieldLink RX0 13 "MiddleClaims$Clauses" "sides" "[I", Cond.methodLink RX0 29 yX0_has, Cond.instanceMethod yX0_has, Cond.selects RX0 yX0_has yX0_has, Cond.code yX0_has cX0_has 2 (some .boolean), Cond.methodLink RX0 40 yX0_signsOf, Cond.instanceMethod yX0_signsOf, Cond.selects RX0 yX0_signsOf yX0_signsOf]
def wsX2_make_r2 : List Cond := [Cond.code yX0_signsOf cX0_signsOf 2 (some .int), Cond.fieldLink RX0 19 "MiddleClaims$Clauses" "signs" "[I", Cond.methodLink RX0 43 yX0_oppositesOf, Cond.instanceMethod yX0_oppositesOf, Cond.selects RX0 yX0_oppositesOf yX0_oppositesOf, Cond.code yX0_oppositesOf cX0_oppositesOf 2 (some .int), Cond.fieldLink RX0 22 "MiddleClaims$Clauses" "opposites" "[I", Cond.methodLink RX2 79 yX0_size, Cond.instanceMethod yX0_size, Cond.selects RX0 yX0_size yX0_size, Cond.code yX0_size cX0_size 1 (some .int), Cond.methodLink RX2 82 yX0_sideOf, Cond.methodLink RX2 85 yX0_signsOf, Cond.methodLink RX2 88 yX0_oppositesOf, Cond.methodLink RX2 91 yX2_appendClause, Cond.instanceMethod yX2_appendClause, Cond.selects RX2 yX2_appendClause yX2_appendClause, Cond.initialized RX2, Cond.code yX2_appendClause cX2_appendClause 7 none, Cond.constantLong RX2 108 (-1), Cond.static yX4_worldsOfLiterals, Cond.initialized RX4, Cond.code yX4_worldsOfLiterals cX4_worldsOfLiterals 5 (some .long), Cond.constantLong RX4 189 (-1)]
def wsX2_make_r3 : List Cond := [Cond.methodLink RX4 216 yX4_isIn, Cond.static yX4_isIn, Cond.code yX4_isIn cX4_isIn 2 (some .boolean), Cond.methodLink RX4 220 yX4_worldsOfSign, Cond.static yX4_worldsOfSign, Cond.code yX4_worldsOfSign cX4_worldsOfSign 1 (some .long), Cond.fieldLink RX4 212 "MiddleClaims" "WORLDS_OF_SIGN" "[J", Cond.methodLink RX2 104 yX2_appendStep, Cond.instanceMethod yX2_appendStep, Cond.selects RX2 yX2_appendStep yX2_appendStep, Cond.code yX2_appendStep cX2_appendStep 10 none, Cond.fieldLink RX2 9 "MiddleClaims$Proof" "signs" "[I", Cond.fieldLink RX2 15 "MiddleClaims$Proof" "opposites" "[I", Cond.fieldLink RX2 18 "MiddleClaims$Proof" "firstParents" "[I", Cond.fieldLink RX2 21 "MiddleClaims$Proof" "secondParents" "[I", Cond.fieldLink RX2 24 "MiddleClaims$Proof" "pivots" "[I", Cond.fieldLink RX2 27 "MiddleClaims$Proof" "claims0" "[J", Cond.fieldLink RX2 31 "MiddleClaims$Proof" "claims1" "[J", Cond.fieldLink RX2 34 "MiddleClaims$Proof" "needed" "[Z", Cond.methodLink RX2 95 yX2_resolveAll, Cond.instanceMethod yX2_resolveAll, Cond.selects RX2 yX2_resolveAll yX2_resolveAll, Cond.code yX2_resolveAll cX2_resolveAll 4 none, Cond.methodLink RX2 110 yJ6_bitCount_0f7a4]
def wsX2_make_r4 : List Cond := [Cond.static yJ6_bitCount_0f7a4, Cond.initialized RJ6, Cond.code yJ6_bitCount_0f7a4 cJ6_bitCount_0f7a4 1 (some .int), Cond.constant RJ6 265 (1431655765), Cond.constant RJ6 266 (858993459), Cond.constant RJ6 267 (252645135), Cond.methodLink RX2 115 yX2_resolve, Cond.instanceMethod yX2_resolve, Cond.selects RX2 yX2_resolve yX2_resolve, Cond.code yX2_resolve cX2_resolve 13 none, Cond.methodLink RX2 118 yX2_signsOf, Cond.instanceMethod yX2_signsOf, Cond.selects RX2 yX2_signsOf yX2_signsOf, Cond.code yX2_signsOf cX2_signsOf 2 (some .int), Cond.methodLink RX2 52 yX2_has, Cond.instanceMethod yX2_has, Cond.selects RX2 yX2_has yX2_has, Cond.code yX2_has cX2_has 2 (some .boolean), Cond.methodLink RX2 119 yX2_oppositesOf, Cond.instanceMethod yX2_oppositesOf, Cond.selects RX2 yX2_oppositesOf yX2_oppositesOf, Cond.code yX2_oppositesOf cX2_oppositesOf 2 (some .int), Cond.methodLink RX2 120 yX2_isStep, Cond.instanceMethod yX2_isStep]
def wsX2_make_r5 : List Cond := [Cond.selects RX2 yX2_isStep yX2_isStep, Cond.code yX2_isStep cX2_isStep 3 (some .boolean), Cond.methodLink RX2 63 yX2_partialClaim, Cond.instanceMethod yX2_partialClaim, Cond.selects RX2 yX2_partialClaim yX2_partialClaim, Cond.code yX2_partialClaim cX2_partialClaim 3 (some .long), Cond.methodLink RX2 124 yX2_resolvedClaim, Cond.instanceMethod yX2_resolvedClaim, Cond.selects RX2 yX2_resolvedClaim yX2_resolvedClaim, Cond.code yX2_resolvedClaim cX2_resolvedClaim 9 (some .long), Cond.methodLink RX2 98 yX2_markNeededSteps, Cond.instanceMethod yX2_markNeededSteps, Cond.selects RX2 yX2_markNeededSteps yX2_markNeededSteps, Cond.code yX2_markNeededSteps cX2_markNeededSteps 2 none, Cond.methodLink RX2 135 yX2_markNeeded, Cond.instanceMethod yX2_markNeeded, Cond.selects RX2 yX2_markNeeded yX2_markNeeded, Cond.code yX2_markNeeded cX2_markNeeded 2 none, Cond.methodLink RX2 56 yX2_isNeeded, Cond.instanceMethod yX2_isNeeded, Cond.selects RX2 yX2_isNeeded yX2_isNeeded, Cond.code yX2_isNeeded cX2_isNeeded 2 (some .boolean), Cond.methodLink RX2 139 yX2_firstParentOf, Cond.instanceMethod yX2_firstParentOf]
def wsX2_make_r6 : List Cond := [Cond.selects RX2 yX2_firstParentOf yX2_firstParentOf, Cond.code yX2_firstParentOf cX2_firstParentOf 2 (some .int), Cond.methodLink RX2 142 yX2_secondParentOf, Cond.instanceMethod yX2_secondParentOf, Cond.selects RX2 yX2_secondParentOf yX2_secondParentOf, Cond.code yX2_secondParentOf cX2_secondParentOf 2 (some .int)]
def wsX2_make : List Cond := .code yX2_make cX2_make 3 none :: ((wsX2_make_r1 ++ (wsX2_make_r2 ++ (wsX2_make_r3 ++ (wsX2_make_r4 ++ (wsX2_make_r5 ++ wsX2_make_r6))))) ++ wsX20 ++ wsX00)
def wsX3_init : List Cond := .code yX3_init cX3_init 1 none :: ([.methodLink RX3 3 objectInit, .instanceMethod objectInit, .code objectInit ⟨#[0xb1]⟩ 1 none, .arrayClass .char, .fieldLink RX3 9 "MiddleClaims$Text" "characters" "[C", .fieldLink RX3 15 "MiddleClaims$Text" "length" "I"] ++ wsX30)
def wsX3_length : List Cond := .code yX3_length cX3_length 1 (some .int) :: ([.fieldLink RX3 15 "MiddleClaims$Text" "length" "I"] ++ wsX30)
def wsX3_clear : List Cond := .code yX3_clear cX3_clear 1 none :: ([.fieldLink RX3 15 "MiddleClaims$Text" "length" "I"] ++ wsX30)
def wsX3_append : List Cond := .code yX3_append cX3_append 2 (some .boolean) :: ([.fieldLink RX3 15 "MiddleClaims$Text" "length" "I", .fieldLink RX3 9 "MiddleClaims$Text" "characters" "[C"] ++ wsX30)
def wsX3_beginClause : List Cond := .code yX3_beginClause cX3_beginClause 1 none :: ([.fieldLink RX3 38 "MiddleClaims$Text" "signs" "I", .fieldLink RX3 41 "MiddleClaims$Text" "opposites" "I", .fieldLink RX3 44 "MiddleClaims$Text" "lastSign" "I", .fieldLink RX3 47 "MiddleClaims$Text" "afterMinus" "Z"] ++ wsX30)
def wsX3_readsMinus : List Cond := .code yX3_readsMinus cX3_readsMinus 1 (some .boolean) :: ([.fieldLink RX3 47 "MiddleClaims$Text" "afterMinus" "Z", .fieldLink RX3 44 "MiddleClaims$Text" "lastSign" "I"] ++ wsX30)
def wsX3_endsClause : List Cond := .code yX3_endsClause cX3_endsClause 2 (some .boolean) :: ([.fieldLink RX3 47 "MiddleClaims$Text" "afterMinus" "Z", .fieldLink RX3 44 "MiddleClaims$Text" "lastSign" "I", .fieldLink RX3 24 "MiddleClaims$Text" "side" "I", .fieldLink RX3 38 "MiddleClaims$Text" "signs" "I", .fieldLink RX3 41 "MiddleClaims$Text" "opposites" "I", .methodLink RX3 62 yX0_append, .instanceMethod yX0_append, .selects RX0 yX0_append yX0_append, .initialized RX0, .code yX0_append cX0_append 4 none, .fieldLink RX0 25 "MiddleClaims$Clauses" "size" "I", .fieldLink RX0 13 "MiddleClaims$Clauses" "sides" "[I", .fieldLink RX0 19 "MiddleClaims$Clauses" "signs" "[I", .fieldLink RX0 22 "MiddleClaims$Clauses" "opposites" "[I", .methodLink RX3 27 yX3_beginClause, .instanceMethod yX3_beginClause, .selects RX3 yX3_beginClause yX3_beginClause, .initialized RX3, .code yX3_beginClause cX3_beginClause 1 none] ++ wsX30 ++ wsX00)
def wsX3_readsSlash : List Cond := .code yX3_readsSlash cX3_readsSlash 2 (some .boolean) :: ([.fieldLink RX3 24 "MiddleClaims$Text" "side" "I", .methodLink RX3 34 yX3_endsClause, .instanceMethod yX3_endsClause, .selects RX3 yX3_endsClause yX3_endsClause, .initialized RX3, .code yX3_endsClause cX3_endsClause 2 (some .boolean), .fieldLink RX3 47 "MiddleClaims$Text" "afterMinus" "Z", .fieldLink RX3 44 "MiddleClaims$Text" "lastSign" "I", .fieldLink RX3 38 "MiddleClaims$Text" "signs" "I", .fieldLink RX3 41 "MiddleClaims$Text" "opposites" "I", .methodLink RX3 62 yX0_append, .instanceMethod yX0_append, .selects RX0 yX0_append yX0_append, .initialized RX0, .code yX0_append cX0_append 4 none, .fieldLink RX0 25 "MiddleClaims$Clauses" "size" "I", .fieldLink RX0 13 "MiddleClaims$Clauses" "sides" "[I", .fieldLink RX0 19 "MiddleClaims$Clauses" "signs" "[I", .fieldLink RX0 22 "MiddleClaims$Clauses" "opposites" "[I", .methodLink RX3 27 yX3_beginClause, .instanceMethod yX3_beginClause, .selects RX3 yX3_beginClause yX3_beginClause, .code yX3_beginClause cX3_beginClause 1 none] ++ wsX30 ++ wsX00)
def wsX3_readsSign : List Cond := .code yX3_readsSign cX3_readsSign 2 (some .boolean) :: ([.fieldLink RX3 44 "MiddleClaims$Text" "lastSign" "I", .fieldLink RX3 47 "MiddleClaims$Text" "afterMinus" "Z", .fieldLink RX3 41 "MiddleClaims$Text" "opposites" "I", .fieldLink RX3 38 "MiddleClaims$Text" "signs" "I"] ++ wsX30)
def wsX3_reads_r1 : List Cond := [Cond.methodLink RX3 51 yX3_readsMinus, Cond.instanceMethod yX3_readsMinus, Cond.selects RX3 yX3_readsMinus yX3_readsMinus, Cond.initialized RX3, Cond.code yX3_readsMinus cX3_readsMinus 1 (some .boolean), Cond.fieldLink RX3 47 "MiddleClaims$Text" "afterMinus" "Z", Cond.fieldLink RX3 44 "MiddleClaims$Text" "lastSign" "I", Cond.methodLink RX3 34 yX3_endsClause, Cond.instanceMethod yX3_endsClause, Cond.selects RX3 yX3_endsClause yX3_endsClause, Cond.code yX3_endsClause cX3_endsClause 2 (some .boolean), Cond.fieldLink RX3 24 "MiddleClaims$Text" "side" "I", Cond.fieldLink RX3 38 "MiddleClaims$Text" "signs" "I", Cond.fieldLink RX3 41 "MiddleClaims$Text" "opposites" "I", Cond.methodLink RX3 62 yX0_append, Cond.instanceMethod yX0_append, Cond.selects RX0 yX0_append yX0_append, Cond.initialized RX0, Cond.code yX0_append cX0_append 4 none, Cond.fieldLink RX0 25 "MiddleClaims$Clauses" "size" "I", Cond.fieldLink RX0 13 "MiddleClaims$Clauses" "sides" "[I", Cond.fieldLink RX0 19 "MiddleClaims$Clauses" "signs" "[I", Cond.fieldLink RX0 22 "MiddleClaims$Clauses" "opposites" "[I", Cond.methodLink RX3 27 yX3_beginClause]
def wsX3_reads_r2 : List Cond := [Cond.instanceMethod yX3_beginClause, Cond.selects RX3 yX3_beginClause yX3_beginClause, Cond.code yX3_beginClause cX3_beginClause 1 none, Cond.methodLink RX3 55 yX3_readsSlash, Cond.instanceMethod yX3_readsSlash, Cond.selects RX3 yX3_readsSlash yX3_readsSlash, Cond.code yX3_readsSlash cX3_readsSlash 2 (some .boolean), Cond.methodLink RX3 58 yX3_readsSign, Cond.instanceMethod yX3_readsSign, Cond.selects RX3 yX3_readsSign yX3_readsSign, Cond.code yX3_readsSign cX3_readsSign 2 (some .boolean)]
def wsX3_reads : List Cond := .code yX3_reads cX3_reads 3 (some .boolean) :: ((wsX3_reads_r1 ++ wsX3_reads_r2) ++ wsX30 ++ wsX00)
def wsX3_readInto_r1 : List Cond := [Cond.fieldLink RX3 24 "MiddleClaims$Text" "side" "I", Cond.fieldLink RX3 15 "MiddleClaims$Text" "length" "I", Cond.fieldLink RX3 9 "MiddleClaims$Text" "characters" "[C", Cond.methodLink RX3 19 yX0_clear, Cond.instanceMethod yX0_clear, Cond.selects RX0 yX0_clear yX0_clear, Cond.initialized RX0, Cond.code yX0_clear cX0_clear 1 none, Cond.fieldLink RX0 25 "MiddleClaims$Clauses" "size" "I", Cond.methodLink RX3 27 yX3_beginClause, Cond.instanceMethod yX3_beginClause, Cond.selects RX3 yX3_beginClause yX3_beginClause, Cond.initialized RX3, Cond.code yX3_beginClause cX3_beginClause 1 none, Cond.fieldLink RX3 38 "MiddleClaims$Text" "signs" "I", Cond.fieldLink RX3 41 "MiddleClaims$Text" "opposites" "I", Cond.fieldLink RX3 44 "MiddleClaims$Text" "lastSign" "I", Cond.fieldLink RX3 47 "MiddleClaims$Text" "afterMinus" "Z", Cond.methodLink RX3 30 yX3_reads, Cond.instanceMethod yX3_reads, Cond.selects RX3 yX3_reads yX3_reads, Cond.code yX3_reads cX3_reads 3 (some .boolean), Cond.methodLink RX3 51 yX3_readsMinus, Cond.instanceMethod yX3_readsMinus]
def wsX3_readInto_r2 : List Cond := [Cond.selects RX3 yX3_readsMinus yX3_readsMinus, Cond.code yX3_readsMinus cX3_readsMinus 1 (some .boolean), Cond.methodLink RX3 34 yX3_endsClause, Cond.instanceMethod yX3_endsClause, Cond.selects RX3 yX3_endsClause yX3_endsClause, Cond.code yX3_endsClause cX3_endsClause 2 (some .boolean), Cond.methodLink RX3 62 yX0_append, Cond.instanceMethod yX0_append, Cond.selects RX0 yX0_append yX0_append, Cond.code yX0_append cX0_append 4 none, Cond.fieldLink RX0 13 "MiddleClaims$Clauses" "sides" "[I", Cond.fieldLink RX0 19 "MiddleClaims$Clauses" "signs" "[I", Cond.fieldLink RX0 22 "MiddleClaims$Clauses" "opposites" "[I", Cond.methodLink RX3 55 yX3_readsSlash, Cond.instanceMethod yX3_readsSlash, Cond.selects RX3 yX3_readsSlash yX3_readsSlash, Cond.code yX3_readsSlash cX3_readsSlash 2 (some .boolean), Cond.methodLink RX3 58 yX3_readsSign, Cond.instanceMethod yX3_readsSign, Cond.selects RX3 yX3_readsSign yX3_readsSign, Cond.code yX3_readsSign cX3_readsSign 2 (some .boolean)]
def wsX3_readInto : List Cond := .code yX3_readInto cX3_readInto 3 (some .int) :: ((wsX3_readInto_r1 ++ wsX3_readInto_r2) ++ wsX30 ++ wsX00)
def wsX4_init_r1 : List Cond := [Cond.methodLink RX4 1 objectInit, Cond.instanceMethod objectInit, Cond.code objectInit ⟨#[0xb1]⟩ 1 none, Cond.classLink RX4 7 RX0, Cond.instantiable RX0 4, Cond.initialized RX0, Cond.fieldLink RX4 14 "MiddleClaims" "clauses" "LMiddleClaims$Clauses;", Cond.fieldLink RX4 18 "MiddleClaims" "textClauses" "LMiddleClaims$Clauses;", Cond.fieldLink RX4 21 "MiddleClaims" "snapshot" "LMiddleClaims$Clauses;", Cond.fieldLink RX4 24 "MiddleClaims" "snapshotTaken" "Z", Cond.classLink RX4 28 RX1, Cond.instantiable RX1 2, Cond.initialized RX1, Cond.fieldLink RX4 31 "MiddleClaims" "history" "LMiddleClaims$History;", Cond.classLink RX4 35 RX3, Cond.instantiable RX3 7, Cond.initialized RX3, Cond.fieldLink RX4 38 "MiddleClaims" "text" "LMiddleClaims$Text;", Cond.classLink RX4 42 RX2, Cond.instantiable RX2 14, Cond.initialized RX2, Cond.fieldLink RX4 45 "MiddleClaims" "proof" "LMiddleClaims$Proof;", Cond.fieldLink RX4 49 "MiddleClaims" "proofStands" "Z", Cond.methodLink RX4 11 yX0_init]
def wsX4_init_r2 : List Cond := [Cond.instanceMethod yX0_init, Cond.code yX0_init cX0_init 3 none, Cond.methodLink RX0 1 objectInit, Cond.methodLink RX0 7 Lib.Math.max.name, Cond.static Lib.Math.max.name, Cond.initialized "java/lang/Math", Cond.code Lib.Math.max.name Lib.Math.max.code 2 (some .int), Cond.arrayClass .int, Cond.fieldLink RX0 13 "MiddleClaims$Clauses" "sides" "[I", Cond.fieldLink RX0 19 "MiddleClaims$Clauses" "signs" "[I", Cond.fieldLink RX0 22 "MiddleClaims$Clauses" "opposites" "[I", Cond.fieldLink RX0 25 "MiddleClaims$Clauses" "size" "I", Cond.methodLink RX4 30 yX1_init, Cond.instanceMethod yX1_init, Cond.code yX1_init cX1_init 2 none, Cond.methodLink RX1 3 objectInit, Cond.classLink RX1 9 RX0, Cond.fieldLink RX1 11 "MiddleClaims$History" "states" "[LMiddleClaims$Clauses;", Cond.fieldLink RX1 20 "MiddleClaims$History" "size" "I", Cond.methodLink RX1 17 yX0_init, Cond.methodLink RX4 37 yX3_init, Cond.instanceMethod yX3_init, Cond.code yX3_init cX3_init 1 none, Cond.methodLink RX3 3 objectInit]
def wsX4_init_r3 : List Cond := [Cond.arrayClass .char, Cond.fieldLink RX3 9 "MiddleClaims$Text" "characters" "[C", Cond.fieldLink RX3 15 "MiddleClaims$Text" "length" "I", Cond.methodLink RX4 44 yX2_init, Cond.instanceMethod yX2_init, Cond.code yX2_init cX2_init 1 none, Cond.methodLink RX2 3 objectInit, Cond.fieldLink RX2 9 "MiddleClaims$Proof" "signs" "[I", Cond.fieldLink RX2 15 "MiddleClaims$Proof" "opposites" "[I", Cond.fieldLink RX2 18 "MiddleClaims$Proof" "firstParents" "[I", Cond.fieldLink RX2 21 "MiddleClaims$Proof" "secondParents" "[I", Cond.fieldLink RX2 24 "MiddleClaims$Proof" "pivots" "[I", Cond.arrayClass .long, Cond.fieldLink RX2 27 "MiddleClaims$Proof" "claims0" "[J", Cond.fieldLink RX2 31 "MiddleClaims$Proof" "claims1" "[J", Cond.arrayClass .boolean, Cond.fieldLink RX2 34 "MiddleClaims$Proof" "needed" "[Z", Cond.fieldLink RX2 38 "MiddleClaims$Proof" "stepsWithSigns" "[J", Cond.fieldLink RX2 41 "MiddleClaims$Proof" "size" "I"]
def wsX4_init : List Cond := .code yX4_init cX4_init 1 none :: ((wsX4_init_r1 ++ (wsX4_init_r2 ++ wsX4_init_r3)) ++ wsX00 ++ wsX40 ++ wsX10 ++ wsX30 ++ wsX20)
def wsX4_isZeroOrOne : List Cond := .code yX4_isZeroOrOne cX4_isZeroOrOne 1 (some .boolean) :: ([])
def wsX4_isSetOfSigns : List Cond := .code yX4_isSetOfSigns cX4_isSetOfSigns 1 (some .boolean) :: ([])
def wsX4_beginAct_r1 : List Cond := [Cond.fieldLink RX4 31 "MiddleClaims" "history" "LMiddleClaims$History;", Cond.fieldLink RX4 14 "MiddleClaims" "clauses" "LMiddleClaims$Clauses;", Cond.fieldLink RX4 49 "MiddleClaims" "proofStands" "Z", Cond.methodLink RX4 205 yX1_remember, Cond.instanceMethod yX1_remember, Cond.selects RX1 yX1_remember yX1_remember, Cond.initialized RX1, Cond.code yX1_remember cX1_remember 2 none, Cond.fieldLink RX1 20 "MiddleClaims$History" "size" "I", Cond.fieldLink RX1 11 "MiddleClaims$History" "states" "[LMiddleClaims$Clauses;", Cond.methodLink RX1 24 yX1_dropOldest, Cond.instanceMethod yX1_dropOldest, Cond.selects RX1 yX1_dropOldest yX1_dropOldest, Cond.code yX1_dropOldest cX1_dropOldest 3 none, Cond.methodLink RX1 27 yX0_becomeLike, Cond.instanceMethod yX0_becomeLike, Cond.selects RX0 yX0_becomeLike yX0_becomeLike, Cond.initialized RX0, Cond.code yX0_becomeLike cX0_becomeLike 2 none, Cond.methodLink RX0 50 yX0_clear, Cond.instanceMethod yX0_clear, Cond.selects RX0 yX0_clear yX0_clear, Cond.code yX0_clear cX0_clear 1 none, Cond.fieldLink RX0 25 "MiddleClaims$Clauses" "size" "I"]
def wsX4_beginAct_r2 : List Cond := [Cond.methodLink RX0 53 yX0_appendEach, Cond.instanceMethod yX0_appendEach, Cond.selects RX0 yX0_appendEach yX0_appendEach, Cond.code yX0_appendEach cX0_appendEach 4 none, Cond.methodLink RX0 33 yX0_size, Cond.instanceMethod yX0_size, Cond.selects RX0 yX0_size yX0_size, Cond.code yX0_size cX0_size 1 (some .int), Cond.methodLink RX0 36 yX0_sideOf, Cond.instanceMethod yX0_sideOf, Cond.selects RX0 yX0_sideOf yX0_sideOf, Cond.code yX0_sideOf cX0_sideOf 2 (some .int), Cond.fieldLink RX0 13 "MiddleClaims$Clauses" "sides" "[I", Cond.methodLink RX0 29 yX0_has, Cond.instanceMethod yX0_has, Cond.selects RX0 yX0_has yX0_has, Cond.code yX0_has cX0_has 2 (some .boolean), Cond.methodLink RX0 40 yX0_signsOf, Cond.instanceMethod yX0_signsOf, Cond.selects RX0 yX0_signsOf yX0_signsOf, Cond.code yX0_signsOf cX0_signsOf 2 (some .int), Cond.fieldLink RX0 19 "MiddleClaims$Clauses" "signs" "[I", Cond.methodLink RX0 43 yX0_oppositesOf, Cond.instanceMethod yX0_oppositesOf]
def wsX4_beginAct_r3 : List Cond := [Cond.selects RX0 yX0_oppositesOf yX0_oppositesOf, Cond.code yX0_oppositesOf cX0_oppositesOf 2 (some .int), Cond.fieldLink RX0 22 "MiddleClaims$Clauses" "opposites" "[I", Cond.methodLink RX0 46 yX0_append, Cond.instanceMethod yX0_append, Cond.selects RX0 yX0_append yX0_append, Cond.code yX0_append cX0_append 4 none]
def wsX4_beginAct : List Cond := .code yX4_beginAct cX4_beginAct 1 none :: ((wsX4_beginAct_r1 ++ (wsX4_beginAct_r2 ++ wsX4_beginAct_r3)) ++ wsX40 ++ wsX10 ++ wsX00)
def wsX4_add_r1 : List Cond := [Cond.fieldLink RX4 14 "MiddleClaims" "clauses" "LMiddleClaims$Clauses;", Cond.methodLink RX4 52 yX4_isZeroOrOne, Cond.static yX4_isZeroOrOne, Cond.initialized RX4, Cond.code yX4_isZeroOrOne cX4_isZeroOrOne 1 (some .boolean), Cond.methodLink RX4 56 yX4_isSetOfSigns, Cond.static yX4_isSetOfSigns, Cond.code yX4_isSetOfSigns cX4_isSetOfSigns 1 (some .boolean), Cond.methodLink RX4 59 yX0_size, Cond.instanceMethod yX0_size, Cond.selects RX0 yX0_size yX0_size, Cond.initialized RX0, Cond.code yX0_size cX0_size 1 (some .int), Cond.fieldLink RX0 25 "MiddleClaims$Clauses" "size" "I", Cond.methodLink RX4 63 yX4_beginAct, Cond.instanceMethod yX4_beginAct, Cond.selects RX4 yX4_beginAct yX4_beginAct, Cond.code yX4_beginAct cX4_beginAct 1 none, Cond.fieldLink RX4 31 "MiddleClaims" "history" "LMiddleClaims$History;", Cond.fieldLink RX4 49 "MiddleClaims" "proofStands" "Z", Cond.methodLink RX4 205 yX1_remember, Cond.instanceMethod yX1_remember, Cond.selects RX1 yX1_remember yX1_remember, Cond.initialized RX1]
def wsX4_add_r2 : List Cond := [Cond.code yX1_remember cX1_remember 2 none, Cond.fieldLink RX1 20 "MiddleClaims$History" "size" "I", Cond.fieldLink RX1 11 "MiddleClaims$History" "states" "[LMiddleClaims$Clauses;", Cond.methodLink RX1 24 yX1_dropOldest, Cond.instanceMethod yX1_dropOldest, Cond.selects RX1 yX1_dropOldest yX1_dropOldest, Cond.code yX1_dropOldest cX1_dropOldest 3 none, Cond.methodLink RX1 27 yX0_becomeLike, Cond.instanceMethod yX0_becomeLike, Cond.selects RX0 yX0_becomeLike yX0_becomeLike, Cond.code yX0_becomeLike cX0_becomeLike 2 none, Cond.methodLink RX0 50 yX0_clear, Cond.instanceMethod yX0_clear, Cond.selects RX0 yX0_clear yX0_clear, Cond.code yX0_clear cX0_clear 1 none, Cond.methodLink RX0 53 yX0_appendEach, Cond.instanceMethod yX0_appendEach, Cond.selects RX0 yX0_appendEach yX0_appendEach, Cond.code yX0_appendEach cX0_appendEach 4 none, Cond.methodLink RX0 33 yX0_size, Cond.methodLink RX0 36 yX0_sideOf, Cond.instanceMethod yX0_sideOf, Cond.selects RX0 yX0_sideOf yX0_sideOf, Cond.code yX0_sideOf cX0_sideOf 2 (some .int)]
def wsX4_add_r3 : List Cond := [Cond.fieldLink RX0 13 "MiddleClaims$Clauses" "sides" "[I", Cond.methodLink RX0 29 yX0_has, Cond.instanceMethod yX0_has, Cond.selects RX0 yX0_has yX0_has, Cond.code yX0_has cX0_has 2 (some .boolean), Cond.methodLink RX0 40 yX0_signsOf, Cond.instanceMethod yX0_signsOf, Cond.selects RX0 yX0_signsOf yX0_signsOf, Cond.code yX0_signsOf cX0_signsOf 2 (some .int), Cond.fieldLink RX0 19 "MiddleClaims$Clauses" "signs" "[I", Cond.methodLink RX0 43 yX0_oppositesOf, Cond.instanceMethod yX0_oppositesOf, Cond.selects RX0 yX0_oppositesOf yX0_oppositesOf, Cond.code yX0_oppositesOf cX0_oppositesOf 2 (some .int), Cond.fieldLink RX0 22 "MiddleClaims$Clauses" "opposites" "[I", Cond.methodLink RX0 46 yX0_append, Cond.instanceMethod yX0_append, Cond.selects RX0 yX0_append yX0_append, Cond.code yX0_append cX0_append 4 none, Cond.methodLink RX4 66 yX0_append]
def wsX4_add : List Cond := .code yX4_add cX4_add 4 (some .int) :: ((wsX4_add_r1 ++ (wsX4_add_r2 ++ wsX4_add_r3)) ++ wsX40 ++ wsX00 ++ wsX10)
def wsX4_addAll_r1 : List Cond := [Cond.fieldLink RX4 38 "MiddleClaims" "text" "LMiddleClaims$Text;", Cond.fieldLink RX4 18 "MiddleClaims" "textClauses" "LMiddleClaims$Clauses;", Cond.fieldLink RX4 14 "MiddleClaims" "clauses" "LMiddleClaims$Clauses;", Cond.methodLink RX4 70 yX3_readInto, Cond.instanceMethod yX3_readInto, Cond.selects RX3 yX3_readInto yX3_readInto, Cond.initialized RX3, Cond.code yX3_readInto cX3_readInto 3 (some .int), Cond.fieldLink RX3 24 "MiddleClaims$Text" "side" "I", Cond.fieldLink RX3 15 "MiddleClaims$Text" "length" "I", Cond.fieldLink RX3 9 "MiddleClaims$Text" "characters" "[C", Cond.methodLink RX3 19 yX0_clear, Cond.instanceMethod yX0_clear, Cond.selects RX0 yX0_clear yX0_clear, Cond.initialized RX0, Cond.code yX0_clear cX0_clear 1 none, Cond.fieldLink RX0 25 "MiddleClaims$Clauses" "size" "I", Cond.methodLink RX3 27 yX3_beginClause, Cond.instanceMethod yX3_beginClause, Cond.selects RX3 yX3_beginClause yX3_beginClause, Cond.code yX3_beginClause cX3_beginClause 1 none, Cond.fieldLink RX3 38 "MiddleClaims$Text" "signs" "I", Cond.fieldLink RX3 41 "MiddleClaims$Text" "opposites" "I", Cond.fieldLink RX3 44 "MiddleClaims$Text" "lastSign" "I"]
def wsX4_addAll_r2 : List Cond := [Cond.fieldLink RX3 47 "MiddleClaims$Text" "afterMinus" "Z", Cond.methodLink RX3 30 yX3_reads, Cond.instanceMethod yX3_reads, Cond.selects RX3 yX3_reads yX3_reads, Cond.code yX3_reads cX3_reads 3 (some .boolean), Cond.methodLink RX3 51 yX3_readsMinus, Cond.instanceMethod yX3_readsMinus, Cond.selects RX3 yX3_readsMinus yX3_readsMinus, Cond.code yX3_readsMinus cX3_readsMinus 1 (some .boolean), Cond.methodLink RX3 34 yX3_endsClause, Cond.instanceMethod yX3_endsClause, Cond.selects RX3 yX3_endsClause yX3_endsClause, Cond.code yX3_endsClause cX3_endsClause 2 (some .boolean), Cond.methodLink RX3 62 yX0_append, Cond.instanceMethod yX0_append, Cond.selects RX0 yX0_append yX0_append, Cond.code yX0_append cX0_append 4 none, Cond.fieldLink RX0 13 "MiddleClaims$Clauses" "sides" "[I", Cond.fieldLink RX0 19 "MiddleClaims$Clauses" "signs" "[I", Cond.fieldLink RX0 22 "MiddleClaims$Clauses" "opposites" "[I", Cond.methodLink RX3 55 yX3_readsSlash, Cond.instanceMethod yX3_readsSlash, Cond.selects RX3 yX3_readsSlash yX3_readsSlash, Cond.code yX3_readsSlash cX3_readsSlash 2 (some .boolean)]
def wsX4_addAll_r3 : List Cond := [Cond.methodLink RX3 58 yX3_readsSign, Cond.instanceMethod yX3_readsSign, Cond.selects RX3 yX3_readsSign yX3_readsSign, Cond.code yX3_readsSign cX3_readsSign 2 (some .boolean), Cond.methodLink RX4 59 yX0_size, Cond.instanceMethod yX0_size, Cond.selects RX0 yX0_size yX0_size, Cond.code yX0_size cX0_size 1 (some .int), Cond.methodLink RX4 63 yX4_beginAct, Cond.instanceMethod yX4_beginAct, Cond.selects RX4 yX4_beginAct yX4_beginAct, Cond.initialized RX4, Cond.code yX4_beginAct cX4_beginAct 1 none, Cond.fieldLink RX4 31 "MiddleClaims" "history" "LMiddleClaims$History;", Cond.fieldLink RX4 49 "MiddleClaims" "proofStands" "Z", Cond.methodLink RX4 205 yX1_remember, Cond.instanceMethod yX1_remember, Cond.selects RX1 yX1_remember yX1_remember, Cond.initialized RX1, Cond.code yX1_remember cX1_remember 2 none, Cond.fieldLink RX1 20 "MiddleClaims$History" "size" "I", Cond.fieldLink RX1 11 "MiddleClaims$History" "states" "[LMiddleClaims$Clauses;", Cond.methodLink RX1 24 yX1_dropOldest, Cond.instanceMethod yX1_dropOldest]
def wsX4_addAll_r4 : List Cond := [Cond.selects RX1 yX1_dropOldest yX1_dropOldest, Cond.code yX1_dropOldest cX1_dropOldest 3 none, Cond.methodLink RX1 27 yX0_becomeLike, Cond.instanceMethod yX0_becomeLike, Cond.selects RX0 yX0_becomeLike yX0_becomeLike, Cond.code yX0_becomeLike cX0_becomeLike 2 none, Cond.methodLink RX0 50 yX0_clear, Cond.methodLink RX0 53 yX0_appendEach, Cond.instanceMethod yX0_appendEach, Cond.selects RX0 yX0_appendEach yX0_appendEach, Cond.code yX0_appendEach cX0_appendEach 4 none, Cond.methodLink RX0 33 yX0_size, Cond.methodLink RX0 36 yX0_sideOf, Cond.instanceMethod yX0_sideOf, Cond.selects RX0 yX0_sideOf yX0_sideOf, Cond.code yX0_sideOf cX0_sideOf 2 (some .int), Cond.methodLink RX0 29 yX0_has, Cond.instanceMethod yX0_has, Cond.selects RX0 yX0_has yX0_has, Cond.code yX0_has cX0_has 2 (some .boolean), Cond.methodLink RX0 40 yX0_signsOf, Cond.instanceMethod yX0_signsOf, Cond.selects RX0 yX0_signsOf yX0_signsOf, Cond.code yX0_signsOf cX0_signsOf 2 (some .int)]
def wsX4_addAll_r5 : List Cond := [Cond.methodLink RX0 43 yX0_oppositesOf, Cond.instanceMethod yX0_oppositesOf, Cond.selects RX0 yX0_oppositesOf yX0_oppositesOf, Cond.code yX0_oppositesOf cX0_oppositesOf 2 (some .int), Cond.methodLink RX0 46 yX0_append, Cond.methodLink RX4 74 yX0_appendEach]
def wsX4_addAll : List Cond := .code yX4_addAll cX4_addAll 2 (some .int) :: ((wsX4_addAll_r1 ++ (wsX4_addAll_r2 ++ (wsX4_addAll_r3 ++ (wsX4_addAll_r4 ++ wsX4_addAll_r5)))) ++ wsX40 ++ wsX30 ++ wsX00 ++ wsX10)
def wsX4_remove_r1 : List Cond := [Cond.fieldLink RX4 14 "MiddleClaims" "clauses" "LMiddleClaims$Clauses;", Cond.methodLink RX4 78 yX0_has, Cond.instanceMethod yX0_has, Cond.selects RX0 yX0_has yX0_has, Cond.initialized RX0, Cond.code yX0_has cX0_has 2 (some .boolean), Cond.fieldLink RX0 25 "MiddleClaims$Clauses" "size" "I", Cond.fieldLink RX0 13 "MiddleClaims$Clauses" "sides" "[I", Cond.methodLink RX4 63 yX4_beginAct, Cond.instanceMethod yX4_beginAct, Cond.selects RX4 yX4_beginAct yX4_beginAct, Cond.initialized RX4, Cond.code yX4_beginAct cX4_beginAct 1 none, Cond.fieldLink RX4 31 "MiddleClaims" "history" "LMiddleClaims$History;", Cond.fieldLink RX4 49 "MiddleClaims" "proofStands" "Z", Cond.methodLink RX4 205 yX1_remember, Cond.instanceMethod yX1_remember, Cond.selects RX1 yX1_remember yX1_remember, Cond.initialized RX1, Cond.code yX1_remember cX1_remember 2 none, Cond.fieldLink RX1 20 "MiddleClaims$History" "size" "I", Cond.fieldLink RX1 11 "MiddleClaims$History" "states" "[LMiddleClaims$Clauses;", Cond.methodLink RX1 24 yX1_dropOldest, Cond.instanceMethod yX1_dropOldest]
def wsX4_remove_r2 : List Cond := [Cond.selects RX1 yX1_dropOldest yX1_dropOldest, Cond.code yX1_dropOldest cX1_dropOldest 3 none, Cond.methodLink RX1 27 yX0_becomeLike, Cond.instanceMethod yX0_becomeLike, Cond.selects RX0 yX0_becomeLike yX0_becomeLike, Cond.code yX0_becomeLike cX0_becomeLike 2 none, Cond.methodLink RX0 50 yX0_clear, Cond.instanceMethod yX0_clear, Cond.selects RX0 yX0_clear yX0_clear, Cond.code yX0_clear cX0_clear 1 none, Cond.methodLink RX0 53 yX0_appendEach, Cond.instanceMethod yX0_appendEach, Cond.selects RX0 yX0_appendEach yX0_appendEach, Cond.code yX0_appendEach cX0_appendEach 4 none, Cond.methodLink RX0 33 yX0_size, Cond.instanceMethod yX0_size, Cond.selects RX0 yX0_size yX0_size, Cond.code yX0_size cX0_size 1 (some .int), Cond.methodLink RX0 36 yX0_sideOf, Cond.instanceMethod yX0_sideOf, Cond.selects RX0 yX0_sideOf yX0_sideOf, Cond.code yX0_sideOf cX0_sideOf 2 (some .int), Cond.methodLink RX0 29 yX0_has, Cond.methodLink RX0 40 yX0_signsOf]
def wsX4_remove_r3 : List Cond := [Cond.instanceMethod yX0_signsOf, Cond.selects RX0 yX0_signsOf yX0_signsOf, Cond.code yX0_signsOf cX0_signsOf 2 (some .int), Cond.fieldLink RX0 19 "MiddleClaims$Clauses" "signs" "[I", Cond.methodLink RX0 43 yX0_oppositesOf, Cond.instanceMethod yX0_oppositesOf, Cond.selects RX0 yX0_oppositesOf yX0_oppositesOf, Cond.code yX0_oppositesOf cX0_oppositesOf 2 (some .int), Cond.fieldLink RX0 22 "MiddleClaims$Clauses" "opposites" "[I", Cond.methodLink RX0 46 yX0_append, Cond.instanceMethod yX0_append, Cond.selects RX0 yX0_append yX0_append, Cond.code yX0_append cX0_append 4 none, Cond.methodLink RX4 81 yX0_drop, Cond.instanceMethod yX0_drop, Cond.selects RX0 yX0_drop yX0_drop, Cond.code yX0_drop cX0_drop 3 none, Cond.methodLink RX4 59 yX0_size]
def wsX4_remove : List Cond := .code yX4_remove cX4_remove 2 (some .int) :: ((wsX4_remove_r1 ++ (wsX4_remove_r2 ++ wsX4_remove_r3)) ++ wsX40 ++ wsX00 ++ wsX10)
def wsX4_move_r1 : List Cond := [Cond.fieldLink RX4 14 "MiddleClaims" "clauses" "LMiddleClaims$Clauses;", Cond.methodLink RX4 78 yX0_has, Cond.instanceMethod yX0_has, Cond.selects RX0 yX0_has yX0_has, Cond.initialized RX0, Cond.code yX0_has cX0_has 2 (some .boolean), Cond.fieldLink RX0 25 "MiddleClaims$Clauses" "size" "I", Cond.fieldLink RX0 13 "MiddleClaims$Clauses" "sides" "[I", Cond.methodLink RX4 63 yX4_beginAct, Cond.instanceMethod yX4_beginAct, Cond.selects RX4 yX4_beginAct yX4_beginAct, Cond.initialized RX4, Cond.code yX4_beginAct cX4_beginAct 1 none, Cond.fieldLink RX4 31 "MiddleClaims" "history" "LMiddleClaims$History;", Cond.fieldLink RX4 49 "MiddleClaims" "proofStands" "Z", Cond.methodLink RX4 205 yX1_remember, Cond.instanceMethod yX1_remember, Cond.selects RX1 yX1_remember yX1_remember, Cond.initialized RX1, Cond.code yX1_remember cX1_remember 2 none, Cond.fieldLink RX1 20 "MiddleClaims$History" "size" "I", Cond.fieldLink RX1 11 "MiddleClaims$History" "states" "[LMiddleClaims$Clauses;", Cond.methodLink RX1 24 yX1_dropOldest, Cond.instanceMethod yX1_dropOldest]
def wsX4_move_r2 : List Cond := [Cond.selects RX1 yX1_dropOldest yX1_dropOldest, Cond.code yX1_dropOldest cX1_dropOldest 3 none, Cond.methodLink RX1 27 yX0_becomeLike, Cond.instanceMethod yX0_becomeLike, Cond.selects RX0 yX0_becomeLike yX0_becomeLike, Cond.code yX0_becomeLike cX0_becomeLike 2 none, Cond.methodLink RX0 50 yX0_clear, Cond.instanceMethod yX0_clear, Cond.selects RX0 yX0_clear yX0_clear, Cond.code yX0_clear cX0_clear 1 none, Cond.methodLink RX0 53 yX0_appendEach, Cond.instanceMethod yX0_appendEach, Cond.selects RX0 yX0_appendEach yX0_appendEach, Cond.code yX0_appendEach cX0_appendEach 4 none, Cond.methodLink RX0 33 yX0_size, Cond.instanceMethod yX0_size, Cond.selects RX0 yX0_size yX0_size, Cond.code yX0_size cX0_size 1 (some .int), Cond.methodLink RX0 36 yX0_sideOf, Cond.instanceMethod yX0_sideOf, Cond.selects RX0 yX0_sideOf yX0_sideOf, Cond.code yX0_sideOf cX0_sideOf 2 (some .int), Cond.methodLink RX0 29 yX0_has, Cond.methodLink RX0 40 yX0_signsOf]
def wsX4_move_r3 : List Cond := [Cond.instanceMethod yX0_signsOf, Cond.selects RX0 yX0_signsOf yX0_signsOf, Cond.code yX0_signsOf cX0_signsOf 2 (some .int), Cond.fieldLink RX0 19 "MiddleClaims$Clauses" "signs" "[I", Cond.methodLink RX0 43 yX0_oppositesOf, Cond.instanceMethod yX0_oppositesOf, Cond.selects RX0 yX0_oppositesOf yX0_oppositesOf, Cond.code yX0_oppositesOf cX0_oppositesOf 2 (some .int), Cond.fieldLink RX0 22 "MiddleClaims$Clauses" "opposites" "[I", Cond.methodLink RX0 46 yX0_append, Cond.instanceMethod yX0_append, Cond.selects RX0 yX0_append yX0_append, Cond.code yX0_append cX0_append 4 none, Cond.methodLink RX4 84 yX0_changeSide, Cond.instanceMethod yX0_changeSide, Cond.selects RX0 yX0_changeSide yX0_changeSide, Cond.code yX0_changeSide cX0_changeSide 2 none, Cond.methodLink RX4 87 yX0_sideOf]
def wsX4_move : List Cond := .code yX4_move cX4_move 2 (some .int) :: ((wsX4_move_r1 ++ (wsX4_move_r2 ++ wsX4_move_r3)) ++ wsX40 ++ wsX00 ++ wsX10)
def wsX4_exchange_r1 : List Cond := [Cond.fieldLink RX4 14 "MiddleClaims" "clauses" "LMiddleClaims$Clauses;", Cond.methodLink RX4 59 yX0_size, Cond.instanceMethod yX0_size, Cond.selects RX0 yX0_size yX0_size, Cond.initialized RX0, Cond.code yX0_size cX0_size 1 (some .int), Cond.fieldLink RX0 25 "MiddleClaims$Clauses" "size" "I", Cond.methodLink RX4 63 yX4_beginAct, Cond.instanceMethod yX4_beginAct, Cond.selects RX4 yX4_beginAct yX4_beginAct, Cond.initialized RX4, Cond.code yX4_beginAct cX4_beginAct 1 none, Cond.fieldLink RX4 31 "MiddleClaims" "history" "LMiddleClaims$History;", Cond.fieldLink RX4 49 "MiddleClaims" "proofStands" "Z", Cond.methodLink RX4 205 yX1_remember, Cond.instanceMethod yX1_remember, Cond.selects RX1 yX1_remember yX1_remember, Cond.initialized RX1, Cond.code yX1_remember cX1_remember 2 none, Cond.fieldLink RX1 20 "MiddleClaims$History" "size" "I", Cond.fieldLink RX1 11 "MiddleClaims$History" "states" "[LMiddleClaims$Clauses;", Cond.methodLink RX1 24 yX1_dropOldest, Cond.instanceMethod yX1_dropOldest, Cond.selects RX1 yX1_dropOldest yX1_dropOldest]
def wsX4_exchange_r2 : List Cond := [Cond.code yX1_dropOldest cX1_dropOldest 3 none, Cond.methodLink RX1 27 yX0_becomeLike, Cond.instanceMethod yX0_becomeLike, Cond.selects RX0 yX0_becomeLike yX0_becomeLike, Cond.code yX0_becomeLike cX0_becomeLike 2 none, Cond.methodLink RX0 50 yX0_clear, Cond.instanceMethod yX0_clear, Cond.selects RX0 yX0_clear yX0_clear, Cond.code yX0_clear cX0_clear 1 none, Cond.methodLink RX0 53 yX0_appendEach, Cond.instanceMethod yX0_appendEach, Cond.selects RX0 yX0_appendEach yX0_appendEach, Cond.code yX0_appendEach cX0_appendEach 4 none, Cond.methodLink RX0 33 yX0_size, Cond.methodLink RX0 36 yX0_sideOf, Cond.instanceMethod yX0_sideOf, Cond.selects RX0 yX0_sideOf yX0_sideOf, Cond.code yX0_sideOf cX0_sideOf 2 (some .int), Cond.fieldLink RX0 13 "MiddleClaims$Clauses" "sides" "[I", Cond.methodLink RX0 29 yX0_has, Cond.instanceMethod yX0_has, Cond.selects RX0 yX0_has yX0_has, Cond.code yX0_has cX0_has 2 (some .boolean), Cond.methodLink RX0 40 yX0_signsOf]
def wsX4_exchange_r3 : List Cond := [Cond.instanceMethod yX0_signsOf, Cond.selects RX0 yX0_signsOf yX0_signsOf, Cond.code yX0_signsOf cX0_signsOf 2 (some .int), Cond.fieldLink RX0 19 "MiddleClaims$Clauses" "signs" "[I", Cond.methodLink RX0 43 yX0_oppositesOf, Cond.instanceMethod yX0_oppositesOf, Cond.selects RX0 yX0_oppositesOf yX0_oppositesOf, Cond.code yX0_oppositesOf cX0_oppositesOf 2 (some .int), Cond.fieldLink RX0 22 "MiddleClaims$Clauses" "opposites" "[I", Cond.methodLink RX0 46 yX0_append, Cond.instanceMethod yX0_append, Cond.selects RX0 yX0_append yX0_append, Cond.code yX0_append cX0_append 4 none, Cond.methodLink RX4 84 yX0_changeSide, Cond.instanceMethod yX0_changeSide, Cond.selects RX0 yX0_changeSide yX0_changeSide, Cond.code yX0_changeSide cX0_changeSide 2 none, Cond.methodLink RX4 91 yX0_sizeOfSide, Cond.instanceMethod yX0_sizeOfSide, Cond.selects RX0 yX0_sizeOfSide yX0_sizeOfSide, Cond.code yX0_sizeOfSide cX0_sizeOfSide 4 (some .int), Cond.static yX4_asNumber, Cond.code yX4_asNumber cX4_asNumber 1 (some .int)]
def wsX4_exchange : List Cond := .code yX4_exchange cX4_exchange 2 (some .int) :: ((wsX4_exchange_r1 ++ (wsX4_exchange_r2 ++ wsX4_exchange_r3)) ++ wsX40 ++ wsX00 ++ wsX10)
def wsX4_currentProof_r1 : List Cond := [Cond.fieldLink RX4 49 "MiddleClaims" "proofStands" "Z", Cond.fieldLink RX4 45 "MiddleClaims" "proof" "LMiddleClaims$Proof;", Cond.fieldLink RX4 14 "MiddleClaims" "clauses" "LMiddleClaims$Clauses;", Cond.methodLink RX4 208 yX2_make, Cond.instanceMethod yX2_make, Cond.selects RX2 yX2_make yX2_make, Cond.initialized RX2, Cond.code yX2_make cX2_make 3 none, Cond.fieldLink RX2 41 "MiddleClaims$Proof" "size" "I", Cond.fieldLink RX2 45 "MiddleClaims$Proof" "overfull" "Z", Cond.fieldLink RX2 49 "MiddleClaims$Proof" "emptyClauseFound" "Z", Cond.fieldLink RX2 73 "MiddleClaims$Proof" "knownToSide0" "I", Cond.fieldLink RX2 76 "MiddleClaims$Proof" "knownToSide1" "I", Cond.fieldLink RX2 38 "MiddleClaims$Proof" "stepsWithSigns" "[J", Cond.methodLink RX2 67 yX0_signsKnownTo, Cond.instanceMethod yX0_signsKnownTo, Cond.selects RX0 yX0_signsKnownTo yX0_signsKnownTo, Cond.initialized RX0, Cond.code yX0_signsKnownTo cX0_signsKnownTo 4 (some .int), Cond.fieldLink RX0 25 "MiddleClaims$Clauses" "size" "I", Cond.methodLink RX0 36 yX0_sideOf, Cond.instanceMethod yX0_sideOf, Cond.selects RX0 yX0_sideOf yX0_sideOf, Cond.code yX0_sideOf cX0_sideOf 2 (some .int)]
def wsX4_currentProof_r2 : List Cond := [Cond.fieldLink RX0 13 "MiddleClaims$Clauses" "sides" "[I", Cond.methodLink RX0 29 yX0_has, Cond.instanceMethod yX0_has, Cond.selects RX0 yX0_has yX0_has, Cond.code yX0_has cX0_has 2 (some .boolean), Cond.methodLink RX0 40 yX0_signsOf, Cond.instanceMethod yX0_signsOf, Cond.selects RX0 yX0_signsOf yX0_signsOf, Cond.code yX0_signsOf cX0_signsOf 2 (some .int), Cond.fieldLink RX0 19 "MiddleClaims$Clauses" "signs" "[I", Cond.methodLink RX0 43 yX0_oppositesOf, Cond.instanceMethod yX0_oppositesOf, Cond.selects RX0 yX0_oppositesOf yX0_oppositesOf, Cond.code yX0_oppositesOf cX0_oppositesOf 2 (some .int), Cond.fieldLink RX0 22 "MiddleClaims$Clauses" "opposites" "[I", Cond.methodLink RX2 79 yX0_size, Cond.instanceMethod yX0_size, Cond.selects RX0 yX0_size yX0_size, Cond.code yX0_size cX0_size 1 (some .int), Cond.methodLink RX2 82 yX0_sideOf, Cond.methodLink RX2 85 yX0_signsOf, Cond.methodLink RX2 88 yX0_oppositesOf, Cond.methodLink RX2 91 yX2_appendClause, Cond.instanceMethod yX2_appendClause]
def wsX4_currentProof_r3 : List Cond := [Cond.selects RX2 yX2_appendClause yX2_appendClause, Cond.code yX2_appendClause cX2_appendClause 7 none, Cond.constantLong RX2 108 (-1), Cond.static yX4_worldsOfLiterals, Cond.initialized RX4, Cond.code yX4_worldsOfLiterals cX4_worldsOfLiterals 5 (some .long), Cond.constantLong RX4 189 (-1), Cond.methodLink RX4 216 yX4_isIn, Cond.static yX4_isIn, Cond.code yX4_isIn cX4_isIn 2 (some .boolean), Cond.methodLink RX4 220 yX4_worldsOfSign, Cond.static yX4_worldsOfSign, Cond.code yX4_worldsOfSign cX4_worldsOfSign 1 (some .long), Cond.fieldLink RX4 212 "MiddleClaims" "WORLDS_OF_SIGN" "[J", Cond.methodLink RX2 104 yX2_appendStep, Cond.instanceMethod yX2_appendStep, Cond.selects RX2 yX2_appendStep yX2_appendStep, Cond.code yX2_appendStep cX2_appendStep 10 none, Cond.fieldLink RX2 9 "MiddleClaims$Proof" "signs" "[I", Cond.fieldLink RX2 15 "MiddleClaims$Proof" "opposites" "[I", Cond.fieldLink RX2 18 "MiddleClaims$Proof" "firstParents" "[I", Cond.fieldLink RX2 21 "MiddleClaims$Proof" "secondParents" "[I", Cond.fieldLink RX2 24 "MiddleClaims$Proof" "pivots" "[I", Cond.fieldLink RX2 27 "MiddleClaims$Proof" "claims0" "[J"]
def wsX4_currentProof_r4 : List Cond := [Cond.fieldLink RX2 31 "MiddleClaims$Proof" "claims1" "[J", Cond.fieldLink RX2 34 "MiddleClaims$Proof" "needed" "[Z", Cond.methodLink RX2 95 yX2_resolveAll, Cond.instanceMethod yX2_resolveAll, Cond.selects RX2 yX2_resolveAll yX2_resolveAll, Cond.code yX2_resolveAll cX2_resolveAll 4 none, Cond.methodLink RX2 110 yJ6_bitCount_0f7a4, Cond.static yJ6_bitCount_0f7a4, Cond.initialized RJ6, Cond.code yJ6_bitCount_0f7a4 cJ6_bitCount_0f7a4 1 (some .int), Cond.constant RJ6 265 (1431655765), Cond.constant RJ6 266 (858993459), Cond.constant RJ6 267 (252645135), Cond.methodLink RX2 115 yX2_resolve, Cond.instanceMethod yX2_resolve, Cond.selects RX2 yX2_resolve yX2_resolve, Cond.code yX2_resolve cX2_resolve 13 none, Cond.methodLink RX2 118 yX2_signsOf, Cond.instanceMethod yX2_signsOf, Cond.selects RX2 yX2_signsOf yX2_signsOf, Cond.code yX2_signsOf cX2_signsOf 2 (some .int), Cond.methodLink RX2 52 yX2_has, Cond.instanceMethod yX2_has, Cond.selects RX2 yX2_has yX2_has]
def wsX4_currentProof_r5 : List Cond := [Cond.code yX2_has cX2_has 2 (some .boolean), Cond.methodLink RX2 119 yX2_oppositesOf, Cond.instanceMethod yX2_oppositesOf, Cond.selects RX2 yX2_oppositesOf yX2_oppositesOf, Cond.code yX2_oppositesOf cX2_oppositesOf 2 (some .int), Cond.methodLink RX2 120 yX2_isStep, Cond.instanceMethod yX2_isStep, Cond.selects RX2 yX2_isStep yX2_isStep, Cond.code yX2_isStep cX2_isStep 3 (some .boolean), Cond.methodLink RX2 63 yX2_partialClaim, Cond.instanceMethod yX2_partialClaim, Cond.selects RX2 yX2_partialClaim yX2_partialClaim, Cond.code yX2_partialClaim cX2_partialClaim 3 (some .long), Cond.methodLink RX2 124 yX2_resolvedClaim, Cond.instanceMethod yX2_resolvedClaim, Cond.selects RX2 yX2_resolvedClaim yX2_resolvedClaim, Cond.code yX2_resolvedClaim cX2_resolvedClaim 9 (some .long), Cond.methodLink RX2 98 yX2_markNeededSteps, Cond.instanceMethod yX2_markNeededSteps, Cond.selects RX2 yX2_markNeededSteps yX2_markNeededSteps, Cond.code yX2_markNeededSteps cX2_markNeededSteps 2 none, Cond.methodLink RX2 135 yX2_markNeeded, Cond.instanceMethod yX2_markNeeded, Cond.selects RX2 yX2_markNeeded yX2_markNeeded]
def wsX4_currentProof_r6 : List Cond := [Cond.code yX2_markNeeded cX2_markNeeded 2 none, Cond.methodLink RX2 56 yX2_isNeeded, Cond.instanceMethod yX2_isNeeded, Cond.selects RX2 yX2_isNeeded yX2_isNeeded, Cond.code yX2_isNeeded cX2_isNeeded 2 (some .boolean), Cond.methodLink RX2 139 yX2_firstParentOf, Cond.instanceMethod yX2_firstParentOf, Cond.selects RX2 yX2_firstParentOf yX2_firstParentOf, Cond.code yX2_firstParentOf cX2_firstParentOf 2 (some .int), Cond.methodLink RX2 142 yX2_secondParentOf, Cond.instanceMethod yX2_secondParentOf, Cond.selects RX2 yX2_secondParentOf yX2_secondParentOf, Cond.code yX2_secondParentOf cX2_secondParentOf 2 (some .int)]
def wsX4_currentProof : List Cond := .code yX4_currentProof cX4_currentProof 1 (some (.object "MiddleClaims$Proof")) :: ((wsX4_currentProof_r1 ++ (wsX4_currentProof_r2 ++ (wsX4_currentProof_r3 ++ (wsX4_currentProof_r4 ++ (wsX4_currentProof_r5 ++ wsX4_currentProof_r6))))) ++ wsX40 ++ wsX20 ++ wsX00)
def wsX4_shrink_r1 : List Cond := [Cond.fieldLink RX4 14 "MiddleClaims" "clauses" "LMiddleClaims$Clauses;", Cond.methodLink RX4 94 yX4_currentProof, Cond.instanceMethod yX4_currentProof, Cond.selects RX4 yX4_currentProof yX4_currentProof, Cond.initialized RX4, Cond.code yX4_currentProof cX4_currentProof 1 (some (.object "MiddleClaims$Proof")), Cond.fieldLink RX4 49 "MiddleClaims" "proofStands" "Z", Cond.fieldLink RX4 45 "MiddleClaims" "proof" "LMiddleClaims$Proof;", Cond.methodLink RX4 208 yX2_make, Cond.instanceMethod yX2_make, Cond.selects RX2 yX2_make yX2_make, Cond.initialized RX2, Cond.code yX2_make cX2_make 3 none, Cond.fieldLink RX2 41 "MiddleClaims$Proof" "size" "I", Cond.fieldLink RX2 45 "MiddleClaims$Proof" "overfull" "Z", Cond.fieldLink RX2 49 "MiddleClaims$Proof" "emptyClauseFound" "Z", Cond.fieldLink RX2 73 "MiddleClaims$Proof" "knownToSide0" "I", Cond.fieldLink RX2 76 "MiddleClaims$Proof" "knownToSide1" "I", Cond.fieldLink RX2 38 "MiddleClaims$Proof" "stepsWithSigns" "[J", Cond.methodLink RX2 67 yX0_signsKnownTo, Cond.instanceMethod yX0_signsKnownTo, Cond.selects RX0 yX0_signsKnownTo yX0_signsKnownTo, Cond.initialized RX0, Cond.code yX0_signsKnownTo cX0_signsKnownTo 4 (some .int)]
def wsX4_shrink_r2 : List Cond := [Cond.fieldLink RX0 25 "MiddleClaims$Clauses" "size" "I", Cond.methodLink RX0 36 yX0_sideOf, Cond.instanceMethod yX0_sideOf, Cond.selects RX0 yX0_sideOf yX0_sideOf, Cond.code yX0_sideOf cX0_sideOf 2 (some .int), Cond.fieldLink RX0 13 "MiddleClaims$Clauses" "sides" "[I", Cond.methodLink RX0 29 yX0_has, Cond.instanceMethod yX0_has, Cond.selects RX0 yX0_has yX0_has, Cond.code yX0_has cX0_has 2 (some .boolean), Cond.methodLink RX0 40 yX0_signsOf, Cond.instanceMethod yX0_signsOf, Cond.selects RX0 yX0_signsOf yX0_signsOf, Cond.code yX0_signsOf cX0_signsOf 2 (some .int), Cond.fieldLink RX0 19 "MiddleClaims$Clauses" "signs" "[I", Cond.methodLink RX0 43 yX0_oppositesOf, Cond.instanceMethod yX0_oppositesOf, Cond.selects RX0 yX0_oppositesOf yX0_oppositesOf, Cond.code yX0_oppositesOf cX0_oppositesOf 2 (some .int), Cond.fieldLink RX0 22 "MiddleClaims$Clauses" "opposites" "[I", Cond.methodLink RX2 79 yX0_size, Cond.instanceMethod yX0_size, Cond.selects RX0 yX0_size yX0_size, Cond.code yX0_size cX0_size 1 (some .int)]
def wsX4_shrink_r3 : List Cond := [Cond.methodLink RX2 82 yX0_sideOf, Cond.methodLink RX2 85 yX0_signsOf, Cond.methodLink RX2 88 yX0_oppositesOf, Cond.methodLink RX2 91 yX2_appendClause, Cond.instanceMethod yX2_appendClause, Cond.selects RX2 yX2_appendClause yX2_appendClause, Cond.code yX2_appendClause cX2_appendClause 7 none, Cond.constantLong RX2 108 (-1), Cond.static yX4_worldsOfLiterals, Cond.code yX4_worldsOfLiterals cX4_worldsOfLiterals 5 (some .long), Cond.constantLong RX4 189 (-1), Cond.methodLink RX4 216 yX4_isIn, Cond.static yX4_isIn, Cond.code yX4_isIn cX4_isIn 2 (some .boolean), Cond.methodLink RX4 220 yX4_worldsOfSign, Cond.static yX4_worldsOfSign, Cond.code yX4_worldsOfSign cX4_worldsOfSign 1 (some .long), Cond.fieldLink RX4 212 "MiddleClaims" "WORLDS_OF_SIGN" "[J", Cond.methodLink RX2 104 yX2_appendStep, Cond.instanceMethod yX2_appendStep, Cond.selects RX2 yX2_appendStep yX2_appendStep, Cond.code yX2_appendStep cX2_appendStep 10 none, Cond.fieldLink RX2 9 "MiddleClaims$Proof" "signs" "[I", Cond.fieldLink RX2 15 "MiddleClaims$Proof" "opposites" "[I"]
def wsX4_shrink_r4 : List Cond := [Cond.fieldLink RX2 18 "MiddleClaims$Proof" "firstParents" "[I", Cond.fieldLink RX2 21 "MiddleClaims$Proof" "secondParents" "[I", Cond.fieldLink RX2 24 "MiddleClaims$Proof" "pivots" "[I", Cond.fieldLink RX2 27 "MiddleClaims$Proof" "claims0" "[J", Cond.fieldLink RX2 31 "MiddleClaims$Proof" "claims1" "[J", Cond.fieldLink RX2 34 "MiddleClaims$Proof" "needed" "[Z", Cond.methodLink RX2 95 yX2_resolveAll, Cond.instanceMethod yX2_resolveAll, Cond.selects RX2 yX2_resolveAll yX2_resolveAll, Cond.code yX2_resolveAll cX2_resolveAll 4 none, Cond.methodLink RX2 110 yJ6_bitCount_0f7a4, Cond.static yJ6_bitCount_0f7a4, Cond.initialized RJ6, Cond.code yJ6_bitCount_0f7a4 cJ6_bitCount_0f7a4 1 (some .int), Cond.constant RJ6 265 (1431655765), Cond.constant RJ6 266 (858993459), Cond.constant RJ6 267 (252645135), Cond.methodLink RX2 115 yX2_resolve, Cond.instanceMethod yX2_resolve, Cond.selects RX2 yX2_resolve yX2_resolve, Cond.code yX2_resolve cX2_resolve 13 none, Cond.methodLink RX2 118 yX2_signsOf, Cond.instanceMethod yX2_signsOf, Cond.selects RX2 yX2_signsOf yX2_signsOf]
def wsX4_shrink_r5 : List Cond := [Cond.code yX2_signsOf cX2_signsOf 2 (some .int), Cond.methodLink RX2 52 yX2_has, Cond.instanceMethod yX2_has, Cond.selects RX2 yX2_has yX2_has, Cond.code yX2_has cX2_has 2 (some .boolean), Cond.methodLink RX2 119 yX2_oppositesOf, Cond.instanceMethod yX2_oppositesOf, Cond.selects RX2 yX2_oppositesOf yX2_oppositesOf, Cond.code yX2_oppositesOf cX2_oppositesOf 2 (some .int), Cond.methodLink RX2 120 yX2_isStep, Cond.instanceMethod yX2_isStep, Cond.selects RX2 yX2_isStep yX2_isStep, Cond.code yX2_isStep cX2_isStep 3 (some .boolean), Cond.methodLink RX2 63 yX2_partialClaim, Cond.instanceMethod yX2_partialClaim, Cond.selects RX2 yX2_partialClaim yX2_partialClaim, Cond.code yX2_partialClaim cX2_partialClaim 3 (some .long), Cond.methodLink RX2 124 yX2_resolvedClaim, Cond.instanceMethod yX2_resolvedClaim, Cond.selects RX2 yX2_resolvedClaim yX2_resolvedClaim, Cond.code yX2_resolvedClaim cX2_resolvedClaim 9 (some .long), Cond.methodLink RX2 98 yX2_markNeededSteps, Cond.instanceMethod yX2_markNeededSteps, Cond.selects RX2 yX2_markNeededSteps yX2_markNeededSteps]
def wsX4_shrink_r6 : List Cond := [Cond.code yX2_markNeededSteps cX2_markNeededSteps 2 none, Cond.methodLink RX2 135 yX2_markNeeded, Cond.instanceMethod yX2_markNeeded, Cond.selects RX2 yX2_markNeeded yX2_markNeeded, Cond.code yX2_markNeeded cX2_markNeeded 2 none, Cond.methodLink RX2 56 yX2_isNeeded, Cond.instanceMethod yX2_isNeeded, Cond.selects RX2 yX2_isNeeded yX2_isNeeded, Cond.code yX2_isNeeded cX2_isNeeded 2 (some .boolean), Cond.methodLink RX2 139 yX2_firstParentOf, Cond.instanceMethod yX2_firstParentOf, Cond.selects RX2 yX2_firstParentOf yX2_firstParentOf, Cond.code yX2_firstParentOf cX2_firstParentOf 2 (some .int), Cond.methodLink RX2 142 yX2_secondParentOf, Cond.instanceMethod yX2_secondParentOf, Cond.selects RX2 yX2_secondParentOf yX2_secondParentOf, Cond.code yX2_secondParentOf cX2_secondParentOf 2 (some .int), Cond.methodLink RX4 98 yX2_hasEmptyClause, Cond.instanceMethod yX2_hasEmptyClause, Cond.selects RX2 yX2_hasEmptyClause yX2_hasEmptyClause, Cond.code yX2_hasEmptyClause cX2_hasEmptyClause 1 (some .boolean), Cond.methodLink RX4 59 yX0_size, Cond.methodLink RX4 102 yX2_neededAmong, Cond.instanceMethod yX2_neededAmong]
def wsX4_shrink_r7 : List Cond := [Cond.selects RX2 yX2_neededAmong yX2_neededAmong, Cond.code yX2_neededAmong cX2_neededAmong 4 (some .int), Cond.static yX4_asNumber, Cond.code yX4_asNumber cX4_asNumber 1 (some .int), Cond.methodLink RX4 63 yX4_beginAct, Cond.instanceMethod yX4_beginAct, Cond.selects RX4 yX4_beginAct yX4_beginAct, Cond.code yX4_beginAct cX4_beginAct 1 none, Cond.fieldLink RX4 31 "MiddleClaims" "history" "LMiddleClaims$History;", Cond.methodLink RX4 205 yX1_remember, Cond.instanceMethod yX1_remember, Cond.selects RX1 yX1_remember yX1_remember, Cond.initialized RX1, Cond.code yX1_remember cX1_remember 2 none, Cond.fieldLink RX1 20 "MiddleClaims$History" "size" "I", Cond.fieldLink RX1 11 "MiddleClaims$History" "states" "[LMiddleClaims$Clauses;", Cond.methodLink RX1 24 yX1_dropOldest, Cond.instanceMethod yX1_dropOldest, Cond.selects RX1 yX1_dropOldest yX1_dropOldest, Cond.code yX1_dropOldest cX1_dropOldest 3 none, Cond.methodLink RX1 27 yX0_becomeLike, Cond.instanceMethod yX0_becomeLike, Cond.selects RX0 yX0_becomeLike yX0_becomeLike, Cond.code yX0_becomeLike cX0_becomeLike 2 none]
def wsX4_shrink_r8 : List Cond := [Cond.methodLink RX0 50 yX0_clear, Cond.instanceMethod yX0_clear, Cond.selects RX0 yX0_clear yX0_clear, Cond.code yX0_clear cX0_clear 1 none, Cond.methodLink RX0 53 yX0_appendEach, Cond.instanceMethod yX0_appendEach, Cond.selects RX0 yX0_appendEach yX0_appendEach, Cond.code yX0_appendEach cX0_appendEach 4 none, Cond.methodLink RX0 33 yX0_size, Cond.methodLink RX0 46 yX0_append, Cond.instanceMethod yX0_append, Cond.selects RX0 yX0_append yX0_append, Cond.code yX0_append cX0_append 4 none, Cond.methodLink RX4 105 yX2_isNeeded, Cond.methodLink RX4 81 yX0_drop, Cond.instanceMethod yX0_drop, Cond.selects RX0 yX0_drop yX0_drop, Cond.code yX0_drop cX0_drop 3 none]
def wsX4_shrink : List Cond := .code yX4_shrink cX4_shrink 3 (some .int) :: ((wsX4_shrink_r1 ++ (wsX4_shrink_r2 ++ (wsX4_shrink_r3 ++ (wsX4_shrink_r4 ++ (wsX4_shrink_r5 ++ (wsX4_shrink_r6 ++ (wsX4_shrink_r7 ++ wsX4_shrink_r8))))))) ++ wsX40 ++ wsX20 ++ wsX00 ++ wsX10)
def wsX4_type : List Cond := .code yX4_type cX4_type 2 (some .int) :: ([.fieldLink RX4 38 "MiddleClaims" "text" "LMiddleClaims$Text;", .methodLink RX4 108 yX3_append, .instanceMethod yX3_append, .selects RX3 yX3_append yX3_append, .initialized RX3, .code yX3_append cX3_append 2 (some .boolean), .fieldLink RX3 15 "MiddleClaims$Text" "length" "I", .fieldLink RX3 9 "MiddleClaims$Text" "characters" "[C", .methodLink RX4 111 yX3_length, .instanceMethod yX3_length, .selects RX3 yX3_length yX3_length, .code yX3_length cX3_length 1 (some .int)] ++ wsX40 ++ wsX30)
def wsX4_clearText : List Cond := .code yX4_clearText cX4_clearText 2 (some .int) :: ([.fieldLink RX4 38 "MiddleClaims" "text" "LMiddleClaims$Text;", .methodLink RX4 111 yX3_length, .instanceMethod yX3_length, .selects RX3 yX3_length yX3_length, .initialized RX3, .code yX3_length cX3_length 1 (some .int), .fieldLink RX3 15 "MiddleClaims$Text" "length" "I", .methodLink RX4 114 yX3_clear, .instanceMethod yX3_clear, .selects RX3 yX3_clear yX3_clear, .code yX3_clear cX3_clear 1 none] ++ wsX40 ++ wsX30)
def wsX4_undo_r1 : List Cond := [Cond.fieldLink RX4 31 "MiddleClaims" "history" "LMiddleClaims$History;", Cond.fieldLink RX4 14 "MiddleClaims" "clauses" "LMiddleClaims$Clauses;", Cond.fieldLink RX4 49 "MiddleClaims" "proofStands" "Z", Cond.methodLink RX4 117 yX1_size, Cond.instanceMethod yX1_size, Cond.selects RX1 yX1_size yX1_size, Cond.initialized RX1, Cond.code yX1_size cX1_size 1 (some .int), Cond.fieldLink RX1 20 "MiddleClaims$History" "size" "I", Cond.methodLink RX4 118 yX1_takeLatestInto, Cond.instanceMethod yX1_takeLatestInto, Cond.selects RX1 yX1_takeLatestInto yX1_takeLatestInto, Cond.code yX1_takeLatestInto cX1_takeLatestInto 3 none, Cond.fieldLink RX1 11 "MiddleClaims$History" "states" "[LMiddleClaims$Clauses;", Cond.methodLink RX1 27 yX0_becomeLike, Cond.instanceMethod yX0_becomeLike, Cond.selects RX0 yX0_becomeLike yX0_becomeLike, Cond.initialized RX0, Cond.code yX0_becomeLike cX0_becomeLike 2 none, Cond.methodLink RX0 50 yX0_clear, Cond.instanceMethod yX0_clear, Cond.selects RX0 yX0_clear yX0_clear, Cond.code yX0_clear cX0_clear 1 none, Cond.fieldLink RX0 25 "MiddleClaims$Clauses" "size" "I"]
def wsX4_undo_r2 : List Cond := [Cond.methodLink RX0 53 yX0_appendEach, Cond.instanceMethod yX0_appendEach, Cond.selects RX0 yX0_appendEach yX0_appendEach, Cond.code yX0_appendEach cX0_appendEach 4 none, Cond.methodLink RX0 33 yX0_size, Cond.instanceMethod yX0_size, Cond.selects RX0 yX0_size yX0_size, Cond.code yX0_size cX0_size 1 (some .int), Cond.methodLink RX0 36 yX0_sideOf, Cond.instanceMethod yX0_sideOf, Cond.selects RX0 yX0_sideOf yX0_sideOf, Cond.code yX0_sideOf cX0_sideOf 2 (some .int), Cond.fieldLink RX0 13 "MiddleClaims$Clauses" "sides" "[I", Cond.methodLink RX0 29 yX0_has, Cond.instanceMethod yX0_has, Cond.selects RX0 yX0_has yX0_has, Cond.code yX0_has cX0_has 2 (some .boolean), Cond.methodLink RX0 40 yX0_signsOf, Cond.instanceMethod yX0_signsOf, Cond.selects RX0 yX0_signsOf yX0_signsOf, Cond.code yX0_signsOf cX0_signsOf 2 (some .int), Cond.fieldLink RX0 19 "MiddleClaims$Clauses" "signs" "[I", Cond.methodLink RX0 43 yX0_oppositesOf, Cond.instanceMethod yX0_oppositesOf]
def wsX4_undo_r3 : List Cond := [Cond.selects RX0 yX0_oppositesOf yX0_oppositesOf, Cond.code yX0_oppositesOf cX0_oppositesOf 2 (some .int), Cond.fieldLink RX0 22 "MiddleClaims$Clauses" "opposites" "[I", Cond.methodLink RX0 46 yX0_append, Cond.instanceMethod yX0_append, Cond.selects RX0 yX0_append yX0_append, Cond.code yX0_append cX0_append 4 none]
def wsX4_undo : List Cond := .code yX4_undo cX4_undo 1 (some .int) :: ((wsX4_undo_r1 ++ (wsX4_undo_r2 ++ wsX4_undo_r3)) ++ wsX40 ++ wsX10 ++ wsX00)
def wsX4_keep_r1 : List Cond := [Cond.fieldLink RX4 21 "MiddleClaims" "snapshot" "LMiddleClaims$Clauses;", Cond.fieldLink RX4 14 "MiddleClaims" "clauses" "LMiddleClaims$Clauses;", Cond.fieldLink RX4 24 "MiddleClaims" "snapshotTaken" "Z", Cond.methodLink RX4 121 yX0_becomeLike, Cond.instanceMethod yX0_becomeLike, Cond.selects RX0 yX0_becomeLike yX0_becomeLike, Cond.initialized RX0, Cond.code yX0_becomeLike cX0_becomeLike 2 none, Cond.methodLink RX0 50 yX0_clear, Cond.instanceMethod yX0_clear, Cond.selects RX0 yX0_clear yX0_clear, Cond.code yX0_clear cX0_clear 1 none, Cond.fieldLink RX0 25 "MiddleClaims$Clauses" "size" "I", Cond.methodLink RX0 53 yX0_appendEach, Cond.instanceMethod yX0_appendEach, Cond.selects RX0 yX0_appendEach yX0_appendEach, Cond.code yX0_appendEach cX0_appendEach 4 none, Cond.methodLink RX0 33 yX0_size, Cond.instanceMethod yX0_size, Cond.selects RX0 yX0_size yX0_size, Cond.code yX0_size cX0_size 1 (some .int), Cond.methodLink RX0 36 yX0_sideOf, Cond.instanceMethod yX0_sideOf, Cond.selects RX0 yX0_sideOf yX0_sideOf]
def wsX4_keep_r2 : List Cond := [Cond.code yX0_sideOf cX0_sideOf 2 (some .int), Cond.fieldLink RX0 13 "MiddleClaims$Clauses" "sides" "[I", Cond.methodLink RX0 29 yX0_has, Cond.instanceMethod yX0_has, Cond.selects RX0 yX0_has yX0_has, Cond.code yX0_has cX0_has 2 (some .boolean), Cond.methodLink RX0 40 yX0_signsOf, Cond.instanceMethod yX0_signsOf, Cond.selects RX0 yX0_signsOf yX0_signsOf, Cond.code yX0_signsOf cX0_signsOf 2 (some .int), Cond.fieldLink RX0 19 "MiddleClaims$Clauses" "signs" "[I", Cond.methodLink RX0 43 yX0_oppositesOf, Cond.instanceMethod yX0_oppositesOf, Cond.selects RX0 yX0_oppositesOf yX0_oppositesOf, Cond.code yX0_oppositesOf cX0_oppositesOf 2 (some .int), Cond.fieldLink RX0 22 "MiddleClaims$Clauses" "opposites" "[I", Cond.methodLink RX0 46 yX0_append, Cond.instanceMethod yX0_append, Cond.selects RX0 yX0_append yX0_append, Cond.code yX0_append cX0_append 4 none, Cond.methodLink RX4 59 yX0_size]
def wsX4_keep : List Cond := .code yX4_keep cX4_keep 1 (some .int) :: ((wsX4_keep_r1 ++ wsX4_keep_r2) ++ wsX40 ++ wsX00)
def wsX4_restore_r1 : List Cond := [Cond.fieldLink RX4 24 "MiddleClaims" "snapshotTaken" "Z", Cond.fieldLink RX4 14 "MiddleClaims" "clauses" "LMiddleClaims$Clauses;", Cond.fieldLink RX4 21 "MiddleClaims" "snapshot" "LMiddleClaims$Clauses;", Cond.methodLink RX4 63 yX4_beginAct, Cond.instanceMethod yX4_beginAct, Cond.selects RX4 yX4_beginAct yX4_beginAct, Cond.initialized RX4, Cond.code yX4_beginAct cX4_beginAct 1 none, Cond.fieldLink RX4 31 "MiddleClaims" "history" "LMiddleClaims$History;", Cond.fieldLink RX4 49 "MiddleClaims" "proofStands" "Z", Cond.methodLink RX4 205 yX1_remember, Cond.instanceMethod yX1_remember, Cond.selects RX1 yX1_remember yX1_remember, Cond.initialized RX1, Cond.code yX1_remember cX1_remember 2 none, Cond.fieldLink RX1 20 "MiddleClaims$History" "size" "I", Cond.fieldLink RX1 11 "MiddleClaims$History" "states" "[LMiddleClaims$Clauses;", Cond.methodLink RX1 24 yX1_dropOldest, Cond.instanceMethod yX1_dropOldest, Cond.selects RX1 yX1_dropOldest yX1_dropOldest, Cond.code yX1_dropOldest cX1_dropOldest 3 none, Cond.methodLink RX1 27 yX0_becomeLike, Cond.instanceMethod yX0_becomeLike, Cond.selects RX0 yX0_becomeLike yX0_becomeLike]
def wsX4_restore_r2 : List Cond := [Cond.initialized RX0, Cond.code yX0_becomeLike cX0_becomeLike 2 none, Cond.methodLink RX0 50 yX0_clear, Cond.instanceMethod yX0_clear, Cond.selects RX0 yX0_clear yX0_clear, Cond.code yX0_clear cX0_clear 1 none, Cond.fieldLink RX0 25 "MiddleClaims$Clauses" "size" "I", Cond.methodLink RX0 53 yX0_appendEach, Cond.instanceMethod yX0_appendEach, Cond.selects RX0 yX0_appendEach yX0_appendEach, Cond.code yX0_appendEach cX0_appendEach 4 none, Cond.methodLink RX0 33 yX0_size, Cond.instanceMethod yX0_size, Cond.selects RX0 yX0_size yX0_size, Cond.code yX0_size cX0_size 1 (some .int), Cond.methodLink RX0 36 yX0_sideOf, Cond.instanceMethod yX0_sideOf, Cond.selects RX0 yX0_sideOf yX0_sideOf, Cond.code yX0_sideOf cX0_sideOf 2 (some .int), Cond.fieldLink RX0 13 "MiddleClaims$Clauses" "sides" "[I", Cond.methodLink RX0 29 yX0_has, Cond.instanceMethod yX0_has, Cond.selects RX0 yX0_has yX0_has, Cond.code yX0_has cX0_has 2 (some .boolean)]
def wsX4_restore_r3 : List Cond := [Cond.methodLink RX0 40 yX0_signsOf, Cond.instanceMethod yX0_signsOf, Cond.selects RX0 yX0_signsOf yX0_signsOf, Cond.code yX0_signsOf cX0_signsOf 2 (some .int), Cond.fieldLink RX0 19 "MiddleClaims$Clauses" "signs" "[I", Cond.methodLink RX0 43 yX0_oppositesOf, Cond.instanceMethod yX0_oppositesOf, Cond.selects RX0 yX0_oppositesOf yX0_oppositesOf, Cond.code yX0_oppositesOf cX0_oppositesOf 2 (some .int), Cond.fieldLink RX0 22 "MiddleClaims$Clauses" "opposites" "[I", Cond.methodLink RX0 46 yX0_append, Cond.instanceMethod yX0_append, Cond.selects RX0 yX0_append yX0_append, Cond.code yX0_append cX0_append 4 none, Cond.methodLink RX4 121 yX0_becomeLike, Cond.methodLink RX4 59 yX0_size]
def wsX4_restore : List Cond := .code yX4_restore cX4_restore 1 (some .int) :: ((wsX4_restore_r1 ++ (wsX4_restore_r2 ++ wsX4_restore_r3)) ++ wsX40 ++ wsX10 ++ wsX00)
def wsJ13_bitCount_95d88 : List Cond := .code yJ13_bitCount_95d88 cJ13_bitCount_95d88 2 (some .int) :: ([.constantLong RJ13 314 (6148914691236517205), .constantLong RJ13 316 (3689348814741910323), .constantLong RJ13 318 (1085102592571150095)])
def wsX4_clause_r1 : List Cond := [Cond.fieldLink RX4 14 "MiddleClaims" "clauses" "LMiddleClaims$Clauses;", Cond.methodLink RX4 78 yX0_has, Cond.instanceMethod yX0_has, Cond.selects RX0 yX0_has yX0_has, Cond.initialized RX0, Cond.code yX0_has cX0_has 2 (some .boolean), Cond.fieldLink RX0 25 "MiddleClaims$Clauses" "size" "I", Cond.fieldLink RX0 13 "MiddleClaims$Clauses" "sides" "[I", Cond.methodLink RX4 87 yX0_sideOf, Cond.instanceMethod yX0_sideOf, Cond.selects RX0 yX0_sideOf yX0_sideOf, Cond.code yX0_sideOf cX0_sideOf 2 (some .int), Cond.methodLink RX0 29 yX0_has, Cond.methodLink RX4 124 yX0_signsOf, Cond.instanceMethod yX0_signsOf, Cond.selects RX0 yX0_signsOf yX0_signsOf, Cond.code yX0_signsOf cX0_signsOf 2 (some .int), Cond.fieldLink RX0 19 "MiddleClaims$Clauses" "signs" "[I", Cond.methodLink RX4 127 yX0_oppositesOf, Cond.instanceMethod yX0_oppositesOf, Cond.selects RX0 yX0_oppositesOf yX0_oppositesOf, Cond.code yX0_oppositesOf cX0_oppositesOf 2 (some .int), Cond.fieldLink RX0 22 "MiddleClaims$Clauses" "opposites" "[I", Cond.methodLink RX4 130 yX0_worldsOf]
def wsX4_clause_r2 : List Cond := [Cond.instanceMethod yX0_worldsOf, Cond.selects RX0 yX0_worldsOf yX0_worldsOf, Cond.code yX0_worldsOf cX0_worldsOf 2 (some .long), Cond.methodLink RX0 40 yX0_signsOf, Cond.methodLink RX0 43 yX0_oppositesOf, Cond.static yX4_worldsOfLiterals, Cond.initialized RX4, Cond.code yX4_worldsOfLiterals cX4_worldsOfLiterals 5 (some .long), Cond.constantLong RX4 189 (-1), Cond.methodLink RX4 216 yX4_isIn, Cond.static yX4_isIn, Cond.code yX4_isIn cX4_isIn 2 (some .boolean), Cond.methodLink RX4 220 yX4_worldsOfSign, Cond.static yX4_worldsOfSign, Cond.code yX4_worldsOfSign cX4_worldsOfSign 1 (some .long), Cond.fieldLink RX4 212 "MiddleClaims" "WORLDS_OF_SIGN" "[J", Cond.methodLink RX4 134 yJ13_bitCount_95d88, Cond.static yJ13_bitCount_95d88, Cond.initialized RJ13, Cond.code yJ13_bitCount_95d88 cJ13_bitCount_95d88 2 (some .int), Cond.constantLong RJ13 314 (6148914691236517205), Cond.constantLong RJ13 316 (3689348814741910323), Cond.constantLong RJ13 318 (1085102592571150095), Cond.methodLink RX4 94 yX4_currentProof]
def wsX4_clause_r3 : List Cond := [Cond.instanceMethod yX4_currentProof, Cond.selects RX4 yX4_currentProof yX4_currentProof, Cond.code yX4_currentProof cX4_currentProof 1 (some (.object "MiddleClaims$Proof")), Cond.fieldLink RX4 49 "MiddleClaims" "proofStands" "Z", Cond.fieldLink RX4 45 "MiddleClaims" "proof" "LMiddleClaims$Proof;", Cond.methodLink RX4 208 yX2_make, Cond.instanceMethod yX2_make, Cond.selects RX2 yX2_make yX2_make, Cond.initialized RX2, Cond.code yX2_make cX2_make 3 none, Cond.fieldLink RX2 41 "MiddleClaims$Proof" "size" "I", Cond.fieldLink RX2 45 "MiddleClaims$Proof" "overfull" "Z", Cond.fieldLink RX2 49 "MiddleClaims$Proof" "emptyClauseFound" "Z", Cond.fieldLink RX2 73 "MiddleClaims$Proof" "knownToSide0" "I", Cond.fieldLink RX2 76 "MiddleClaims$Proof" "knownToSide1" "I", Cond.fieldLink RX2 38 "MiddleClaims$Proof" "stepsWithSigns" "[J", Cond.methodLink RX2 67 yX0_signsKnownTo, Cond.instanceMethod yX0_signsKnownTo, Cond.selects RX0 yX0_signsKnownTo yX0_signsKnownTo, Cond.code yX0_signsKnownTo cX0_signsKnownTo 4 (some .int), Cond.methodLink RX0 36 yX0_sideOf, Cond.methodLink RX2 79 yX0_size, Cond.instanceMethod yX0_size, Cond.selects RX0 yX0_size yX0_size]
def wsX4_clause_r4 : List Cond := [Cond.code yX0_size cX0_size 1 (some .int), Cond.methodLink RX2 82 yX0_sideOf, Cond.methodLink RX2 85 yX0_signsOf, Cond.methodLink RX2 88 yX0_oppositesOf, Cond.methodLink RX2 91 yX2_appendClause, Cond.instanceMethod yX2_appendClause, Cond.selects RX2 yX2_appendClause yX2_appendClause, Cond.code yX2_appendClause cX2_appendClause 7 none, Cond.constantLong RX2 108 (-1), Cond.methodLink RX2 104 yX2_appendStep, Cond.instanceMethod yX2_appendStep, Cond.selects RX2 yX2_appendStep yX2_appendStep, Cond.code yX2_appendStep cX2_appendStep 10 none, Cond.fieldLink RX2 9 "MiddleClaims$Proof" "signs" "[I", Cond.fieldLink RX2 15 "MiddleClaims$Proof" "opposites" "[I", Cond.fieldLink RX2 18 "MiddleClaims$Proof" "firstParents" "[I", Cond.fieldLink RX2 21 "MiddleClaims$Proof" "secondParents" "[I", Cond.fieldLink RX2 24 "MiddleClaims$Proof" "pivots" "[I", Cond.fieldLink RX2 27 "MiddleClaims$Proof" "claims0" "[J", Cond.fieldLink RX2 31 "MiddleClaims$Proof" "claims1" "[J", Cond.fieldLink RX2 34 "MiddleClaims$Proof" "needed" "[Z", Cond.methodLink RX2 95 yX2_resolveAll, Cond.instanceMethod yX2_resolveAll, Cond.selects RX2 yX2_resolveAll yX2_resolveAll]
def wsX4_clause_r5 : List Cond := [Cond.code yX2_resolveAll cX2_resolveAll 4 none, Cond.methodLink RX2 110 yJ6_bitCount_0f7a4, Cond.static yJ6_bitCount_0f7a4, Cond.initialized RJ6, Cond.code yJ6_bitCount_0f7a4 cJ6_bitCount_0f7a4 1 (some .int), Cond.constant RJ6 265 (1431655765), Cond.constant RJ6 266 (858993459), Cond.constant RJ6 267 (252645135), Cond.methodLink RX2 115 yX2_resolve, Cond.instanceMethod yX2_resolve, Cond.selects RX2 yX2_resolve yX2_resolve, Cond.code yX2_resolve cX2_resolve 13 none, Cond.methodLink RX2 118 yX2_signsOf, Cond.instanceMethod yX2_signsOf, Cond.selects RX2 yX2_signsOf yX2_signsOf, Cond.code yX2_signsOf cX2_signsOf 2 (some .int), Cond.methodLink RX2 52 yX2_has, Cond.instanceMethod yX2_has, Cond.selects RX2 yX2_has yX2_has, Cond.code yX2_has cX2_has 2 (some .boolean), Cond.methodLink RX2 119 yX2_oppositesOf, Cond.instanceMethod yX2_oppositesOf, Cond.selects RX2 yX2_oppositesOf yX2_oppositesOf, Cond.code yX2_oppositesOf cX2_oppositesOf 2 (some .int)]
def wsX4_clause_r6 : List Cond := [Cond.methodLink RX2 120 yX2_isStep, Cond.instanceMethod yX2_isStep, Cond.selects RX2 yX2_isStep yX2_isStep, Cond.code yX2_isStep cX2_isStep 3 (some .boolean), Cond.methodLink RX2 63 yX2_partialClaim, Cond.instanceMethod yX2_partialClaim, Cond.selects RX2 yX2_partialClaim yX2_partialClaim, Cond.code yX2_partialClaim cX2_partialClaim 3 (some .long), Cond.methodLink RX2 124 yX2_resolvedClaim, Cond.instanceMethod yX2_resolvedClaim, Cond.selects RX2 yX2_resolvedClaim yX2_resolvedClaim, Cond.code yX2_resolvedClaim cX2_resolvedClaim 9 (some .long), Cond.methodLink RX2 98 yX2_markNeededSteps, Cond.instanceMethod yX2_markNeededSteps, Cond.selects RX2 yX2_markNeededSteps yX2_markNeededSteps, Cond.code yX2_markNeededSteps cX2_markNeededSteps 2 none, Cond.methodLink RX2 135 yX2_markNeeded, Cond.instanceMethod yX2_markNeeded, Cond.selects RX2 yX2_markNeeded yX2_markNeeded, Cond.code yX2_markNeeded cX2_markNeeded 2 none, Cond.methodLink RX2 56 yX2_isNeeded, Cond.instanceMethod yX2_isNeeded, Cond.selects RX2 yX2_isNeeded yX2_isNeeded, Cond.code yX2_isNeeded cX2_isNeeded 2 (some .boolean)]
def wsX4_clause_r7 : List Cond := [Cond.methodLink RX2 139 yX2_firstParentOf, Cond.instanceMethod yX2_firstParentOf, Cond.selects RX2 yX2_firstParentOf yX2_firstParentOf, Cond.code yX2_firstParentOf cX2_firstParentOf 2 (some .int), Cond.methodLink RX2 142 yX2_secondParentOf, Cond.instanceMethod yX2_secondParentOf, Cond.selects RX2 yX2_secondParentOf yX2_secondParentOf, Cond.code yX2_secondParentOf cX2_secondParentOf 2 (some .int), Cond.methodLink RX4 105 yX2_isNeeded, Cond.methodLink RX4 140 yX4_asNumber, Cond.static yX4_asNumber, Cond.code yX4_asNumber cX4_asNumber 1 (some .int)]
def wsX4_clause : List Cond := .code yX4_clause cX4_clause 3 (some .int) :: ((wsX4_clause_r1 ++ (wsX4_clause_r2 ++ (wsX4_clause_r3 ++ (wsX4_clause_r4 ++ (wsX4_clause_r5 ++ (wsX4_clause_r6 ++ wsX4_clause_r7)))))) ++ wsX40 ++ wsX00 ++ wsX20)
def wsX4_lowestWorld : List Cond := .code yX4_lowestWorld cX4_lowestWorld 2 (some .int) :: ([.methodLink RX4 134 yJ13_bitCount_95d88, .static yJ13_bitCount_95d88, .initialized RJ13, .code yJ13_bitCount_95d88 cJ13_bitCount_95d88 2 (some .int), .constantLong RJ13 314 (6148914691236517205), .constantLong RJ13 316 (3689348814741910323), .constantLong RJ13 318 (1085102592571150095)])
def wsX4_side_r1 : List Cond := [Cond.fieldLink RX4 14 "MiddleClaims" "clauses" "LMiddleClaims$Clauses;", Cond.methodLink RX4 52 yX4_isZeroOrOne, Cond.static yX4_isZeroOrOne, Cond.initialized RX4, Cond.code yX4_isZeroOrOne cX4_isZeroOrOne 1 (some .boolean), Cond.methodLink RX4 91 yX0_sizeOfSide, Cond.instanceMethod yX0_sizeOfSide, Cond.selects RX0 yX0_sizeOfSide yX0_sizeOfSide, Cond.initialized RX0, Cond.code yX0_sizeOfSide cX0_sizeOfSide 4 (some .int), Cond.fieldLink RX0 25 "MiddleClaims$Clauses" "size" "I", Cond.methodLink RX0 36 yX0_sideOf, Cond.instanceMethod yX0_sideOf, Cond.selects RX0 yX0_sideOf yX0_sideOf, Cond.code yX0_sideOf cX0_sideOf 2 (some .int), Cond.fieldLink RX0 13 "MiddleClaims$Clauses" "sides" "[I", Cond.methodLink RX0 29 yX0_has, Cond.instanceMethod yX0_has, Cond.selects RX0 yX0_has yX0_has, Cond.code yX0_has cX0_has 2 (some .boolean), Cond.static yX4_asNumber, Cond.code yX4_asNumber cX4_asNumber 1 (some .int), Cond.methodLink RX4 144 yX0_signsKnownTo, Cond.instanceMethod yX0_signsKnownTo]
def wsX4_side_r2 : List Cond := [Cond.selects RX0 yX0_signsKnownTo yX0_signsKnownTo, Cond.code yX0_signsKnownTo cX0_signsKnownTo 4 (some .int), Cond.methodLink RX0 40 yX0_signsOf, Cond.instanceMethod yX0_signsOf, Cond.selects RX0 yX0_signsOf yX0_signsOf, Cond.code yX0_signsOf cX0_signsOf 2 (some .int), Cond.fieldLink RX0 19 "MiddleClaims$Clauses" "signs" "[I", Cond.methodLink RX0 43 yX0_oppositesOf, Cond.instanceMethod yX0_oppositesOf, Cond.selects RX0 yX0_oppositesOf yX0_oppositesOf, Cond.code yX0_oppositesOf cX0_oppositesOf 2 (some .int), Cond.fieldLink RX0 22 "MiddleClaims$Clauses" "opposites" "[I", Cond.methodLink RX4 147 yX0_worldsOfSide, Cond.instanceMethod yX0_worldsOfSide, Cond.selects RX0 yX0_worldsOfSide yX0_worldsOfSide, Cond.code yX0_worldsOfSide cX0_worldsOfSide 5 (some .long), Cond.constantLong RX0 70 (-1), Cond.methodLink RX0 72 yX0_worldsOf, Cond.instanceMethod yX0_worldsOf, Cond.selects RX0 yX0_worldsOf yX0_worldsOf, Cond.code yX0_worldsOf cX0_worldsOf 2 (some .long), Cond.static yX4_worldsOfLiterals, Cond.code yX4_worldsOfLiterals cX4_worldsOfLiterals 5 (some .long), Cond.constantLong RX4 189 (-1)]
def wsX4_side_r3 : List Cond := [Cond.methodLink RX4 216 yX4_isIn, Cond.static yX4_isIn, Cond.code yX4_isIn cX4_isIn 2 (some .boolean), Cond.methodLink RX4 220 yX4_worldsOfSign, Cond.static yX4_worldsOfSign, Cond.code yX4_worldsOfSign cX4_worldsOfSign 1 (some .long), Cond.fieldLink RX4 212 "MiddleClaims" "WORLDS_OF_SIGN" "[J", Cond.methodLink RX4 134 yJ13_bitCount_95d88, Cond.static yJ13_bitCount_95d88, Cond.initialized RJ13, Cond.code yJ13_bitCount_95d88 cJ13_bitCount_95d88 2 (some .int), Cond.constantLong RJ13 314 (6148914691236517205), Cond.constantLong RJ13 316 (3689348814741910323), Cond.constantLong RJ13 318 (1085102592571150095), Cond.methodLink RX4 150 yX4_lowestWorld, Cond.static yX4_lowestWorld, Cond.code yX4_lowestWorld cX4_lowestWorld 2 (some .int)]
def wsX4_side : List Cond := .code yX4_side cX4_side 3 (some .int) :: ((wsX4_side_r1 ++ (wsX4_side_r2 ++ wsX4_side_r3)) ++ wsX40 ++ wsX00)
def wsX4_step_r1 : List Cond := [Cond.methodLink RX4 94 yX4_currentProof, Cond.instanceMethod yX4_currentProof, Cond.selects RX4 yX4_currentProof yX4_currentProof, Cond.initialized RX4, Cond.code yX4_currentProof cX4_currentProof 1 (some (.object "MiddleClaims$Proof")), Cond.fieldLink RX4 49 "MiddleClaims" "proofStands" "Z", Cond.fieldLink RX4 45 "MiddleClaims" "proof" "LMiddleClaims$Proof;", Cond.fieldLink RX4 14 "MiddleClaims" "clauses" "LMiddleClaims$Clauses;", Cond.methodLink RX4 208 yX2_make, Cond.instanceMethod yX2_make, Cond.selects RX2 yX2_make yX2_make, Cond.initialized RX2, Cond.code yX2_make cX2_make 3 none, Cond.fieldLink RX2 41 "MiddleClaims$Proof" "size" "I", Cond.fieldLink RX2 45 "MiddleClaims$Proof" "overfull" "Z", Cond.fieldLink RX2 49 "MiddleClaims$Proof" "emptyClauseFound" "Z", Cond.fieldLink RX2 73 "MiddleClaims$Proof" "knownToSide0" "I", Cond.fieldLink RX2 76 "MiddleClaims$Proof" "knownToSide1" "I", Cond.fieldLink RX2 38 "MiddleClaims$Proof" "stepsWithSigns" "[J", Cond.methodLink RX2 67 yX0_signsKnownTo, Cond.instanceMethod yX0_signsKnownTo, Cond.selects RX0 yX0_signsKnownTo yX0_signsKnownTo, Cond.initialized RX0, Cond.code yX0_signsKnownTo cX0_signsKnownTo 4 (some .int)]
def wsX4_step_r2 : List Cond := [Cond.fieldLink RX0 25 "MiddleClaims$Clauses" "size" "I", Cond.methodLink RX0 36 yX0_sideOf, Cond.instanceMethod yX0_sideOf, Cond.selects RX0 yX0_sideOf yX0_sideOf, Cond.code yX0_sideOf cX0_sideOf 2 (some .int), Cond.fieldLink RX0 13 "MiddleClaims$Clauses" "sides" "[I", Cond.methodLink RX0 29 yX0_has, Cond.instanceMethod yX0_has, Cond.selects RX0 yX0_has yX0_has, Cond.code yX0_has cX0_has 2 (some .boolean), Cond.methodLink RX0 40 yX0_signsOf, Cond.instanceMethod yX0_signsOf, Cond.selects RX0 yX0_signsOf yX0_signsOf, Cond.code yX0_signsOf cX0_signsOf 2 (some .int), Cond.fieldLink RX0 19 "MiddleClaims$Clauses" "signs" "[I", Cond.methodLink RX0 43 yX0_oppositesOf, Cond.instanceMethod yX0_oppositesOf, Cond.selects RX0 yX0_oppositesOf yX0_oppositesOf, Cond.code yX0_oppositesOf cX0_oppositesOf 2 (some .int), Cond.fieldLink RX0 22 "MiddleClaims$Clauses" "opposites" "[I", Cond.methodLink RX2 79 yX0_size, Cond.instanceMethod yX0_size, Cond.selects RX0 yX0_size yX0_size, Cond.code yX0_size cX0_size 1 (some .int)]
def wsX4_step_r3 : List Cond := [Cond.methodLink RX2 82 yX0_sideOf, Cond.methodLink RX2 85 yX0_signsOf, Cond.methodLink RX2 88 yX0_oppositesOf, Cond.methodLink RX2 91 yX2_appendClause, Cond.instanceMethod yX2_appendClause, Cond.selects RX2 yX2_appendClause yX2_appendClause, Cond.code yX2_appendClause cX2_appendClause 7 none, Cond.constantLong RX2 108 (-1), Cond.static yX4_worldsOfLiterals, Cond.code yX4_worldsOfLiterals cX4_worldsOfLiterals 5 (some .long), Cond.constantLong RX4 189 (-1), Cond.methodLink RX4 216 yX4_isIn, Cond.static yX4_isIn, Cond.code yX4_isIn cX4_isIn 2 (some .boolean), Cond.methodLink RX4 220 yX4_worldsOfSign, Cond.static yX4_worldsOfSign, Cond.code yX4_worldsOfSign cX4_worldsOfSign 1 (some .long), Cond.fieldLink RX4 212 "MiddleClaims" "WORLDS_OF_SIGN" "[J", Cond.methodLink RX2 104 yX2_appendStep, Cond.instanceMethod yX2_appendStep, Cond.selects RX2 yX2_appendStep yX2_appendStep, Cond.code yX2_appendStep cX2_appendStep 10 none, Cond.fieldLink RX2 9 "MiddleClaims$Proof" "signs" "[I", Cond.fieldLink RX2 15 "MiddleClaims$Proof" "opposites" "[I"]
def wsX4_step_r4 : List Cond := [Cond.fieldLink RX2 18 "MiddleClaims$Proof" "firstParents" "[I", Cond.fieldLink RX2 21 "MiddleClaims$Proof" "secondParents" "[I", Cond.fieldLink RX2 24 "MiddleClaims$Proof" "pivots" "[I", Cond.fieldLink RX2 27 "MiddleClaims$Proof" "claims0" "[J", Cond.fieldLink RX2 31 "MiddleClaims$Proof" "claims1" "[J", Cond.fieldLink RX2 34 "MiddleClaims$Proof" "needed" "[Z", Cond.methodLink RX2 95 yX2_resolveAll, Cond.instanceMethod yX2_resolveAll, Cond.selects RX2 yX2_resolveAll yX2_resolveAll, Cond.code yX2_resolveAll cX2_resolveAll 4 none, Cond.methodLink RX2 110 yJ6_bitCount_0f7a4, Cond.static yJ6_bitCount_0f7a4, Cond.initialized RJ6, Cond.code yJ6_bitCount_0f7a4 cJ6_bitCount_0f7a4 1 (some .int), Cond.constant RJ6 265 (1431655765), Cond.constant RJ6 266 (858993459), Cond.constant RJ6 267 (252645135), Cond.methodLink RX2 115 yX2_resolve, Cond.instanceMethod yX2_resolve, Cond.selects RX2 yX2_resolve yX2_resolve, Cond.code yX2_resolve cX2_resolve 13 none, Cond.methodLink RX2 118 yX2_signsOf, Cond.instanceMethod yX2_signsOf, Cond.selects RX2 yX2_signsOf yX2_signsOf]
def wsX4_step_r5 : List Cond := [Cond.code yX2_signsOf cX2_signsOf 2 (some .int), Cond.methodLink RX2 52 yX2_has, Cond.instanceMethod yX2_has, Cond.selects RX2 yX2_has yX2_has, Cond.code yX2_has cX2_has 2 (some .boolean), Cond.methodLink RX2 119 yX2_oppositesOf, Cond.instanceMethod yX2_oppositesOf, Cond.selects RX2 yX2_oppositesOf yX2_oppositesOf, Cond.code yX2_oppositesOf cX2_oppositesOf 2 (some .int), Cond.methodLink RX2 120 yX2_isStep, Cond.instanceMethod yX2_isStep, Cond.selects RX2 yX2_isStep yX2_isStep, Cond.code yX2_isStep cX2_isStep 3 (some .boolean), Cond.methodLink RX2 63 yX2_partialClaim, Cond.instanceMethod yX2_partialClaim, Cond.selects RX2 yX2_partialClaim yX2_partialClaim, Cond.code yX2_partialClaim cX2_partialClaim 3 (some .long), Cond.methodLink RX2 124 yX2_resolvedClaim, Cond.instanceMethod yX2_resolvedClaim, Cond.selects RX2 yX2_resolvedClaim yX2_resolvedClaim, Cond.code yX2_resolvedClaim cX2_resolvedClaim 9 (some .long), Cond.methodLink RX2 98 yX2_markNeededSteps, Cond.instanceMethod yX2_markNeededSteps, Cond.selects RX2 yX2_markNeededSteps yX2_markNeededSteps]
def wsX4_step_r6 : List Cond := [Cond.code yX2_markNeededSteps cX2_markNeededSteps 2 none, Cond.methodLink RX2 135 yX2_markNeeded, Cond.instanceMethod yX2_markNeeded, Cond.selects RX2 yX2_markNeeded yX2_markNeeded, Cond.code yX2_markNeeded cX2_markNeeded 2 none, Cond.methodLink RX2 56 yX2_isNeeded, Cond.instanceMethod yX2_isNeeded, Cond.selects RX2 yX2_isNeeded yX2_isNeeded, Cond.code yX2_isNeeded cX2_isNeeded 2 (some .boolean), Cond.methodLink RX2 139 yX2_firstParentOf, Cond.instanceMethod yX2_firstParentOf, Cond.selects RX2 yX2_firstParentOf yX2_firstParentOf, Cond.code yX2_firstParentOf cX2_firstParentOf 2 (some .int), Cond.methodLink RX2 142 yX2_secondParentOf, Cond.instanceMethod yX2_secondParentOf, Cond.selects RX2 yX2_secondParentOf yX2_secondParentOf, Cond.code yX2_secondParentOf cX2_secondParentOf 2 (some .int), Cond.methodLink RX4 153 yX2_isKnown, Cond.instanceMethod yX2_isKnown, Cond.selects RX2 yX2_isKnown yX2_isKnown, Cond.code yX2_isKnown cX2_isKnown 1 (some .boolean), Cond.methodLink RX4 156 yX2_has, Cond.methodLink RX4 157 yX2_signsOf, Cond.methodLink RX4 158 yX2_oppositesOf]
def wsX4_step_r7 : List Cond := [Cond.methodLink RX4 159 yX2_firstParentOf, Cond.methodLink RX4 162 yX2_secondParentOf, Cond.methodLink RX4 165 yX2_pivotOf, Cond.instanceMethod yX2_pivotOf, Cond.selects RX2 yX2_pivotOf yX2_pivotOf, Cond.code yX2_pivotOf cX2_pivotOf 2 (some .int), Cond.methodLink RX4 105 yX2_isNeeded, Cond.methodLink RX4 140 yX4_asNumber, Cond.static yX4_asNumber, Cond.code yX4_asNumber cX4_asNumber 1 (some .int)]
def wsX4_step : List Cond := .code yX4_step cX4_step 4 (some .int) :: ((wsX4_step_r1 ++ (wsX4_step_r2 ++ (wsX4_step_r3 ++ (wsX4_step_r4 ++ (wsX4_step_r5 ++ (wsX4_step_r6 ++ wsX4_step_r7)))))) ++ wsX40 ++ wsX20 ++ wsX00)
def wsX4_partial_r1 : List Cond := [Cond.methodLink RX4 94 yX4_currentProof, Cond.instanceMethod yX4_currentProof, Cond.selects RX4 yX4_currentProof yX4_currentProof, Cond.initialized RX4, Cond.code yX4_currentProof cX4_currentProof 1 (some (.object "MiddleClaims$Proof")), Cond.fieldLink RX4 49 "MiddleClaims" "proofStands" "Z", Cond.fieldLink RX4 45 "MiddleClaims" "proof" "LMiddleClaims$Proof;", Cond.fieldLink RX4 14 "MiddleClaims" "clauses" "LMiddleClaims$Clauses;", Cond.methodLink RX4 208 yX2_make, Cond.instanceMethod yX2_make, Cond.selects RX2 yX2_make yX2_make, Cond.initialized RX2, Cond.code yX2_make cX2_make 3 none, Cond.fieldLink RX2 41 "MiddleClaims$Proof" "size" "I", Cond.fieldLink RX2 45 "MiddleClaims$Proof" "overfull" "Z", Cond.fieldLink RX2 49 "MiddleClaims$Proof" "emptyClauseFound" "Z", Cond.fieldLink RX2 73 "MiddleClaims$Proof" "knownToSide0" "I", Cond.fieldLink RX2 76 "MiddleClaims$Proof" "knownToSide1" "I", Cond.fieldLink RX2 38 "MiddleClaims$Proof" "stepsWithSigns" "[J", Cond.methodLink RX2 67 yX0_signsKnownTo, Cond.instanceMethod yX0_signsKnownTo, Cond.selects RX0 yX0_signsKnownTo yX0_signsKnownTo, Cond.initialized RX0, Cond.code yX0_signsKnownTo cX0_signsKnownTo 4 (some .int)]
def wsX4_partial_r2 : List Cond := [Cond.fieldLink RX0 25 "MiddleClaims$Clauses" "size" "I", Cond.methodLink RX0 36 yX0_sideOf, Cond.instanceMethod yX0_sideOf, Cond.selects RX0 yX0_sideOf yX0_sideOf, Cond.code yX0_sideOf cX0_sideOf 2 (some .int), Cond.fieldLink RX0 13 "MiddleClaims$Clauses" "sides" "[I", Cond.methodLink RX0 29 yX0_has, Cond.instanceMethod yX0_has, Cond.selects RX0 yX0_has yX0_has, Cond.code yX0_has cX0_has 2 (some .boolean), Cond.methodLink RX0 40 yX0_signsOf, Cond.instanceMethod yX0_signsOf, Cond.selects RX0 yX0_signsOf yX0_signsOf, Cond.code yX0_signsOf cX0_signsOf 2 (some .int), Cond.fieldLink RX0 19 "MiddleClaims$Clauses" "signs" "[I", Cond.methodLink RX0 43 yX0_oppositesOf, Cond.instanceMethod yX0_oppositesOf, Cond.selects RX0 yX0_oppositesOf yX0_oppositesOf, Cond.code yX0_oppositesOf cX0_oppositesOf 2 (some .int), Cond.fieldLink RX0 22 "MiddleClaims$Clauses" "opposites" "[I", Cond.methodLink RX2 79 yX0_size, Cond.instanceMethod yX0_size, Cond.selects RX0 yX0_size yX0_size, Cond.code yX0_size cX0_size 1 (some .int)]
def wsX4_partial_r3 : List Cond := [Cond.methodLink RX2 82 yX0_sideOf, Cond.methodLink RX2 85 yX0_signsOf, Cond.methodLink RX2 88 yX0_oppositesOf, Cond.methodLink RX2 91 yX2_appendClause, Cond.instanceMethod yX2_appendClause, Cond.selects RX2 yX2_appendClause yX2_appendClause, Cond.code yX2_appendClause cX2_appendClause 7 none, Cond.constantLong RX2 108 (-1), Cond.static yX4_worldsOfLiterals, Cond.code yX4_worldsOfLiterals cX4_worldsOfLiterals 5 (some .long), Cond.constantLong RX4 189 (-1), Cond.methodLink RX4 216 yX4_isIn, Cond.static yX4_isIn, Cond.code yX4_isIn cX4_isIn 2 (some .boolean), Cond.methodLink RX4 220 yX4_worldsOfSign, Cond.static yX4_worldsOfSign, Cond.code yX4_worldsOfSign cX4_worldsOfSign 1 (some .long), Cond.fieldLink RX4 212 "MiddleClaims" "WORLDS_OF_SIGN" "[J", Cond.methodLink RX2 104 yX2_appendStep, Cond.instanceMethod yX2_appendStep, Cond.selects RX2 yX2_appendStep yX2_appendStep, Cond.code yX2_appendStep cX2_appendStep 10 none, Cond.fieldLink RX2 9 "MiddleClaims$Proof" "signs" "[I", Cond.fieldLink RX2 15 "MiddleClaims$Proof" "opposites" "[I"]
def wsX4_partial_r4 : List Cond := [Cond.fieldLink RX2 18 "MiddleClaims$Proof" "firstParents" "[I", Cond.fieldLink RX2 21 "MiddleClaims$Proof" "secondParents" "[I", Cond.fieldLink RX2 24 "MiddleClaims$Proof" "pivots" "[I", Cond.fieldLink RX2 27 "MiddleClaims$Proof" "claims0" "[J", Cond.fieldLink RX2 31 "MiddleClaims$Proof" "claims1" "[J", Cond.fieldLink RX2 34 "MiddleClaims$Proof" "needed" "[Z", Cond.methodLink RX2 95 yX2_resolveAll, Cond.instanceMethod yX2_resolveAll, Cond.selects RX2 yX2_resolveAll yX2_resolveAll, Cond.code yX2_resolveAll cX2_resolveAll 4 none, Cond.methodLink RX2 110 yJ6_bitCount_0f7a4, Cond.static yJ6_bitCount_0f7a4, Cond.initialized RJ6, Cond.code yJ6_bitCount_0f7a4 cJ6_bitCount_0f7a4 1 (some .int), Cond.constant RJ6 265 (1431655765), Cond.constant RJ6 266 (858993459), Cond.constant RJ6 267 (252645135), Cond.methodLink RX2 115 yX2_resolve, Cond.instanceMethod yX2_resolve, Cond.selects RX2 yX2_resolve yX2_resolve, Cond.code yX2_resolve cX2_resolve 13 none, Cond.methodLink RX2 118 yX2_signsOf, Cond.instanceMethod yX2_signsOf, Cond.selects RX2 yX2_signsOf yX2_signsOf]
def wsX4_partial_r5 : List Cond := [Cond.code yX2_signsOf cX2_signsOf 2 (some .int), Cond.methodLink RX2 52 yX2_has, Cond.instanceMethod yX2_has, Cond.selects RX2 yX2_has yX2_has, Cond.code yX2_has cX2_has 2 (some .boolean), Cond.methodLink RX2 119 yX2_oppositesOf, Cond.instanceMethod yX2_oppositesOf, Cond.selects RX2 yX2_oppositesOf yX2_oppositesOf, Cond.code yX2_oppositesOf cX2_oppositesOf 2 (some .int), Cond.methodLink RX2 120 yX2_isStep, Cond.instanceMethod yX2_isStep, Cond.selects RX2 yX2_isStep yX2_isStep, Cond.code yX2_isStep cX2_isStep 3 (some .boolean), Cond.methodLink RX2 63 yX2_partialClaim, Cond.instanceMethod yX2_partialClaim, Cond.selects RX2 yX2_partialClaim yX2_partialClaim, Cond.code yX2_partialClaim cX2_partialClaim 3 (some .long), Cond.methodLink RX2 124 yX2_resolvedClaim, Cond.instanceMethod yX2_resolvedClaim, Cond.selects RX2 yX2_resolvedClaim yX2_resolvedClaim, Cond.code yX2_resolvedClaim cX2_resolvedClaim 9 (some .long), Cond.methodLink RX2 98 yX2_markNeededSteps, Cond.instanceMethod yX2_markNeededSteps, Cond.selects RX2 yX2_markNeededSteps yX2_markNeededSteps]
def wsX4_partial_r6 : List Cond := [Cond.code yX2_markNeededSteps cX2_markNeededSteps 2 none, Cond.methodLink RX2 135 yX2_markNeeded, Cond.instanceMethod yX2_markNeeded, Cond.selects RX2 yX2_markNeeded yX2_markNeeded, Cond.code yX2_markNeeded cX2_markNeeded 2 none, Cond.methodLink RX2 56 yX2_isNeeded, Cond.instanceMethod yX2_isNeeded, Cond.selects RX2 yX2_isNeeded yX2_isNeeded, Cond.code yX2_isNeeded cX2_isNeeded 2 (some .boolean), Cond.methodLink RX2 139 yX2_firstParentOf, Cond.instanceMethod yX2_firstParentOf, Cond.selects RX2 yX2_firstParentOf yX2_firstParentOf, Cond.code yX2_firstParentOf cX2_firstParentOf 2 (some .int), Cond.methodLink RX2 142 yX2_secondParentOf, Cond.instanceMethod yX2_secondParentOf, Cond.selects RX2 yX2_secondParentOf yX2_secondParentOf, Cond.code yX2_secondParentOf cX2_secondParentOf 2 (some .int), Cond.methodLink RX4 98 yX2_hasEmptyClause, Cond.instanceMethod yX2_hasEmptyClause, Cond.selects RX2 yX2_hasEmptyClause yX2_hasEmptyClause, Cond.code yX2_hasEmptyClause cX2_hasEmptyClause 1 (some .boolean), Cond.methodLink RX4 156 yX2_has, Cond.methodLink RX4 52 yX4_isZeroOrOne, Cond.static yX4_isZeroOrOne]
def wsX4_partial_r7 : List Cond := [Cond.code yX4_isZeroOrOne cX4_isZeroOrOne 1 (some .boolean), Cond.methodLink RX4 168 yX2_partialClaim]
def wsX4_partial : List Cond := .code yX4_partial cX4_partial 5 (some .int) :: ((wsX4_partial_r1 ++ (wsX4_partial_r2 ++ (wsX4_partial_r3 ++ (wsX4_partial_r4 ++ (wsX4_partial_r5 ++ (wsX4_partial_r6 ++ wsX4_partial_r7)))))) ++ wsX40 ++ wsX20 ++ wsX00)
def wsX4_halfOf : List Cond := .code yX4_halfOf cX4_halfOf 3 (some .int) :: ([])
def wsX4_middle_r1 : List Cond := [Cond.methodLink RX4 52 yX4_isZeroOrOne, Cond.static yX4_isZeroOrOne, Cond.initialized RX4, Cond.code yX4_isZeroOrOne cX4_isZeroOrOne 1 (some .boolean), Cond.methodLink RX4 94 yX4_currentProof, Cond.instanceMethod yX4_currentProof, Cond.selects RX4 yX4_currentProof yX4_currentProof, Cond.code yX4_currentProof cX4_currentProof 1 (some (.object "MiddleClaims$Proof")), Cond.fieldLink RX4 49 "MiddleClaims" "proofStands" "Z", Cond.fieldLink RX4 45 "MiddleClaims" "proof" "LMiddleClaims$Proof;", Cond.fieldLink RX4 14 "MiddleClaims" "clauses" "LMiddleClaims$Clauses;", Cond.methodLink RX4 208 yX2_make, Cond.instanceMethod yX2_make, Cond.selects RX2 yX2_make yX2_make, Cond.initialized RX2, Cond.code yX2_make cX2_make 3 none, Cond.fieldLink RX2 41 "MiddleClaims$Proof" "size" "I", Cond.fieldLink RX2 45 "MiddleClaims$Proof" "overfull" "Z", Cond.fieldLink RX2 49 "MiddleClaims$Proof" "emptyClauseFound" "Z", Cond.fieldLink RX2 73 "MiddleClaims$Proof" "knownToSide0" "I", Cond.fieldLink RX2 76 "MiddleClaims$Proof" "knownToSide1" "I", Cond.fieldLink RX2 38 "MiddleClaims$Proof" "stepsWithSigns" "[J", Cond.methodLink RX2 67 yX0_signsKnownTo, Cond.instanceMethod yX0_signsKnownTo]
def wsX4_middle_r2 : List Cond := [Cond.selects RX0 yX0_signsKnownTo yX0_signsKnownTo, Cond.initialized RX0, Cond.code yX0_signsKnownTo cX0_signsKnownTo 4 (some .int), Cond.fieldLink RX0 25 "MiddleClaims$Clauses" "size" "I", Cond.methodLink RX0 36 yX0_sideOf, Cond.instanceMethod yX0_sideOf, Cond.selects RX0 yX0_sideOf yX0_sideOf, Cond.code yX0_sideOf cX0_sideOf 2 (some .int), Cond.fieldLink RX0 13 "MiddleClaims$Clauses" "sides" "[I", Cond.methodLink RX0 29 yX0_has, Cond.instanceMethod yX0_has, Cond.selects RX0 yX0_has yX0_has, Cond.code yX0_has cX0_has 2 (some .boolean), Cond.methodLink RX0 40 yX0_signsOf, Cond.instanceMethod yX0_signsOf, Cond.selects RX0 yX0_signsOf yX0_signsOf, Cond.code yX0_signsOf cX0_signsOf 2 (some .int), Cond.fieldLink RX0 19 "MiddleClaims$Clauses" "signs" "[I", Cond.methodLink RX0 43 yX0_oppositesOf, Cond.instanceMethod yX0_oppositesOf, Cond.selects RX0 yX0_oppositesOf yX0_oppositesOf, Cond.code yX0_oppositesOf cX0_oppositesOf 2 (some .int), Cond.fieldLink RX0 22 "MiddleClaims$Clauses" "opposites" "[I", Cond.methodLink RX2 79 yX0_size]
def wsX4_middle_r3 : List Cond := [Cond.instanceMethod yX0_size, Cond.selects RX0 yX0_size yX0_size, Cond.code yX0_size cX0_size 1 (some .int), Cond.methodLink RX2 82 yX0_sideOf, Cond.methodLink RX2 85 yX0_signsOf, Cond.methodLink RX2 88 yX0_oppositesOf, Cond.methodLink RX2 91 yX2_appendClause, Cond.instanceMethod yX2_appendClause, Cond.selects RX2 yX2_appendClause yX2_appendClause, Cond.code yX2_appendClause cX2_appendClause 7 none, Cond.constantLong RX2 108 (-1), Cond.static yX4_worldsOfLiterals, Cond.code yX4_worldsOfLiterals cX4_worldsOfLiterals 5 (some .long), Cond.constantLong RX4 189 (-1), Cond.methodLink RX4 216 yX4_isIn, Cond.static yX4_isIn, Cond.code yX4_isIn cX4_isIn 2 (some .boolean), Cond.methodLink RX4 220 yX4_worldsOfSign, Cond.static yX4_worldsOfSign, Cond.code yX4_worldsOfSign cX4_worldsOfSign 1 (some .long), Cond.fieldLink RX4 212 "MiddleClaims" "WORLDS_OF_SIGN" "[J", Cond.methodLink RX2 104 yX2_appendStep, Cond.instanceMethod yX2_appendStep, Cond.selects RX2 yX2_appendStep yX2_appendStep]
def wsX4_middle_r4 : List Cond := [Cond.code yX2_appendStep cX2_appendStep 10 none, Cond.fieldLink RX2 9 "MiddleClaims$Proof" "signs" "[I", Cond.fieldLink RX2 15 "MiddleClaims$Proof" "opposites" "[I", Cond.fieldLink RX2 18 "MiddleClaims$Proof" "firstParents" "[I", Cond.fieldLink RX2 21 "MiddleClaims$Proof" "secondParents" "[I", Cond.fieldLink RX2 24 "MiddleClaims$Proof" "pivots" "[I", Cond.fieldLink RX2 27 "MiddleClaims$Proof" "claims0" "[J", Cond.fieldLink RX2 31 "MiddleClaims$Proof" "claims1" "[J", Cond.fieldLink RX2 34 "MiddleClaims$Proof" "needed" "[Z", Cond.methodLink RX2 95 yX2_resolveAll, Cond.instanceMethod yX2_resolveAll, Cond.selects RX2 yX2_resolveAll yX2_resolveAll, Cond.code yX2_resolveAll cX2_resolveAll 4 none, Cond.methodLink RX2 110 yJ6_bitCount_0f7a4, Cond.static yJ6_bitCount_0f7a4, Cond.initialized RJ6, Cond.code yJ6_bitCount_0f7a4 cJ6_bitCount_0f7a4 1 (some .int), Cond.constant RJ6 265 (1431655765), Cond.constant RJ6 266 (858993459), Cond.constant RJ6 267 (252645135), Cond.methodLink RX2 115 yX2_resolve, Cond.instanceMethod yX2_resolve, Cond.selects RX2 yX2_resolve yX2_resolve, Cond.code yX2_resolve cX2_resolve 13 none]
def wsX4_middle_r5 : List Cond := [Cond.methodLink RX2 118 yX2_signsOf, Cond.instanceMethod yX2_signsOf, Cond.selects RX2 yX2_signsOf yX2_signsOf, Cond.code yX2_signsOf cX2_signsOf 2 (some .int), Cond.methodLink RX2 52 yX2_has, Cond.instanceMethod yX2_has, Cond.selects RX2 yX2_has yX2_has, Cond.code yX2_has cX2_has 2 (some .boolean), Cond.methodLink RX2 119 yX2_oppositesOf, Cond.instanceMethod yX2_oppositesOf, Cond.selects RX2 yX2_oppositesOf yX2_oppositesOf, Cond.code yX2_oppositesOf cX2_oppositesOf 2 (some .int), Cond.methodLink RX2 120 yX2_isStep, Cond.instanceMethod yX2_isStep, Cond.selects RX2 yX2_isStep yX2_isStep, Cond.code yX2_isStep cX2_isStep 3 (some .boolean), Cond.methodLink RX2 63 yX2_partialClaim, Cond.instanceMethod yX2_partialClaim, Cond.selects RX2 yX2_partialClaim yX2_partialClaim, Cond.code yX2_partialClaim cX2_partialClaim 3 (some .long), Cond.methodLink RX2 124 yX2_resolvedClaim, Cond.instanceMethod yX2_resolvedClaim, Cond.selects RX2 yX2_resolvedClaim yX2_resolvedClaim, Cond.code yX2_resolvedClaim cX2_resolvedClaim 9 (some .long)]
def wsX4_middle_r6 : List Cond := [Cond.methodLink RX2 98 yX2_markNeededSteps, Cond.instanceMethod yX2_markNeededSteps, Cond.selects RX2 yX2_markNeededSteps yX2_markNeededSteps, Cond.code yX2_markNeededSteps cX2_markNeededSteps 2 none, Cond.methodLink RX2 135 yX2_markNeeded, Cond.instanceMethod yX2_markNeeded, Cond.selects RX2 yX2_markNeeded yX2_markNeeded, Cond.code yX2_markNeeded cX2_markNeeded 2 none, Cond.methodLink RX2 56 yX2_isNeeded, Cond.instanceMethod yX2_isNeeded, Cond.selects RX2 yX2_isNeeded yX2_isNeeded, Cond.code yX2_isNeeded cX2_isNeeded 2 (some .boolean), Cond.methodLink RX2 139 yX2_firstParentOf, Cond.instanceMethod yX2_firstParentOf, Cond.selects RX2 yX2_firstParentOf yX2_firstParentOf, Cond.code yX2_firstParentOf cX2_firstParentOf 2 (some .int), Cond.methodLink RX2 142 yX2_secondParentOf, Cond.instanceMethod yX2_secondParentOf, Cond.selects RX2 yX2_secondParentOf yX2_secondParentOf, Cond.code yX2_secondParentOf cX2_secondParentOf 2 (some .int), Cond.methodLink RX4 98 yX2_hasEmptyClause, Cond.instanceMethod yX2_hasEmptyClause, Cond.selects RX2 yX2_hasEmptyClause yX2_hasEmptyClause, Cond.code yX2_hasEmptyClause cX2_hasEmptyClause 1 (some .boolean)]
def wsX4_middle_r7 : List Cond := [Cond.methodLink RX4 172 yX2_middleClaim, Cond.instanceMethod yX2_middleClaim, Cond.selects RX2 yX2_middleClaim yX2_middleClaim, Cond.code yX2_middleClaim cX2_middleClaim 2 (some .long), Cond.methodLink RX4 175 yX4_halfOf, Cond.static yX4_halfOf, Cond.code yX4_halfOf cX4_halfOf 3 (some .int)]
def wsX4_middle : List Cond := .code yX4_middle cX4_middle 4 (some .int) :: ((wsX4_middle_r1 ++ (wsX4_middle_r2 ++ (wsX4_middle_r3 ++ (wsX4_middle_r4 ++ (wsX4_middle_r5 ++ (wsX4_middle_r6 ++ wsX4_middle_r7)))))) ++ wsX40 ++ wsX20 ++ wsX00)
def wsX4_spread : List Cond := .code yX4_spread cX4_spread 9 (some .long) :: ([.constantLong RX4 189 (-1), .methodLink RX4 216 yX4_isIn, .static yX4_isIn, .initialized RX4, .code yX4_isIn cX4_isIn 2 (some .boolean), .methodLink RX4 220 yX4_worldsOfSign, .static yX4_worldsOfSign, .code yX4_worldsOfSign cX4_worldsOfSign 1 (some .long), .fieldLink RX4 212 "MiddleClaims" "WORLDS_OF_SIGN" "[J"])
def wsX4_outermost_r1 : List Cond := [Cond.fieldLink RX4 14 "MiddleClaims" "clauses" "LMiddleClaims$Clauses;", Cond.constantLong RX4 189 (-1), Cond.methodLink RX4 52 yX4_isZeroOrOne, Cond.static yX4_isZeroOrOne, Cond.initialized RX4, Cond.code yX4_isZeroOrOne cX4_isZeroOrOne 1 (some .boolean), Cond.methodLink RX4 179 yX0_clash, Cond.instanceMethod yX0_clash, Cond.selects RX0 yX0_clash yX0_clash, Cond.initialized RX0, Cond.code yX0_clash cX0_clash 1 (some .boolean), Cond.methodLink RX0 79 yX0_worldsOfBoth, Cond.instanceMethod yX0_worldsOfBoth, Cond.selects RX0 yX0_worldsOfBoth yX0_worldsOfBoth, Cond.code yX0_worldsOfBoth cX0_worldsOfBoth 1 (some .long), Cond.methodLink RX0 76 yX0_worldsOfSide, Cond.instanceMethod yX0_worldsOfSide, Cond.selects RX0 yX0_worldsOfSide yX0_worldsOfSide, Cond.code yX0_worldsOfSide cX0_worldsOfSide 5 (some .long), Cond.constantLong RX0 70 (-1), Cond.fieldLink RX0 25 "MiddleClaims$Clauses" "size" "I", Cond.methodLink RX0 36 yX0_sideOf, Cond.instanceMethod yX0_sideOf, Cond.selects RX0 yX0_sideOf yX0_sideOf]
def wsX4_outermost_r2 : List Cond := [Cond.code yX0_sideOf cX0_sideOf 2 (some .int), Cond.fieldLink RX0 13 "MiddleClaims$Clauses" "sides" "[I", Cond.methodLink RX0 29 yX0_has, Cond.instanceMethod yX0_has, Cond.selects RX0 yX0_has yX0_has, Cond.code yX0_has cX0_has 2 (some .boolean), Cond.methodLink RX0 72 yX0_worldsOf, Cond.instanceMethod yX0_worldsOf, Cond.selects RX0 yX0_worldsOf yX0_worldsOf, Cond.code yX0_worldsOf cX0_worldsOf 2 (some .long), Cond.methodLink RX0 40 yX0_signsOf, Cond.instanceMethod yX0_signsOf, Cond.selects RX0 yX0_signsOf yX0_signsOf, Cond.code yX0_signsOf cX0_signsOf 2 (some .int), Cond.fieldLink RX0 19 "MiddleClaims$Clauses" "signs" "[I", Cond.methodLink RX0 43 yX0_oppositesOf, Cond.instanceMethod yX0_oppositesOf, Cond.selects RX0 yX0_oppositesOf yX0_oppositesOf, Cond.code yX0_oppositesOf cX0_oppositesOf 2 (some .int), Cond.fieldLink RX0 22 "MiddleClaims$Clauses" "opposites" "[I", Cond.static yX4_worldsOfLiterals, Cond.code yX4_worldsOfLiterals cX4_worldsOfLiterals 5 (some .long), Cond.methodLink RX4 216 yX4_isIn, Cond.static yX4_isIn]
def wsX4_outermost_r3 : List Cond := [Cond.code yX4_isIn cX4_isIn 2 (some .boolean), Cond.methodLink RX4 220 yX4_worldsOfSign, Cond.static yX4_worldsOfSign, Cond.code yX4_worldsOfSign cX4_worldsOfSign 1 (some .long), Cond.fieldLink RX4 212 "MiddleClaims" "WORLDS_OF_SIGN" "[J", Cond.methodLink RX4 182 yX0_sharedSigns, Cond.instanceMethod yX0_sharedSigns, Cond.selects RX0 yX0_sharedSigns yX0_sharedSigns, Cond.code yX0_sharedSigns cX0_sharedSigns 1 (some .int), Cond.methodLink RX0 63 yX0_signsKnownTo, Cond.instanceMethod yX0_signsKnownTo, Cond.selects RX0 yX0_signsKnownTo yX0_signsKnownTo, Cond.code yX0_signsKnownTo cX0_signsKnownTo 4 (some .int), Cond.methodLink RX4 147 yX0_worldsOfSide, Cond.methodLink RX4 185 yX4_spread, Cond.static yX4_spread, Cond.code yX4_spread cX4_spread 9 (some .long), Cond.methodLink RX4 175 yX4_halfOf, Cond.static yX4_halfOf, Cond.code yX4_halfOf cX4_halfOf 3 (some .int)]
def wsX4_outermost : List Cond := .code yX4_outermost cX4_outermost 6 (some .int) :: ((wsX4_outermost_r1 ++ (wsX4_outermost_r2 ++ wsX4_outermost_r3)) ++ wsX40 ++ wsX00)
def wsX4_test_r1 : List Cond := [Cond.constantLong RX4 191 (4294967295), Cond.fieldLink RX4 14 "MiddleClaims" "clauses" "LMiddleClaims$Clauses;", Cond.constantLong RX4 189 (-1), Cond.methodLink RX4 147 yX0_worldsOfSide, Cond.instanceMethod yX0_worldsOfSide, Cond.selects RX0 yX0_worldsOfSide yX0_worldsOfSide, Cond.initialized RX0, Cond.code yX0_worldsOfSide cX0_worldsOfSide 5 (some .long), Cond.constantLong RX0 70 (-1), Cond.fieldLink RX0 25 "MiddleClaims$Clauses" "size" "I", Cond.methodLink RX0 36 yX0_sideOf, Cond.instanceMethod yX0_sideOf, Cond.selects RX0 yX0_sideOf yX0_sideOf, Cond.code yX0_sideOf cX0_sideOf 2 (some .int), Cond.fieldLink RX0 13 "MiddleClaims$Clauses" "sides" "[I", Cond.methodLink RX0 29 yX0_has, Cond.instanceMethod yX0_has, Cond.selects RX0 yX0_has yX0_has, Cond.code yX0_has cX0_has 2 (some .boolean), Cond.methodLink RX0 72 yX0_worldsOf, Cond.instanceMethod yX0_worldsOf, Cond.selects RX0 yX0_worldsOf yX0_worldsOf, Cond.code yX0_worldsOf cX0_worldsOf 2 (some .long), Cond.methodLink RX0 40 yX0_signsOf]
def wsX4_test_r2 : List Cond := [Cond.instanceMethod yX0_signsOf, Cond.selects RX0 yX0_signsOf yX0_signsOf, Cond.code yX0_signsOf cX0_signsOf 2 (some .int), Cond.fieldLink RX0 19 "MiddleClaims$Clauses" "signs" "[I", Cond.methodLink RX0 43 yX0_oppositesOf, Cond.instanceMethod yX0_oppositesOf, Cond.selects RX0 yX0_oppositesOf yX0_oppositesOf, Cond.code yX0_oppositesOf cX0_oppositesOf 2 (some .int), Cond.fieldLink RX0 22 "MiddleClaims$Clauses" "opposites" "[I", Cond.static yX4_worldsOfLiterals, Cond.initialized RX4, Cond.code yX4_worldsOfLiterals cX4_worldsOfLiterals 5 (some .long), Cond.methodLink RX4 216 yX4_isIn, Cond.static yX4_isIn, Cond.code yX4_isIn cX4_isIn 2 (some .boolean), Cond.methodLink RX4 220 yX4_worldsOfSign, Cond.static yX4_worldsOfSign, Cond.code yX4_worldsOfSign cX4_worldsOfSign 1 (some .long), Cond.fieldLink RX4 212 "MiddleClaims" "WORLDS_OF_SIGN" "[J", Cond.methodLink RX4 182 yX0_sharedSigns, Cond.instanceMethod yX0_sharedSigns, Cond.selects RX0 yX0_sharedSigns yX0_sharedSigns, Cond.code yX0_sharedSigns cX0_sharedSigns 1 (some .int), Cond.methodLink RX0 63 yX0_signsKnownTo]
def wsX4_test_r3 : List Cond := [Cond.instanceMethod yX0_signsKnownTo, Cond.selects RX0 yX0_signsKnownTo yX0_signsKnownTo, Cond.code yX0_signsKnownTo cX0_signsKnownTo 4 (some .int), Cond.methodLink RX4 185 yX4_spread, Cond.static yX4_spread, Cond.code yX4_spread cX4_spread 9 (some .long)]
def wsX4_test : List Cond := .code yX4_test cX4_test 5 (some .int) :: ((wsX4_test_r1 ++ (wsX4_test_r2 ++ wsX4_test_r3)) ++ wsX40 ++ wsX00)
def wsX4_compare_r1 : List Cond := [Cond.constantLong RX4 189 (-1), Cond.methodLink RX4 94 yX4_currentProof, Cond.instanceMethod yX4_currentProof, Cond.selects RX4 yX4_currentProof yX4_currentProof, Cond.initialized RX4, Cond.code yX4_currentProof cX4_currentProof 1 (some (.object "MiddleClaims$Proof")), Cond.fieldLink RX4 49 "MiddleClaims" "proofStands" "Z", Cond.fieldLink RX4 45 "MiddleClaims" "proof" "LMiddleClaims$Proof;", Cond.fieldLink RX4 14 "MiddleClaims" "clauses" "LMiddleClaims$Clauses;", Cond.methodLink RX4 208 yX2_make, Cond.instanceMethod yX2_make, Cond.selects RX2 yX2_make yX2_make, Cond.initialized RX2, Cond.code yX2_make cX2_make 3 none, Cond.fieldLink RX2 41 "MiddleClaims$Proof" "size" "I", Cond.fieldLink RX2 45 "MiddleClaims$Proof" "overfull" "Z", Cond.fieldLink RX2 49 "MiddleClaims$Proof" "emptyClauseFound" "Z", Cond.fieldLink RX2 73 "MiddleClaims$Proof" "knownToSide0" "I", Cond.fieldLink RX2 76 "MiddleClaims$Proof" "knownToSide1" "I", Cond.fieldLink RX2 38 "MiddleClaims$Proof" "stepsWithSigns" "[J", Cond.methodLink RX2 67 yX0_signsKnownTo, Cond.instanceMethod yX0_signsKnownTo, Cond.selects RX0 yX0_signsKnownTo yX0_signsKnownTo, Cond.initialized RX0]
def wsX4_compare_r2 : List Cond := [Cond.code yX0_signsKnownTo cX0_signsKnownTo 4 (some .int), Cond.fieldLink RX0 25 "MiddleClaims$Clauses" "size" "I", Cond.methodLink RX0 36 yX0_sideOf, Cond.instanceMethod yX0_sideOf, Cond.selects RX0 yX0_sideOf yX0_sideOf, Cond.code yX0_sideOf cX0_sideOf 2 (some .int), Cond.fieldLink RX0 13 "MiddleClaims$Clauses" "sides" "[I", Cond.methodLink RX0 29 yX0_has, Cond.instanceMethod yX0_has, Cond.selects RX0 yX0_has yX0_has, Cond.code yX0_has cX0_has 2 (some .boolean), Cond.methodLink RX0 40 yX0_signsOf, Cond.instanceMethod yX0_signsOf, Cond.selects RX0 yX0_signsOf yX0_signsOf, Cond.code yX0_signsOf cX0_signsOf 2 (some .int), Cond.fieldLink RX0 19 "MiddleClaims$Clauses" "signs" "[I", Cond.methodLink RX0 43 yX0_oppositesOf, Cond.instanceMethod yX0_oppositesOf, Cond.selects RX0 yX0_oppositesOf yX0_oppositesOf, Cond.code yX0_oppositesOf cX0_oppositesOf 2 (some .int), Cond.fieldLink RX0 22 "MiddleClaims$Clauses" "opposites" "[I", Cond.methodLink RX2 79 yX0_size, Cond.instanceMethod yX0_size, Cond.selects RX0 yX0_size yX0_size]
def wsX4_compare_r3 : List Cond := [Cond.code yX0_size cX0_size 1 (some .int), Cond.methodLink RX2 82 yX0_sideOf, Cond.methodLink RX2 85 yX0_signsOf, Cond.methodLink RX2 88 yX0_oppositesOf, Cond.methodLink RX2 91 yX2_appendClause, Cond.instanceMethod yX2_appendClause, Cond.selects RX2 yX2_appendClause yX2_appendClause, Cond.code yX2_appendClause cX2_appendClause 7 none, Cond.constantLong RX2 108 (-1), Cond.static yX4_worldsOfLiterals, Cond.code yX4_worldsOfLiterals cX4_worldsOfLiterals 5 (some .long), Cond.methodLink RX4 216 yX4_isIn, Cond.static yX4_isIn, Cond.code yX4_isIn cX4_isIn 2 (some .boolean), Cond.methodLink RX4 220 yX4_worldsOfSign, Cond.static yX4_worldsOfSign, Cond.code yX4_worldsOfSign cX4_worldsOfSign 1 (some .long), Cond.fieldLink RX4 212 "MiddleClaims" "WORLDS_OF_SIGN" "[J", Cond.methodLink RX2 104 yX2_appendStep, Cond.instanceMethod yX2_appendStep, Cond.selects RX2 yX2_appendStep yX2_appendStep, Cond.code yX2_appendStep cX2_appendStep 10 none, Cond.fieldLink RX2 9 "MiddleClaims$Proof" "signs" "[I", Cond.fieldLink RX2 15 "MiddleClaims$Proof" "opposites" "[I"]
def wsX4_compare_r4 : List Cond := [Cond.fieldLink RX2 18 "MiddleClaims$Proof" "firstParents" "[I", Cond.fieldLink RX2 21 "MiddleClaims$Proof" "secondParents" "[I", Cond.fieldLink RX2 24 "MiddleClaims$Proof" "pivots" "[I", Cond.fieldLink RX2 27 "MiddleClaims$Proof" "claims0" "[J", Cond.fieldLink RX2 31 "MiddleClaims$Proof" "claims1" "[J", Cond.fieldLink RX2 34 "MiddleClaims$Proof" "needed" "[Z", Cond.methodLink RX2 95 yX2_resolveAll, Cond.instanceMethod yX2_resolveAll, Cond.selects RX2 yX2_resolveAll yX2_resolveAll, Cond.code yX2_resolveAll cX2_resolveAll 4 none, Cond.methodLink RX2 110 yJ6_bitCount_0f7a4, Cond.static yJ6_bitCount_0f7a4, Cond.initialized RJ6, Cond.code yJ6_bitCount_0f7a4 cJ6_bitCount_0f7a4 1 (some .int), Cond.constant RJ6 265 (1431655765), Cond.constant RJ6 266 (858993459), Cond.constant RJ6 267 (252645135), Cond.methodLink RX2 115 yX2_resolve, Cond.instanceMethod yX2_resolve, Cond.selects RX2 yX2_resolve yX2_resolve, Cond.code yX2_resolve cX2_resolve 13 none, Cond.methodLink RX2 118 yX2_signsOf, Cond.instanceMethod yX2_signsOf, Cond.selects RX2 yX2_signsOf yX2_signsOf]
def wsX4_compare_r5 : List Cond := [Cond.code yX2_signsOf cX2_signsOf 2 (some .int), Cond.methodLink RX2 52 yX2_has, Cond.instanceMethod yX2_has, Cond.selects RX2 yX2_has yX2_has, Cond.code yX2_has cX2_has 2 (some .boolean), Cond.methodLink RX2 119 yX2_oppositesOf, Cond.instanceMethod yX2_oppositesOf, Cond.selects RX2 yX2_oppositesOf yX2_oppositesOf, Cond.code yX2_oppositesOf cX2_oppositesOf 2 (some .int), Cond.methodLink RX2 120 yX2_isStep, Cond.instanceMethod yX2_isStep, Cond.selects RX2 yX2_isStep yX2_isStep, Cond.code yX2_isStep cX2_isStep 3 (some .boolean), Cond.methodLink RX2 63 yX2_partialClaim, Cond.instanceMethod yX2_partialClaim, Cond.selects RX2 yX2_partialClaim yX2_partialClaim, Cond.code yX2_partialClaim cX2_partialClaim 3 (some .long), Cond.methodLink RX2 124 yX2_resolvedClaim, Cond.instanceMethod yX2_resolvedClaim, Cond.selects RX2 yX2_resolvedClaim yX2_resolvedClaim, Cond.code yX2_resolvedClaim cX2_resolvedClaim 9 (some .long), Cond.methodLink RX2 98 yX2_markNeededSteps, Cond.instanceMethod yX2_markNeededSteps, Cond.selects RX2 yX2_markNeededSteps yX2_markNeededSteps]
def wsX4_compare_r6 : List Cond := [Cond.code yX2_markNeededSteps cX2_markNeededSteps 2 none, Cond.methodLink RX2 135 yX2_markNeeded, Cond.instanceMethod yX2_markNeeded, Cond.selects RX2 yX2_markNeeded yX2_markNeeded, Cond.code yX2_markNeeded cX2_markNeeded 2 none, Cond.methodLink RX2 56 yX2_isNeeded, Cond.instanceMethod yX2_isNeeded, Cond.selects RX2 yX2_isNeeded yX2_isNeeded, Cond.code yX2_isNeeded cX2_isNeeded 2 (some .boolean), Cond.methodLink RX2 139 yX2_firstParentOf, Cond.instanceMethod yX2_firstParentOf, Cond.selects RX2 yX2_firstParentOf yX2_firstParentOf, Cond.code yX2_firstParentOf cX2_firstParentOf 2 (some .int), Cond.methodLink RX2 142 yX2_secondParentOf, Cond.instanceMethod yX2_secondParentOf, Cond.selects RX2 yX2_secondParentOf yX2_secondParentOf, Cond.code yX2_secondParentOf cX2_secondParentOf 2 (some .int), Cond.methodLink RX4 98 yX2_hasEmptyClause, Cond.instanceMethod yX2_hasEmptyClause, Cond.selects RX2 yX2_hasEmptyClause yX2_hasEmptyClause, Cond.code yX2_hasEmptyClause cX2_hasEmptyClause 1 (some .boolean), Cond.methodLink RX4 172 yX2_middleClaim, Cond.instanceMethod yX2_middleClaim, Cond.selects RX2 yX2_middleClaim yX2_middleClaim]
def wsX4_compare_r7 : List Cond := [Cond.code yX2_middleClaim cX2_middleClaim 2 (some .long)]
def wsX4_compare : List Cond := .code yX4_compare cX4_compare 6 (some .int) :: ((wsX4_compare_r1 ++ (wsX4_compare_r2 ++ (wsX4_compare_r3 ++ (wsX4_compare_r4 ++ (wsX4_compare_r5 ++ (wsX4_compare_r6 ++ wsX4_compare_r7)))))) ++ wsX40 ++ wsX20 ++ wsX00)
def wsX4_stepsOf : List Cond := .code yX4_stepsOf cX4_stepsOf 1 (some .int) :: ([.methodLink RX4 153 yX2_isKnown, .instanceMethod yX2_isKnown, .selects RX2 yX2_isKnown yX2_isKnown, .initialized RX2, .code yX2_isKnown cX2_isKnown 1 (some .boolean), .fieldLink RX2 45 "MiddleClaims$Proof" "overfull" "Z", .methodLink RX4 211 yX2_size, .instanceMethod yX2_size, .selects RX2 yX2_size yX2_size, .code yX2_size cX2_size 1 (some .int), .fieldLink RX2 41 "MiddleClaims$Proof" "size" "I"] ++ wsX20)
def wsX4_worldsOfMiddleClaim_r1 : List Cond := [Cond.methodLink RX4 98 yX2_hasEmptyClause, Cond.instanceMethod yX2_hasEmptyClause, Cond.selects RX2 yX2_hasEmptyClause yX2_hasEmptyClause, Cond.initialized RX2, Cond.code yX2_hasEmptyClause cX2_hasEmptyClause 1 (some .boolean), Cond.fieldLink RX2 49 "MiddleClaims$Proof" "emptyClauseFound" "Z", Cond.methodLink RX4 172 yX2_middleClaim, Cond.instanceMethod yX2_middleClaim, Cond.selects RX2 yX2_middleClaim yX2_middleClaim, Cond.code yX2_middleClaim cX2_middleClaim 2 (some .long), Cond.fieldLink RX2 41 "MiddleClaims$Proof" "size" "I", Cond.methodLink RX2 63 yX2_partialClaim, Cond.instanceMethod yX2_partialClaim, Cond.selects RX2 yX2_partialClaim yX2_partialClaim, Cond.code yX2_partialClaim cX2_partialClaim 3 (some .long), Cond.fieldLink RX2 27 "MiddleClaims$Proof" "claims0" "[J", Cond.fieldLink RX2 31 "MiddleClaims$Proof" "claims1" "[J", Cond.methodLink RX2 52 yX2_has, Cond.instanceMethod yX2_has, Cond.selects RX2 yX2_has yX2_has, Cond.code yX2_has cX2_has 2 (some .boolean), Cond.methodLink RX4 134 yJ13_bitCount_95d88, Cond.static yJ13_bitCount_95d88, Cond.initialized RJ13]
def wsX4_worldsOfMiddleClaim_r2 : List Cond := [Cond.code yJ13_bitCount_95d88 cJ13_bitCount_95d88 2 (some .int), Cond.constantLong RJ13 314 (6148914691236517205), Cond.constantLong RJ13 316 (3689348814741910323), Cond.constantLong RJ13 318 (1085102592571150095)]
def wsX4_worldsOfMiddleClaim : List Cond := .code yX4_worldsOfMiddleClaim cX4_worldsOfMiddleClaim 2 (some .int) :: ((wsX4_worldsOfMiddleClaim_r1 ++ wsX4_worldsOfMiddleClaim_r2) ++ wsX20)
def wsX4_count_r1 : List Cond := [Cond.fieldLink RX4 14 "MiddleClaims" "clauses" "LMiddleClaims$Clauses;", Cond.fieldLink RX4 31 "MiddleClaims" "history" "LMiddleClaims$History;", Cond.fieldLink RX4 38 "MiddleClaims" "text" "LMiddleClaims$Text;", Cond.methodLink RX4 59 yX0_size, Cond.instanceMethod yX0_size, Cond.selects RX0 yX0_size yX0_size, Cond.initialized RX0, Cond.code yX0_size cX0_size 1 (some .int), Cond.fieldLink RX0 25 "MiddleClaims$Clauses" "size" "I", Cond.methodLink RX4 182 yX0_sharedSigns, Cond.instanceMethod yX0_sharedSigns, Cond.selects RX0 yX0_sharedSigns yX0_sharedSigns, Cond.code yX0_sharedSigns cX0_sharedSigns 1 (some .int), Cond.methodLink RX0 63 yX0_signsKnownTo, Cond.instanceMethod yX0_signsKnownTo, Cond.selects RX0 yX0_signsKnownTo yX0_signsKnownTo, Cond.code yX0_signsKnownTo cX0_signsKnownTo 4 (some .int), Cond.methodLink RX0 36 yX0_sideOf, Cond.instanceMethod yX0_sideOf, Cond.selects RX0 yX0_sideOf yX0_sideOf, Cond.code yX0_sideOf cX0_sideOf 2 (some .int), Cond.fieldLink RX0 13 "MiddleClaims$Clauses" "sides" "[I", Cond.methodLink RX0 29 yX0_has, Cond.instanceMethod yX0_has]
def wsX4_count_r2 : List Cond := [Cond.selects RX0 yX0_has yX0_has, Cond.code yX0_has cX0_has 2 (some .boolean), Cond.methodLink RX0 40 yX0_signsOf, Cond.instanceMethod yX0_signsOf, Cond.selects RX0 yX0_signsOf yX0_signsOf, Cond.code yX0_signsOf cX0_signsOf 2 (some .int), Cond.fieldLink RX0 19 "MiddleClaims$Clauses" "signs" "[I", Cond.methodLink RX0 43 yX0_oppositesOf, Cond.instanceMethod yX0_oppositesOf, Cond.selects RX0 yX0_oppositesOf yX0_oppositesOf, Cond.code yX0_oppositesOf cX0_oppositesOf 2 (some .int), Cond.fieldLink RX0 22 "MiddleClaims$Clauses" "opposites" "[I", Cond.methodLink RX4 179 yX0_clash, Cond.instanceMethod yX0_clash, Cond.selects RX0 yX0_clash yX0_clash, Cond.code yX0_clash cX0_clash 1 (some .boolean), Cond.methodLink RX0 79 yX0_worldsOfBoth, Cond.instanceMethod yX0_worldsOfBoth, Cond.selects RX0 yX0_worldsOfBoth yX0_worldsOfBoth, Cond.code yX0_worldsOfBoth cX0_worldsOfBoth 1 (some .long), Cond.methodLink RX0 76 yX0_worldsOfSide, Cond.instanceMethod yX0_worldsOfSide, Cond.selects RX0 yX0_worldsOfSide yX0_worldsOfSide, Cond.code yX0_worldsOfSide cX0_worldsOfSide 5 (some .long)]
def wsX4_count_r3 : List Cond := [Cond.constantLong RX0 70 (-1), Cond.methodLink RX0 72 yX0_worldsOf, Cond.instanceMethod yX0_worldsOf, Cond.selects RX0 yX0_worldsOf yX0_worldsOf, Cond.code yX0_worldsOf cX0_worldsOf 2 (some .long), Cond.static yX4_worldsOfLiterals, Cond.initialized RX4, Cond.code yX4_worldsOfLiterals cX4_worldsOfLiterals 5 (some .long), Cond.constantLong RX4 189 (-1), Cond.methodLink RX4 216 yX4_isIn, Cond.static yX4_isIn, Cond.code yX4_isIn cX4_isIn 2 (some .boolean), Cond.methodLink RX4 220 yX4_worldsOfSign, Cond.static yX4_worldsOfSign, Cond.code yX4_worldsOfSign cX4_worldsOfSign 1 (some .long), Cond.fieldLink RX4 212 "MiddleClaims" "WORLDS_OF_SIGN" "[J", Cond.methodLink RX4 140 yX4_asNumber, Cond.static yX4_asNumber, Cond.code yX4_asNumber cX4_asNumber 1 (some .int), Cond.methodLink RX4 94 yX4_currentProof, Cond.instanceMethod yX4_currentProof, Cond.selects RX4 yX4_currentProof yX4_currentProof, Cond.code yX4_currentProof cX4_currentProof 1 (some (.object "MiddleClaims$Proof")), Cond.fieldLink RX4 49 "MiddleClaims" "proofStands" "Z"]
def wsX4_count_r4 : List Cond := [Cond.fieldLink RX4 45 "MiddleClaims" "proof" "LMiddleClaims$Proof;", Cond.methodLink RX4 208 yX2_make, Cond.instanceMethod yX2_make, Cond.selects RX2 yX2_make yX2_make, Cond.initialized RX2, Cond.code yX2_make cX2_make 3 none, Cond.fieldLink RX2 41 "MiddleClaims$Proof" "size" "I", Cond.fieldLink RX2 45 "MiddleClaims$Proof" "overfull" "Z", Cond.fieldLink RX2 49 "MiddleClaims$Proof" "emptyClauseFound" "Z", Cond.fieldLink RX2 73 "MiddleClaims$Proof" "knownToSide0" "I", Cond.fieldLink RX2 76 "MiddleClaims$Proof" "knownToSide1" "I", Cond.fieldLink RX2 38 "MiddleClaims$Proof" "stepsWithSigns" "[J", Cond.methodLink RX2 67 yX0_signsKnownTo, Cond.methodLink RX2 79 yX0_size, Cond.methodLink RX2 82 yX0_sideOf, Cond.methodLink RX2 85 yX0_signsOf, Cond.methodLink RX2 88 yX0_oppositesOf, Cond.methodLink RX2 91 yX2_appendClause, Cond.instanceMethod yX2_appendClause, Cond.selects RX2 yX2_appendClause yX2_appendClause, Cond.code yX2_appendClause cX2_appendClause 7 none, Cond.constantLong RX2 108 (-1), Cond.methodLink RX2 104 yX2_appendStep, Cond.instanceMethod yX2_appendStep]
def wsX4_count_r5 : List Cond := [Cond.selects RX2 yX2_appendStep yX2_appendStep, Cond.code yX2_appendStep cX2_appendStep 10 none, Cond.fieldLink RX2 9 "MiddleClaims$Proof" "signs" "[I", Cond.fieldLink RX2 15 "MiddleClaims$Proof" "opposites" "[I", Cond.fieldLink RX2 18 "MiddleClaims$Proof" "firstParents" "[I", Cond.fieldLink RX2 21 "MiddleClaims$Proof" "secondParents" "[I", Cond.fieldLink RX2 24 "MiddleClaims$Proof" "pivots" "[I", Cond.fieldLink RX2 27 "MiddleClaims$Proof" "claims0" "[J", Cond.fieldLink RX2 31 "MiddleClaims$Proof" "claims1" "[J", Cond.fieldLink RX2 34 "MiddleClaims$Proof" "needed" "[Z", Cond.methodLink RX2 95 yX2_resolveAll, Cond.instanceMethod yX2_resolveAll, Cond.selects RX2 yX2_resolveAll yX2_resolveAll, Cond.code yX2_resolveAll cX2_resolveAll 4 none, Cond.methodLink RX2 110 yJ6_bitCount_0f7a4, Cond.static yJ6_bitCount_0f7a4, Cond.initialized RJ6, Cond.code yJ6_bitCount_0f7a4 cJ6_bitCount_0f7a4 1 (some .int), Cond.constant RJ6 265 (1431655765), Cond.constant RJ6 266 (858993459), Cond.constant RJ6 267 (252645135), Cond.methodLink RX2 115 yX2_resolve, Cond.instanceMethod yX2_resolve, Cond.selects RX2 yX2_resolve yX2_resolve]
def wsX4_count_r6 : List Cond := [Cond.code yX2_resolve cX2_resolve 13 none, Cond.methodLink RX2 118 yX2_signsOf, Cond.instanceMethod yX2_signsOf, Cond.selects RX2 yX2_signsOf yX2_signsOf, Cond.code yX2_signsOf cX2_signsOf 2 (some .int), Cond.methodLink RX2 52 yX2_has, Cond.instanceMethod yX2_has, Cond.selects RX2 yX2_has yX2_has, Cond.code yX2_has cX2_has 2 (some .boolean), Cond.methodLink RX2 119 yX2_oppositesOf, Cond.instanceMethod yX2_oppositesOf, Cond.selects RX2 yX2_oppositesOf yX2_oppositesOf, Cond.code yX2_oppositesOf cX2_oppositesOf 2 (some .int), Cond.methodLink RX2 120 yX2_isStep, Cond.instanceMethod yX2_isStep, Cond.selects RX2 yX2_isStep yX2_isStep, Cond.code yX2_isStep cX2_isStep 3 (some .boolean), Cond.methodLink RX2 63 yX2_partialClaim, Cond.instanceMethod yX2_partialClaim, Cond.selects RX2 yX2_partialClaim yX2_partialClaim, Cond.code yX2_partialClaim cX2_partialClaim 3 (some .long), Cond.methodLink RX2 124 yX2_resolvedClaim, Cond.instanceMethod yX2_resolvedClaim, Cond.selects RX2 yX2_resolvedClaim yX2_resolvedClaim]
def wsX4_count_r7 : List Cond := [Cond.code yX2_resolvedClaim cX2_resolvedClaim 9 (some .long), Cond.methodLink RX2 98 yX2_markNeededSteps, Cond.instanceMethod yX2_markNeededSteps, Cond.selects RX2 yX2_markNeededSteps yX2_markNeededSteps, Cond.code yX2_markNeededSteps cX2_markNeededSteps 2 none, Cond.methodLink RX2 135 yX2_markNeeded, Cond.instanceMethod yX2_markNeeded, Cond.selects RX2 yX2_markNeeded yX2_markNeeded, Cond.code yX2_markNeeded cX2_markNeeded 2 none, Cond.methodLink RX2 56 yX2_isNeeded, Cond.instanceMethod yX2_isNeeded, Cond.selects RX2 yX2_isNeeded yX2_isNeeded, Cond.code yX2_isNeeded cX2_isNeeded 2 (some .boolean), Cond.methodLink RX2 139 yX2_firstParentOf, Cond.instanceMethod yX2_firstParentOf, Cond.selects RX2 yX2_firstParentOf yX2_firstParentOf, Cond.code yX2_firstParentOf cX2_firstParentOf 2 (some .int), Cond.methodLink RX2 142 yX2_secondParentOf, Cond.instanceMethod yX2_secondParentOf, Cond.selects RX2 yX2_secondParentOf yX2_secondParentOf, Cond.code yX2_secondParentOf cX2_secondParentOf 2 (some .int), Cond.methodLink RX4 193 yX4_stepsOf, Cond.static yX4_stepsOf, Cond.code yX4_stepsOf cX4_stepsOf 1 (some .int)]
def wsX4_count_r8 : List Cond := [Cond.methodLink RX4 153 yX2_isKnown, Cond.instanceMethod yX2_isKnown, Cond.selects RX2 yX2_isKnown yX2_isKnown, Cond.code yX2_isKnown cX2_isKnown 1 (some .boolean), Cond.methodLink RX4 211 yX2_size, Cond.instanceMethod yX2_size, Cond.selects RX2 yX2_size yX2_size, Cond.code yX2_size cX2_size 1 (some .int), Cond.methodLink RX4 102 yX2_neededAmong, Cond.instanceMethod yX2_neededAmong, Cond.selects RX2 yX2_neededAmong yX2_neededAmong, Cond.code yX2_neededAmong cX2_neededAmong 4 (some .int), Cond.methodLink RX4 98 yX2_hasEmptyClause, Cond.instanceMethod yX2_hasEmptyClause, Cond.selects RX2 yX2_hasEmptyClause yX2_hasEmptyClause, Cond.code yX2_hasEmptyClause cX2_hasEmptyClause 1 (some .boolean), Cond.methodLink RX4 197 yX4_worldsOfMiddleClaim, Cond.static yX4_worldsOfMiddleClaim, Cond.code yX4_worldsOfMiddleClaim cX4_worldsOfMiddleClaim 2 (some .int), Cond.methodLink RX4 172 yX2_middleClaim, Cond.instanceMethod yX2_middleClaim, Cond.selects RX2 yX2_middleClaim yX2_middleClaim, Cond.code yX2_middleClaim cX2_middleClaim 2 (some .long), Cond.methodLink RX4 134 yJ13_bitCount_95d88]
def wsX4_count_r9 : List Cond := [Cond.static yJ13_bitCount_95d88, Cond.initialized RJ13, Cond.code yJ13_bitCount_95d88 cJ13_bitCount_95d88 2 (some .int), Cond.constantLong RJ13 314 (6148914691236517205), Cond.constantLong RJ13 316 (3689348814741910323), Cond.constantLong RJ13 318 (1085102592571150095), Cond.methodLink RX4 201 yX0_worldsOfBoth, Cond.methodLink RX4 117 yX1_size, Cond.instanceMethod yX1_size, Cond.selects RX1 yX1_size yX1_size, Cond.initialized RX1, Cond.code yX1_size cX1_size 1 (some .int), Cond.fieldLink RX1 20 "MiddleClaims$History" "size" "I", Cond.methodLink RX4 111 yX3_length, Cond.instanceMethod yX3_length, Cond.selects RX3 yX3_length yX3_length, Cond.initialized RX3, Cond.code yX3_length cX3_length 1 (some .int), Cond.fieldLink RX3 15 "MiddleClaims$Text" "length" "I"]
def wsX4_count : List Cond := .code yX4_count cX4_count 2 (some .int) :: ((wsX4_count_r1 ++ (wsX4_count_r2 ++ (wsX4_count_r3 ++ (wsX4_count_r4 ++ (wsX4_count_r5 ++ (wsX4_count_r6 ++ (wsX4_count_r7 ++ (wsX4_count_r8 ++ wsX4_count_r9)))))))) ++ wsX40 ++ wsX00 ++ wsX20 ++ wsX10 ++ wsX30)
def wsX5_init : List Cond := .code yX5_init cX5_init 1 none :: ([.methodLink RX5 1 objectInit, .instanceMethod objectInit, .code objectInit ⟨#[0xb1]⟩ 1 none, .arrayClass .int, .fieldLink RX5 7 "MiddleClaimsModel" "s" "[I", .fieldLink RX5 13 "MiddleClaimsModel" "before" "[I", .fieldLink RX5 16 "MiddleClaimsModel" "kept" "[I", .fieldLink RX5 19 "MiddleClaimsModel" "text" "[I", .fieldLink RX5 22 "MiddleClaimsModel" "plains" "[I", .fieldLink RX5 25 "MiddleClaimsModel" "others" "[I", .fieldLink RX5 28 "MiddleClaimsModel" "firsts" "[I", .fieldLink RX5 31 "MiddleClaimsModel" "seconds" "[I", .fieldLink RX5 34 "MiddleClaimsModel" "pivots" "[I", .arrayClass .boolean, .fieldLink RX5 37 "MiddleClaimsModel" "isNeeded" "[Z", .fieldLink RX5 41 "MiddleClaimsModel" "isStep" "[Z", .arrayClass .long, .fieldLink RX5 44 "MiddleClaimsModel" "claims" "[J"] ++ wsX50)
def wsX5_in : List Cond := .code yX5_in cX5_in 3 (some .boolean) :: ([])
def wsX5_isClause : List Cond := .code yX5_isClause cX5_isClause 2 (some .boolean) :: ([.fieldLink RX5 7 "MiddleClaimsModel" "s" "[I", .methodLink RX5 48 yX5_in, .static yX5_in, .initialized RX5, .code yX5_in cX5_in 3 (some .boolean)] ++ wsX50)
def wsX5_know : List Cond := .code yX5_know cX5_know 2 none :: ([.fieldLink RX5 52 "MiddleClaimsModel" "known" "I", .fieldLink RX5 13 "MiddleClaimsModel" "before" "[I", .fieldLink RX5 7 "MiddleClaimsModel" "s" "[I"] ++ wsX50)
def wsX5_bitsOf : List Cond := .code yX5_bitsOf cX5_bitsOf 4 (some .int) :: ([])
def wsX5_worldsOf : List Cond := .code yX5_worldsOf cX5_worldsOf 4 (some .long) :: ([])
def wsX5_truths : List Cond := .code yX5_truths cX5_truths 6 (some .long) :: ([])
def wsX5_worldsOfClause : List Cond := .code yX5_worldsOfClause cX5_worldsOfClause 2 (some .long) :: ([.fieldLink RX5 7 "MiddleClaimsModel" "s" "[I", .methodLink RX5 56 yX5_truths, .static yX5_truths, .initialized RX5, .code yX5_truths cX5_truths 6 (some .long)] ++ wsX50)
def wsX5_worldsOfSide : List Cond := .code yX5_worldsOfSide cX5_worldsOfSide 5 (some .long) :: ([.constantLong RX5 60 (-1), .fieldLink RX5 7 "MiddleClaimsModel" "s" "[I", .methodLink RX5 62 yX5_worldsOfClause, .instanceMethod yX5_worldsOfClause, .selects RX5 yX5_worldsOfClause yX5_worldsOfClause, .initialized RX5, .code yX5_worldsOfClause cX5_worldsOfClause 2 (some .long), .methodLink RX5 56 yX5_truths, .static yX5_truths, .code yX5_truths cX5_truths 6 (some .long)] ++ wsX50)
def wsX5_knownTo : List Cond := .code yX5_knownTo cX5_knownTo 4 (some .int) :: ([.fieldLink RX5 7 "MiddleClaimsModel" "s" "[I"] ++ wsX50)
def wsX5_shared : List Cond := .code yX5_shared cX5_shared 1 (some .int) :: ([.methodLink RX5 66 yX5_knownTo, .instanceMethod yX5_knownTo, .selects RX5 yX5_knownTo yX5_knownTo, .initialized RX5, .code yX5_knownTo cX5_knownTo 4 (some .int), .fieldLink RX5 7 "MiddleClaimsModel" "s" "[I"] ++ wsX50)
def wsX5_clash : List Cond := .code yX5_clash cX5_clash 1 (some .boolean) :: ([.methodLink RX5 70 yX5_worldsOfSide, .instanceMethod yX5_worldsOfSide, .selects RX5 yX5_worldsOfSide yX5_worldsOfSide, .initialized RX5, .code yX5_worldsOfSide cX5_worldsOfSide 5 (some .long), .constantLong RX5 60 (-1), .fieldLink RX5 7 "MiddleClaimsModel" "s" "[I", .methodLink RX5 62 yX5_worldsOfClause, .instanceMethod yX5_worldsOfClause, .selects RX5 yX5_worldsOfClause yX5_worldsOfClause, .code yX5_worldsOfClause cX5_worldsOfClause 2 (some .long), .methodLink RX5 56 yX5_truths, .static yX5_truths, .code yX5_truths cX5_truths 6 (some .long)] ++ wsX50)
def wsX5_spread : List Cond := .code yX5_spread cX5_spread 8 (some .long) :: ([.methodLink RX5 73 yX5_shared, .instanceMethod yX5_shared, .selects RX5 yX5_shared yX5_shared, .initialized RX5, .code yX5_shared cX5_shared 1 (some .int), .methodLink RX5 66 yX5_knownTo, .instanceMethod yX5_knownTo, .selects RX5 yX5_knownTo yX5_knownTo, .code yX5_knownTo cX5_knownTo 4 (some .int), .fieldLink RX5 7 "MiddleClaimsModel" "s" "[I"] ++ wsX50)
def wsX5_addStep : List Cond := .code yX5_addStep cX5_addStep 6 none :: ([.fieldLink RX5 22 "MiddleClaimsModel" "plains" "[I", .fieldLink RX5 77 "MiddleClaimsModel" "steps" "I", .fieldLink RX5 25 "MiddleClaimsModel" "others" "[I", .fieldLink RX5 28 "MiddleClaimsModel" "firsts" "[I", .fieldLink RX5 31 "MiddleClaimsModel" "seconds" "[I", .fieldLink RX5 34 "MiddleClaimsModel" "pivots" "[I", .fieldLink RX5 37 "MiddleClaimsModel" "isNeeded" "[Z", .fieldLink RX5 41 "MiddleClaimsModel" "isStep" "[Z"] ++ wsX50)
def wsX5_onlySign : List Cond := .code yX5_onlySign cX5_onlySign 3 (some .int) :: ([])
def wsX5_prove : List Cond := .code yX5_prove cX5_prove 7 none :: ([.fieldLink RX5 41 "MiddleClaimsModel" "isStep" "[Z", .fieldLink RX5 77 "MiddleClaimsModel" "steps" "I", .fieldLink RX5 80 "MiddleClaimsModel" "empty" "I", .fieldLink RX5 83 "MiddleClaimsModel" "isKnown" "Z", .fieldLink RX5 7 "MiddleClaimsModel" "s" "[I", .fieldLink RX5 22 "MiddleClaimsModel" "plains" "[I", .fieldLink RX5 25 "MiddleClaimsModel" "others" "[I", .fieldLink RX5 37 "MiddleClaimsModel" "isNeeded" "[Z", .fieldLink RX5 28 "MiddleClaimsModel" "firsts" "[I", .fieldLink RX5 31 "MiddleClaimsModel" "seconds" "[I", .methodLink RX5 87 yX5_addStep, .instanceMethod yX5_addStep, .selects RX5 yX5_addStep yX5_addStep, .initialized RX5, .code yX5_addStep cX5_addStep 6 none, .fieldLink RX5 34 "MiddleClaimsModel" "pivots" "[I", .methodLink RX5 91 yX5_onlySign, .static yX5_onlySign, .code yX5_onlySign cX5_onlySign 3 (some .int)] ++ wsX50)
def wsX5_isProved : List Cond := .code yX5_isProved cX5_isProved 1 (some .boolean) :: ([.fieldLink RX5 83 "MiddleClaimsModel" "isKnown" "Z", .fieldLink RX5 80 "MiddleClaimsModel" "empty" "I"] ++ wsX50)
def wsX5_claim : List Cond := .code yX5_claim cX5_claim 21 none :: ([.fieldLink RX5 77 "MiddleClaimsModel" "steps" "I", .fieldLink RX5 7 "MiddleClaimsModel" "s" "[I", .fieldLink RX5 44 "MiddleClaimsModel" "claims" "[J", .constantLong RX5 60 (-1), .fieldLink RX5 22 "MiddleClaimsModel" "plains" "[I", .fieldLink RX5 25 "MiddleClaimsModel" "others" "[I", .fieldLink RX5 34 "MiddleClaimsModel" "pivots" "[I", .fieldLink RX5 28 "MiddleClaimsModel" "firsts" "[I", .fieldLink RX5 31 "MiddleClaimsModel" "seconds" "[I", .methodLink RX5 66 yX5_knownTo, .instanceMethod yX5_knownTo, .selects RX5 yX5_knownTo yX5_knownTo, .initialized RX5, .code yX5_knownTo cX5_knownTo 4 (some .int), .methodLink RX5 56 yX5_truths, .static yX5_truths, .code yX5_truths cX5_truths 6 (some .long), .methodLink RX5 94 yX5_worldsOf, .static yX5_worldsOf, .code yX5_worldsOf cX5_worldsOf 4 (some .long)] ++ wsX50)
def wsX5_middleOf_r1 : List Cond := [Cond.fieldLink RX5 44 "MiddleClaimsModel" "claims" "[J", Cond.fieldLink RX5 80 "MiddleClaimsModel" "empty" "I", Cond.methodLink RX5 97 yX5_claim, Cond.instanceMethod yX5_claim, Cond.selects RX5 yX5_claim yX5_claim, Cond.initialized RX5, Cond.code yX5_claim cX5_claim 21 none, Cond.fieldLink RX5 77 "MiddleClaimsModel" "steps" "I", Cond.fieldLink RX5 7 "MiddleClaimsModel" "s" "[I", Cond.constantLong RX5 60 (-1), Cond.fieldLink RX5 22 "MiddleClaimsModel" "plains" "[I", Cond.fieldLink RX5 25 "MiddleClaimsModel" "others" "[I", Cond.fieldLink RX5 34 "MiddleClaimsModel" "pivots" "[I", Cond.fieldLink RX5 28 "MiddleClaimsModel" "firsts" "[I", Cond.fieldLink RX5 31 "MiddleClaimsModel" "seconds" "[I", Cond.methodLink RX5 66 yX5_knownTo, Cond.instanceMethod yX5_knownTo, Cond.selects RX5 yX5_knownTo yX5_knownTo, Cond.code yX5_knownTo cX5_knownTo 4 (some .int), Cond.methodLink RX5 56 yX5_truths, Cond.static yX5_truths, Cond.code yX5_truths cX5_truths 6 (some .long), Cond.methodLink RX5 94 yX5_worldsOf, Cond.static yX5_worldsOf]
def wsX5_middleOf_r2 : List Cond := [Cond.code yX5_worldsOf cX5_worldsOf 4 (some .long)]
def wsX5_middleOf : List Cond := .code yX5_middleOf cX5_middleOf 2 (some .long) :: ((wsX5_middleOf_r1 ++ wsX5_middleOf_r2) ++ wsX50)
def wsX5_put : List Cond := .code yX5_put cX5_put 4 none :: ([.fieldLink RX5 7 "MiddleClaimsModel" "s" "[I"] ++ wsX50)
def wsX5_add : List Cond := .code yX5_add cX5_add 4 (some .int) :: ([.fieldLink RX5 7 "MiddleClaimsModel" "s" "[I", .methodLink RX5 48 yX5_in, .static yX5_in, .initialized RX5, .code yX5_in cX5_in 3 (some .boolean), .methodLink RX5 101 yX5_know, .instanceMethod yX5_know, .selects RX5 yX5_know yX5_know, .code yX5_know cX5_know 2 none, .fieldLink RX5 52 "MiddleClaimsModel" "known" "I", .fieldLink RX5 13 "MiddleClaimsModel" "before" "[I", .methodLink RX5 104 yX5_put, .instanceMethod yX5_put, .selects RX5 yX5_put yX5_put, .code yX5_put cX5_put 4 none] ++ wsX50)
def wsX5_sign : List Cond := .code yX5_sign cX5_sign 4 (some .int) :: ([.fieldLink RX5 108 "MiddleClaimsModel" "at" "I", .fieldLink RX5 111 "MiddleClaimsModel" "typed" "I", .fieldLink RX5 19 "MiddleClaimsModel" "text" "[I", .fieldLink RX5 114 "MiddleClaimsModel" "isWrong" "Z", .methodLink RX5 48 yX5_in, .static yX5_in, .initialized RX5, .code yX5_in cX5_in 3 (some .boolean)] ++ wsX50)
def wsX5_isNext : List Cond := .code yX5_isNext cX5_isNext 2 (some .boolean) :: ([.fieldLink RX5 114 "MiddleClaimsModel" "isWrong" "Z", .fieldLink RX5 108 "MiddleClaimsModel" "at" "I", .fieldLink RX5 111 "MiddleClaimsModel" "typed" "I", .fieldLink RX5 19 "MiddleClaimsModel" "text" "[I"] ++ wsX50)
def wsX5_isLetter : List Cond := .code yX5_isLetter cX5_isLetter 2 (some .boolean) :: ([.fieldLink RX5 114 "MiddleClaimsModel" "isWrong" "Z", .fieldLink RX5 108 "MiddleClaimsModel" "at" "I", .fieldLink RX5 111 "MiddleClaimsModel" "typed" "I", .fieldLink RX5 19 "MiddleClaimsModel" "text" "[I", .methodLink RX5 48 yX5_in, .static yX5_in, .initialized RX5, .code yX5_in cX5_in 3 (some .boolean)] ++ wsX50)
def wsX5_read : List Cond := .code yX5_read cX5_read 6 none :: ([.fieldLink RX5 117 "MiddleClaimsModel" "plain" "I", .fieldLink RX5 120 "MiddleClaimsModel" "other" "I", .fieldLink RX5 114 "MiddleClaimsModel" "isWrong" "Z", .methodLink RX5 123 yX5_isNext, .instanceMethod yX5_isNext, .selects RX5 yX5_isNext yX5_isNext, .initialized RX5, .code yX5_isNext cX5_isNext 2 (some .boolean), .fieldLink RX5 108 "MiddleClaimsModel" "at" "I", .fieldLink RX5 111 "MiddleClaimsModel" "typed" "I", .fieldLink RX5 19 "MiddleClaimsModel" "text" "[I", .methodLink RX5 127 yX5_sign, .instanceMethod yX5_sign, .selects RX5 yX5_sign yX5_sign, .code yX5_sign cX5_sign 4 (some .int), .methodLink RX5 48 yX5_in, .static yX5_in, .code yX5_in cX5_in 3 (some .boolean), .methodLink RX5 131 yX5_isLetter, .instanceMethod yX5_isLetter, .selects RX5 yX5_isLetter yX5_isLetter, .code yX5_isLetter cX5_isLetter 2 (some .boolean)] ++ wsX50)
def wsX5_go_r1 : List Cond := [Cond.fieldLink RX5 108 "MiddleClaimsModel" "at" "I", Cond.fieldLink RX5 114 "MiddleClaimsModel" "isWrong" "Z", Cond.fieldLink RX5 117 "MiddleClaimsModel" "plain" "I", Cond.fieldLink RX5 120 "MiddleClaimsModel" "other" "I", Cond.fieldLink RX5 111 "MiddleClaimsModel" "typed" "I", Cond.methodLink RX5 134 yX5_read, Cond.instanceMethod yX5_read, Cond.selects RX5 yX5_read yX5_read, Cond.initialized RX5, Cond.code yX5_read cX5_read 6 none, Cond.methodLink RX5 123 yX5_isNext, Cond.instanceMethod yX5_isNext, Cond.selects RX5 yX5_isNext yX5_isNext, Cond.code yX5_isNext cX5_isNext 2 (some .boolean), Cond.fieldLink RX5 19 "MiddleClaimsModel" "text" "[I", Cond.methodLink RX5 127 yX5_sign, Cond.instanceMethod yX5_sign, Cond.selects RX5 yX5_sign yX5_sign, Cond.code yX5_sign cX5_sign 4 (some .int), Cond.methodLink RX5 48 yX5_in, Cond.static yX5_in, Cond.code yX5_in cX5_in 3 (some .boolean), Cond.methodLink RX5 131 yX5_isLetter, Cond.instanceMethod yX5_isLetter]
def wsX5_go_r2 : List Cond := [Cond.selects RX5 yX5_isLetter yX5_isLetter, Cond.code yX5_isLetter cX5_isLetter 2 (some .boolean), Cond.methodLink RX5 104 yX5_put, Cond.instanceMethod yX5_put, Cond.selects RX5 yX5_put yX5_put, Cond.code yX5_put cX5_put 4 none, Cond.fieldLink RX5 7 "MiddleClaimsModel" "s" "[I"]
def wsX5_go : List Cond := .code yX5_go cX5_go 7 (some .int) :: ((wsX5_go_r1 ++ wsX5_go_r2) ++ wsX50)
def wsX5_addAll_r1 : List Cond := [Cond.fieldLink RX5 114 "MiddleClaimsModel" "isWrong" "Z", Cond.fieldLink RX5 108 "MiddleClaimsModel" "at" "I", Cond.fieldLink RX5 7 "MiddleClaimsModel" "s" "[I", Cond.methodLink RX5 137 yX5_go, Cond.instanceMethod yX5_go, Cond.selects RX5 yX5_go yX5_go, Cond.initialized RX5, Cond.code yX5_go cX5_go 7 (some .int), Cond.fieldLink RX5 117 "MiddleClaimsModel" "plain" "I", Cond.fieldLink RX5 120 "MiddleClaimsModel" "other" "I", Cond.fieldLink RX5 111 "MiddleClaimsModel" "typed" "I", Cond.methodLink RX5 134 yX5_read, Cond.instanceMethod yX5_read, Cond.selects RX5 yX5_read yX5_read, Cond.code yX5_read cX5_read 6 none, Cond.methodLink RX5 123 yX5_isNext, Cond.instanceMethod yX5_isNext, Cond.selects RX5 yX5_isNext yX5_isNext, Cond.code yX5_isNext cX5_isNext 2 (some .boolean), Cond.fieldLink RX5 19 "MiddleClaimsModel" "text" "[I", Cond.methodLink RX5 127 yX5_sign, Cond.instanceMethod yX5_sign, Cond.selects RX5 yX5_sign yX5_sign, Cond.code yX5_sign cX5_sign 4 (some .int)]
def wsX5_addAll_r2 : List Cond := [Cond.methodLink RX5 48 yX5_in, Cond.static yX5_in, Cond.code yX5_in cX5_in 3 (some .boolean), Cond.methodLink RX5 131 yX5_isLetter, Cond.instanceMethod yX5_isLetter, Cond.selects RX5 yX5_isLetter yX5_isLetter, Cond.code yX5_isLetter cX5_isLetter 2 (some .boolean), Cond.methodLink RX5 104 yX5_put, Cond.instanceMethod yX5_put, Cond.selects RX5 yX5_put yX5_put, Cond.code yX5_put cX5_put 4 none, Cond.methodLink RX5 101 yX5_know, Cond.instanceMethod yX5_know, Cond.selects RX5 yX5_know yX5_know, Cond.code yX5_know cX5_know 2 none, Cond.fieldLink RX5 52 "MiddleClaimsModel" "known" "I", Cond.fieldLink RX5 13 "MiddleClaimsModel" "before" "[I"]
def wsX5_addAll : List Cond := .code yX5_addAll cX5_addAll 2 (some .int) :: ((wsX5_addAll_r1 ++ wsX5_addAll_r2) ++ wsX50)
def wsX5_drop : List Cond := .code yX5_drop cX5_drop 3 none :: ([.fieldLink RX5 7 "MiddleClaimsModel" "s" "[I"] ++ wsX50)
def wsX5_remove : List Cond := .code yX5_remove cX5_remove 2 (some .int) :: ([.fieldLink RX5 7 "MiddleClaimsModel" "s" "[I", .methodLink RX5 141 yX5_isClause, .instanceMethod yX5_isClause, .selects RX5 yX5_isClause yX5_isClause, .initialized RX5, .code yX5_isClause cX5_isClause 2 (some .boolean), .methodLink RX5 48 yX5_in, .static yX5_in, .code yX5_in cX5_in 3 (some .boolean), .methodLink RX5 101 yX5_know, .instanceMethod yX5_know, .selects RX5 yX5_know yX5_know, .code yX5_know cX5_know 2 none, .fieldLink RX5 52 "MiddleClaimsModel" "known" "I", .fieldLink RX5 13 "MiddleClaimsModel" "before" "[I", .methodLink RX5 144 yX5_drop, .instanceMethod yX5_drop, .selects RX5 yX5_drop yX5_drop, .code yX5_drop cX5_drop 3 none] ++ wsX50)
def wsX5_move : List Cond := .code yX5_move cX5_move 2 (some .int) :: ([.fieldLink RX5 7 "MiddleClaimsModel" "s" "[I", .methodLink RX5 141 yX5_isClause, .instanceMethod yX5_isClause, .selects RX5 yX5_isClause yX5_isClause, .initialized RX5, .code yX5_isClause cX5_isClause 2 (some .boolean), .methodLink RX5 48 yX5_in, .static yX5_in, .code yX5_in cX5_in 3 (some .boolean), .methodLink RX5 101 yX5_know, .instanceMethod yX5_know, .selects RX5 yX5_know yX5_know, .code yX5_know cX5_know 2 none, .fieldLink RX5 52 "MiddleClaimsModel" "known" "I", .fieldLink RX5 13 "MiddleClaimsModel" "before" "[I"] ++ wsX50)
def wsX5_clausesOf : List Cond := .code yX5_clausesOf cX5_clausesOf 4 (some .int) :: ([.fieldLink RX5 7 "MiddleClaimsModel" "s" "[I"] ++ wsX50)
def wsX5_exchange : List Cond := .code yX5_exchange cX5_exchange 2 (some .int) :: ([.fieldLink RX5 7 "MiddleClaimsModel" "s" "[I", .methodLink RX5 101 yX5_know, .instanceMethod yX5_know, .selects RX5 yX5_know yX5_know, .initialized RX5, .code yX5_know cX5_know 2 none, .fieldLink RX5 52 "MiddleClaimsModel" "known" "I", .fieldLink RX5 13 "MiddleClaimsModel" "before" "[I", .methodLink RX5 147 yX5_clausesOf, .instanceMethod yX5_clausesOf, .selects RX5 yX5_clausesOf yX5_clausesOf, .code yX5_clausesOf cX5_clausesOf 4 (some .int)] ++ wsX50)
def wsX5_shrink_r1 : List Cond := [Cond.fieldLink RX5 7 "MiddleClaimsModel" "s" "[I", Cond.fieldLink RX5 37 "MiddleClaimsModel" "isNeeded" "[Z", Cond.methodLink RX5 150 yX5_prove, Cond.instanceMethod yX5_prove, Cond.selects RX5 yX5_prove yX5_prove, Cond.initialized RX5, Cond.code yX5_prove cX5_prove 7 none, Cond.fieldLink RX5 41 "MiddleClaimsModel" "isStep" "[Z", Cond.fieldLink RX5 77 "MiddleClaimsModel" "steps" "I", Cond.fieldLink RX5 80 "MiddleClaimsModel" "empty" "I", Cond.fieldLink RX5 83 "MiddleClaimsModel" "isKnown" "Z", Cond.fieldLink RX5 22 "MiddleClaimsModel" "plains" "[I", Cond.fieldLink RX5 25 "MiddleClaimsModel" "others" "[I", Cond.fieldLink RX5 28 "MiddleClaimsModel" "firsts" "[I", Cond.fieldLink RX5 31 "MiddleClaimsModel" "seconds" "[I", Cond.methodLink RX5 87 yX5_addStep, Cond.instanceMethod yX5_addStep, Cond.selects RX5 yX5_addStep yX5_addStep, Cond.code yX5_addStep cX5_addStep 6 none, Cond.fieldLink RX5 34 "MiddleClaimsModel" "pivots" "[I", Cond.methodLink RX5 91 yX5_onlySign, Cond.static yX5_onlySign, Cond.code yX5_onlySign cX5_onlySign 3 (some .int), Cond.methodLink RX5 153 yX5_isProved]
def wsX5_shrink_r2 : List Cond := [Cond.instanceMethod yX5_isProved, Cond.selects RX5 yX5_isProved yX5_isProved, Cond.code yX5_isProved cX5_isProved 1 (some .boolean), Cond.methodLink RX5 101 yX5_know, Cond.instanceMethod yX5_know, Cond.selects RX5 yX5_know yX5_know, Cond.code yX5_know cX5_know 2 none, Cond.fieldLink RX5 52 "MiddleClaimsModel" "known" "I", Cond.fieldLink RX5 13 "MiddleClaimsModel" "before" "[I", Cond.methodLink RX5 144 yX5_drop, Cond.instanceMethod yX5_drop, Cond.selects RX5 yX5_drop yX5_drop, Cond.code yX5_drop cX5_drop 3 none]
def wsX5_shrink : List Cond := .code yX5_shrink cX5_shrink 3 (some .int) :: ((wsX5_shrink_r1 ++ wsX5_shrink_r2) ++ wsX50)
def wsX5_type : List Cond := .code yX5_type cX5_type 2 (some .int) :: ([.fieldLink RX5 111 "MiddleClaimsModel" "typed" "I", .fieldLink RX5 19 "MiddleClaimsModel" "text" "[I"] ++ wsX50)
def wsX5_clearText : List Cond := .code yX5_clearText cX5_clearText 2 (some .int) :: ([.fieldLink RX5 111 "MiddleClaimsModel" "typed" "I"] ++ wsX50)
def wsX5_undo : List Cond := .code yX5_undo cX5_undo 2 (some .int) :: ([.fieldLink RX5 52 "MiddleClaimsModel" "known" "I", .fieldLink RX5 7 "MiddleClaimsModel" "s" "[I", .fieldLink RX5 13 "MiddleClaimsModel" "before" "[I"] ++ wsX50)
def wsX5_keep : List Cond := .code yX5_keep cX5_keep 2 (some .int) :: ([.fieldLink RX5 16 "MiddleClaimsModel" "kept" "[I", .fieldLink RX5 7 "MiddleClaimsModel" "s" "[I", .fieldLink RX5 157 "MiddleClaimsModel" "isKept" "Z"] ++ wsX50)
def wsX5_restore : List Cond := .code yX5_restore cX5_restore 2 (some .int) :: ([.fieldLink RX5 157 "MiddleClaimsModel" "isKept" "Z", .fieldLink RX5 7 "MiddleClaimsModel" "s" "[I", .fieldLink RX5 16 "MiddleClaimsModel" "kept" "[I", .methodLink RX5 101 yX5_know, .instanceMethod yX5_know, .selects RX5 yX5_know yX5_know, .initialized RX5, .code yX5_know cX5_know 2 none, .fieldLink RX5 52 "MiddleClaimsModel" "known" "I", .fieldLink RX5 13 "MiddleClaimsModel" "before" "[I"] ++ wsX50)
def wsX5_clause_r1 : List Cond := [Cond.fieldLink RX5 7 "MiddleClaimsModel" "s" "[I", Cond.fieldLink RX5 37 "MiddleClaimsModel" "isNeeded" "[Z", Cond.methodLink RX5 141 yX5_isClause, Cond.instanceMethod yX5_isClause, Cond.selects RX5 yX5_isClause yX5_isClause, Cond.initialized RX5, Cond.code yX5_isClause cX5_isClause 2 (some .boolean), Cond.methodLink RX5 48 yX5_in, Cond.static yX5_in, Cond.code yX5_in cX5_in 3 (some .boolean), Cond.methodLink RX5 62 yX5_worldsOfClause, Cond.instanceMethod yX5_worldsOfClause, Cond.selects RX5 yX5_worldsOfClause yX5_worldsOfClause, Cond.code yX5_worldsOfClause cX5_worldsOfClause 2 (some .long), Cond.methodLink RX5 56 yX5_truths, Cond.static yX5_truths, Cond.code yX5_truths cX5_truths 6 (some .long), Cond.methodLink RX5 160 yX5_bitsOf, Cond.static yX5_bitsOf, Cond.code yX5_bitsOf cX5_bitsOf 4 (some .int), Cond.methodLink RX5 150 yX5_prove, Cond.instanceMethod yX5_prove, Cond.selects RX5 yX5_prove yX5_prove, Cond.code yX5_prove cX5_prove 7 none]
def wsX5_clause_r2 : List Cond := [Cond.fieldLink RX5 41 "MiddleClaimsModel" "isStep" "[Z", Cond.fieldLink RX5 77 "MiddleClaimsModel" "steps" "I", Cond.fieldLink RX5 80 "MiddleClaimsModel" "empty" "I", Cond.fieldLink RX5 83 "MiddleClaimsModel" "isKnown" "Z", Cond.fieldLink RX5 22 "MiddleClaimsModel" "plains" "[I", Cond.fieldLink RX5 25 "MiddleClaimsModel" "others" "[I", Cond.fieldLink RX5 28 "MiddleClaimsModel" "firsts" "[I", Cond.fieldLink RX5 31 "MiddleClaimsModel" "seconds" "[I", Cond.methodLink RX5 87 yX5_addStep, Cond.instanceMethod yX5_addStep, Cond.selects RX5 yX5_addStep yX5_addStep, Cond.code yX5_addStep cX5_addStep 6 none, Cond.fieldLink RX5 34 "MiddleClaimsModel" "pivots" "[I", Cond.methodLink RX5 91 yX5_onlySign, Cond.static yX5_onlySign, Cond.code yX5_onlySign cX5_onlySign 3 (some .int), Cond.methodLink RX5 153 yX5_isProved, Cond.instanceMethod yX5_isProved, Cond.selects RX5 yX5_isProved yX5_isProved, Cond.code yX5_isProved cX5_isProved 1 (some .boolean)]
def wsX5_clause : List Cond := .code yX5_clause cX5_clause 3 (some .int) :: ((wsX5_clause_r1 ++ wsX5_clause_r2) ++ wsX50)
def wsX5_lowest : List Cond := .code yX5_lowest cX5_lowest 3 (some .int) :: ([])
def wsX5_side_r1 : List Cond := [Cond.methodLink RX5 48 yX5_in, Cond.static yX5_in, Cond.initialized RX5, Cond.code yX5_in cX5_in 3 (some .boolean), Cond.methodLink RX5 147 yX5_clausesOf, Cond.instanceMethod yX5_clausesOf, Cond.selects RX5 yX5_clausesOf yX5_clausesOf, Cond.code yX5_clausesOf cX5_clausesOf 4 (some .int), Cond.fieldLink RX5 7 "MiddleClaimsModel" "s" "[I", Cond.methodLink RX5 66 yX5_knownTo, Cond.instanceMethod yX5_knownTo, Cond.selects RX5 yX5_knownTo yX5_knownTo, Cond.code yX5_knownTo cX5_knownTo 4 (some .int), Cond.methodLink RX5 70 yX5_worldsOfSide, Cond.instanceMethod yX5_worldsOfSide, Cond.selects RX5 yX5_worldsOfSide yX5_worldsOfSide, Cond.code yX5_worldsOfSide cX5_worldsOfSide 5 (some .long), Cond.constantLong RX5 60 (-1), Cond.methodLink RX5 62 yX5_worldsOfClause, Cond.instanceMethod yX5_worldsOfClause, Cond.selects RX5 yX5_worldsOfClause yX5_worldsOfClause, Cond.code yX5_worldsOfClause cX5_worldsOfClause 2 (some .long), Cond.methodLink RX5 56 yX5_truths, Cond.static yX5_truths]
def wsX5_side_r2 : List Cond := [Cond.code yX5_truths cX5_truths 6 (some .long), Cond.methodLink RX5 160 yX5_bitsOf, Cond.static yX5_bitsOf, Cond.code yX5_bitsOf cX5_bitsOf 4 (some .int), Cond.methodLink RX5 164 yX5_lowest, Cond.static yX5_lowest, Cond.code yX5_lowest cX5_lowest 3 (some .int)]
def wsX5_side : List Cond := .code yX5_side cX5_side 3 (some .int) :: ((wsX5_side_r1 ++ wsX5_side_r2) ++ wsX50)
def wsX5_step_r1 : List Cond := [Cond.fieldLink RX5 83 "MiddleClaimsModel" "isKnown" "Z", Cond.fieldLink RX5 77 "MiddleClaimsModel" "steps" "I", Cond.fieldLink RX5 22 "MiddleClaimsModel" "plains" "[I", Cond.fieldLink RX5 25 "MiddleClaimsModel" "others" "[I", Cond.fieldLink RX5 28 "MiddleClaimsModel" "firsts" "[I", Cond.fieldLink RX5 31 "MiddleClaimsModel" "seconds" "[I", Cond.fieldLink RX5 34 "MiddleClaimsModel" "pivots" "[I", Cond.fieldLink RX5 37 "MiddleClaimsModel" "isNeeded" "[Z", Cond.methodLink RX5 150 yX5_prove, Cond.instanceMethod yX5_prove, Cond.selects RX5 yX5_prove yX5_prove, Cond.initialized RX5, Cond.code yX5_prove cX5_prove 7 none, Cond.fieldLink RX5 41 "MiddleClaimsModel" "isStep" "[Z", Cond.fieldLink RX5 80 "MiddleClaimsModel" "empty" "I", Cond.fieldLink RX5 7 "MiddleClaimsModel" "s" "[I", Cond.methodLink RX5 87 yX5_addStep, Cond.instanceMethod yX5_addStep, Cond.selects RX5 yX5_addStep yX5_addStep, Cond.code yX5_addStep cX5_addStep 6 none, Cond.methodLink RX5 91 yX5_onlySign, Cond.static yX5_onlySign, Cond.code yX5_onlySign cX5_onlySign 3 (some .int), Cond.methodLink RX5 48 yX5_in]
def wsX5_step_r2 : List Cond := [Cond.static yX5_in, Cond.code yX5_in cX5_in 3 (some .boolean)]
def wsX5_step : List Cond := .code yX5_step cX5_step 3 (some .int) :: ((wsX5_step_r1 ++ wsX5_step_r2) ++ wsX50)
def wsX5_partial_r1 : List Cond := [Cond.fieldLink RX5 77 "MiddleClaimsModel" "steps" "I", Cond.fieldLink RX5 44 "MiddleClaimsModel" "claims" "[J", Cond.methodLink RX5 150 yX5_prove, Cond.instanceMethod yX5_prove, Cond.selects RX5 yX5_prove yX5_prove, Cond.initialized RX5, Cond.code yX5_prove cX5_prove 7 none, Cond.fieldLink RX5 41 "MiddleClaimsModel" "isStep" "[Z", Cond.fieldLink RX5 80 "MiddleClaimsModel" "empty" "I", Cond.fieldLink RX5 83 "MiddleClaimsModel" "isKnown" "Z", Cond.fieldLink RX5 7 "MiddleClaimsModel" "s" "[I", Cond.fieldLink RX5 22 "MiddleClaimsModel" "plains" "[I", Cond.fieldLink RX5 25 "MiddleClaimsModel" "others" "[I", Cond.fieldLink RX5 37 "MiddleClaimsModel" "isNeeded" "[Z", Cond.fieldLink RX5 28 "MiddleClaimsModel" "firsts" "[I", Cond.fieldLink RX5 31 "MiddleClaimsModel" "seconds" "[I", Cond.methodLink RX5 87 yX5_addStep, Cond.instanceMethod yX5_addStep, Cond.selects RX5 yX5_addStep yX5_addStep, Cond.code yX5_addStep cX5_addStep 6 none, Cond.fieldLink RX5 34 "MiddleClaimsModel" "pivots" "[I", Cond.methodLink RX5 91 yX5_onlySign, Cond.static yX5_onlySign, Cond.code yX5_onlySign cX5_onlySign 3 (some .int)]
def wsX5_partial_r2 : List Cond := [Cond.methodLink RX5 153 yX5_isProved, Cond.instanceMethod yX5_isProved, Cond.selects RX5 yX5_isProved yX5_isProved, Cond.code yX5_isProved cX5_isProved 1 (some .boolean), Cond.methodLink RX5 48 yX5_in, Cond.static yX5_in, Cond.code yX5_in cX5_in 3 (some .boolean), Cond.methodLink RX5 97 yX5_claim, Cond.instanceMethod yX5_claim, Cond.selects RX5 yX5_claim yX5_claim, Cond.code yX5_claim cX5_claim 21 none, Cond.constantLong RX5 60 (-1), Cond.methodLink RX5 66 yX5_knownTo, Cond.instanceMethod yX5_knownTo, Cond.selects RX5 yX5_knownTo yX5_knownTo, Cond.code yX5_knownTo cX5_knownTo 4 (some .int), Cond.methodLink RX5 56 yX5_truths, Cond.static yX5_truths, Cond.code yX5_truths cX5_truths 6 (some .long), Cond.methodLink RX5 94 yX5_worldsOf, Cond.static yX5_worldsOf, Cond.code yX5_worldsOf cX5_worldsOf 4 (some .long)]
def wsX5_partial : List Cond := .code yX5_partial cX5_partial 4 (some .int) :: ((wsX5_partial_r1 ++ wsX5_partial_r2) ++ wsX50)
def wsX5_half : List Cond := .code yX5_half cX5_half 3 (some .int) :: ([])
def wsX5_middle_r1 : List Cond := [Cond.methodLink RX5 150 yX5_prove, Cond.instanceMethod yX5_prove, Cond.selects RX5 yX5_prove yX5_prove, Cond.initialized RX5, Cond.code yX5_prove cX5_prove 7 none, Cond.fieldLink RX5 41 "MiddleClaimsModel" "isStep" "[Z", Cond.fieldLink RX5 77 "MiddleClaimsModel" "steps" "I", Cond.fieldLink RX5 80 "MiddleClaimsModel" "empty" "I", Cond.fieldLink RX5 83 "MiddleClaimsModel" "isKnown" "Z", Cond.fieldLink RX5 7 "MiddleClaimsModel" "s" "[I", Cond.fieldLink RX5 22 "MiddleClaimsModel" "plains" "[I", Cond.fieldLink RX5 25 "MiddleClaimsModel" "others" "[I", Cond.fieldLink RX5 37 "MiddleClaimsModel" "isNeeded" "[Z", Cond.fieldLink RX5 28 "MiddleClaimsModel" "firsts" "[I", Cond.fieldLink RX5 31 "MiddleClaimsModel" "seconds" "[I", Cond.methodLink RX5 87 yX5_addStep, Cond.instanceMethod yX5_addStep, Cond.selects RX5 yX5_addStep yX5_addStep, Cond.code yX5_addStep cX5_addStep 6 none, Cond.fieldLink RX5 34 "MiddleClaimsModel" "pivots" "[I", Cond.methodLink RX5 91 yX5_onlySign, Cond.static yX5_onlySign, Cond.code yX5_onlySign cX5_onlySign 3 (some .int), Cond.methodLink RX5 48 yX5_in]
def wsX5_middle_r2 : List Cond := [Cond.static yX5_in, Cond.code yX5_in cX5_in 3 (some .boolean), Cond.methodLink RX5 153 yX5_isProved, Cond.instanceMethod yX5_isProved, Cond.selects RX5 yX5_isProved yX5_isProved, Cond.code yX5_isProved cX5_isProved 1 (some .boolean), Cond.methodLink RX5 167 yX5_middleOf, Cond.instanceMethod yX5_middleOf, Cond.selects RX5 yX5_middleOf yX5_middleOf, Cond.code yX5_middleOf cX5_middleOf 2 (some .long), Cond.fieldLink RX5 44 "MiddleClaimsModel" "claims" "[J", Cond.methodLink RX5 97 yX5_claim, Cond.instanceMethod yX5_claim, Cond.selects RX5 yX5_claim yX5_claim, Cond.code yX5_claim cX5_claim 21 none, Cond.constantLong RX5 60 (-1), Cond.methodLink RX5 66 yX5_knownTo, Cond.instanceMethod yX5_knownTo, Cond.selects RX5 yX5_knownTo yX5_knownTo, Cond.code yX5_knownTo cX5_knownTo 4 (some .int), Cond.methodLink RX5 56 yX5_truths, Cond.static yX5_truths, Cond.code yX5_truths cX5_truths 6 (some .long), Cond.methodLink RX5 94 yX5_worldsOf]
def wsX5_middle_r3 : List Cond := [Cond.static yX5_worldsOf, Cond.code yX5_worldsOf cX5_worldsOf 4 (some .long), Cond.methodLink RX5 170 yX5_half, Cond.static yX5_half, Cond.code yX5_half cX5_half 3 (some .int)]
def wsX5_middle : List Cond := .code yX5_middle cX5_middle 3 (some .int) :: ((wsX5_middle_r1 ++ (wsX5_middle_r2 ++ wsX5_middle_r3)) ++ wsX50)
def wsX5_outermost_r1 : List Cond := [Cond.constantLong RX5 60 (-1), Cond.methodLink RX5 48 yX5_in, Cond.static yX5_in, Cond.initialized RX5, Cond.code yX5_in cX5_in 3 (some .boolean), Cond.methodLink RX5 174 yX5_clash, Cond.instanceMethod yX5_clash, Cond.selects RX5 yX5_clash yX5_clash, Cond.code yX5_clash cX5_clash 1 (some .boolean), Cond.methodLink RX5 70 yX5_worldsOfSide, Cond.instanceMethod yX5_worldsOfSide, Cond.selects RX5 yX5_worldsOfSide yX5_worldsOfSide, Cond.code yX5_worldsOfSide cX5_worldsOfSide 5 (some .long), Cond.fieldLink RX5 7 "MiddleClaimsModel" "s" "[I", Cond.methodLink RX5 62 yX5_worldsOfClause, Cond.instanceMethod yX5_worldsOfClause, Cond.selects RX5 yX5_worldsOfClause yX5_worldsOfClause, Cond.code yX5_worldsOfClause cX5_worldsOfClause 2 (some .long), Cond.methodLink RX5 56 yX5_truths, Cond.static yX5_truths, Cond.code yX5_truths cX5_truths 6 (some .long), Cond.methodLink RX5 177 yX5_spread, Cond.instanceMethod yX5_spread, Cond.selects RX5 yX5_spread yX5_spread]
def wsX5_outermost_r2 : List Cond := [Cond.code yX5_spread cX5_spread 8 (some .long), Cond.methodLink RX5 73 yX5_shared, Cond.instanceMethod yX5_shared, Cond.selects RX5 yX5_shared yX5_shared, Cond.code yX5_shared cX5_shared 1 (some .int), Cond.methodLink RX5 66 yX5_knownTo, Cond.instanceMethod yX5_knownTo, Cond.selects RX5 yX5_knownTo yX5_knownTo, Cond.code yX5_knownTo cX5_knownTo 4 (some .int), Cond.methodLink RX5 170 yX5_half, Cond.static yX5_half, Cond.code yX5_half cX5_half 3 (some .int)]
def wsX5_outermost : List Cond := .code yX5_outermost cX5_outermost 3 (some .int) :: ((wsX5_outermost_r1 ++ wsX5_outermost_r2) ++ wsX50)
def wsX5_test_r1 : List Cond := [Cond.constantLong RX5 181 (4294967295), Cond.constantLong RX5 60 (-1), Cond.methodLink RX5 70 yX5_worldsOfSide, Cond.instanceMethod yX5_worldsOfSide, Cond.selects RX5 yX5_worldsOfSide yX5_worldsOfSide, Cond.initialized RX5, Cond.code yX5_worldsOfSide cX5_worldsOfSide 5 (some .long), Cond.fieldLink RX5 7 "MiddleClaimsModel" "s" "[I", Cond.methodLink RX5 62 yX5_worldsOfClause, Cond.instanceMethod yX5_worldsOfClause, Cond.selects RX5 yX5_worldsOfClause yX5_worldsOfClause, Cond.code yX5_worldsOfClause cX5_worldsOfClause 2 (some .long), Cond.methodLink RX5 56 yX5_truths, Cond.static yX5_truths, Cond.code yX5_truths cX5_truths 6 (some .long), Cond.methodLink RX5 177 yX5_spread, Cond.instanceMethod yX5_spread, Cond.selects RX5 yX5_spread yX5_spread, Cond.code yX5_spread cX5_spread 8 (some .long), Cond.methodLink RX5 73 yX5_shared, Cond.instanceMethod yX5_shared, Cond.selects RX5 yX5_shared yX5_shared, Cond.code yX5_shared cX5_shared 1 (some .int), Cond.methodLink RX5 66 yX5_knownTo]
def wsX5_test_r2 : List Cond := [Cond.instanceMethod yX5_knownTo, Cond.selects RX5 yX5_knownTo yX5_knownTo, Cond.code yX5_knownTo cX5_knownTo 4 (some .int)]
def wsX5_test : List Cond := .code yX5_test cX5_test 5 (some .int) :: ((wsX5_test_r1 ++ wsX5_test_r2) ++ wsX50)
def wsX5_compare_r1 : List Cond := [Cond.constantLong RX5 60 (-1), Cond.methodLink RX5 150 yX5_prove, Cond.instanceMethod yX5_prove, Cond.selects RX5 yX5_prove yX5_prove, Cond.initialized RX5, Cond.code yX5_prove cX5_prove 7 none, Cond.fieldLink RX5 41 "MiddleClaimsModel" "isStep" "[Z", Cond.fieldLink RX5 77 "MiddleClaimsModel" "steps" "I", Cond.fieldLink RX5 80 "MiddleClaimsModel" "empty" "I", Cond.fieldLink RX5 83 "MiddleClaimsModel" "isKnown" "Z", Cond.fieldLink RX5 7 "MiddleClaimsModel" "s" "[I", Cond.fieldLink RX5 22 "MiddleClaimsModel" "plains" "[I", Cond.fieldLink RX5 25 "MiddleClaimsModel" "others" "[I", Cond.fieldLink RX5 37 "MiddleClaimsModel" "isNeeded" "[Z", Cond.fieldLink RX5 28 "MiddleClaimsModel" "firsts" "[I", Cond.fieldLink RX5 31 "MiddleClaimsModel" "seconds" "[I", Cond.methodLink RX5 87 yX5_addStep, Cond.instanceMethod yX5_addStep, Cond.selects RX5 yX5_addStep yX5_addStep, Cond.code yX5_addStep cX5_addStep 6 none, Cond.fieldLink RX5 34 "MiddleClaimsModel" "pivots" "[I", Cond.methodLink RX5 91 yX5_onlySign, Cond.static yX5_onlySign, Cond.code yX5_onlySign cX5_onlySign 3 (some .int)]
def wsX5_compare_r2 : List Cond := [Cond.methodLink RX5 153 yX5_isProved, Cond.instanceMethod yX5_isProved, Cond.selects RX5 yX5_isProved yX5_isProved, Cond.code yX5_isProved cX5_isProved 1 (some .boolean), Cond.methodLink RX5 167 yX5_middleOf, Cond.instanceMethod yX5_middleOf, Cond.selects RX5 yX5_middleOf yX5_middleOf, Cond.code yX5_middleOf cX5_middleOf 2 (some .long), Cond.fieldLink RX5 44 "MiddleClaimsModel" "claims" "[J", Cond.methodLink RX5 97 yX5_claim, Cond.instanceMethod yX5_claim, Cond.selects RX5 yX5_claim yX5_claim, Cond.code yX5_claim cX5_claim 21 none, Cond.methodLink RX5 66 yX5_knownTo, Cond.instanceMethod yX5_knownTo, Cond.selects RX5 yX5_knownTo yX5_knownTo, Cond.code yX5_knownTo cX5_knownTo 4 (some .int), Cond.methodLink RX5 56 yX5_truths, Cond.static yX5_truths, Cond.code yX5_truths cX5_truths 6 (some .long), Cond.methodLink RX5 94 yX5_worldsOf, Cond.static yX5_worldsOf, Cond.code yX5_worldsOf cX5_worldsOf 4 (some .long)]
def wsX5_compare : List Cond := .code yX5_compare cX5_compare 5 (some .int) :: ((wsX5_compare_r1 ++ wsX5_compare_r2) ++ wsX50)
def wsX5_needed : List Cond := .code yX5_needed cX5_needed 3 (some .int) :: ([.fieldLink RX5 77 "MiddleClaimsModel" "steps" "I", .fieldLink RX5 37 "MiddleClaimsModel" "isNeeded" "[Z"] ++ wsX50)
def wsX5_count_r1 : List Cond := [Cond.fieldLink RX5 7 "MiddleClaimsModel" "s" "[I", Cond.fieldLink RX5 83 "MiddleClaimsModel" "isKnown" "Z", Cond.fieldLink RX5 77 "MiddleClaimsModel" "steps" "I", Cond.fieldLink RX5 52 "MiddleClaimsModel" "known" "I", Cond.fieldLink RX5 111 "MiddleClaimsModel" "typed" "I", Cond.methodLink RX5 150 yX5_prove, Cond.instanceMethod yX5_prove, Cond.selects RX5 yX5_prove yX5_prove, Cond.initialized RX5, Cond.code yX5_prove cX5_prove 7 none, Cond.fieldLink RX5 41 "MiddleClaimsModel" "isStep" "[Z", Cond.fieldLink RX5 80 "MiddleClaimsModel" "empty" "I", Cond.fieldLink RX5 22 "MiddleClaimsModel" "plains" "[I", Cond.fieldLink RX5 25 "MiddleClaimsModel" "others" "[I", Cond.fieldLink RX5 37 "MiddleClaimsModel" "isNeeded" "[Z", Cond.fieldLink RX5 28 "MiddleClaimsModel" "firsts" "[I", Cond.fieldLink RX5 31 "MiddleClaimsModel" "seconds" "[I", Cond.methodLink RX5 87 yX5_addStep, Cond.instanceMethod yX5_addStep, Cond.selects RX5 yX5_addStep yX5_addStep, Cond.code yX5_addStep cX5_addStep 6 none, Cond.fieldLink RX5 34 "MiddleClaimsModel" "pivots" "[I", Cond.methodLink RX5 91 yX5_onlySign, Cond.static yX5_onlySign]
def wsX5_count_r2 : List Cond := [Cond.code yX5_onlySign cX5_onlySign 3 (some .int), Cond.methodLink RX5 73 yX5_shared, Cond.instanceMethod yX5_shared, Cond.selects RX5 yX5_shared yX5_shared, Cond.code yX5_shared cX5_shared 1 (some .int), Cond.methodLink RX5 66 yX5_knownTo, Cond.instanceMethod yX5_knownTo, Cond.selects RX5 yX5_knownTo yX5_knownTo, Cond.code yX5_knownTo cX5_knownTo 4 (some .int), Cond.methodLink RX5 174 yX5_clash, Cond.instanceMethod yX5_clash, Cond.selects RX5 yX5_clash yX5_clash, Cond.code yX5_clash cX5_clash 1 (some .boolean), Cond.methodLink RX5 70 yX5_worldsOfSide, Cond.instanceMethod yX5_worldsOfSide, Cond.selects RX5 yX5_worldsOfSide yX5_worldsOfSide, Cond.code yX5_worldsOfSide cX5_worldsOfSide 5 (some .long), Cond.constantLong RX5 60 (-1), Cond.methodLink RX5 62 yX5_worldsOfClause, Cond.instanceMethod yX5_worldsOfClause, Cond.selects RX5 yX5_worldsOfClause yX5_worldsOfClause, Cond.code yX5_worldsOfClause cX5_worldsOfClause 2 (some .long), Cond.methodLink RX5 56 yX5_truths, Cond.static yX5_truths]
def wsX5_count_r3 : List Cond := [Cond.code yX5_truths cX5_truths 6 (some .long), Cond.methodLink RX5 153 yX5_isProved, Cond.instanceMethod yX5_isProved, Cond.selects RX5 yX5_isProved yX5_isProved, Cond.code yX5_isProved cX5_isProved 1 (some .boolean), Cond.methodLink RX5 183 yX5_needed, Cond.instanceMethod yX5_needed, Cond.selects RX5 yX5_needed yX5_needed, Cond.code yX5_needed cX5_needed 3 (some .int), Cond.methodLink RX5 167 yX5_middleOf, Cond.instanceMethod yX5_middleOf, Cond.selects RX5 yX5_middleOf yX5_middleOf, Cond.code yX5_middleOf cX5_middleOf 2 (some .long), Cond.fieldLink RX5 44 "MiddleClaimsModel" "claims" "[J", Cond.methodLink RX5 97 yX5_claim, Cond.instanceMethod yX5_claim, Cond.selects RX5 yX5_claim yX5_claim, Cond.code yX5_claim cX5_claim 21 none, Cond.methodLink RX5 94 yX5_worldsOf, Cond.static yX5_worldsOf, Cond.code yX5_worldsOf cX5_worldsOf 4 (some .long), Cond.methodLink RX5 160 yX5_bitsOf, Cond.static yX5_bitsOf, Cond.code yX5_bitsOf cX5_bitsOf 4 (some .int)]
def wsX5_count : List Cond := .code yX5_count cX5_count 2 (some .int) :: ((wsX5_count_r1 ++ (wsX5_count_r2 ++ wsX5_count_r3)) ++ wsX50)
def wsJ9_max_7cf53 : List Cond := .code yJ9_max_7cf53 cJ9_max_7cf53 2 (some .int) :: ([])
def wsL_law_r1 : List Cond := [Cond.classLink RL 7 RX4, Cond.instantiable RX4 8, Cond.initialized RX4, Cond.classLink RL 10 RX5, Cond.instantiable RX5 22, Cond.initialized RX5, Cond.methodLink RL 9 yX4_init, Cond.instanceMethod yX4_init, Cond.code yX4_init cX4_init 1 none, Cond.methodLink RX4 1 objectInit, Cond.instanceMethod objectInit, Cond.code objectInit ⟨#[0xb1]⟩ 1 none, Cond.classLink RX4 7 RX0, Cond.instantiable RX0 4, Cond.initialized RX0, Cond.fieldLink RX4 14 "MiddleClaims" "clauses" "LMiddleClaims$Clauses;", Cond.fieldLink RX4 18 "MiddleClaims" "textClauses" "LMiddleClaims$Clauses;", Cond.fieldLink RX4 21 "MiddleClaims" "snapshot" "LMiddleClaims$Clauses;", Cond.fieldLink RX4 24 "MiddleClaims" "snapshotTaken" "Z", Cond.classLink RX4 28 RX1, Cond.instantiable RX1 2, Cond.initialized RX1, Cond.fieldLink RX4 31 "MiddleClaims" "history" "LMiddleClaims$History;", Cond.classLink RX4 35 RX3]
def wsL_law_r2 : List Cond := [Cond.instantiable RX3 7, Cond.initialized RX3, Cond.fieldLink RX4 38 "MiddleClaims" "text" "LMiddleClaims$Text;", Cond.classLink RX4 42 RX2, Cond.instantiable RX2 14, Cond.initialized RX2, Cond.fieldLink RX4 45 "MiddleClaims" "proof" "LMiddleClaims$Proof;", Cond.fieldLink RX4 49 "MiddleClaims" "proofStands" "Z", Cond.methodLink RX4 11 yX0_init, Cond.instanceMethod yX0_init, Cond.code yX0_init cX0_init 3 none, Cond.methodLink RX0 1 objectInit, Cond.methodLink RX0 7 Lib.Math.max.name, Cond.static Lib.Math.max.name, Cond.initialized "java/lang/Math", Cond.code Lib.Math.max.name Lib.Math.max.code 2 (some .int), Cond.arrayClass .int, Cond.fieldLink RX0 13 "MiddleClaims$Clauses" "sides" "[I", Cond.fieldLink RX0 19 "MiddleClaims$Clauses" "signs" "[I", Cond.fieldLink RX0 22 "MiddleClaims$Clauses" "opposites" "[I", Cond.fieldLink RX0 25 "MiddleClaims$Clauses" "size" "I", Cond.methodLink RX4 30 yX1_init, Cond.instanceMethod yX1_init, Cond.code yX1_init cX1_init 2 none]
def wsL_law_r3 : List Cond := [Cond.methodLink RX1 3 objectInit, Cond.classLink RX1 9 RX0, Cond.fieldLink RX1 11 "MiddleClaims$History" "states" "[LMiddleClaims$Clauses;", Cond.fieldLink RX1 20 "MiddleClaims$History" "size" "I", Cond.methodLink RX1 17 yX0_init, Cond.methodLink RX4 37 yX3_init, Cond.instanceMethod yX3_init, Cond.code yX3_init cX3_init 1 none, Cond.methodLink RX3 3 objectInit, Cond.arrayClass .char, Cond.fieldLink RX3 9 "MiddleClaims$Text" "characters" "[C", Cond.fieldLink RX3 15 "MiddleClaims$Text" "length" "I", Cond.methodLink RX4 44 yX2_init, Cond.instanceMethod yX2_init, Cond.code yX2_init cX2_init 1 none, Cond.methodLink RX2 3 objectInit, Cond.fieldLink RX2 9 "MiddleClaims$Proof" "signs" "[I", Cond.fieldLink RX2 15 "MiddleClaims$Proof" "opposites" "[I", Cond.fieldLink RX2 18 "MiddleClaims$Proof" "firstParents" "[I", Cond.fieldLink RX2 21 "MiddleClaims$Proof" "secondParents" "[I", Cond.fieldLink RX2 24 "MiddleClaims$Proof" "pivots" "[I", Cond.arrayClass .long, Cond.fieldLink RX2 27 "MiddleClaims$Proof" "claims0" "[J", Cond.fieldLink RX2 31 "MiddleClaims$Proof" "claims1" "[J"]
def wsL_law_r4 : List Cond := [Cond.arrayClass .boolean, Cond.fieldLink RX2 34 "MiddleClaims$Proof" "needed" "[Z", Cond.fieldLink RX2 38 "MiddleClaims$Proof" "stepsWithSigns" "[J", Cond.fieldLink RX2 41 "MiddleClaims$Proof" "size" "I", Cond.methodLink RL 12 yX5_init, Cond.instanceMethod yX5_init, Cond.code yX5_init cX5_init 1 none, Cond.methodLink RX5 1 objectInit, Cond.fieldLink RX5 7 "MiddleClaimsModel" "s" "[I", Cond.fieldLink RX5 13 "MiddleClaimsModel" "before" "[I", Cond.fieldLink RX5 16 "MiddleClaimsModel" "kept" "[I", Cond.fieldLink RX5 19 "MiddleClaimsModel" "text" "[I", Cond.fieldLink RX5 22 "MiddleClaimsModel" "plains" "[I", Cond.fieldLink RX5 25 "MiddleClaimsModel" "others" "[I", Cond.fieldLink RX5 28 "MiddleClaimsModel" "firsts" "[I", Cond.fieldLink RX5 31 "MiddleClaimsModel" "seconds" "[I", Cond.fieldLink RX5 34 "MiddleClaimsModel" "pivots" "[I", Cond.fieldLink RX5 37 "MiddleClaimsModel" "isNeeded" "[Z", Cond.fieldLink RX5 41 "MiddleClaimsModel" "isStep" "[Z", Cond.fieldLink RX5 44 "MiddleClaimsModel" "claims" "[J", Cond.methodLink RL 13 yX4_add, Cond.instanceMethod yX4_add, Cond.selects RX4 yX4_add yX4_add, Cond.code yX4_add cX4_add 4 (some .int)]
def wsL_law_r5 : List Cond := [Cond.methodLink RX4 52 yX4_isZeroOrOne, Cond.static yX4_isZeroOrOne, Cond.code yX4_isZeroOrOne cX4_isZeroOrOne 1 (some .boolean), Cond.methodLink RX4 56 yX4_isSetOfSigns, Cond.static yX4_isSetOfSigns, Cond.code yX4_isSetOfSigns cX4_isSetOfSigns 1 (some .boolean), Cond.methodLink RX4 59 yX0_size, Cond.instanceMethod yX0_size, Cond.selects RX0 yX0_size yX0_size, Cond.code yX0_size cX0_size 1 (some .int), Cond.methodLink RX4 63 yX4_beginAct, Cond.instanceMethod yX4_beginAct, Cond.selects RX4 yX4_beginAct yX4_beginAct, Cond.code yX4_beginAct cX4_beginAct 1 none, Cond.methodLink RX4 205 yX1_remember, Cond.instanceMethod yX1_remember, Cond.selects RX1 yX1_remember yX1_remember, Cond.code yX1_remember cX1_remember 2 none, Cond.methodLink RX1 24 yX1_dropOldest, Cond.instanceMethod yX1_dropOldest, Cond.selects RX1 yX1_dropOldest yX1_dropOldest, Cond.code yX1_dropOldest cX1_dropOldest 3 none, Cond.methodLink RX1 27 yX0_becomeLike, Cond.instanceMethod yX0_becomeLike]
def wsL_law_r6 : List Cond := [Cond.selects RX0 yX0_becomeLike yX0_becomeLike, Cond.code yX0_becomeLike cX0_becomeLike 2 none, Cond.methodLink RX0 50 yX0_clear, Cond.instanceMethod yX0_clear, Cond.selects RX0 yX0_clear yX0_clear, Cond.code yX0_clear cX0_clear 1 none, Cond.methodLink RX0 53 yX0_appendEach, Cond.instanceMethod yX0_appendEach, Cond.selects RX0 yX0_appendEach yX0_appendEach, Cond.code yX0_appendEach cX0_appendEach 4 none, Cond.methodLink RX0 33 yX0_size, Cond.methodLink RX0 36 yX0_sideOf, Cond.instanceMethod yX0_sideOf, Cond.selects RX0 yX0_sideOf yX0_sideOf, Cond.code yX0_sideOf cX0_sideOf 2 (some .int), Cond.methodLink RX0 29 yX0_has, Cond.instanceMethod yX0_has, Cond.selects RX0 yX0_has yX0_has, Cond.code yX0_has cX0_has 2 (some .boolean), Cond.methodLink RX0 40 yX0_signsOf, Cond.instanceMethod yX0_signsOf, Cond.selects RX0 yX0_signsOf yX0_signsOf, Cond.code yX0_signsOf cX0_signsOf 2 (some .int), Cond.methodLink RX0 43 yX0_oppositesOf]
def wsL_law_r7 : List Cond := [Cond.instanceMethod yX0_oppositesOf, Cond.selects RX0 yX0_oppositesOf yX0_oppositesOf, Cond.code yX0_oppositesOf cX0_oppositesOf 2 (some .int), Cond.methodLink RX0 46 yX0_append, Cond.instanceMethod yX0_append, Cond.selects RX0 yX0_append yX0_append, Cond.code yX0_append cX0_append 4 none, Cond.methodLink RX4 66 yX0_append, Cond.methodLink RL 17 yX5_add, Cond.instanceMethod yX5_add, Cond.selects RX5 yX5_add yX5_add, Cond.code yX5_add cX5_add 4 (some .int), Cond.methodLink RX5 48 yX5_in, Cond.static yX5_in, Cond.code yX5_in cX5_in 3 (some .boolean), Cond.methodLink RX5 101 yX5_know, Cond.instanceMethod yX5_know, Cond.selects RX5 yX5_know yX5_know, Cond.code yX5_know cX5_know 2 none, Cond.fieldLink RX5 52 "MiddleClaimsModel" "known" "I", Cond.methodLink RX5 104 yX5_put, Cond.instanceMethod yX5_put, Cond.selects RX5 yX5_put yX5_put, Cond.code yX5_put cX5_put 4 none]
def wsL_law_r8 : List Cond := [Cond.methodLink RL 18 yX4_addAll, Cond.instanceMethod yX4_addAll, Cond.selects RX4 yX4_addAll yX4_addAll, Cond.code yX4_addAll cX4_addAll 2 (some .int), Cond.methodLink RX4 70 yX3_readInto, Cond.instanceMethod yX3_readInto, Cond.selects RX3 yX3_readInto yX3_readInto, Cond.code yX3_readInto cX3_readInto 3 (some .int), Cond.fieldLink RX3 24 "MiddleClaims$Text" "side" "I", Cond.methodLink RX3 19 yX0_clear, Cond.methodLink RX3 27 yX3_beginClause, Cond.instanceMethod yX3_beginClause, Cond.selects RX3 yX3_beginClause yX3_beginClause, Cond.code yX3_beginClause cX3_beginClause 1 none, Cond.fieldLink RX3 38 "MiddleClaims$Text" "signs" "I", Cond.fieldLink RX3 41 "MiddleClaims$Text" "opposites" "I", Cond.fieldLink RX3 44 "MiddleClaims$Text" "lastSign" "I", Cond.fieldLink RX3 47 "MiddleClaims$Text" "afterMinus" "Z", Cond.methodLink RX3 30 yX3_reads, Cond.instanceMethod yX3_reads, Cond.selects RX3 yX3_reads yX3_reads, Cond.code yX3_reads cX3_reads 3 (some .boolean), Cond.methodLink RX3 51 yX3_readsMinus, Cond.instanceMethod yX3_readsMinus]
def wsL_law_r9 : List Cond := [Cond.selects RX3 yX3_readsMinus yX3_readsMinus, Cond.code yX3_readsMinus cX3_readsMinus 1 (some .boolean), Cond.methodLink RX3 34 yX3_endsClause, Cond.instanceMethod yX3_endsClause, Cond.selects RX3 yX3_endsClause yX3_endsClause, Cond.code yX3_endsClause cX3_endsClause 2 (some .boolean), Cond.methodLink RX3 62 yX0_append, Cond.methodLink RX3 55 yX3_readsSlash, Cond.instanceMethod yX3_readsSlash, Cond.selects RX3 yX3_readsSlash yX3_readsSlash, Cond.code yX3_readsSlash cX3_readsSlash 2 (some .boolean), Cond.methodLink RX3 58 yX3_readsSign, Cond.instanceMethod yX3_readsSign, Cond.selects RX3 yX3_readsSign yX3_readsSign, Cond.code yX3_readsSign cX3_readsSign 2 (some .boolean), Cond.methodLink RX4 74 yX0_appendEach, Cond.methodLink RL 22 yX5_addAll, Cond.instanceMethod yX5_addAll, Cond.selects RX5 yX5_addAll yX5_addAll, Cond.code yX5_addAll cX5_addAll 2 (some .int), Cond.fieldLink RX5 114 "MiddleClaimsModel" "isWrong" "Z", Cond.fieldLink RX5 108 "MiddleClaimsModel" "at" "I", Cond.methodLink RX5 137 yX5_go, Cond.instanceMethod yX5_go]
def wsL_law_r10 : List Cond := [Cond.selects RX5 yX5_go yX5_go, Cond.code yX5_go cX5_go 7 (some .int), Cond.fieldLink RX5 117 "MiddleClaimsModel" "plain" "I", Cond.fieldLink RX5 120 "MiddleClaimsModel" "other" "I", Cond.fieldLink RX5 111 "MiddleClaimsModel" "typed" "I", Cond.methodLink RX5 134 yX5_read, Cond.instanceMethod yX5_read, Cond.selects RX5 yX5_read yX5_read, Cond.code yX5_read cX5_read 6 none, Cond.methodLink RX5 123 yX5_isNext, Cond.instanceMethod yX5_isNext, Cond.selects RX5 yX5_isNext yX5_isNext, Cond.code yX5_isNext cX5_isNext 2 (some .boolean), Cond.methodLink RX5 127 yX5_sign, Cond.instanceMethod yX5_sign, Cond.selects RX5 yX5_sign yX5_sign, Cond.code yX5_sign cX5_sign 4 (some .int), Cond.methodLink RX5 131 yX5_isLetter, Cond.instanceMethod yX5_isLetter, Cond.selects RX5 yX5_isLetter yX5_isLetter, Cond.code yX5_isLetter cX5_isLetter 2 (some .boolean), Cond.methodLink RL 23 yX4_remove, Cond.instanceMethod yX4_remove, Cond.selects RX4 yX4_remove yX4_remove]
def wsL_law_r11 : List Cond := [Cond.code yX4_remove cX4_remove 2 (some .int), Cond.methodLink RX4 78 yX0_has, Cond.methodLink RX4 81 yX0_drop, Cond.instanceMethod yX0_drop, Cond.selects RX0 yX0_drop yX0_drop, Cond.code yX0_drop cX0_drop 3 none, Cond.methodLink RL 27 yX5_remove, Cond.instanceMethod yX5_remove, Cond.selects RX5 yX5_remove yX5_remove, Cond.code yX5_remove cX5_remove 2 (some .int), Cond.methodLink RX5 141 yX5_isClause, Cond.instanceMethod yX5_isClause, Cond.selects RX5 yX5_isClause yX5_isClause, Cond.code yX5_isClause cX5_isClause 2 (some .boolean), Cond.methodLink RX5 144 yX5_drop, Cond.instanceMethod yX5_drop, Cond.selects RX5 yX5_drop yX5_drop, Cond.code yX5_drop cX5_drop 3 none, Cond.methodLink RL 28 yX4_move, Cond.instanceMethod yX4_move, Cond.selects RX4 yX4_move yX4_move, Cond.code yX4_move cX4_move 2 (some .int), Cond.methodLink RX4 84 yX0_changeSide, Cond.instanceMethod yX0_changeSide]
def wsL_law_r12 : List Cond := [Cond.selects RX0 yX0_changeSide yX0_changeSide, Cond.code yX0_changeSide cX0_changeSide 2 none, Cond.methodLink RX4 87 yX0_sideOf, Cond.methodLink RL 31 yX5_move, Cond.instanceMethod yX5_move, Cond.selects RX5 yX5_move yX5_move, Cond.code yX5_move cX5_move 2 (some .int), Cond.methodLink RL 32 yX4_exchange, Cond.instanceMethod yX4_exchange, Cond.selects RX4 yX4_exchange yX4_exchange, Cond.code yX4_exchange cX4_exchange 2 (some .int), Cond.methodLink RX4 91 yX0_sizeOfSide, Cond.instanceMethod yX0_sizeOfSide, Cond.selects RX0 yX0_sizeOfSide yX0_sizeOfSide, Cond.code yX0_sizeOfSide cX0_sizeOfSide 4 (some .int), Cond.static yX4_asNumber, Cond.code yX4_asNumber cX4_asNumber 1 (some .int), Cond.methodLink RL 35 yX5_exchange, Cond.instanceMethod yX5_exchange, Cond.selects RX5 yX5_exchange yX5_exchange, Cond.code yX5_exchange cX5_exchange 2 (some .int), Cond.methodLink RX5 147 yX5_clausesOf, Cond.instanceMethod yX5_clausesOf, Cond.selects RX5 yX5_clausesOf yX5_clausesOf]
def wsL_law_r13 : List Cond := [Cond.code yX5_clausesOf cX5_clausesOf 4 (some .int), Cond.methodLink RL 36 yX4_shrink, Cond.instanceMethod yX4_shrink, Cond.selects RX4 yX4_shrink yX4_shrink, Cond.code yX4_shrink cX4_shrink 3 (some .int), Cond.methodLink RX4 94 yX4_currentProof, Cond.instanceMethod yX4_currentProof, Cond.selects RX4 yX4_currentProof yX4_currentProof, Cond.code yX4_currentProof cX4_currentProof 1 (some (.object "MiddleClaims$Proof")), Cond.methodLink RX4 208 yX2_make, Cond.instanceMethod yX2_make, Cond.selects RX2 yX2_make yX2_make, Cond.code yX2_make cX2_make 3 none, Cond.fieldLink RX2 45 "MiddleClaims$Proof" "overfull" "Z", Cond.fieldLink RX2 49 "MiddleClaims$Proof" "emptyClauseFound" "Z", Cond.fieldLink RX2 73 "MiddleClaims$Proof" "knownToSide0" "I", Cond.fieldLink RX2 76 "MiddleClaims$Proof" "knownToSide1" "I", Cond.methodLink RX2 67 yX0_signsKnownTo, Cond.instanceMethod yX0_signsKnownTo, Cond.selects RX0 yX0_signsKnownTo yX0_signsKnownTo, Cond.code yX0_signsKnownTo cX0_signsKnownTo 4 (some .int), Cond.methodLink RX2 79 yX0_size, Cond.methodLink RX2 82 yX0_sideOf, Cond.methodLink RX2 85 yX0_signsOf]
def wsL_law_r14 : List Cond := [Cond.methodLink RX2 88 yX0_oppositesOf, Cond.methodLink RX2 91 yX2_appendClause, Cond.instanceMethod yX2_appendClause, Cond.selects RX2 yX2_appendClause yX2_appendClause, Cond.code yX2_appendClause cX2_appendClause 7 none, Cond.constantLong RX2 108 (-1), Cond.static yX4_worldsOfLiterals, Cond.code yX4_worldsOfLiterals cX4_worldsOfLiterals 5 (some .long), Cond.constantLong RX4 189 (-1), Cond.methodLink RX4 216 yX4_isIn, Cond.static yX4_isIn, Cond.code yX4_isIn cX4_isIn 2 (some .boolean), Cond.methodLink RX4 220 yX4_worldsOfSign, Cond.static yX4_worldsOfSign, Cond.code yX4_worldsOfSign cX4_worldsOfSign 1 (some .long), Cond.fieldLink RX4 212 "MiddleClaims" "WORLDS_OF_SIGN" "[J", Cond.methodLink RX2 104 yX2_appendStep, Cond.instanceMethod yX2_appendStep, Cond.selects RX2 yX2_appendStep yX2_appendStep, Cond.code yX2_appendStep cX2_appendStep 10 none, Cond.methodLink RX2 95 yX2_resolveAll, Cond.instanceMethod yX2_resolveAll, Cond.selects RX2 yX2_resolveAll yX2_resolveAll, Cond.code yX2_resolveAll cX2_resolveAll 4 none]
def wsL_law_r15 : List Cond := [Cond.methodLink RX2 110 yJ6_bitCount_0f7a4, Cond.static yJ6_bitCount_0f7a4, Cond.initialized RJ6, Cond.code yJ6_bitCount_0f7a4 cJ6_bitCount_0f7a4 1 (some .int), Cond.constant RJ6 265 (1431655765), Cond.constant RJ6 266 (858993459), Cond.constant RJ6 267 (252645135), Cond.methodLink RX2 115 yX2_resolve, Cond.instanceMethod yX2_resolve, Cond.selects RX2 yX2_resolve yX2_resolve, Cond.code yX2_resolve cX2_resolve 13 none, Cond.methodLink RX2 118 yX2_signsOf, Cond.instanceMethod yX2_signsOf, Cond.selects RX2 yX2_signsOf yX2_signsOf, Cond.code yX2_signsOf cX2_signsOf 2 (some .int), Cond.methodLink RX2 52 yX2_has, Cond.instanceMethod yX2_has, Cond.selects RX2 yX2_has yX2_has, Cond.code yX2_has cX2_has 2 (some .boolean), Cond.methodLink RX2 119 yX2_oppositesOf, Cond.instanceMethod yX2_oppositesOf, Cond.selects RX2 yX2_oppositesOf yX2_oppositesOf, Cond.code yX2_oppositesOf cX2_oppositesOf 2 (some .int), Cond.methodLink RX2 120 yX2_isStep]
def wsL_law_r16 : List Cond := [Cond.instanceMethod yX2_isStep, Cond.selects RX2 yX2_isStep yX2_isStep, Cond.code yX2_isStep cX2_isStep 3 (some .boolean), Cond.methodLink RX2 63 yX2_partialClaim, Cond.instanceMethod yX2_partialClaim, Cond.selects RX2 yX2_partialClaim yX2_partialClaim, Cond.code yX2_partialClaim cX2_partialClaim 3 (some .long), Cond.methodLink RX2 124 yX2_resolvedClaim, Cond.instanceMethod yX2_resolvedClaim, Cond.selects RX2 yX2_resolvedClaim yX2_resolvedClaim, Cond.code yX2_resolvedClaim cX2_resolvedClaim 9 (some .long), Cond.methodLink RX2 98 yX2_markNeededSteps, Cond.instanceMethod yX2_markNeededSteps, Cond.selects RX2 yX2_markNeededSteps yX2_markNeededSteps, Cond.code yX2_markNeededSteps cX2_markNeededSteps 2 none, Cond.methodLink RX2 135 yX2_markNeeded, Cond.instanceMethod yX2_markNeeded, Cond.selects RX2 yX2_markNeeded yX2_markNeeded, Cond.code yX2_markNeeded cX2_markNeeded 2 none, Cond.methodLink RX2 56 yX2_isNeeded, Cond.instanceMethod yX2_isNeeded, Cond.selects RX2 yX2_isNeeded yX2_isNeeded, Cond.code yX2_isNeeded cX2_isNeeded 2 (some .boolean), Cond.methodLink RX2 139 yX2_firstParentOf]
def wsL_law_r17 : List Cond := [Cond.instanceMethod yX2_firstParentOf, Cond.selects RX2 yX2_firstParentOf yX2_firstParentOf, Cond.code yX2_firstParentOf cX2_firstParentOf 2 (some .int), Cond.methodLink RX2 142 yX2_secondParentOf, Cond.instanceMethod yX2_secondParentOf, Cond.selects RX2 yX2_secondParentOf yX2_secondParentOf, Cond.code yX2_secondParentOf cX2_secondParentOf 2 (some .int), Cond.methodLink RX4 98 yX2_hasEmptyClause, Cond.instanceMethod yX2_hasEmptyClause, Cond.selects RX2 yX2_hasEmptyClause yX2_hasEmptyClause, Cond.code yX2_hasEmptyClause cX2_hasEmptyClause 1 (some .boolean), Cond.methodLink RX4 102 yX2_neededAmong, Cond.instanceMethod yX2_neededAmong, Cond.selects RX2 yX2_neededAmong yX2_neededAmong, Cond.code yX2_neededAmong cX2_neededAmong 4 (some .int), Cond.methodLink RX4 105 yX2_isNeeded, Cond.methodLink RL 39 yX5_shrink, Cond.instanceMethod yX5_shrink, Cond.selects RX5 yX5_shrink yX5_shrink, Cond.code yX5_shrink cX5_shrink 3 (some .int), Cond.methodLink RX5 150 yX5_prove, Cond.instanceMethod yX5_prove, Cond.selects RX5 yX5_prove yX5_prove, Cond.code yX5_prove cX5_prove 7 none]
def wsL_law_r18 : List Cond := [Cond.fieldLink RX5 77 "MiddleClaimsModel" "steps" "I", Cond.fieldLink RX5 80 "MiddleClaimsModel" "empty" "I", Cond.fieldLink RX5 83 "MiddleClaimsModel" "isKnown" "Z", Cond.methodLink RX5 87 yX5_addStep, Cond.instanceMethod yX5_addStep, Cond.selects RX5 yX5_addStep yX5_addStep, Cond.code yX5_addStep cX5_addStep 6 none, Cond.methodLink RX5 91 yX5_onlySign, Cond.static yX5_onlySign, Cond.code yX5_onlySign cX5_onlySign 3 (some .int), Cond.methodLink RX5 153 yX5_isProved, Cond.instanceMethod yX5_isProved, Cond.selects RX5 yX5_isProved yX5_isProved, Cond.code yX5_isProved cX5_isProved 1 (some .boolean), Cond.methodLink RL 40 yX4_type, Cond.instanceMethod yX4_type, Cond.selects RX4 yX4_type yX4_type, Cond.code yX4_type cX4_type 2 (some .int), Cond.methodLink RX4 108 yX3_append, Cond.instanceMethod yX3_append, Cond.selects RX3 yX3_append yX3_append, Cond.code yX3_append cX3_append 2 (some .boolean), Cond.methodLink RX4 111 yX3_length, Cond.instanceMethod yX3_length]
def wsL_law_r19 : List Cond := [Cond.selects RX3 yX3_length yX3_length, Cond.code yX3_length cX3_length 1 (some .int), Cond.methodLink RL 44 yX5_type, Cond.instanceMethod yX5_type, Cond.selects RX5 yX5_type yX5_type, Cond.code yX5_type cX5_type 2 (some .int), Cond.methodLink RL 45 yX4_clearText, Cond.instanceMethod yX4_clearText, Cond.selects RX4 yX4_clearText yX4_clearText, Cond.code yX4_clearText cX4_clearText 2 (some .int), Cond.methodLink RX4 114 yX3_clear, Cond.instanceMethod yX3_clear, Cond.selects RX3 yX3_clear yX3_clear, Cond.code yX3_clear cX3_clear 1 none, Cond.methodLink RL 48 yX5_clearText, Cond.instanceMethod yX5_clearText, Cond.selects RX5 yX5_clearText yX5_clearText, Cond.code yX5_clearText cX5_clearText 2 (some .int), Cond.methodLink RL 49 yX4_undo, Cond.instanceMethod yX4_undo, Cond.selects RX4 yX4_undo yX4_undo, Cond.code yX4_undo cX4_undo 1 (some .int), Cond.methodLink RX4 117 yX1_size, Cond.instanceMethod yX1_size]
def wsL_law_r20 : List Cond := [Cond.selects RX1 yX1_size yX1_size, Cond.code yX1_size cX1_size 1 (some .int), Cond.methodLink RX4 118 yX1_takeLatestInto, Cond.instanceMethod yX1_takeLatestInto, Cond.selects RX1 yX1_takeLatestInto yX1_takeLatestInto, Cond.code yX1_takeLatestInto cX1_takeLatestInto 3 none, Cond.methodLink RL 52 yX5_undo, Cond.instanceMethod yX5_undo, Cond.selects RX5 yX5_undo yX5_undo, Cond.code yX5_undo cX5_undo 2 (some .int), Cond.methodLink RL 53 yX4_keep, Cond.instanceMethod yX4_keep, Cond.selects RX4 yX4_keep yX4_keep, Cond.code yX4_keep cX4_keep 1 (some .int), Cond.methodLink RX4 121 yX0_becomeLike, Cond.methodLink RL 56 yX5_keep, Cond.instanceMethod yX5_keep, Cond.selects RX5 yX5_keep yX5_keep, Cond.code yX5_keep cX5_keep 2 (some .int), Cond.fieldLink RX5 157 "MiddleClaimsModel" "isKept" "Z", Cond.methodLink RL 57 yX4_restore, Cond.instanceMethod yX4_restore, Cond.selects RX4 yX4_restore yX4_restore, Cond.code yX4_restore cX4_restore 1 (some .int)]
def wsL_law_r21 : List Cond := [Cond.methodLink RL 60 yX5_restore, Cond.instanceMethod yX5_restore, Cond.selects RX5 yX5_restore yX5_restore, Cond.code yX5_restore cX5_restore 2 (some .int), Cond.methodLink RL 61 yX4_clause, Cond.instanceMethod yX4_clause, Cond.selects RX4 yX4_clause yX4_clause, Cond.code yX4_clause cX4_clause 3 (some .int), Cond.methodLink RX4 124 yX0_signsOf, Cond.methodLink RX4 127 yX0_oppositesOf, Cond.methodLink RX4 130 yX0_worldsOf, Cond.instanceMethod yX0_worldsOf, Cond.selects RX0 yX0_worldsOf yX0_worldsOf, Cond.code yX0_worldsOf cX0_worldsOf 2 (some .long), Cond.methodLink RX4 134 yJ13_bitCount_95d88, Cond.static yJ13_bitCount_95d88, Cond.initialized RJ13, Cond.code yJ13_bitCount_95d88 cJ13_bitCount_95d88 2 (some .int), Cond.constantLong RJ13 314 (6148914691236517205), Cond.constantLong RJ13 316 (3689348814741910323), Cond.constantLong RJ13 318 (1085102592571150095), Cond.methodLink RX4 140 yX4_asNumber, Cond.methodLink RL 65 yX5_clause, Cond.instanceMethod yX5_clause]
def wsL_law_r22 : List Cond := [Cond.selects RX5 yX5_clause yX5_clause, Cond.code yX5_clause cX5_clause 3 (some .int), Cond.methodLink RX5 62 yX5_worldsOfClause, Cond.instanceMethod yX5_worldsOfClause, Cond.selects RX5 yX5_worldsOfClause yX5_worldsOfClause, Cond.code yX5_worldsOfClause cX5_worldsOfClause 2 (some .long), Cond.methodLink RX5 56 yX5_truths, Cond.static yX5_truths, Cond.code yX5_truths cX5_truths 6 (some .long), Cond.methodLink RX5 160 yX5_bitsOf, Cond.static yX5_bitsOf, Cond.code yX5_bitsOf cX5_bitsOf 4 (some .int), Cond.methodLink RL 66 yX4_side, Cond.instanceMethod yX4_side, Cond.selects RX4 yX4_side yX4_side, Cond.code yX4_side cX4_side 3 (some .int), Cond.methodLink RX4 144 yX0_signsKnownTo, Cond.methodLink RX4 147 yX0_worldsOfSide, Cond.instanceMethod yX0_worldsOfSide, Cond.selects RX0 yX0_worldsOfSide yX0_worldsOfSide, Cond.code yX0_worldsOfSide cX0_worldsOfSide 5 (some .long), Cond.constantLong RX0 70 (-1), Cond.methodLink RX0 72 yX0_worldsOf, Cond.methodLink RX4 150 yX4_lowestWorld]
def wsL_law_r23 : List Cond := [Cond.static yX4_lowestWorld, Cond.code yX4_lowestWorld cX4_lowestWorld 2 (some .int), Cond.methodLink RL 69 yX5_side, Cond.instanceMethod yX5_side, Cond.selects RX5 yX5_side yX5_side, Cond.code yX5_side cX5_side 3 (some .int), Cond.methodLink RX5 66 yX5_knownTo, Cond.instanceMethod yX5_knownTo, Cond.selects RX5 yX5_knownTo yX5_knownTo, Cond.code yX5_knownTo cX5_knownTo 4 (some .int), Cond.methodLink RX5 70 yX5_worldsOfSide, Cond.instanceMethod yX5_worldsOfSide, Cond.selects RX5 yX5_worldsOfSide yX5_worldsOfSide, Cond.code yX5_worldsOfSide cX5_worldsOfSide 5 (some .long), Cond.constantLong RX5 60 (-1), Cond.methodLink RX5 164 yX5_lowest, Cond.static yX5_lowest, Cond.code yX5_lowest cX5_lowest 3 (some .int), Cond.methodLink RL 70 yX4_step, Cond.instanceMethod yX4_step, Cond.selects RX4 yX4_step yX4_step, Cond.code yX4_step cX4_step 4 (some .int), Cond.methodLink RX4 153 yX2_isKnown, Cond.instanceMethod yX2_isKnown]
def wsL_law_r24 : List Cond := [Cond.selects RX2 yX2_isKnown yX2_isKnown, Cond.code yX2_isKnown cX2_isKnown 1 (some .boolean), Cond.methodLink RX4 156 yX2_has, Cond.methodLink RX4 157 yX2_signsOf, Cond.methodLink RX4 158 yX2_oppositesOf, Cond.methodLink RX4 159 yX2_firstParentOf, Cond.methodLink RX4 162 yX2_secondParentOf, Cond.methodLink RX4 165 yX2_pivotOf, Cond.instanceMethod yX2_pivotOf, Cond.selects RX2 yX2_pivotOf yX2_pivotOf, Cond.code yX2_pivotOf cX2_pivotOf 2 (some .int), Cond.methodLink RL 73 yX5_step, Cond.instanceMethod yX5_step, Cond.selects RX5 yX5_step yX5_step, Cond.code yX5_step cX5_step 3 (some .int), Cond.methodLink RL 74 yX4_partial, Cond.instanceMethod yX4_partial, Cond.selects RX4 yX4_partial yX4_partial, Cond.code yX4_partial cX4_partial 5 (some .int), Cond.methodLink RX4 168 yX2_partialClaim, Cond.methodLink RL 77 yX5_partial, Cond.instanceMethod yX5_partial, Cond.selects RX5 yX5_partial yX5_partial, Cond.code yX5_partial cX5_partial 4 (some .int)]
def wsL_law_r25 : List Cond := [Cond.methodLink RX5 97 yX5_claim, Cond.instanceMethod yX5_claim, Cond.selects RX5 yX5_claim yX5_claim, Cond.code yX5_claim cX5_claim 21 none, Cond.methodLink RX5 94 yX5_worldsOf, Cond.static yX5_worldsOf, Cond.code yX5_worldsOf cX5_worldsOf 4 (some .long), Cond.methodLink RL 78 yX4_middle, Cond.instanceMethod yX4_middle, Cond.selects RX4 yX4_middle yX4_middle, Cond.code yX4_middle cX4_middle 4 (some .int), Cond.methodLink RX4 172 yX2_middleClaim, Cond.instanceMethod yX2_middleClaim, Cond.selects RX2 yX2_middleClaim yX2_middleClaim, Cond.code yX2_middleClaim cX2_middleClaim 2 (some .long), Cond.methodLink RX4 175 yX4_halfOf, Cond.static yX4_halfOf, Cond.code yX4_halfOf cX4_halfOf 3 (some .int), Cond.methodLink RL 81 yX5_middle, Cond.instanceMethod yX5_middle, Cond.selects RX5 yX5_middle yX5_middle, Cond.code yX5_middle cX5_middle 3 (some .int), Cond.methodLink RX5 167 yX5_middleOf, Cond.instanceMethod yX5_middleOf]
def wsL_law_r26 : List Cond := [Cond.selects RX5 yX5_middleOf yX5_middleOf, Cond.code yX5_middleOf cX5_middleOf 2 (some .long), Cond.methodLink RX5 170 yX5_half, Cond.static yX5_half, Cond.code yX5_half cX5_half 3 (some .int), Cond.methodLink RL 82 yX4_outermost, Cond.instanceMethod yX4_outermost, Cond.selects RX4 yX4_outermost yX4_outermost, Cond.code yX4_outermost cX4_outermost 6 (some .int), Cond.methodLink RX4 179 yX0_clash, Cond.instanceMethod yX0_clash, Cond.selects RX0 yX0_clash yX0_clash, Cond.code yX0_clash cX0_clash 1 (some .boolean), Cond.methodLink RX0 79 yX0_worldsOfBoth, Cond.instanceMethod yX0_worldsOfBoth, Cond.selects RX0 yX0_worldsOfBoth yX0_worldsOfBoth, Cond.code yX0_worldsOfBoth cX0_worldsOfBoth 1 (some .long), Cond.methodLink RX0 76 yX0_worldsOfSide, Cond.methodLink RX4 182 yX0_sharedSigns, Cond.instanceMethod yX0_sharedSigns, Cond.selects RX0 yX0_sharedSigns yX0_sharedSigns, Cond.code yX0_sharedSigns cX0_sharedSigns 1 (some .int), Cond.methodLink RX0 63 yX0_signsKnownTo, Cond.methodLink RX4 185 yX4_spread]
def wsL_law_r27 : List Cond := [Cond.static yX4_spread, Cond.code yX4_spread cX4_spread 9 (some .long), Cond.methodLink RL 86 yX5_outermost, Cond.instanceMethod yX5_outermost, Cond.selects RX5 yX5_outermost yX5_outermost, Cond.code yX5_outermost cX5_outermost 3 (some .int), Cond.methodLink RX5 174 yX5_clash, Cond.instanceMethod yX5_clash, Cond.selects RX5 yX5_clash yX5_clash, Cond.code yX5_clash cX5_clash 1 (some .boolean), Cond.methodLink RX5 177 yX5_spread, Cond.instanceMethod yX5_spread, Cond.selects RX5 yX5_spread yX5_spread, Cond.code yX5_spread cX5_spread 8 (some .long), Cond.methodLink RX5 73 yX5_shared, Cond.instanceMethod yX5_shared, Cond.selects RX5 yX5_shared yX5_shared, Cond.code yX5_shared cX5_shared 1 (some .int), Cond.methodLink RL 87 yX4_test, Cond.instanceMethod yX4_test, Cond.selects RX4 yX4_test yX4_test, Cond.code yX4_test cX4_test 5 (some .int), Cond.constantLong RX4 191 (4294967295), Cond.methodLink RL 90 yX5_test]
def wsL_law_r28 : List Cond := [Cond.instanceMethod yX5_test, Cond.selects RX5 yX5_test yX5_test, Cond.code yX5_test cX5_test 5 (some .int), Cond.constantLong RX5 181 (4294967295), Cond.methodLink RL 91 yX4_compare, Cond.instanceMethod yX4_compare, Cond.selects RX4 yX4_compare yX4_compare, Cond.code yX4_compare cX4_compare 6 (some .int), Cond.methodLink RL 94 yX5_compare, Cond.instanceMethod yX5_compare, Cond.selects RX5 yX5_compare yX5_compare, Cond.code yX5_compare cX5_compare 5 (some .int), Cond.methodLink RL 95 yX4_count, Cond.instanceMethod yX4_count, Cond.selects RX4 yX4_count yX4_count, Cond.code yX4_count cX4_count 2 (some .int), Cond.methodLink RX4 193 yX4_stepsOf, Cond.static yX4_stepsOf, Cond.code yX4_stepsOf cX4_stepsOf 1 (some .int), Cond.methodLink RX4 211 yX2_size, Cond.instanceMethod yX2_size, Cond.selects RX2 yX2_size yX2_size, Cond.code yX2_size cX2_size 1 (some .int), Cond.methodLink RX4 197 yX4_worldsOfMiddleClaim]
def wsL_law_r29 : List Cond := [Cond.static yX4_worldsOfMiddleClaim, Cond.code yX4_worldsOfMiddleClaim cX4_worldsOfMiddleClaim 2 (some .int), Cond.methodLink RX4 201 yX0_worldsOfBoth, Cond.methodLink RL 98 yX5_count, Cond.instanceMethod yX5_count, Cond.selects RX5 yX5_count yX5_count, Cond.code yX5_count cX5_count 2 (some .int), Cond.methodLink RX5 183 yX5_needed, Cond.instanceMethod yX5_needed, Cond.selects RX5 yX5_needed yX5_needed, Cond.code yX5_needed cX5_needed 3 (some .int)]
def wsL_law : List Cond := (wsL_law_r1 ++ (wsL_law_r2 ++ (wsL_law_r3 ++ (wsL_law_r4 ++ (wsL_law_r5 ++ (wsL_law_r6 ++ (wsL_law_r7 ++ (wsL_law_r8 ++ (wsL_law_r9 ++ (wsL_law_r10 ++ (wsL_law_r11 ++ (wsL_law_r12 ++ (wsL_law_r13 ++ (wsL_law_r14 ++ (wsL_law_r15 ++ (wsL_law_r16 ++ (wsL_law_r17 ++ (wsL_law_r18 ++ (wsL_law_r19 ++ (wsL_law_r20 ++ (wsL_law_r21 ++ (wsL_law_r22 ++ (wsL_law_r23 ++ (wsL_law_r24 ++ (wsL_law_r25 ++ (wsL_law_r26 ++ (wsL_law_r27 ++ (wsL_law_r28 ++ wsL_law_r29)))))))))))))))))))))))))))) ++ wsX40 ++ wsX50 ++ wsX00 ++ wsX10 ++ wsX30 ++ wsX20 ++ ([] : List Cond)
set_option maxRecDepth 20000 in
theorem wsL_law_in : ∀ w ∈ wsL_law, w ∈ lw_tbl := fun w h => (goodIn_p wsL_law [53, 56, 61, 65, 84, 100, 129, 591, 204, 207, 210, 214, 218, 222, 226, 230, 234, 238, 243, 247, 251, 255, 259, 663, 666, 670, 674, 264, 268, 273, 277, 281, 285, 290, 294, 678, 682, 686, 690, 694, 698, 299, 304, 702, 706, 710, 308, 312, 714, 317, 321, 324, 718, 722, 328, 332, 336, 340, 348, 351, 354, 357, 364, 369, 372, 379, 383, 387, 391, 395, 399, 403, 409, 413, 417, 421, 425, 429, 433, 726, 730, 734, 737, 741, 439, 443, 447, 745, 451, 455, 749, 459, 463, 467, 753, 471, 757, 476, 761, 480, 486, 490, 765, 769, 772, 775, 498, 503, 508, 779, 783, 787, 791, 512, 516, 525, 795, 529, 799, 803, 806, 534, 538, 541, 810, 814, 817, 545, 549, 553, 558, 562, 821, 825, 829, 833, 566, 837, 571, 842, 575, 578, 582, 585, 846, 850] (by decide +kernel) (by decide +kernel) w h).1
theorem inlX0 : ∀ w ∈ wsX00, w ∈ wsL_law := fun _ h => List.mem_append_left _ (List.mem_append_left _ (List.mem_append_left _ (List.mem_append_left _ (List.mem_append_right _ h))))
theorem inX0 : ∀ w ∈ wsX00, w ∈ lw_tbl := fun w h => wsL_law_in w (inlX0 w h)
theorem inlX1 : ∀ w ∈ wsX10, w ∈ wsL_law := fun _ h => List.mem_append_left _ (List.mem_append_left _ (List.mem_append_left _ (List.mem_append_right _ h)))
theorem inX1 : ∀ w ∈ wsX10, w ∈ lw_tbl := fun w h => wsL_law_in w (inlX1 w h)
theorem inlX2 : ∀ w ∈ wsX20, w ∈ wsL_law := fun _ h => List.mem_append_left _ (List.mem_append_right _ h)
theorem inX2 : ∀ w ∈ wsX20, w ∈ lw_tbl := fun w h => wsL_law_in w (inlX2 w h)
theorem inlX3 : ∀ w ∈ wsX30, w ∈ wsL_law := fun _ h => List.mem_append_left _ (List.mem_append_left _ (List.mem_append_right _ h))
theorem inX3 : ∀ w ∈ wsX30, w ∈ lw_tbl := fun w h => wsL_law_in w (inlX3 w h)
theorem inlX4 : ∀ w ∈ wsX40, w ∈ wsL_law := fun _ h => List.mem_append_left _ (List.mem_append_left _ (List.mem_append_left _ (List.mem_append_left _ (List.mem_append_left _ (List.mem_append_left _ (List.mem_append_right _ h))))))
theorem inX4 : ∀ w ∈ wsX40, w ∈ lw_tbl := fun w h => wsL_law_in w (inlX4 w h)
theorem inlX5 : ∀ w ∈ wsX50, w ∈ wsL_law := fun _ h => List.mem_append_left _ (List.mem_append_left _ (List.mem_append_left _ (List.mem_append_left _ (List.mem_append_left _ (List.mem_append_right _ h)))))
theorem inX5 : ∀ w ∈ wsX50, w ∈ lw_tbl := fun w h => wsL_law_in w (inlX5 w h)
theorem inJ6 : ∀ w ∈ wsJ60, w ∈ lw_tbl := by decide +kernel
theorem inJ13 : ∀ w ∈ wsJ130, w ∈ lw_tbl := by decide +kernel
theorem inJ9 : ∀ w ∈ wsJ90, w ∈ lw_tbl := by decide +kernel
theorem dX0_init_0 : decode cX0_init 0 = .ok (.aload_n 0, 1) := by decide +kernel
theorem dX0_init_1 : decode cX0_init 1 = .ok (.invokespecial 1, 3) := by decide +kernel
theorem dX0_init_4 : decode cX0_init 4 = .ok (.iconst 0, 1) := by decide +kernel
theorem dX0_init_5 : decode cX0_init 5 = .ok (.iload_n 1, 1) := by decide +kernel
theorem dX0_init_6 : decode cX0_init 6 = .ok (.invokestatic 7, 3) := by decide +kernel
theorem dX0_init_9 : decode cX0_init 9 = .ok (.istore_n 2, 1) := by decide +kernel
theorem dX0_init_10 : decode cX0_init 10 = .ok (.aload_n 0, 1) := by decide +kernel
theorem dX0_init_11 : decode cX0_init 11 = .ok (.iload_n 2, 1) := by decide +kernel
theorem dX0_init_12 : decode cX0_init 12 = .ok (.newarray .int, 2) := by decide +kernel
theorem dX0_init_14 : decode cX0_init 14 = .ok (.putfield 13, 3) := by decide +kernel
theorem dX0_init_17 : decode cX0_init 17 = .ok (.aload_n 0, 1) := by decide +kernel
theorem dX0_init_18 : decode cX0_init 18 = .ok (.iload_n 2, 1) := by decide +kernel
theorem dX0_init_19 : decode cX0_init 19 = .ok (.newarray .int, 2) := by decide +kernel
theorem dX0_init_21 : decode cX0_init 21 = .ok (.putfield 19, 3) := by decide +kernel
theorem dX0_init_24 : decode cX0_init 24 = .ok (.aload_n 0, 1) := by decide +kernel
theorem dX0_init_25 : decode cX0_init 25 = .ok (.iload_n 2, 1) := by decide +kernel
theorem dX0_init_26 : decode cX0_init 26 = .ok (.newarray .int, 2) := by decide +kernel
theorem dX0_init_28 : decode cX0_init 28 = .ok (.putfield 22, 3) := by decide +kernel
theorem dX0_init_31 : decode cX0_init 31 = .ok (.aload_n 0, 1) := by decide +kernel
theorem dX0_init_32 : decode cX0_init 32 = .ok (.iconst 0, 1) := by decide +kernel
theorem dX0_init_33 : decode cX0_init 33 = .ok (.putfield 25, 3) := by decide +kernel
theorem dX0_init_36 : decode cX0_init 36 = .ok (.return_, 1) := by decide +kernel
theorem dX0_size_0 : decode cX0_size 0 = .ok (.aload_n 0, 1) := by decide +kernel
theorem dX0_size_1 : decode cX0_size 1 = .ok (.getfield 25, 3) := by decide +kernel
theorem dX0_size_4 : decode cX0_size 4 = .ok (.ireturn, 1) := by decide +kernel
theorem dX0_has_0 : decode cX0_has 0 = .ok (.iload_n 1, 1) := by decide +kernel
theorem dX0_has_1 : decode cX0_has 1 = .ok (.ifCond .lt 24, 3) := by decide +kernel
theorem dX0_has_4 : decode cX0_has 4 = .ok (.iload_n 1, 1) := by decide +kernel
theorem dX0_has_5 : decode cX0_has 5 = .ok (.aload_n 0, 1) := by decide +kernel
theorem dX0_has_6 : decode cX0_has 6 = .ok (.getfield 25, 3) := by decide +kernel
theorem dX0_has_9 : decode cX0_has 9 = .ok (.if_icmp .ge 16, 3) := by decide +kernel
theorem dX0_has_12 : decode cX0_has 12 = .ok (.iload_n 1, 1) := by decide +kernel
theorem dX0_has_13 : decode cX0_has 13 = .ok (.aload_n 0, 1) := by decide +kernel
theorem dX0_has_14 : decode cX0_has 14 = .ok (.getfield 13, 3) := by decide +kernel
theorem dX0_has_17 : decode cX0_has 17 = .ok (.arraylength, 1) := by decide +kernel
theorem dX0_has_18 : decode cX0_has 18 = .ok (.if_icmp .ge 7, 3) := by decide +kernel
theorem dX0_has_21 : decode cX0_has 21 = .ok (.iconst 1, 1) := by decide +kernel
theorem dX0_has_22 : decode cX0_has 22 = .ok (.goto 4, 3) := by decide +kernel
theorem dX0_has_25 : decode cX0_has 25 = .ok (.iconst 0, 1) := by decide +kernel
theorem dX0_has_26 : decode cX0_has 26 = .ok (.ireturn, 1) := by decide +kernel
set_option maxRecDepth 20000 in
theorem ggX0_sideOf_X0_has : GoodIn wsX0_sideOf wsX0_has := goodIn_r _ [6, 7, 1, 8, 9, 10, 11] (by decide +kernel) (by decide +kernel)
set_option maxRecDepth 20000 in
theorem gX0_sideOf_X0_has : GoodIn wsX0_sideOf (wsV RX0 29 RX0 yX0_has wsX0_has) := goodIn_app (goodIn_of _ (by decide +kernel)) ggX0_sideOf_X0_has
theorem dX0_sideOf_0 : decode cX0_sideOf 0 = .ok (.aload_n 0, 1) := by decide +kernel
theorem dX0_sideOf_1 : decode cX0_sideOf 1 = .ok (.iload_n 1, 1) := by decide +kernel
theorem dX0_sideOf_2 : decode cX0_sideOf 2 = .ok (.invokevirtual 29, 3) := by decide +kernel
theorem dX0_sideOf_5 : decode cX0_sideOf 5 = .ok (.ifCond .eq 12, 3) := by decide +kernel
theorem dX0_sideOf_8 : decode cX0_sideOf 8 = .ok (.aload_n 0, 1) := by decide +kernel
theorem dX0_sideOf_9 : decode cX0_sideOf 9 = .ok (.getfield 13, 3) := by decide +kernel
theorem dX0_sideOf_12 : decode cX0_sideOf 12 = .ok (.iload_n 1, 1) := by decide +kernel
theorem dX0_sideOf_13 : decode cX0_sideOf 13 = .ok (.iaload, 1) := by decide +kernel
theorem dX0_sideOf_14 : decode cX0_sideOf 14 = .ok (.goto 4, 3) := by decide +kernel
theorem dX0_sideOf_17 : decode cX0_sideOf 17 = .ok (.iconst 0, 1) := by decide +kernel
theorem dX0_sideOf_18 : decode cX0_sideOf 18 = .ok (.ireturn, 1) := by decide +kernel
set_option maxRecDepth 20000 in
theorem ggX0_signsOf_X0_has : GoodIn wsX0_signsOf wsX0_has := goodIn_r _ [6, 7, 8, 9, 10, 11, 12] (by decide +kernel) (by decide +kernel)
set_option maxRecDepth 20000 in
theorem gX0_signsOf_X0_has : GoodIn wsX0_signsOf (wsV RX0 29 RX0 yX0_has wsX0_has) := goodIn_app (goodIn_of _ (by decide +kernel)) ggX0_signsOf_X0_has
theorem dX0_signsOf_0 : decode cX0_signsOf 0 = .ok (.aload_n 0, 1) := by decide +kernel
theorem dX0_signsOf_1 : decode cX0_signsOf 1 = .ok (.iload_n 1, 1) := by decide +kernel
theorem dX0_signsOf_2 : decode cX0_signsOf 2 = .ok (.invokevirtual 29, 3) := by decide +kernel
theorem dX0_signsOf_5 : decode cX0_signsOf 5 = .ok (.ifCond .eq 12, 3) := by decide +kernel
theorem dX0_signsOf_8 : decode cX0_signsOf 8 = .ok (.aload_n 0, 1) := by decide +kernel
theorem dX0_signsOf_9 : decode cX0_signsOf 9 = .ok (.getfield 19, 3) := by decide +kernel
theorem dX0_signsOf_12 : decode cX0_signsOf 12 = .ok (.iload_n 1, 1) := by decide +kernel
theorem dX0_signsOf_13 : decode cX0_signsOf 13 = .ok (.iaload, 1) := by decide +kernel
theorem dX0_signsOf_14 : decode cX0_signsOf 14 = .ok (.goto 4, 3) := by decide +kernel
theorem dX0_signsOf_17 : decode cX0_signsOf 17 = .ok (.iconst 0, 1) := by decide +kernel
theorem dX0_signsOf_18 : decode cX0_signsOf 18 = .ok (.ireturn, 1) := by decide +kernel
set_option maxRecDepth 20000 in
theorem ggX0_oppositesOf_X0_has : GoodIn wsX0_oppositesOf wsX0_has := goodIn_r _ [6, 7, 8, 9, 10, 11, 12] (by decide +kernel) (by decide +kernel)
set_option maxRecDepth 20000 in
theorem gX0_oppositesOf_X0_has : GoodIn wsX0_oppositesOf (wsV RX0 29 RX0 yX0_has wsX0_has) := goodIn_app (goodIn_of _ (by decide +kernel)) ggX0_oppositesOf_X0_has
theorem dX0_oppositesOf_0 : decode cX0_oppositesOf 0 = .ok (.aload_n 0, 1) := by decide +kernel
theorem dX0_oppositesOf_1 : decode cX0_oppositesOf 1 = .ok (.iload_n 1, 1) := by decide +kernel
theorem dX0_oppositesOf_2 : decode cX0_oppositesOf 2 = .ok (.invokevirtual 29, 3) := by decide +kernel
theorem dX0_oppositesOf_5 : decode cX0_oppositesOf 5 = .ok (.ifCond .eq 12, 3) := by decide +kernel
theorem dX0_oppositesOf_8 : decode cX0_oppositesOf 8 = .ok (.aload_n 0, 1) := by decide +kernel
theorem dX0_oppositesOf_9 : decode cX0_oppositesOf 9 = .ok (.getfield 22, 3) := by decide +kernel
theorem dX0_oppositesOf_12 : decode cX0_oppositesOf 12 = .ok (.iload_n 1, 1) := by decide +kernel
theorem dX0_oppositesOf_13 : decode cX0_oppositesOf 13 = .ok (.iaload, 1) := by decide +kernel
theorem dX0_oppositesOf_14 : decode cX0_oppositesOf 14 = .ok (.goto 4, 3) := by decide +kernel
theorem dX0_oppositesOf_17 : decode cX0_oppositesOf 17 = .ok (.iconst 0, 1) := by decide +kernel
theorem dX0_oppositesOf_18 : decode cX0_oppositesOf 18 = .ok (.ireturn, 1) := by decide +kernel
theorem dX0_clear_0 : decode cX0_clear 0 = .ok (.aload_n 0, 1) := by decide +kernel
theorem dX0_clear_1 : decode cX0_clear 1 = .ok (.iconst 0, 1) := by decide +kernel
theorem dX0_clear_2 : decode cX0_clear 2 = .ok (.putfield 25, 3) := by decide +kernel
theorem dX0_clear_5 : decode cX0_clear 5 = .ok (.return_, 1) := by decide +kernel
theorem dX0_append_0 : decode cX0_append 0 = .ok (.aload_n 0, 1) := by decide +kernel
theorem dX0_append_1 : decode cX0_append 1 = .ok (.getfield 25, 3) := by decide +kernel
theorem dX0_append_4 : decode cX0_append 4 = .ok (.ifCond .lt 55, 3) := by decide +kernel
theorem dX0_append_7 : decode cX0_append 7 = .ok (.aload_n 0, 1) := by decide +kernel
theorem dX0_append_8 : decode cX0_append 8 = .ok (.getfield 25, 3) := by decide +kernel
theorem dX0_append_11 : decode cX0_append 11 = .ok (.aload_n 0, 1) := by decide +kernel
theorem dX0_append_12 : decode cX0_append 12 = .ok (.getfield 13, 3) := by decide +kernel
theorem dX0_append_15 : decode cX0_append 15 = .ok (.arraylength, 1) := by decide +kernel
theorem dX0_append_16 : decode cX0_append 16 = .ok (.if_icmp .ge 43, 3) := by decide +kernel
theorem dX0_append_19 : decode cX0_append 19 = .ok (.aload_n 0, 1) := by decide +kernel
theorem dX0_append_20 : decode cX0_append 20 = .ok (.getfield 13, 3) := by decide +kernel
theorem dX0_append_23 : decode cX0_append 23 = .ok (.aload_n 0, 1) := by decide +kernel
theorem dX0_append_24 : decode cX0_append 24 = .ok (.getfield 25, 3) := by decide +kernel
theorem dX0_append_27 : decode cX0_append 27 = .ok (.iload_n 1, 1) := by decide +kernel
theorem dX0_append_28 : decode cX0_append 28 = .ok (.iastore, 1) := by decide +kernel
theorem dX0_append_29 : decode cX0_append 29 = .ok (.aload_n 0, 1) := by decide +kernel
theorem dX0_append_30 : decode cX0_append 30 = .ok (.getfield 19, 3) := by decide +kernel
theorem dX0_append_33 : decode cX0_append 33 = .ok (.aload_n 0, 1) := by decide +kernel
theorem dX0_append_34 : decode cX0_append 34 = .ok (.getfield 25, 3) := by decide +kernel
theorem dX0_append_37 : decode cX0_append 37 = .ok (.iload_n 2, 1) := by decide +kernel
theorem dX0_append_38 : decode cX0_append 38 = .ok (.iastore, 1) := by decide +kernel
theorem dX0_append_39 : decode cX0_append 39 = .ok (.aload_n 0, 1) := by decide +kernel
theorem dX0_append_40 : decode cX0_append 40 = .ok (.getfield 22, 3) := by decide +kernel
theorem dX0_append_43 : decode cX0_append 43 = .ok (.aload_n 0, 1) := by decide +kernel
theorem dX0_append_44 : decode cX0_append 44 = .ok (.getfield 25, 3) := by decide +kernel
theorem dX0_append_47 : decode cX0_append 47 = .ok (.iload_n 3, 1) := by decide +kernel
theorem dX0_append_48 : decode cX0_append 48 = .ok (.iastore, 1) := by decide +kernel
theorem dX0_append_49 : decode cX0_append 49 = .ok (.aload_n 0, 1) := by decide +kernel
theorem dX0_append_50 : decode cX0_append 50 = .ok (.dup, 1) := by decide +kernel
theorem dX0_append_51 : decode cX0_append 51 = .ok (.getfield 25, 3) := by decide +kernel
theorem dX0_append_54 : decode cX0_append 54 = .ok (.iconst 1, 1) := by decide +kernel
theorem dX0_append_55 : decode cX0_append 55 = .ok (.iadd, 1) := by decide +kernel
theorem dX0_append_56 : decode cX0_append 56 = .ok (.putfield 25, 3) := by decide +kernel
theorem dX0_append_59 : decode cX0_append 59 = .ok (.return_, 1) := by decide +kernel
set_option maxRecDepth 20000 in
theorem ggX0_appendEach_X0_size : GoodIn wsX0_appendEach wsX0_size := goodIn_r _ [5, 6, 30, 31, 32, 33] (by decide +kernel) (by decide +kernel)
set_option maxRecDepth 20000 in
theorem gX0_appendEach_X0_size : GoodIn wsX0_appendEach (wsV RX0 33 RX0 yX0_size wsX0_size) := goodIn_app (goodIn_of _ (by decide +kernel)) ggX0_appendEach_X0_size
set_option maxRecDepth 20000 in
theorem ggX0_appendEach_X0_sideOf : GoodIn wsX0_appendEach wsX0_sideOf := goodIn_r _ [10, 11, 12, 13, 14, 4, 15, 6, 30, 31, 32, 33] (by decide +kernel) (by decide +kernel)
set_option maxRecDepth 20000 in
theorem gX0_appendEach_X0_sideOf : GoodIn wsX0_appendEach (wsV RX0 36 RX0 yX0_sideOf wsX0_sideOf) := goodIn_app (goodIn_of _ (by decide +kernel)) ggX0_appendEach_X0_sideOf
set_option maxRecDepth 20000 in
theorem ggX0_appendEach_X0_signsOf : GoodIn wsX0_appendEach wsX0_signsOf := goodIn_r _ [19, 20, 12, 13, 14, 4, 15, 6, 11, 30, 31, 32, 33] (by decide +kernel) (by decide +kernel)
set_option maxRecDepth 20000 in
theorem gX0_appendEach_X0_signsOf : GoodIn wsX0_appendEach (wsV RX0 40 RX0 yX0_signsOf wsX0_signsOf) := goodIn_app (goodIn_of _ (by decide +kernel)) ggX0_appendEach_X0_signsOf
set_option maxRecDepth 20000 in
theorem ggX0_appendEach_X0_oppositesOf : GoodIn wsX0_appendEach wsX0_oppositesOf := goodIn_r _ [24, 25, 12, 13, 14, 4, 15, 6, 11, 30, 31, 32, 33] (by decide +kernel) (by decide +kernel)
set_option maxRecDepth 20000 in
theorem gX0_appendEach_X0_oppositesOf : GoodIn wsX0_appendEach (wsV RX0 43 RX0 yX0_oppositesOf wsX0_oppositesOf) := goodIn_app (goodIn_of _ (by decide +kernel)) ggX0_appendEach_X0_oppositesOf
set_option maxRecDepth 20000 in
theorem ggX0_appendEach_X0_append : GoodIn wsX0_appendEach wsX0_append := goodIn_r _ [29, 6, 11, 20, 25, 30, 31, 32, 33] (by decide +kernel) (by decide +kernel)
set_option maxRecDepth 20000 in
theorem gX0_appendEach_X0_append : GoodIn wsX0_appendEach (wsV RX0 46 RX0 yX0_append wsX0_append) := goodIn_app (goodIn_of _ (by decide +kernel)) ggX0_appendEach_X0_append
theorem dX0_appendEach_0 : decode cX0_appendEach 0 = .ok (.aload_n 1, 1) := by decide +kernel
theorem dX0_appendEach_1 : decode cX0_appendEach 1 = .ok (.invokevirtual 33, 3) := by decide +kernel
theorem dX0_appendEach_4 : decode cX0_appendEach 4 = .ok (.istore_n 2, 1) := by decide +kernel
theorem dX0_appendEach_5 : decode cX0_appendEach 5 = .ok (.iconst 0, 1) := by decide +kernel
theorem dX0_appendEach_6 : decode cX0_appendEach 6 = .ok (.istore_n 3, 1) := by decide +kernel
theorem dX0_appendEach_7 : decode cX0_appendEach 7 = .ok (.iload_n 3, 1) := by decide +kernel
theorem dX0_appendEach_8 : decode cX0_appendEach 8 = .ok (.iload_n 2, 1) := by decide +kernel
theorem dX0_appendEach_9 : decode cX0_appendEach 9 = .ok (.if_icmp .ge 28, 3) := by decide +kernel
theorem dX0_appendEach_12 : decode cX0_appendEach 12 = .ok (.aload_n 0, 1) := by decide +kernel
theorem dX0_appendEach_13 : decode cX0_appendEach 13 = .ok (.aload_n 1, 1) := by decide +kernel
theorem dX0_appendEach_14 : decode cX0_appendEach 14 = .ok (.iload_n 3, 1) := by decide +kernel
theorem dX0_appendEach_15 : decode cX0_appendEach 15 = .ok (.invokevirtual 36, 3) := by decide +kernel
theorem dX0_appendEach_18 : decode cX0_appendEach 18 = .ok (.aload_n 1, 1) := by decide +kernel
theorem dX0_appendEach_19 : decode cX0_appendEach 19 = .ok (.iload_n 3, 1) := by decide +kernel
theorem dX0_appendEach_20 : decode cX0_appendEach 20 = .ok (.invokevirtual 40, 3) := by decide +kernel
theorem dX0_appendEach_23 : decode cX0_appendEach 23 = .ok (.aload_n 1, 1) := by decide +kernel
theorem dX0_appendEach_24 : decode cX0_appendEach 24 = .ok (.iload_n 3, 1) := by decide +kernel
theorem dX0_appendEach_25 : decode cX0_appendEach 25 = .ok (.invokevirtual 43, 3) := by decide +kernel
theorem dX0_appendEach_28 : decode cX0_appendEach 28 = .ok (.invokevirtual 46, 3) := by decide +kernel
theorem dX0_appendEach_31 : decode cX0_appendEach 31 = .ok (.iinc 3 1, 3) := by decide +kernel
theorem dX0_appendEach_34 : decode cX0_appendEach 34 = .ok (.goto (-27), 3) := by decide +kernel
theorem dX0_appendEach_37 : decode cX0_appendEach 37 = .ok (.return_, 1) := by decide +kernel
set_option maxRecDepth 20000 in
theorem ggX0_becomeLike_X0_clear : GoodIn wsX0_becomeLike wsX0_clear := goodIn_r _ [5, 6, 38, 39, 40, 41] (by decide +kernel) (by decide +kernel)
set_option maxRecDepth 20000 in
theorem gX0_becomeLike_X0_clear : GoodIn wsX0_becomeLike (wsV RX0 50 RX0 yX0_clear wsX0_clear) := goodIn_app (goodIn_of _ (by decide +kernel)) ggX0_becomeLike_X0_clear
set_option maxRecDepth 20000 in
theorem ggX0_becomeLike_X0_appendEach : GoodIn wsX0_becomeLike wsX0_appendEach := goodIn_r _ [10, 11, 12, 13, 4, 14, 6, 15, 16, 17, 18, 19, 20, 21, 22, 23, 24, 25, 26, 27, 28, 29, 30, 31, 32, 33, 34, 35, 36, 37, 38, 39, 40, 41] (by decide +kernel) (by decide +kernel)
set_option maxRecDepth 20000 in
theorem gX0_becomeLike_X0_appendEach : GoodIn wsX0_becomeLike (wsV RX0 53 RX0 yX0_appendEach wsX0_appendEach) := goodIn_app (goodIn_of _ (by decide +kernel)) ggX0_becomeLike_X0_appendEach
theorem dX0_becomeLike_0 : decode cX0_becomeLike 0 = .ok (.aload_n 0, 1) := by decide +kernel
theorem dX0_becomeLike_1 : decode cX0_becomeLike 1 = .ok (.invokevirtual 50, 3) := by decide +kernel
theorem dX0_becomeLike_4 : decode cX0_becomeLike 4 = .ok (.aload_n 0, 1) := by decide +kernel
theorem dX0_becomeLike_5 : decode cX0_becomeLike 5 = .ok (.aload_n 1, 1) := by decide +kernel
theorem dX0_becomeLike_6 : decode cX0_becomeLike 6 = .ok (.invokevirtual 53, 3) := by decide +kernel
theorem dX0_becomeLike_9 : decode cX0_becomeLike 9 = .ok (.return_, 1) := by decide +kernel
set_option maxRecDepth 20000 in
theorem ggX0_drop_X0_has : GoodIn wsX0_drop wsX0_has := goodIn_r _ [9, 1, 2, 10, 11, 12, 13] (by decide +kernel) (by decide +kernel)
set_option maxRecDepth 20000 in
theorem gX0_drop_X0_has : GoodIn wsX0_drop (wsV RX0 29 RX0 yX0_has wsX0_has) := goodIn_app (goodIn_of _ (by decide +kernel)) ggX0_drop_X0_has
theorem dX0_drop_0 : decode cX0_drop 0 = .ok (.aload_n 0, 1) := by decide +kernel
theorem dX0_drop_1 : decode cX0_drop 1 = .ok (.iload_n 1, 1) := by decide +kernel
theorem dX0_drop_2 : decode cX0_drop 2 = .ok (.invokevirtual 29, 3) := by decide +kernel
theorem dX0_drop_5 : decode cX0_drop 5 = .ok (.ifCond .ne 4, 3) := by decide +kernel
theorem dX0_drop_8 : decode cX0_drop 8 = .ok (.return_, 1) := by decide +kernel
theorem dX0_drop_9 : decode cX0_drop 9 = .ok (.iload_n 1, 1) := by decide +kernel
theorem dX0_drop_10 : decode cX0_drop 10 = .ok (.iconst 1, 1) := by decide +kernel
theorem dX0_drop_11 : decode cX0_drop 11 = .ok (.iadd, 1) := by decide +kernel
theorem dX0_drop_12 : decode cX0_drop 12 = .ok (.istore_n 2, 1) := by decide +kernel
theorem dX0_drop_13 : decode cX0_drop 13 = .ok (.iload_n 2, 1) := by decide +kernel
theorem dX0_drop_14 : decode cX0_drop 14 = .ok (.aload_n 0, 1) := by decide +kernel
theorem dX0_drop_15 : decode cX0_drop 15 = .ok (.getfield 25, 3) := by decide +kernel
theorem dX0_drop_18 : decode cX0_drop 18 = .ok (.if_icmp .ge 60, 3) := by decide +kernel
theorem dX0_drop_21 : decode cX0_drop 21 = .ok (.iload_n 2, 1) := by decide +kernel
theorem dX0_drop_22 : decode cX0_drop 22 = .ok (.aload_n 0, 1) := by decide +kernel
theorem dX0_drop_23 : decode cX0_drop 23 = .ok (.getfield 13, 3) := by decide +kernel
theorem dX0_drop_26 : decode cX0_drop 26 = .ok (.arraylength, 1) := by decide +kernel
theorem dX0_drop_27 : decode cX0_drop 27 = .ok (.if_icmp .ge 51, 3) := by decide +kernel
theorem dX0_drop_30 : decode cX0_drop 30 = .ok (.aload_n 0, 1) := by decide +kernel
theorem dX0_drop_31 : decode cX0_drop 31 = .ok (.getfield 13, 3) := by decide +kernel
theorem dX0_drop_34 : decode cX0_drop 34 = .ok (.iload_n 2, 1) := by decide +kernel
theorem dX0_drop_35 : decode cX0_drop 35 = .ok (.iconst 1, 1) := by decide +kernel
theorem dX0_drop_36 : decode cX0_drop 36 = .ok (.isub, 1) := by decide +kernel
theorem dX0_drop_37 : decode cX0_drop 37 = .ok (.aload_n 0, 1) := by decide +kernel
theorem dX0_drop_38 : decode cX0_drop 38 = .ok (.getfield 13, 3) := by decide +kernel
theorem dX0_drop_41 : decode cX0_drop 41 = .ok (.iload_n 2, 1) := by decide +kernel
theorem dX0_drop_42 : decode cX0_drop 42 = .ok (.iaload, 1) := by decide +kernel
theorem dX0_drop_43 : decode cX0_drop 43 = .ok (.iastore, 1) := by decide +kernel
theorem dX0_drop_44 : decode cX0_drop 44 = .ok (.aload_n 0, 1) := by decide +kernel
theorem dX0_drop_45 : decode cX0_drop 45 = .ok (.getfield 19, 3) := by decide +kernel
theorem dX0_drop_48 : decode cX0_drop 48 = .ok (.iload_n 2, 1) := by decide +kernel
theorem dX0_drop_49 : decode cX0_drop 49 = .ok (.iconst 1, 1) := by decide +kernel
theorem dX0_drop_50 : decode cX0_drop 50 = .ok (.isub, 1) := by decide +kernel
theorem dX0_drop_51 : decode cX0_drop 51 = .ok (.aload_n 0, 1) := by decide +kernel
theorem dX0_drop_52 : decode cX0_drop 52 = .ok (.getfield 19, 3) := by decide +kernel
theorem dX0_drop_55 : decode cX0_drop 55 = .ok (.iload_n 2, 1) := by decide +kernel
theorem dX0_drop_56 : decode cX0_drop 56 = .ok (.iaload, 1) := by decide +kernel
theorem dX0_drop_57 : decode cX0_drop 57 = .ok (.iastore, 1) := by decide +kernel
theorem dX0_drop_58 : decode cX0_drop 58 = .ok (.aload_n 0, 1) := by decide +kernel
theorem dX0_drop_59 : decode cX0_drop 59 = .ok (.getfield 22, 3) := by decide +kernel
theorem dX0_drop_62 : decode cX0_drop 62 = .ok (.iload_n 2, 1) := by decide +kernel
theorem dX0_drop_63 : decode cX0_drop 63 = .ok (.iconst 1, 1) := by decide +kernel
theorem dX0_drop_64 : decode cX0_drop 64 = .ok (.isub, 1) := by decide +kernel
theorem dX0_drop_65 : decode cX0_drop 65 = .ok (.aload_n 0, 1) := by decide +kernel
theorem dX0_drop_66 : decode cX0_drop 66 = .ok (.getfield 22, 3) := by decide +kernel
theorem dX0_drop_69 : decode cX0_drop 69 = .ok (.iload_n 2, 1) := by decide +kernel
theorem dX0_drop_70 : decode cX0_drop 70 = .ok (.iaload, 1) := by decide +kernel
theorem dX0_drop_71 : decode cX0_drop 71 = .ok (.iastore, 1) := by decide +kernel
theorem dX0_drop_72 : decode cX0_drop 72 = .ok (.iinc 2 1, 3) := by decide +kernel
theorem dX0_drop_75 : decode cX0_drop 75 = .ok (.goto (-62), 3) := by decide +kernel
theorem dX0_drop_78 : decode cX0_drop 78 = .ok (.aload_n 0, 1) := by decide +kernel
theorem dX0_drop_79 : decode cX0_drop 79 = .ok (.dup, 1) := by decide +kernel
theorem dX0_drop_80 : decode cX0_drop 80 = .ok (.getfield 25, 3) := by decide +kernel
theorem dX0_drop_83 : decode cX0_drop 83 = .ok (.iconst 1, 1) := by decide +kernel
theorem dX0_drop_84 : decode cX0_drop 84 = .ok (.isub, 1) := by decide +kernel
theorem dX0_drop_85 : decode cX0_drop 85 = .ok (.putfield 25, 3) := by decide +kernel
theorem dX0_drop_88 : decode cX0_drop 88 = .ok (.return_, 1) := by decide +kernel
set_option maxRecDepth 20000 in
theorem ggX0_changeSide_X0_has : GoodIn wsX0_changeSide wsX0_has := goodIn_r _ [6, 7, 1, 8, 9, 10, 11] (by decide +kernel) (by decide +kernel)
set_option maxRecDepth 20000 in
theorem gX0_changeSide_X0_has : GoodIn wsX0_changeSide (wsV RX0 29 RX0 yX0_has wsX0_has) := goodIn_app (goodIn_of _ (by decide +kernel)) ggX0_changeSide_X0_has
theorem dX0_changeSide_0 : decode cX0_changeSide 0 = .ok (.aload_n 0, 1) := by decide +kernel
theorem dX0_changeSide_1 : decode cX0_changeSide 1 = .ok (.iload_n 1, 1) := by decide +kernel
theorem dX0_changeSide_2 : decode cX0_changeSide 2 = .ok (.invokevirtual 29, 3) := by decide +kernel
theorem dX0_changeSide_5 : decode cX0_changeSide 5 = .ok (.ifCond .eq 17, 3) := by decide +kernel
theorem dX0_changeSide_8 : decode cX0_changeSide 8 = .ok (.aload_n 0, 1) := by decide +kernel
theorem dX0_changeSide_9 : decode cX0_changeSide 9 = .ok (.getfield 13, 3) := by decide +kernel
theorem dX0_changeSide_12 : decode cX0_changeSide 12 = .ok (.iload_n 1, 1) := by decide +kernel
theorem dX0_changeSide_13 : decode cX0_changeSide 13 = .ok (.iconst 1, 1) := by decide +kernel
theorem dX0_changeSide_14 : decode cX0_changeSide 14 = .ok (.aload_n 0, 1) := by decide +kernel
theorem dX0_changeSide_15 : decode cX0_changeSide 15 = .ok (.getfield 13, 3) := by decide +kernel
theorem dX0_changeSide_18 : decode cX0_changeSide 18 = .ok (.iload_n 1, 1) := by decide +kernel
theorem dX0_changeSide_19 : decode cX0_changeSide 19 = .ok (.iaload, 1) := by decide +kernel
theorem dX0_changeSide_20 : decode cX0_changeSide 20 = .ok (.isub, 1) := by decide +kernel
theorem dX0_changeSide_21 : decode cX0_changeSide 21 = .ok (.iastore, 1) := by decide +kernel
theorem dX0_changeSide_22 : decode cX0_changeSide 22 = .ok (.return_, 1) := by decide +kernel
set_option maxRecDepth 20000 in
theorem ggX0_sizeOfSide_X0_sideOf : GoodIn wsX0_sizeOfSide wsX0_sideOf := goodIn_r _ [6, 7, 8, 9, 10, 5, 11, 1, 15, 16, 17, 18] (by decide +kernel) (by decide +kernel)
set_option maxRecDepth 20000 in
theorem gX0_sizeOfSide_X0_sideOf : GoodIn wsX0_sizeOfSide (wsV RX0 36 RX0 yX0_sideOf wsX0_sideOf) := goodIn_app (goodIn_of _ (by decide +kernel)) ggX0_sizeOfSide_X0_sideOf
set_option maxRecDepth 20000 in
theorem ggX0_sizeOfSide_X4_asNumber : GoodIn wsX0_sizeOfSide wsX4_asNumber := goodIn_r _ [14] (by decide +kernel) (by decide +kernel)
set_option maxRecDepth 20000 in
theorem gX0_sizeOfSide_X4_asNumber_n57 : GoodIn wsX0_sizeOfSide (wsX4_asNumber) := ggX0_sizeOfSide_X4_asNumber
theorem dX0_sizeOfSide_0 : decode cX0_sizeOfSide 0 = .ok (.iconst 0, 1) := by decide +kernel
theorem dX0_sizeOfSide_1 : decode cX0_sizeOfSide 1 = .ok (.istore_n 2, 1) := by decide +kernel
theorem dX0_sizeOfSide_2 : decode cX0_sizeOfSide 2 = .ok (.iconst 0, 1) := by decide +kernel
theorem dX0_sizeOfSide_3 : decode cX0_sizeOfSide 3 = .ok (.istore_n 3, 1) := by decide +kernel
theorem dX0_sizeOfSide_4 : decode cX0_sizeOfSide 4 = .ok (.iload_n 3, 1) := by decide +kernel
theorem dX0_sizeOfSide_5 : decode cX0_sizeOfSide 5 = .ok (.aload_n 0, 1) := by decide +kernel
theorem dX0_sizeOfSide_6 : decode cX0_sizeOfSide 6 = .ok (.getfield 25, 3) := by decide +kernel
theorem dX0_sizeOfSide_9 : decode cX0_sizeOfSide 9 = .ok (.if_icmp .ge 29, 3) := by decide +kernel
theorem dX0_sizeOfSide_12 : decode cX0_sizeOfSide 12 = .ok (.iload_n 2, 1) := by decide +kernel
theorem dX0_sizeOfSide_13 : decode cX0_sizeOfSide 13 = .ok (.aload_n 0, 1) := by decide +kernel
theorem dX0_sizeOfSide_14 : decode cX0_sizeOfSide 14 = .ok (.iload_n 3, 1) := by decide +kernel
theorem dX0_sizeOfSide_15 : decode cX0_sizeOfSide 15 = .ok (.invokevirtual 36, 3) := by decide +kernel
theorem dX0_sizeOfSide_18 : decode cX0_sizeOfSide 18 = .ok (.iload_n 1, 1) := by decide +kernel
theorem dX0_sizeOfSide_19 : decode cX0_sizeOfSide 19 = .ok (.if_icmp .ne 7, 3) := by decide +kernel
theorem dX0_sizeOfSide_22 : decode cX0_sizeOfSide 22 = .ok (.iconst 1, 1) := by decide +kernel
theorem dX0_sizeOfSide_23 : decode cX0_sizeOfSide 23 = .ok (.goto 4, 3) := by decide +kernel
theorem dX0_sizeOfSide_26 : decode cX0_sizeOfSide 26 = .ok (.iconst 0, 1) := by decide +kernel
theorem dX0_sizeOfSide_27 : decode cX0_sizeOfSide 27 = .ok (.invokestatic 57, 3) := by decide +kernel
theorem dX0_sizeOfSide_30 : decode cX0_sizeOfSide 30 = .ok (.iadd, 1) := by decide +kernel
theorem dX0_sizeOfSide_31 : decode cX0_sizeOfSide 31 = .ok (.istore_n 2, 1) := by decide +kernel
theorem dX0_sizeOfSide_32 : decode cX0_sizeOfSide 32 = .ok (.iinc 3 1, 3) := by decide +kernel
theorem dX0_sizeOfSide_35 : decode cX0_sizeOfSide 35 = .ok (.goto (-31), 3) := by decide +kernel
theorem dX0_sizeOfSide_38 : decode cX0_sizeOfSide 38 = .ok (.iload_n 2, 1) := by decide +kernel
theorem dX0_sizeOfSide_39 : decode cX0_sizeOfSide 39 = .ok (.ireturn, 1) := by decide +kernel
set_option maxRecDepth 20000 in
theorem ggX0_signsKnownTo_X0_sideOf : GoodIn wsX0_signsKnownTo wsX0_sideOf := goodIn_r _ [6, 7, 8, 9, 10, 5, 11, 1, 22, 23, 24, 25] (by decide +kernel) (by decide +kernel)
set_option maxRecDepth 20000 in
theorem gX0_signsKnownTo_X0_sideOf : GoodIn wsX0_signsKnownTo (wsV RX0 36 RX0 yX0_sideOf wsX0_sideOf) := goodIn_app (goodIn_of _ (by decide +kernel)) ggX0_signsKnownTo_X0_sideOf
set_option maxRecDepth 20000 in
theorem ggX0_signsKnownTo_X0_signsOf : GoodIn wsX0_signsKnownTo wsX0_signsOf := goodIn_r _ [15, 16, 8, 9, 10, 5, 11, 1, 7, 22, 23, 24, 25] (by decide +kernel) (by decide +kernel)
set_option maxRecDepth 20000 in
theorem gX0_signsKnownTo_X0_signsOf : GoodIn wsX0_signsKnownTo (wsV RX0 40 RX0 yX0_signsOf wsX0_signsOf) := goodIn_app (goodIn_of _ (by decide +kernel)) ggX0_signsKnownTo_X0_signsOf
set_option maxRecDepth 20000 in
theorem ggX0_signsKnownTo_X0_oppositesOf : GoodIn wsX0_signsKnownTo wsX0_oppositesOf := goodIn_r _ [20, 21, 8, 9, 10, 5, 11, 1, 7, 22, 23, 24, 25] (by decide +kernel) (by decide +kernel)
set_option maxRecDepth 20000 in
theorem gX0_signsKnownTo_X0_oppositesOf : GoodIn wsX0_signsKnownTo (wsV RX0 43 RX0 yX0_oppositesOf wsX0_oppositesOf) := goodIn_app (goodIn_of _ (by decide +kernel)) ggX0_signsKnownTo_X0_oppositesOf
theorem dX0_signsKnownTo_0 : decode cX0_signsKnownTo 0 = .ok (.iconst 0, 1) := by decide +kernel
theorem dX0_signsKnownTo_1 : decode cX0_signsKnownTo 1 = .ok (.istore_n 2, 1) := by decide +kernel
theorem dX0_signsKnownTo_2 : decode cX0_signsKnownTo 2 = .ok (.iconst 0, 1) := by decide +kernel
theorem dX0_signsKnownTo_3 : decode cX0_signsKnownTo 3 = .ok (.istore_n 3, 1) := by decide +kernel
theorem dX0_signsKnownTo_4 : decode cX0_signsKnownTo 4 = .ok (.iload_n 3, 1) := by decide +kernel
theorem dX0_signsKnownTo_5 : decode cX0_signsKnownTo 5 = .ok (.aload_n 0, 1) := by decide +kernel
theorem dX0_signsKnownTo_6 : decode cX0_signsKnownTo 6 = .ok (.getfield 25, 3) := by decide +kernel
theorem dX0_signsKnownTo_9 : decode cX0_signsKnownTo 9 = .ok (.if_icmp .ge 32, 3) := by decide +kernel
theorem dX0_signsKnownTo_12 : decode cX0_signsKnownTo 12 = .ok (.aload_n 0, 1) := by decide +kernel
theorem dX0_signsKnownTo_13 : decode cX0_signsKnownTo 13 = .ok (.iload_n 3, 1) := by decide +kernel
theorem dX0_signsKnownTo_14 : decode cX0_signsKnownTo 14 = .ok (.invokevirtual 36, 3) := by decide +kernel
theorem dX0_signsKnownTo_17 : decode cX0_signsKnownTo 17 = .ok (.iload_n 1, 1) := by decide +kernel
theorem dX0_signsKnownTo_18 : decode cX0_signsKnownTo 18 = .ok (.if_icmp .ne 17, 3) := by decide +kernel
theorem dX0_signsKnownTo_21 : decode cX0_signsKnownTo 21 = .ok (.iload_n 2, 1) := by decide +kernel
theorem dX0_signsKnownTo_22 : decode cX0_signsKnownTo 22 = .ok (.aload_n 0, 1) := by decide +kernel
theorem dX0_signsKnownTo_23 : decode cX0_signsKnownTo 23 = .ok (.iload_n 3, 1) := by decide +kernel
theorem dX0_signsKnownTo_24 : decode cX0_signsKnownTo 24 = .ok (.invokevirtual 40, 3) := by decide +kernel
theorem dX0_signsKnownTo_27 : decode cX0_signsKnownTo 27 = .ok (.aload_n 0, 1) := by decide +kernel
theorem dX0_signsKnownTo_28 : decode cX0_signsKnownTo 28 = .ok (.iload_n 3, 1) := by decide +kernel
theorem dX0_signsKnownTo_29 : decode cX0_signsKnownTo 29 = .ok (.invokevirtual 43, 3) := by decide +kernel
theorem dX0_signsKnownTo_32 : decode cX0_signsKnownTo 32 = .ok (.ior, 1) := by decide +kernel
theorem dX0_signsKnownTo_33 : decode cX0_signsKnownTo 33 = .ok (.ior, 1) := by decide +kernel
theorem dX0_signsKnownTo_34 : decode cX0_signsKnownTo 34 = .ok (.istore_n 2, 1) := by decide +kernel
theorem dX0_signsKnownTo_35 : decode cX0_signsKnownTo 35 = .ok (.iinc 3 1, 3) := by decide +kernel
theorem dX0_signsKnownTo_38 : decode cX0_signsKnownTo 38 = .ok (.goto (-34), 3) := by decide +kernel
theorem dX0_signsKnownTo_41 : decode cX0_signsKnownTo 41 = .ok (.iload_n 2, 1) := by decide +kernel
theorem dX0_signsKnownTo_42 : decode cX0_signsKnownTo 42 = .ok (.ireturn, 1) := by decide +kernel
set_option maxRecDepth 20000 in
theorem ggX0_sharedSigns_X0_signsKnownTo : GoodIn wsX0_sharedSigns wsX0_signsKnownTo := goodIn_r _ [5, 6, 7, 8, 9, 4, 10, 11, 12, 13, 14, 15, 16, 17, 18, 19, 20, 21, 22, 23, 24, 25, 26, 27, 28, 29] (by decide +kernel) (by decide +kernel)
set_option maxRecDepth 20000 in
theorem gX0_sharedSigns_X0_signsKnownTo : GoodIn wsX0_sharedSigns (wsV RX0 63 RX0 yX0_signsKnownTo wsX0_signsKnownTo) := goodIn_app (goodIn_of _ (by decide +kernel)) ggX0_sharedSigns_X0_signsKnownTo
theorem dX0_sharedSigns_0 : decode cX0_sharedSigns 0 = .ok (.aload_n 0, 1) := by decide +kernel
theorem dX0_sharedSigns_1 : decode cX0_sharedSigns 1 = .ok (.iconst 0, 1) := by decide +kernel
theorem dX0_sharedSigns_2 : decode cX0_sharedSigns 2 = .ok (.invokevirtual 63, 3) := by decide +kernel
theorem dX0_sharedSigns_5 : decode cX0_sharedSigns 5 = .ok (.aload_n 0, 1) := by decide +kernel
theorem dX0_sharedSigns_6 : decode cX0_sharedSigns 6 = .ok (.iconst 1, 1) := by decide +kernel
theorem dX0_sharedSigns_7 : decode cX0_sharedSigns 7 = .ok (.invokevirtual 63, 3) := by decide +kernel
theorem dX0_sharedSigns_10 : decode cX0_sharedSigns 10 = .ok (.iand, 1) := by decide +kernel
theorem dX0_sharedSigns_11 : decode cX0_sharedSigns 11 = .ok (.ireturn, 1) := by decide +kernel
set_option maxRecDepth 20000 in
theorem ggX0_worldsOf_X0_signsOf : GoodIn wsX0_worldsOf wsX0_signsOf := goodIn_r _ [5, 6, 7, 8, 9, 4, 10, 11, 12, 29, 30, 31, 32] (by decide +kernel) (by decide +kernel)
set_option maxRecDepth 20000 in
theorem gX0_worldsOf_X0_signsOf : GoodIn wsX0_worldsOf (wsV RX0 40 RX0 yX0_signsOf wsX0_signsOf) := goodIn_app (goodIn_of _ (by decide +kernel)) ggX0_worldsOf_X0_signsOf
set_option maxRecDepth 20000 in
theorem ggX0_worldsOf_X0_oppositesOf : GoodIn wsX0_worldsOf wsX0_oppositesOf := goodIn_r _ [16, 17, 7, 8, 9, 4, 10, 11, 12, 29, 30, 31, 32] (by decide +kernel) (by decide +kernel)
set_option maxRecDepth 20000 in
theorem gX0_worldsOf_X0_oppositesOf : GoodIn wsX0_worldsOf (wsV RX0 43 RX0 yX0_oppositesOf wsX0_oppositesOf) := goodIn_app (goodIn_of _ (by decide +kernel)) ggX0_worldsOf_X0_oppositesOf
set_option maxRecDepth 20000 in
theorem ggX0_worldsOf_X4_worldsOfLiterals : GoodIn wsX0_worldsOf wsX4_worldsOfLiterals := goodIn_r _ [20, 21, 22, 23, 19, 24, 25, 26, 27, 28] (by decide +kernel) (by decide +kernel)
set_option maxRecDepth 20000 in
theorem gX0_worldsOf_X4_worldsOfLiterals_n66 : GoodIn wsX0_worldsOf (wsX4_worldsOfLiterals) := ggX0_worldsOf_X4_worldsOfLiterals
theorem dX0_worldsOf_0 : decode cX0_worldsOf 0 = .ok (.aload_n 0, 1) := by decide +kernel
theorem dX0_worldsOf_1 : decode cX0_worldsOf 1 = .ok (.iload_n 1, 1) := by decide +kernel
theorem dX0_worldsOf_2 : decode cX0_worldsOf 2 = .ok (.invokevirtual 40, 3) := by decide +kernel
theorem dX0_worldsOf_5 : decode cX0_worldsOf 5 = .ok (.aload_n 0, 1) := by decide +kernel
theorem dX0_worldsOf_6 : decode cX0_worldsOf 6 = .ok (.iload_n 1, 1) := by decide +kernel
theorem dX0_worldsOf_7 : decode cX0_worldsOf 7 = .ok (.invokevirtual 43, 3) := by decide +kernel
theorem dX0_worldsOf_10 : decode cX0_worldsOf 10 = .ok (.invokestatic 66, 3) := by decide +kernel
theorem dX0_worldsOf_13 : decode cX0_worldsOf 13 = .ok (.lreturn, 1) := by decide +kernel
set_option maxRecDepth 20000 in
theorem ggX0_worldsOfSide_X0_sideOf : GoodIn wsX0_worldsOfSide wsX0_sideOf := goodIn_r _ [7, 8, 9, 10, 11, 6, 12, 2, 38, 39, 40, 41] (by decide +kernel) (by decide +kernel)
set_option maxRecDepth 20000 in
theorem gX0_worldsOfSide_X0_sideOf : GoodIn wsX0_worldsOfSide (wsV RX0 36 RX0 yX0_sideOf wsX0_sideOf) := goodIn_app (goodIn_of _ (by decide +kernel)) ggX0_worldsOfSide_X0_sideOf
set_option maxRecDepth 20000 in
theorem ggX0_worldsOfSide_X0_worldsOf : GoodIn wsX0_worldsOfSide wsX0_worldsOf := goodIn_r _ [16, 17, 18, 19, 6, 20, 21, 9, 10, 11, 12, 2, 8, 22, 23, 24, 25, 26, 27, 28, 29, 30, 31, 32, 33, 34, 35, 36, 37, 38, 39, 40, 41] (by decide +kernel) (by decide +kernel)
set_option maxRecDepth 20000 in
theorem gX0_worldsOfSide_X0_worldsOf : GoodIn wsX0_worldsOfSide (wsV RX0 72 RX0 yX0_worldsOf wsX0_worldsOf) := goodIn_app (goodIn_of _ (by decide +kernel)) ggX0_worldsOfSide_X0_worldsOf
theorem dX0_worldsOfSide_0 : decode cX0_worldsOfSide 0 = .ok (.ldc2_w 70, 3) := by decide +kernel
theorem dX0_worldsOfSide_3 : decode cX0_worldsOfSide 3 = .ok (.lstore_n 2, 1) := by decide +kernel
theorem dX0_worldsOfSide_4 : decode cX0_worldsOfSide 4 = .ok (.iconst 0, 1) := by decide +kernel
theorem dX0_worldsOfSide_5 : decode cX0_worldsOfSide 5 = .ok (.istore 4, 2) := by decide +kernel
theorem dX0_worldsOfSide_7 : decode cX0_worldsOfSide 7 = .ok (.iload 4, 2) := by decide +kernel
theorem dX0_worldsOfSide_9 : decode cX0_worldsOfSide 9 = .ok (.aload_n 0, 1) := by decide +kernel
theorem dX0_worldsOfSide_10 : decode cX0_worldsOfSide 10 = .ok (.getfield 25, 3) := by decide +kernel
theorem dX0_worldsOfSide_13 : decode cX0_worldsOfSide 13 = .ok (.if_icmp .ge 28, 3) := by decide +kernel
theorem dX0_worldsOfSide_16 : decode cX0_worldsOfSide 16 = .ok (.aload_n 0, 1) := by decide +kernel
theorem dX0_worldsOfSide_17 : decode cX0_worldsOfSide 17 = .ok (.iload 4, 2) := by decide +kernel
theorem dX0_worldsOfSide_19 : decode cX0_worldsOfSide 19 = .ok (.invokevirtual 36, 3) := by decide +kernel
theorem dX0_worldsOfSide_22 : decode cX0_worldsOfSide 22 = .ok (.iload_n 1, 1) := by decide +kernel
theorem dX0_worldsOfSide_23 : decode cX0_worldsOfSide 23 = .ok (.if_icmp .ne 12, 3) := by decide +kernel
theorem dX0_worldsOfSide_26 : decode cX0_worldsOfSide 26 = .ok (.lload_n 2, 1) := by decide +kernel
theorem dX0_worldsOfSide_27 : decode cX0_worldsOfSide 27 = .ok (.aload_n 0, 1) := by decide +kernel
theorem dX0_worldsOfSide_28 : decode cX0_worldsOfSide 28 = .ok (.iload 4, 2) := by decide +kernel
theorem dX0_worldsOfSide_30 : decode cX0_worldsOfSide 30 = .ok (.invokevirtual 72, 3) := by decide +kernel
theorem dX0_worldsOfSide_33 : decode cX0_worldsOfSide 33 = .ok (.land, 1) := by decide +kernel
theorem dX0_worldsOfSide_34 : decode cX0_worldsOfSide 34 = .ok (.lstore_n 2, 1) := by decide +kernel
theorem dX0_worldsOfSide_35 : decode cX0_worldsOfSide 35 = .ok (.iinc 4 1, 3) := by decide +kernel
theorem dX0_worldsOfSide_38 : decode cX0_worldsOfSide 38 = .ok (.goto (-31), 3) := by decide +kernel
theorem dX0_worldsOfSide_41 : decode cX0_worldsOfSide 41 = .ok (.lload_n 2, 1) := by decide +kernel
theorem dX0_worldsOfSide_42 : decode cX0_worldsOfSide 42 = .ok (.lreturn, 1) := by decide +kernel
set_option maxRecDepth 20000 in
theorem ggX0_worldsOfBoth_X0_worldsOfSide : GoodIn wsX0_worldsOfBoth wsX0_worldsOfSide := goodIn_r _ [5, 6, 7, 8, 9, 10, 4, 11, 12, 13, 14, 15, 16, 17, 18, 19, 20, 21, 22, 23, 24, 25, 26, 27, 28, 29, 30, 31, 32, 33, 34, 35, 36, 37, 38, 39, 40, 41, 42, 43, 44, 45] (by decide +kernel) (by decide +kernel)
set_option maxRecDepth 20000 in
theorem gX0_worldsOfBoth_X0_worldsOfSide : GoodIn wsX0_worldsOfBoth (wsV RX0 76 RX0 yX0_worldsOfSide wsX0_worldsOfSide) := goodIn_app (goodIn_of _ (by decide +kernel)) ggX0_worldsOfBoth_X0_worldsOfSide
theorem dX0_worldsOfBoth_0 : decode cX0_worldsOfBoth 0 = .ok (.aload_n 0, 1) := by decide +kernel
theorem dX0_worldsOfBoth_1 : decode cX0_worldsOfBoth 1 = .ok (.iconst 0, 1) := by decide +kernel
theorem dX0_worldsOfBoth_2 : decode cX0_worldsOfBoth 2 = .ok (.invokevirtual 76, 3) := by decide +kernel
theorem dX0_worldsOfBoth_5 : decode cX0_worldsOfBoth 5 = .ok (.aload_n 0, 1) := by decide +kernel
theorem dX0_worldsOfBoth_6 : decode cX0_worldsOfBoth 6 = .ok (.iconst 1, 1) := by decide +kernel
theorem dX0_worldsOfBoth_7 : decode cX0_worldsOfBoth 7 = .ok (.invokevirtual 76, 3) := by decide +kernel
theorem dX0_worldsOfBoth_10 : decode cX0_worldsOfBoth 10 = .ok (.land, 1) := by decide +kernel
theorem dX0_worldsOfBoth_11 : decode cX0_worldsOfBoth 11 = .ok (.lreturn, 1) := by decide +kernel
set_option maxRecDepth 20000 in
theorem ggX0_clash_X0_worldsOfBoth : GoodIn wsX0_clash wsX0_worldsOfBoth := goodIn_r _ [5, 6, 7, 8, 4, 9, 10, 11, 12, 13, 14, 15, 16, 17, 18, 19, 20, 21, 22, 23, 24, 25, 26, 27, 28, 29, 30, 31, 32, 33, 34, 35, 36, 37, 38, 39, 40, 41, 42, 43, 44, 45, 46, 47, 48, 49] (by decide +kernel) (by decide +kernel)
set_option maxRecDepth 20000 in
theorem gX0_clash_X0_worldsOfBoth : GoodIn wsX0_clash (wsV RX0 79 RX0 yX0_worldsOfBoth wsX0_worldsOfBoth) := goodIn_app (goodIn_of _ (by decide +kernel)) ggX0_clash_X0_worldsOfBoth
theorem dX0_clash_0 : decode cX0_clash 0 = .ok (.aload_n 0, 1) := by decide +kernel
theorem dX0_clash_1 : decode cX0_clash 1 = .ok (.invokevirtual 79, 3) := by decide +kernel
theorem dX0_clash_4 : decode cX0_clash 4 = .ok (.lconst 0, 1) := by decide +kernel
theorem dX0_clash_5 : decode cX0_clash 5 = .ok (.lcmp, 1) := by decide +kernel
theorem dX0_clash_6 : decode cX0_clash 6 = .ok (.ifCond .ne 7, 3) := by decide +kernel
theorem dX0_clash_9 : decode cX0_clash 9 = .ok (.iconst 1, 1) := by decide +kernel
theorem dX0_clash_10 : decode cX0_clash 10 = .ok (.goto 4, 3) := by decide +kernel
theorem dX0_clash_13 : decode cX0_clash 13 = .ok (.iconst 0, 1) := by decide +kernel
theorem dX0_clash_14 : decode cX0_clash 14 = .ok (.ireturn, 1) := by decide +kernel
set_option maxRecDepth 20000 in
theorem ggX1_init_X0_init : GoodIn wsX1_init wsX0_init := goodIn_r _ [11, 12, 2, 3, 13, 14, 15, 16, 17, 18, 19, 20, 21, 24, 25, 26, 27] (by decide +kernel) (by decide +kernel)
set_option maxRecDepth 20000 in
theorem gX1_init_X0_init : GoodIn wsX1_init (wsX0_init) := ggX1_init_X0_init
theorem dX1_init_0 : decode cX1_init 0 = .ok (.aload_n 0, 1) := by decide +kernel
theorem dX1_init_1 : decode cX1_init 1 = .ok (.invokespecial 3, 3) := by decide +kernel
theorem dX1_init_4 : decode cX1_init 4 = .ok (.aload_n 0, 1) := by decide +kernel
theorem dX1_init_5 : decode cX1_init 5 = .ok (.iconst 4, 1) := by decide +kernel
theorem dX1_init_6 : decode cX1_init 6 = .ok (.anewarray 9, 3) := by decide +kernel
theorem dX1_init_9 : decode cX1_init 9 = .ok (.putfield 11, 3) := by decide +kernel
theorem dX1_init_12 : decode cX1_init 12 = .ok (.iconst 0, 1) := by decide +kernel
theorem dX1_init_13 : decode cX1_init 13 = .ok (.istore_n 1, 1) := by decide +kernel
theorem dX1_init_14 : decode cX1_init 14 = .ok (.iload_n 1, 1) := by decide +kernel
theorem dX1_init_15 : decode cX1_init 15 = .ok (.aload_n 0, 1) := by decide +kernel
theorem dX1_init_16 : decode cX1_init 16 = .ok (.getfield 11, 3) := by decide +kernel
theorem dX1_init_19 : decode cX1_init 19 = .ok (.arraylength, 1) := by decide +kernel
theorem dX1_init_20 : decode cX1_init 20 = .ok (.if_icmp .ge 24, 3) := by decide +kernel
theorem dX1_init_23 : decode cX1_init 23 = .ok (.aload_n 0, 1) := by decide +kernel
theorem dX1_init_24 : decode cX1_init 24 = .ok (.getfield 11, 3) := by decide +kernel
theorem dX1_init_27 : decode cX1_init 27 = .ok (.iload_n 1, 1) := by decide +kernel
theorem dX1_init_28 : decode cX1_init 28 = .ok (.new 9, 3) := by decide +kernel
theorem dX1_init_31 : decode cX1_init 31 = .ok (.dup, 1) := by decide +kernel
theorem dX1_init_32 : decode cX1_init 32 = .ok (.bipush 24, 2) := by decide +kernel
theorem dX1_init_34 : decode cX1_init 34 = .ok (.invokespecial 17, 3) := by decide +kernel
theorem dX1_init_37 : decode cX1_init 37 = .ok (.aastore, 1) := by decide +kernel
theorem dX1_init_38 : decode cX1_init 38 = .ok (.iinc 1 1, 3) := by decide +kernel
theorem dX1_init_41 : decode cX1_init 41 = .ok (.goto (-27), 3) := by decide +kernel
theorem dX1_init_44 : decode cX1_init 44 = .ok (.aload_n 0, 1) := by decide +kernel
theorem dX1_init_45 : decode cX1_init 45 = .ok (.iconst 0, 1) := by decide +kernel
theorem dX1_init_46 : decode cX1_init 46 = .ok (.putfield 20, 3) := by decide +kernel
theorem dX1_init_49 : decode cX1_init 49 = .ok (.return_, 1) := by decide +kernel
theorem dX1_size_0 : decode cX1_size 0 = .ok (.aload_n 0, 1) := by decide +kernel
theorem dX1_size_1 : decode cX1_size 1 = .ok (.getfield 20, 3) := by decide +kernel
theorem dX1_size_4 : decode cX1_size 4 = .ok (.ireturn, 1) := by decide +kernel
set_option maxRecDepth 20000 in
theorem ggX1_remember_X1_dropOldest : GoodIn wsX1_remember wsX1_dropOldest := goodIn_r _ [7, 2, 1, 49, 50] (by decide +kernel) (by decide +kernel)
set_option maxRecDepth 20000 in
theorem gX1_remember_X1_dropOldest : GoodIn wsX1_remember (wsV RX1 24 RX1 yX1_dropOldest wsX1_dropOldest) := goodIn_app (goodIn_of _ (by decide +kernel)) ggX1_remember_X1_dropOldest
set_option maxRecDepth 20000 in
theorem ggX1_remember_X0_becomeLike : GoodIn wsX1_remember wsX0_becomeLike := goodIn_r _ [12, 13, 14, 15, 11, 16, 17, 18, 19, 20, 21, 22, 23, 24, 25, 26, 27, 28, 29, 30, 31, 32, 33, 34, 35, 36, 37, 38, 39, 40, 41, 42, 43, 44, 45, 46, 47, 48, 51, 52, 53, 54] (by decide +kernel) (by decide +kernel)
set_option maxRecDepth 20000 in
theorem gX1_remember_X0_becomeLike : GoodIn wsX1_remember (wsV RX1 27 RX0 yX0_becomeLike wsX0_becomeLike) := goodIn_app (goodIn_of _ (by decide +kernel)) ggX1_remember_X0_becomeLike
theorem dX1_remember_0 : decode cX1_remember 0 = .ok (.aload_n 0, 1) := by decide +kernel
theorem dX1_remember_1 : decode cX1_remember 1 = .ok (.getfield 20, 3) := by decide +kernel
theorem dX1_remember_4 : decode cX1_remember 4 = .ok (.aload_n 0, 1) := by decide +kernel
theorem dX1_remember_5 : decode cX1_remember 5 = .ok (.getfield 11, 3) := by decide +kernel
theorem dX1_remember_8 : decode cX1_remember 8 = .ok (.arraylength, 1) := by decide +kernel
theorem dX1_remember_9 : decode cX1_remember 9 = .ok (.if_icmp .lt 15, 3) := by decide +kernel
theorem dX1_remember_12 : decode cX1_remember 12 = .ok (.aload_n 0, 1) := by decide +kernel
theorem dX1_remember_13 : decode cX1_remember 13 = .ok (.getfield 11, 3) := by decide +kernel
theorem dX1_remember_16 : decode cX1_remember 16 = .ok (.arraylength, 1) := by decide +kernel
theorem dX1_remember_17 : decode cX1_remember 17 = .ok (.ifCond .le 7, 3) := by decide +kernel
theorem dX1_remember_20 : decode cX1_remember 20 = .ok (.aload_n 0, 1) := by decide +kernel
theorem dX1_remember_21 : decode cX1_remember 21 = .ok (.invokevirtual 24, 3) := by decide +kernel
theorem dX1_remember_24 : decode cX1_remember 24 = .ok (.aload_n 0, 1) := by decide +kernel
theorem dX1_remember_25 : decode cX1_remember 25 = .ok (.getfield 20, 3) := by decide +kernel
theorem dX1_remember_28 : decode cX1_remember 28 = .ok (.ifCond .lt 50, 3) := by decide +kernel
theorem dX1_remember_31 : decode cX1_remember 31 = .ok (.aload_n 0, 1) := by decide +kernel
theorem dX1_remember_32 : decode cX1_remember 32 = .ok (.getfield 20, 3) := by decide +kernel
theorem dX1_remember_35 : decode cX1_remember 35 = .ok (.aload_n 0, 1) := by decide +kernel
theorem dX1_remember_36 : decode cX1_remember 36 = .ok (.getfield 11, 3) := by decide +kernel
theorem dX1_remember_39 : decode cX1_remember 39 = .ok (.arraylength, 1) := by decide +kernel
theorem dX1_remember_40 : decode cX1_remember 40 = .ok (.if_icmp .ge 38, 3) := by decide +kernel
theorem dX1_remember_43 : decode cX1_remember 43 = .ok (.aload_n 0, 1) := by decide +kernel
theorem dX1_remember_44 : decode cX1_remember 44 = .ok (.getfield 11, 3) := by decide +kernel
theorem dX1_remember_47 : decode cX1_remember 47 = .ok (.aload_n 0, 1) := by decide +kernel
theorem dX1_remember_48 : decode cX1_remember 48 = .ok (.getfield 20, 3) := by decide +kernel
theorem dX1_remember_51 : decode cX1_remember 51 = .ok (.aaload, 1) := by decide +kernel
theorem dX1_remember_52 : decode cX1_remember 52 = .ok (.ifnull 26, 3) := by decide +kernel
theorem dX1_remember_55 : decode cX1_remember 55 = .ok (.aload_n 0, 1) := by decide +kernel
theorem dX1_remember_56 : decode cX1_remember 56 = .ok (.getfield 11, 3) := by decide +kernel
theorem dX1_remember_59 : decode cX1_remember 59 = .ok (.aload_n 0, 1) := by decide +kernel
theorem dX1_remember_60 : decode cX1_remember 60 = .ok (.getfield 20, 3) := by decide +kernel
theorem dX1_remember_63 : decode cX1_remember 63 = .ok (.aaload, 1) := by decide +kernel
theorem dX1_remember_64 : decode cX1_remember 64 = .ok (.aload_n 1, 1) := by decide +kernel
theorem dX1_remember_65 : decode cX1_remember 65 = .ok (.invokevirtual 27, 3) := by decide +kernel
theorem dX1_remember_68 : decode cX1_remember 68 = .ok (.aload_n 0, 1) := by decide +kernel
theorem dX1_remember_69 : decode cX1_remember 69 = .ok (.dup, 1) := by decide +kernel
theorem dX1_remember_70 : decode cX1_remember 70 = .ok (.getfield 20, 3) := by decide +kernel
theorem dX1_remember_73 : decode cX1_remember 73 = .ok (.iconst 1, 1) := by decide +kernel
theorem dX1_remember_74 : decode cX1_remember 74 = .ok (.iadd, 1) := by decide +kernel
theorem dX1_remember_75 : decode cX1_remember 75 = .ok (.putfield 20, 3) := by decide +kernel
theorem dX1_remember_78 : decode cX1_remember 78 = .ok (.return_, 1) := by decide +kernel
set_option maxRecDepth 20000 in
theorem ggX1_takeLatestInto_X0_becomeLike : GoodIn wsX1_takeLatestInto wsX0_becomeLike := goodIn_r _ [7, 8, 9, 10, 6, 11, 12, 13, 14, 15, 16, 17, 18, 19, 20, 21, 22, 23, 24, 25, 26, 27, 28, 29, 30, 31, 32, 33, 34, 35, 36, 37, 38, 39, 40, 41, 42, 43, 46, 47, 48, 49] (by decide +kernel) (by decide +kernel)
set_option maxRecDepth 20000 in
theorem gX1_takeLatestInto_X0_becomeLike : GoodIn wsX1_takeLatestInto (wsV RX1 27 RX0 yX0_becomeLike wsX0_becomeLike) := goodIn_app (goodIn_of _ (by decide +kernel)) ggX1_takeLatestInto_X0_becomeLike
theorem dX1_takeLatestInto_0 : decode cX1_takeLatestInto 0 = .ok (.aload_n 0, 1) := by decide +kernel
theorem dX1_takeLatestInto_1 : decode cX1_takeLatestInto 1 = .ok (.getfield 20, 3) := by decide +kernel
theorem dX1_takeLatestInto_4 : decode cX1_takeLatestInto 4 = .ok (.iconst 1, 1) := by decide +kernel
theorem dX1_takeLatestInto_5 : decode cX1_takeLatestInto 5 = .ok (.isub, 1) := by decide +kernel
theorem dX1_takeLatestInto_6 : decode cX1_takeLatestInto 6 = .ok (.istore_n 2, 1) := by decide +kernel
theorem dX1_takeLatestInto_7 : decode cX1_takeLatestInto 7 = .ok (.iload_n 2, 1) := by decide +kernel
theorem dX1_takeLatestInto_8 : decode cX1_takeLatestInto 8 = .ok (.ifCond .lt 36, 3) := by decide +kernel
theorem dX1_takeLatestInto_11 : decode cX1_takeLatestInto 11 = .ok (.iload_n 2, 1) := by decide +kernel
theorem dX1_takeLatestInto_12 : decode cX1_takeLatestInto 12 = .ok (.aload_n 0, 1) := by decide +kernel
theorem dX1_takeLatestInto_13 : decode cX1_takeLatestInto 13 = .ok (.getfield 11, 3) := by decide +kernel
theorem dX1_takeLatestInto_16 : decode cX1_takeLatestInto 16 = .ok (.arraylength, 1) := by decide +kernel
theorem dX1_takeLatestInto_17 : decode cX1_takeLatestInto 17 = .ok (.if_icmp .ge 27, 3) := by decide +kernel
theorem dX1_takeLatestInto_20 : decode cX1_takeLatestInto 20 = .ok (.aload_n 0, 1) := by decide +kernel
theorem dX1_takeLatestInto_21 : decode cX1_takeLatestInto 21 = .ok (.getfield 11, 3) := by decide +kernel
theorem dX1_takeLatestInto_24 : decode cX1_takeLatestInto 24 = .ok (.iload_n 2, 1) := by decide +kernel
theorem dX1_takeLatestInto_25 : decode cX1_takeLatestInto 25 = .ok (.aaload, 1) := by decide +kernel
theorem dX1_takeLatestInto_26 : decode cX1_takeLatestInto 26 = .ok (.ifnull 18, 3) := by decide +kernel
theorem dX1_takeLatestInto_29 : decode cX1_takeLatestInto 29 = .ok (.aload_n 1, 1) := by decide +kernel
theorem dX1_takeLatestInto_30 : decode cX1_takeLatestInto 30 = .ok (.aload_n 0, 1) := by decide +kernel
theorem dX1_takeLatestInto_31 : decode cX1_takeLatestInto 31 = .ok (.getfield 11, 3) := by decide +kernel
theorem dX1_takeLatestInto_34 : decode cX1_takeLatestInto 34 = .ok (.iload_n 2, 1) := by decide +kernel
theorem dX1_takeLatestInto_35 : decode cX1_takeLatestInto 35 = .ok (.aaload, 1) := by decide +kernel
theorem dX1_takeLatestInto_36 : decode cX1_takeLatestInto 36 = .ok (.invokevirtual 27, 3) := by decide +kernel
theorem dX1_takeLatestInto_39 : decode cX1_takeLatestInto 39 = .ok (.aload_n 0, 1) := by decide +kernel
theorem dX1_takeLatestInto_40 : decode cX1_takeLatestInto 40 = .ok (.iload_n 2, 1) := by decide +kernel
theorem dX1_takeLatestInto_41 : decode cX1_takeLatestInto 41 = .ok (.putfield 20, 3) := by decide +kernel
theorem dX1_takeLatestInto_44 : decode cX1_takeLatestInto 44 = .ok (.return_, 1) := by decide +kernel
theorem dX1_dropOldest_0 : decode cX1_dropOldest 0 = .ok (.aload_n 0, 1) := by decide +kernel
theorem dX1_dropOldest_1 : decode cX1_dropOldest 1 = .ok (.getfield 11, 3) := by decide +kernel
theorem dX1_dropOldest_4 : decode cX1_dropOldest 4 = .ok (.iconst 0, 1) := by decide +kernel
theorem dX1_dropOldest_5 : decode cX1_dropOldest 5 = .ok (.aaload, 1) := by decide +kernel
theorem dX1_dropOldest_6 : decode cX1_dropOldest 6 = .ok (.astore_n 1, 1) := by decide +kernel
theorem dX1_dropOldest_7 : decode cX1_dropOldest 7 = .ok (.iconst 1, 1) := by decide +kernel
theorem dX1_dropOldest_8 : decode cX1_dropOldest 8 = .ok (.istore_n 2, 1) := by decide +kernel
theorem dX1_dropOldest_9 : decode cX1_dropOldest 9 = .ok (.iload_n 2, 1) := by decide +kernel
theorem dX1_dropOldest_10 : decode cX1_dropOldest 10 = .ok (.aload_n 0, 1) := by decide +kernel
theorem dX1_dropOldest_11 : decode cX1_dropOldest 11 = .ok (.getfield 11, 3) := by decide +kernel
theorem dX1_dropOldest_14 : decode cX1_dropOldest 14 = .ok (.arraylength, 1) := by decide +kernel
theorem dX1_dropOldest_15 : decode cX1_dropOldest 15 = .ok (.if_icmp .ge 23, 3) := by decide +kernel
theorem dX1_dropOldest_18 : decode cX1_dropOldest 18 = .ok (.aload_n 0, 1) := by decide +kernel
theorem dX1_dropOldest_19 : decode cX1_dropOldest 19 = .ok (.getfield 11, 3) := by decide +kernel
theorem dX1_dropOldest_22 : decode cX1_dropOldest 22 = .ok (.iload_n 2, 1) := by decide +kernel
theorem dX1_dropOldest_23 : decode cX1_dropOldest 23 = .ok (.iconst 1, 1) := by decide +kernel
theorem dX1_dropOldest_24 : decode cX1_dropOldest 24 = .ok (.isub, 1) := by decide +kernel
theorem dX1_dropOldest_25 : decode cX1_dropOldest 25 = .ok (.aload_n 0, 1) := by decide +kernel
theorem dX1_dropOldest_26 : decode cX1_dropOldest 26 = .ok (.getfield 11, 3) := by decide +kernel
theorem dX1_dropOldest_29 : decode cX1_dropOldest 29 = .ok (.iload_n 2, 1) := by decide +kernel
theorem dX1_dropOldest_30 : decode cX1_dropOldest 30 = .ok (.aaload, 1) := by decide +kernel
theorem dX1_dropOldest_31 : decode cX1_dropOldest 31 = .ok (.aastore, 1) := by decide +kernel
theorem dX1_dropOldest_32 : decode cX1_dropOldest 32 = .ok (.iinc 2 1, 3) := by decide +kernel
theorem dX1_dropOldest_35 : decode cX1_dropOldest 35 = .ok (.goto (-26), 3) := by decide +kernel
theorem dX1_dropOldest_38 : decode cX1_dropOldest 38 = .ok (.aload_n 0, 1) := by decide +kernel
theorem dX1_dropOldest_39 : decode cX1_dropOldest 39 = .ok (.getfield 11, 3) := by decide +kernel
theorem dX1_dropOldest_42 : decode cX1_dropOldest 42 = .ok (.aload_n 0, 1) := by decide +kernel
theorem dX1_dropOldest_43 : decode cX1_dropOldest 43 = .ok (.getfield 11, 3) := by decide +kernel
theorem dX1_dropOldest_46 : decode cX1_dropOldest 46 = .ok (.arraylength, 1) := by decide +kernel
theorem dX1_dropOldest_47 : decode cX1_dropOldest 47 = .ok (.iconst 1, 1) := by decide +kernel
theorem dX1_dropOldest_48 : decode cX1_dropOldest 48 = .ok (.isub, 1) := by decide +kernel
theorem dX1_dropOldest_49 : decode cX1_dropOldest 49 = .ok (.aload_n 1, 1) := by decide +kernel
theorem dX1_dropOldest_50 : decode cX1_dropOldest 50 = .ok (.aastore, 1) := by decide +kernel
theorem dX1_dropOldest_51 : decode cX1_dropOldest 51 = .ok (.aload_n 0, 1) := by decide +kernel
theorem dX1_dropOldest_52 : decode cX1_dropOldest 52 = .ok (.dup, 1) := by decide +kernel
theorem dX1_dropOldest_53 : decode cX1_dropOldest 53 = .ok (.getfield 20, 3) := by decide +kernel
theorem dX1_dropOldest_56 : decode cX1_dropOldest 56 = .ok (.iconst 1, 1) := by decide +kernel
theorem dX1_dropOldest_57 : decode cX1_dropOldest 57 = .ok (.isub, 1) := by decide +kernel
theorem dX1_dropOldest_58 : decode cX1_dropOldest 58 = .ok (.putfield 20, 3) := by decide +kernel
theorem dX1_dropOldest_61 : decode cX1_dropOldest 61 = .ok (.return_, 1) := by decide +kernel
theorem dX2_init_0 : decode cX2_init 0 = .ok (.aload_n 0, 1) := by decide +kernel
theorem dX2_init_1 : decode cX2_init 1 = .ok (.invokespecial 3, 3) := by decide +kernel
theorem dX2_init_4 : decode cX2_init 4 = .ok (.aload_n 0, 1) := by decide +kernel
theorem dX2_init_5 : decode cX2_init 5 = .ok (.sipush 400, 3) := by decide +kernel
theorem dX2_init_8 : decode cX2_init 8 = .ok (.newarray .int, 2) := by decide +kernel
theorem dX2_init_10 : decode cX2_init 10 = .ok (.putfield 9, 3) := by decide +kernel
theorem dX2_init_13 : decode cX2_init 13 = .ok (.aload_n 0, 1) := by decide +kernel
theorem dX2_init_14 : decode cX2_init 14 = .ok (.sipush 400, 3) := by decide +kernel
theorem dX2_init_17 : decode cX2_init 17 = .ok (.newarray .int, 2) := by decide +kernel
theorem dX2_init_19 : decode cX2_init 19 = .ok (.putfield 15, 3) := by decide +kernel
theorem dX2_init_22 : decode cX2_init 22 = .ok (.aload_n 0, 1) := by decide +kernel
theorem dX2_init_23 : decode cX2_init 23 = .ok (.sipush 400, 3) := by decide +kernel
theorem dX2_init_26 : decode cX2_init 26 = .ok (.newarray .int, 2) := by decide +kernel
theorem dX2_init_28 : decode cX2_init 28 = .ok (.putfield 18, 3) := by decide +kernel
theorem dX2_init_31 : decode cX2_init 31 = .ok (.aload_n 0, 1) := by decide +kernel
theorem dX2_init_32 : decode cX2_init 32 = .ok (.sipush 400, 3) := by decide +kernel
theorem dX2_init_35 : decode cX2_init 35 = .ok (.newarray .int, 2) := by decide +kernel
theorem dX2_init_37 : decode cX2_init 37 = .ok (.putfield 21, 3) := by decide +kernel
theorem dX2_init_40 : decode cX2_init 40 = .ok (.aload_n 0, 1) := by decide +kernel
theorem dX2_init_41 : decode cX2_init 41 = .ok (.sipush 400, 3) := by decide +kernel
theorem dX2_init_44 : decode cX2_init 44 = .ok (.newarray .int, 2) := by decide +kernel
theorem dX2_init_46 : decode cX2_init 46 = .ok (.putfield 24, 3) := by decide +kernel
theorem dX2_init_49 : decode cX2_init 49 = .ok (.aload_n 0, 1) := by decide +kernel
theorem dX2_init_50 : decode cX2_init 50 = .ok (.sipush 400, 3) := by decide +kernel
theorem dX2_init_53 : decode cX2_init 53 = .ok (.newarray .long, 2) := by decide +kernel
theorem dX2_init_55 : decode cX2_init 55 = .ok (.putfield 27, 3) := by decide +kernel
theorem dX2_init_58 : decode cX2_init 58 = .ok (.aload_n 0, 1) := by decide +kernel
theorem dX2_init_59 : decode cX2_init 59 = .ok (.sipush 400, 3) := by decide +kernel
theorem dX2_init_62 : decode cX2_init 62 = .ok (.newarray .long, 2) := by decide +kernel
theorem dX2_init_64 : decode cX2_init 64 = .ok (.putfield 31, 3) := by decide +kernel
theorem dX2_init_67 : decode cX2_init 67 = .ok (.aload_n 0, 1) := by decide +kernel
theorem dX2_init_68 : decode cX2_init 68 = .ok (.sipush 400, 3) := by decide +kernel
theorem dX2_init_71 : decode cX2_init 71 = .ok (.newarray .boolean, 2) := by decide +kernel
theorem dX2_init_73 : decode cX2_init 73 = .ok (.putfield 34, 3) := by decide +kernel
theorem dX2_init_76 : decode cX2_init 76 = .ok (.aload_n 0, 1) := by decide +kernel
theorem dX2_init_77 : decode cX2_init 77 = .ok (.bipush 64, 2) := by decide +kernel
theorem dX2_init_79 : decode cX2_init 79 = .ok (.newarray .long, 2) := by decide +kernel
theorem dX2_init_81 : decode cX2_init 81 = .ok (.putfield 38, 3) := by decide +kernel
theorem dX2_init_84 : decode cX2_init 84 = .ok (.aload_n 0, 1) := by decide +kernel
theorem dX2_init_85 : decode cX2_init 85 = .ok (.iconst 0, 1) := by decide +kernel
theorem dX2_init_86 : decode cX2_init 86 = .ok (.putfield 41, 3) := by decide +kernel
theorem dX2_init_89 : decode cX2_init 89 = .ok (.return_, 1) := by decide +kernel
theorem dX2_size_0 : decode cX2_size 0 = .ok (.aload_n 0, 1) := by decide +kernel
theorem dX2_size_1 : decode cX2_size 1 = .ok (.getfield 41, 3) := by decide +kernel
theorem dX2_size_4 : decode cX2_size 4 = .ok (.ireturn, 1) := by decide +kernel
theorem dX2_isKnown_0 : decode cX2_isKnown 0 = .ok (.aload_n 0, 1) := by decide +kernel
theorem dX2_isKnown_1 : decode cX2_isKnown 1 = .ok (.getfield 45, 3) := by decide +kernel
theorem dX2_isKnown_4 : decode cX2_isKnown 4 = .ok (.ifCond .ne 7, 3) := by decide +kernel
theorem dX2_isKnown_7 : decode cX2_isKnown 7 = .ok (.iconst 1, 1) := by decide +kernel
theorem dX2_isKnown_8 : decode cX2_isKnown 8 = .ok (.goto 4, 3) := by decide +kernel
theorem dX2_isKnown_11 : decode cX2_isKnown 11 = .ok (.iconst 0, 1) := by decide +kernel
theorem dX2_isKnown_12 : decode cX2_isKnown 12 = .ok (.ireturn, 1) := by decide +kernel
theorem dX2_hasEmptyClause_0 : decode cX2_hasEmptyClause 0 = .ok (.aload_n 0, 1) := by decide +kernel
theorem dX2_hasEmptyClause_1 : decode cX2_hasEmptyClause 1 = .ok (.getfield 49, 3) := by decide +kernel
theorem dX2_hasEmptyClause_4 : decode cX2_hasEmptyClause 4 = .ok (.ireturn, 1) := by decide +kernel
theorem dX2_has_0 : decode cX2_has 0 = .ok (.iload_n 1, 1) := by decide +kernel
theorem dX2_has_1 : decode cX2_has 1 = .ok (.ifCond .lt 22, 3) := by decide +kernel
theorem dX2_has_4 : decode cX2_has 4 = .ok (.iload_n 1, 1) := by decide +kernel
theorem dX2_has_5 : decode cX2_has 5 = .ok (.aload_n 0, 1) := by decide +kernel
theorem dX2_has_6 : decode cX2_has 6 = .ok (.getfield 41, 3) := by decide +kernel
theorem dX2_has_9 : decode cX2_has 9 = .ok (.if_icmp .ge 14, 3) := by decide +kernel
theorem dX2_has_12 : decode cX2_has 12 = .ok (.iload_n 1, 1) := by decide +kernel
theorem dX2_has_13 : decode cX2_has 13 = .ok (.sipush 400, 3) := by decide +kernel
theorem dX2_has_16 : decode cX2_has 16 = .ok (.if_icmp .ge 7, 3) := by decide +kernel
theorem dX2_has_19 : decode cX2_has 19 = .ok (.iconst 1, 1) := by decide +kernel
theorem dX2_has_20 : decode cX2_has 20 = .ok (.goto 4, 3) := by decide +kernel
theorem dX2_has_23 : decode cX2_has 23 = .ok (.iconst 0, 1) := by decide +kernel
theorem dX2_has_24 : decode cX2_has 24 = .ok (.ireturn, 1) := by decide +kernel
set_option maxRecDepth 20000 in
theorem ggX2_signsOf_X2_has : GoodIn wsX2_signsOf wsX2_has := goodIn_r _ [6, 7, 8, 9, 10, 11, 12, 13, 14, 15, 16, 17, 18, 19, 20, 21] (by decide +kernel) (by decide +kernel)
set_option maxRecDepth 20000 in
theorem gX2_signsOf_X2_has : GoodIn wsX2_signsOf (wsV RX2 52 RX2 yX2_has wsX2_has) := goodIn_app (goodIn_of _ (by decide +kernel)) ggX2_signsOf_X2_has
theorem dX2_signsOf_0 : decode cX2_signsOf 0 = .ok (.aload_n 0, 1) := by decide +kernel
theorem dX2_signsOf_1 : decode cX2_signsOf 1 = .ok (.iload_n 1, 1) := by decide +kernel
theorem dX2_signsOf_2 : decode cX2_signsOf 2 = .ok (.invokevirtual 52, 3) := by decide +kernel
theorem dX2_signsOf_5 : decode cX2_signsOf 5 = .ok (.ifCond .eq 12, 3) := by decide +kernel
theorem dX2_signsOf_8 : decode cX2_signsOf 8 = .ok (.aload_n 0, 1) := by decide +kernel
theorem dX2_signsOf_9 : decode cX2_signsOf 9 = .ok (.getfield 9, 3) := by decide +kernel
theorem dX2_signsOf_12 : decode cX2_signsOf 12 = .ok (.iload_n 1, 1) := by decide +kernel
theorem dX2_signsOf_13 : decode cX2_signsOf 13 = .ok (.iaload, 1) := by decide +kernel
theorem dX2_signsOf_14 : decode cX2_signsOf 14 = .ok (.goto 4, 3) := by decide +kernel
theorem dX2_signsOf_17 : decode cX2_signsOf 17 = .ok (.iconst 0, 1) := by decide +kernel
theorem dX2_signsOf_18 : decode cX2_signsOf 18 = .ok (.ireturn, 1) := by decide +kernel
set_option maxRecDepth 20000 in
theorem ggX2_oppositesOf_X2_has : GoodIn wsX2_oppositesOf wsX2_has := goodIn_r _ [6, 7, 8, 9, 10, 11, 12, 13, 14, 15, 16, 17, 18, 19, 20, 21] (by decide +kernel) (by decide +kernel)
set_option maxRecDepth 20000 in
theorem gX2_oppositesOf_X2_has : GoodIn wsX2_oppositesOf (wsV RX2 52 RX2 yX2_has wsX2_has) := goodIn_app (goodIn_of _ (by decide +kernel)) ggX2_oppositesOf_X2_has
theorem dX2_oppositesOf_0 : decode cX2_oppositesOf 0 = .ok (.aload_n 0, 1) := by decide +kernel
theorem dX2_oppositesOf_1 : decode cX2_oppositesOf 1 = .ok (.iload_n 1, 1) := by decide +kernel
theorem dX2_oppositesOf_2 : decode cX2_oppositesOf 2 = .ok (.invokevirtual 52, 3) := by decide +kernel
theorem dX2_oppositesOf_5 : decode cX2_oppositesOf 5 = .ok (.ifCond .eq 12, 3) := by decide +kernel
theorem dX2_oppositesOf_8 : decode cX2_oppositesOf 8 = .ok (.aload_n 0, 1) := by decide +kernel
theorem dX2_oppositesOf_9 : decode cX2_oppositesOf 9 = .ok (.getfield 15, 3) := by decide +kernel
theorem dX2_oppositesOf_12 : decode cX2_oppositesOf 12 = .ok (.iload_n 1, 1) := by decide +kernel
theorem dX2_oppositesOf_13 : decode cX2_oppositesOf 13 = .ok (.iaload, 1) := by decide +kernel
theorem dX2_oppositesOf_14 : decode cX2_oppositesOf 14 = .ok (.goto 4, 3) := by decide +kernel
theorem dX2_oppositesOf_17 : decode cX2_oppositesOf 17 = .ok (.iconst 0, 1) := by decide +kernel
theorem dX2_oppositesOf_18 : decode cX2_oppositesOf 18 = .ok (.ireturn, 1) := by decide +kernel
set_option maxRecDepth 20000 in
theorem ggX2_firstParentOf_X2_has : GoodIn wsX2_firstParentOf wsX2_has := goodIn_r _ [6, 7, 8, 9, 10, 11, 12, 13, 14, 15, 16, 17, 18, 19, 20, 21] (by decide +kernel) (by decide +kernel)
set_option maxRecDepth 20000 in
theorem gX2_firstParentOf_X2_has : GoodIn wsX2_firstParentOf (wsV RX2 52 RX2 yX2_has wsX2_has) := goodIn_app (goodIn_of _ (by decide +kernel)) ggX2_firstParentOf_X2_has
theorem dX2_firstParentOf_0 : decode cX2_firstParentOf 0 = .ok (.aload_n 0, 1) := by decide +kernel
theorem dX2_firstParentOf_1 : decode cX2_firstParentOf 1 = .ok (.iload_n 1, 1) := by decide +kernel
theorem dX2_firstParentOf_2 : decode cX2_firstParentOf 2 = .ok (.invokevirtual 52, 3) := by decide +kernel
theorem dX2_firstParentOf_5 : decode cX2_firstParentOf 5 = .ok (.ifCond .eq 12, 3) := by decide +kernel
theorem dX2_firstParentOf_8 : decode cX2_firstParentOf 8 = .ok (.aload_n 0, 1) := by decide +kernel
theorem dX2_firstParentOf_9 : decode cX2_firstParentOf 9 = .ok (.getfield 18, 3) := by decide +kernel
theorem dX2_firstParentOf_12 : decode cX2_firstParentOf 12 = .ok (.iload_n 1, 1) := by decide +kernel
theorem dX2_firstParentOf_13 : decode cX2_firstParentOf 13 = .ok (.iaload, 1) := by decide +kernel
theorem dX2_firstParentOf_14 : decode cX2_firstParentOf 14 = .ok (.goto 5, 3) := by decide +kernel
theorem dX2_firstParentOf_17 : decode cX2_firstParentOf 17 = .ok (.bipush (-5), 2) := by decide +kernel
theorem dX2_firstParentOf_19 : decode cX2_firstParentOf 19 = .ok (.ireturn, 1) := by decide +kernel
set_option maxRecDepth 20000 in
theorem ggX2_secondParentOf_X2_has : GoodIn wsX2_secondParentOf wsX2_has := goodIn_r _ [6, 7, 8, 9, 10, 11, 12, 13, 14, 15, 16, 17, 18, 19, 20, 21] (by decide +kernel) (by decide +kernel)
set_option maxRecDepth 20000 in
theorem gX2_secondParentOf_X2_has : GoodIn wsX2_secondParentOf (wsV RX2 52 RX2 yX2_has wsX2_has) := goodIn_app (goodIn_of _ (by decide +kernel)) ggX2_secondParentOf_X2_has
theorem dX2_secondParentOf_0 : decode cX2_secondParentOf 0 = .ok (.aload_n 0, 1) := by decide +kernel
theorem dX2_secondParentOf_1 : decode cX2_secondParentOf 1 = .ok (.iload_n 1, 1) := by decide +kernel
theorem dX2_secondParentOf_2 : decode cX2_secondParentOf 2 = .ok (.invokevirtual 52, 3) := by decide +kernel
theorem dX2_secondParentOf_5 : decode cX2_secondParentOf 5 = .ok (.ifCond .eq 12, 3) := by decide +kernel
theorem dX2_secondParentOf_8 : decode cX2_secondParentOf 8 = .ok (.aload_n 0, 1) := by decide +kernel
theorem dX2_secondParentOf_9 : decode cX2_secondParentOf 9 = .ok (.getfield 21, 3) := by decide +kernel
theorem dX2_secondParentOf_12 : decode cX2_secondParentOf 12 = .ok (.iload_n 1, 1) := by decide +kernel
theorem dX2_secondParentOf_13 : decode cX2_secondParentOf 13 = .ok (.iaload, 1) := by decide +kernel
theorem dX2_secondParentOf_14 : decode cX2_secondParentOf 14 = .ok (.goto 5, 3) := by decide +kernel
theorem dX2_secondParentOf_17 : decode cX2_secondParentOf 17 = .ok (.bipush (-5), 2) := by decide +kernel
theorem dX2_secondParentOf_19 : decode cX2_secondParentOf 19 = .ok (.ireturn, 1) := by decide +kernel
set_option maxRecDepth 20000 in
theorem ggX2_pivotOf_X2_has : GoodIn wsX2_pivotOf wsX2_has := goodIn_r _ [6, 7, 8, 9, 10, 11, 12, 13, 14, 15, 16, 17, 18, 19, 20, 21] (by decide +kernel) (by decide +kernel)
set_option maxRecDepth 20000 in
theorem gX2_pivotOf_X2_has : GoodIn wsX2_pivotOf (wsV RX2 52 RX2 yX2_has wsX2_has) := goodIn_app (goodIn_of _ (by decide +kernel)) ggX2_pivotOf_X2_has
theorem dX2_pivotOf_0 : decode cX2_pivotOf 0 = .ok (.aload_n 0, 1) := by decide +kernel
theorem dX2_pivotOf_1 : decode cX2_pivotOf 1 = .ok (.iload_n 1, 1) := by decide +kernel
theorem dX2_pivotOf_2 : decode cX2_pivotOf 2 = .ok (.invokevirtual 52, 3) := by decide +kernel
theorem dX2_pivotOf_5 : decode cX2_pivotOf 5 = .ok (.ifCond .eq 12, 3) := by decide +kernel
theorem dX2_pivotOf_8 : decode cX2_pivotOf 8 = .ok (.aload_n 0, 1) := by decide +kernel
theorem dX2_pivotOf_9 : decode cX2_pivotOf 9 = .ok (.getfield 24, 3) := by decide +kernel
theorem dX2_pivotOf_12 : decode cX2_pivotOf 12 = .ok (.iload_n 1, 1) := by decide +kernel
theorem dX2_pivotOf_13 : decode cX2_pivotOf 13 = .ok (.iaload, 1) := by decide +kernel
theorem dX2_pivotOf_14 : decode cX2_pivotOf 14 = .ok (.goto 5, 3) := by decide +kernel
theorem dX2_pivotOf_17 : decode cX2_pivotOf 17 = .ok (.bipush (-5), 2) := by decide +kernel
theorem dX2_pivotOf_19 : decode cX2_pivotOf 19 = .ok (.ireturn, 1) := by decide +kernel
set_option maxRecDepth 20000 in
theorem ggX2_isNeeded_X2_has : GoodIn wsX2_isNeeded wsX2_has := goodIn_r _ [6, 7, 8, 9, 10, 11, 12, 13, 14, 15, 16, 17, 18, 19, 20, 21] (by decide +kernel) (by decide +kernel)
set_option maxRecDepth 20000 in
theorem gX2_isNeeded_X2_has : GoodIn wsX2_isNeeded (wsV RX2 52 RX2 yX2_has wsX2_has) := goodIn_app (goodIn_of _ (by decide +kernel)) ggX2_isNeeded_X2_has
theorem dX2_isNeeded_0 : decode cX2_isNeeded 0 = .ok (.aload_n 0, 1) := by decide +kernel
theorem dX2_isNeeded_1 : decode cX2_isNeeded 1 = .ok (.iload_n 1, 1) := by decide +kernel
theorem dX2_isNeeded_2 : decode cX2_isNeeded 2 = .ok (.invokevirtual 52, 3) := by decide +kernel
theorem dX2_isNeeded_5 : decode cX2_isNeeded 5 = .ok (.ifCond .eq 16, 3) := by decide +kernel
theorem dX2_isNeeded_8 : decode cX2_isNeeded 8 = .ok (.aload_n 0, 1) := by decide +kernel
theorem dX2_isNeeded_9 : decode cX2_isNeeded 9 = .ok (.getfield 34, 3) := by decide +kernel
theorem dX2_isNeeded_12 : decode cX2_isNeeded 12 = .ok (.iload_n 1, 1) := by decide +kernel
theorem dX2_isNeeded_13 : decode cX2_isNeeded 13 = .ok (.baload, 1) := by decide +kernel
theorem dX2_isNeeded_14 : decode cX2_isNeeded 14 = .ok (.ifCond .eq 7, 3) := by decide +kernel
theorem dX2_isNeeded_17 : decode cX2_isNeeded 17 = .ok (.iconst 1, 1) := by decide +kernel
theorem dX2_isNeeded_18 : decode cX2_isNeeded 18 = .ok (.goto 4, 3) := by decide +kernel
theorem dX2_isNeeded_21 : decode cX2_isNeeded 21 = .ok (.iconst 0, 1) := by decide +kernel
theorem dX2_isNeeded_22 : decode cX2_isNeeded 22 = .ok (.ireturn, 1) := by decide +kernel
set_option maxRecDepth 20000 in
theorem ggX2_neededAmong_X2_isNeeded : GoodIn wsX2_neededAmong wsX2_isNeeded := goodIn_r _ [6, 7, 8, 9, 10, 5, 11, 1, 15, 16, 17, 18, 19, 20, 21, 22, 23, 24, 25, 26, 27, 28] (by decide +kernel) (by decide +kernel)
set_option maxRecDepth 20000 in
theorem gX2_neededAmong_X2_isNeeded : GoodIn wsX2_neededAmong (wsV RX2 56 RX2 yX2_isNeeded wsX2_isNeeded) := goodIn_app (goodIn_of _ (by decide +kernel)) ggX2_neededAmong_X2_isNeeded
set_option maxRecDepth 20000 in
theorem ggX2_neededAmong_X4_asNumber : GoodIn wsX2_neededAmong wsX4_asNumber := goodIn_r _ [14] (by decide +kernel) (by decide +kernel)
set_option maxRecDepth 20000 in
theorem gX2_neededAmong_X4_asNumber_n59 : GoodIn wsX2_neededAmong (wsX4_asNumber) := ggX2_neededAmong_X4_asNumber
theorem dX2_neededAmong_0 : decode cX2_neededAmong 0 = .ok (.iconst 0, 1) := by decide +kernel
theorem dX2_neededAmong_1 : decode cX2_neededAmong 1 = .ok (.istore_n 2, 1) := by decide +kernel
theorem dX2_neededAmong_2 : decode cX2_neededAmong 2 = .ok (.iconst 0, 1) := by decide +kernel
theorem dX2_neededAmong_3 : decode cX2_neededAmong 3 = .ok (.istore_n 3, 1) := by decide +kernel
theorem dX2_neededAmong_4 : decode cX2_neededAmong 4 = .ok (.iload_n 3, 1) := by decide +kernel
theorem dX2_neededAmong_5 : decode cX2_neededAmong 5 = .ok (.iload_n 1, 1) := by decide +kernel
theorem dX2_neededAmong_6 : decode cX2_neededAmong 6 = .ok (.if_icmp .ge 28, 3) := by decide +kernel
theorem dX2_neededAmong_9 : decode cX2_neededAmong 9 = .ok (.iload_n 3, 1) := by decide +kernel
theorem dX2_neededAmong_10 : decode cX2_neededAmong 10 = .ok (.aload_n 0, 1) := by decide +kernel
theorem dX2_neededAmong_11 : decode cX2_neededAmong 11 = .ok (.getfield 41, 3) := by decide +kernel
theorem dX2_neededAmong_14 : decode cX2_neededAmong 14 = .ok (.if_icmp .ge 20, 3) := by decide +kernel
theorem dX2_neededAmong_17 : decode cX2_neededAmong 17 = .ok (.iload_n 2, 1) := by decide +kernel
theorem dX2_neededAmong_18 : decode cX2_neededAmong 18 = .ok (.aload_n 0, 1) := by decide +kernel
theorem dX2_neededAmong_19 : decode cX2_neededAmong 19 = .ok (.iload_n 3, 1) := by decide +kernel
theorem dX2_neededAmong_20 : decode cX2_neededAmong 20 = .ok (.invokevirtual 56, 3) := by decide +kernel
theorem dX2_neededAmong_23 : decode cX2_neededAmong 23 = .ok (.invokestatic 59, 3) := by decide +kernel
theorem dX2_neededAmong_26 : decode cX2_neededAmong 26 = .ok (.iadd, 1) := by decide +kernel
theorem dX2_neededAmong_27 : decode cX2_neededAmong 27 = .ok (.istore_n 2, 1) := by decide +kernel
theorem dX2_neededAmong_28 : decode cX2_neededAmong 28 = .ok (.iinc 3 1, 3) := by decide +kernel
theorem dX2_neededAmong_31 : decode cX2_neededAmong 31 = .ok (.goto (-27), 3) := by decide +kernel
theorem dX2_neededAmong_34 : decode cX2_neededAmong 34 = .ok (.iload_n 2, 1) := by decide +kernel
theorem dX2_neededAmong_35 : decode cX2_neededAmong 35 = .ok (.ireturn, 1) := by decide +kernel
set_option maxRecDepth 20000 in
theorem ggX2_partialClaim_X2_has : GoodIn wsX2_partialClaim wsX2_has := goodIn_r _ [7, 8, 9, 10, 11, 12, 13, 14, 15, 16, 17, 18, 19, 20, 21, 22] (by decide +kernel) (by decide +kernel)
set_option maxRecDepth 20000 in
theorem gX2_partialClaim_X2_has : GoodIn wsX2_partialClaim (wsV RX2 52 RX2 yX2_has wsX2_has) := goodIn_app (goodIn_of _ (by decide +kernel)) ggX2_partialClaim_X2_has
theorem dX2_partialClaim_0 : decode cX2_partialClaim 0 = .ok (.aload_n 0, 1) := by decide +kernel
theorem dX2_partialClaim_1 : decode cX2_partialClaim 1 = .ok (.iload_n 1, 1) := by decide +kernel
theorem dX2_partialClaim_2 : decode cX2_partialClaim 2 = .ok (.invokevirtual 52, 3) := by decide +kernel
theorem dX2_partialClaim_5 : decode cX2_partialClaim 5 = .ok (.ifCond .ne 5, 3) := by decide +kernel
theorem dX2_partialClaim_8 : decode cX2_partialClaim 8 = .ok (.lconst 0, 1) := by decide +kernel
theorem dX2_partialClaim_9 : decode cX2_partialClaim 9 = .ok (.lreturn, 1) := by decide +kernel
theorem dX2_partialClaim_10 : decode cX2_partialClaim 10 = .ok (.iload_n 2, 1) := by decide +kernel
theorem dX2_partialClaim_11 : decode cX2_partialClaim 11 = .ok (.ifCond .ne 12, 3) := by decide +kernel
theorem dX2_partialClaim_14 : decode cX2_partialClaim 14 = .ok (.aload_n 0, 1) := by decide +kernel
theorem dX2_partialClaim_15 : decode cX2_partialClaim 15 = .ok (.getfield 27, 3) := by decide +kernel
theorem dX2_partialClaim_18 : decode cX2_partialClaim 18 = .ok (.iload_n 1, 1) := by decide +kernel
theorem dX2_partialClaim_19 : decode cX2_partialClaim 19 = .ok (.laload, 1) := by decide +kernel
theorem dX2_partialClaim_20 : decode cX2_partialClaim 20 = .ok (.goto 9, 3) := by decide +kernel
theorem dX2_partialClaim_23 : decode cX2_partialClaim 23 = .ok (.aload_n 0, 1) := by decide +kernel
theorem dX2_partialClaim_24 : decode cX2_partialClaim 24 = .ok (.getfield 31, 3) := by decide +kernel
theorem dX2_partialClaim_27 : decode cX2_partialClaim 27 = .ok (.iload_n 1, 1) := by decide +kernel
theorem dX2_partialClaim_28 : decode cX2_partialClaim 28 = .ok (.laload, 1) := by decide +kernel
theorem dX2_partialClaim_29 : decode cX2_partialClaim 29 = .ok (.lreturn, 1) := by decide +kernel
set_option maxRecDepth 20000 in
theorem ggX2_middleClaim_X2_partialClaim : GoodIn wsX2_middleClaim wsX2_partialClaim := goodIn_r _ [6, 7, 8, 9, 10, 11, 5, 12, 1, 13, 14, 15, 16, 17, 18, 19, 20, 21, 22, 23, 24, 25, 26] (by decide +kernel) (by decide +kernel)
set_option maxRecDepth 20000 in
theorem gX2_middleClaim_X2_partialClaim : GoodIn wsX2_middleClaim (wsV RX2 63 RX2 yX2_partialClaim wsX2_partialClaim) := goodIn_app (goodIn_of _ (by decide +kernel)) ggX2_middleClaim_X2_partialClaim
theorem dX2_middleClaim_0 : decode cX2_middleClaim 0 = .ok (.aload_n 0, 1) := by decide +kernel
theorem dX2_middleClaim_1 : decode cX2_middleClaim 1 = .ok (.aload_n 0, 1) := by decide +kernel
theorem dX2_middleClaim_2 : decode cX2_middleClaim 2 = .ok (.getfield 41, 3) := by decide +kernel
theorem dX2_middleClaim_5 : decode cX2_middleClaim 5 = .ok (.iconst 1, 1) := by decide +kernel
theorem dX2_middleClaim_6 : decode cX2_middleClaim 6 = .ok (.isub, 1) := by decide +kernel
theorem dX2_middleClaim_7 : decode cX2_middleClaim 7 = .ok (.iload_n 1, 1) := by decide +kernel
theorem dX2_middleClaim_8 : decode cX2_middleClaim 8 = .ok (.invokevirtual 63, 3) := by decide +kernel
theorem dX2_middleClaim_11 : decode cX2_middleClaim 11 = .ok (.lreturn, 1) := by decide +kernel
set_option maxRecDepth 20000 in
theorem ggX2_make_X0_signsKnownTo : GoodIn wsX2_make wsX0_signsKnownTo := goodIn_r _ [11, 12, 13, 14, 15, 10, 16, 17, 18, 19, 20, 21, 22, 23, 24, 25, 26, 27, 28, 29, 30, 31, 141, 142, 143, 144] (by decide +kernel) (by decide +kernel)
set_option maxRecDepth 20000 in
theorem gX2_make_X0_signsKnownTo : GoodIn wsX2_make (wsV RX2 67 RX0 yX0_signsKnownTo wsX0_signsKnownTo) := goodIn_app (goodIn_of _ (by decide +kernel)) ggX2_make_X0_signsKnownTo
set_option maxRecDepth 20000 in
theorem ggX2_make_X0_size : GoodIn wsX2_make wsX0_size := goodIn_r _ [35, 12, 141, 142, 143, 144] (by decide +kernel) (by decide +kernel)
set_option maxRecDepth 20000 in
theorem gX2_make_X0_size : GoodIn wsX2_make (wsV RX2 79 RX0 yX0_size wsX0_size) := goodIn_app (goodIn_of _ (by decide +kernel)) ggX2_make_X0_size
set_option maxRecDepth 20000 in
theorem ggX2_make_X0_sideOf : GoodIn wsX2_make wsX0_sideOf := goodIn_r _ [16, 17, 18, 19, 20, 10, 21, 12, 141, 142, 143, 144] (by decide +kernel) (by decide +kernel)
set_option maxRecDepth 20000 in
theorem gX2_make_X0_sideOf : GoodIn wsX2_make (wsV RX2 82 RX0 yX0_sideOf wsX0_sideOf) := goodIn_app (goodIn_of _ (by decide +kernel)) ggX2_make_X0_sideOf
set_option maxRecDepth 20000 in
theorem ggX2_make_X0_signsOf : GoodIn wsX2_make wsX0_signsOf := goodIn_r _ [25, 26, 18, 19, 20, 10, 21, 12, 17, 141, 142, 143, 144] (by decide +kernel) (by decide +kernel)
set_option maxRecDepth 20000 in
theorem gX2_make_X0_signsOf : GoodIn wsX2_make (wsV RX2 85 RX0 yX0_signsOf wsX0_signsOf) := goodIn_app (goodIn_of _ (by decide +kernel)) ggX2_make_X0_signsOf
set_option maxRecDepth 20000 in
theorem ggX2_make_X0_oppositesOf : GoodIn wsX2_make wsX0_oppositesOf := goodIn_r _ [30, 31, 18, 19, 20, 10, 21, 12, 17, 141, 142, 143, 144] (by decide +kernel) (by decide +kernel)
set_option maxRecDepth 20000 in
theorem gX2_make_X0_oppositesOf : GoodIn wsX2_make (wsV RX2 88 RX0 yX0_oppositesOf wsX0_oppositesOf) := goodIn_app (goodIn_of _ (by decide +kernel)) ggX2_make_X0_oppositesOf
set_option maxRecDepth 20000 in
theorem ggX2_make_X2_appendClause : GoodIn wsX2_make wsX2_appendClause := goodIn_r _ [43, 4, 5, 44, 45, 46, 47, 48, 49, 50, 51, 52, 53, 54, 55, 56, 57, 58, 42, 59, 1, 60, 61, 62, 63, 64, 65, 66, 67, 6, 127, 128, 129, 130, 131, 132, 133, 134, 135, 136, 137, 138, 139, 140] (by decide +kernel) (by decide +kernel)
set_option maxRecDepth 20000 in
theorem gX2_make_X2_appendClause : GoodIn wsX2_make (wsV RX2 91 RX2 yX2_appendClause wsX2_appendClause) := goodIn_app (goodIn_of _ (by decide +kernel)) ggX2_make_X2_appendClause
set_option maxRecDepth 20000 in
theorem ggX2_make_X2_resolveAll : GoodIn wsX2_make wsX2_resolveAll := goodIn_r _ [71, 1, 60, 61, 2, 3, 72, 73, 74, 75, 76, 77, 78, 79, 80, 81, 42, 82, 83, 84, 85, 86, 87, 88, 89, 90, 91, 92, 93, 94, 95, 96, 97, 98, 6, 99, 100, 101, 102, 65, 66, 103, 104, 105, 106, 5, 4, 44, 50, 46, 51, 53, 54, 55, 56, 57, 58, 59, 62, 63, 64, 67, 127, 128, 129, 130, 131, 132, 133, 134, 135, 136, 137, 138, 139, 140] (by decide +kernel) (by decide +kernel)
set_option maxRecDepth 20000 in
theorem gX2_make_X2_resolveAll : GoodIn wsX2_make (wsV RX2 95 RX2 yX2_resolveAll wsX2_resolveAll) := goodIn_app (goodIn_of _ (by decide +kernel)) ggX2_make_X2_resolveAll
set_option maxRecDepth 20000 in
theorem ggX2_make_X2_markNeededSteps : GoodIn wsX2_make wsX2_markNeededSteps := goodIn_r _ [110, 1, 111, 112, 113, 42, 114, 67, 87, 88, 89, 90, 115, 116, 117, 118, 119, 120, 121, 122, 62, 123, 124, 125, 126, 63, 127, 128, 129, 130, 131, 132, 133, 134, 135, 136, 137, 138, 139, 140] (by decide +kernel) (by decide +kernel)
set_option maxRecDepth 20000 in
theorem gX2_make_X2_markNeededSteps : GoodIn wsX2_make (wsV RX2 98 RX2 yX2_markNeededSteps wsX2_markNeededSteps) := goodIn_app (goodIn_of _ (by decide +kernel)) ggX2_make_X2_markNeededSteps
theorem dX2_make_0 : decode cX2_make 0 = .ok (.aload_n 0, 1) := by decide +kernel
theorem dX2_make_1 : decode cX2_make 1 = .ok (.iconst 0, 1) := by decide +kernel
theorem dX2_make_2 : decode cX2_make 2 = .ok (.putfield 41, 3) := by decide +kernel
theorem dX2_make_5 : decode cX2_make 5 = .ok (.aload_n 0, 1) := by decide +kernel
theorem dX2_make_6 : decode cX2_make 6 = .ok (.iconst 0, 1) := by decide +kernel
theorem dX2_make_7 : decode cX2_make 7 = .ok (.putfield 45, 3) := by decide +kernel
theorem dX2_make_10 : decode cX2_make 10 = .ok (.aload_n 0, 1) := by decide +kernel
theorem dX2_make_11 : decode cX2_make 11 = .ok (.iconst 0, 1) := by decide +kernel
theorem dX2_make_12 : decode cX2_make 12 = .ok (.putfield 49, 3) := by decide +kernel
theorem dX2_make_15 : decode cX2_make 15 = .ok (.aload_n 0, 1) := by decide +kernel
theorem dX2_make_16 : decode cX2_make 16 = .ok (.aload_n 1, 1) := by decide +kernel
theorem dX2_make_17 : decode cX2_make 17 = .ok (.iconst 0, 1) := by decide +kernel
theorem dX2_make_18 : decode cX2_make 18 = .ok (.invokevirtual 67, 3) := by decide +kernel
theorem dX2_make_21 : decode cX2_make 21 = .ok (.putfield 73, 3) := by decide +kernel
theorem dX2_make_24 : decode cX2_make 24 = .ok (.aload_n 0, 1) := by decide +kernel
theorem dX2_make_25 : decode cX2_make 25 = .ok (.aload_n 1, 1) := by decide +kernel
theorem dX2_make_26 : decode cX2_make 26 = .ok (.iconst 1, 1) := by decide +kernel
theorem dX2_make_27 : decode cX2_make 27 = .ok (.invokevirtual 67, 3) := by decide +kernel
theorem dX2_make_30 : decode cX2_make 30 = .ok (.putfield 76, 3) := by decide +kernel
theorem dX2_make_33 : decode cX2_make 33 = .ok (.iconst 0, 1) := by decide +kernel
theorem dX2_make_34 : decode cX2_make 34 = .ok (.istore_n 2, 1) := by decide +kernel
theorem dX2_make_35 : decode cX2_make 35 = .ok (.iload_n 2, 1) := by decide +kernel
theorem dX2_make_36 : decode cX2_make 36 = .ok (.aload_n 0, 1) := by decide +kernel
theorem dX2_make_37 : decode cX2_make 37 = .ok (.getfield 38, 3) := by decide +kernel
theorem dX2_make_40 : decode cX2_make 40 = .ok (.arraylength, 1) := by decide +kernel
theorem dX2_make_41 : decode cX2_make 41 = .ok (.if_icmp .ge 16, 3) := by decide +kernel
theorem dX2_make_44 : decode cX2_make 44 = .ok (.aload_n 0, 1) := by decide +kernel
theorem dX2_make_45 : decode cX2_make 45 = .ok (.getfield 38, 3) := by decide +kernel
theorem dX2_make_48 : decode cX2_make 48 = .ok (.iload_n 2, 1) := by decide +kernel
theorem dX2_make_49 : decode cX2_make 49 = .ok (.lconst 0, 1) := by decide +kernel
theorem dX2_make_50 : decode cX2_make 50 = .ok (.lastore, 1) := by decide +kernel
theorem dX2_make_51 : decode cX2_make 51 = .ok (.iinc 2 1, 3) := by decide +kernel
theorem dX2_make_54 : decode cX2_make 54 = .ok (.goto (-19), 3) := by decide +kernel
theorem dX2_make_57 : decode cX2_make 57 = .ok (.iconst 0, 1) := by decide +kernel
theorem dX2_make_58 : decode cX2_make 58 = .ok (.istore_n 2, 1) := by decide +kernel
theorem dX2_make_59 : decode cX2_make 59 = .ok (.iload_n 2, 1) := by decide +kernel
theorem dX2_make_60 : decode cX2_make 60 = .ok (.aload_n 1, 1) := by decide +kernel
theorem dX2_make_61 : decode cX2_make 61 = .ok (.invokevirtual 79, 3) := by decide +kernel
theorem dX2_make_64 : decode cX2_make 64 = .ok (.if_icmp .ge 28, 3) := by decide +kernel
theorem dX2_make_67 : decode cX2_make 67 = .ok (.aload_n 0, 1) := by decide +kernel
theorem dX2_make_68 : decode cX2_make 68 = .ok (.aload_n 1, 1) := by decide +kernel
theorem dX2_make_69 : decode cX2_make 69 = .ok (.iload_n 2, 1) := by decide +kernel
theorem dX2_make_70 : decode cX2_make 70 = .ok (.invokevirtual 82, 3) := by decide +kernel
theorem dX2_make_73 : decode cX2_make 73 = .ok (.aload_n 1, 1) := by decide +kernel
theorem dX2_make_74 : decode cX2_make 74 = .ok (.iload_n 2, 1) := by decide +kernel
theorem dX2_make_75 : decode cX2_make 75 = .ok (.invokevirtual 85, 3) := by decide +kernel
theorem dX2_make_78 : decode cX2_make 78 = .ok (.aload_n 1, 1) := by decide +kernel
theorem dX2_make_79 : decode cX2_make 79 = .ok (.iload_n 2, 1) := by decide +kernel
theorem dX2_make_80 : decode cX2_make 80 = .ok (.invokevirtual 88, 3) := by decide +kernel
theorem dX2_make_83 : decode cX2_make 83 = .ok (.invokevirtual 91, 3) := by decide +kernel
theorem dX2_make_86 : decode cX2_make 86 = .ok (.iinc 2 1, 3) := by decide +kernel
theorem dX2_make_89 : decode cX2_make 89 = .ok (.goto (-30), 3) := by decide +kernel
theorem dX2_make_92 : decode cX2_make 92 = .ok (.aload_n 0, 1) := by decide +kernel
theorem dX2_make_93 : decode cX2_make 93 = .ok (.invokevirtual 95, 3) := by decide +kernel
theorem dX2_make_96 : decode cX2_make 96 = .ok (.aload_n 0, 1) := by decide +kernel
theorem dX2_make_97 : decode cX2_make 97 = .ok (.getfield 49, 3) := by decide +kernel
theorem dX2_make_100 : decode cX2_make 100 = .ok (.ifCond .eq 7, 3) := by decide +kernel
theorem dX2_make_103 : decode cX2_make 103 = .ok (.aload_n 0, 1) := by decide +kernel
theorem dX2_make_104 : decode cX2_make 104 = .ok (.invokevirtual 98, 3) := by decide +kernel
theorem dX2_make_107 : decode cX2_make 107 = .ok (.return_, 1) := by decide +kernel
set_option maxRecDepth 20000 in
theorem ggX2_appendClause_X4_worldsOfLiterals : GoodIn wsX2_appendClause wsX4_worldsOfLiterals := goodIn_r _ [6, 7, 8, 9, 5, 10, 11, 12, 13, 14] (by decide +kernel) (by decide +kernel)
set_option maxRecDepth 20000 in
theorem gX2_appendClause_X4_worldsOfLiterals_n101 : GoodIn wsX2_appendClause (wsX4_worldsOfLiterals) := ggX2_appendClause_X4_worldsOfLiterals
set_option maxRecDepth 20000 in
theorem ggX2_appendClause_X2_appendStep : GoodIn wsX2_appendClause wsX2_appendStep := goodIn_r _ [19, 20, 21, 22, 23, 24, 25, 26, 27, 28, 29, 30, 31, 32, 33, 34, 35, 36, 37, 38, 39, 40, 41, 42, 43] (by decide +kernel) (by decide +kernel)
set_option maxRecDepth 20000 in
theorem gX2_appendClause_X2_appendStep : GoodIn wsX2_appendClause (wsV RX2 104 RX2 yX2_appendStep wsX2_appendStep) := goodIn_app (goodIn_of _ (by decide +kernel)) ggX2_appendClause_X2_appendStep
theorem dX2_appendClause_0 : decode cX2_appendClause 0 = .ok (.iload_n 1, 1) := by decide +kernel
theorem dX2_appendClause_1 : decode cX2_appendClause 1 = .ok (.ifCond .ne 45, 3) := by decide +kernel
theorem dX2_appendClause_4 : decode cX2_appendClause 4 = .ok (.aload_n 0, 1) := by decide +kernel
theorem dX2_appendClause_5 : decode cX2_appendClause 5 = .ok (.getfield 73, 3) := by decide +kernel
theorem dX2_appendClause_8 : decode cX2_appendClause 8 = .ok (.aload_n 0, 1) := by decide +kernel
theorem dX2_appendClause_9 : decode cX2_appendClause 9 = .ok (.getfield 76, 3) := by decide +kernel
theorem dX2_appendClause_12 : decode cX2_appendClause 12 = .ok (.iand, 1) := by decide +kernel
theorem dX2_appendClause_13 : decode cX2_appendClause 13 = .ok (.istore 4, 2) := by decide +kernel
theorem dX2_appendClause_15 : decode cX2_appendClause 15 = .ok (.iload_n 2, 1) := by decide +kernel
theorem dX2_appendClause_16 : decode cX2_appendClause 16 = .ok (.iload 4, 2) := by decide +kernel
theorem dX2_appendClause_18 : decode cX2_appendClause 18 = .ok (.iand, 1) := by decide +kernel
theorem dX2_appendClause_19 : decode cX2_appendClause 19 = .ok (.iload_n 3, 1) := by decide +kernel
theorem dX2_appendClause_20 : decode cX2_appendClause 20 = .ok (.iload 4, 2) := by decide +kernel
theorem dX2_appendClause_22 : decode cX2_appendClause 22 = .ok (.iand, 1) := by decide +kernel
theorem dX2_appendClause_23 : decode cX2_appendClause 23 = .ok (.invokestatic 101, 3) := by decide +kernel
theorem dX2_appendClause_26 : decode cX2_appendClause 26 = .ok (.lstore 5, 2) := by decide +kernel
theorem dX2_appendClause_28 : decode cX2_appendClause 28 = .ok (.aload_n 0, 1) := by decide +kernel
theorem dX2_appendClause_29 : decode cX2_appendClause 29 = .ok (.iload_n 2, 1) := by decide +kernel
theorem dX2_appendClause_30 : decode cX2_appendClause 30 = .ok (.iload_n 3, 1) := by decide +kernel
theorem dX2_appendClause_31 : decode cX2_appendClause 31 = .ok (.bipush (-5), 2) := by decide +kernel
theorem dX2_appendClause_33 : decode cX2_appendClause 33 = .ok (.bipush (-5), 2) := by decide +kernel
theorem dX2_appendClause_35 : decode cX2_appendClause 35 = .ok (.bipush (-5), 2) := by decide +kernel
theorem dX2_appendClause_37 : decode cX2_appendClause 37 = .ok (.lconst 0, 1) := by decide +kernel
theorem dX2_appendClause_38 : decode cX2_appendClause 38 = .ok (.lload 5, 2) := by decide +kernel
theorem dX2_appendClause_40 : decode cX2_appendClause 40 = .ok (.invokevirtual 104, 3) := by decide +kernel
theorem dX2_appendClause_43 : decode cX2_appendClause 43 = .ok (.goto 21, 3) := by decide +kernel
theorem dX2_appendClause_46 : decode cX2_appendClause 46 = .ok (.aload_n 0, 1) := by decide +kernel
theorem dX2_appendClause_47 : decode cX2_appendClause 47 = .ok (.iload_n 2, 1) := by decide +kernel
theorem dX2_appendClause_48 : decode cX2_appendClause 48 = .ok (.iload_n 3, 1) := by decide +kernel
theorem dX2_appendClause_49 : decode cX2_appendClause 49 = .ok (.bipush (-5), 2) := by decide +kernel
theorem dX2_appendClause_51 : decode cX2_appendClause 51 = .ok (.bipush (-5), 2) := by decide +kernel
theorem dX2_appendClause_53 : decode cX2_appendClause 53 = .ok (.bipush (-5), 2) := by decide +kernel
theorem dX2_appendClause_55 : decode cX2_appendClause 55 = .ok (.ldc2_w 108, 3) := by decide +kernel
theorem dX2_appendClause_58 : decode cX2_appendClause 58 = .ok (.ldc2_w 108, 3) := by decide +kernel
theorem dX2_appendClause_61 : decode cX2_appendClause 61 = .ok (.invokevirtual 104, 3) := by decide +kernel
theorem dX2_appendClause_64 : decode cX2_appendClause 64 = .ok (.return_, 1) := by decide +kernel
set_option maxRecDepth 20000 in
theorem ggX2_resolveAll_J6_bitCount_0f7a4 : GoodIn wsX2_resolveAll wsJ6_bitCount_0f7a4 := goodIn_r _ [9, 10, 11, 12] (by decide +kernel) (by decide +kernel)
set_option maxRecDepth 20000 in
theorem gX2_resolveAll_J6_bitCount_0f7a4 : GoodIn wsX2_resolveAll (va_wsS RX2 110 yJ6_bitCount_0f7a4 wsJ6_bitCount_0f7a4) := goodIn_app (goodIn_of _ (by decide +kernel)) ggX2_resolveAll_J6_bitCount_0f7a4
set_option maxRecDepth 20000 in
theorem ggX2_resolveAll_X2_resolve : GoodIn wsX2_resolveAll wsX2_resolve := goodIn_r _ [17, 1, 4, 5, 18, 19, 20, 16, 21, 2, 22, 23, 24, 25, 26, 27, 28, 29, 3, 30, 31, 32, 33, 34, 6, 7, 8, 9, 10, 11, 12, 35, 36, 37, 38, 39, 40, 41, 42, 43, 44, 45, 46, 47, 48, 49, 50, 51, 52, 53, 54, 55, 56, 57, 58, 59, 60, 61, 62, 63, 64, 65, 66, 67, 68, 69, 70, 71, 72, 73, 74, 75] (by decide +kernel) (by decide +kernel)
set_option maxRecDepth 20000 in
theorem gX2_resolveAll_X2_resolve : GoodIn wsX2_resolveAll (wsV RX2 115 RX2 yX2_resolve wsX2_resolve) := goodIn_app (goodIn_of _ (by decide +kernel)) ggX2_resolveAll_X2_resolve
theorem dX2_resolveAll_0 : decode cX2_resolveAll 0 = .ok (.iconst 0, 1) := by decide +kernel
theorem dX2_resolveAll_1 : decode cX2_resolveAll 1 = .ok (.istore_n 1, 1) := by decide +kernel
theorem dX2_resolveAll_2 : decode cX2_resolveAll 2 = .ok (.iload_n 1, 1) := by decide +kernel
theorem dX2_resolveAll_3 : decode cX2_resolveAll 3 = .ok (.aload_n 0, 1) := by decide +kernel
theorem dX2_resolveAll_4 : decode cX2_resolveAll 4 = .ok (.getfield 41, 3) := by decide +kernel
theorem dX2_resolveAll_7 : decode cX2_resolveAll 7 = .ok (.if_icmp .ge 87, 3) := by decide +kernel
theorem dX2_resolveAll_10 : decode cX2_resolveAll 10 = .ok (.iload_n 1, 1) := by decide +kernel
theorem dX2_resolveAll_11 : decode cX2_resolveAll 11 = .ok (.sipush 400, 3) := by decide +kernel
theorem dX2_resolveAll_14 : decode cX2_resolveAll 14 = .ok (.if_icmp .ge 80, 3) := by decide +kernel
theorem dX2_resolveAll_17 : decode cX2_resolveAll 17 = .ok (.iconst 0, 1) := by decide +kernel
theorem dX2_resolveAll_18 : decode cX2_resolveAll 18 = .ok (.istore_n 2, 1) := by decide +kernel
theorem dX2_resolveAll_19 : decode cX2_resolveAll 19 = .ok (.iload_n 2, 1) := by decide +kernel
theorem dX2_resolveAll_20 : decode cX2_resolveAll 20 = .ok (.iload_n 1, 1) := by decide +kernel
theorem dX2_resolveAll_21 : decode cX2_resolveAll 21 = .ok (.if_icmp .ge 67, 3) := by decide +kernel
theorem dX2_resolveAll_24 : decode cX2_resolveAll 24 = .ok (.aload_n 0, 1) := by decide +kernel
theorem dX2_resolveAll_25 : decode cX2_resolveAll 25 = .ok (.getfield 9, 3) := by decide +kernel
theorem dX2_resolveAll_28 : decode cX2_resolveAll 28 = .ok (.iload_n 2, 1) := by decide +kernel
theorem dX2_resolveAll_29 : decode cX2_resolveAll 29 = .ok (.iaload, 1) := by decide +kernel
theorem dX2_resolveAll_30 : decode cX2_resolveAll 30 = .ok (.aload_n 0, 1) := by decide +kernel
theorem dX2_resolveAll_31 : decode cX2_resolveAll 31 = .ok (.getfield 15, 3) := by decide +kernel
theorem dX2_resolveAll_34 : decode cX2_resolveAll 34 = .ok (.iload_n 1, 1) := by decide +kernel
theorem dX2_resolveAll_35 : decode cX2_resolveAll 35 = .ok (.iaload, 1) := by decide +kernel
theorem dX2_resolveAll_36 : decode cX2_resolveAll 36 = .ok (.iand, 1) := by decide +kernel
theorem dX2_resolveAll_37 : decode cX2_resolveAll 37 = .ok (.aload_n 0, 1) := by decide +kernel
theorem dX2_resolveAll_38 : decode cX2_resolveAll 38 = .ok (.getfield 15, 3) := by decide +kernel
theorem dX2_resolveAll_41 : decode cX2_resolveAll 41 = .ok (.iload_n 2, 1) := by decide +kernel
theorem dX2_resolveAll_42 : decode cX2_resolveAll 42 = .ok (.iaload, 1) := by decide +kernel
theorem dX2_resolveAll_43 : decode cX2_resolveAll 43 = .ok (.aload_n 0, 1) := by decide +kernel
theorem dX2_resolveAll_44 : decode cX2_resolveAll 44 = .ok (.getfield 9, 3) := by decide +kernel
theorem dX2_resolveAll_47 : decode cX2_resolveAll 47 = .ok (.iload_n 1, 1) := by decide +kernel
theorem dX2_resolveAll_48 : decode cX2_resolveAll 48 = .ok (.iaload, 1) := by decide +kernel
theorem dX2_resolveAll_49 : decode cX2_resolveAll 49 = .ok (.iand, 1) := by decide +kernel
theorem dX2_resolveAll_50 : decode cX2_resolveAll 50 = .ok (.ior, 1) := by decide +kernel
theorem dX2_resolveAll_51 : decode cX2_resolveAll 51 = .ok (.istore_n 3, 1) := by decide +kernel
theorem dX2_resolveAll_52 : decode cX2_resolveAll 52 = .ok (.iload_n 3, 1) := by decide +kernel
theorem dX2_resolveAll_53 : decode cX2_resolveAll 53 = .ok (.invokestatic 110, 3) := by decide +kernel
theorem dX2_resolveAll_56 : decode cX2_resolveAll 56 = .ok (.iconst 1, 1) := by decide +kernel
theorem dX2_resolveAll_57 : decode cX2_resolveAll 57 = .ok (.if_icmp .ne 10, 3) := by decide +kernel
theorem dX2_resolveAll_60 : decode cX2_resolveAll 60 = .ok (.aload_n 0, 1) := by decide +kernel
theorem dX2_resolveAll_61 : decode cX2_resolveAll 61 = .ok (.iload_n 2, 1) := by decide +kernel
theorem dX2_resolveAll_62 : decode cX2_resolveAll 62 = .ok (.iload_n 1, 1) := by decide +kernel
theorem dX2_resolveAll_63 : decode cX2_resolveAll 63 = .ok (.iload_n 3, 1) := by decide +kernel
theorem dX2_resolveAll_64 : decode cX2_resolveAll 64 = .ok (.invokevirtual 115, 3) := by decide +kernel
theorem dX2_resolveAll_67 : decode cX2_resolveAll 67 = .ok (.aload_n 0, 1) := by decide +kernel
theorem dX2_resolveAll_68 : decode cX2_resolveAll 68 = .ok (.getfield 45, 3) := by decide +kernel
theorem dX2_resolveAll_71 : decode cX2_resolveAll 71 = .ok (.ifCond .ne 10, 3) := by decide +kernel
theorem dX2_resolveAll_74 : decode cX2_resolveAll 74 = .ok (.aload_n 0, 1) := by decide +kernel
theorem dX2_resolveAll_75 : decode cX2_resolveAll 75 = .ok (.getfield 49, 3) := by decide +kernel
theorem dX2_resolveAll_78 : decode cX2_resolveAll 78 = .ok (.ifCond .eq 4, 3) := by decide +kernel
theorem dX2_resolveAll_81 : decode cX2_resolveAll 81 = .ok (.return_, 1) := by decide +kernel
theorem dX2_resolveAll_82 : decode cX2_resolveAll 82 = .ok (.iinc 2 1, 3) := by decide +kernel
theorem dX2_resolveAll_85 : decode cX2_resolveAll 85 = .ok (.goto (-66), 3) := by decide +kernel
theorem dX2_resolveAll_88 : decode cX2_resolveAll 88 = .ok (.iinc 1 1, 3) := by decide +kernel
theorem dX2_resolveAll_91 : decode cX2_resolveAll 91 = .ok (.goto (-89), 3) := by decide +kernel
theorem dX2_resolveAll_94 : decode cX2_resolveAll 94 = .ok (.return_, 1) := by decide +kernel
set_option maxRecDepth 20000 in
theorem ggX2_resolve_X2_signsOf : GoodIn wsX2_resolve wsX2_signsOf := goodIn_r _ [8, 9, 10, 11, 12, 7, 13, 1, 58, 59, 60, 61, 62, 63, 64, 65, 66, 67, 68, 69, 70, 71] (by decide +kernel) (by decide +kernel)
set_option maxRecDepth 20000 in
theorem gX2_resolve_X2_signsOf : GoodIn wsX2_resolve (wsV RX2 118 RX2 yX2_signsOf wsX2_signsOf) := goodIn_app (goodIn_of _ (by decide +kernel)) ggX2_resolve_X2_signsOf
set_option maxRecDepth 20000 in
theorem ggX2_resolve_X2_oppositesOf : GoodIn wsX2_resolve wsX2_oppositesOf := goodIn_r _ [17, 18, 10, 11, 12, 7, 13, 1, 58, 59, 60, 61, 62, 63, 64, 65, 66, 67, 68, 69, 70, 71] (by decide +kernel) (by decide +kernel)
set_option maxRecDepth 20000 in
theorem gX2_resolve_X2_oppositesOf : GoodIn wsX2_resolve (wsV RX2 119 RX2 yX2_oppositesOf wsX2_oppositesOf) := goodIn_app (goodIn_of _ (by decide +kernel)) ggX2_resolve_X2_oppositesOf
set_option maxRecDepth 20000 in
theorem ggX2_resolve_X2_isStep : GoodIn wsX2_resolve wsX2_isStep := goodIn_r _ [22, 23, 58, 59, 60, 61, 62, 63, 64, 65, 66, 67, 68, 69, 70, 71] (by decide +kernel) (by decide +kernel)
set_option maxRecDepth 20000 in
theorem gX2_resolve_X2_isStep : GoodIn wsX2_resolve (wsV RX2 120 RX2 yX2_isStep wsX2_isStep) := goodIn_app (goodIn_of _ (by decide +kernel)) ggX2_resolve_X2_isStep
set_option maxRecDepth 20000 in
theorem ggX2_resolve_J6_bitCount_0f7a4 : GoodIn wsX2_resolve wsJ6_bitCount_0f7a4 := goodIn_r _ [27, 28, 29, 30] (by decide +kernel) (by decide +kernel)
set_option maxRecDepth 20000 in
theorem gX2_resolve_J6_bitCount_0f7a4 : GoodIn wsX2_resolve (va_wsS RX2 110 yJ6_bitCount_0f7a4 wsJ6_bitCount_0f7a4) := goodIn_app (goodIn_of _ (by decide +kernel)) ggX2_resolve_J6_bitCount_0f7a4
set_option maxRecDepth 20000 in
theorem ggX2_resolve_X2_partialClaim : GoodIn wsX2_resolve wsX2_partialClaim := goodIn_r _ [34, 35, 36, 10, 11, 12, 7, 13, 1, 58, 59, 60, 61, 62, 63, 64, 65, 66, 67, 68, 69, 70, 71] (by decide +kernel) (by decide +kernel)
set_option maxRecDepth 20000 in
theorem gX2_resolve_X2_partialClaim : GoodIn wsX2_resolve (wsV RX2 63 RX2 yX2_partialClaim wsX2_partialClaim) := goodIn_app (goodIn_of _ (by decide +kernel)) ggX2_resolve_X2_partialClaim
set_option maxRecDepth 20000 in
theorem ggX2_resolve_X2_resolvedClaim : GoodIn wsX2_resolve wsX2_resolvedClaim := goodIn_r _ [40, 41, 42, 43, 44, 45, 46, 47, 48, 49, 58, 59, 60, 61, 62, 63, 64, 65, 66, 67, 68, 69, 70, 71] (by decide +kernel) (by decide +kernel)
set_option maxRecDepth 20000 in
theorem gX2_resolve_X2_resolvedClaim : GoodIn wsX2_resolve (wsV RX2 124 RX2 yX2_resolvedClaim wsX2_resolvedClaim) := goodIn_app (goodIn_of _ (by decide +kernel)) ggX2_resolve_X2_resolvedClaim
set_option maxRecDepth 20000 in
theorem ggX2_resolve_X2_appendStep : GoodIn wsX2_resolve wsX2_appendStep := goodIn_r _ [53, 1, 9, 18, 54, 55, 56, 35, 36, 57, 23, 58, 59, 60, 61, 62, 63, 64, 65, 66, 67, 68, 69, 70, 71] (by decide +kernel) (by decide +kernel)
set_option maxRecDepth 20000 in
theorem gX2_resolve_X2_appendStep : GoodIn wsX2_resolve (wsV RX2 104 RX2 yX2_appendStep wsX2_appendStep) := goodIn_app (goodIn_of _ (by decide +kernel)) ggX2_resolve_X2_appendStep
theorem dX2_resolve_0 : decode cX2_resolve 0 = .ok (.aload_n 0, 1) := by decide +kernel
theorem dX2_resolve_1 : decode cX2_resolve 1 = .ok (.iload_n 1, 1) := by decide +kernel
theorem dX2_resolve_2 : decode cX2_resolve 2 = .ok (.invokevirtual 118, 3) := by decide +kernel
theorem dX2_resolve_5 : decode cX2_resolve 5 = .ok (.aload_n 0, 1) := by decide +kernel
theorem dX2_resolve_6 : decode cX2_resolve 6 = .ok (.iload_n 2, 1) := by decide +kernel
theorem dX2_resolve_7 : decode cX2_resolve 7 = .ok (.invokevirtual 118, 3) := by decide +kernel
theorem dX2_resolve_10 : decode cX2_resolve 10 = .ok (.ior, 1) := by decide +kernel
theorem dX2_resolve_11 : decode cX2_resolve 11 = .ok (.iload_n 3, 1) := by decide +kernel
theorem dX2_resolve_12 : decode cX2_resolve 12 = .ok (.iconst (-1), 1) := by decide +kernel
theorem dX2_resolve_13 : decode cX2_resolve 13 = .ok (.ixor, 1) := by decide +kernel
theorem dX2_resolve_14 : decode cX2_resolve 14 = .ok (.iand, 1) := by decide +kernel
theorem dX2_resolve_15 : decode cX2_resolve 15 = .ok (.istore 4, 2) := by decide +kernel
theorem dX2_resolve_17 : decode cX2_resolve 17 = .ok (.aload_n 0, 1) := by decide +kernel
theorem dX2_resolve_18 : decode cX2_resolve 18 = .ok (.iload_n 1, 1) := by decide +kernel
theorem dX2_resolve_19 : decode cX2_resolve 19 = .ok (.invokevirtual 119, 3) := by decide +kernel
theorem dX2_resolve_22 : decode cX2_resolve 22 = .ok (.aload_n 0, 1) := by decide +kernel
theorem dX2_resolve_23 : decode cX2_resolve 23 = .ok (.iload_n 2, 1) := by decide +kernel
theorem dX2_resolve_24 : decode cX2_resolve 24 = .ok (.invokevirtual 119, 3) := by decide +kernel
theorem dX2_resolve_27 : decode cX2_resolve 27 = .ok (.ior, 1) := by decide +kernel
theorem dX2_resolve_28 : decode cX2_resolve 28 = .ok (.iload_n 3, 1) := by decide +kernel
theorem dX2_resolve_29 : decode cX2_resolve 29 = .ok (.iconst (-1), 1) := by decide +kernel
theorem dX2_resolve_30 : decode cX2_resolve 30 = .ok (.ixor, 1) := by decide +kernel
theorem dX2_resolve_31 : decode cX2_resolve 31 = .ok (.iand, 1) := by decide +kernel
theorem dX2_resolve_32 : decode cX2_resolve 32 = .ok (.istore 5, 2) := by decide +kernel
theorem dX2_resolve_34 : decode cX2_resolve 34 = .ok (.aload_n 0, 1) := by decide +kernel
theorem dX2_resolve_35 : decode cX2_resolve 35 = .ok (.iload 4, 2) := by decide +kernel
theorem dX2_resolve_37 : decode cX2_resolve 37 = .ok (.iload 5, 2) := by decide +kernel
theorem dX2_resolve_39 : decode cX2_resolve 39 = .ok (.invokevirtual 120, 3) := by decide +kernel
theorem dX2_resolve_42 : decode cX2_resolve 42 = .ok (.ifCond .eq 4, 3) := by decide +kernel
theorem dX2_resolve_45 : decode cX2_resolve 45 = .ok (.return_, 1) := by decide +kernel
theorem dX2_resolve_46 : decode cX2_resolve 46 = .ok (.aload_n 0, 1) := by decide +kernel
theorem dX2_resolve_47 : decode cX2_resolve 47 = .ok (.getfield 41, 3) := by decide +kernel
theorem dX2_resolve_50 : decode cX2_resolve 50 = .ok (.sipush 400, 3) := by decide +kernel
theorem dX2_resolve_53 : decode cX2_resolve 53 = .ok (.if_icmp .lt 9, 3) := by decide +kernel
theorem dX2_resolve_56 : decode cX2_resolve 56 = .ok (.aload_n 0, 1) := by decide +kernel
theorem dX2_resolve_57 : decode cX2_resolve 57 = .ok (.iconst 1, 1) := by decide +kernel
theorem dX2_resolve_58 : decode cX2_resolve 58 = .ok (.putfield 45, 3) := by decide +kernel
theorem dX2_resolve_61 : decode cX2_resolve 61 = .ok (.return_, 1) := by decide +kernel
theorem dX2_resolve_62 : decode cX2_resolve 62 = .ok (.aload_n 0, 1) := by decide +kernel
theorem dX2_resolve_63 : decode cX2_resolve 63 = .ok (.iload_n 1, 1) := by decide +kernel
theorem dX2_resolve_64 : decode cX2_resolve 64 = .ok (.invokevirtual 118, 3) := by decide +kernel
theorem dX2_resolve_67 : decode cX2_resolve 67 = .ok (.iload_n 3, 1) := by decide +kernel
theorem dX2_resolve_68 : decode cX2_resolve 68 = .ok (.iand, 1) := by decide +kernel
theorem dX2_resolve_69 : decode cX2_resolve 69 = .ok (.ifCond .eq 7, 3) := by decide +kernel
theorem dX2_resolve_72 : decode cX2_resolve 72 = .ok (.iload_n 1, 1) := by decide +kernel
theorem dX2_resolve_73 : decode cX2_resolve 73 = .ok (.goto 4, 3) := by decide +kernel
theorem dX2_resolve_76 : decode cX2_resolve 76 = .ok (.iload_n 2, 1) := by decide +kernel
theorem dX2_resolve_77 : decode cX2_resolve 77 = .ok (.istore 6, 2) := by decide +kernel
theorem dX2_resolve_79 : decode cX2_resolve 79 = .ok (.iload 6, 2) := by decide +kernel
theorem dX2_resolve_81 : decode cX2_resolve 81 = .ok (.iload_n 1, 1) := by decide +kernel
theorem dX2_resolve_82 : decode cX2_resolve 82 = .ok (.if_icmp .ne 7, 3) := by decide +kernel
theorem dX2_resolve_85 : decode cX2_resolve 85 = .ok (.iload_n 2, 1) := by decide +kernel
theorem dX2_resolve_86 : decode cX2_resolve 86 = .ok (.goto 4, 3) := by decide +kernel
theorem dX2_resolve_89 : decode cX2_resolve 89 = .ok (.iload_n 1, 1) := by decide +kernel
theorem dX2_resolve_90 : decode cX2_resolve 90 = .ok (.istore 7, 2) := by decide +kernel
theorem dX2_resolve_92 : decode cX2_resolve 92 = .ok (.iload_n 3, 1) := by decide +kernel
theorem dX2_resolve_93 : decode cX2_resolve 93 = .ok (.iconst 1, 1) := by decide +kernel
theorem dX2_resolve_94 : decode cX2_resolve 94 = .ok (.isub, 1) := by decide +kernel
theorem dX2_resolve_95 : decode cX2_resolve 95 = .ok (.invokestatic 110, 3) := by decide +kernel
theorem dX2_resolve_98 : decode cX2_resolve 98 = .ok (.istore 8, 2) := by decide +kernel
theorem dX2_resolve_100 : decode cX2_resolve 100 = .ok (.aload_n 0, 1) := by decide +kernel
theorem dX2_resolve_101 : decode cX2_resolve 101 = .ok (.iconst 0, 1) := by decide +kernel
theorem dX2_resolve_102 : decode cX2_resolve 102 = .ok (.iload 8, 2) := by decide +kernel
theorem dX2_resolve_104 : decode cX2_resolve 104 = .ok (.aload_n 0, 1) := by decide +kernel
theorem dX2_resolve_105 : decode cX2_resolve 105 = .ok (.iload 6, 2) := by decide +kernel
theorem dX2_resolve_107 : decode cX2_resolve 107 = .ok (.iconst 0, 1) := by decide +kernel
theorem dX2_resolve_108 : decode cX2_resolve 108 = .ok (.invokevirtual 63, 3) := by decide +kernel
theorem dX2_resolve_111 : decode cX2_resolve 111 = .ok (.aload_n 0, 1) := by decide +kernel
theorem dX2_resolve_112 : decode cX2_resolve 112 = .ok (.iload 7, 2) := by decide +kernel
theorem dX2_resolve_114 : decode cX2_resolve 114 = .ok (.iconst 0, 1) := by decide +kernel
theorem dX2_resolve_115 : decode cX2_resolve 115 = .ok (.invokevirtual 63, 3) := by decide +kernel
theorem dX2_resolve_118 : decode cX2_resolve 118 = .ok (.invokevirtual 124, 3) := by decide +kernel
theorem dX2_resolve_121 : decode cX2_resolve 121 = .ok (.lstore 9, 2) := by decide +kernel
theorem dX2_resolve_123 : decode cX2_resolve 123 = .ok (.aload_n 0, 1) := by decide +kernel
theorem dX2_resolve_124 : decode cX2_resolve 124 = .ok (.iconst 1, 1) := by decide +kernel
theorem dX2_resolve_125 : decode cX2_resolve 125 = .ok (.iload 8, 2) := by decide +kernel
theorem dX2_resolve_127 : decode cX2_resolve 127 = .ok (.aload_n 0, 1) := by decide +kernel
theorem dX2_resolve_128 : decode cX2_resolve 128 = .ok (.iload 6, 2) := by decide +kernel
theorem dX2_resolve_130 : decode cX2_resolve 130 = .ok (.iconst 1, 1) := by decide +kernel
theorem dX2_resolve_131 : decode cX2_resolve 131 = .ok (.invokevirtual 63, 3) := by decide +kernel
theorem dX2_resolve_134 : decode cX2_resolve 134 = .ok (.aload_n 0, 1) := by decide +kernel
theorem dX2_resolve_135 : decode cX2_resolve 135 = .ok (.iload 7, 2) := by decide +kernel
theorem dX2_resolve_137 : decode cX2_resolve 137 = .ok (.iconst 1, 1) := by decide +kernel
theorem dX2_resolve_138 : decode cX2_resolve 138 = .ok (.invokevirtual 63, 3) := by decide +kernel
theorem dX2_resolve_141 : decode cX2_resolve 141 = .ok (.invokevirtual 124, 3) := by decide +kernel
theorem dX2_resolve_144 : decode cX2_resolve 144 = .ok (.lstore 11, 2) := by decide +kernel
theorem dX2_resolve_146 : decode cX2_resolve 146 = .ok (.aload_n 0, 1) := by decide +kernel
theorem dX2_resolve_147 : decode cX2_resolve 147 = .ok (.iload 4, 2) := by decide +kernel
theorem dX2_resolve_149 : decode cX2_resolve 149 = .ok (.iload 5, 2) := by decide +kernel
theorem dX2_resolve_151 : decode cX2_resolve 151 = .ok (.iload_n 1, 1) := by decide +kernel
theorem dX2_resolve_152 : decode cX2_resolve 152 = .ok (.iload_n 2, 1) := by decide +kernel
theorem dX2_resolve_153 : decode cX2_resolve 153 = .ok (.iload 8, 2) := by decide +kernel
theorem dX2_resolve_155 : decode cX2_resolve 155 = .ok (.lload 9, 2) := by decide +kernel
theorem dX2_resolve_157 : decode cX2_resolve 157 = .ok (.lload 11, 2) := by decide +kernel
theorem dX2_resolve_159 : decode cX2_resolve 159 = .ok (.invokevirtual 104, 3) := by decide +kernel
theorem dX2_resolve_162 : decode cX2_resolve 162 = .ok (.aload_n 0, 1) := by decide +kernel
theorem dX2_resolve_163 : decode cX2_resolve 163 = .ok (.iload 4, 2) := by decide +kernel
theorem dX2_resolve_165 : decode cX2_resolve 165 = .ok (.ifCond .ne 12, 3) := by decide +kernel
theorem dX2_resolve_168 : decode cX2_resolve 168 = .ok (.iload 5, 2) := by decide +kernel
theorem dX2_resolve_170 : decode cX2_resolve 170 = .ok (.ifCond .ne 7, 3) := by decide +kernel
theorem dX2_resolve_173 : decode cX2_resolve 173 = .ok (.iconst 1, 1) := by decide +kernel
theorem dX2_resolve_174 : decode cX2_resolve 174 = .ok (.goto 4, 3) := by decide +kernel
theorem dX2_resolve_177 : decode cX2_resolve 177 = .ok (.iconst 0, 1) := by decide +kernel
theorem dX2_resolve_178 : decode cX2_resolve 178 = .ok (.putfield 49, 3) := by decide +kernel
theorem dX2_resolve_181 : decode cX2_resolve 181 = .ok (.return_, 1) := by decide +kernel
set_option maxRecDepth 20000 in
theorem ggX2_resolvedClaim_X4_isIn : GoodIn wsX2_resolvedClaim wsX4_isIn := goodIn_r _ [6] (by decide +kernel) (by decide +kernel)
set_option maxRecDepth 20000 in
theorem gX2_resolvedClaim_X4_isIn_n128 : GoodIn wsX2_resolvedClaim (wsX4_isIn) := ggX2_resolvedClaim_X4_isIn
set_option maxRecDepth 20000 in
theorem ggX2_resolvedClaim_X4_worldsOfSign : GoodIn wsX2_resolvedClaim wsX4_worldsOfSign := goodIn_r _ [8, 9] (by decide +kernel) (by decide +kernel)
set_option maxRecDepth 20000 in
theorem gX2_resolvedClaim_X4_worldsOfSign_n131 : GoodIn wsX2_resolvedClaim (wsX4_worldsOfSign) := ggX2_resolvedClaim_X4_worldsOfSign
theorem dX2_resolvedClaim_0 : decode cX2_resolvedClaim 0 = .ok (.iload_n 2, 1) := by decide +kernel
theorem dX2_resolvedClaim_1 : decode cX2_resolvedClaim 1 = .ok (.aload_n 0, 1) := by decide +kernel
theorem dX2_resolvedClaim_2 : decode cX2_resolvedClaim 2 = .ok (.getfield 76, 3) := by decide +kernel
theorem dX2_resolvedClaim_5 : decode cX2_resolvedClaim 5 = .ok (.invokestatic 128, 3) := by decide +kernel
theorem dX2_resolvedClaim_8 : decode cX2_resolvedClaim 8 = .ok (.ifCond .ne 8, 3) := by decide +kernel
theorem dX2_resolvedClaim_11 : decode cX2_resolvedClaim 11 = .ok (.lload_n 3, 1) := by decide +kernel
theorem dX2_resolvedClaim_12 : decode cX2_resolvedClaim 12 = .ok (.lload 5, 2) := by decide +kernel
theorem dX2_resolvedClaim_14 : decode cX2_resolvedClaim 14 = .ok (.lor, 1) := by decide +kernel
theorem dX2_resolvedClaim_15 : decode cX2_resolvedClaim 15 = .ok (.lreturn, 1) := by decide +kernel
theorem dX2_resolvedClaim_16 : decode cX2_resolvedClaim 16 = .ok (.iload_n 1, 1) := by decide +kernel
theorem dX2_resolvedClaim_17 : decode cX2_resolvedClaim 17 = .ok (.iconst 1, 1) := by decide +kernel
theorem dX2_resolvedClaim_18 : decode cX2_resolvedClaim 18 = .ok (.if_icmp .eq 14, 3) := by decide +kernel
theorem dX2_resolvedClaim_21 : decode cX2_resolvedClaim 21 = .ok (.iload_n 2, 1) := by decide +kernel
theorem dX2_resolvedClaim_22 : decode cX2_resolvedClaim 22 = .ok (.aload_n 0, 1) := by decide +kernel
theorem dX2_resolvedClaim_23 : decode cX2_resolvedClaim 23 = .ok (.getfield 73, 3) := by decide +kernel
theorem dX2_resolvedClaim_26 : decode cX2_resolvedClaim 26 = .ok (.invokestatic 128, 3) := by decide +kernel
theorem dX2_resolvedClaim_29 : decode cX2_resolvedClaim 29 = .ok (.ifCond .ne 8, 3) := by decide +kernel
theorem dX2_resolvedClaim_32 : decode cX2_resolvedClaim 32 = .ok (.lload_n 3, 1) := by decide +kernel
theorem dX2_resolvedClaim_33 : decode cX2_resolvedClaim 33 = .ok (.lload 5, 2) := by decide +kernel
theorem dX2_resolvedClaim_35 : decode cX2_resolvedClaim 35 = .ok (.land, 1) := by decide +kernel
theorem dX2_resolvedClaim_36 : decode cX2_resolvedClaim 36 = .ok (.lreturn, 1) := by decide +kernel
theorem dX2_resolvedClaim_37 : decode cX2_resolvedClaim 37 = .ok (.iload_n 2, 1) := by decide +kernel
theorem dX2_resolvedClaim_38 : decode cX2_resolvedClaim 38 = .ok (.invokestatic 131, 3) := by decide +kernel
theorem dX2_resolvedClaim_41 : decode cX2_resolvedClaim 41 = .ok (.lstore 7, 2) := by decide +kernel
theorem dX2_resolvedClaim_43 : decode cX2_resolvedClaim 43 = .ok (.lload 7, 2) := by decide +kernel
theorem dX2_resolvedClaim_45 : decode cX2_resolvedClaim 45 = .ok (.lload 5, 2) := by decide +kernel
theorem dX2_resolvedClaim_47 : decode cX2_resolvedClaim 47 = .ok (.land, 1) := by decide +kernel
theorem dX2_resolvedClaim_48 : decode cX2_resolvedClaim 48 = .ok (.lload 7, 2) := by decide +kernel
theorem dX2_resolvedClaim_50 : decode cX2_resolvedClaim 50 = .ok (.ldc2_w 108, 3) := by decide +kernel
theorem dX2_resolvedClaim_53 : decode cX2_resolvedClaim 53 = .ok (.lxor, 1) := by decide +kernel
theorem dX2_resolvedClaim_54 : decode cX2_resolvedClaim 54 = .ok (.lload_n 3, 1) := by decide +kernel
theorem dX2_resolvedClaim_55 : decode cX2_resolvedClaim 55 = .ok (.land, 1) := by decide +kernel
theorem dX2_resolvedClaim_56 : decode cX2_resolvedClaim 56 = .ok (.lor, 1) := by decide +kernel
theorem dX2_resolvedClaim_57 : decode cX2_resolvedClaim 57 = .ok (.lreturn, 1) := by decide +kernel
theorem dX2_isStep_0 : decode cX2_isStep 0 = .ok (.aload_n 0, 1) := by decide +kernel
theorem dX2_isStep_1 : decode cX2_isStep 1 = .ok (.getfield 38, 3) := by decide +kernel
theorem dX2_isStep_4 : decode cX2_isStep 4 = .ok (.iload_n 1, 1) := by decide +kernel
theorem dX2_isStep_5 : decode cX2_isStep 5 = .ok (.bipush 63, 2) := by decide +kernel
theorem dX2_isStep_7 : decode cX2_isStep 7 = .ok (.iand, 1) := by decide +kernel
theorem dX2_isStep_8 : decode cX2_isStep 8 = .ok (.laload, 1) := by decide +kernel
theorem dX2_isStep_9 : decode cX2_isStep 9 = .ok (.iload_n 2, 1) := by decide +kernel
theorem dX2_isStep_10 : decode cX2_isStep 10 = .ok (.lushr, 1) := by decide +kernel
theorem dX2_isStep_11 : decode cX2_isStep 11 = .ok (.lconst 1, 1) := by decide +kernel
theorem dX2_isStep_12 : decode cX2_isStep 12 = .ok (.land, 1) := by decide +kernel
theorem dX2_isStep_13 : decode cX2_isStep 13 = .ok (.lconst 0, 1) := by decide +kernel
theorem dX2_isStep_14 : decode cX2_isStep 14 = .ok (.lcmp, 1) := by decide +kernel
theorem dX2_isStep_15 : decode cX2_isStep 15 = .ok (.ifCond .eq 7, 3) := by decide +kernel
theorem dX2_isStep_18 : decode cX2_isStep 18 = .ok (.iconst 1, 1) := by decide +kernel
theorem dX2_isStep_19 : decode cX2_isStep 19 = .ok (.goto 4, 3) := by decide +kernel
theorem dX2_isStep_22 : decode cX2_isStep 22 = .ok (.iconst 0, 1) := by decide +kernel
theorem dX2_isStep_23 : decode cX2_isStep 23 = .ok (.ireturn, 1) := by decide +kernel
theorem dX2_appendStep_0 : decode cX2_appendStep 0 = .ok (.aload_n 0, 1) := by decide +kernel
theorem dX2_appendStep_1 : decode cX2_appendStep 1 = .ok (.getfield 41, 3) := by decide +kernel
theorem dX2_appendStep_4 : decode cX2_appendStep 4 = .ok (.ifCond .lt 13, 3) := by decide +kernel
theorem dX2_appendStep_7 : decode cX2_appendStep 7 = .ok (.aload_n 0, 1) := by decide +kernel
theorem dX2_appendStep_8 : decode cX2_appendStep 8 = .ok (.getfield 41, 3) := by decide +kernel
theorem dX2_appendStep_11 : decode cX2_appendStep 11 = .ok (.sipush 400, 3) := by decide +kernel
theorem dX2_appendStep_14 : decode cX2_appendStep 14 = .ok (.if_icmp .lt 4, 3) := by decide +kernel
theorem dX2_appendStep_17 : decode cX2_appendStep 17 = .ok (.return_, 1) := by decide +kernel
theorem dX2_appendStep_18 : decode cX2_appendStep 18 = .ok (.aload_n 0, 1) := by decide +kernel
theorem dX2_appendStep_19 : decode cX2_appendStep 19 = .ok (.getfield 9, 3) := by decide +kernel
theorem dX2_appendStep_22 : decode cX2_appendStep 22 = .ok (.aload_n 0, 1) := by decide +kernel
theorem dX2_appendStep_23 : decode cX2_appendStep 23 = .ok (.getfield 41, 3) := by decide +kernel
theorem dX2_appendStep_26 : decode cX2_appendStep 26 = .ok (.iload_n 1, 1) := by decide +kernel
theorem dX2_appendStep_27 : decode cX2_appendStep 27 = .ok (.iastore, 1) := by decide +kernel
theorem dX2_appendStep_28 : decode cX2_appendStep 28 = .ok (.aload_n 0, 1) := by decide +kernel
theorem dX2_appendStep_29 : decode cX2_appendStep 29 = .ok (.getfield 15, 3) := by decide +kernel
theorem dX2_appendStep_32 : decode cX2_appendStep 32 = .ok (.aload_n 0, 1) := by decide +kernel
theorem dX2_appendStep_33 : decode cX2_appendStep 33 = .ok (.getfield 41, 3) := by decide +kernel
theorem dX2_appendStep_36 : decode cX2_appendStep 36 = .ok (.iload_n 2, 1) := by decide +kernel
theorem dX2_appendStep_37 : decode cX2_appendStep 37 = .ok (.iastore, 1) := by decide +kernel
theorem dX2_appendStep_38 : decode cX2_appendStep 38 = .ok (.aload_n 0, 1) := by decide +kernel
theorem dX2_appendStep_39 : decode cX2_appendStep 39 = .ok (.getfield 18, 3) := by decide +kernel
theorem dX2_appendStep_42 : decode cX2_appendStep 42 = .ok (.aload_n 0, 1) := by decide +kernel
theorem dX2_appendStep_43 : decode cX2_appendStep 43 = .ok (.getfield 41, 3) := by decide +kernel
theorem dX2_appendStep_46 : decode cX2_appendStep 46 = .ok (.iload_n 3, 1) := by decide +kernel
theorem dX2_appendStep_47 : decode cX2_appendStep 47 = .ok (.iastore, 1) := by decide +kernel
theorem dX2_appendStep_48 : decode cX2_appendStep 48 = .ok (.aload_n 0, 1) := by decide +kernel
theorem dX2_appendStep_49 : decode cX2_appendStep 49 = .ok (.getfield 21, 3) := by decide +kernel
theorem dX2_appendStep_52 : decode cX2_appendStep 52 = .ok (.aload_n 0, 1) := by decide +kernel
theorem dX2_appendStep_53 : decode cX2_appendStep 53 = .ok (.getfield 41, 3) := by decide +kernel
theorem dX2_appendStep_56 : decode cX2_appendStep 56 = .ok (.iload 4, 2) := by decide +kernel
theorem dX2_appendStep_58 : decode cX2_appendStep 58 = .ok (.iastore, 1) := by decide +kernel
theorem dX2_appendStep_59 : decode cX2_appendStep 59 = .ok (.aload_n 0, 1) := by decide +kernel
theorem dX2_appendStep_60 : decode cX2_appendStep 60 = .ok (.getfield 24, 3) := by decide +kernel
theorem dX2_appendStep_63 : decode cX2_appendStep 63 = .ok (.aload_n 0, 1) := by decide +kernel
theorem dX2_appendStep_64 : decode cX2_appendStep 64 = .ok (.getfield 41, 3) := by decide +kernel
theorem dX2_appendStep_67 : decode cX2_appendStep 67 = .ok (.iload 5, 2) := by decide +kernel
theorem dX2_appendStep_69 : decode cX2_appendStep 69 = .ok (.iastore, 1) := by decide +kernel
theorem dX2_appendStep_70 : decode cX2_appendStep 70 = .ok (.aload_n 0, 1) := by decide +kernel
theorem dX2_appendStep_71 : decode cX2_appendStep 71 = .ok (.getfield 27, 3) := by decide +kernel
theorem dX2_appendStep_74 : decode cX2_appendStep 74 = .ok (.aload_n 0, 1) := by decide +kernel
theorem dX2_appendStep_75 : decode cX2_appendStep 75 = .ok (.getfield 41, 3) := by decide +kernel
theorem dX2_appendStep_78 : decode cX2_appendStep 78 = .ok (.lload 6, 2) := by decide +kernel
theorem dX2_appendStep_80 : decode cX2_appendStep 80 = .ok (.lastore, 1) := by decide +kernel
theorem dX2_appendStep_81 : decode cX2_appendStep 81 = .ok (.aload_n 0, 1) := by decide +kernel
theorem dX2_appendStep_82 : decode cX2_appendStep 82 = .ok (.getfield 31, 3) := by decide +kernel
theorem dX2_appendStep_85 : decode cX2_appendStep 85 = .ok (.aload_n 0, 1) := by decide +kernel
theorem dX2_appendStep_86 : decode cX2_appendStep 86 = .ok (.getfield 41, 3) := by decide +kernel
theorem dX2_appendStep_89 : decode cX2_appendStep 89 = .ok (.lload 8, 2) := by decide +kernel
theorem dX2_appendStep_91 : decode cX2_appendStep 91 = .ok (.lastore, 1) := by decide +kernel
theorem dX2_appendStep_92 : decode cX2_appendStep 92 = .ok (.aload_n 0, 1) := by decide +kernel
theorem dX2_appendStep_93 : decode cX2_appendStep 93 = .ok (.getfield 34, 3) := by decide +kernel
theorem dX2_appendStep_96 : decode cX2_appendStep 96 = .ok (.aload_n 0, 1) := by decide +kernel
theorem dX2_appendStep_97 : decode cX2_appendStep 97 = .ok (.getfield 41, 3) := by decide +kernel
theorem dX2_appendStep_100 : decode cX2_appendStep 100 = .ok (.iconst 0, 1) := by decide +kernel
theorem dX2_appendStep_101 : decode cX2_appendStep 101 = .ok (.bastore, 1) := by decide +kernel
theorem dX2_appendStep_102 : decode cX2_appendStep 102 = .ok (.aload_n 0, 1) := by decide +kernel
theorem dX2_appendStep_103 : decode cX2_appendStep 103 = .ok (.getfield 38, 3) := by decide +kernel
theorem dX2_appendStep_106 : decode cX2_appendStep 106 = .ok (.iload_n 1, 1) := by decide +kernel
theorem dX2_appendStep_107 : decode cX2_appendStep 107 = .ok (.bipush 63, 2) := by decide +kernel
theorem dX2_appendStep_109 : decode cX2_appendStep 109 = .ok (.iand, 1) := by decide +kernel
theorem dX2_appendStep_110 : decode cX2_appendStep 110 = .ok (.dup2, 1) := by decide +kernel
theorem dX2_appendStep_111 : decode cX2_appendStep 111 = .ok (.laload, 1) := by decide +kernel
theorem dX2_appendStep_112 : decode cX2_appendStep 112 = .ok (.lconst 1, 1) := by decide +kernel
theorem dX2_appendStep_113 : decode cX2_appendStep 113 = .ok (.iload_n 2, 1) := by decide +kernel
theorem dX2_appendStep_114 : decode cX2_appendStep 114 = .ok (.lshl, 1) := by decide +kernel
theorem dX2_appendStep_115 : decode cX2_appendStep 115 = .ok (.lor, 1) := by decide +kernel
theorem dX2_appendStep_116 : decode cX2_appendStep 116 = .ok (.lastore, 1) := by decide +kernel
theorem dX2_appendStep_117 : decode cX2_appendStep 117 = .ok (.aload_n 0, 1) := by decide +kernel
theorem dX2_appendStep_118 : decode cX2_appendStep 118 = .ok (.dup, 1) := by decide +kernel
theorem dX2_appendStep_119 : decode cX2_appendStep 119 = .ok (.getfield 41, 3) := by decide +kernel
theorem dX2_appendStep_122 : decode cX2_appendStep 122 = .ok (.iconst 1, 1) := by decide +kernel
theorem dX2_appendStep_123 : decode cX2_appendStep 123 = .ok (.iadd, 1) := by decide +kernel
theorem dX2_appendStep_124 : decode cX2_appendStep 124 = .ok (.putfield 41, 3) := by decide +kernel
theorem dX2_appendStep_127 : decode cX2_appendStep 127 = .ok (.return_, 1) := by decide +kernel
set_option maxRecDepth 20000 in
theorem ggX2_markNeededSteps_X2_markNeeded : GoodIn wsX2_markNeededSteps wsX2_markNeeded := goodIn_r _ [6, 7, 8, 9, 10, 5, 11, 1, 26, 27, 28, 29, 30, 31, 32, 33, 34, 35, 36, 37, 38, 39] (by decide +kernel) (by decide +kernel)
set_option maxRecDepth 20000 in
theorem gX2_markNeededSteps_X2_markNeeded : GoodIn wsX2_markNeededSteps (wsV RX2 135 RX2 yX2_markNeeded wsX2_markNeeded) := goodIn_app (goodIn_of _ (by decide +kernel)) ggX2_markNeededSteps_X2_markNeeded
set_option maxRecDepth 20000 in
theorem ggX2_markNeededSteps_X2_isNeeded : GoodIn wsX2_markNeededSteps wsX2_isNeeded := goodIn_r _ [15, 7, 8, 9, 10, 5, 11, 1, 26, 27, 28, 29, 30, 31, 32, 33, 34, 35, 36, 37, 38, 39] (by decide +kernel) (by decide +kernel)
set_option maxRecDepth 20000 in
theorem gX2_markNeededSteps_X2_isNeeded : GoodIn wsX2_markNeededSteps (wsV RX2 56 RX2 yX2_isNeeded wsX2_isNeeded) := goodIn_app (goodIn_of _ (by decide +kernel)) ggX2_markNeededSteps_X2_isNeeded
set_option maxRecDepth 20000 in
theorem ggX2_markNeededSteps_X2_firstParentOf : GoodIn wsX2_markNeededSteps wsX2_firstParentOf := goodIn_r _ [19, 20, 8, 9, 10, 5, 11, 1, 26, 27, 28, 29, 30, 31, 32, 33, 34, 35, 36, 37, 38, 39] (by decide +kernel) (by decide +kernel)
set_option maxRecDepth 20000 in
theorem gX2_markNeededSteps_X2_firstParentOf : GoodIn wsX2_markNeededSteps (wsV RX2 139 RX2 yX2_firstParentOf wsX2_firstParentOf) := goodIn_app (goodIn_of _ (by decide +kernel)) ggX2_markNeededSteps_X2_firstParentOf
set_option maxRecDepth 20000 in
theorem ggX2_markNeededSteps_X2_secondParentOf : GoodIn wsX2_markNeededSteps wsX2_secondParentOf := goodIn_r _ [24, 25, 8, 9, 10, 5, 11, 1, 26, 27, 28, 29, 30, 31, 32, 33, 34, 35, 36, 37, 38, 39] (by decide +kernel) (by decide +kernel)
set_option maxRecDepth 20000 in
theorem gX2_markNeededSteps_X2_secondParentOf : GoodIn wsX2_markNeededSteps (wsV RX2 142 RX2 yX2_secondParentOf wsX2_secondParentOf) := goodIn_app (goodIn_of _ (by decide +kernel)) ggX2_markNeededSteps_X2_secondParentOf
theorem dX2_markNeededSteps_0 : decode cX2_markNeededSteps 0 = .ok (.aload_n 0, 1) := by decide +kernel
theorem dX2_markNeededSteps_1 : decode cX2_markNeededSteps 1 = .ok (.aload_n 0, 1) := by decide +kernel
theorem dX2_markNeededSteps_2 : decode cX2_markNeededSteps 2 = .ok (.getfield 41, 3) := by decide +kernel
theorem dX2_markNeededSteps_5 : decode cX2_markNeededSteps 5 = .ok (.iconst 1, 1) := by decide +kernel
theorem dX2_markNeededSteps_6 : decode cX2_markNeededSteps 6 = .ok (.isub, 1) := by decide +kernel
theorem dX2_markNeededSteps_7 : decode cX2_markNeededSteps 7 = .ok (.invokevirtual 135, 3) := by decide +kernel
theorem dX2_markNeededSteps_10 : decode cX2_markNeededSteps 10 = .ok (.aload_n 0, 1) := by decide +kernel
theorem dX2_markNeededSteps_11 : decode cX2_markNeededSteps 11 = .ok (.getfield 41, 3) := by decide +kernel
theorem dX2_markNeededSteps_14 : decode cX2_markNeededSteps 14 = .ok (.iconst 1, 1) := by decide +kernel
theorem dX2_markNeededSteps_15 : decode cX2_markNeededSteps 15 = .ok (.isub, 1) := by decide +kernel
theorem dX2_markNeededSteps_16 : decode cX2_markNeededSteps 16 = .ok (.istore_n 1, 1) := by decide +kernel
theorem dX2_markNeededSteps_17 : decode cX2_markNeededSteps 17 = .ok (.iload_n 1, 1) := by decide +kernel
theorem dX2_markNeededSteps_18 : decode cX2_markNeededSteps 18 = .ok (.ifCond .lt 35, 3) := by decide +kernel
theorem dX2_markNeededSteps_21 : decode cX2_markNeededSteps 21 = .ok (.aload_n 0, 1) := by decide +kernel
theorem dX2_markNeededSteps_22 : decode cX2_markNeededSteps 22 = .ok (.iload_n 1, 1) := by decide +kernel
theorem dX2_markNeededSteps_23 : decode cX2_markNeededSteps 23 = .ok (.invokevirtual 56, 3) := by decide +kernel
theorem dX2_markNeededSteps_26 : decode cX2_markNeededSteps 26 = .ok (.ifCond .eq 21, 3) := by decide +kernel
theorem dX2_markNeededSteps_29 : decode cX2_markNeededSteps 29 = .ok (.aload_n 0, 1) := by decide +kernel
theorem dX2_markNeededSteps_30 : decode cX2_markNeededSteps 30 = .ok (.aload_n 0, 1) := by decide +kernel
theorem dX2_markNeededSteps_31 : decode cX2_markNeededSteps 31 = .ok (.iload_n 1, 1) := by decide +kernel
theorem dX2_markNeededSteps_32 : decode cX2_markNeededSteps 32 = .ok (.invokevirtual 139, 3) := by decide +kernel
theorem dX2_markNeededSteps_35 : decode cX2_markNeededSteps 35 = .ok (.invokevirtual 135, 3) := by decide +kernel
theorem dX2_markNeededSteps_38 : decode cX2_markNeededSteps 38 = .ok (.aload_n 0, 1) := by decide +kernel
theorem dX2_markNeededSteps_39 : decode cX2_markNeededSteps 39 = .ok (.aload_n 0, 1) := by decide +kernel
theorem dX2_markNeededSteps_40 : decode cX2_markNeededSteps 40 = .ok (.iload_n 1, 1) := by decide +kernel
theorem dX2_markNeededSteps_41 : decode cX2_markNeededSteps 41 = .ok (.invokevirtual 142, 3) := by decide +kernel
theorem dX2_markNeededSteps_44 : decode cX2_markNeededSteps 44 = .ok (.invokevirtual 135, 3) := by decide +kernel
theorem dX2_markNeededSteps_47 : decode cX2_markNeededSteps 47 = .ok (.iinc 1 (-1), 3) := by decide +kernel
theorem dX2_markNeededSteps_50 : decode cX2_markNeededSteps 50 = .ok (.goto (-33), 3) := by decide +kernel
theorem dX2_markNeededSteps_53 : decode cX2_markNeededSteps 53 = .ok (.return_, 1) := by decide +kernel
set_option maxRecDepth 20000 in
theorem ggX2_markNeeded_X2_has : GoodIn wsX2_markNeeded wsX2_has := goodIn_r _ [6, 7, 8, 9, 10, 11, 12, 13, 14, 15, 16, 17, 18, 19, 20, 21] (by decide +kernel) (by decide +kernel)
set_option maxRecDepth 20000 in
theorem gX2_markNeeded_X2_has : GoodIn wsX2_markNeeded (wsV RX2 52 RX2 yX2_has wsX2_has) := goodIn_app (goodIn_of _ (by decide +kernel)) ggX2_markNeeded_X2_has
theorem dX2_markNeeded_0 : decode cX2_markNeeded 0 = .ok (.aload_n 0, 1) := by decide +kernel
theorem dX2_markNeeded_1 : decode cX2_markNeeded 1 = .ok (.iload_n 1, 1) := by decide +kernel
theorem dX2_markNeeded_2 : decode cX2_markNeeded 2 = .ok (.invokevirtual 52, 3) := by decide +kernel
theorem dX2_markNeeded_5 : decode cX2_markNeeded 5 = .ok (.ifCond .eq 10, 3) := by decide +kernel
theorem dX2_markNeeded_8 : decode cX2_markNeeded 8 = .ok (.aload_n 0, 1) := by decide +kernel
theorem dX2_markNeeded_9 : decode cX2_markNeeded 9 = .ok (.getfield 34, 3) := by decide +kernel
theorem dX2_markNeeded_12 : decode cX2_markNeeded 12 = .ok (.iload_n 1, 1) := by decide +kernel
theorem dX2_markNeeded_13 : decode cX2_markNeeded 13 = .ok (.iconst 1, 1) := by decide +kernel
theorem dX2_markNeeded_14 : decode cX2_markNeeded 14 = .ok (.bastore, 1) := by decide +kernel
theorem dX2_markNeeded_15 : decode cX2_markNeeded 15 = .ok (.return_, 1) := by decide +kernel
theorem dX3_init_0 : decode cX3_init 0 = .ok (.aload_n 0, 1) := by decide +kernel
theorem dX3_init_1 : decode cX3_init 1 = .ok (.invokespecial 3, 3) := by decide +kernel
theorem dX3_init_4 : decode cX3_init 4 = .ok (.aload_n 0, 1) := by decide +kernel
theorem dX3_init_5 : decode cX3_init 5 = .ok (.bipush 60, 2) := by decide +kernel
theorem dX3_init_7 : decode cX3_init 7 = .ok (.newarray .char, 2) := by decide +kernel
theorem dX3_init_9 : decode cX3_init 9 = .ok (.putfield 9, 3) := by decide +kernel
theorem dX3_init_12 : decode cX3_init 12 = .ok (.aload_n 0, 1) := by decide +kernel
theorem dX3_init_13 : decode cX3_init 13 = .ok (.iconst 0, 1) := by decide +kernel
theorem dX3_init_14 : decode cX3_init 14 = .ok (.putfield 15, 3) := by decide +kernel
theorem dX3_init_17 : decode cX3_init 17 = .ok (.return_, 1) := by decide +kernel
theorem dX3_length_0 : decode cX3_length 0 = .ok (.aload_n 0, 1) := by decide +kernel
theorem dX3_length_1 : decode cX3_length 1 = .ok (.getfield 15, 3) := by decide +kernel
theorem dX3_length_4 : decode cX3_length 4 = .ok (.ireturn, 1) := by decide +kernel
theorem dX3_clear_0 : decode cX3_clear 0 = .ok (.aload_n 0, 1) := by decide +kernel
theorem dX3_clear_1 : decode cX3_clear 1 = .ok (.iconst 0, 1) := by decide +kernel
theorem dX3_clear_2 : decode cX3_clear 2 = .ok (.putfield 15, 3) := by decide +kernel
theorem dX3_clear_5 : decode cX3_clear 5 = .ok (.return_, 1) := by decide +kernel
theorem dX3_append_0 : decode cX3_append 0 = .ok (.aload_n 0, 1) := by decide +kernel
theorem dX3_append_1 : decode cX3_append 1 = .ok (.getfield 15, 3) := by decide +kernel
theorem dX3_append_4 : decode cX3_append 4 = .ok (.ifCond .lt 15, 3) := by decide +kernel
theorem dX3_append_7 : decode cX3_append 7 = .ok (.aload_n 0, 1) := by decide +kernel
theorem dX3_append_8 : decode cX3_append 8 = .ok (.getfield 15, 3) := by decide +kernel
theorem dX3_append_11 : decode cX3_append 11 = .ok (.aload_n 0, 1) := by decide +kernel
theorem dX3_append_12 : decode cX3_append 12 = .ok (.getfield 9, 3) := by decide +kernel
theorem dX3_append_15 : decode cX3_append 15 = .ok (.arraylength, 1) := by decide +kernel
theorem dX3_append_16 : decode cX3_append 16 = .ok (.if_icmp .lt 5, 3) := by decide +kernel
theorem dX3_append_19 : decode cX3_append 19 = .ok (.iconst 0, 1) := by decide +kernel
theorem dX3_append_20 : decode cX3_append 20 = .ok (.ireturn, 1) := by decide +kernel
theorem dX3_append_21 : decode cX3_append 21 = .ok (.aload_n 0, 1) := by decide +kernel
theorem dX3_append_22 : decode cX3_append 22 = .ok (.getfield 9, 3) := by decide +kernel
theorem dX3_append_25 : decode cX3_append 25 = .ok (.aload_n 0, 1) := by decide +kernel
theorem dX3_append_26 : decode cX3_append 26 = .ok (.getfield 15, 3) := by decide +kernel
theorem dX3_append_29 : decode cX3_append 29 = .ok (.iload_n 1, 1) := by decide +kernel
theorem dX3_append_30 : decode cX3_append 30 = .ok (.castore, 1) := by decide +kernel
theorem dX3_append_31 : decode cX3_append 31 = .ok (.aload_n 0, 1) := by decide +kernel
theorem dX3_append_32 : decode cX3_append 32 = .ok (.dup, 1) := by decide +kernel
theorem dX3_append_33 : decode cX3_append 33 = .ok (.getfield 15, 3) := by decide +kernel
theorem dX3_append_36 : decode cX3_append 36 = .ok (.iconst 1, 1) := by decide +kernel
theorem dX3_append_37 : decode cX3_append 37 = .ok (.iadd, 1) := by decide +kernel
theorem dX3_append_38 : decode cX3_append 38 = .ok (.putfield 15, 3) := by decide +kernel
theorem dX3_append_41 : decode cX3_append 41 = .ok (.iconst 1, 1) := by decide +kernel
theorem dX3_append_42 : decode cX3_append 42 = .ok (.ireturn, 1) := by decide +kernel
set_option maxRecDepth 20000 in
theorem ggX3_readInto_X0_clear : GoodIn wsX3_readInto wsX0_clear := goodIn_r _ [8, 9, 53, 54, 55, 56] (by decide +kernel) (by decide +kernel)
set_option maxRecDepth 20000 in
theorem gX3_readInto_X0_clear : GoodIn wsX3_readInto (wsV RX3 19 RX0 yX0_clear wsX0_clear) := goodIn_app (goodIn_of _ (by decide +kernel)) ggX3_readInto_X0_clear
set_option maxRecDepth 20000 in
theorem ggX3_readInto_X3_beginClause : GoodIn wsX3_readInto wsX3_beginClause := goodIn_r _ [14, 15, 16, 17, 18, 46, 47, 48, 49, 50, 51, 52] (by decide +kernel) (by decide +kernel)
set_option maxRecDepth 20000 in
theorem gX3_readInto_X3_beginClause : GoodIn wsX3_readInto (wsV RX3 27 RX3 yX3_beginClause wsX3_beginClause) := goodIn_app (goodIn_of _ (by decide +kernel)) ggX3_readInto_X3_beginClause
set_option maxRecDepth 20000 in
theorem ggX3_readInto_X3_reads : GoodIn wsX3_readInto wsX3_reads := goodIn_r _ [22, 23, 24, 25, 13, 26, 18, 17, 27, 28, 29, 30, 1, 15, 16, 31, 32, 33, 7, 34, 9, 35, 36, 37, 10, 11, 12, 14, 38, 39, 40, 41, 42, 43, 44, 45, 46, 47, 48, 49, 50, 51, 52, 53, 54, 55, 56] (by decide +kernel) (by decide +kernel)
set_option maxRecDepth 20000 in
theorem gX3_readInto_X3_reads : GoodIn wsX3_readInto (wsV RX3 30 RX3 yX3_reads wsX3_reads) := goodIn_app (goodIn_of _ (by decide +kernel)) ggX3_readInto_X3_reads
set_option maxRecDepth 20000 in
theorem ggX3_readInto_X3_endsClause : GoodIn wsX3_readInto wsX3_endsClause := goodIn_r _ [30, 18, 17, 1, 15, 16, 31, 32, 33, 7, 34, 9, 35, 36, 37, 10, 11, 12, 13, 14, 46, 47, 48, 49, 50, 51, 52, 53, 54, 55, 56] (by decide +kernel) (by decide +kernel)
set_option maxRecDepth 20000 in
theorem gX3_readInto_X3_endsClause : GoodIn wsX3_readInto (wsV RX3 34 RX3 yX3_endsClause wsX3_endsClause) := goodIn_app (goodIn_of _ (by decide +kernel)) ggX3_readInto_X3_endsClause
theorem dX3_readInto_0 : decode cX3_readInto 0 = .ok (.aload_n 1, 1) := by decide +kernel
theorem dX3_readInto_1 : decode cX3_readInto 1 = .ok (.invokevirtual 19, 3) := by decide +kernel
theorem dX3_readInto_4 : decode cX3_readInto 4 = .ok (.aload_n 0, 1) := by decide +kernel
theorem dX3_readInto_5 : decode cX3_readInto 5 = .ok (.iconst 0, 1) := by decide +kernel
theorem dX3_readInto_6 : decode cX3_readInto 6 = .ok (.putfield 24, 3) := by decide +kernel
theorem dX3_readInto_9 : decode cX3_readInto 9 = .ok (.aload_n 0, 1) := by decide +kernel
theorem dX3_readInto_10 : decode cX3_readInto 10 = .ok (.invokevirtual 27, 3) := by decide +kernel
theorem dX3_readInto_13 : decode cX3_readInto 13 = .ok (.iconst 0, 1) := by decide +kernel
theorem dX3_readInto_14 : decode cX3_readInto 14 = .ok (.istore_n 2, 1) := by decide +kernel
theorem dX3_readInto_15 : decode cX3_readInto 15 = .ok (.iload_n 2, 1) := by decide +kernel
theorem dX3_readInto_16 : decode cX3_readInto 16 = .ok (.aload_n 0, 1) := by decide +kernel
theorem dX3_readInto_17 : decode cX3_readInto 17 = .ok (.getfield 15, 3) := by decide +kernel
theorem dX3_readInto_20 : decode cX3_readInto 20 = .ok (.if_icmp .ge 34, 3) := by decide +kernel
theorem dX3_readInto_23 : decode cX3_readInto 23 = .ok (.iload_n 2, 1) := by decide +kernel
theorem dX3_readInto_24 : decode cX3_readInto 24 = .ok (.aload_n 0, 1) := by decide +kernel
theorem dX3_readInto_25 : decode cX3_readInto 25 = .ok (.getfield 9, 3) := by decide +kernel
theorem dX3_readInto_28 : decode cX3_readInto 28 = .ok (.arraylength, 1) := by decide +kernel
theorem dX3_readInto_29 : decode cX3_readInto 29 = .ok (.if_icmp .ge 25, 3) := by decide +kernel
theorem dX3_readInto_32 : decode cX3_readInto 32 = .ok (.aload_n 0, 1) := by decide +kernel
theorem dX3_readInto_33 : decode cX3_readInto 33 = .ok (.aload_n 0, 1) := by decide +kernel
theorem dX3_readInto_34 : decode cX3_readInto 34 = .ok (.getfield 9, 3) := by decide +kernel
theorem dX3_readInto_37 : decode cX3_readInto 37 = .ok (.iload_n 2, 1) := by decide +kernel
theorem dX3_readInto_38 : decode cX3_readInto 38 = .ok (.caload, 1) := by decide +kernel
theorem dX3_readInto_39 : decode cX3_readInto 39 = .ok (.aload_n 1, 1) := by decide +kernel
theorem dX3_readInto_40 : decode cX3_readInto 40 = .ok (.invokevirtual 30, 3) := by decide +kernel
theorem dX3_readInto_43 : decode cX3_readInto 43 = .ok (.ifCond .ne 5, 3) := by decide +kernel
theorem dX3_readInto_46 : decode cX3_readInto 46 = .ok (.iload_n 2, 1) := by decide +kernel
theorem dX3_readInto_47 : decode cX3_readInto 47 = .ok (.ireturn, 1) := by decide +kernel
theorem dX3_readInto_48 : decode cX3_readInto 48 = .ok (.iinc 2 1, 3) := by decide +kernel
theorem dX3_readInto_51 : decode cX3_readInto 51 = .ok (.goto (-36), 3) := by decide +kernel
theorem dX3_readInto_54 : decode cX3_readInto 54 = .ok (.aload_n 0, 1) := by decide +kernel
theorem dX3_readInto_55 : decode cX3_readInto 55 = .ok (.aload_n 1, 1) := by decide +kernel
theorem dX3_readInto_56 : decode cX3_readInto 56 = .ok (.invokevirtual 34, 3) := by decide +kernel
theorem dX3_readInto_59 : decode cX3_readInto 59 = .ok (.ifCond .eq 7, 3) := by decide +kernel
theorem dX3_readInto_62 : decode cX3_readInto 62 = .ok (.iconst (-1), 1) := by decide +kernel
theorem dX3_readInto_63 : decode cX3_readInto 63 = .ok (.goto 7, 3) := by decide +kernel
theorem dX3_readInto_66 : decode cX3_readInto 66 = .ok (.aload_n 0, 1) := by decide +kernel
theorem dX3_readInto_67 : decode cX3_readInto 67 = .ok (.getfield 15, 3) := by decide +kernel
theorem dX3_readInto_70 : decode cX3_readInto 70 = .ok (.ireturn, 1) := by decide +kernel
theorem dX3_beginClause_0 : decode cX3_beginClause 0 = .ok (.aload_n 0, 1) := by decide +kernel
theorem dX3_beginClause_1 : decode cX3_beginClause 1 = .ok (.iconst 0, 1) := by decide +kernel
theorem dX3_beginClause_2 : decode cX3_beginClause 2 = .ok (.putfield 38, 3) := by decide +kernel
theorem dX3_beginClause_5 : decode cX3_beginClause 5 = .ok (.aload_n 0, 1) := by decide +kernel
theorem dX3_beginClause_6 : decode cX3_beginClause 6 = .ok (.iconst 0, 1) := by decide +kernel
theorem dX3_beginClause_7 : decode cX3_beginClause 7 = .ok (.putfield 41, 3) := by decide +kernel
theorem dX3_beginClause_10 : decode cX3_beginClause 10 = .ok (.aload_n 0, 1) := by decide +kernel
theorem dX3_beginClause_11 : decode cX3_beginClause 11 = .ok (.iconst (-1), 1) := by decide +kernel
theorem dX3_beginClause_12 : decode cX3_beginClause 12 = .ok (.putfield 44, 3) := by decide +kernel
theorem dX3_beginClause_15 : decode cX3_beginClause 15 = .ok (.aload_n 0, 1) := by decide +kernel
theorem dX3_beginClause_16 : decode cX3_beginClause 16 = .ok (.iconst 0, 1) := by decide +kernel
theorem dX3_beginClause_17 : decode cX3_beginClause 17 = .ok (.putfield 47, 3) := by decide +kernel
theorem dX3_beginClause_20 : decode cX3_beginClause 20 = .ok (.return_, 1) := by decide +kernel
set_option maxRecDepth 20000 in
theorem ggX3_reads_X3_readsMinus : GoodIn wsX3_reads wsX3_readsMinus := goodIn_r _ [5, 6, 7, 36, 37, 38, 39, 40, 41, 42] (by decide +kernel) (by decide +kernel)
set_option maxRecDepth 20000 in
theorem gX3_reads_X3_readsMinus : GoodIn wsX3_reads (wsV RX3 51 RX3 yX3_readsMinus wsX3_readsMinus) := goodIn_app (goodIn_of _ (by decide +kernel)) ggX3_reads_X3_readsMinus
set_option maxRecDepth 20000 in
theorem ggX3_reads_X3_endsClause : GoodIn wsX3_reads wsX3_endsClause := goodIn_r _ [11, 6, 7, 12, 13, 14, 15, 16, 17, 18, 19, 20, 21, 22, 23, 24, 25, 26, 4, 27, 36, 37, 38, 39, 40, 41, 42, 43, 44, 45, 46] (by decide +kernel) (by decide +kernel)
set_option maxRecDepth 20000 in
theorem gX3_reads_X3_endsClause : GoodIn wsX3_reads (wsV RX3 34 RX3 yX3_endsClause wsX3_endsClause) := goodIn_app (goodIn_of _ (by decide +kernel)) ggX3_reads_X3_endsClause
set_option maxRecDepth 20000 in
theorem ggX3_reads_X3_readsSlash : GoodIn wsX3_reads wsX3_readsSlash := goodIn_r _ [31, 12, 8, 9, 10, 4, 11, 6, 7, 13, 14, 15, 16, 17, 18, 19, 20, 21, 22, 23, 24, 25, 26, 27, 36, 37, 38, 39, 40, 41, 42, 43, 44, 45, 46] (by decide +kernel) (by decide +kernel)
set_option maxRecDepth 20000 in
theorem gX3_reads_X3_readsSlash : GoodIn wsX3_reads (wsV RX3 55 RX3 yX3_readsSlash wsX3_readsSlash) := goodIn_app (goodIn_of _ (by decide +kernel)) ggX3_reads_X3_readsSlash
set_option maxRecDepth 20000 in
theorem ggX3_reads_X3_readsSign : GoodIn wsX3_reads wsX3_readsSign := goodIn_r _ [35, 7, 6, 14, 13, 36, 37, 38, 39, 40, 41, 42] (by decide +kernel) (by decide +kernel)
set_option maxRecDepth 20000 in
theorem gX3_reads_X3_readsSign : GoodIn wsX3_reads (wsV RX3 58 RX3 yX3_readsSign wsX3_readsSign) := goodIn_app (goodIn_of _ (by decide +kernel)) ggX3_reads_X3_readsSign
theorem dX3_reads_0 : decode cX3_reads 0 = .ok (.iload_n 1, 1) := by decide +kernel
theorem dX3_reads_1 : decode cX3_reads 1 = .ok (.bipush 45, 2) := by decide +kernel
theorem dX3_reads_3 : decode cX3_reads 3 = .ok (.if_icmp .ne 8, 3) := by decide +kernel
theorem dX3_reads_6 : decode cX3_reads 6 = .ok (.aload_n 0, 1) := by decide +kernel
theorem dX3_reads_7 : decode cX3_reads 7 = .ok (.invokevirtual 51, 3) := by decide +kernel
theorem dX3_reads_10 : decode cX3_reads 10 = .ok (.ireturn, 1) := by decide +kernel
theorem dX3_reads_11 : decode cX3_reads 11 = .ok (.iload_n 1, 1) := by decide +kernel
theorem dX3_reads_12 : decode cX3_reads 12 = .ok (.bipush 44, 2) := by decide +kernel
theorem dX3_reads_14 : decode cX3_reads 14 = .ok (.if_icmp .ne 9, 3) := by decide +kernel
theorem dX3_reads_17 : decode cX3_reads 17 = .ok (.aload_n 0, 1) := by decide +kernel
theorem dX3_reads_18 : decode cX3_reads 18 = .ok (.aload_n 2, 1) := by decide +kernel
theorem dX3_reads_19 : decode cX3_reads 19 = .ok (.invokevirtual 34, 3) := by decide +kernel
theorem dX3_reads_22 : decode cX3_reads 22 = .ok (.ireturn, 1) := by decide +kernel
theorem dX3_reads_23 : decode cX3_reads 23 = .ok (.iload_n 1, 1) := by decide +kernel
theorem dX3_reads_24 : decode cX3_reads 24 = .ok (.bipush 47, 2) := by decide +kernel
theorem dX3_reads_26 : decode cX3_reads 26 = .ok (.if_icmp .ne 9, 3) := by decide +kernel
theorem dX3_reads_29 : decode cX3_reads 29 = .ok (.aload_n 0, 1) := by decide +kernel
theorem dX3_reads_30 : decode cX3_reads 30 = .ok (.aload_n 2, 1) := by decide +kernel
theorem dX3_reads_31 : decode cX3_reads 31 = .ok (.invokevirtual 55, 3) := by decide +kernel
theorem dX3_reads_34 : decode cX3_reads 34 = .ok (.ireturn, 1) := by decide +kernel
theorem dX3_reads_35 : decode cX3_reads 35 = .ok (.aload_n 0, 1) := by decide +kernel
theorem dX3_reads_36 : decode cX3_reads 36 = .ok (.iload_n 1, 1) := by decide +kernel
theorem dX3_reads_37 : decode cX3_reads 37 = .ok (.bipush 97, 2) := by decide +kernel
theorem dX3_reads_39 : decode cX3_reads 39 = .ok (.isub, 1) := by decide +kernel
theorem dX3_reads_40 : decode cX3_reads 40 = .ok (.invokevirtual 58, 3) := by decide +kernel
theorem dX3_reads_43 : decode cX3_reads 43 = .ok (.ireturn, 1) := by decide +kernel
theorem dX3_readsMinus_0 : decode cX3_readsMinus 0 = .ok (.aload_n 0, 1) := by decide +kernel
theorem dX3_readsMinus_1 : decode cX3_readsMinus 1 = .ok (.getfield 47, 3) := by decide +kernel
theorem dX3_readsMinus_4 : decode cX3_readsMinus 4 = .ok (.ifCond .ne 11, 3) := by decide +kernel
theorem dX3_readsMinus_7 : decode cX3_readsMinus 7 = .ok (.aload_n 0, 1) := by decide +kernel
theorem dX3_readsMinus_8 : decode cX3_readsMinus 8 = .ok (.getfield 44, 3) := by decide +kernel
theorem dX3_readsMinus_11 : decode cX3_readsMinus 11 = .ok (.iconst 5, 1) := by decide +kernel
theorem dX3_readsMinus_12 : decode cX3_readsMinus 12 = .ok (.if_icmp .lt 5, 3) := by decide +kernel
theorem dX3_readsMinus_15 : decode cX3_readsMinus 15 = .ok (.iconst 0, 1) := by decide +kernel
theorem dX3_readsMinus_16 : decode cX3_readsMinus 16 = .ok (.ireturn, 1) := by decide +kernel
theorem dX3_readsMinus_17 : decode cX3_readsMinus 17 = .ok (.aload_n 0, 1) := by decide +kernel
theorem dX3_readsMinus_18 : decode cX3_readsMinus 18 = .ok (.iconst 1, 1) := by decide +kernel
theorem dX3_readsMinus_19 : decode cX3_readsMinus 19 = .ok (.putfield 47, 3) := by decide +kernel
theorem dX3_readsMinus_22 : decode cX3_readsMinus 22 = .ok (.iconst 1, 1) := by decide +kernel
theorem dX3_readsMinus_23 : decode cX3_readsMinus 23 = .ok (.ireturn, 1) := by decide +kernel
set_option maxRecDepth 20000 in
theorem ggX3_readsSlash_X3_endsClause : GoodIn wsX3_readsSlash wsX3_endsClause := goodIn_r _ [6, 7, 8, 1, 9, 10, 11, 12, 13, 14, 15, 16, 17, 18, 19, 20, 21, 22, 5, 23, 24, 25, 26, 27, 28, 29, 30, 31, 32, 33, 34] (by decide +kernel) (by decide +kernel)
set_option maxRecDepth 20000 in
theorem gX3_readsSlash_X3_endsClause : GoodIn wsX3_readsSlash (wsV RX3 34 RX3 yX3_endsClause wsX3_endsClause) := goodIn_app (goodIn_of _ (by decide +kernel)) ggX3_readsSlash_X3_endsClause
theorem dX3_readsSlash_0 : decode cX3_readsSlash 0 = .ok (.aload_n 0, 1) := by decide +kernel
theorem dX3_readsSlash_1 : decode cX3_readsSlash 1 = .ok (.getfield 24, 3) := by decide +kernel
theorem dX3_readsSlash_4 : decode cX3_readsSlash 4 = .ok (.ifCond .ne 11, 3) := by decide +kernel
theorem dX3_readsSlash_7 : decode cX3_readsSlash 7 = .ok (.aload_n 0, 1) := by decide +kernel
theorem dX3_readsSlash_8 : decode cX3_readsSlash 8 = .ok (.aload_n 1, 1) := by decide +kernel
theorem dX3_readsSlash_9 : decode cX3_readsSlash 9 = .ok (.invokevirtual 34, 3) := by decide +kernel
theorem dX3_readsSlash_12 : decode cX3_readsSlash 12 = .ok (.ifCond .ne 5, 3) := by decide +kernel
theorem dX3_readsSlash_15 : decode cX3_readsSlash 15 = .ok (.iconst 0, 1) := by decide +kernel
theorem dX3_readsSlash_16 : decode cX3_readsSlash 16 = .ok (.ireturn, 1) := by decide +kernel
theorem dX3_readsSlash_17 : decode cX3_readsSlash 17 = .ok (.aload_n 0, 1) := by decide +kernel
theorem dX3_readsSlash_18 : decode cX3_readsSlash 18 = .ok (.iconst 1, 1) := by decide +kernel
theorem dX3_readsSlash_19 : decode cX3_readsSlash 19 = .ok (.putfield 24, 3) := by decide +kernel
theorem dX3_readsSlash_22 : decode cX3_readsSlash 22 = .ok (.iconst 1, 1) := by decide +kernel
theorem dX3_readsSlash_23 : decode cX3_readsSlash 23 = .ok (.ireturn, 1) := by decide +kernel
theorem dX3_readsSign_0 : decode cX3_readsSign 0 = .ok (.iload_n 1, 1) := by decide +kernel
theorem dX3_readsSign_1 : decode cX3_readsSign 1 = .ok (.aload_n 0, 1) := by decide +kernel
theorem dX3_readsSign_2 : decode cX3_readsSign 2 = .ok (.getfield 44, 3) := by decide +kernel
theorem dX3_readsSign_5 : decode cX3_readsSign 5 = .ok (.if_icmp .le 9, 3) := by decide +kernel
theorem dX3_readsSign_8 : decode cX3_readsSign 8 = .ok (.iload_n 1, 1) := by decide +kernel
theorem dX3_readsSign_9 : decode cX3_readsSign 9 = .ok (.bipush 6, 2) := by decide +kernel
theorem dX3_readsSign_11 : decode cX3_readsSign 11 = .ok (.if_icmp .lt 5, 3) := by decide +kernel
theorem dX3_readsSign_14 : decode cX3_readsSign 14 = .ok (.iconst 0, 1) := by decide +kernel
theorem dX3_readsSign_15 : decode cX3_readsSign 15 = .ok (.ireturn, 1) := by decide +kernel
theorem dX3_readsSign_16 : decode cX3_readsSign 16 = .ok (.aload_n 0, 1) := by decide +kernel
theorem dX3_readsSign_17 : decode cX3_readsSign 17 = .ok (.getfield 47, 3) := by decide +kernel
theorem dX3_readsSign_20 : decode cX3_readsSign 20 = .ok (.ifCond .eq 18, 3) := by decide +kernel
theorem dX3_readsSign_23 : decode cX3_readsSign 23 = .ok (.aload_n 0, 1) := by decide +kernel
theorem dX3_readsSign_24 : decode cX3_readsSign 24 = .ok (.dup, 1) := by decide +kernel
theorem dX3_readsSign_25 : decode cX3_readsSign 25 = .ok (.getfield 41, 3) := by decide +kernel
theorem dX3_readsSign_28 : decode cX3_readsSign 28 = .ok (.iconst 1, 1) := by decide +kernel
theorem dX3_readsSign_29 : decode cX3_readsSign 29 = .ok (.iload_n 1, 1) := by decide +kernel
theorem dX3_readsSign_30 : decode cX3_readsSign 30 = .ok (.ishl, 1) := by decide +kernel
theorem dX3_readsSign_31 : decode cX3_readsSign 31 = .ok (.ior, 1) := by decide +kernel
theorem dX3_readsSign_32 : decode cX3_readsSign 32 = .ok (.putfield 41, 3) := by decide +kernel
theorem dX3_readsSign_35 : decode cX3_readsSign 35 = .ok (.goto 15, 3) := by decide +kernel
theorem dX3_readsSign_38 : decode cX3_readsSign 38 = .ok (.aload_n 0, 1) := by decide +kernel
theorem dX3_readsSign_39 : decode cX3_readsSign 39 = .ok (.dup, 1) := by decide +kernel
theorem dX3_readsSign_40 : decode cX3_readsSign 40 = .ok (.getfield 38, 3) := by decide +kernel
theorem dX3_readsSign_43 : decode cX3_readsSign 43 = .ok (.iconst 1, 1) := by decide +kernel
theorem dX3_readsSign_44 : decode cX3_readsSign 44 = .ok (.iload_n 1, 1) := by decide +kernel
theorem dX3_readsSign_45 : decode cX3_readsSign 45 = .ok (.ishl, 1) := by decide +kernel
theorem dX3_readsSign_46 : decode cX3_readsSign 46 = .ok (.ior, 1) := by decide +kernel
theorem dX3_readsSign_47 : decode cX3_readsSign 47 = .ok (.putfield 38, 3) := by decide +kernel
theorem dX3_readsSign_50 : decode cX3_readsSign 50 = .ok (.aload_n 0, 1) := by decide +kernel
theorem dX3_readsSign_51 : decode cX3_readsSign 51 = .ok (.iload_n 1, 1) := by decide +kernel
theorem dX3_readsSign_52 : decode cX3_readsSign 52 = .ok (.putfield 44, 3) := by decide +kernel
theorem dX3_readsSign_55 : decode cX3_readsSign 55 = .ok (.aload_n 0, 1) := by decide +kernel
theorem dX3_readsSign_56 : decode cX3_readsSign 56 = .ok (.iconst 0, 1) := by decide +kernel
theorem dX3_readsSign_57 : decode cX3_readsSign 57 = .ok (.putfield 47, 3) := by decide +kernel
theorem dX3_readsSign_60 : decode cX3_readsSign 60 = .ok (.iconst 1, 1) := by decide +kernel
theorem dX3_readsSign_61 : decode cX3_readsSign 61 = .ok (.ireturn, 1) := by decide +kernel
set_option maxRecDepth 20000 in
theorem ggX3_endsClause_X0_append : GoodIn wsX3_endsClause wsX0_append := goodIn_r _ [10, 11, 12, 13, 14, 27, 28, 29, 30] (by decide +kernel) (by decide +kernel)
set_option maxRecDepth 20000 in
theorem gX3_endsClause_X0_append : GoodIn wsX3_endsClause (wsV RX3 62 RX0 yX0_append wsX0_append) := goodIn_app (goodIn_of _ (by decide +kernel)) ggX3_endsClause_X0_append
set_option maxRecDepth 20000 in
theorem ggX3_endsClause_X3_beginClause : GoodIn wsX3_endsClause wsX3_beginClause := goodIn_r _ [19, 4, 5, 2, 1, 20, 21, 22, 23, 24, 25, 26] (by decide +kernel) (by decide +kernel)
set_option maxRecDepth 20000 in
theorem gX3_endsClause_X3_beginClause : GoodIn wsX3_endsClause (wsV RX3 27 RX3 yX3_beginClause wsX3_beginClause) := goodIn_app (goodIn_of _ (by decide +kernel)) ggX3_endsClause_X3_beginClause
theorem dX3_endsClause_0 : decode cX3_endsClause 0 = .ok (.aload_n 0, 1) := by decide +kernel
theorem dX3_endsClause_1 : decode cX3_endsClause 1 = .ok (.getfield 47, 3) := by decide +kernel
theorem dX3_endsClause_4 : decode cX3_endsClause 4 = .ok (.ifCond .ne 10, 3) := by decide +kernel
theorem dX3_endsClause_7 : decode cX3_endsClause 7 = .ok (.aload_n 0, 1) := by decide +kernel
theorem dX3_endsClause_8 : decode cX3_endsClause 8 = .ok (.getfield 44, 3) := by decide +kernel
theorem dX3_endsClause_11 : decode cX3_endsClause 11 = .ok (.ifCond .ge 5, 3) := by decide +kernel
theorem dX3_endsClause_14 : decode cX3_endsClause 14 = .ok (.iconst 0, 1) := by decide +kernel
theorem dX3_endsClause_15 : decode cX3_endsClause 15 = .ok (.ireturn, 1) := by decide +kernel
theorem dX3_endsClause_16 : decode cX3_endsClause 16 = .ok (.aload_n 1, 1) := by decide +kernel
theorem dX3_endsClause_17 : decode cX3_endsClause 17 = .ok (.aload_n 0, 1) := by decide +kernel
theorem dX3_endsClause_18 : decode cX3_endsClause 18 = .ok (.getfield 24, 3) := by decide +kernel
theorem dX3_endsClause_21 : decode cX3_endsClause 21 = .ok (.aload_n 0, 1) := by decide +kernel
theorem dX3_endsClause_22 : decode cX3_endsClause 22 = .ok (.getfield 38, 3) := by decide +kernel
theorem dX3_endsClause_25 : decode cX3_endsClause 25 = .ok (.aload_n 0, 1) := by decide +kernel
theorem dX3_endsClause_26 : decode cX3_endsClause 26 = .ok (.getfield 41, 3) := by decide +kernel
theorem dX3_endsClause_29 : decode cX3_endsClause 29 = .ok (.invokevirtual 62, 3) := by decide +kernel
theorem dX3_endsClause_32 : decode cX3_endsClause 32 = .ok (.aload_n 0, 1) := by decide +kernel
theorem dX3_endsClause_33 : decode cX3_endsClause 33 = .ok (.invokevirtual 27, 3) := by decide +kernel
theorem dX3_endsClause_36 : decode cX3_endsClause 36 = .ok (.iconst 1, 1) := by decide +kernel
theorem dX3_endsClause_37 : decode cX3_endsClause 37 = .ok (.ireturn, 1) := by decide +kernel
set_option maxRecDepth 20000 in
theorem ggX4_init_X0_init : GoodIn wsX4_init wsX0_init := goodIn_r _ [26, 27, 2, 3, 28, 29, 30, 31, 32, 33, 34, 35, 36, 68, 69, 70, 71] (by decide +kernel) (by decide +kernel)
set_option maxRecDepth 20000 in
theorem gX4_init_X0_init : GoodIn wsX4_init (wsX0_init) := ggX4_init_X0_init
set_option maxRecDepth 20000 in
theorem ggX4_init_X1_init : GoodIn wsX4_init wsX1_init := goodIn_r _ [39, 40, 2, 3, 41, 42, 5, 6, 43, 44, 25, 26, 27, 28, 29, 30, 31, 32, 33, 34, 35, 36, 80, 81, 68, 69, 70, 71] (by decide +kernel) (by decide +kernel)
set_option maxRecDepth 20000 in
theorem gX4_init_X1_init : GoodIn wsX4_init (wsX1_init) := ggX4_init_X1_init
set_option maxRecDepth 20000 in
theorem ggX4_init_X3_init : GoodIn wsX4_init wsX3_init := goodIn_r _ [47, 48, 2, 3, 49, 50, 51, 82, 83, 84, 85, 86, 87, 88] (by decide +kernel) (by decide +kernel)
set_option maxRecDepth 20000 in
theorem gX4_init_X3_init : GoodIn wsX4_init (wsX3_init) := ggX4_init_X3_init
set_option maxRecDepth 20000 in
theorem ggX4_init_X2_init : GoodIn wsX4_init wsX2_init := goodIn_r _ [54, 55, 2, 3, 32, 56, 57, 58, 59, 60, 61, 62, 63, 64, 65, 66, 67, 89, 90, 91, 92, 93, 94, 95, 96, 97, 98, 99, 100, 101, 102] (by decide +kernel) (by decide +kernel)
set_option maxRecDepth 20000 in
theorem gX4_init_X2_init : GoodIn wsX4_init (wsX2_init) := ggX4_init_X2_init
theorem dX4_init_0 : decode cX4_init 0 = .ok (.aload_n 0, 1) := by decide +kernel
theorem dX4_init_1 : decode cX4_init 1 = .ok (.invokespecial 1, 3) := by decide +kernel
theorem dX4_init_4 : decode cX4_init 4 = .ok (.aload_n 0, 1) := by decide +kernel
theorem dX4_init_5 : decode cX4_init 5 = .ok (.new 7, 3) := by decide +kernel
theorem dX4_init_8 : decode cX4_init 8 = .ok (.dup, 1) := by decide +kernel
theorem dX4_init_9 : decode cX4_init 9 = .ok (.bipush 24, 2) := by decide +kernel
theorem dX4_init_11 : decode cX4_init 11 = .ok (.invokespecial 11, 3) := by decide +kernel
theorem dX4_init_14 : decode cX4_init 14 = .ok (.putfield 14, 3) := by decide +kernel
theorem dX4_init_17 : decode cX4_init 17 = .ok (.aload_n 0, 1) := by decide +kernel
theorem dX4_init_18 : decode cX4_init 18 = .ok (.new 7, 3) := by decide +kernel
theorem dX4_init_21 : decode cX4_init 21 = .ok (.dup, 1) := by decide +kernel
theorem dX4_init_22 : decode cX4_init 22 = .ok (.bipush 30, 2) := by decide +kernel
theorem dX4_init_24 : decode cX4_init 24 = .ok (.invokespecial 11, 3) := by decide +kernel
theorem dX4_init_27 : decode cX4_init 27 = .ok (.putfield 18, 3) := by decide +kernel
theorem dX4_init_30 : decode cX4_init 30 = .ok (.aload_n 0, 1) := by decide +kernel
theorem dX4_init_31 : decode cX4_init 31 = .ok (.new 7, 3) := by decide +kernel
theorem dX4_init_34 : decode cX4_init 34 = .ok (.dup, 1) := by decide +kernel
theorem dX4_init_35 : decode cX4_init 35 = .ok (.bipush 24, 2) := by decide +kernel
theorem dX4_init_37 : decode cX4_init 37 = .ok (.invokespecial 11, 3) := by decide +kernel
theorem dX4_init_40 : decode cX4_init 40 = .ok (.putfield 21, 3) := by decide +kernel
theorem dX4_init_43 : decode cX4_init 43 = .ok (.aload_n 0, 1) := by decide +kernel
theorem dX4_init_44 : decode cX4_init 44 = .ok (.iconst 0, 1) := by decide +kernel
theorem dX4_init_45 : decode cX4_init 45 = .ok (.putfield 24, 3) := by decide +kernel
theorem dX4_init_48 : decode cX4_init 48 = .ok (.aload_n 0, 1) := by decide +kernel
theorem dX4_init_49 : decode cX4_init 49 = .ok (.new 28, 3) := by decide +kernel
theorem dX4_init_52 : decode cX4_init 52 = .ok (.dup, 1) := by decide +kernel
theorem dX4_init_53 : decode cX4_init 53 = .ok (.invokespecial 30, 3) := by decide +kernel
theorem dX4_init_56 : decode cX4_init 56 = .ok (.putfield 31, 3) := by decide +kernel
theorem dX4_init_59 : decode cX4_init 59 = .ok (.aload_n 0, 1) := by decide +kernel
theorem dX4_init_60 : decode cX4_init 60 = .ok (.new 35, 3) := by decide +kernel
theorem dX4_init_63 : decode cX4_init 63 = .ok (.dup, 1) := by decide +kernel
theorem dX4_init_64 : decode cX4_init 64 = .ok (.invokespecial 37, 3) := by decide +kernel
theorem dX4_init_67 : decode cX4_init 67 = .ok (.putfield 38, 3) := by decide +kernel
theorem dX4_init_70 : decode cX4_init 70 = .ok (.aload_n 0, 1) := by decide +kernel
theorem dX4_init_71 : decode cX4_init 71 = .ok (.new 42, 3) := by decide +kernel
theorem dX4_init_74 : decode cX4_init 74 = .ok (.dup, 1) := by decide +kernel
theorem dX4_init_75 : decode cX4_init 75 = .ok (.invokespecial 44, 3) := by decide +kernel
theorem dX4_init_78 : decode cX4_init 78 = .ok (.putfield 45, 3) := by decide +kernel
theorem dX4_init_81 : decode cX4_init 81 = .ok (.aload_n 0, 1) := by decide +kernel
theorem dX4_init_82 : decode cX4_init 82 = .ok (.iconst 0, 1) := by decide +kernel
theorem dX4_init_83 : decode cX4_init 83 = .ok (.putfield 49, 3) := by decide +kernel
theorem dX4_init_86 : decode cX4_init 86 = .ok (.return_, 1) := by decide +kernel
set_option maxRecDepth 20000 in
theorem ggX4_add_X4_isZeroOrOne : GoodIn wsX4_add wsX4_isZeroOrOne := goodIn_r _ [5] (by decide +kernel) (by decide +kernel)
set_option maxRecDepth 20000 in
theorem gX4_add_X4_isZeroOrOne : GoodIn wsX4_add (va_wsS RX4 52 yX4_isZeroOrOne wsX4_isZeroOrOne) := goodIn_app (goodIn_of _ (by decide +kernel)) ggX4_add_X4_isZeroOrOne
set_option maxRecDepth 20000 in
theorem ggX4_add_X4_isSetOfSigns : GoodIn wsX4_add wsX4_isSetOfSigns := goodIn_r _ [8] (by decide +kernel) (by decide +kernel)
set_option maxRecDepth 20000 in
theorem gX4_add_X4_isSetOfSigns : GoodIn wsX4_add (va_wsS RX4 56 yX4_isSetOfSigns wsX4_isSetOfSigns) := goodIn_app (goodIn_of _ (by decide +kernel)) ggX4_add_X4_isSetOfSigns
set_option maxRecDepth 20000 in
theorem ggX4_add_X0_size : GoodIn wsX4_add wsX0_size := goodIn_r _ [13, 14, 77, 78, 79, 80] (by decide +kernel) (by decide +kernel)
set_option maxRecDepth 20000 in
theorem gX4_add_X0_size : GoodIn wsX4_add (wsV RX4 59 RX0 yX0_size wsX0_size) := goodIn_app (goodIn_of _ (by decide +kernel)) ggX4_add_X0_size
set_option maxRecDepth 20000 in
theorem ggX4_add_X4_beginAct : GoodIn wsX4_add wsX4_beginAct := goodIn_r _ [18, 19, 1, 20, 21, 22, 23, 24, 25, 26, 27, 28, 29, 30, 31, 32, 33, 34, 12, 35, 36, 37, 38, 39, 14, 40, 41, 42, 43, 44, 10, 11, 13, 45, 46, 47, 48, 49, 50, 51, 52, 53, 54, 55, 56, 57, 58, 59, 60, 61, 62, 63, 64, 65, 66, 67, 69, 70, 71, 72, 73, 74, 75, 76, 81, 82, 77, 78, 79, 80] (by decide +kernel) (by decide +kernel)
set_option maxRecDepth 20000 in
theorem gX4_add_X4_beginAct : GoodIn wsX4_add (wsV RX4 63 RX4 yX4_beginAct wsX4_beginAct) := goodIn_app (goodIn_of _ (by decide +kernel)) ggX4_add_X4_beginAct
set_option maxRecDepth 20000 in
theorem ggX4_add_X0_append : GoodIn wsX4_add wsX0_append := goodIn_r _ [67, 14, 49, 58, 63, 77, 78, 79, 80] (by decide +kernel) (by decide +kernel)
set_option maxRecDepth 20000 in
theorem gX4_add_X0_append : GoodIn wsX4_add (wsV RX4 66 RX0 yX0_append wsX0_append) := goodIn_app (goodIn_of _ (by decide +kernel)) ggX4_add_X0_append
theorem dX4_add_0 : decode cX4_add 0 = .ok (.iload_n 1, 1) := by decide +kernel
theorem dX4_add_1 : decode cX4_add 1 = .ok (.invokestatic 52, 3) := by decide +kernel
theorem dX4_add_4 : decode cX4_add 4 = .ok (.ifCond .ne 5, 3) := by decide +kernel
theorem dX4_add_7 : decode cX4_add 7 = .ok (.iconst (-1), 1) := by decide +kernel
theorem dX4_add_8 : decode cX4_add 8 = .ok (.ireturn, 1) := by decide +kernel
theorem dX4_add_9 : decode cX4_add 9 = .ok (.iload_n 2, 1) := by decide +kernel
theorem dX4_add_10 : decode cX4_add 10 = .ok (.invokestatic 56, 3) := by decide +kernel
theorem dX4_add_13 : decode cX4_add 13 = .ok (.ifCond .eq 10, 3) := by decide +kernel
theorem dX4_add_16 : decode cX4_add 16 = .ok (.iload_n 3, 1) := by decide +kernel
theorem dX4_add_17 : decode cX4_add 17 = .ok (.invokestatic 56, 3) := by decide +kernel
theorem dX4_add_20 : decode cX4_add 20 = .ok (.ifCond .ne 6, 3) := by decide +kernel
theorem dX4_add_23 : decode cX4_add 23 = .ok (.bipush (-2), 2) := by decide +kernel
theorem dX4_add_25 : decode cX4_add 25 = .ok (.ireturn, 1) := by decide +kernel
theorem dX4_add_26 : decode cX4_add 26 = .ok (.iload_n 2, 1) := by decide +kernel
theorem dX4_add_27 : decode cX4_add 27 = .ok (.iload_n 3, 1) := by decide +kernel
theorem dX4_add_28 : decode cX4_add 28 = .ok (.ior, 1) := by decide +kernel
theorem dX4_add_29 : decode cX4_add 29 = .ok (.ifCond .eq 9, 3) := by decide +kernel
theorem dX4_add_32 : decode cX4_add 32 = .ok (.iload_n 2, 1) := by decide +kernel
theorem dX4_add_33 : decode cX4_add 33 = .ok (.iload_n 3, 1) := by decide +kernel
theorem dX4_add_34 : decode cX4_add 34 = .ok (.iand, 1) := by decide +kernel
theorem dX4_add_35 : decode cX4_add 35 = .ok (.ifCond .eq 6, 3) := by decide +kernel
theorem dX4_add_38 : decode cX4_add 38 = .ok (.bipush (-2), 2) := by decide +kernel
theorem dX4_add_40 : decode cX4_add 40 = .ok (.ireturn, 1) := by decide +kernel
theorem dX4_add_41 : decode cX4_add 41 = .ok (.aload_n 0, 1) := by decide +kernel
theorem dX4_add_42 : decode cX4_add 42 = .ok (.getfield 14, 3) := by decide +kernel
theorem dX4_add_45 : decode cX4_add 45 = .ok (.invokevirtual 59, 3) := by decide +kernel
theorem dX4_add_48 : decode cX4_add 48 = .ok (.bipush 24, 2) := by decide +kernel
theorem dX4_add_50 : decode cX4_add 50 = .ok (.if_icmp .lt 6, 3) := by decide +kernel
theorem dX4_add_53 : decode cX4_add 53 = .ok (.bipush (-3), 2) := by decide +kernel
theorem dX4_add_55 : decode cX4_add 55 = .ok (.ireturn, 1) := by decide +kernel
theorem dX4_add_56 : decode cX4_add 56 = .ok (.aload_n 0, 1) := by decide +kernel
theorem dX4_add_57 : decode cX4_add 57 = .ok (.invokevirtual 63, 3) := by decide +kernel
theorem dX4_add_60 : decode cX4_add 60 = .ok (.aload_n 0, 1) := by decide +kernel
theorem dX4_add_61 : decode cX4_add 61 = .ok (.getfield 14, 3) := by decide +kernel
theorem dX4_add_64 : decode cX4_add 64 = .ok (.iload_n 1, 1) := by decide +kernel
theorem dX4_add_65 : decode cX4_add 65 = .ok (.iload_n 2, 1) := by decide +kernel
theorem dX4_add_66 : decode cX4_add 66 = .ok (.iload_n 3, 1) := by decide +kernel
theorem dX4_add_67 : decode cX4_add 67 = .ok (.invokevirtual 66, 3) := by decide +kernel
theorem dX4_add_70 : decode cX4_add 70 = .ok (.aload_n 0, 1) := by decide +kernel
theorem dX4_add_71 : decode cX4_add 71 = .ok (.getfield 14, 3) := by decide +kernel
theorem dX4_add_74 : decode cX4_add 74 = .ok (.invokevirtual 59, 3) := by decide +kernel
theorem dX4_add_77 : decode cX4_add 77 = .ok (.iconst 1, 1) := by decide +kernel
theorem dX4_add_78 : decode cX4_add 78 = .ok (.isub, 1) := by decide +kernel
theorem dX4_add_79 : decode cX4_add 79 = .ok (.ireturn, 1) := by decide +kernel
set_option maxRecDepth 20000 in
theorem ggX4_addAll_X3_readInto : GoodIn wsX4_addAll wsX3_readInto := goodIn_r _ [8, 9, 10, 11, 12, 13, 14, 15, 16, 17, 18, 19, 20, 7, 21, 22, 23, 24, 25, 26, 27, 28, 29, 30, 31, 32, 33, 34, 35, 36, 37, 38, 39, 40, 41, 42, 43, 44, 45, 46, 47, 48, 49, 50, 51, 52, 111, 112, 113, 114, 115, 116, 117, 118, 119, 120, 121] (by decide +kernel) (by decide +kernel)
set_option maxRecDepth 20000 in
theorem gX4_addAll_X3_readInto : GoodIn wsX4_addAll (wsV RX4 70 RX3 yX3_readInto wsX3_readInto) := goodIn_app (goodIn_of _ (by decide +kernel)) ggX4_addAll_X3_readInto
set_option maxRecDepth 20000 in
theorem ggX4_addAll_X0_size : GoodIn wsX4_addAll wsX0_size := goodIn_r _ [56, 17, 118, 119, 120, 121] (by decide +kernel) (by decide +kernel)
set_option maxRecDepth 20000 in
theorem gX4_addAll_X0_size : GoodIn wsX4_addAll (wsV RX4 59 RX0 yX0_size wsX0_size) := goodIn_app (goodIn_of _ (by decide +kernel)) ggX4_addAll_X0_size
set_option maxRecDepth 20000 in
theorem ggX4_addAll_X4_beginAct : GoodIn wsX4_addAll wsX4_beginAct := goodIn_r _ [61, 62, 3, 63, 64, 65, 66, 67, 68, 69, 70, 71, 72, 73, 74, 75, 76, 77, 15, 78, 79, 13, 14, 16, 17, 80, 81, 82, 83, 84, 54, 55, 56, 85, 86, 87, 88, 42, 89, 90, 91, 92, 93, 94, 95, 96, 43, 97, 98, 99, 100, 44, 101, 39, 40, 41, 103, 104, 105, 106, 107, 108, 109, 110, 122, 123, 118, 119, 120, 121] (by decide +kernel) (by decide +kernel)
set_option maxRecDepth 20000 in
theorem gX4_addAll_X4_beginAct : GoodIn wsX4_addAll (wsV RX4 63 RX4 yX4_beginAct wsX4_beginAct) := goodIn_app (goodIn_of _ (by decide +kernel)) ggX4_addAll_X4_beginAct
set_option maxRecDepth 20000 in
theorem ggX4_addAll_X0_appendEach : GoodIn wsX4_addAll wsX0_appendEach := goodIn_r _ [83, 84, 54, 55, 15, 56, 17, 85, 86, 87, 88, 42, 89, 90, 91, 92, 93, 94, 95, 96, 43, 97, 98, 99, 100, 44, 101, 39, 40, 41, 118, 119, 120, 121] (by decide +kernel) (by decide +kernel)
set_option maxRecDepth 20000 in
theorem gX4_addAll_X0_appendEach : GoodIn wsX4_addAll (wsV RX4 74 RX0 yX0_appendEach wsX0_appendEach) := goodIn_app (goodIn_of _ (by decide +kernel)) ggX4_addAll_X0_appendEach
theorem dX4_addAll_0 : decode cX4_addAll 0 = .ok (.aload_n 0, 1) := by decide +kernel
theorem dX4_addAll_1 : decode cX4_addAll 1 = .ok (.getfield 38, 3) := by decide +kernel
theorem dX4_addAll_4 : decode cX4_addAll 4 = .ok (.aload_n 0, 1) := by decide +kernel
theorem dX4_addAll_5 : decode cX4_addAll 5 = .ok (.getfield 18, 3) := by decide +kernel
theorem dX4_addAll_8 : decode cX4_addAll 8 = .ok (.invokevirtual 70, 3) := by decide +kernel
theorem dX4_addAll_11 : decode cX4_addAll 11 = .ok (.istore_n 1, 1) := by decide +kernel
theorem dX4_addAll_12 : decode cX4_addAll 12 = .ok (.iload_n 1, 1) := by decide +kernel
theorem dX4_addAll_13 : decode cX4_addAll 13 = .ok (.iconst (-1), 1) := by decide +kernel
theorem dX4_addAll_14 : decode cX4_addAll 14 = .ok (.if_icmp .eq 8, 3) := by decide +kernel
theorem dX4_addAll_17 : decode cX4_addAll 17 = .ok (.bipush (-100), 2) := by decide +kernel
theorem dX4_addAll_19 : decode cX4_addAll 19 = .ok (.iload_n 1, 1) := by decide +kernel
theorem dX4_addAll_20 : decode cX4_addAll 20 = .ok (.isub, 1) := by decide +kernel
theorem dX4_addAll_21 : decode cX4_addAll 21 = .ok (.ireturn, 1) := by decide +kernel
theorem dX4_addAll_22 : decode cX4_addAll 22 = .ok (.aload_n 0, 1) := by decide +kernel
theorem dX4_addAll_23 : decode cX4_addAll 23 = .ok (.getfield 14, 3) := by decide +kernel
theorem dX4_addAll_26 : decode cX4_addAll 26 = .ok (.invokevirtual 59, 3) := by decide +kernel
theorem dX4_addAll_29 : decode cX4_addAll 29 = .ok (.aload_n 0, 1) := by decide +kernel
theorem dX4_addAll_30 : decode cX4_addAll 30 = .ok (.getfield 18, 3) := by decide +kernel
theorem dX4_addAll_33 : decode cX4_addAll 33 = .ok (.invokevirtual 59, 3) := by decide +kernel
theorem dX4_addAll_36 : decode cX4_addAll 36 = .ok (.iadd, 1) := by decide +kernel
theorem dX4_addAll_37 : decode cX4_addAll 37 = .ok (.bipush 24, 2) := by decide +kernel
theorem dX4_addAll_39 : decode cX4_addAll 39 = .ok (.if_icmp .le 6, 3) := by decide +kernel
theorem dX4_addAll_42 : decode cX4_addAll 42 = .ok (.bipush (-3), 2) := by decide +kernel
theorem dX4_addAll_44 : decode cX4_addAll 44 = .ok (.ireturn, 1) := by decide +kernel
theorem dX4_addAll_45 : decode cX4_addAll 45 = .ok (.aload_n 0, 1) := by decide +kernel
theorem dX4_addAll_46 : decode cX4_addAll 46 = .ok (.invokevirtual 63, 3) := by decide +kernel
theorem dX4_addAll_49 : decode cX4_addAll 49 = .ok (.aload_n 0, 1) := by decide +kernel
theorem dX4_addAll_50 : decode cX4_addAll 50 = .ok (.getfield 14, 3) := by decide +kernel
theorem dX4_addAll_53 : decode cX4_addAll 53 = .ok (.aload_n 0, 1) := by decide +kernel
theorem dX4_addAll_54 : decode cX4_addAll 54 = .ok (.getfield 18, 3) := by decide +kernel
theorem dX4_addAll_57 : decode cX4_addAll 57 = .ok (.invokevirtual 74, 3) := by decide +kernel
theorem dX4_addAll_60 : decode cX4_addAll 60 = .ok (.aload_n 0, 1) := by decide +kernel
theorem dX4_addAll_61 : decode cX4_addAll 61 = .ok (.getfield 18, 3) := by decide +kernel
theorem dX4_addAll_64 : decode cX4_addAll 64 = .ok (.invokevirtual 59, 3) := by decide +kernel
theorem dX4_addAll_67 : decode cX4_addAll 67 = .ok (.ireturn, 1) := by decide +kernel
set_option maxRecDepth 20000 in
theorem ggX4_remove_X0_has : GoodIn wsX4_remove wsX0_has := goodIn_r _ [6, 7, 8, 75, 76, 77, 78] (by decide +kernel) (by decide +kernel)
set_option maxRecDepth 20000 in
theorem gX4_remove_X0_has : GoodIn wsX4_remove (wsV RX4 78 RX0 yX0_has wsX0_has) := goodIn_app (goodIn_of _ (by decide +kernel)) ggX4_remove_X0_has
set_option maxRecDepth 20000 in
theorem ggX4_remove_X4_beginAct : GoodIn wsX4_remove wsX4_beginAct := goodIn_r _ [13, 14, 1, 15, 16, 17, 18, 19, 20, 21, 22, 23, 24, 25, 26, 27, 28, 29, 5, 30, 31, 32, 33, 34, 7, 35, 36, 37, 38, 39, 40, 41, 42, 43, 44, 45, 46, 8, 47, 3, 4, 6, 48, 49, 50, 51, 52, 53, 54, 55, 56, 57, 58, 59, 60, 61, 67, 68, 69, 70, 71, 72, 73, 74, 79, 80, 75, 76, 77, 78] (by decide +kernel) (by decide +kernel)
set_option maxRecDepth 20000 in
theorem gX4_remove_X4_beginAct : GoodIn wsX4_remove (wsV RX4 63 RX4 yX4_beginAct wsX4_beginAct) := goodIn_app (goodIn_of _ (by decide +kernel)) ggX4_remove_X4_beginAct
set_option maxRecDepth 20000 in
theorem ggX4_remove_X0_drop : GoodIn wsX4_remove wsX0_drop := goodIn_r _ [65, 7, 8, 52, 57, 47, 3, 4, 5, 6, 75, 76, 77, 78] (by decide +kernel) (by decide +kernel)
set_option maxRecDepth 20000 in
theorem gX4_remove_X0_drop : GoodIn wsX4_remove (wsV RX4 81 RX0 yX0_drop wsX0_drop) := goodIn_app (goodIn_of _ (by decide +kernel)) ggX4_remove_X0_drop
set_option maxRecDepth 20000 in
theorem ggX4_remove_X0_size : GoodIn wsX4_remove wsX0_size := goodIn_r _ [42, 7, 75, 76, 77, 78] (by decide +kernel) (by decide +kernel)
set_option maxRecDepth 20000 in
theorem gX4_remove_X0_size : GoodIn wsX4_remove (wsV RX4 59 RX0 yX0_size wsX0_size) := goodIn_app (goodIn_of _ (by decide +kernel)) ggX4_remove_X0_size
theorem dX4_remove_0 : decode cX4_remove 0 = .ok (.aload_n 0, 1) := by decide +kernel
theorem dX4_remove_1 : decode cX4_remove 1 = .ok (.getfield 14, 3) := by decide +kernel
theorem dX4_remove_4 : decode cX4_remove 4 = .ok (.iload_n 1, 1) := by decide +kernel
theorem dX4_remove_5 : decode cX4_remove 5 = .ok (.invokevirtual 78, 3) := by decide +kernel
theorem dX4_remove_8 : decode cX4_remove 8 = .ok (.ifCond .ne 5, 3) := by decide +kernel
theorem dX4_remove_11 : decode cX4_remove 11 = .ok (.iconst (-1), 1) := by decide +kernel
theorem dX4_remove_12 : decode cX4_remove 12 = .ok (.ireturn, 1) := by decide +kernel
theorem dX4_remove_13 : decode cX4_remove 13 = .ok (.aload_n 0, 1) := by decide +kernel
theorem dX4_remove_14 : decode cX4_remove 14 = .ok (.invokevirtual 63, 3) := by decide +kernel
theorem dX4_remove_17 : decode cX4_remove 17 = .ok (.aload_n 0, 1) := by decide +kernel
theorem dX4_remove_18 : decode cX4_remove 18 = .ok (.getfield 14, 3) := by decide +kernel
theorem dX4_remove_21 : decode cX4_remove 21 = .ok (.iload_n 1, 1) := by decide +kernel
theorem dX4_remove_22 : decode cX4_remove 22 = .ok (.invokevirtual 81, 3) := by decide +kernel
theorem dX4_remove_25 : decode cX4_remove 25 = .ok (.aload_n 0, 1) := by decide +kernel
theorem dX4_remove_26 : decode cX4_remove 26 = .ok (.getfield 14, 3) := by decide +kernel
theorem dX4_remove_29 : decode cX4_remove 29 = .ok (.invokevirtual 59, 3) := by decide +kernel
theorem dX4_remove_32 : decode cX4_remove 32 = .ok (.ireturn, 1) := by decide +kernel
set_option maxRecDepth 20000 in
theorem ggX4_move_X0_has : GoodIn wsX4_move wsX0_has := goodIn_r _ [6, 7, 8, 75, 76, 77, 78] (by decide +kernel) (by decide +kernel)
set_option maxRecDepth 20000 in
theorem gX4_move_X0_has : GoodIn wsX4_move (wsV RX4 78 RX0 yX0_has wsX0_has) := goodIn_app (goodIn_of _ (by decide +kernel)) ggX4_move_X0_has
set_option maxRecDepth 20000 in
theorem ggX4_move_X4_beginAct : GoodIn wsX4_move wsX4_beginAct := goodIn_r _ [13, 14, 1, 15, 16, 17, 18, 19, 20, 21, 22, 23, 24, 25, 26, 27, 28, 29, 5, 30, 31, 32, 33, 34, 7, 35, 36, 37, 38, 39, 40, 41, 42, 43, 44, 45, 46, 8, 47, 3, 4, 6, 48, 49, 50, 51, 52, 53, 54, 55, 56, 57, 58, 59, 60, 61, 67, 68, 69, 70, 71, 72, 73, 74, 79, 80, 75, 76, 77, 78] (by decide +kernel) (by decide +kernel)
set_option maxRecDepth 20000 in
theorem gX4_move_X4_beginAct : GoodIn wsX4_move (wsV RX4 63 RX4 yX4_beginAct wsX4_beginAct) := goodIn_app (goodIn_of _ (by decide +kernel)) ggX4_move_X4_beginAct
set_option maxRecDepth 20000 in
theorem ggX4_move_X0_changeSide : GoodIn wsX4_move wsX0_changeSide := goodIn_r _ [65, 8, 47, 3, 4, 5, 6, 7, 75, 76, 77, 78] (by decide +kernel) (by decide +kernel)
set_option maxRecDepth 20000 in
theorem gX4_move_X0_changeSide : GoodIn wsX4_move (wsV RX4 84 RX0 yX0_changeSide wsX0_changeSide) := goodIn_app (goodIn_of _ (by decide +kernel)) ggX4_move_X0_changeSide
set_option maxRecDepth 20000 in
theorem ggX4_move_X0_sideOf : GoodIn wsX4_move wsX0_sideOf := goodIn_r _ [46, 8, 47, 3, 4, 5, 6, 7, 75, 76, 77, 78] (by decide +kernel) (by decide +kernel)
set_option maxRecDepth 20000 in
theorem gX4_move_X0_sideOf : GoodIn wsX4_move (wsV RX4 87 RX0 yX0_sideOf wsX0_sideOf) := goodIn_app (goodIn_of _ (by decide +kernel)) ggX4_move_X0_sideOf
theorem dX4_move_0 : decode cX4_move 0 = .ok (.aload_n 0, 1) := by decide +kernel
theorem dX4_move_1 : decode cX4_move 1 = .ok (.getfield 14, 3) := by decide +kernel
theorem dX4_move_4 : decode cX4_move 4 = .ok (.iload_n 1, 1) := by decide +kernel
theorem dX4_move_5 : decode cX4_move 5 = .ok (.invokevirtual 78, 3) := by decide +kernel
theorem dX4_move_8 : decode cX4_move 8 = .ok (.ifCond .ne 5, 3) := by decide +kernel
theorem dX4_move_11 : decode cX4_move 11 = .ok (.iconst (-1), 1) := by decide +kernel
theorem dX4_move_12 : decode cX4_move 12 = .ok (.ireturn, 1) := by decide +kernel
theorem dX4_move_13 : decode cX4_move 13 = .ok (.aload_n 0, 1) := by decide +kernel
theorem dX4_move_14 : decode cX4_move 14 = .ok (.invokevirtual 63, 3) := by decide +kernel
theorem dX4_move_17 : decode cX4_move 17 = .ok (.aload_n 0, 1) := by decide +kernel
theorem dX4_move_18 : decode cX4_move 18 = .ok (.getfield 14, 3) := by decide +kernel
theorem dX4_move_21 : decode cX4_move 21 = .ok (.iload_n 1, 1) := by decide +kernel
theorem dX4_move_22 : decode cX4_move 22 = .ok (.invokevirtual 84, 3) := by decide +kernel
theorem dX4_move_25 : decode cX4_move 25 = .ok (.aload_n 0, 1) := by decide +kernel
theorem dX4_move_26 : decode cX4_move 26 = .ok (.getfield 14, 3) := by decide +kernel
theorem dX4_move_29 : decode cX4_move 29 = .ok (.iload_n 1, 1) := by decide +kernel
theorem dX4_move_30 : decode cX4_move 30 = .ok (.invokevirtual 87, 3) := by decide +kernel
theorem dX4_move_33 : decode cX4_move 33 = .ok (.ireturn, 1) := by decide +kernel
set_option maxRecDepth 20000 in
theorem ggX4_exchange_X0_size : GoodIn wsX4_exchange wsX0_size := goodIn_r _ [6, 7, 80, 81, 82, 83] (by decide +kernel) (by decide +kernel)
set_option maxRecDepth 20000 in
theorem gX4_exchange_X0_size : GoodIn wsX4_exchange (wsV RX4 59 RX0 yX0_size wsX0_size) := goodIn_app (goodIn_of _ (by decide +kernel)) ggX4_exchange_X0_size
set_option maxRecDepth 20000 in
theorem ggX4_exchange_X4_beginAct : GoodIn wsX4_exchange wsX4_beginAct := goodIn_r _ [12, 13, 1, 14, 15, 16, 17, 18, 19, 20, 21, 22, 23, 24, 25, 26, 27, 28, 5, 29, 30, 31, 32, 33, 7, 34, 35, 36, 37, 38, 3, 4, 6, 39, 40, 41, 42, 43, 44, 45, 46, 47, 48, 49, 50, 51, 52, 53, 54, 55, 56, 57, 58, 59, 60, 61, 72, 73, 74, 75, 76, 77, 78, 79, 84, 85, 80, 81, 82, 83] (by decide +kernel) (by decide +kernel)
set_option maxRecDepth 20000 in
theorem gX4_exchange_X4_beginAct : GoodIn wsX4_exchange (wsV RX4 63 RX4 yX4_beginAct wsX4_beginAct) := goodIn_app (goodIn_of _ (by decide +kernel)) ggX4_exchange_X4_beginAct
set_option maxRecDepth 20000 in
theorem ggX4_exchange_X0_changeSide : GoodIn wsX4_exchange wsX0_changeSide := goodIn_r _ [65, 43, 44, 45, 46, 5, 47, 7, 80, 81, 82, 83] (by decide +kernel) (by decide +kernel)
set_option maxRecDepth 20000 in
theorem gX4_exchange_X0_changeSide : GoodIn wsX4_exchange (wsV RX4 84 RX0 yX0_changeSide wsX0_changeSide) := goodIn_app (goodIn_of _ (by decide +kernel)) ggX4_exchange_X0_changeSide
set_option maxRecDepth 20000 in
theorem ggX4_exchange_X0_sizeOfSide : GoodIn wsX4_exchange wsX0_sizeOfSide := goodIn_r _ [69, 7, 39, 40, 41, 5, 42, 43, 44, 45, 46, 47, 70, 11, 71, 80, 81, 82, 83] (by decide +kernel) (by decide +kernel)
set_option maxRecDepth 20000 in
theorem gX4_exchange_X0_sizeOfSide : GoodIn wsX4_exchange (wsV RX4 91 RX0 yX0_sizeOfSide wsX0_sizeOfSide) := goodIn_app (goodIn_of _ (by decide +kernel)) ggX4_exchange_X0_sizeOfSide
theorem dX4_exchange_0 : decode cX4_exchange 0 = .ok (.aload_n 0, 1) := by decide +kernel
theorem dX4_exchange_1 : decode cX4_exchange 1 = .ok (.getfield 14, 3) := by decide +kernel
theorem dX4_exchange_4 : decode cX4_exchange 4 = .ok (.invokevirtual 59, 3) := by decide +kernel
theorem dX4_exchange_7 : decode cX4_exchange 7 = .ok (.ifCond .ne 6, 3) := by decide +kernel
theorem dX4_exchange_10 : decode cX4_exchange 10 = .ok (.bipush (-5), 2) := by decide +kernel
theorem dX4_exchange_12 : decode cX4_exchange 12 = .ok (.ireturn, 1) := by decide +kernel
theorem dX4_exchange_13 : decode cX4_exchange 13 = .ok (.aload_n 0, 1) := by decide +kernel
theorem dX4_exchange_14 : decode cX4_exchange 14 = .ok (.invokevirtual 63, 3) := by decide +kernel
theorem dX4_exchange_17 : decode cX4_exchange 17 = .ok (.iconst 0, 1) := by decide +kernel
theorem dX4_exchange_18 : decode cX4_exchange 18 = .ok (.istore_n 1, 1) := by decide +kernel
theorem dX4_exchange_19 : decode cX4_exchange 19 = .ok (.iload_n 1, 1) := by decide +kernel
theorem dX4_exchange_20 : decode cX4_exchange 20 = .ok (.aload_n 0, 1) := by decide +kernel
theorem dX4_exchange_21 : decode cX4_exchange 21 = .ok (.getfield 14, 3) := by decide +kernel
theorem dX4_exchange_24 : decode cX4_exchange 24 = .ok (.invokevirtual 59, 3) := by decide +kernel
theorem dX4_exchange_27 : decode cX4_exchange 27 = .ok (.if_icmp .ge 17, 3) := by decide +kernel
theorem dX4_exchange_30 : decode cX4_exchange 30 = .ok (.aload_n 0, 1) := by decide +kernel
theorem dX4_exchange_31 : decode cX4_exchange 31 = .ok (.getfield 14, 3) := by decide +kernel
theorem dX4_exchange_34 : decode cX4_exchange 34 = .ok (.iload_n 1, 1) := by decide +kernel
theorem dX4_exchange_35 : decode cX4_exchange 35 = .ok (.invokevirtual 84, 3) := by decide +kernel
theorem dX4_exchange_38 : decode cX4_exchange 38 = .ok (.iinc 1 1, 3) := by decide +kernel
theorem dX4_exchange_41 : decode cX4_exchange 41 = .ok (.goto (-22), 3) := by decide +kernel
theorem dX4_exchange_44 : decode cX4_exchange 44 = .ok (.aload_n 0, 1) := by decide +kernel
theorem dX4_exchange_45 : decode cX4_exchange 45 = .ok (.getfield 14, 3) := by decide +kernel
theorem dX4_exchange_48 : decode cX4_exchange 48 = .ok (.iconst 0, 1) := by decide +kernel
theorem dX4_exchange_49 : decode cX4_exchange 49 = .ok (.invokevirtual 91, 3) := by decide +kernel
theorem dX4_exchange_52 : decode cX4_exchange 52 = .ok (.ireturn, 1) := by decide +kernel
set_option maxRecDepth 20000 in
theorem ggX4_shrink_X4_currentProof : GoodIn wsX4_shrink wsX4_currentProof := goodIn_r _ [6, 7, 8, 1, 9, 10, 11, 12, 13, 14, 15, 16, 17, 18, 19, 20, 21, 22, 23, 24, 25, 26, 27, 28, 29, 30, 31, 32, 33, 34, 35, 36, 37, 38, 39, 40, 41, 42, 43, 44, 45, 46, 47, 48, 49, 50, 51, 52, 53, 54, 55, 56, 57, 5, 58, 59, 60, 61, 62, 63, 64, 65, 66, 67, 68, 69, 70, 71, 72, 73, 74, 75, 76, 77, 78, 79, 80, 81, 82, 83, 84, 85, 86, 87, 88, 89, 90, 91, 92, 93, 94, 95, 96, 97, 98, 99, 100, 101, 102, 103, 104, 105, 106, 107, 108, 109, 110, 111, 112, 113, 114, 115, 116, 117, 118, 119, 120, 121, 122, 123, 124, 125, 126, 127, 128, 129, 130, 131, 132, 133, 134, 135, 136, 137, 187, 188, 189, 190, 191, 192, 193, 194, 195, 196, 197, 198, 199, 200, 201, 202, 203, 204, 205, 206, 207, 208, 209, 210, 211, 212] (by decide +kernel) (by decide +kernel)
set_option maxRecDepth 20000 in
theorem gX4_shrink_X4_currentProof : GoodIn wsX4_shrink (wsV RX4 94 RX4 yX4_currentProof wsX4_currentProof) := goodIn_app (goodIn_of _ (by decide +kernel)) ggX4_shrink_X4_currentProof
set_option maxRecDepth 20000 in
theorem ggX4_shrink_X2_hasEmptyClause : GoodIn wsX4_shrink wsX2_hasEmptyClause := goodIn_r _ [141, 16, 195, 196, 197, 198, 199, 200, 201, 202, 203, 204, 205, 206, 207, 208] (by decide +kernel) (by decide +kernel)
set_option maxRecDepth 20000 in
theorem gX4_shrink_X2_hasEmptyClause : GoodIn wsX4_shrink (wsV RX4 98 RX2 yX2_hasEmptyClause wsX2_hasEmptyClause) := goodIn_app (goodIn_of _ (by decide +kernel)) ggX4_shrink_X2_hasEmptyClause
set_option maxRecDepth 20000 in
theorem ggX4_shrink_X0_size : GoodIn wsX4_shrink wsX0_size := goodIn_r _ [48, 25, 209, 210, 211, 212] (by decide +kernel) (by decide +kernel)
set_option maxRecDepth 20000 in
theorem gX4_shrink_X0_size : GoodIn wsX4_shrink (wsV RX4 59 RX0 yX0_size wsX0_size) := goodIn_app (goodIn_of _ (by decide +kernel)) ggX4_shrink_X0_size
set_option maxRecDepth 20000 in
theorem ggX4_shrink_X2_neededAmong : GoodIn wsX4_shrink wsX2_neededAmong := goodIn_r _ [146, 14, 126, 127, 128, 12, 129, 78, 98, 99, 100, 101, 147, 5, 148, 195, 196, 197, 198, 199, 200, 201, 202, 203, 204, 205, 206, 207, 208] (by decide +kernel) (by decide +kernel)
set_option maxRecDepth 20000 in
theorem gX4_shrink_X2_neededAmong : GoodIn wsX4_shrink (wsV RX4 102 RX2 yX2_neededAmong wsX2_neededAmong) := goodIn_app (goodIn_of _ (by decide +kernel)) ggX4_shrink_X2_neededAmong
set_option maxRecDepth 20000 in
theorem ggX4_shrink_X4_beginAct : GoodIn wsX4_shrink wsX4_beginAct := goodIn_r _ [152, 153, 1, 7, 154, 155, 156, 157, 158, 159, 160, 161, 162, 163, 164, 165, 166, 167, 23, 168, 169, 170, 171, 172, 25, 173, 174, 175, 176, 177, 46, 47, 48, 26, 27, 28, 29, 30, 31, 32, 33, 34, 35, 36, 37, 38, 39, 40, 41, 42, 43, 44, 178, 179, 180, 181, 187, 188, 189, 190, 191, 192, 193, 194, 213, 214, 209, 210, 211, 212] (by decide +kernel) (by decide +kernel)
set_option maxRecDepth 20000 in
theorem gX4_shrink_X4_beginAct : GoodIn wsX4_shrink (wsV RX4 63 RX4 yX4_beginAct wsX4_beginAct) := goodIn_app (goodIn_of _ (by decide +kernel)) ggX4_shrink_X4_beginAct
set_option maxRecDepth 20000 in
theorem ggX4_shrink_X2_isNeeded : GoodIn wsX4_shrink wsX2_isNeeded := goodIn_r _ [129, 78, 98, 99, 100, 12, 101, 14, 195, 196, 197, 198, 199, 200, 201, 202, 203, 204, 205, 206, 207, 208] (by decide +kernel) (by decide +kernel)
set_option maxRecDepth 20000 in
theorem gX4_shrink_X2_isNeeded : GoodIn wsX4_shrink (wsV RX4 105 RX2 yX2_isNeeded wsX2_isNeeded) := goodIn_app (goodIn_of _ (by decide +kernel)) ggX4_shrink_X2_isNeeded
set_option maxRecDepth 20000 in
theorem ggX4_shrink_X0_drop : GoodIn wsX4_shrink wsX0_drop := goodIn_r _ [186, 25, 30, 39, 44, 31, 32, 33, 23, 34, 209, 210, 211, 212] (by decide +kernel) (by decide +kernel)
set_option maxRecDepth 20000 in
theorem gX4_shrink_X0_drop : GoodIn wsX4_shrink (wsV RX4 81 RX0 yX0_drop wsX0_drop) := goodIn_app (goodIn_of _ (by decide +kernel)) ggX4_shrink_X0_drop
theorem dX4_shrink_0 : decode cX4_shrink 0 = .ok (.aload_n 0, 1) := by decide +kernel
theorem dX4_shrink_1 : decode cX4_shrink 1 = .ok (.invokevirtual 94, 3) := by decide +kernel
theorem dX4_shrink_4 : decode cX4_shrink 4 = .ok (.astore_n 1, 1) := by decide +kernel
theorem dX4_shrink_5 : decode cX4_shrink 5 = .ok (.aload_n 1, 1) := by decide +kernel
theorem dX4_shrink_6 : decode cX4_shrink 6 = .ok (.invokevirtual 98, 3) := by decide +kernel
theorem dX4_shrink_9 : decode cX4_shrink 9 = .ok (.ifCond .ne 6, 3) := by decide +kernel
theorem dX4_shrink_12 : decode cX4_shrink 12 = .ok (.bipush (-4), 2) := by decide +kernel
theorem dX4_shrink_14 : decode cX4_shrink 14 = .ok (.ireturn, 1) := by decide +kernel
theorem dX4_shrink_15 : decode cX4_shrink 15 = .ok (.aload_n 1, 1) := by decide +kernel
theorem dX4_shrink_16 : decode cX4_shrink 16 = .ok (.aload_n 0, 1) := by decide +kernel
theorem dX4_shrink_17 : decode cX4_shrink 17 = .ok (.getfield 14, 3) := by decide +kernel
theorem dX4_shrink_20 : decode cX4_shrink 20 = .ok (.invokevirtual 59, 3) := by decide +kernel
theorem dX4_shrink_23 : decode cX4_shrink 23 = .ok (.invokevirtual 102, 3) := by decide +kernel
theorem dX4_shrink_26 : decode cX4_shrink 26 = .ok (.aload_n 0, 1) := by decide +kernel
theorem dX4_shrink_27 : decode cX4_shrink 27 = .ok (.getfield 14, 3) := by decide +kernel
theorem dX4_shrink_30 : decode cX4_shrink 30 = .ok (.invokevirtual 59, 3) := by decide +kernel
theorem dX4_shrink_33 : decode cX4_shrink 33 = .ok (.if_icmp .ne 6, 3) := by decide +kernel
theorem dX4_shrink_36 : decode cX4_shrink 36 = .ok (.bipush (-5), 2) := by decide +kernel
theorem dX4_shrink_38 : decode cX4_shrink 38 = .ok (.ireturn, 1) := by decide +kernel
theorem dX4_shrink_39 : decode cX4_shrink 39 = .ok (.aload_n 0, 1) := by decide +kernel
theorem dX4_shrink_40 : decode cX4_shrink 40 = .ok (.invokevirtual 63, 3) := by decide +kernel
theorem dX4_shrink_43 : decode cX4_shrink 43 = .ok (.aload_n 0, 1) := by decide +kernel
theorem dX4_shrink_44 : decode cX4_shrink 44 = .ok (.getfield 14, 3) := by decide +kernel
theorem dX4_shrink_47 : decode cX4_shrink 47 = .ok (.invokevirtual 59, 3) := by decide +kernel
theorem dX4_shrink_50 : decode cX4_shrink 50 = .ok (.iconst 1, 1) := by decide +kernel
theorem dX4_shrink_51 : decode cX4_shrink 51 = .ok (.isub, 1) := by decide +kernel
theorem dX4_shrink_52 : decode cX4_shrink 52 = .ok (.istore_n 2, 1) := by decide +kernel
theorem dX4_shrink_53 : decode cX4_shrink 53 = .ok (.iload_n 2, 1) := by decide +kernel
theorem dX4_shrink_54 : decode cX4_shrink 54 = .ok (.ifCond .lt 25, 3) := by decide +kernel
theorem dX4_shrink_57 : decode cX4_shrink 57 = .ok (.aload_n 1, 1) := by decide +kernel
theorem dX4_shrink_58 : decode cX4_shrink 58 = .ok (.iload_n 2, 1) := by decide +kernel
theorem dX4_shrink_59 : decode cX4_shrink 59 = .ok (.invokevirtual 105, 3) := by decide +kernel
theorem dX4_shrink_62 : decode cX4_shrink 62 = .ok (.ifCond .ne 11, 3) := by decide +kernel
theorem dX4_shrink_65 : decode cX4_shrink 65 = .ok (.aload_n 0, 1) := by decide +kernel
theorem dX4_shrink_66 : decode cX4_shrink 66 = .ok (.getfield 14, 3) := by decide +kernel
theorem dX4_shrink_69 : decode cX4_shrink 69 = .ok (.iload_n 2, 1) := by decide +kernel
theorem dX4_shrink_70 : decode cX4_shrink 70 = .ok (.invokevirtual 81, 3) := by decide +kernel
theorem dX4_shrink_73 : decode cX4_shrink 73 = .ok (.iinc 2 (-1), 3) := by decide +kernel
theorem dX4_shrink_76 : decode cX4_shrink 76 = .ok (.goto (-23), 3) := by decide +kernel
theorem dX4_shrink_79 : decode cX4_shrink 79 = .ok (.aload_n 0, 1) := by decide +kernel
theorem dX4_shrink_80 : decode cX4_shrink 80 = .ok (.getfield 14, 3) := by decide +kernel
theorem dX4_shrink_83 : decode cX4_shrink 83 = .ok (.invokevirtual 59, 3) := by decide +kernel
theorem dX4_shrink_86 : decode cX4_shrink 86 = .ok (.ireturn, 1) := by decide +kernel
set_option maxRecDepth 20000 in
theorem ggX4_type_X3_append : GoodIn wsX4_type wsX3_append := goodIn_r _ [6, 7, 8, 21, 22, 23, 24, 25, 26, 27] (by decide +kernel) (by decide +kernel)
set_option maxRecDepth 20000 in
theorem gX4_type_X3_append : GoodIn wsX4_type (wsV RX4 108 RX3 yX3_append wsX3_append) := goodIn_app (goodIn_of _ (by decide +kernel)) ggX4_type_X3_append
set_option maxRecDepth 20000 in
theorem ggX4_type_X3_length : GoodIn wsX4_type wsX3_length := goodIn_r _ [12, 7, 21, 22, 23, 24, 25, 26, 27] (by decide +kernel) (by decide +kernel)
set_option maxRecDepth 20000 in
theorem gX4_type_X3_length : GoodIn wsX4_type (wsV RX4 111 RX3 yX3_length wsX3_length) := goodIn_app (goodIn_of _ (by decide +kernel)) ggX4_type_X3_length
theorem dX4_type_0 : decode cX4_type 0 = .ok (.aload_n 0, 1) := by decide +kernel
theorem dX4_type_1 : decode cX4_type 1 = .ok (.getfield 38, 3) := by decide +kernel
theorem dX4_type_4 : decode cX4_type 4 = .ok (.iload_n 1, 1) := by decide +kernel
theorem dX4_type_5 : decode cX4_type 5 = .ok (.invokevirtual 108, 3) := by decide +kernel
theorem dX4_type_8 : decode cX4_type 8 = .ok (.ifCond .eq 13, 3) := by decide +kernel
theorem dX4_type_11 : decode cX4_type 11 = .ok (.aload_n 0, 1) := by decide +kernel
theorem dX4_type_12 : decode cX4_type 12 = .ok (.getfield 38, 3) := by decide +kernel
theorem dX4_type_15 : decode cX4_type 15 = .ok (.invokevirtual 111, 3) := by decide +kernel
theorem dX4_type_18 : decode cX4_type 18 = .ok (.goto 5, 3) := by decide +kernel
theorem dX4_type_21 : decode cX4_type 21 = .ok (.bipush (-3), 2) := by decide +kernel
theorem dX4_type_23 : decode cX4_type 23 = .ok (.ireturn, 1) := by decide +kernel
set_option maxRecDepth 20000 in
theorem ggX4_clearText_X3_length : GoodIn wsX4_clearText wsX3_length := goodIn_r _ [6, 7, 20, 21, 22, 23, 24, 25, 26] (by decide +kernel) (by decide +kernel)
set_option maxRecDepth 20000 in
theorem gX4_clearText_X3_length : GoodIn wsX4_clearText (wsV RX4 111 RX3 yX3_length wsX3_length) := goodIn_app (goodIn_of _ (by decide +kernel)) ggX4_clearText_X3_length
set_option maxRecDepth 20000 in
theorem ggX4_clearText_X3_clear : GoodIn wsX4_clearText wsX3_clear := goodIn_r _ [11, 7, 20, 21, 22, 23, 24, 25, 26] (by decide +kernel) (by decide +kernel)
set_option maxRecDepth 20000 in
theorem gX4_clearText_X3_clear : GoodIn wsX4_clearText (wsV RX4 114 RX3 yX3_clear wsX3_clear) := goodIn_app (goodIn_of _ (by decide +kernel)) ggX4_clearText_X3_clear
theorem dX4_clearText_0 : decode cX4_clearText 0 = .ok (.aload_n 0, 1) := by decide +kernel
theorem dX4_clearText_1 : decode cX4_clearText 1 = .ok (.getfield 38, 3) := by decide +kernel
theorem dX4_clearText_4 : decode cX4_clearText 4 = .ok (.invokevirtual 111, 3) := by decide +kernel
theorem dX4_clearText_7 : decode cX4_clearText 7 = .ok (.istore_n 1, 1) := by decide +kernel
theorem dX4_clearText_8 : decode cX4_clearText 8 = .ok (.aload_n 0, 1) := by decide +kernel
theorem dX4_clearText_9 : decode cX4_clearText 9 = .ok (.getfield 38, 3) := by decide +kernel
theorem dX4_clearText_12 : decode cX4_clearText 12 = .ok (.invokevirtual 114, 3) := by decide +kernel
theorem dX4_clearText_15 : decode cX4_clearText 15 = .ok (.iload_n 1, 1) := by decide +kernel
theorem dX4_clearText_16 : decode cX4_clearText 16 = .ok (.ireturn, 1) := by decide +kernel
set_option maxRecDepth 20000 in
theorem ggX4_undo_X1_size : GoodIn wsX4_undo wsX1_size := goodIn_r _ [8, 9, 64, 65] (by decide +kernel) (by decide +kernel)
set_option maxRecDepth 20000 in
theorem gX4_undo_X1_size : GoodIn wsX4_undo (wsV RX4 117 RX1 yX1_size wsX1_size) := goodIn_app (goodIn_of _ (by decide +kernel)) ggX4_undo_X1_size
set_option maxRecDepth 20000 in
theorem ggX4_undo_X1_takeLatestInto : GoodIn wsX4_undo wsX1_takeLatestInto := goodIn_r _ [13, 9, 14, 15, 16, 17, 18, 19, 20, 21, 22, 23, 24, 25, 26, 27, 28, 29, 30, 31, 32, 33, 34, 35, 36, 37, 38, 39, 40, 41, 42, 43, 44, 45, 46, 47, 48, 49, 50, 51, 52, 53, 54, 55, 64, 65, 66, 67, 68, 69] (by decide +kernel) (by decide +kernel)
set_option maxRecDepth 20000 in
theorem gX4_undo_X1_takeLatestInto : GoodIn wsX4_undo (wsV RX4 118 RX1 yX1_takeLatestInto wsX1_takeLatestInto) := goodIn_app (goodIn_of _ (by decide +kernel)) ggX4_undo_X1_takeLatestInto
theorem dX4_undo_0 : decode cX4_undo 0 = .ok (.aload_n 0, 1) := by decide +kernel
theorem dX4_undo_1 : decode cX4_undo 1 = .ok (.getfield 31, 3) := by decide +kernel
theorem dX4_undo_4 : decode cX4_undo 4 = .ok (.invokevirtual 117, 3) := by decide +kernel
theorem dX4_undo_7 : decode cX4_undo 7 = .ok (.ifCond .ne 6, 3) := by decide +kernel
theorem dX4_undo_10 : decode cX4_undo 10 = .ok (.bipush (-5), 2) := by decide +kernel
theorem dX4_undo_12 : decode cX4_undo 12 = .ok (.ireturn, 1) := by decide +kernel
theorem dX4_undo_13 : decode cX4_undo 13 = .ok (.aload_n 0, 1) := by decide +kernel
theorem dX4_undo_14 : decode cX4_undo 14 = .ok (.getfield 31, 3) := by decide +kernel
theorem dX4_undo_17 : decode cX4_undo 17 = .ok (.aload_n 0, 1) := by decide +kernel
theorem dX4_undo_18 : decode cX4_undo 18 = .ok (.getfield 14, 3) := by decide +kernel
theorem dX4_undo_21 : decode cX4_undo 21 = .ok (.invokevirtual 118, 3) := by decide +kernel
theorem dX4_undo_24 : decode cX4_undo 24 = .ok (.aload_n 0, 1) := by decide +kernel
theorem dX4_undo_25 : decode cX4_undo 25 = .ok (.iconst 0, 1) := by decide +kernel
theorem dX4_undo_26 : decode cX4_undo 26 = .ok (.putfield 49, 3) := by decide +kernel
theorem dX4_undo_29 : decode cX4_undo 29 = .ok (.aload_n 0, 1) := by decide +kernel
theorem dX4_undo_30 : decode cX4_undo 30 = .ok (.getfield 31, 3) := by decide +kernel
theorem dX4_undo_33 : decode cX4_undo 33 = .ok (.invokevirtual 117, 3) := by decide +kernel
theorem dX4_undo_36 : decode cX4_undo 36 = .ok (.ireturn, 1) := by decide +kernel
set_option maxRecDepth 20000 in
theorem ggX4_keep_X0_becomeLike : GoodIn wsX4_keep wsX0_becomeLike := goodIn_r _ [8, 9, 10, 11, 7, 12, 13, 14, 15, 16, 17, 18, 19, 20, 21, 22, 23, 24, 25, 26, 27, 28, 29, 30, 31, 32, 33, 34, 35, 36, 37, 38, 39, 40, 41, 42, 43, 44, 54, 55, 56, 57] (by decide +kernel) (by decide +kernel)
set_option maxRecDepth 20000 in
theorem gX4_keep_X0_becomeLike : GoodIn wsX4_keep (wsV RX4 121 RX0 yX0_becomeLike wsX0_becomeLike) := goodIn_app (goodIn_of _ (by decide +kernel)) ggX4_keep_X0_becomeLike
set_option maxRecDepth 20000 in
theorem ggX4_keep_X0_size : GoodIn wsX4_keep wsX0_size := goodIn_r _ [21, 13, 54, 55, 56, 57] (by decide +kernel) (by decide +kernel)
set_option maxRecDepth 20000 in
theorem gX4_keep_X0_size : GoodIn wsX4_keep (wsV RX4 59 RX0 yX0_size wsX0_size) := goodIn_app (goodIn_of _ (by decide +kernel)) ggX4_keep_X0_size
theorem dX4_keep_0 : decode cX4_keep 0 = .ok (.aload_n 0, 1) := by decide +kernel
theorem dX4_keep_1 : decode cX4_keep 1 = .ok (.getfield 21, 3) := by decide +kernel
theorem dX4_keep_4 : decode cX4_keep 4 = .ok (.aload_n 0, 1) := by decide +kernel
theorem dX4_keep_5 : decode cX4_keep 5 = .ok (.getfield 14, 3) := by decide +kernel
theorem dX4_keep_8 : decode cX4_keep 8 = .ok (.invokevirtual 121, 3) := by decide +kernel
theorem dX4_keep_11 : decode cX4_keep 11 = .ok (.aload_n 0, 1) := by decide +kernel
theorem dX4_keep_12 : decode cX4_keep 12 = .ok (.iconst 1, 1) := by decide +kernel
theorem dX4_keep_13 : decode cX4_keep 13 = .ok (.putfield 24, 3) := by decide +kernel
theorem dX4_keep_16 : decode cX4_keep 16 = .ok (.aload_n 0, 1) := by decide +kernel
theorem dX4_keep_17 : decode cX4_keep 17 = .ok (.getfield 14, 3) := by decide +kernel
theorem dX4_keep_20 : decode cX4_keep 20 = .ok (.invokevirtual 59, 3) := by decide +kernel
theorem dX4_keep_23 : decode cX4_keep 23 = .ok (.ireturn, 1) := by decide +kernel
set_option maxRecDepth 20000 in
theorem ggX4_restore_X4_beginAct : GoodIn wsX4_restore wsX4_beginAct := goodIn_r _ [8, 9, 2, 10, 11, 12, 13, 14, 15, 16, 17, 18, 19, 20, 21, 22, 23, 24, 25, 26, 27, 28, 29, 30, 31, 32, 33, 34, 35, 36, 37, 38, 39, 40, 41, 42, 43, 44, 45, 46, 47, 48, 49, 50, 51, 52, 53, 54, 55, 56, 57, 58, 59, 60, 61, 62, 65, 66, 67, 68, 69, 70, 71, 72, 73, 74, 75, 76, 77, 78] (by decide +kernel) (by decide +kernel)
set_option maxRecDepth 20000 in
theorem gX4_restore_X4_beginAct : GoodIn wsX4_restore (wsV RX4 63 RX4 yX4_beginAct wsX4_beginAct) := goodIn_app (goodIn_of _ (by decide +kernel)) ggX4_restore_X4_beginAct
set_option maxRecDepth 20000 in
theorem ggX4_restore_X0_becomeLike : GoodIn wsX4_restore wsX0_becomeLike := goodIn_r _ [26, 27, 28, 29, 25, 30, 31, 32, 33, 34, 35, 36, 37, 38, 39, 40, 41, 42, 43, 44, 45, 46, 47, 48, 49, 50, 51, 52, 53, 54, 55, 56, 57, 58, 59, 60, 61, 62, 75, 76, 77, 78] (by decide +kernel) (by decide +kernel)
set_option maxRecDepth 20000 in
theorem gX4_restore_X0_becomeLike : GoodIn wsX4_restore (wsV RX4 121 RX0 yX0_becomeLike wsX0_becomeLike) := goodIn_app (goodIn_of _ (by decide +kernel)) ggX4_restore_X0_becomeLike
set_option maxRecDepth 20000 in
theorem ggX4_restore_X0_size : GoodIn wsX4_restore wsX0_size := goodIn_r _ [39, 31, 75, 76, 77, 78] (by decide +kernel) (by decide +kernel)
set_option maxRecDepth 20000 in
theorem gX4_restore_X0_size : GoodIn wsX4_restore (wsV RX4 59 RX0 yX0_size wsX0_size) := goodIn_app (goodIn_of _ (by decide +kernel)) ggX4_restore_X0_size
theorem dX4_restore_0 : decode cX4_restore 0 = .ok (.aload_n 0, 1) := by decide +kernel
theorem dX4_restore_1 : decode cX4_restore 1 = .ok (.getfield 24, 3) := by decide +kernel
theorem dX4_restore_4 : decode cX4_restore 4 = .ok (.ifCond .ne 6, 3) := by decide +kernel
theorem dX4_restore_7 : decode cX4_restore 7 = .ok (.bipush (-5), 2) := by decide +kernel
theorem dX4_restore_9 : decode cX4_restore 9 = .ok (.ireturn, 1) := by decide +kernel
theorem dX4_restore_10 : decode cX4_restore 10 = .ok (.aload_n 0, 1) := by decide +kernel
theorem dX4_restore_11 : decode cX4_restore 11 = .ok (.invokevirtual 63, 3) := by decide +kernel
theorem dX4_restore_14 : decode cX4_restore 14 = .ok (.aload_n 0, 1) := by decide +kernel
theorem dX4_restore_15 : decode cX4_restore 15 = .ok (.getfield 14, 3) := by decide +kernel
theorem dX4_restore_18 : decode cX4_restore 18 = .ok (.aload_n 0, 1) := by decide +kernel
theorem dX4_restore_19 : decode cX4_restore 19 = .ok (.getfield 21, 3) := by decide +kernel
theorem dX4_restore_22 : decode cX4_restore 22 = .ok (.invokevirtual 121, 3) := by decide +kernel
theorem dX4_restore_25 : decode cX4_restore 25 = .ok (.aload_n 0, 1) := by decide +kernel
theorem dX4_restore_26 : decode cX4_restore 26 = .ok (.getfield 14, 3) := by decide +kernel
theorem dX4_restore_29 : decode cX4_restore 29 = .ok (.invokevirtual 59, 3) := by decide +kernel
theorem dX4_restore_32 : decode cX4_restore 32 = .ok (.ireturn, 1) := by decide +kernel
set_option maxRecDepth 20000 in
theorem ggX4_clause_X0_has : GoodIn wsX4_clause wsX0_has := goodIn_r _ [6, 7, 8, 165, 166, 167, 168] (by decide +kernel) (by decide +kernel)
set_option maxRecDepth 20000 in
theorem gX4_clause_X0_has : GoodIn wsX4_clause (wsV RX4 78 RX0 yX0_has wsX0_has) := goodIn_app (goodIn_of _ (by decide +kernel)) ggX4_clause_X0_has
set_option maxRecDepth 20000 in
theorem ggX4_clause_X0_sideOf : GoodIn wsX4_clause wsX0_sideOf := goodIn_r _ [12, 8, 13, 3, 4, 5, 6, 7, 165, 166, 167, 168] (by decide +kernel) (by decide +kernel)
set_option maxRecDepth 20000 in
theorem gX4_clause_X0_sideOf : GoodIn wsX4_clause (wsV RX4 87 RX0 yX0_sideOf wsX0_sideOf) := goodIn_app (goodIn_of _ (by decide +kernel)) ggX4_clause_X0_sideOf
set_option maxRecDepth 20000 in
theorem ggX4_clause_X0_signsOf : GoodIn wsX4_clause wsX0_signsOf := goodIn_r _ [17, 18, 13, 3, 4, 5, 6, 7, 8, 165, 166, 167, 168] (by decide +kernel) (by decide +kernel)
set_option maxRecDepth 20000 in
theorem gX4_clause_X0_signsOf : GoodIn wsX4_clause (wsV RX4 124 RX0 yX0_signsOf wsX0_signsOf) := goodIn_app (goodIn_of _ (by decide +kernel)) ggX4_clause_X0_signsOf
set_option maxRecDepth 20000 in
theorem ggX4_clause_X0_oppositesOf : GoodIn wsX4_clause wsX0_oppositesOf := goodIn_r _ [22, 23, 13, 3, 4, 5, 6, 7, 8, 165, 166, 167, 168] (by decide +kernel) (by decide +kernel)
set_option maxRecDepth 20000 in
theorem gX4_clause_X0_oppositesOf : GoodIn wsX4_clause (wsV RX4 127 RX0 yX0_oppositesOf wsX0_oppositesOf) := goodIn_app (goodIn_of _ (by decide +kernel)) ggX4_clause_X0_oppositesOf
set_option maxRecDepth 20000 in
theorem ggX4_clause_X0_worldsOf : GoodIn wsX4_clause wsX0_worldsOf := goodIn_r _ [27, 28, 15, 16, 5, 17, 18, 13, 3, 4, 6, 7, 8, 29, 20, 21, 22, 23, 30, 31, 32, 33, 34, 35, 36, 37, 38, 39, 40, 165, 166, 167, 168] (by decide +kernel) (by decide +kernel)
set_option maxRecDepth 20000 in
theorem gX4_clause_X0_worldsOf : GoodIn wsX4_clause (wsV RX4 130 RX0 yX0_worldsOf wsX0_worldsOf) := goodIn_app (goodIn_of _ (by decide +kernel)) ggX4_clause_X0_worldsOf
set_option maxRecDepth 20000 in
theorem ggX4_clause_J13_bitCount_95d88 : GoodIn wsX4_clause wsJ13_bitCount_95d88 := goodIn_r _ [44, 45, 46, 47] (by decide +kernel) (by decide +kernel)
set_option maxRecDepth 20000 in
theorem gX4_clause_J13_bitCount_95d88 : GoodIn wsX4_clause (va_wsS RX4 134 yJ13_bitCount_95d88 wsJ13_bitCount_95d88) := goodIn_app (goodIn_of _ (by decide +kernel)) ggX4_clause_J13_bitCount_95d88
set_option maxRecDepth 20000 in
theorem ggX4_clause_X4_currentProof : GoodIn wsX4_clause wsX4_currentProof := goodIn_r _ [51, 52, 53, 1, 54, 55, 56, 57, 58, 59, 60, 61, 62, 63, 64, 65, 66, 67, 5, 68, 7, 69, 10, 11, 12, 8, 13, 3, 4, 6, 28, 15, 16, 17, 18, 29, 20, 21, 22, 23, 70, 71, 72, 73, 74, 75, 76, 77, 78, 79, 80, 81, 30, 31, 32, 33, 34, 35, 36, 37, 38, 39, 40, 82, 83, 84, 85, 86, 87, 88, 89, 90, 91, 92, 93, 94, 95, 96, 97, 98, 99, 100, 101, 102, 103, 104, 105, 106, 107, 108, 109, 110, 111, 112, 113, 114, 115, 116, 117, 118, 119, 120, 121, 122, 123, 124, 125, 126, 127, 128, 129, 130, 131, 132, 133, 134, 135, 136, 137, 138, 139, 140, 141, 142, 143, 144, 145, 146, 147, 148, 149, 150, 151, 152, 157, 158, 159, 160, 161, 162, 163, 164, 169, 170, 171, 172, 173, 174, 175, 176, 177, 178, 179, 180, 181, 182, 165, 166, 167, 168] (by decide +kernel) (by decide +kernel)
set_option maxRecDepth 20000 in
theorem gX4_clause_X4_currentProof : GoodIn wsX4_clause (wsV RX4 94 RX4 yX4_currentProof wsX4_currentProof) := goodIn_app (goodIn_of _ (by decide +kernel)) ggX4_clause_X4_currentProof
set_option maxRecDepth 20000 in
theorem ggX4_clause_X2_isNeeded : GoodIn wsX4_clause wsX2_isNeeded := goodIn_r _ [144, 93, 113, 114, 115, 57, 116, 59, 169, 170, 171, 172, 173, 174, 175, 176, 177, 178, 179, 180, 181, 182] (by decide +kernel) (by decide +kernel)
set_option maxRecDepth 20000 in
theorem gX4_clause_X2_isNeeded : GoodIn wsX4_clause (wsV RX4 105 RX2 yX2_isNeeded wsX2_isNeeded) := goodIn_app (goodIn_of _ (by decide +kernel)) ggX4_clause_X2_isNeeded
set_option maxRecDepth 20000 in
theorem ggX4_clause_X4_asNumber : GoodIn wsX4_clause wsX4_asNumber := goodIn_r _ [156] (by decide +kernel) (by decide +kernel)
set_option maxRecDepth 20000 in
theorem gX4_clause_X4_asNumber : GoodIn wsX4_clause (va_wsS RX4 140 yX4_asNumber wsX4_asNumber) := goodIn_app (goodIn_of _ (by decide +kernel)) ggX4_clause_X4_asNumber
theorem dX4_clause_0 : decode cX4_clause 0 = .ok (.aload_n 0, 1) := by decide +kernel
theorem dX4_clause_1 : decode cX4_clause 1 = .ok (.getfield 14, 3) := by decide +kernel
theorem dX4_clause_4 : decode cX4_clause 4 = .ok (.iload_n 1, 1) := by decide +kernel
theorem dX4_clause_5 : decode cX4_clause 5 = .ok (.invokevirtual 78, 3) := by decide +kernel
theorem dX4_clause_8 : decode cX4_clause 8 = .ok (.ifCond .ne 5, 3) := by decide +kernel
theorem dX4_clause_11 : decode cX4_clause 11 = .ok (.iconst (-1), 1) := by decide +kernel
theorem dX4_clause_12 : decode cX4_clause 12 = .ok (.ireturn, 1) := by decide +kernel
theorem dX4_clause_13 : decode cX4_clause 13 = .ok (.iload_n 2, 1) := by decide +kernel
theorem dX4_clause_14 : decode cX4_clause 14 = .ok (.tableswitch 85 0 4 #[34, 43, 52, 61, 73], 34) := by decide +kernel
theorem dX4_clause_48 : decode cX4_clause 48 = .ok (.aload_n 0, 1) := by decide +kernel
theorem dX4_clause_49 : decode cX4_clause 49 = .ok (.getfield 14, 3) := by decide +kernel
theorem dX4_clause_52 : decode cX4_clause 52 = .ok (.iload_n 1, 1) := by decide +kernel
theorem dX4_clause_53 : decode cX4_clause 53 = .ok (.invokevirtual 87, 3) := by decide +kernel
theorem dX4_clause_56 : decode cX4_clause 56 = .ok (.ireturn, 1) := by decide +kernel
theorem dX4_clause_57 : decode cX4_clause 57 = .ok (.aload_n 0, 1) := by decide +kernel
theorem dX4_clause_58 : decode cX4_clause 58 = .ok (.getfield 14, 3) := by decide +kernel
theorem dX4_clause_61 : decode cX4_clause 61 = .ok (.iload_n 1, 1) := by decide +kernel
theorem dX4_clause_62 : decode cX4_clause 62 = .ok (.invokevirtual 124, 3) := by decide +kernel
theorem dX4_clause_65 : decode cX4_clause 65 = .ok (.ireturn, 1) := by decide +kernel
theorem dX4_clause_66 : decode cX4_clause 66 = .ok (.aload_n 0, 1) := by decide +kernel
theorem dX4_clause_67 : decode cX4_clause 67 = .ok (.getfield 14, 3) := by decide +kernel
theorem dX4_clause_70 : decode cX4_clause 70 = .ok (.iload_n 1, 1) := by decide +kernel
theorem dX4_clause_71 : decode cX4_clause 71 = .ok (.invokevirtual 127, 3) := by decide +kernel
theorem dX4_clause_74 : decode cX4_clause 74 = .ok (.ireturn, 1) := by decide +kernel
theorem dX4_clause_75 : decode cX4_clause 75 = .ok (.aload_n 0, 1) := by decide +kernel
theorem dX4_clause_76 : decode cX4_clause 76 = .ok (.getfield 14, 3) := by decide +kernel
theorem dX4_clause_79 : decode cX4_clause 79 = .ok (.iload_n 1, 1) := by decide +kernel
theorem dX4_clause_80 : decode cX4_clause 80 = .ok (.invokevirtual 130, 3) := by decide +kernel
theorem dX4_clause_83 : decode cX4_clause 83 = .ok (.invokestatic 134, 3) := by decide +kernel
theorem dX4_clause_86 : decode cX4_clause 86 = .ok (.ireturn, 1) := by decide +kernel
theorem dX4_clause_87 : decode cX4_clause 87 = .ok (.aload_n 0, 1) := by decide +kernel
theorem dX4_clause_88 : decode cX4_clause 88 = .ok (.invokevirtual 94, 3) := by decide +kernel
theorem dX4_clause_91 : decode cX4_clause 91 = .ok (.iload_n 1, 1) := by decide +kernel
theorem dX4_clause_92 : decode cX4_clause 92 = .ok (.invokevirtual 105, 3) := by decide +kernel
theorem dX4_clause_95 : decode cX4_clause 95 = .ok (.invokestatic 140, 3) := by decide +kernel
theorem dX4_clause_98 : decode cX4_clause 98 = .ok (.ireturn, 1) := by decide +kernel
theorem dX4_clause_99 : decode cX4_clause 99 = .ok (.bipush (-2), 2) := by decide +kernel
theorem dX4_clause_101 : decode cX4_clause 101 = .ok (.ireturn, 1) := by decide +kernel
set_option maxRecDepth 20000 in
theorem ggX4_side_X4_isZeroOrOne : GoodIn wsX4_side wsX4_isZeroOrOne := goodIn_r _ [5] (by decide +kernel) (by decide +kernel)
set_option maxRecDepth 20000 in
theorem gX4_side_X4_isZeroOrOne : GoodIn wsX4_side (va_wsS RX4 52 yX4_isZeroOrOne wsX4_isZeroOrOne) := goodIn_app (goodIn_of _ (by decide +kernel)) ggX4_side_X4_isZeroOrOne
set_option maxRecDepth 20000 in
theorem ggX4_side_X0_sizeOfSide : GoodIn wsX4_side wsX0_sizeOfSide := goodIn_r _ [10, 11, 12, 13, 14, 9, 15, 16, 17, 18, 19, 20, 21, 4, 22, 74, 75, 76, 77] (by decide +kernel) (by decide +kernel)
set_option maxRecDepth 20000 in
theorem gX4_side_X0_sizeOfSide : GoodIn wsX4_side (wsV RX4 91 RX0 yX0_sizeOfSide wsX0_sizeOfSide) := goodIn_app (goodIn_of _ (by decide +kernel)) ggX4_side_X0_sizeOfSide
set_option maxRecDepth 20000 in
theorem ggX4_side_X0_signsKnownTo : GoodIn wsX4_side wsX0_signsKnownTo := goodIn_r _ [26, 11, 12, 13, 14, 9, 15, 16, 17, 18, 19, 20, 27, 28, 29, 30, 31, 32, 33, 34, 35, 36, 74, 75, 76, 77] (by decide +kernel) (by decide +kernel)
set_option maxRecDepth 20000 in
theorem gX4_side_X0_signsKnownTo : GoodIn wsX4_side (wsV RX4 144 RX0 yX0_signsKnownTo wsX0_signsKnownTo) := goodIn_app (goodIn_of _ (by decide +kernel)) ggX4_side_X0_signsKnownTo
set_option maxRecDepth 20000 in
theorem ggX4_side_X0_worldsOfSide : GoodIn wsX4_side wsX0_worldsOfSide := goodIn_r _ [40, 41, 11, 12, 13, 14, 9, 15, 16, 17, 18, 19, 20, 42, 43, 44, 45, 27, 28, 29, 30, 31, 32, 33, 34, 35, 36, 46, 4, 47, 48, 49, 50, 51, 52, 53, 54, 55, 74, 75, 76, 77] (by decide +kernel) (by decide +kernel)
set_option maxRecDepth 20000 in
theorem gX4_side_X0_worldsOfSide : GoodIn wsX4_side (wsV RX4 147 RX0 yX0_worldsOfSide wsX0_worldsOfSide) := goodIn_app (goodIn_of _ (by decide +kernel)) ggX4_side_X0_worldsOfSide
set_option maxRecDepth 20000 in
theorem ggX4_side_J13_bitCount_95d88 : GoodIn wsX4_side wsJ13_bitCount_95d88 := goodIn_r _ [59, 60, 61, 62] (by decide +kernel) (by decide +kernel)
set_option maxRecDepth 20000 in
theorem gX4_side_J13_bitCount_95d88 : GoodIn wsX4_side (va_wsS RX4 134 yJ13_bitCount_95d88 wsJ13_bitCount_95d88) := goodIn_app (goodIn_of _ (by decide +kernel)) ggX4_side_J13_bitCount_95d88
set_option maxRecDepth 20000 in
theorem ggX4_side_X4_lowestWorld : GoodIn wsX4_side wsX4_lowestWorld := goodIn_r _ [65, 56, 57, 58, 59, 60, 61, 62] (by decide +kernel) (by decide +kernel)
set_option maxRecDepth 20000 in
theorem gX4_side_X4_lowestWorld : GoodIn wsX4_side (va_wsS RX4 150 yX4_lowestWorld wsX4_lowestWorld) := goodIn_app (goodIn_of _ (by decide +kernel)) ggX4_side_X4_lowestWorld
theorem dX4_side_0 : decode cX4_side 0 = .ok (.iload_n 1, 1) := by decide +kernel
theorem dX4_side_1 : decode cX4_side 1 = .ok (.invokestatic 52, 3) := by decide +kernel
theorem dX4_side_4 : decode cX4_side 4 = .ok (.ifCond .ne 5, 3) := by decide +kernel
theorem dX4_side_7 : decode cX4_side 7 = .ok (.iconst (-1), 1) := by decide +kernel
theorem dX4_side_8 : decode cX4_side 8 = .ok (.ireturn, 1) := by decide +kernel
theorem dX4_side_9 : decode cX4_side 9 = .ok (.iload_n 2, 1) := by decide +kernel
theorem dX4_side_10 : decode cX4_side 10 = .ok (.tableswitch 72 0 3 #[30, 39, 48, 60], 30) := by decide +kernel
theorem dX4_side_40 : decode cX4_side 40 = .ok (.aload_n 0, 1) := by decide +kernel
theorem dX4_side_41 : decode cX4_side 41 = .ok (.getfield 14, 3) := by decide +kernel
theorem dX4_side_44 : decode cX4_side 44 = .ok (.iload_n 1, 1) := by decide +kernel
theorem dX4_side_45 : decode cX4_side 45 = .ok (.invokevirtual 91, 3) := by decide +kernel
theorem dX4_side_48 : decode cX4_side 48 = .ok (.ireturn, 1) := by decide +kernel
theorem dX4_side_49 : decode cX4_side 49 = .ok (.aload_n 0, 1) := by decide +kernel
theorem dX4_side_50 : decode cX4_side 50 = .ok (.getfield 14, 3) := by decide +kernel
theorem dX4_side_53 : decode cX4_side 53 = .ok (.iload_n 1, 1) := by decide +kernel
theorem dX4_side_54 : decode cX4_side 54 = .ok (.invokevirtual 144, 3) := by decide +kernel
theorem dX4_side_57 : decode cX4_side 57 = .ok (.ireturn, 1) := by decide +kernel
theorem dX4_side_58 : decode cX4_side 58 = .ok (.aload_n 0, 1) := by decide +kernel
theorem dX4_side_59 : decode cX4_side 59 = .ok (.getfield 14, 3) := by decide +kernel
theorem dX4_side_62 : decode cX4_side 62 = .ok (.iload_n 1, 1) := by decide +kernel
theorem dX4_side_63 : decode cX4_side 63 = .ok (.invokevirtual 147, 3) := by decide +kernel
theorem dX4_side_66 : decode cX4_side 66 = .ok (.invokestatic 134, 3) := by decide +kernel
theorem dX4_side_69 : decode cX4_side 69 = .ok (.ireturn, 1) := by decide +kernel
theorem dX4_side_70 : decode cX4_side 70 = .ok (.aload_n 0, 1) := by decide +kernel
theorem dX4_side_71 : decode cX4_side 71 = .ok (.getfield 14, 3) := by decide +kernel
theorem dX4_side_74 : decode cX4_side 74 = .ok (.iload_n 1, 1) := by decide +kernel
theorem dX4_side_75 : decode cX4_side 75 = .ok (.invokevirtual 147, 3) := by decide +kernel
theorem dX4_side_78 : decode cX4_side 78 = .ok (.invokestatic 150, 3) := by decide +kernel
theorem dX4_side_81 : decode cX4_side 81 = .ok (.ireturn, 1) := by decide +kernel
theorem dX4_side_82 : decode cX4_side 82 = .ok (.bipush (-2), 2) := by decide +kernel
theorem dX4_side_84 : decode cX4_side 84 = .ok (.ireturn, 1) := by decide +kernel
set_option maxRecDepth 20000 in
theorem ggX4_step_X4_currentProof : GoodIn wsX4_step wsX4_currentProof := goodIn_r _ [5, 6, 7, 8, 9, 10, 11, 12, 13, 14, 15, 16, 17, 18, 19, 20, 21, 22, 23, 24, 25, 26, 27, 28, 29, 30, 31, 32, 33, 34, 35, 36, 37, 38, 39, 40, 41, 42, 43, 44, 45, 46, 47, 48, 49, 50, 51, 52, 53, 54, 55, 56, 57, 4, 58, 59, 60, 61, 62, 63, 64, 65, 66, 67, 68, 69, 70, 71, 72, 73, 74, 75, 76, 77, 78, 79, 80, 81, 82, 83, 84, 85, 86, 87, 88, 89, 90, 91, 92, 93, 94, 95, 96, 97, 98, 99, 100, 101, 102, 103, 104, 105, 106, 107, 108, 109, 110, 111, 112, 113, 114, 115, 116, 117, 118, 119, 120, 121, 122, 123, 124, 125, 126, 127, 128, 129, 130, 131, 132, 133, 134, 135, 136, 137, 155, 156, 157, 158, 159, 160, 161, 162, 163, 164, 165, 166, 167, 168, 169, 170, 171, 172, 173, 174, 175, 176, 177, 178, 179, 180] (by decide +kernel) (by decide +kernel)
set_option maxRecDepth 20000 in
theorem gX4_step_X4_currentProof : GoodIn wsX4_step (wsV RX4 94 RX4 yX4_currentProof wsX4_currentProof) := goodIn_app (goodIn_of _ (by decide +kernel)) ggX4_step_X4_currentProof
set_option maxRecDepth 20000 in
theorem ggX4_step_X2_isKnown : GoodIn wsX4_step wsX2_isKnown := goodIn_r _ [141, 15, 163, 164, 165, 166, 167, 168, 169, 170, 171, 172, 173, 174, 175, 176] (by decide +kernel) (by decide +kernel)
set_option maxRecDepth 20000 in
theorem gX4_step_X2_isKnown : GoodIn wsX4_step (wsV RX4 153 RX2 yX2_isKnown wsX2_isKnown) := goodIn_app (goodIn_of _ (by decide +kernel)) ggX4_step_X2_isKnown
set_option maxRecDepth 20000 in
theorem ggX4_step_X2_has : GoodIn wsX4_step wsX2_has := goodIn_r _ [101, 14, 163, 164, 165, 166, 167, 168, 169, 170, 171, 172, 173, 174, 175, 176] (by decide +kernel) (by decide +kernel)
set_option maxRecDepth 20000 in
theorem gX4_step_X2_has : GoodIn wsX4_step (wsV RX4 156 RX2 yX2_has wsX2_has) := goodIn_app (goodIn_of _ (by decide +kernel)) ggX4_step_X2_has
set_option maxRecDepth 20000 in
theorem ggX4_step_X2_signsOf : GoodIn wsX4_step wsX2_signsOf := goodIn_r _ [97, 71, 98, 99, 100, 12, 101, 14, 163, 164, 165, 166, 167, 168, 169, 170, 171, 172, 173, 174, 175, 176] (by decide +kernel) (by decide +kernel)
set_option maxRecDepth 20000 in
theorem gX4_step_X2_signsOf : GoodIn wsX4_step (wsV RX4 157 RX2 yX2_signsOf wsX2_signsOf) := goodIn_app (goodIn_of _ (by decide +kernel)) ggX4_step_X2_signsOf
set_option maxRecDepth 20000 in
theorem ggX4_step_X2_oppositesOf : GoodIn wsX4_step wsX2_oppositesOf := goodIn_r _ [105, 72, 98, 99, 100, 12, 101, 14, 163, 164, 165, 166, 167, 168, 169, 170, 171, 172, 173, 174, 175, 176] (by decide +kernel) (by decide +kernel)
set_option maxRecDepth 20000 in
theorem gX4_step_X2_oppositesOf : GoodIn wsX4_step (wsV RX4 158 RX2 yX2_oppositesOf wsX2_oppositesOf) := goodIn_app (goodIn_of _ (by decide +kernel)) ggX4_step_X2_oppositesOf
set_option maxRecDepth 20000 in
theorem ggX4_step_X2_firstParentOf : GoodIn wsX4_step wsX2_firstParentOf := goodIn_r _ [133, 73, 98, 99, 100, 12, 101, 14, 163, 164, 165, 166, 167, 168, 169, 170, 171, 172, 173, 174, 175, 176] (by decide +kernel) (by decide +kernel)
set_option maxRecDepth 20000 in
theorem gX4_step_X2_firstParentOf : GoodIn wsX4_step (wsV RX4 159 RX2 yX2_firstParentOf wsX2_firstParentOf) := goodIn_app (goodIn_of _ (by decide +kernel)) ggX4_step_X2_firstParentOf
set_option maxRecDepth 20000 in
theorem ggX4_step_X2_secondParentOf : GoodIn wsX4_step wsX2_secondParentOf := goodIn_r _ [137, 74, 98, 99, 100, 12, 101, 14, 163, 164, 165, 166, 167, 168, 169, 170, 171, 172, 173, 174, 175, 176] (by decide +kernel) (by decide +kernel)
set_option maxRecDepth 20000 in
theorem gX4_step_X2_secondParentOf : GoodIn wsX4_step (wsV RX4 162 RX2 yX2_secondParentOf wsX2_secondParentOf) := goodIn_app (goodIn_of _ (by decide +kernel)) ggX4_step_X2_secondParentOf
set_option maxRecDepth 20000 in
theorem ggX4_step_X2_pivotOf : GoodIn wsX4_step wsX2_pivotOf := goodIn_r _ [150, 75, 98, 99, 100, 12, 101, 14, 163, 164, 165, 166, 167, 168, 169, 170, 171, 172, 173, 174, 175, 176] (by decide +kernel) (by decide +kernel)
set_option maxRecDepth 20000 in
theorem gX4_step_X2_pivotOf : GoodIn wsX4_step (wsV RX4 165 RX2 yX2_pivotOf wsX2_pivotOf) := goodIn_app (goodIn_of _ (by decide +kernel)) ggX4_step_X2_pivotOf
set_option maxRecDepth 20000 in
theorem ggX4_step_X2_isNeeded : GoodIn wsX4_step wsX2_isNeeded := goodIn_r _ [129, 78, 98, 99, 100, 12, 101, 14, 163, 164, 165, 166, 167, 168, 169, 170, 171, 172, 173, 174, 175, 176] (by decide +kernel) (by decide +kernel)
set_option maxRecDepth 20000 in
theorem gX4_step_X2_isNeeded : GoodIn wsX4_step (wsV RX4 105 RX2 yX2_isNeeded wsX2_isNeeded) := goodIn_app (goodIn_of _ (by decide +kernel)) ggX4_step_X2_isNeeded
set_option maxRecDepth 20000 in
theorem ggX4_step_X4_asNumber : GoodIn wsX4_step wsX4_asNumber := goodIn_r _ [154] (by decide +kernel) (by decide +kernel)
set_option maxRecDepth 20000 in
theorem gX4_step_X4_asNumber : GoodIn wsX4_step (va_wsS RX4 140 yX4_asNumber wsX4_asNumber) := goodIn_app (goodIn_of _ (by decide +kernel)) ggX4_step_X4_asNumber
theorem dX4_step_0 : decode cX4_step 0 = .ok (.aload_n 0, 1) := by decide +kernel
theorem dX4_step_1 : decode cX4_step 1 = .ok (.invokevirtual 94, 3) := by decide +kernel
theorem dX4_step_4 : decode cX4_step 4 = .ok (.astore_n 3, 1) := by decide +kernel
theorem dX4_step_5 : decode cX4_step 5 = .ok (.aload_n 3, 1) := by decide +kernel
theorem dX4_step_6 : decode cX4_step 6 = .ok (.invokevirtual 153, 3) := by decide +kernel
theorem dX4_step_9 : decode cX4_step 9 = .ok (.ifCond .ne 6, 3) := by decide +kernel
theorem dX4_step_12 : decode cX4_step 12 = .ok (.bipush (-4), 2) := by decide +kernel
theorem dX4_step_14 : decode cX4_step 14 = .ok (.ireturn, 1) := by decide +kernel
theorem dX4_step_15 : decode cX4_step 15 = .ok (.aload_n 3, 1) := by decide +kernel
theorem dX4_step_16 : decode cX4_step 16 = .ok (.iload_n 1, 1) := by decide +kernel
theorem dX4_step_17 : decode cX4_step 17 = .ok (.invokevirtual 156, 3) := by decide +kernel
theorem dX4_step_20 : decode cX4_step 20 = .ok (.ifCond .ne 5, 3) := by decide +kernel
theorem dX4_step_23 : decode cX4_step 23 = .ok (.iconst (-1), 1) := by decide +kernel
theorem dX4_step_24 : decode cX4_step 24 = .ok (.ireturn, 1) := by decide +kernel
theorem dX4_step_25 : decode cX4_step 25 = .ok (.iload_n 2, 1) := by decide +kernel
theorem dX4_step_26 : decode cX4_step 26 = .ok (.tableswitch 77 0 5 #[38, 44, 50, 56, 62, 68], 38) := by decide +kernel
theorem dX4_step_64 : decode cX4_step 64 = .ok (.aload_n 3, 1) := by decide +kernel
theorem dX4_step_65 : decode cX4_step 65 = .ok (.iload_n 1, 1) := by decide +kernel
theorem dX4_step_66 : decode cX4_step 66 = .ok (.invokevirtual 157, 3) := by decide +kernel
theorem dX4_step_69 : decode cX4_step 69 = .ok (.ireturn, 1) := by decide +kernel
theorem dX4_step_70 : decode cX4_step 70 = .ok (.aload_n 3, 1) := by decide +kernel
theorem dX4_step_71 : decode cX4_step 71 = .ok (.iload_n 1, 1) := by decide +kernel
theorem dX4_step_72 : decode cX4_step 72 = .ok (.invokevirtual 158, 3) := by decide +kernel
theorem dX4_step_75 : decode cX4_step 75 = .ok (.ireturn, 1) := by decide +kernel
theorem dX4_step_76 : decode cX4_step 76 = .ok (.aload_n 3, 1) := by decide +kernel
theorem dX4_step_77 : decode cX4_step 77 = .ok (.iload_n 1, 1) := by decide +kernel
theorem dX4_step_78 : decode cX4_step 78 = .ok (.invokevirtual 159, 3) := by decide +kernel
theorem dX4_step_81 : decode cX4_step 81 = .ok (.ireturn, 1) := by decide +kernel
theorem dX4_step_82 : decode cX4_step 82 = .ok (.aload_n 3, 1) := by decide +kernel
theorem dX4_step_83 : decode cX4_step 83 = .ok (.iload_n 1, 1) := by decide +kernel
theorem dX4_step_84 : decode cX4_step 84 = .ok (.invokevirtual 162, 3) := by decide +kernel
theorem dX4_step_87 : decode cX4_step 87 = .ok (.ireturn, 1) := by decide +kernel
theorem dX4_step_88 : decode cX4_step 88 = .ok (.aload_n 3, 1) := by decide +kernel
theorem dX4_step_89 : decode cX4_step 89 = .ok (.iload_n 1, 1) := by decide +kernel
theorem dX4_step_90 : decode cX4_step 90 = .ok (.invokevirtual 165, 3) := by decide +kernel
theorem dX4_step_93 : decode cX4_step 93 = .ok (.ireturn, 1) := by decide +kernel
theorem dX4_step_94 : decode cX4_step 94 = .ok (.aload_n 3, 1) := by decide +kernel
theorem dX4_step_95 : decode cX4_step 95 = .ok (.iload_n 1, 1) := by decide +kernel
theorem dX4_step_96 : decode cX4_step 96 = .ok (.invokevirtual 105, 3) := by decide +kernel
theorem dX4_step_99 : decode cX4_step 99 = .ok (.invokestatic 140, 3) := by decide +kernel
theorem dX4_step_102 : decode cX4_step 102 = .ok (.ireturn, 1) := by decide +kernel
theorem dX4_step_103 : decode cX4_step 103 = .ok (.bipush (-2), 2) := by decide +kernel
theorem dX4_step_105 : decode cX4_step 105 = .ok (.ireturn, 1) := by decide +kernel
set_option maxRecDepth 20000 in
theorem ggX4_partial_X4_currentProof : GoodIn wsX4_partial wsX4_currentProof := goodIn_r _ [5, 6, 7, 8, 9, 10, 11, 12, 13, 14, 15, 16, 17, 18, 19, 20, 21, 22, 23, 24, 25, 26, 27, 28, 29, 30, 31, 32, 33, 34, 35, 36, 37, 38, 39, 40, 41, 42, 43, 44, 45, 46, 47, 48, 49, 50, 51, 52, 53, 54, 55, 56, 57, 4, 58, 59, 60, 61, 62, 63, 64, 65, 66, 67, 68, 69, 70, 71, 72, 73, 74, 75, 76, 77, 78, 79, 80, 81, 82, 83, 84, 85, 86, 87, 88, 89, 90, 91, 92, 93, 94, 95, 96, 97, 98, 99, 100, 101, 102, 103, 104, 105, 106, 107, 108, 109, 110, 111, 112, 113, 114, 115, 116, 117, 118, 119, 120, 121, 122, 123, 124, 125, 126, 127, 128, 129, 130, 131, 132, 133, 134, 135, 136, 137, 147, 148, 149, 150, 151, 152, 153, 154, 155, 156, 157, 158, 159, 160, 161, 162, 163, 164, 165, 166, 167, 168, 169, 170, 171, 172] (by decide +kernel) (by decide +kernel)
set_option maxRecDepth 20000 in
theorem gX4_partial_X4_currentProof : GoodIn wsX4_partial (wsV RX4 94 RX4 yX4_currentProof wsX4_currentProof) := goodIn_app (goodIn_of _ (by decide +kernel)) ggX4_partial_X4_currentProof
set_option maxRecDepth 20000 in
theorem ggX4_partial_X2_hasEmptyClause : GoodIn wsX4_partial wsX2_hasEmptyClause := goodIn_r _ [141, 16, 155, 156, 157, 158, 159, 160, 161, 162, 163, 164, 165, 166, 167, 168] (by decide +kernel) (by decide +kernel)
set_option maxRecDepth 20000 in
theorem gX4_partial_X2_hasEmptyClause : GoodIn wsX4_partial (wsV RX4 98 RX2 yX2_hasEmptyClause wsX2_hasEmptyClause) := goodIn_app (goodIn_of _ (by decide +kernel)) ggX4_partial_X2_hasEmptyClause
set_option maxRecDepth 20000 in
theorem ggX4_partial_X2_has : GoodIn wsX4_partial wsX2_has := goodIn_r _ [101, 14, 155, 156, 157, 158, 159, 160, 161, 162, 163, 164, 165, 166, 167, 168] (by decide +kernel) (by decide +kernel)
set_option maxRecDepth 20000 in
theorem gX4_partial_X2_has : GoodIn wsX4_partial (wsV RX4 156 RX2 yX2_has wsX2_has) := goodIn_app (goodIn_of _ (by decide +kernel)) ggX4_partial_X2_has
set_option maxRecDepth 20000 in
theorem ggX4_partial_X4_isZeroOrOne : GoodIn wsX4_partial wsX4_isZeroOrOne := goodIn_r _ [145] (by decide +kernel) (by decide +kernel)
set_option maxRecDepth 20000 in
theorem gX4_partial_X4_isZeroOrOne : GoodIn wsX4_partial (va_wsS RX4 52 yX4_isZeroOrOne wsX4_isZeroOrOne) := goodIn_app (goodIn_of _ (by decide +kernel)) ggX4_partial_X4_isZeroOrOne
set_option maxRecDepth 20000 in
theorem ggX4_partial_X2_partialClaim : GoodIn wsX4_partial wsX2_partialClaim := goodIn_r _ [113, 76, 77, 98, 99, 100, 12, 101, 14, 155, 156, 157, 158, 159, 160, 161, 162, 163, 164, 165, 166, 167, 168] (by decide +kernel) (by decide +kernel)
set_option maxRecDepth 20000 in
theorem gX4_partial_X2_partialClaim : GoodIn wsX4_partial (wsV RX4 168 RX2 yX2_partialClaim wsX2_partialClaim) := goodIn_app (goodIn_of _ (by decide +kernel)) ggX4_partial_X2_partialClaim
theorem dX4_partial_0 : decode cX4_partial 0 = .ok (.aload_n 0, 1) := by decide +kernel
theorem dX4_partial_1 : decode cX4_partial 1 = .ok (.invokevirtual 94, 3) := by decide +kernel
theorem dX4_partial_4 : decode cX4_partial 4 = .ok (.astore 4, 2) := by decide +kernel
theorem dX4_partial_6 : decode cX4_partial 6 = .ok (.aload 4, 2) := by decide +kernel
theorem dX4_partial_8 : decode cX4_partial 8 = .ok (.invokevirtual 98, 3) := by decide +kernel
theorem dX4_partial_11 : decode cX4_partial 11 = .ok (.ifCond .ne 6, 3) := by decide +kernel
theorem dX4_partial_14 : decode cX4_partial 14 = .ok (.bipush (-4), 2) := by decide +kernel
theorem dX4_partial_16 : decode cX4_partial 16 = .ok (.ireturn, 1) := by decide +kernel
theorem dX4_partial_17 : decode cX4_partial 17 = .ok (.aload 4, 2) := by decide +kernel
theorem dX4_partial_19 : decode cX4_partial 19 = .ok (.iload_n 1, 1) := by decide +kernel
theorem dX4_partial_20 : decode cX4_partial 20 = .ok (.invokevirtual 156, 3) := by decide +kernel
theorem dX4_partial_23 : decode cX4_partial 23 = .ok (.ifCond .ne 5, 3) := by decide +kernel
theorem dX4_partial_26 : decode cX4_partial 26 = .ok (.iconst (-1), 1) := by decide +kernel
theorem dX4_partial_27 : decode cX4_partial 27 = .ok (.ireturn, 1) := by decide +kernel
theorem dX4_partial_28 : decode cX4_partial 28 = .ok (.iload_n 2, 1) := by decide +kernel
theorem dX4_partial_29 : decode cX4_partial 29 = .ok (.invokestatic 52, 3) := by decide +kernel
theorem dX4_partial_32 : decode cX4_partial 32 = .ok (.ifCond .eq 13, 3) := by decide +kernel
theorem dX4_partial_35 : decode cX4_partial 35 = .ok (.iload_n 3, 1) := by decide +kernel
theorem dX4_partial_36 : decode cX4_partial 36 = .ok (.ifCond .lt 9, 3) := by decide +kernel
theorem dX4_partial_39 : decode cX4_partial 39 = .ok (.iload_n 3, 1) := by decide +kernel
theorem dX4_partial_40 : decode cX4_partial 40 = .ok (.bipush 64, 2) := by decide +kernel
theorem dX4_partial_42 : decode cX4_partial 42 = .ok (.if_icmp .lt 6, 3) := by decide +kernel
theorem dX4_partial_45 : decode cX4_partial 45 = .ok (.bipush (-2), 2) := by decide +kernel
theorem dX4_partial_47 : decode cX4_partial 47 = .ok (.ireturn, 1) := by decide +kernel
theorem dX4_partial_48 : decode cX4_partial 48 = .ok (.aload 4, 2) := by decide +kernel
theorem dX4_partial_50 : decode cX4_partial 50 = .ok (.iload_n 1, 1) := by decide +kernel
theorem dX4_partial_51 : decode cX4_partial 51 = .ok (.iload_n 2, 1) := by decide +kernel
theorem dX4_partial_52 : decode cX4_partial 52 = .ok (.invokevirtual 168, 3) := by decide +kernel
theorem dX4_partial_55 : decode cX4_partial 55 = .ok (.iload_n 3, 1) := by decide +kernel
theorem dX4_partial_56 : decode cX4_partial 56 = .ok (.lushr, 1) := by decide +kernel
theorem dX4_partial_57 : decode cX4_partial 57 = .ok (.lconst 1, 1) := by decide +kernel
theorem dX4_partial_58 : decode cX4_partial 58 = .ok (.land, 1) := by decide +kernel
theorem dX4_partial_59 : decode cX4_partial 59 = .ok (.l2i, 1) := by decide +kernel
theorem dX4_partial_60 : decode cX4_partial 60 = .ok (.ireturn, 1) := by decide +kernel
set_option maxRecDepth 20000 in
theorem ggX4_middle_X4_isZeroOrOne : GoodIn wsX4_middle wsX4_isZeroOrOne := goodIn_r _ [4] (by decide +kernel) (by decide +kernel)
set_option maxRecDepth 20000 in
theorem gX4_middle_X4_isZeroOrOne : GoodIn wsX4_middle (va_wsS RX4 52 yX4_isZeroOrOne wsX4_isZeroOrOne) := goodIn_app (goodIn_of _ (by decide +kernel)) ggX4_middle_X4_isZeroOrOne
set_option maxRecDepth 20000 in
theorem ggX4_middle_X4_currentProof : GoodIn wsX4_middle wsX4_currentProof := goodIn_r _ [8, 9, 10, 11, 12, 13, 14, 15, 16, 17, 18, 19, 20, 21, 22, 23, 24, 25, 26, 27, 28, 29, 30, 31, 32, 33, 34, 35, 36, 37, 38, 39, 40, 41, 42, 43, 44, 45, 46, 47, 48, 49, 50, 51, 52, 53, 54, 55, 56, 57, 58, 59, 60, 3, 61, 62, 63, 64, 65, 66, 67, 68, 69, 70, 71, 72, 73, 74, 75, 76, 77, 78, 79, 80, 81, 82, 83, 84, 85, 86, 87, 88, 89, 90, 91, 92, 93, 94, 95, 96, 97, 98, 99, 100, 101, 102, 103, 104, 105, 106, 107, 108, 109, 110, 111, 112, 113, 114, 115, 116, 117, 118, 119, 120, 121, 122, 123, 124, 125, 126, 127, 128, 129, 130, 131, 132, 133, 134, 135, 136, 137, 138, 139, 140, 152, 153, 154, 155, 156, 157, 158, 159, 160, 161, 162, 163, 164, 165, 166, 167, 168, 169, 170, 171, 172, 173, 174, 175, 176, 177] (by decide +kernel) (by decide +kernel)
set_option maxRecDepth 20000 in
theorem gX4_middle_X4_currentProof : GoodIn wsX4_middle (wsV RX4 94 RX4 yX4_currentProof wsX4_currentProof) := goodIn_app (goodIn_of _ (by decide +kernel)) ggX4_middle_X4_currentProof
set_option maxRecDepth 20000 in
theorem ggX4_middle_X2_hasEmptyClause : GoodIn wsX4_middle wsX2_hasEmptyClause := goodIn_r _ [144, 19, 160, 161, 162, 163, 164, 165, 166, 167, 168, 169, 170, 171, 172, 173] (by decide +kernel) (by decide +kernel)
set_option maxRecDepth 20000 in
theorem gX4_middle_X2_hasEmptyClause : GoodIn wsX4_middle (wsV RX4 98 RX2 yX2_hasEmptyClause wsX2_hasEmptyClause) := goodIn_app (goodIn_of _ (by decide +kernel)) ggX4_middle_X2_hasEmptyClause
set_option maxRecDepth 20000 in
theorem ggX4_middle_X2_middleClaim : GoodIn wsX4_middle wsX2_middleClaim := goodIn_r _ [148, 17, 113, 114, 115, 15, 116, 79, 80, 101, 102, 103, 104, 160, 161, 162, 163, 164, 165, 166, 167, 168, 169, 170, 171, 172, 173] (by decide +kernel) (by decide +kernel)
set_option maxRecDepth 20000 in
theorem gX4_middle_X2_middleClaim : GoodIn wsX4_middle (wsV RX4 172 RX2 yX2_middleClaim wsX2_middleClaim) := goodIn_app (goodIn_of _ (by decide +kernel)) ggX4_middle_X2_middleClaim
set_option maxRecDepth 20000 in
theorem ggX4_middle_X4_halfOf : GoodIn wsX4_middle wsX4_halfOf := goodIn_r _ [151] (by decide +kernel) (by decide +kernel)
set_option maxRecDepth 20000 in
theorem gX4_middle_X4_halfOf : GoodIn wsX4_middle (va_wsS RX4 175 yX4_halfOf wsX4_halfOf) := goodIn_app (goodIn_of _ (by decide +kernel)) ggX4_middle_X4_halfOf
theorem dX4_middle_0 : decode cX4_middle 0 = .ok (.iload_n 1, 1) := by decide +kernel
theorem dX4_middle_1 : decode cX4_middle 1 = .ok (.invokestatic 52, 3) := by decide +kernel
theorem dX4_middle_4 : decode cX4_middle 4 = .ok (.ifCond .eq 10, 3) := by decide +kernel
theorem dX4_middle_7 : decode cX4_middle 7 = .ok (.iload_n 2, 1) := by decide +kernel
theorem dX4_middle_8 : decode cX4_middle 8 = .ok (.invokestatic 52, 3) := by decide +kernel
theorem dX4_middle_11 : decode cX4_middle 11 = .ok (.ifCond .ne 5, 3) := by decide +kernel
theorem dX4_middle_14 : decode cX4_middle 14 = .ok (.iconst 0, 1) := by decide +kernel
theorem dX4_middle_15 : decode cX4_middle 15 = .ok (.ireturn, 1) := by decide +kernel
theorem dX4_middle_16 : decode cX4_middle 16 = .ok (.aload_n 0, 1) := by decide +kernel
theorem dX4_middle_17 : decode cX4_middle 17 = .ok (.invokevirtual 94, 3) := by decide +kernel
theorem dX4_middle_20 : decode cX4_middle 20 = .ok (.astore_n 3, 1) := by decide +kernel
theorem dX4_middle_21 : decode cX4_middle 21 = .ok (.aload_n 3, 1) := by decide +kernel
theorem dX4_middle_22 : decode cX4_middle 22 = .ok (.invokevirtual 98, 3) := by decide +kernel
theorem dX4_middle_25 : decode cX4_middle 25 = .ok (.ifCond .eq 15, 3) := by decide +kernel
theorem dX4_middle_28 : decode cX4_middle 28 = .ok (.aload_n 3, 1) := by decide +kernel
theorem dX4_middle_29 : decode cX4_middle 29 = .ok (.iload_n 1, 1) := by decide +kernel
theorem dX4_middle_30 : decode cX4_middle 30 = .ok (.invokevirtual 172, 3) := by decide +kernel
theorem dX4_middle_33 : decode cX4_middle 33 = .ok (.iload_n 2, 1) := by decide +kernel
theorem dX4_middle_34 : decode cX4_middle 34 = .ok (.invokestatic 175, 3) := by decide +kernel
theorem dX4_middle_37 : decode cX4_middle 37 = .ok (.goto 4, 3) := by decide +kernel
theorem dX4_middle_40 : decode cX4_middle 40 = .ok (.iconst 0, 1) := by decide +kernel
theorem dX4_middle_41 : decode cX4_middle 41 = .ok (.ireturn, 1) := by decide +kernel
set_option maxRecDepth 20000 in
theorem ggX4_outermost_X4_isZeroOrOne : GoodIn wsX4_outermost wsX4_isZeroOrOne := goodIn_r _ [6] (by decide +kernel) (by decide +kernel)
set_option maxRecDepth 20000 in
theorem gX4_outermost_X4_isZeroOrOne : GoodIn wsX4_outermost (va_wsS RX4 52 yX4_isZeroOrOne wsX4_isZeroOrOne) := goodIn_app (goodIn_of _ (by decide +kernel)) ggX4_outermost_X4_isZeroOrOne
set_option maxRecDepth 20000 in
theorem ggX4_outermost_X0_clash : GoodIn wsX4_outermost wsX0_clash := goodIn_r _ [11, 12, 13, 14, 10, 15, 16, 17, 18, 19, 20, 21, 22, 23, 24, 25, 26, 27, 28, 29, 30, 31, 32, 33, 34, 35, 36, 37, 38, 39, 40, 41, 42, 43, 44, 45, 5, 46, 2, 47, 48, 49, 50, 51, 52, 53, 77, 78, 79, 80] (by decide +kernel) (by decide +kernel)
set_option maxRecDepth 20000 in
theorem gX4_outermost_X0_clash : GoodIn wsX4_outermost (wsV RX4 179 RX0 yX0_clash wsX0_clash) := goodIn_app (goodIn_of _ (by decide +kernel)) ggX4_outermost_X0_clash
set_option maxRecDepth 20000 in
theorem ggX4_outermost_X0_sharedSigns : GoodIn wsX4_outermost wsX0_sharedSigns := goodIn_r _ [57, 58, 59, 60, 10, 61, 21, 22, 23, 24, 25, 26, 27, 28, 29, 30, 35, 36, 37, 38, 39, 40, 41, 42, 43, 44, 77, 78, 79, 80] (by decide +kernel) (by decide +kernel)
set_option maxRecDepth 20000 in
theorem gX4_outermost_X0_sharedSigns : GoodIn wsX4_outermost (wsV RX4 182 RX0 yX0_sharedSigns wsX0_sharedSigns) := goodIn_app (goodIn_of _ (by decide +kernel)) ggX4_outermost_X0_sharedSigns
set_option maxRecDepth 20000 in
theorem ggX4_outermost_X0_worldsOfSide : GoodIn wsX4_outermost wsX0_worldsOfSide := goodIn_r _ [19, 20, 21, 22, 23, 24, 10, 25, 26, 27, 28, 29, 30, 31, 32, 33, 34, 35, 36, 37, 38, 39, 40, 41, 42, 43, 44, 45, 5, 46, 2, 47, 48, 49, 50, 51, 52, 53, 77, 78, 79, 80] (by decide +kernel) (by decide +kernel)
set_option maxRecDepth 20000 in
theorem gX4_outermost_X0_worldsOfSide : GoodIn wsX4_outermost (wsV RX4 147 RX0 yX0_worldsOfSide wsX0_worldsOfSide) := goodIn_app (goodIn_of _ (by decide +kernel)) ggX4_outermost_X0_worldsOfSide
set_option maxRecDepth 20000 in
theorem ggX4_outermost_X4_spread : GoodIn wsX4_outermost wsX4_spread := goodIn_r _ [65, 2, 47, 48, 5, 49, 50, 51, 52, 53] (by decide +kernel) (by decide +kernel)
set_option maxRecDepth 20000 in
theorem gX4_outermost_X4_spread : GoodIn wsX4_outermost (va_wsS RX4 185 yX4_spread wsX4_spread) := goodIn_app (goodIn_of _ (by decide +kernel)) ggX4_outermost_X4_spread
set_option maxRecDepth 20000 in
theorem ggX4_outermost_X4_halfOf : GoodIn wsX4_outermost wsX4_halfOf := goodIn_r _ [68] (by decide +kernel) (by decide +kernel)
set_option maxRecDepth 20000 in
theorem gX4_outermost_X4_halfOf : GoodIn wsX4_outermost (va_wsS RX4 175 yX4_halfOf wsX4_halfOf) := goodIn_app (goodIn_of _ (by decide +kernel)) ggX4_outermost_X4_halfOf
theorem dX4_outermost_0 : decode cX4_outermost 0 = .ok (.iload_n 2, 1) := by decide +kernel
theorem dX4_outermost_1 : decode cX4_outermost 1 = .ok (.invokestatic 52, 3) := by decide +kernel
theorem dX4_outermost_4 : decode cX4_outermost 4 = .ok (.ifCond .eq 13, 3) := by decide +kernel
theorem dX4_outermost_7 : decode cX4_outermost 7 = .ok (.aload_n 0, 1) := by decide +kernel
theorem dX4_outermost_8 : decode cX4_outermost 8 = .ok (.getfield 14, 3) := by decide +kernel
theorem dX4_outermost_11 : decode cX4_outermost 11 = .ok (.invokevirtual 179, 3) := by decide +kernel
theorem dX4_outermost_14 : decode cX4_outermost 14 = .ok (.ifCond .ne 5, 3) := by decide +kernel
theorem dX4_outermost_17 : decode cX4_outermost 17 = .ok (.iconst 0, 1) := by decide +kernel
theorem dX4_outermost_18 : decode cX4_outermost 18 = .ok (.ireturn, 1) := by decide +kernel
theorem dX4_outermost_19 : decode cX4_outermost 19 = .ok (.aload_n 0, 1) := by decide +kernel
theorem dX4_outermost_20 : decode cX4_outermost 20 = .ok (.getfield 14, 3) := by decide +kernel
theorem dX4_outermost_23 : decode cX4_outermost 23 = .ok (.invokevirtual 182, 3) := by decide +kernel
theorem dX4_outermost_26 : decode cX4_outermost 26 = .ok (.istore_n 3, 1) := by decide +kernel
theorem dX4_outermost_27 : decode cX4_outermost 27 = .ok (.iload_n 1, 1) := by decide +kernel
theorem dX4_outermost_28 : decode cX4_outermost 28 = .ok (.ifCond .eq 22, 3) := by decide +kernel
theorem dX4_outermost_31 : decode cX4_outermost 31 = .ok (.aload_n 0, 1) := by decide +kernel
theorem dX4_outermost_32 : decode cX4_outermost 32 = .ok (.getfield 14, 3) := by decide +kernel
theorem dX4_outermost_35 : decode cX4_outermost 35 = .ok (.iconst 1, 1) := by decide +kernel
theorem dX4_outermost_36 : decode cX4_outermost 36 = .ok (.invokevirtual 147, 3) := by decide +kernel
theorem dX4_outermost_39 : decode cX4_outermost 39 = .ok (.iload_n 3, 1) := by decide +kernel
theorem dX4_outermost_40 : decode cX4_outermost 40 = .ok (.invokestatic 185, 3) := by decide +kernel
theorem dX4_outermost_43 : decode cX4_outermost 43 = .ok (.ldc2_w 189, 3) := by decide +kernel
theorem dX4_outermost_46 : decode cX4_outermost 46 = .ok (.lxor, 1) := by decide +kernel
theorem dX4_outermost_47 : decode cX4_outermost 47 = .ok (.goto 15, 3) := by decide +kernel
theorem dX4_outermost_50 : decode cX4_outermost 50 = .ok (.aload_n 0, 1) := by decide +kernel
theorem dX4_outermost_51 : decode cX4_outermost 51 = .ok (.getfield 14, 3) := by decide +kernel
theorem dX4_outermost_54 : decode cX4_outermost 54 = .ok (.iconst 0, 1) := by decide +kernel
theorem dX4_outermost_55 : decode cX4_outermost 55 = .ok (.invokevirtual 147, 3) := by decide +kernel
theorem dX4_outermost_58 : decode cX4_outermost 58 = .ok (.iload_n 3, 1) := by decide +kernel
theorem dX4_outermost_59 : decode cX4_outermost 59 = .ok (.invokestatic 185, 3) := by decide +kernel
theorem dX4_outermost_62 : decode cX4_outermost 62 = .ok (.lstore 4, 2) := by decide +kernel
theorem dX4_outermost_64 : decode cX4_outermost 64 = .ok (.lload 4, 2) := by decide +kernel
theorem dX4_outermost_66 : decode cX4_outermost 66 = .ok (.iload_n 2, 1) := by decide +kernel
theorem dX4_outermost_67 : decode cX4_outermost 67 = .ok (.invokestatic 175, 3) := by decide +kernel
theorem dX4_outermost_70 : decode cX4_outermost 70 = .ok (.ireturn, 1) := by decide +kernel
set_option maxRecDepth 20000 in
theorem ggX4_test_X0_worldsOfSide : GoodIn wsX4_test wsX0_worldsOfSide := goodIn_r _ [8, 9, 10, 11, 12, 13, 7, 14, 15, 16, 17, 18, 19, 20, 21, 22, 23, 24, 25, 26, 27, 28, 29, 30, 31, 32, 33, 34, 35, 36, 3, 37, 38, 39, 40, 41, 42, 43, 63, 64, 65, 66] (by decide +kernel) (by decide +kernel)
set_option maxRecDepth 20000 in
theorem gX4_test_X0_worldsOfSide : GoodIn wsX4_test (wsV RX4 147 RX0 yX0_worldsOfSide wsX0_worldsOfSide) := goodIn_app (goodIn_of _ (by decide +kernel)) ggX4_test_X0_worldsOfSide
set_option maxRecDepth 20000 in
theorem ggX4_test_X0_sharedSigns : GoodIn wsX4_test wsX0_sharedSigns := goodIn_r _ [47, 48, 49, 50, 7, 51, 10, 11, 12, 13, 14, 15, 16, 17, 18, 19, 24, 25, 26, 27, 28, 29, 30, 31, 32, 33, 63, 64, 65, 66] (by decide +kernel) (by decide +kernel)
set_option maxRecDepth 20000 in
theorem gX4_test_X0_sharedSigns : GoodIn wsX4_test (wsV RX4 182 RX0 yX0_sharedSigns wsX0_sharedSigns) := goodIn_app (goodIn_of _ (by decide +kernel)) ggX4_test_X0_sharedSigns
set_option maxRecDepth 20000 in
theorem ggX4_test_X4_spread : GoodIn wsX4_test wsX4_spread := goodIn_r _ [54, 3, 37, 38, 35, 39, 40, 41, 42, 43] (by decide +kernel) (by decide +kernel)
set_option maxRecDepth 20000 in
theorem gX4_test_X4_spread : GoodIn wsX4_test (va_wsS RX4 185 yX4_spread wsX4_spread) := goodIn_app (goodIn_of _ (by decide +kernel)) ggX4_test_X4_spread
theorem dX4_test_0 : decode cX4_test 0 = .ok (.iload_n 2, 1) := by decide +kernel
theorem dX4_test_1 : decode cX4_test 1 = .ok (.i2l, 1) := by decide +kernel
theorem dX4_test_2 : decode cX4_test 2 = .ok (.bipush 32, 2) := by decide +kernel
theorem dX4_test_4 : decode cX4_test 4 = .ok (.lshl, 1) := by decide +kernel
theorem dX4_test_5 : decode cX4_test 5 = .ok (.iload_n 1, 1) := by decide +kernel
theorem dX4_test_6 : decode cX4_test 6 = .ok (.i2l, 1) := by decide +kernel
theorem dX4_test_7 : decode cX4_test 7 = .ok (.ldc2_w 191, 3) := by decide +kernel
theorem dX4_test_10 : decode cX4_test 10 = .ok (.land, 1) := by decide +kernel
theorem dX4_test_11 : decode cX4_test 11 = .ok (.lor, 1) := by decide +kernel
theorem dX4_test_12 : decode cX4_test 12 = .ok (.lstore_n 3, 1) := by decide +kernel
theorem dX4_test_13 : decode cX4_test 13 = .ok (.aload_n 0, 1) := by decide +kernel
theorem dX4_test_14 : decode cX4_test 14 = .ok (.getfield 14, 3) := by decide +kernel
theorem dX4_test_17 : decode cX4_test 17 = .ok (.iconst 0, 1) := by decide +kernel
theorem dX4_test_18 : decode cX4_test 18 = .ok (.invokevirtual 147, 3) := by decide +kernel
theorem dX4_test_21 : decode cX4_test 21 = .ok (.lload_n 3, 1) := by decide +kernel
theorem dX4_test_22 : decode cX4_test 22 = .ok (.ldc2_w 189, 3) := by decide +kernel
theorem dX4_test_25 : decode cX4_test 25 = .ok (.lxor, 1) := by decide +kernel
theorem dX4_test_26 : decode cX4_test 26 = .ok (.land, 1) := by decide +kernel
theorem dX4_test_27 : decode cX4_test 27 = .ok (.lconst 0, 1) := by decide +kernel
theorem dX4_test_28 : decode cX4_test 28 = .ok (.lcmp, 1) := by decide +kernel
theorem dX4_test_29 : decode cX4_test 29 = .ok (.ifCond .eq 5, 3) := by decide +kernel
theorem dX4_test_32 : decode cX4_test 32 = .ok (.iconst 1, 1) := by decide +kernel
theorem dX4_test_33 : decode cX4_test 33 = .ok (.ireturn, 1) := by decide +kernel
theorem dX4_test_34 : decode cX4_test 34 = .ok (.aload_n 0, 1) := by decide +kernel
theorem dX4_test_35 : decode cX4_test 35 = .ok (.getfield 14, 3) := by decide +kernel
theorem dX4_test_38 : decode cX4_test 38 = .ok (.iconst 1, 1) := by decide +kernel
theorem dX4_test_39 : decode cX4_test 39 = .ok (.invokevirtual 147, 3) := by decide +kernel
theorem dX4_test_42 : decode cX4_test 42 = .ok (.lload_n 3, 1) := by decide +kernel
theorem dX4_test_43 : decode cX4_test 43 = .ok (.land, 1) := by decide +kernel
theorem dX4_test_44 : decode cX4_test 44 = .ok (.lconst 0, 1) := by decide +kernel
theorem dX4_test_45 : decode cX4_test 45 = .ok (.lcmp, 1) := by decide +kernel
theorem dX4_test_46 : decode cX4_test 46 = .ok (.ifCond .eq 5, 3) := by decide +kernel
theorem dX4_test_49 : decode cX4_test 49 = .ok (.iconst 2, 1) := by decide +kernel
theorem dX4_test_50 : decode cX4_test 50 = .ok (.ireturn, 1) := by decide +kernel
theorem dX4_test_51 : decode cX4_test 51 = .ok (.lload_n 3, 1) := by decide +kernel
theorem dX4_test_52 : decode cX4_test 52 = .ok (.aload_n 0, 1) := by decide +kernel
theorem dX4_test_53 : decode cX4_test 53 = .ok (.getfield 14, 3) := by decide +kernel
theorem dX4_test_56 : decode cX4_test 56 = .ok (.invokevirtual 182, 3) := by decide +kernel
theorem dX4_test_59 : decode cX4_test 59 = .ok (.invokestatic 185, 3) := by decide +kernel
theorem dX4_test_62 : decode cX4_test 62 = .ok (.lload_n 3, 1) := by decide +kernel
theorem dX4_test_63 : decode cX4_test 63 = .ok (.lcmp, 1) := by decide +kernel
theorem dX4_test_64 : decode cX4_test 64 = .ok (.ifCond .ne 7, 3) := by decide +kernel
theorem dX4_test_67 : decode cX4_test 67 = .ok (.iconst 0, 1) := by decide +kernel
theorem dX4_test_68 : decode cX4_test 68 = .ok (.goto 4, 3) := by decide +kernel
theorem dX4_test_71 : decode cX4_test 71 = .ok (.iconst 3, 1) := by decide +kernel
theorem dX4_test_72 : decode cX4_test 72 = .ok (.ireturn, 1) := by decide +kernel
set_option maxRecDepth 20000 in
theorem ggX4_compare_X4_currentProof : GoodIn wsX4_compare wsX4_currentProof := goodIn_r _ [6, 7, 8, 9, 10, 11, 12, 13, 14, 15, 16, 17, 18, 19, 20, 21, 22, 23, 24, 25, 26, 27, 28, 29, 30, 31, 32, 33, 34, 35, 36, 37, 38, 39, 40, 41, 42, 43, 44, 45, 46, 47, 48, 49, 50, 51, 52, 53, 54, 55, 56, 57, 58, 5, 59, 1, 60, 61, 62, 63, 64, 65, 66, 67, 68, 69, 70, 71, 72, 73, 74, 75, 76, 77, 78, 79, 80, 81, 82, 83, 84, 85, 86, 87, 88, 89, 90, 91, 92, 93, 94, 95, 96, 97, 98, 99, 100, 101, 102, 103, 104, 105, 106, 107, 108, 109, 110, 111, 112, 113, 114, 115, 116, 117, 118, 119, 120, 121, 122, 123, 124, 125, 126, 127, 128, 129, 130, 131, 132, 133, 134, 135, 136, 137, 146, 147, 148, 149, 150, 151, 152, 153, 154, 155, 156, 157, 158, 159, 160, 161, 162, 163, 164, 165, 166, 167, 168, 169, 170, 171] (by decide +kernel) (by decide +kernel)
set_option maxRecDepth 20000 in
theorem gX4_compare_X4_currentProof : GoodIn wsX4_compare (wsV RX4 94 RX4 yX4_currentProof wsX4_currentProof) := goodIn_app (goodIn_of _ (by decide +kernel)) ggX4_compare_X4_currentProof
set_option maxRecDepth 20000 in
theorem ggX4_compare_X2_hasEmptyClause : GoodIn wsX4_compare wsX2_hasEmptyClause := goodIn_r _ [141, 17, 154, 155, 156, 157, 158, 159, 160, 161, 162, 163, 164, 165, 166, 167] (by decide +kernel) (by decide +kernel)
set_option maxRecDepth 20000 in
theorem gX4_compare_X2_hasEmptyClause : GoodIn wsX4_compare (wsV RX4 98 RX2 yX2_hasEmptyClause wsX2_hasEmptyClause) := goodIn_app (goodIn_of _ (by decide +kernel)) ggX4_compare_X2_hasEmptyClause
set_option maxRecDepth 20000 in
theorem ggX4_compare_X2_middleClaim : GoodIn wsX4_compare wsX2_middleClaim := goodIn_r _ [145, 15, 110, 111, 112, 13, 113, 76, 77, 98, 99, 100, 101, 154, 155, 156, 157, 158, 159, 160, 161, 162, 163, 164, 165, 166, 167] (by decide +kernel) (by decide +kernel)
set_option maxRecDepth 20000 in
theorem gX4_compare_X2_middleClaim : GoodIn wsX4_compare (wsV RX4 172 RX2 yX2_middleClaim wsX2_middleClaim) := goodIn_app (goodIn_of _ (by decide +kernel)) ggX4_compare_X2_middleClaim
theorem dX4_compare_0 : decode cX4_compare 0 = .ok (.aload_n 0, 1) := by decide +kernel
theorem dX4_compare_1 : decode cX4_compare 1 = .ok (.invokevirtual 94, 3) := by decide +kernel
theorem dX4_compare_4 : decode cX4_compare 4 = .ok (.astore_n 1, 1) := by decide +kernel
theorem dX4_compare_5 : decode cX4_compare 5 = .ok (.aload_n 1, 1) := by decide +kernel
theorem dX4_compare_6 : decode cX4_compare 6 = .ok (.invokevirtual 98, 3) := by decide +kernel
theorem dX4_compare_9 : decode cX4_compare 9 = .ok (.ifCond .ne 6, 3) := by decide +kernel
theorem dX4_compare_12 : decode cX4_compare 12 = .ok (.bipush (-4), 2) := by decide +kernel
theorem dX4_compare_14 : decode cX4_compare 14 = .ok (.ireturn, 1) := by decide +kernel
theorem dX4_compare_15 : decode cX4_compare 15 = .ok (.aload_n 1, 1) := by decide +kernel
theorem dX4_compare_16 : decode cX4_compare 16 = .ok (.iconst 0, 1) := by decide +kernel
theorem dX4_compare_17 : decode cX4_compare 17 = .ok (.invokevirtual 172, 3) := by decide +kernel
theorem dX4_compare_20 : decode cX4_compare 20 = .ok (.lstore_n 2, 1) := by decide +kernel
theorem dX4_compare_21 : decode cX4_compare 21 = .ok (.aload_n 1, 1) := by decide +kernel
theorem dX4_compare_22 : decode cX4_compare 22 = .ok (.iconst 1, 1) := by decide +kernel
theorem dX4_compare_23 : decode cX4_compare 23 = .ok (.invokevirtual 172, 3) := by decide +kernel
theorem dX4_compare_26 : decode cX4_compare 26 = .ok (.lstore 4, 2) := by decide +kernel
theorem dX4_compare_28 : decode cX4_compare 28 = .ok (.lload_n 2, 1) := by decide +kernel
theorem dX4_compare_29 : decode cX4_compare 29 = .ok (.lload 4, 2) := by decide +kernel
theorem dX4_compare_31 : decode cX4_compare 31 = .ok (.lcmp, 1) := by decide +kernel
theorem dX4_compare_32 : decode cX4_compare 32 = .ok (.ifCond .ne 5, 3) := by decide +kernel
theorem dX4_compare_35 : decode cX4_compare 35 = .ok (.iconst 0, 1) := by decide +kernel
theorem dX4_compare_36 : decode cX4_compare 36 = .ok (.ireturn, 1) := by decide +kernel
theorem dX4_compare_37 : decode cX4_compare 37 = .ok (.lload_n 2, 1) := by decide +kernel
theorem dX4_compare_38 : decode cX4_compare 38 = .ok (.lload 4, 2) := by decide +kernel
theorem dX4_compare_40 : decode cX4_compare 40 = .ok (.ldc2_w 189, 3) := by decide +kernel
theorem dX4_compare_43 : decode cX4_compare 43 = .ok (.lxor, 1) := by decide +kernel
theorem dX4_compare_44 : decode cX4_compare 44 = .ok (.land, 1) := by decide +kernel
theorem dX4_compare_45 : decode cX4_compare 45 = .ok (.lconst 0, 1) := by decide +kernel
theorem dX4_compare_46 : decode cX4_compare 46 = .ok (.lcmp, 1) := by decide +kernel
theorem dX4_compare_47 : decode cX4_compare 47 = .ok (.ifCond .ne 5, 3) := by decide +kernel
theorem dX4_compare_50 : decode cX4_compare 50 = .ok (.iconst 1, 1) := by decide +kernel
theorem dX4_compare_51 : decode cX4_compare 51 = .ok (.ireturn, 1) := by decide +kernel
theorem dX4_compare_52 : decode cX4_compare 52 = .ok (.lload 4, 2) := by decide +kernel
theorem dX4_compare_54 : decode cX4_compare 54 = .ok (.lload_n 2, 1) := by decide +kernel
theorem dX4_compare_55 : decode cX4_compare 55 = .ok (.ldc2_w 189, 3) := by decide +kernel
theorem dX4_compare_58 : decode cX4_compare 58 = .ok (.lxor, 1) := by decide +kernel
theorem dX4_compare_59 : decode cX4_compare 59 = .ok (.land, 1) := by decide +kernel
theorem dX4_compare_60 : decode cX4_compare 60 = .ok (.lconst 0, 1) := by decide +kernel
theorem dX4_compare_61 : decode cX4_compare 61 = .ok (.lcmp, 1) := by decide +kernel
theorem dX4_compare_62 : decode cX4_compare 62 = .ok (.ifCond .ne 7, 3) := by decide +kernel
theorem dX4_compare_65 : decode cX4_compare 65 = .ok (.iconst 2, 1) := by decide +kernel
theorem dX4_compare_66 : decode cX4_compare 66 = .ok (.goto 4, 3) := by decide +kernel
theorem dX4_compare_69 : decode cX4_compare 69 = .ok (.iconst 3, 1) := by decide +kernel
theorem dX4_compare_70 : decode cX4_compare 70 = .ok (.ireturn, 1) := by decide +kernel
set_option maxRecDepth 20000 in
theorem ggX4_count_X0_size : GoodIn wsX4_count wsX0_size := goodIn_r _ [8, 9, 220, 221, 222, 223] (by decide +kernel) (by decide +kernel)
set_option maxRecDepth 20000 in
theorem gX4_count_X0_size : GoodIn wsX4_count (wsV RX4 59 RX0 yX0_size wsX0_size) := goodIn_app (goodIn_of _ (by decide +kernel)) ggX4_count_X0_size
set_option maxRecDepth 20000 in
theorem ggX4_count_X0_sharedSigns : GoodIn wsX4_count wsX0_sharedSigns := goodIn_r _ [13, 14, 15, 16, 7, 17, 9, 18, 19, 20, 21, 22, 23, 24, 25, 26, 27, 28, 29, 30, 31, 32, 33, 34, 35, 36, 220, 221, 222, 223] (by decide +kernel) (by decide +kernel)
set_option maxRecDepth 20000 in
theorem gX4_count_X0_sharedSigns : GoodIn wsX4_count (wsV RX4 182 RX0 yX0_sharedSigns wsX0_sharedSigns) := goodIn_app (goodIn_of _ (by decide +kernel)) ggX4_count_X0_sharedSigns
set_option maxRecDepth 20000 in
theorem ggX4_count_X0_clash : GoodIn wsX4_count wsX0_clash := goodIn_r _ [40, 41, 42, 43, 7, 44, 45, 46, 47, 48, 49, 9, 18, 19, 20, 21, 22, 23, 24, 25, 26, 50, 51, 52, 53, 27, 28, 29, 30, 31, 32, 33, 34, 35, 36, 54, 55, 56, 57, 58, 59, 60, 61, 62, 63, 64, 220, 221, 222, 223] (by decide +kernel) (by decide +kernel)
set_option maxRecDepth 20000 in
theorem gX4_count_X0_clash : GoodIn wsX4_count (wsV RX4 179 RX0 yX0_clash wsX0_clash) := goodIn_app (goodIn_of _ (by decide +kernel)) ggX4_count_X0_clash
set_option maxRecDepth 20000 in
theorem ggX4_count_X4_asNumber : GoodIn wsX4_count wsX4_asNumber := goodIn_r _ [67] (by decide +kernel) (by decide +kernel)
set_option maxRecDepth 20000 in
theorem gX4_count_X4_asNumber : GoodIn wsX4_count (va_wsS RX4 140 yX4_asNumber wsX4_asNumber) := goodIn_app (goodIn_of _ (by decide +kernel)) ggX4_count_X4_asNumber
set_option maxRecDepth 20000 in
theorem ggX4_count_X4_currentProof : GoodIn wsX4_count wsX4_currentProof := goodIn_r _ [71, 72, 73, 1, 74, 75, 76, 77, 78, 79, 80, 81, 82, 83, 84, 85, 15, 16, 7, 17, 9, 18, 19, 20, 21, 22, 23, 24, 25, 26, 27, 28, 29, 30, 31, 32, 33, 34, 35, 36, 86, 5, 6, 8, 87, 88, 89, 90, 91, 92, 93, 94, 54, 55, 56, 57, 58, 59, 60, 61, 62, 63, 64, 95, 96, 97, 98, 99, 100, 101, 102, 103, 104, 105, 106, 107, 108, 109, 110, 111, 112, 113, 114, 115, 116, 117, 118, 119, 120, 121, 122, 123, 124, 125, 126, 127, 128, 129, 130, 131, 132, 133, 134, 135, 136, 137, 138, 139, 140, 141, 142, 143, 144, 145, 146, 147, 148, 149, 150, 151, 152, 153, 154, 155, 156, 157, 158, 159, 160, 161, 162, 163, 164, 165, 212, 213, 214, 215, 216, 217, 218, 219, 224, 225, 226, 227, 228, 229, 230, 231, 232, 233, 234, 235, 236, 237, 220, 221, 222, 223] (by decide +kernel) (by decide +kernel)
set_option maxRecDepth 20000 in
theorem gX4_count_X4_currentProof : GoodIn wsX4_count (wsV RX4 94 RX4 yX4_currentProof wsX4_currentProof) := goodIn_app (goodIn_of _ (by decide +kernel)) ggX4_count_X4_currentProof
set_option maxRecDepth 20000 in
theorem ggX4_count_X4_stepsOf : GoodIn wsX4_count wsX4_stepsOf := goodIn_r _ [168, 169, 170, 171, 77, 172, 80, 173, 174, 175, 176, 79, 224, 225, 226, 227, 228, 229, 230, 231, 232, 233, 234, 235, 236, 237] (by decide +kernel) (by decide +kernel)
set_option maxRecDepth 20000 in
theorem gX4_count_X4_stepsOf : GoodIn wsX4_count (va_wsS RX4 193 yX4_stepsOf wsX4_stepsOf) := goodIn_app (goodIn_of _ (by decide +kernel)) ggX4_count_X4_stepsOf
set_option maxRecDepth 20000 in
theorem ggX4_count_X2_neededAmong : GoodIn wsX4_count wsX2_neededAmong := goodIn_r _ [180, 79, 154, 155, 156, 77, 157, 106, 126, 127, 128, 129, 66, 55, 67, 224, 225, 226, 227, 228, 229, 230, 231, 232, 233, 234, 235, 236, 237] (by decide +kernel) (by decide +kernel)
set_option maxRecDepth 20000 in
theorem gX4_count_X2_neededAmong : GoodIn wsX4_count (wsV RX4 102 RX2 yX2_neededAmong wsX2_neededAmong) := goodIn_app (goodIn_of _ (by decide +kernel)) ggX4_count_X2_neededAmong
set_option maxRecDepth 20000 in
theorem ggX4_count_X2_hasEmptyClause : GoodIn wsX4_count wsX2_hasEmptyClause := goodIn_r _ [184, 81, 224, 225, 226, 227, 228, 229, 230, 231, 232, 233, 234, 235, 236, 237] (by decide +kernel) (by decide +kernel)
set_option maxRecDepth 20000 in
theorem gX4_count_X2_hasEmptyClause : GoodIn wsX4_count (wsV RX4 98 RX2 yX2_hasEmptyClause wsX2_hasEmptyClause) := goodIn_app (goodIn_of _ (by decide +kernel)) ggX4_count_X2_hasEmptyClause
set_option maxRecDepth 20000 in
theorem ggX4_count_X4_worldsOfMiddleClaim : GoodIn wsX4_count wsX4_worldsOfMiddleClaim := goodIn_r _ [187, 181, 182, 183, 77, 184, 81, 188, 189, 190, 191, 79, 138, 139, 140, 141, 104, 105, 126, 127, 128, 129, 192, 193, 194, 195, 196, 197, 198, 224, 225, 226, 227, 228, 229, 230, 231, 232, 233, 234, 235, 236, 237] (by decide +kernel) (by decide +kernel)
set_option maxRecDepth 20000 in
theorem gX4_count_X4_worldsOfMiddleClaim : GoodIn wsX4_count (va_wsS RX4 197 yX4_worldsOfMiddleClaim wsX4_worldsOfMiddleClaim) := goodIn_app (goodIn_of _ (by decide +kernel)) ggX4_count_X4_worldsOfMiddleClaim
set_option maxRecDepth 20000 in
theorem ggX4_count_X0_worldsOfBoth : GoodIn wsX4_count wsX0_worldsOfBoth := goodIn_r _ [44, 45, 46, 47, 7, 48, 49, 9, 18, 19, 20, 21, 22, 23, 24, 25, 26, 50, 51, 52, 53, 27, 28, 29, 30, 31, 32, 33, 34, 35, 36, 54, 55, 56, 57, 58, 59, 60, 61, 62, 63, 64, 220, 221, 222, 223] (by decide +kernel) (by decide +kernel)
set_option maxRecDepth 20000 in
theorem gX4_count_X0_worldsOfBoth : GoodIn wsX4_count (wsV RX4 201 RX0 yX0_worldsOfBoth wsX0_worldsOfBoth) := goodIn_app (goodIn_of _ (by decide +kernel)) ggX4_count_X0_worldsOfBoth
set_option maxRecDepth 20000 in
theorem ggX4_count_J13_bitCount_95d88 : GoodIn wsX4_count wsJ13_bitCount_95d88 := goodIn_r _ [195, 196, 197, 198] (by decide +kernel) (by decide +kernel)
set_option maxRecDepth 20000 in
theorem gX4_count_J13_bitCount_95d88 : GoodIn wsX4_count (va_wsS RX4 134 yJ13_bitCount_95d88 wsJ13_bitCount_95d88) := goodIn_app (goodIn_of _ (by decide +kernel)) ggX4_count_J13_bitCount_95d88
set_option maxRecDepth 20000 in
theorem ggX4_count_X1_size : GoodIn wsX4_count wsX1_size := goodIn_r _ [204, 205, 238, 239] (by decide +kernel) (by decide +kernel)
set_option maxRecDepth 20000 in
theorem gX4_count_X1_size : GoodIn wsX4_count (wsV RX4 117 RX1 yX1_size wsX1_size) := goodIn_app (goodIn_of _ (by decide +kernel)) ggX4_count_X1_size
set_option maxRecDepth 20000 in
theorem ggX4_count_X3_length : GoodIn wsX4_count wsX3_length := goodIn_r _ [210, 211, 240, 241, 242, 243, 244, 245, 246] (by decide +kernel) (by decide +kernel)
set_option maxRecDepth 20000 in
theorem gX4_count_X3_length : GoodIn wsX4_count (wsV RX4 111 RX3 yX3_length wsX3_length) := goodIn_app (goodIn_of _ (by decide +kernel)) ggX4_count_X3_length
theorem dX4_count_0 : decode cX4_count 0 = .ok (.iload_n 1, 1) := by decide +kernel
theorem dX4_count_1 : decode cX4_count 1 = .ok (.tableswitch 161 0 10 #[59, 67, 75, 86, 94, 105, 116, 125, 134, 145, 153], 59) := by decide +kernel
theorem dX4_count_60 : decode cX4_count 60 = .ok (.aload_n 0, 1) := by decide +kernel
theorem dX4_count_61 : decode cX4_count 61 = .ok (.getfield 14, 3) := by decide +kernel
theorem dX4_count_64 : decode cX4_count 64 = .ok (.invokevirtual 59, 3) := by decide +kernel
theorem dX4_count_67 : decode cX4_count 67 = .ok (.ireturn, 1) := by decide +kernel
theorem dX4_count_68 : decode cX4_count 68 = .ok (.aload_n 0, 1) := by decide +kernel
theorem dX4_count_69 : decode cX4_count 69 = .ok (.getfield 14, 3) := by decide +kernel
theorem dX4_count_72 : decode cX4_count 72 = .ok (.invokevirtual 182, 3) := by decide +kernel
theorem dX4_count_75 : decode cX4_count 75 = .ok (.ireturn, 1) := by decide +kernel
theorem dX4_count_76 : decode cX4_count 76 = .ok (.aload_n 0, 1) := by decide +kernel
theorem dX4_count_77 : decode cX4_count 77 = .ok (.getfield 14, 3) := by decide +kernel
theorem dX4_count_80 : decode cX4_count 80 = .ok (.invokevirtual 179, 3) := by decide +kernel
theorem dX4_count_83 : decode cX4_count 83 = .ok (.invokestatic 140, 3) := by decide +kernel
theorem dX4_count_86 : decode cX4_count 86 = .ok (.ireturn, 1) := by decide +kernel
theorem dX4_count_87 : decode cX4_count 87 = .ok (.aload_n 0, 1) := by decide +kernel
theorem dX4_count_88 : decode cX4_count 88 = .ok (.invokevirtual 94, 3) := by decide +kernel
theorem dX4_count_91 : decode cX4_count 91 = .ok (.invokestatic 193, 3) := by decide +kernel
theorem dX4_count_94 : decode cX4_count 94 = .ok (.ireturn, 1) := by decide +kernel
theorem dX4_count_95 : decode cX4_count 95 = .ok (.aload_n 0, 1) := by decide +kernel
theorem dX4_count_96 : decode cX4_count 96 = .ok (.invokevirtual 94, 3) := by decide +kernel
theorem dX4_count_99 : decode cX4_count 99 = .ok (.sipush 400, 3) := by decide +kernel
theorem dX4_count_102 : decode cX4_count 102 = .ok (.invokevirtual 102, 3) := by decide +kernel
theorem dX4_count_105 : decode cX4_count 105 = .ok (.ireturn, 1) := by decide +kernel
theorem dX4_count_106 : decode cX4_count 106 = .ok (.aload_n 0, 1) := by decide +kernel
theorem dX4_count_107 : decode cX4_count 107 = .ok (.invokevirtual 94, 3) := by decide +kernel
theorem dX4_count_110 : decode cX4_count 110 = .ok (.invokevirtual 98, 3) := by decide +kernel
theorem dX4_count_113 : decode cX4_count 113 = .ok (.invokestatic 140, 3) := by decide +kernel
theorem dX4_count_116 : decode cX4_count 116 = .ok (.ireturn, 1) := by decide +kernel
theorem dX4_count_117 : decode cX4_count 117 = .ok (.aload_n 0, 1) := by decide +kernel
theorem dX4_count_118 : decode cX4_count 118 = .ok (.invokevirtual 94, 3) := by decide +kernel
theorem dX4_count_121 : decode cX4_count 121 = .ok (.iconst 0, 1) := by decide +kernel
theorem dX4_count_122 : decode cX4_count 122 = .ok (.invokestatic 197, 3) := by decide +kernel
theorem dX4_count_125 : decode cX4_count 125 = .ok (.ireturn, 1) := by decide +kernel
theorem dX4_count_126 : decode cX4_count 126 = .ok (.aload_n 0, 1) := by decide +kernel
theorem dX4_count_127 : decode cX4_count 127 = .ok (.invokevirtual 94, 3) := by decide +kernel
theorem dX4_count_130 : decode cX4_count 130 = .ok (.iconst 1, 1) := by decide +kernel
theorem dX4_count_131 : decode cX4_count 131 = .ok (.invokestatic 197, 3) := by decide +kernel
theorem dX4_count_134 : decode cX4_count 134 = .ok (.ireturn, 1) := by decide +kernel
theorem dX4_count_135 : decode cX4_count 135 = .ok (.aload_n 0, 1) := by decide +kernel
theorem dX4_count_136 : decode cX4_count 136 = .ok (.getfield 14, 3) := by decide +kernel
theorem dX4_count_139 : decode cX4_count 139 = .ok (.invokevirtual 201, 3) := by decide +kernel
theorem dX4_count_142 : decode cX4_count 142 = .ok (.invokestatic 134, 3) := by decide +kernel
theorem dX4_count_145 : decode cX4_count 145 = .ok (.ireturn, 1) := by decide +kernel
theorem dX4_count_146 : decode cX4_count 146 = .ok (.aload_n 0, 1) := by decide +kernel
theorem dX4_count_147 : decode cX4_count 147 = .ok (.getfield 31, 3) := by decide +kernel
theorem dX4_count_150 : decode cX4_count 150 = .ok (.invokevirtual 117, 3) := by decide +kernel
theorem dX4_count_153 : decode cX4_count 153 = .ok (.ireturn, 1) := by decide +kernel
theorem dX4_count_154 : decode cX4_count 154 = .ok (.aload_n 0, 1) := by decide +kernel
theorem dX4_count_155 : decode cX4_count 155 = .ok (.getfield 38, 3) := by decide +kernel
theorem dX4_count_158 : decode cX4_count 158 = .ok (.invokevirtual 111, 3) := by decide +kernel
theorem dX4_count_161 : decode cX4_count 161 = .ok (.ireturn, 1) := by decide +kernel
theorem dX4_count_162 : decode cX4_count 162 = .ok (.bipush (-2), 2) := by decide +kernel
theorem dX4_count_164 : decode cX4_count 164 = .ok (.ireturn, 1) := by decide +kernel
set_option maxRecDepth 20000 in
theorem ggX4_beginAct_X1_remember : GoodIn wsX4_beginAct wsX1_remember := goodIn_r _ [8, 9, 10, 11, 12, 13, 7, 14, 15, 16, 17, 18, 19, 20, 21, 22, 23, 24, 25, 26, 27, 28, 29, 30, 31, 32, 33, 34, 35, 36, 37, 38, 39, 40, 41, 42, 43, 44, 45, 46, 47, 48, 49, 50, 51, 52, 53, 54, 55, 64, 65, 66, 67, 68, 69] (by decide +kernel) (by decide +kernel)
set_option maxRecDepth 20000 in
theorem gX4_beginAct_X1_remember : GoodIn wsX4_beginAct (wsV RX4 205 RX1 yX1_remember wsX1_remember) := goodIn_app (goodIn_of _ (by decide +kernel)) ggX4_beginAct_X1_remember
theorem dX4_beginAct_0 : decode cX4_beginAct 0 = .ok (.aload_n 0, 1) := by decide +kernel
theorem dX4_beginAct_1 : decode cX4_beginAct 1 = .ok (.getfield 31, 3) := by decide +kernel
theorem dX4_beginAct_4 : decode cX4_beginAct 4 = .ok (.aload_n 0, 1) := by decide +kernel
theorem dX4_beginAct_5 : decode cX4_beginAct 5 = .ok (.getfield 14, 3) := by decide +kernel
theorem dX4_beginAct_8 : decode cX4_beginAct 8 = .ok (.invokevirtual 205, 3) := by decide +kernel
theorem dX4_beginAct_11 : decode cX4_beginAct 11 = .ok (.aload_n 0, 1) := by decide +kernel
theorem dX4_beginAct_12 : decode cX4_beginAct 12 = .ok (.iconst 0, 1) := by decide +kernel
theorem dX4_beginAct_13 : decode cX4_beginAct 13 = .ok (.putfield 49, 3) := by decide +kernel
theorem dX4_beginAct_16 : decode cX4_beginAct 16 = .ok (.return_, 1) := by decide +kernel
set_option maxRecDepth 20000 in
theorem ggX4_currentProof_X2_make : GoodIn wsX4_currentProof wsX2_make := goodIn_r _ [8, 9, 10, 11, 12, 13, 14, 15, 16, 17, 18, 19, 20, 21, 22, 23, 24, 25, 26, 27, 28, 29, 30, 31, 32, 33, 34, 35, 36, 37, 38, 39, 40, 41, 42, 43, 44, 45, 46, 47, 48, 49, 7, 50, 51, 52, 53, 54, 55, 56, 57, 58, 59, 60, 61, 62, 63, 64, 65, 66, 67, 68, 69, 70, 71, 72, 73, 74, 75, 76, 77, 78, 79, 80, 81, 82, 83, 84, 85, 86, 87, 88, 89, 90, 91, 92, 93, 94, 95, 96, 97, 98, 99, 100, 101, 102, 103, 104, 105, 106, 107, 108, 109, 110, 111, 112, 113, 114, 115, 116, 117, 118, 119, 120, 121, 122, 123, 124, 125, 126, 127, 128, 129, 130, 131, 132, 133, 142, 143, 144, 145, 146, 147, 148, 149, 150, 151, 152, 153, 154, 155, 156, 157, 158, 159] (by decide +kernel) (by decide +kernel)
set_option maxRecDepth 20000 in
theorem gX4_currentProof_X2_make : GoodIn wsX4_currentProof (wsV RX4 208 RX2 yX2_make wsX2_make) := goodIn_app (goodIn_of _ (by decide +kernel)) ggX4_currentProof_X2_make
theorem dX4_currentProof_0 : decode cX4_currentProof 0 = .ok (.aload_n 0, 1) := by decide +kernel
theorem dX4_currentProof_1 : decode cX4_currentProof 1 = .ok (.getfield 49, 3) := by decide +kernel
theorem dX4_currentProof_4 : decode cX4_currentProof 4 = .ok (.ifCond .ne 19, 3) := by decide +kernel
theorem dX4_currentProof_7 : decode cX4_currentProof 7 = .ok (.aload_n 0, 1) := by decide +kernel
theorem dX4_currentProof_8 : decode cX4_currentProof 8 = .ok (.getfield 45, 3) := by decide +kernel
theorem dX4_currentProof_11 : decode cX4_currentProof 11 = .ok (.aload_n 0, 1) := by decide +kernel
theorem dX4_currentProof_12 : decode cX4_currentProof 12 = .ok (.getfield 14, 3) := by decide +kernel
theorem dX4_currentProof_15 : decode cX4_currentProof 15 = .ok (.invokevirtual 208, 3) := by decide +kernel
theorem dX4_currentProof_18 : decode cX4_currentProof 18 = .ok (.aload_n 0, 1) := by decide +kernel
theorem dX4_currentProof_19 : decode cX4_currentProof 19 = .ok (.iconst 1, 1) := by decide +kernel
theorem dX4_currentProof_20 : decode cX4_currentProof 20 = .ok (.putfield 49, 3) := by decide +kernel
theorem dX4_currentProof_23 : decode cX4_currentProof 23 = .ok (.aload_n 0, 1) := by decide +kernel
theorem dX4_currentProof_24 : decode cX4_currentProof 24 = .ok (.getfield 45, 3) := by decide +kernel
theorem dX4_currentProof_27 : decode cX4_currentProof 27 = .ok (.areturn, 1) := by decide +kernel
set_option maxRecDepth 20000 in
theorem ggX4_stepsOf_X2_isKnown : GoodIn wsX4_stepsOf wsX2_isKnown := goodIn_r _ [5, 6, 12, 13, 14, 15, 16, 17, 18, 19, 20, 21, 22, 23, 24, 25] (by decide +kernel) (by decide +kernel)
set_option maxRecDepth 20000 in
theorem gX4_stepsOf_X2_isKnown : GoodIn wsX4_stepsOf (wsV RX4 153 RX2 yX2_isKnown wsX2_isKnown) := goodIn_app (goodIn_of _ (by decide +kernel)) ggX4_stepsOf_X2_isKnown
set_option maxRecDepth 20000 in
theorem ggX4_stepsOf_X2_size : GoodIn wsX4_stepsOf wsX2_size := goodIn_r _ [10, 11, 12, 13, 14, 15, 16, 17, 18, 19, 20, 21, 22, 23, 24, 25] (by decide +kernel) (by decide +kernel)
set_option maxRecDepth 20000 in
theorem gX4_stepsOf_X2_size : GoodIn wsX4_stepsOf (wsV RX4 211 RX2 yX2_size wsX2_size) := goodIn_app (goodIn_of _ (by decide +kernel)) ggX4_stepsOf_X2_size
theorem dX4_stepsOf_0 : decode cX4_stepsOf 0 = .ok (.aload_n 0, 1) := by decide +kernel
theorem dX4_stepsOf_1 : decode cX4_stepsOf 1 = .ok (.invokevirtual 153, 3) := by decide +kernel
theorem dX4_stepsOf_4 : decode cX4_stepsOf 4 = .ok (.ifCond .eq 10, 3) := by decide +kernel
theorem dX4_stepsOf_7 : decode cX4_stepsOf 7 = .ok (.aload_n 0, 1) := by decide +kernel
theorem dX4_stepsOf_8 : decode cX4_stepsOf 8 = .ok (.invokevirtual 211, 3) := by decide +kernel
theorem dX4_stepsOf_11 : decode cX4_stepsOf 11 = .ok (.goto 6, 3) := by decide +kernel
theorem dX4_stepsOf_14 : decode cX4_stepsOf 14 = .ok (.sipush 401, 3) := by decide +kernel
theorem dX4_stepsOf_17 : decode cX4_stepsOf 17 = .ok (.ireturn, 1) := by decide +kernel
set_option maxRecDepth 20000 in
theorem ggX4_worldsOfMiddleClaim_X2_hasEmptyClause : GoodIn wsX4_worldsOfMiddleClaim wsX2_hasEmptyClause := goodIn_r _ [5, 6, 29, 30, 31, 32, 33, 34, 35, 36, 37, 38, 39, 40, 41, 42] (by decide +kernel) (by decide +kernel)
set_option maxRecDepth 20000 in
theorem gX4_worldsOfMiddleClaim_X2_hasEmptyClause : GoodIn wsX4_worldsOfMiddleClaim (wsV RX4 98 RX2 yX2_hasEmptyClause wsX2_hasEmptyClause) := goodIn_app (goodIn_of _ (by decide +kernel)) ggX4_worldsOfMiddleClaim_X2_hasEmptyClause
set_option maxRecDepth 20000 in
theorem ggX4_worldsOfMiddleClaim_X2_middleClaim : GoodIn wsX4_worldsOfMiddleClaim wsX2_middleClaim := goodIn_r _ [10, 11, 12, 13, 14, 4, 15, 16, 17, 18, 19, 20, 21, 29, 30, 31, 32, 33, 34, 35, 36, 37, 38, 39, 40, 41, 42] (by decide +kernel) (by decide +kernel)
set_option maxRecDepth 20000 in
theorem gX4_worldsOfMiddleClaim_X2_middleClaim : GoodIn wsX4_worldsOfMiddleClaim (wsV RX4 172 RX2 yX2_middleClaim wsX2_middleClaim) := goodIn_app (goodIn_of _ (by decide +kernel)) ggX4_worldsOfMiddleClaim_X2_middleClaim
set_option maxRecDepth 20000 in
theorem ggX4_worldsOfMiddleClaim_J13_bitCount_95d88 : GoodIn wsX4_worldsOfMiddleClaim wsJ13_bitCount_95d88 := goodIn_r _ [25, 26, 27, 28] (by decide +kernel) (by decide +kernel)
set_option maxRecDepth 20000 in
theorem gX4_worldsOfMiddleClaim_J13_bitCount_95d88 : GoodIn wsX4_worldsOfMiddleClaim (va_wsS RX4 134 yJ13_bitCount_95d88 wsJ13_bitCount_95d88) := goodIn_app (goodIn_of _ (by decide +kernel)) ggX4_worldsOfMiddleClaim_J13_bitCount_95d88
theorem dX4_worldsOfMiddleClaim_0 : decode cX4_worldsOfMiddleClaim 0 = .ok (.aload_n 0, 1) := by decide +kernel
theorem dX4_worldsOfMiddleClaim_1 : decode cX4_worldsOfMiddleClaim 1 = .ok (.invokevirtual 98, 3) := by decide +kernel
theorem dX4_worldsOfMiddleClaim_4 : decode cX4_worldsOfMiddleClaim 4 = .ok (.ifCond .eq 14, 3) := by decide +kernel
theorem dX4_worldsOfMiddleClaim_7 : decode cX4_worldsOfMiddleClaim 7 = .ok (.aload_n 0, 1) := by decide +kernel
theorem dX4_worldsOfMiddleClaim_8 : decode cX4_worldsOfMiddleClaim 8 = .ok (.iload_n 1, 1) := by decide +kernel
theorem dX4_worldsOfMiddleClaim_9 : decode cX4_worldsOfMiddleClaim 9 = .ok (.invokevirtual 172, 3) := by decide +kernel
theorem dX4_worldsOfMiddleClaim_12 : decode cX4_worldsOfMiddleClaim 12 = .ok (.invokestatic 134, 3) := by decide +kernel
theorem dX4_worldsOfMiddleClaim_15 : decode cX4_worldsOfMiddleClaim 15 = .ok (.goto 5, 3) := by decide +kernel
theorem dX4_worldsOfMiddleClaim_18 : decode cX4_worldsOfMiddleClaim 18 = .ok (.bipush (-5), 2) := by decide +kernel
theorem dX4_worldsOfMiddleClaim_20 : decode cX4_worldsOfMiddleClaim 20 = .ok (.ireturn, 1) := by decide +kernel
theorem dX4_isZeroOrOne_0 : decode cX4_isZeroOrOne 0 = .ok (.iload_n 0, 1) := by decide +kernel
theorem dX4_isZeroOrOne_1 : decode cX4_isZeroOrOne 1 = .ok (.ifCond .eq 8, 3) := by decide +kernel
theorem dX4_isZeroOrOne_4 : decode cX4_isZeroOrOne 4 = .ok (.iload_n 0, 1) := by decide +kernel
theorem dX4_isZeroOrOne_5 : decode cX4_isZeroOrOne 5 = .ok (.iconst 1, 1) := by decide +kernel
theorem dX4_isZeroOrOne_6 : decode cX4_isZeroOrOne 6 = .ok (.if_icmp .ne 7, 3) := by decide +kernel
theorem dX4_isZeroOrOne_9 : decode cX4_isZeroOrOne 9 = .ok (.iconst 1, 1) := by decide +kernel
theorem dX4_isZeroOrOne_10 : decode cX4_isZeroOrOne 10 = .ok (.goto 4, 3) := by decide +kernel
theorem dX4_isZeroOrOne_13 : decode cX4_isZeroOrOne 13 = .ok (.iconst 0, 1) := by decide +kernel
theorem dX4_isZeroOrOne_14 : decode cX4_isZeroOrOne 14 = .ok (.ireturn, 1) := by decide +kernel
theorem dX4_isSetOfSigns_0 : decode cX4_isSetOfSigns 0 = .ok (.iload_n 0, 1) := by decide +kernel
theorem dX4_isSetOfSigns_1 : decode cX4_isSetOfSigns 1 = .ok (.ifCond .lt 13, 3) := by decide +kernel
theorem dX4_isSetOfSigns_4 : decode cX4_isSetOfSigns 4 = .ok (.iload_n 0, 1) := by decide +kernel
theorem dX4_isSetOfSigns_5 : decode cX4_isSetOfSigns 5 = .ok (.bipush 63, 2) := by decide +kernel
theorem dX4_isSetOfSigns_7 : decode cX4_isSetOfSigns 7 = .ok (.if_icmp .gt 7, 3) := by decide +kernel
theorem dX4_isSetOfSigns_10 : decode cX4_isSetOfSigns 10 = .ok (.iconst 1, 1) := by decide +kernel
theorem dX4_isSetOfSigns_11 : decode cX4_isSetOfSigns 11 = .ok (.goto 4, 3) := by decide +kernel
theorem dX4_isSetOfSigns_14 : decode cX4_isSetOfSigns 14 = .ok (.iconst 0, 1) := by decide +kernel
theorem dX4_isSetOfSigns_15 : decode cX4_isSetOfSigns 15 = .ok (.ireturn, 1) := by decide +kernel
theorem dX4_asNumber_0 : decode cX4_asNumber 0 = .ok (.iload_n 0, 1) := by decide +kernel
theorem dX4_asNumber_1 : decode cX4_asNumber 1 = .ok (.ifCond .eq 7, 3) := by decide +kernel
theorem dX4_asNumber_4 : decode cX4_asNumber 4 = .ok (.iconst 1, 1) := by decide +kernel
theorem dX4_asNumber_5 : decode cX4_asNumber 5 = .ok (.goto 4, 3) := by decide +kernel
theorem dX4_asNumber_8 : decode cX4_asNumber 8 = .ok (.iconst 0, 1) := by decide +kernel
theorem dX4_asNumber_9 : decode cX4_asNumber 9 = .ok (.ireturn, 1) := by decide +kernel
theorem dX4_isIn_0 : decode cX4_isIn 0 = .ok (.iload_n 1, 1) := by decide +kernel
theorem dX4_isIn_1 : decode cX4_isIn 1 = .ok (.iload_n 0, 1) := by decide +kernel
theorem dX4_isIn_2 : decode cX4_isIn 2 = .ok (.ishr, 1) := by decide +kernel
theorem dX4_isIn_3 : decode cX4_isIn 3 = .ok (.iconst 1, 1) := by decide +kernel
theorem dX4_isIn_4 : decode cX4_isIn 4 = .ok (.iand, 1) := by decide +kernel
theorem dX4_isIn_5 : decode cX4_isIn 5 = .ok (.ifCond .eq 7, 3) := by decide +kernel
theorem dX4_isIn_8 : decode cX4_isIn 8 = .ok (.iconst 1, 1) := by decide +kernel
theorem dX4_isIn_9 : decode cX4_isIn 9 = .ok (.goto 4, 3) := by decide +kernel
theorem dX4_isIn_12 : decode cX4_isIn 12 = .ok (.iconst 0, 1) := by decide +kernel
theorem dX4_isIn_13 : decode cX4_isIn 13 = .ok (.ireturn, 1) := by decide +kernel
theorem dX4_halfOf_0 : decode cX4_halfOf 0 = .ok (.iload_n 2, 1) := by decide +kernel
theorem dX4_halfOf_1 : decode cX4_halfOf 1 = .ok (.ifCond .ne 8, 3) := by decide +kernel
theorem dX4_halfOf_4 : decode cX4_halfOf 4 = .ok (.lload_n 0, 1) := by decide +kernel
theorem dX4_halfOf_5 : decode cX4_halfOf 5 = .ok (.l2i, 1) := by decide +kernel
theorem dX4_halfOf_6 : decode cX4_halfOf 6 = .ok (.goto 8, 3) := by decide +kernel
theorem dX4_halfOf_9 : decode cX4_halfOf 9 = .ok (.lload_n 0, 1) := by decide +kernel
theorem dX4_halfOf_10 : decode cX4_halfOf 10 = .ok (.bipush 32, 2) := by decide +kernel
theorem dX4_halfOf_12 : decode cX4_halfOf 12 = .ok (.lushr, 1) := by decide +kernel
theorem dX4_halfOf_13 : decode cX4_halfOf 13 = .ok (.l2i, 1) := by decide +kernel
theorem dX4_halfOf_14 : decode cX4_halfOf 14 = .ok (.ireturn, 1) := by decide +kernel
set_option maxRecDepth 20000 in
theorem ggX4_lowestWorld_J13_bitCount_95d88 : GoodIn wsX4_lowestWorld wsJ13_bitCount_95d88 := goodIn_r _ [4, 5, 6, 7] (by decide +kernel) (by decide +kernel)
set_option maxRecDepth 20000 in
theorem gX4_lowestWorld_J13_bitCount_95d88 : GoodIn wsX4_lowestWorld (va_wsS RX4 134 yJ13_bitCount_95d88 wsJ13_bitCount_95d88) := goodIn_app (goodIn_of _ (by decide +kernel)) ggX4_lowestWorld_J13_bitCount_95d88
theorem dX4_lowestWorld_0 : decode cX4_lowestWorld 0 = .ok (.lload_n 0, 1) := by decide +kernel
theorem dX4_lowestWorld_1 : decode cX4_lowestWorld 1 = .ok (.lconst 0, 1) := by decide +kernel
theorem dX4_lowestWorld_2 : decode cX4_lowestWorld 2 = .ok (.lcmp, 1) := by decide +kernel
theorem dX4_lowestWorld_3 : decode cX4_lowestWorld 3 = .ok (.ifCond .ne 8, 3) := by decide +kernel
theorem dX4_lowestWorld_6 : decode cX4_lowestWorld 6 = .ok (.bipush (-5), 2) := by decide +kernel
theorem dX4_lowestWorld_8 : decode cX4_lowestWorld 8 = .ok (.goto 12, 3) := by decide +kernel
theorem dX4_lowestWorld_11 : decode cX4_lowestWorld 11 = .ok (.lload_n 0, 1) := by decide +kernel
theorem dX4_lowestWorld_12 : decode cX4_lowestWorld 12 = .ok (.lload_n 0, 1) := by decide +kernel
theorem dX4_lowestWorld_13 : decode cX4_lowestWorld 13 = .ok (.lneg, 1) := by decide +kernel
theorem dX4_lowestWorld_14 : decode cX4_lowestWorld 14 = .ok (.land, 1) := by decide +kernel
theorem dX4_lowestWorld_15 : decode cX4_lowestWorld 15 = .ok (.lconst 1, 1) := by decide +kernel
theorem dX4_lowestWorld_16 : decode cX4_lowestWorld 16 = .ok (.lsub, 1) := by decide +kernel
theorem dX4_lowestWorld_17 : decode cX4_lowestWorld 17 = .ok (.invokestatic 134, 3) := by decide +kernel
theorem dX4_lowestWorld_20 : decode cX4_lowestWorld 20 = .ok (.ireturn, 1) := by decide +kernel
theorem dX4_worldsOfSign_0 : decode cX4_worldsOfSign 0 = .ok (.iload_n 0, 1) := by decide +kernel
theorem dX4_worldsOfSign_1 : decode cX4_worldsOfSign 1 = .ok (.ifCond .lt 19, 3) := by decide +kernel
theorem dX4_worldsOfSign_4 : decode cX4_worldsOfSign 4 = .ok (.iload_n 0, 1) := by decide +kernel
theorem dX4_worldsOfSign_5 : decode cX4_worldsOfSign 5 = .ok (.getstatic 212, 3) := by decide +kernel
theorem dX4_worldsOfSign_8 : decode cX4_worldsOfSign 8 = .ok (.arraylength, 1) := by decide +kernel
theorem dX4_worldsOfSign_9 : decode cX4_worldsOfSign 9 = .ok (.if_icmp .ge 11, 3) := by decide +kernel
theorem dX4_worldsOfSign_12 : decode cX4_worldsOfSign 12 = .ok (.getstatic 212, 3) := by decide +kernel
theorem dX4_worldsOfSign_15 : decode cX4_worldsOfSign 15 = .ok (.iload_n 0, 1) := by decide +kernel
theorem dX4_worldsOfSign_16 : decode cX4_worldsOfSign 16 = .ok (.laload, 1) := by decide +kernel
theorem dX4_worldsOfSign_17 : decode cX4_worldsOfSign 17 = .ok (.goto 4, 3) := by decide +kernel
theorem dX4_worldsOfSign_20 : decode cX4_worldsOfSign 20 = .ok (.lconst 0, 1) := by decide +kernel
theorem dX4_worldsOfSign_21 : decode cX4_worldsOfSign 21 = .ok (.lreturn, 1) := by decide +kernel
set_option maxRecDepth 20000 in
theorem ggX4_worldsOfLiterals_X4_isIn : GoodIn wsX4_worldsOfLiterals wsX4_isIn := goodIn_r _ [5] (by decide +kernel) (by decide +kernel)
set_option maxRecDepth 20000 in
theorem gX4_worldsOfLiterals_X4_isIn : GoodIn wsX4_worldsOfLiterals (va_wsS RX4 216 yX4_isIn wsX4_isIn) := goodIn_app (goodIn_of _ (by decide +kernel)) ggX4_worldsOfLiterals_X4_isIn
set_option maxRecDepth 20000 in
theorem ggX4_worldsOfLiterals_X4_worldsOfSign : GoodIn wsX4_worldsOfLiterals wsX4_worldsOfSign := goodIn_r _ [8, 9] (by decide +kernel) (by decide +kernel)
set_option maxRecDepth 20000 in
theorem gX4_worldsOfLiterals_X4_worldsOfSign : GoodIn wsX4_worldsOfLiterals (va_wsS RX4 220 yX4_worldsOfSign wsX4_worldsOfSign) := goodIn_app (goodIn_of _ (by decide +kernel)) ggX4_worldsOfLiterals_X4_worldsOfSign
theorem dX4_worldsOfLiterals_0 : decode cX4_worldsOfLiterals 0 = .ok (.lconst 0, 1) := by decide +kernel
theorem dX4_worldsOfLiterals_1 : decode cX4_worldsOfLiterals 1 = .ok (.lstore_n 2, 1) := by decide +kernel
theorem dX4_worldsOfLiterals_2 : decode cX4_worldsOfLiterals 2 = .ok (.iconst 0, 1) := by decide +kernel
theorem dX4_worldsOfLiterals_3 : decode cX4_worldsOfLiterals 3 = .ok (.istore 4, 2) := by decide +kernel
theorem dX4_worldsOfLiterals_5 : decode cX4_worldsOfLiterals 5 = .ok (.iload 4, 2) := by decide +kernel
theorem dX4_worldsOfLiterals_7 : decode cX4_worldsOfLiterals 7 = .ok (.bipush 6, 2) := by decide +kernel
theorem dX4_worldsOfLiterals_9 : decode cX4_worldsOfLiterals 9 = .ok (.if_icmp .ge 47, 3) := by decide +kernel
theorem dX4_worldsOfLiterals_12 : decode cX4_worldsOfLiterals 12 = .ok (.iload 4, 2) := by decide +kernel
theorem dX4_worldsOfLiterals_14 : decode cX4_worldsOfLiterals 14 = .ok (.iload_n 0, 1) := by decide +kernel
theorem dX4_worldsOfLiterals_15 : decode cX4_worldsOfLiterals 15 = .ok (.invokestatic 216, 3) := by decide +kernel
theorem dX4_worldsOfLiterals_18 : decode cX4_worldsOfLiterals 18 = .ok (.ifCond .eq 11, 3) := by decide +kernel
theorem dX4_worldsOfLiterals_21 : decode cX4_worldsOfLiterals 21 = .ok (.lload_n 2, 1) := by decide +kernel
theorem dX4_worldsOfLiterals_22 : decode cX4_worldsOfLiterals 22 = .ok (.iload 4, 2) := by decide +kernel
theorem dX4_worldsOfLiterals_24 : decode cX4_worldsOfLiterals 24 = .ok (.invokestatic 220, 3) := by decide +kernel
theorem dX4_worldsOfLiterals_27 : decode cX4_worldsOfLiterals 27 = .ok (.lor, 1) := by decide +kernel
theorem dX4_worldsOfLiterals_28 : decode cX4_worldsOfLiterals 28 = .ok (.lstore_n 2, 1) := by decide +kernel
theorem dX4_worldsOfLiterals_29 : decode cX4_worldsOfLiterals 29 = .ok (.iload 4, 2) := by decide +kernel
theorem dX4_worldsOfLiterals_31 : decode cX4_worldsOfLiterals 31 = .ok (.iload_n 1, 1) := by decide +kernel
theorem dX4_worldsOfLiterals_32 : decode cX4_worldsOfLiterals 32 = .ok (.invokestatic 216, 3) := by decide +kernel
theorem dX4_worldsOfLiterals_35 : decode cX4_worldsOfLiterals 35 = .ok (.ifCond .eq 15, 3) := by decide +kernel
theorem dX4_worldsOfLiterals_38 : decode cX4_worldsOfLiterals 38 = .ok (.lload_n 2, 1) := by decide +kernel
theorem dX4_worldsOfLiterals_39 : decode cX4_worldsOfLiterals 39 = .ok (.iload 4, 2) := by decide +kernel
theorem dX4_worldsOfLiterals_41 : decode cX4_worldsOfLiterals 41 = .ok (.invokestatic 220, 3) := by decide +kernel
theorem dX4_worldsOfLiterals_44 : decode cX4_worldsOfLiterals 44 = .ok (.ldc2_w 189, 3) := by decide +kernel
theorem dX4_worldsOfLiterals_47 : decode cX4_worldsOfLiterals 47 = .ok (.lxor, 1) := by decide +kernel
theorem dX4_worldsOfLiterals_48 : decode cX4_worldsOfLiterals 48 = .ok (.lor, 1) := by decide +kernel
theorem dX4_worldsOfLiterals_49 : decode cX4_worldsOfLiterals 49 = .ok (.lstore_n 2, 1) := by decide +kernel
theorem dX4_worldsOfLiterals_50 : decode cX4_worldsOfLiterals 50 = .ok (.iinc 4 1, 3) := by decide +kernel
theorem dX4_worldsOfLiterals_53 : decode cX4_worldsOfLiterals 53 = .ok (.goto (-48), 3) := by decide +kernel
theorem dX4_worldsOfLiterals_56 : decode cX4_worldsOfLiterals 56 = .ok (.lload_n 2, 1) := by decide +kernel
theorem dX4_worldsOfLiterals_57 : decode cX4_worldsOfLiterals 57 = .ok (.lreturn, 1) := by decide +kernel
set_option maxRecDepth 20000 in
theorem ggX4_spread_X4_isIn : GoodIn wsX4_spread wsX4_isIn := goodIn_r _ [5] (by decide +kernel) (by decide +kernel)
set_option maxRecDepth 20000 in
theorem gX4_spread_X4_isIn : GoodIn wsX4_spread (va_wsS RX4 216 yX4_isIn wsX4_isIn) := goodIn_app (goodIn_of _ (by decide +kernel)) ggX4_spread_X4_isIn
set_option maxRecDepth 20000 in
theorem ggX4_spread_X4_worldsOfSign : GoodIn wsX4_spread wsX4_worldsOfSign := goodIn_r _ [8, 9] (by decide +kernel) (by decide +kernel)
set_option maxRecDepth 20000 in
theorem gX4_spread_X4_worldsOfSign : GoodIn wsX4_spread (va_wsS RX4 220 yX4_worldsOfSign wsX4_worldsOfSign) := goodIn_app (goodIn_of _ (by decide +kernel)) ggX4_spread_X4_worldsOfSign
theorem dX4_spread_0 : decode cX4_spread 0 = .ok (.lload_n 0, 1) := by decide +kernel
theorem dX4_spread_1 : decode cX4_spread 1 = .ok (.lstore_n 3, 1) := by decide +kernel
theorem dX4_spread_2 : decode cX4_spread 2 = .ok (.iconst 0, 1) := by decide +kernel
theorem dX4_spread_3 : decode cX4_spread 3 = .ok (.istore 5, 2) := by decide +kernel
theorem dX4_spread_5 : decode cX4_spread 5 = .ok (.iload 5, 2) := by decide +kernel
theorem dX4_spread_7 : decode cX4_spread 7 = .ok (.bipush 6, 2) := by decide +kernel
theorem dX4_spread_9 : decode cX4_spread 9 = .ok (.if_icmp .ge 53, 3) := by decide +kernel
theorem dX4_spread_12 : decode cX4_spread 12 = .ok (.iload 5, 2) := by decide +kernel
theorem dX4_spread_14 : decode cX4_spread 14 = .ok (.iload_n 2, 1) := by decide +kernel
theorem dX4_spread_15 : decode cX4_spread 15 = .ok (.invokestatic 216, 3) := by decide +kernel
theorem dX4_spread_18 : decode cX4_spread 18 = .ok (.ifCond .ne 38, 3) := by decide +kernel
theorem dX4_spread_21 : decode cX4_spread 21 = .ok (.iconst 1, 1) := by decide +kernel
theorem dX4_spread_22 : decode cX4_spread 22 = .ok (.iload 5, 2) := by decide +kernel
theorem dX4_spread_24 : decode cX4_spread 24 = .ok (.ishl, 1) := by decide +kernel
theorem dX4_spread_25 : decode cX4_spread 25 = .ok (.istore 6, 2) := by decide +kernel
theorem dX4_spread_27 : decode cX4_spread 27 = .ok (.iload 5, 2) := by decide +kernel
theorem dX4_spread_29 : decode cX4_spread 29 = .ok (.invokestatic 220, 3) := by decide +kernel
theorem dX4_spread_32 : decode cX4_spread 32 = .ok (.lstore 7, 2) := by decide +kernel
theorem dX4_spread_34 : decode cX4_spread 34 = .ok (.lload_n 3, 1) := by decide +kernel
theorem dX4_spread_35 : decode cX4_spread 35 = .ok (.lload_n 3, 1) := by decide +kernel
theorem dX4_spread_36 : decode cX4_spread 36 = .ok (.lload 7, 2) := by decide +kernel
theorem dX4_spread_38 : decode cX4_spread 38 = .ok (.land, 1) := by decide +kernel
theorem dX4_spread_39 : decode cX4_spread 39 = .ok (.iload 6, 2) := by decide +kernel
theorem dX4_spread_41 : decode cX4_spread 41 = .ok (.lushr, 1) := by decide +kernel
theorem dX4_spread_42 : decode cX4_spread 42 = .ok (.lload_n 3, 1) := by decide +kernel
theorem dX4_spread_43 : decode cX4_spread 43 = .ok (.lload 7, 2) := by decide +kernel
theorem dX4_spread_45 : decode cX4_spread 45 = .ok (.ldc2_w 189, 3) := by decide +kernel
theorem dX4_spread_48 : decode cX4_spread 48 = .ok (.lxor, 1) := by decide +kernel
theorem dX4_spread_49 : decode cX4_spread 49 = .ok (.land, 1) := by decide +kernel
theorem dX4_spread_50 : decode cX4_spread 50 = .ok (.iload 6, 2) := by decide +kernel
theorem dX4_spread_52 : decode cX4_spread 52 = .ok (.lshl, 1) := by decide +kernel
theorem dX4_spread_53 : decode cX4_spread 53 = .ok (.lor, 1) := by decide +kernel
theorem dX4_spread_54 : decode cX4_spread 54 = .ok (.lor, 1) := by decide +kernel
theorem dX4_spread_55 : decode cX4_spread 55 = .ok (.lstore_n 3, 1) := by decide +kernel
theorem dX4_spread_56 : decode cX4_spread 56 = .ok (.iinc 5 1, 3) := by decide +kernel
theorem dX4_spread_59 : decode cX4_spread 59 = .ok (.goto (-54), 3) := by decide +kernel
theorem dX4_spread_62 : decode cX4_spread 62 = .ok (.lload_n 3, 1) := by decide +kernel
theorem dX4_spread_63 : decode cX4_spread 63 = .ok (.lreturn, 1) := by decide +kernel
theorem dX5_init_0 : decode cX5_init 0 = .ok (.aload_n 0, 1) := by decide +kernel
theorem dX5_init_1 : decode cX5_init 1 = .ok (.invokespecial 1, 3) := by decide +kernel
theorem dX5_init_4 : decode cX5_init 4 = .ok (.aload_n 0, 1) := by decide +kernel
theorem dX5_init_5 : decode cX5_init 5 = .ok (.bipush 73, 2) := by decide +kernel
theorem dX5_init_7 : decode cX5_init 7 = .ok (.newarray .int, 2) := by decide +kernel
theorem dX5_init_9 : decode cX5_init 9 = .ok (.putfield 7, 3) := by decide +kernel
theorem dX5_init_12 : decode cX5_init 12 = .ok (.aload_n 0, 1) := by decide +kernel
theorem dX5_init_13 : decode cX5_init 13 = .ok (.sipush 292, 3) := by decide +kernel
theorem dX5_init_16 : decode cX5_init 16 = .ok (.newarray .int, 2) := by decide +kernel
theorem dX5_init_18 : decode cX5_init 18 = .ok (.putfield 13, 3) := by decide +kernel
theorem dX5_init_21 : decode cX5_init 21 = .ok (.aload_n 0, 1) := by decide +kernel
theorem dX5_init_22 : decode cX5_init 22 = .ok (.bipush 73, 2) := by decide +kernel
theorem dX5_init_24 : decode cX5_init 24 = .ok (.newarray .int, 2) := by decide +kernel
theorem dX5_init_26 : decode cX5_init 26 = .ok (.putfield 16, 3) := by decide +kernel
theorem dX5_init_29 : decode cX5_init 29 = .ok (.aload_n 0, 1) := by decide +kernel
theorem dX5_init_30 : decode cX5_init 30 = .ok (.bipush 60, 2) := by decide +kernel
theorem dX5_init_32 : decode cX5_init 32 = .ok (.newarray .int, 2) := by decide +kernel
theorem dX5_init_34 : decode cX5_init 34 = .ok (.putfield 19, 3) := by decide +kernel
theorem dX5_init_37 : decode cX5_init 37 = .ok (.aload_n 0, 1) := by decide +kernel
theorem dX5_init_38 : decode cX5_init 38 = .ok (.sipush 400, 3) := by decide +kernel
theorem dX5_init_41 : decode cX5_init 41 = .ok (.newarray .int, 2) := by decide +kernel
theorem dX5_init_43 : decode cX5_init 43 = .ok (.putfield 22, 3) := by decide +kernel
theorem dX5_init_46 : decode cX5_init 46 = .ok (.aload_n 0, 1) := by decide +kernel
theorem dX5_init_47 : decode cX5_init 47 = .ok (.sipush 400, 3) := by decide +kernel
theorem dX5_init_50 : decode cX5_init 50 = .ok (.newarray .int, 2) := by decide +kernel
theorem dX5_init_52 : decode cX5_init 52 = .ok (.putfield 25, 3) := by decide +kernel
theorem dX5_init_55 : decode cX5_init 55 = .ok (.aload_n 0, 1) := by decide +kernel
theorem dX5_init_56 : decode cX5_init 56 = .ok (.sipush 400, 3) := by decide +kernel
theorem dX5_init_59 : decode cX5_init 59 = .ok (.newarray .int, 2) := by decide +kernel
theorem dX5_init_61 : decode cX5_init 61 = .ok (.putfield 28, 3) := by decide +kernel
theorem dX5_init_64 : decode cX5_init 64 = .ok (.aload_n 0, 1) := by decide +kernel
theorem dX5_init_65 : decode cX5_init 65 = .ok (.sipush 400, 3) := by decide +kernel
theorem dX5_init_68 : decode cX5_init 68 = .ok (.newarray .int, 2) := by decide +kernel
theorem dX5_init_70 : decode cX5_init 70 = .ok (.putfield 31, 3) := by decide +kernel
theorem dX5_init_73 : decode cX5_init 73 = .ok (.aload_n 0, 1) := by decide +kernel
theorem dX5_init_74 : decode cX5_init 74 = .ok (.sipush 400, 3) := by decide +kernel
theorem dX5_init_77 : decode cX5_init 77 = .ok (.newarray .int, 2) := by decide +kernel
theorem dX5_init_79 : decode cX5_init 79 = .ok (.putfield 34, 3) := by decide +kernel
theorem dX5_init_82 : decode cX5_init 82 = .ok (.aload_n 0, 1) := by decide +kernel
theorem dX5_init_83 : decode cX5_init 83 = .ok (.sipush 400, 3) := by decide +kernel
theorem dX5_init_86 : decode cX5_init 86 = .ok (.newarray .boolean, 2) := by decide +kernel
theorem dX5_init_88 : decode cX5_init 88 = .ok (.putfield 37, 3) := by decide +kernel
theorem dX5_init_91 : decode cX5_init 91 = .ok (.aload_n 0, 1) := by decide +kernel
theorem dX5_init_92 : decode cX5_init 92 = .ok (.sipush 4096, 3) := by decide +kernel
theorem dX5_init_95 : decode cX5_init 95 = .ok (.newarray .boolean, 2) := by decide +kernel
theorem dX5_init_97 : decode cX5_init 97 = .ok (.putfield 41, 3) := by decide +kernel
theorem dX5_init_100 : decode cX5_init 100 = .ok (.aload_n 0, 1) := by decide +kernel
theorem dX5_init_101 : decode cX5_init 101 = .ok (.sipush 400, 3) := by decide +kernel
theorem dX5_init_104 : decode cX5_init 104 = .ok (.newarray .long, 2) := by decide +kernel
theorem dX5_init_106 : decode cX5_init 106 = .ok (.putfield 44, 3) := by decide +kernel
theorem dX5_init_109 : decode cX5_init 109 = .ok (.aload_n 0, 1) := by decide +kernel
theorem dX5_init_110 : decode cX5_init 110 = .ok (.getfield 7, 3) := by decide +kernel
theorem dX5_init_113 : decode cX5_init 113 = .ok (.iconst 0, 1) := by decide +kernel
theorem dX5_init_114 : decode cX5_init 114 = .ok (.iconst 0, 1) := by decide +kernel
theorem dX5_init_115 : decode cX5_init 115 = .ok (.iastore, 1) := by decide +kernel
theorem dX5_init_116 : decode cX5_init 116 = .ok (.return_, 1) := by decide +kernel
theorem dX5_in_0 : decode cX5_in 0 = .ok (.iload_n 0, 1) := by decide +kernel
theorem dX5_in_1 : decode cX5_in 1 = .ok (.iload_n 1, 1) := by decide +kernel
theorem dX5_in_2 : decode cX5_in 2 = .ok (.if_icmp .lt 12, 3) := by decide +kernel
theorem dX5_in_5 : decode cX5_in 5 = .ok (.iload_n 0, 1) := by decide +kernel
theorem dX5_in_6 : decode cX5_in 6 = .ok (.iload_n 2, 1) := by decide +kernel
theorem dX5_in_7 : decode cX5_in 7 = .ok (.if_icmp .gt 7, 3) := by decide +kernel
theorem dX5_in_10 : decode cX5_in 10 = .ok (.iconst 1, 1) := by decide +kernel
theorem dX5_in_11 : decode cX5_in 11 = .ok (.goto 4, 3) := by decide +kernel
theorem dX5_in_14 : decode cX5_in 14 = .ok (.iconst 0, 1) := by decide +kernel
theorem dX5_in_15 : decode cX5_in 15 = .ok (.ireturn, 1) := by decide +kernel
set_option maxRecDepth 20000 in
theorem ggX5_isClause_X5_in : GoodIn wsX5_isClause wsX5_in := goodIn_r _ [5] (by decide +kernel) (by decide +kernel)
set_option maxRecDepth 20000 in
theorem gX5_isClause_X5_in : GoodIn wsX5_isClause (va_wsS RX5 48 yX5_in wsX5_in) := goodIn_app (goodIn_of _ (by decide +kernel)) ggX5_isClause_X5_in
theorem dX5_isClause_0 : decode cX5_isClause 0 = .ok (.iload_n 1, 1) := by decide +kernel
theorem dX5_isClause_1 : decode cX5_isClause 1 = .ok (.iconst 0, 1) := by decide +kernel
theorem dX5_isClause_2 : decode cX5_isClause 2 = .ok (.aload_n 0, 1) := by decide +kernel
theorem dX5_isClause_3 : decode cX5_isClause 3 = .ok (.getfield 7, 3) := by decide +kernel
theorem dX5_isClause_6 : decode cX5_isClause 6 = .ok (.iconst 0, 1) := by decide +kernel
theorem dX5_isClause_7 : decode cX5_isClause 7 = .ok (.iaload, 1) := by decide +kernel
theorem dX5_isClause_8 : decode cX5_isClause 8 = .ok (.iconst 1, 1) := by decide +kernel
theorem dX5_isClause_9 : decode cX5_isClause 9 = .ok (.isub, 1) := by decide +kernel
theorem dX5_isClause_10 : decode cX5_isClause 10 = .ok (.invokestatic 48, 3) := by decide +kernel
theorem dX5_isClause_13 : decode cX5_isClause 13 = .ok (.ireturn, 1) := by decide +kernel
theorem dX5_know_0 : decode cX5_know 0 = .ok (.aload_n 0, 1) := by decide +kernel
theorem dX5_know_1 : decode cX5_know 1 = .ok (.getfield 52, 3) := by decide +kernel
theorem dX5_know_4 : decode cX5_know 4 = .ok (.iconst 4, 1) := by decide +kernel
theorem dX5_know_5 : decode cX5_know 5 = .ok (.if_icmp .ne 43, 3) := by decide +kernel
theorem dX5_know_8 : decode cX5_know 8 = .ok (.iconst 0, 1) := by decide +kernel
theorem dX5_know_9 : decode cX5_know 9 = .ok (.istore_n 1, 1) := by decide +kernel
theorem dX5_know_10 : decode cX5_know 10 = .ok (.iload_n 1, 1) := by decide +kernel
theorem dX5_know_11 : decode cX5_know 11 = .ok (.sipush 219, 3) := by decide +kernel
theorem dX5_know_14 : decode cX5_know 14 = .ok (.if_icmp .ge 24, 3) := by decide +kernel
theorem dX5_know_17 : decode cX5_know 17 = .ok (.aload_n 0, 1) := by decide +kernel
theorem dX5_know_18 : decode cX5_know 18 = .ok (.getfield 13, 3) := by decide +kernel
theorem dX5_know_21 : decode cX5_know 21 = .ok (.iload_n 1, 1) := by decide +kernel
theorem dX5_know_22 : decode cX5_know 22 = .ok (.aload_n 0, 1) := by decide +kernel
theorem dX5_know_23 : decode cX5_know 23 = .ok (.getfield 13, 3) := by decide +kernel
theorem dX5_know_26 : decode cX5_know 26 = .ok (.bipush 73, 2) := by decide +kernel
theorem dX5_know_28 : decode cX5_know 28 = .ok (.iload_n 1, 1) := by decide +kernel
theorem dX5_know_29 : decode cX5_know 29 = .ok (.iadd, 1) := by decide +kernel
theorem dX5_know_30 : decode cX5_know 30 = .ok (.iaload, 1) := by decide +kernel
theorem dX5_know_31 : decode cX5_know 31 = .ok (.iastore, 1) := by decide +kernel
theorem dX5_know_32 : decode cX5_know 32 = .ok (.iinc 1 1, 3) := by decide +kernel
theorem dX5_know_35 : decode cX5_know 35 = .ok (.goto (-25), 3) := by decide +kernel
theorem dX5_know_38 : decode cX5_know 38 = .ok (.aload_n 0, 1) := by decide +kernel
theorem dX5_know_39 : decode cX5_know 39 = .ok (.dup, 1) := by decide +kernel
theorem dX5_know_40 : decode cX5_know 40 = .ok (.getfield 52, 3) := by decide +kernel
theorem dX5_know_43 : decode cX5_know 43 = .ok (.iconst 1, 1) := by decide +kernel
theorem dX5_know_44 : decode cX5_know 44 = .ok (.isub, 1) := by decide +kernel
theorem dX5_know_45 : decode cX5_know 45 = .ok (.putfield 52, 3) := by decide +kernel
theorem dX5_know_48 : decode cX5_know 48 = .ok (.iconst 0, 1) := by decide +kernel
theorem dX5_know_49 : decode cX5_know 49 = .ok (.istore_n 1, 1) := by decide +kernel
theorem dX5_know_50 : decode cX5_know 50 = .ok (.iload_n 1, 1) := by decide +kernel
theorem dX5_know_51 : decode cX5_know 51 = .ok (.bipush 73, 2) := by decide +kernel
theorem dX5_know_53 : decode cX5_know 53 = .ok (.if_icmp .ge 29, 3) := by decide +kernel
theorem dX5_know_56 : decode cX5_know 56 = .ok (.aload_n 0, 1) := by decide +kernel
theorem dX5_know_57 : decode cX5_know 57 = .ok (.getfield 13, 3) := by decide +kernel
theorem dX5_know_60 : decode cX5_know 60 = .ok (.bipush 73, 2) := by decide +kernel
theorem dX5_know_62 : decode cX5_know 62 = .ok (.aload_n 0, 1) := by decide +kernel
theorem dX5_know_63 : decode cX5_know 63 = .ok (.getfield 52, 3) := by decide +kernel
theorem dX5_know_66 : decode cX5_know 66 = .ok (.imul, 1) := by decide +kernel
theorem dX5_know_67 : decode cX5_know 67 = .ok (.iload_n 1, 1) := by decide +kernel
theorem dX5_know_68 : decode cX5_know 68 = .ok (.iadd, 1) := by decide +kernel
theorem dX5_know_69 : decode cX5_know 69 = .ok (.aload_n 0, 1) := by decide +kernel
theorem dX5_know_70 : decode cX5_know 70 = .ok (.getfield 7, 3) := by decide +kernel
theorem dX5_know_73 : decode cX5_know 73 = .ok (.iload_n 1, 1) := by decide +kernel
theorem dX5_know_74 : decode cX5_know 74 = .ok (.iaload, 1) := by decide +kernel
theorem dX5_know_75 : decode cX5_know 75 = .ok (.iastore, 1) := by decide +kernel
theorem dX5_know_76 : decode cX5_know 76 = .ok (.iinc 1 1, 3) := by decide +kernel
theorem dX5_know_79 : decode cX5_know 79 = .ok (.goto (-29), 3) := by decide +kernel
theorem dX5_know_82 : decode cX5_know 82 = .ok (.aload_n 0, 1) := by decide +kernel
theorem dX5_know_83 : decode cX5_know 83 = .ok (.dup, 1) := by decide +kernel
theorem dX5_know_84 : decode cX5_know 84 = .ok (.getfield 52, 3) := by decide +kernel
theorem dX5_know_87 : decode cX5_know 87 = .ok (.iconst 1, 1) := by decide +kernel
theorem dX5_know_88 : decode cX5_know 88 = .ok (.iadd, 1) := by decide +kernel
theorem dX5_know_89 : decode cX5_know 89 = .ok (.putfield 52, 3) := by decide +kernel
theorem dX5_know_92 : decode cX5_know 92 = .ok (.return_, 1) := by decide +kernel
theorem dX5_bitsOf_0 : decode cX5_bitsOf 0 = .ok (.iconst 0, 1) := by decide +kernel
theorem dX5_bitsOf_1 : decode cX5_bitsOf 1 = .ok (.istore_n 2, 1) := by decide +kernel
theorem dX5_bitsOf_2 : decode cX5_bitsOf 2 = .ok (.iconst 0, 1) := by decide +kernel
theorem dX5_bitsOf_3 : decode cX5_bitsOf 3 = .ok (.istore_n 3, 1) := by decide +kernel
theorem dX5_bitsOf_4 : decode cX5_bitsOf 4 = .ok (.iload_n 3, 1) := by decide +kernel
theorem dX5_bitsOf_5 : decode cX5_bitsOf 5 = .ok (.bipush 64, 2) := by decide +kernel
theorem dX5_bitsOf_7 : decode cX5_bitsOf 7 = .ok (.if_icmp .ge 18, 3) := by decide +kernel
theorem dX5_bitsOf_10 : decode cX5_bitsOf 10 = .ok (.iload_n 2, 1) := by decide +kernel
theorem dX5_bitsOf_11 : decode cX5_bitsOf 11 = .ok (.lload_n 0, 1) := by decide +kernel
theorem dX5_bitsOf_12 : decode cX5_bitsOf 12 = .ok (.iload_n 3, 1) := by decide +kernel
theorem dX5_bitsOf_13 : decode cX5_bitsOf 13 = .ok (.lushr, 1) := by decide +kernel
theorem dX5_bitsOf_14 : decode cX5_bitsOf 14 = .ok (.lconst 1, 1) := by decide +kernel
theorem dX5_bitsOf_15 : decode cX5_bitsOf 15 = .ok (.land, 1) := by decide +kernel
theorem dX5_bitsOf_16 : decode cX5_bitsOf 16 = .ok (.l2i, 1) := by decide +kernel
theorem dX5_bitsOf_17 : decode cX5_bitsOf 17 = .ok (.iadd, 1) := by decide +kernel
theorem dX5_bitsOf_18 : decode cX5_bitsOf 18 = .ok (.istore_n 2, 1) := by decide +kernel
theorem dX5_bitsOf_19 : decode cX5_bitsOf 19 = .ok (.iinc 3 1, 3) := by decide +kernel
theorem dX5_bitsOf_22 : decode cX5_bitsOf 22 = .ok (.goto (-18), 3) := by decide +kernel
theorem dX5_bitsOf_25 : decode cX5_bitsOf 25 = .ok (.iload_n 2, 1) := by decide +kernel
theorem dX5_bitsOf_26 : decode cX5_bitsOf 26 = .ok (.ireturn, 1) := by decide +kernel
theorem dX5_worldsOf_0 : decode cX5_worldsOf 0 = .ok (.lconst 0, 1) := by decide +kernel
theorem dX5_worldsOf_1 : decode cX5_worldsOf 1 = .ok (.lstore_n 1, 1) := by decide +kernel
theorem dX5_worldsOf_2 : decode cX5_worldsOf 2 = .ok (.iconst 0, 1) := by decide +kernel
theorem dX5_worldsOf_3 : decode cX5_worldsOf 3 = .ok (.istore_n 3, 1) := by decide +kernel
theorem dX5_worldsOf_4 : decode cX5_worldsOf 4 = .ok (.iload_n 3, 1) := by decide +kernel
theorem dX5_worldsOf_5 : decode cX5_worldsOf 5 = .ok (.bipush 64, 2) := by decide +kernel
theorem dX5_worldsOf_7 : decode cX5_worldsOf 7 = .ok (.if_icmp .ge 28, 3) := by decide +kernel
theorem dX5_worldsOf_10 : decode cX5_worldsOf 10 = .ok (.lload_n 1, 1) := by decide +kernel
theorem dX5_worldsOf_11 : decode cX5_worldsOf 11 = .ok (.iload_n 3, 1) := by decide +kernel
theorem dX5_worldsOf_12 : decode cX5_worldsOf 12 = .ok (.iload_n 0, 1) := by decide +kernel
theorem dX5_worldsOf_13 : decode cX5_worldsOf 13 = .ok (.ishr, 1) := by decide +kernel
theorem dX5_worldsOf_14 : decode cX5_worldsOf 14 = .ok (.iconst 1, 1) := by decide +kernel
theorem dX5_worldsOf_15 : decode cX5_worldsOf 15 = .ok (.iand, 1) := by decide +kernel
theorem dX5_worldsOf_16 : decode cX5_worldsOf 16 = .ok (.iconst 1, 1) := by decide +kernel
theorem dX5_worldsOf_17 : decode cX5_worldsOf 17 = .ok (.if_icmp .ne 9, 3) := by decide +kernel
theorem dX5_worldsOf_20 : decode cX5_worldsOf 20 = .ok (.lconst 1, 1) := by decide +kernel
theorem dX5_worldsOf_21 : decode cX5_worldsOf 21 = .ok (.iload_n 3, 1) := by decide +kernel
theorem dX5_worldsOf_22 : decode cX5_worldsOf 22 = .ok (.lshl, 1) := by decide +kernel
theorem dX5_worldsOf_23 : decode cX5_worldsOf 23 = .ok (.goto 4, 3) := by decide +kernel
theorem dX5_worldsOf_26 : decode cX5_worldsOf 26 = .ok (.lconst 0, 1) := by decide +kernel
theorem dX5_worldsOf_27 : decode cX5_worldsOf 27 = .ok (.lor, 1) := by decide +kernel
theorem dX5_worldsOf_28 : decode cX5_worldsOf 28 = .ok (.lstore_n 1, 1) := by decide +kernel
theorem dX5_worldsOf_29 : decode cX5_worldsOf 29 = .ok (.iinc 3 1, 3) := by decide +kernel
theorem dX5_worldsOf_32 : decode cX5_worldsOf 32 = .ok (.goto (-28), 3) := by decide +kernel
theorem dX5_worldsOf_35 : decode cX5_worldsOf 35 = .ok (.lload_n 1, 1) := by decide +kernel
theorem dX5_worldsOf_36 : decode cX5_worldsOf 36 = .ok (.lreturn, 1) := by decide +kernel
set_option maxRecDepth 20000 in
theorem ggX5_worldsOfClause_X5_truths : GoodIn wsX5_worldsOfClause wsX5_truths := goodIn_r _ [5] (by decide +kernel) (by decide +kernel)
set_option maxRecDepth 20000 in
theorem gX5_worldsOfClause_X5_truths : GoodIn wsX5_worldsOfClause (va_wsS RX5 56 yX5_truths wsX5_truths) := goodIn_app (goodIn_of _ (by decide +kernel)) ggX5_worldsOfClause_X5_truths
theorem dX5_worldsOfClause_0 : decode cX5_worldsOfClause 0 = .ok (.aload_n 0, 1) := by decide +kernel
theorem dX5_worldsOfClause_1 : decode cX5_worldsOfClause 1 = .ok (.getfield 7, 3) := by decide +kernel
theorem dX5_worldsOfClause_4 : decode cX5_worldsOfClause 4 = .ok (.bipush 25, 2) := by decide +kernel
theorem dX5_worldsOfClause_6 : decode cX5_worldsOfClause 6 = .ok (.iload_n 1, 1) := by decide +kernel
theorem dX5_worldsOfClause_7 : decode cX5_worldsOfClause 7 = .ok (.iadd, 1) := by decide +kernel
theorem dX5_worldsOfClause_8 : decode cX5_worldsOfClause 8 = .ok (.iaload, 1) := by decide +kernel
theorem dX5_worldsOfClause_9 : decode cX5_worldsOfClause 9 = .ok (.aload_n 0, 1) := by decide +kernel
theorem dX5_worldsOfClause_10 : decode cX5_worldsOfClause 10 = .ok (.getfield 7, 3) := by decide +kernel
theorem dX5_worldsOfClause_13 : decode cX5_worldsOfClause 13 = .ok (.bipush 49, 2) := by decide +kernel
theorem dX5_worldsOfClause_15 : decode cX5_worldsOfClause 15 = .ok (.iload_n 1, 1) := by decide +kernel
theorem dX5_worldsOfClause_16 : decode cX5_worldsOfClause 16 = .ok (.iadd, 1) := by decide +kernel
theorem dX5_worldsOfClause_17 : decode cX5_worldsOfClause 17 = .ok (.iaload, 1) := by decide +kernel
theorem dX5_worldsOfClause_18 : decode cX5_worldsOfClause 18 = .ok (.bipush 63, 2) := by decide +kernel
theorem dX5_worldsOfClause_20 : decode cX5_worldsOfClause 20 = .ok (.invokestatic 56, 3) := by decide +kernel
theorem dX5_worldsOfClause_23 : decode cX5_worldsOfClause 23 = .ok (.lreturn, 1) := by decide +kernel
theorem dX5_truths_0 : decode cX5_truths 0 = .ok (.lconst 0, 1) := by decide +kernel
theorem dX5_truths_1 : decode cX5_truths 1 = .ok (.lstore_n 3, 1) := by decide +kernel
theorem dX5_truths_2 : decode cX5_truths 2 = .ok (.iconst 0, 1) := by decide +kernel
theorem dX5_truths_3 : decode cX5_truths 3 = .ok (.istore 5, 2) := by decide +kernel
theorem dX5_truths_5 : decode cX5_truths 5 = .ok (.iload 5, 2) := by decide +kernel
theorem dX5_truths_7 : decode cX5_truths 7 = .ok (.bipush 64, 2) := by decide +kernel
theorem dX5_truths_9 : decode cX5_truths 9 = .ok (.if_icmp .ge 36, 3) := by decide +kernel
theorem dX5_truths_12 : decode cX5_truths 12 = .ok (.lload_n 3, 1) := by decide +kernel
theorem dX5_truths_13 : decode cX5_truths 13 = .ok (.iload 5, 2) := by decide +kernel
theorem dX5_truths_15 : decode cX5_truths 15 = .ok (.iload_n 0, 1) := by decide +kernel
theorem dX5_truths_16 : decode cX5_truths 16 = .ok (.iand, 1) := by decide +kernel
theorem dX5_truths_17 : decode cX5_truths 17 = .ok (.iload 5, 2) := by decide +kernel
theorem dX5_truths_19 : decode cX5_truths 19 = .ok (.iconst (-1), 1) := by decide +kernel
theorem dX5_truths_20 : decode cX5_truths 20 = .ok (.ixor, 1) := by decide +kernel
theorem dX5_truths_21 : decode cX5_truths 21 = .ok (.iload_n 1, 1) := by decide +kernel
theorem dX5_truths_22 : decode cX5_truths 22 = .ok (.iand, 1) := by decide +kernel
theorem dX5_truths_23 : decode cX5_truths 23 = .ok (.ior, 1) := by decide +kernel
theorem dX5_truths_24 : decode cX5_truths 24 = .ok (.iload_n 2, 1) := by decide +kernel
theorem dX5_truths_25 : decode cX5_truths 25 = .ok (.iand, 1) := by decide +kernel
theorem dX5_truths_26 : decode cX5_truths 26 = .ok (.ifCond .eq 10, 3) := by decide +kernel
theorem dX5_truths_29 : decode cX5_truths 29 = .ok (.lconst 1, 1) := by decide +kernel
theorem dX5_truths_30 : decode cX5_truths 30 = .ok (.iload 5, 2) := by decide +kernel
theorem dX5_truths_32 : decode cX5_truths 32 = .ok (.lshl, 1) := by decide +kernel
theorem dX5_truths_33 : decode cX5_truths 33 = .ok (.goto 4, 3) := by decide +kernel
theorem dX5_truths_36 : decode cX5_truths 36 = .ok (.lconst 0, 1) := by decide +kernel
theorem dX5_truths_37 : decode cX5_truths 37 = .ok (.lor, 1) := by decide +kernel
theorem dX5_truths_38 : decode cX5_truths 38 = .ok (.lstore_n 3, 1) := by decide +kernel
theorem dX5_truths_39 : decode cX5_truths 39 = .ok (.iinc 5 1, 3) := by decide +kernel
theorem dX5_truths_42 : decode cX5_truths 42 = .ok (.goto (-37), 3) := by decide +kernel
theorem dX5_truths_45 : decode cX5_truths 45 = .ok (.lload_n 3, 1) := by decide +kernel
theorem dX5_truths_46 : decode cX5_truths 46 = .ok (.lreturn, 1) := by decide +kernel
set_option maxRecDepth 20000 in
theorem ggX5_worldsOfSide_X5_worldsOfClause : GoodIn wsX5_worldsOfSide wsX5_worldsOfClause := goodIn_r _ [7, 2, 8, 9, 6, 10, 11, 12, 13, 14, 15, 16, 17, 18, 19, 20, 21, 22, 23, 24, 25, 26, 27, 28, 29, 30, 31, 32] (by decide +kernel) (by decide +kernel)
set_option maxRecDepth 20000 in
theorem gX5_worldsOfSide_X5_worldsOfClause : GoodIn wsX5_worldsOfSide (wsV RX5 62 RX5 yX5_worldsOfClause wsX5_worldsOfClause) := goodIn_app (goodIn_of _ (by decide +kernel)) ggX5_worldsOfSide_X5_worldsOfClause
theorem dX5_worldsOfSide_0 : decode cX5_worldsOfSide 0 = .ok (.ldc2_w 60, 3) := by decide +kernel
theorem dX5_worldsOfSide_3 : decode cX5_worldsOfSide 3 = .ok (.lstore_n 2, 1) := by decide +kernel
theorem dX5_worldsOfSide_4 : decode cX5_worldsOfSide 4 = .ok (.iconst 0, 1) := by decide +kernel
theorem dX5_worldsOfSide_5 : decode cX5_worldsOfSide 5 = .ok (.istore 4, 2) := by decide +kernel
theorem dX5_worldsOfSide_7 : decode cX5_worldsOfSide 7 = .ok (.iload 4, 2) := by decide +kernel
theorem dX5_worldsOfSide_9 : decode cX5_worldsOfSide 9 = .ok (.aload_n 0, 1) := by decide +kernel
theorem dX5_worldsOfSide_10 : decode cX5_worldsOfSide 10 = .ok (.getfield 7, 3) := by decide +kernel
theorem dX5_worldsOfSide_13 : decode cX5_worldsOfSide 13 = .ok (.iconst 0, 1) := by decide +kernel
theorem dX5_worldsOfSide_14 : decode cX5_worldsOfSide 14 = .ok (.iaload, 1) := by decide +kernel
theorem dX5_worldsOfSide_15 : decode cX5_worldsOfSide 15 = .ok (.if_icmp .ge 37, 3) := by decide +kernel
theorem dX5_worldsOfSide_18 : decode cX5_worldsOfSide 18 = .ok (.lload_n 2, 1) := by decide +kernel
theorem dX5_worldsOfSide_19 : decode cX5_worldsOfSide 19 = .ok (.aload_n 0, 1) := by decide +kernel
theorem dX5_worldsOfSide_20 : decode cX5_worldsOfSide 20 = .ok (.getfield 7, 3) := by decide +kernel
theorem dX5_worldsOfSide_23 : decode cX5_worldsOfSide 23 = .ok (.iconst 1, 1) := by decide +kernel
theorem dX5_worldsOfSide_24 : decode cX5_worldsOfSide 24 = .ok (.iload 4, 2) := by decide +kernel
theorem dX5_worldsOfSide_26 : decode cX5_worldsOfSide 26 = .ok (.iadd, 1) := by decide +kernel
theorem dX5_worldsOfSide_27 : decode cX5_worldsOfSide 27 = .ok (.iaload, 1) := by decide +kernel
theorem dX5_worldsOfSide_28 : decode cX5_worldsOfSide 28 = .ok (.iload_n 1, 1) := by decide +kernel
theorem dX5_worldsOfSide_29 : decode cX5_worldsOfSide 29 = .ok (.if_icmp .ne 12, 3) := by decide +kernel
theorem dX5_worldsOfSide_32 : decode cX5_worldsOfSide 32 = .ok (.aload_n 0, 1) := by decide +kernel
theorem dX5_worldsOfSide_33 : decode cX5_worldsOfSide 33 = .ok (.iload 4, 2) := by decide +kernel
theorem dX5_worldsOfSide_35 : decode cX5_worldsOfSide 35 = .ok (.invokevirtual 62, 3) := by decide +kernel
theorem dX5_worldsOfSide_38 : decode cX5_worldsOfSide 38 = .ok (.goto 6, 3) := by decide +kernel
theorem dX5_worldsOfSide_41 : decode cX5_worldsOfSide 41 = .ok (.ldc2_w 60, 3) := by decide +kernel
theorem dX5_worldsOfSide_44 : decode cX5_worldsOfSide 44 = .ok (.land, 1) := by decide +kernel
theorem dX5_worldsOfSide_45 : decode cX5_worldsOfSide 45 = .ok (.lstore_n 2, 1) := by decide +kernel
theorem dX5_worldsOfSide_46 : decode cX5_worldsOfSide 46 = .ok (.iinc 4 1, 3) := by decide +kernel
theorem dX5_worldsOfSide_49 : decode cX5_worldsOfSide 49 = .ok (.goto (-42), 3) := by decide +kernel
theorem dX5_worldsOfSide_52 : decode cX5_worldsOfSide 52 = .ok (.lload_n 2, 1) := by decide +kernel
theorem dX5_worldsOfSide_53 : decode cX5_worldsOfSide 53 = .ok (.lreturn, 1) := by decide +kernel
theorem dX5_knownTo_0 : decode cX5_knownTo 0 = .ok (.iconst 0, 1) := by decide +kernel
theorem dX5_knownTo_1 : decode cX5_knownTo 1 = .ok (.istore_n 2, 1) := by decide +kernel
theorem dX5_knownTo_2 : decode cX5_knownTo 2 = .ok (.iconst 0, 1) := by decide +kernel
theorem dX5_knownTo_3 : decode cX5_knownTo 3 = .ok (.istore_n 3, 1) := by decide +kernel
theorem dX5_knownTo_4 : decode cX5_knownTo 4 = .ok (.iload_n 3, 1) := by decide +kernel
theorem dX5_knownTo_5 : decode cX5_knownTo 5 = .ok (.aload_n 0, 1) := by decide +kernel
theorem dX5_knownTo_6 : decode cX5_knownTo 6 = .ok (.getfield 7, 3) := by decide +kernel
theorem dX5_knownTo_9 : decode cX5_knownTo 9 = .ok (.iconst 0, 1) := by decide +kernel
theorem dX5_knownTo_10 : decode cX5_knownTo 10 = .ok (.iaload, 1) := by decide +kernel
theorem dX5_knownTo_11 : decode cX5_knownTo 11 = .ok (.if_icmp .ge 47, 3) := by decide +kernel
theorem dX5_knownTo_14 : decode cX5_knownTo 14 = .ok (.iload_n 2, 1) := by decide +kernel
theorem dX5_knownTo_15 : decode cX5_knownTo 15 = .ok (.aload_n 0, 1) := by decide +kernel
theorem dX5_knownTo_16 : decode cX5_knownTo 16 = .ok (.getfield 7, 3) := by decide +kernel
theorem dX5_knownTo_19 : decode cX5_knownTo 19 = .ok (.iconst 1, 1) := by decide +kernel
theorem dX5_knownTo_20 : decode cX5_knownTo 20 = .ok (.iload_n 3, 1) := by decide +kernel
theorem dX5_knownTo_21 : decode cX5_knownTo 21 = .ok (.iadd, 1) := by decide +kernel
theorem dX5_knownTo_22 : decode cX5_knownTo 22 = .ok (.iaload, 1) := by decide +kernel
theorem dX5_knownTo_23 : decode cX5_knownTo 23 = .ok (.iload_n 1, 1) := by decide +kernel
theorem dX5_knownTo_24 : decode cX5_knownTo 24 = .ok (.if_icmp .ne 25, 3) := by decide +kernel
theorem dX5_knownTo_27 : decode cX5_knownTo 27 = .ok (.aload_n 0, 1) := by decide +kernel
theorem dX5_knownTo_28 : decode cX5_knownTo 28 = .ok (.getfield 7, 3) := by decide +kernel
theorem dX5_knownTo_31 : decode cX5_knownTo 31 = .ok (.bipush 25, 2) := by decide +kernel
theorem dX5_knownTo_33 : decode cX5_knownTo 33 = .ok (.iload_n 3, 1) := by decide +kernel
theorem dX5_knownTo_34 : decode cX5_knownTo 34 = .ok (.iadd, 1) := by decide +kernel
theorem dX5_knownTo_35 : decode cX5_knownTo 35 = .ok (.iaload, 1) := by decide +kernel
theorem dX5_knownTo_36 : decode cX5_knownTo 36 = .ok (.aload_n 0, 1) := by decide +kernel
theorem dX5_knownTo_37 : decode cX5_knownTo 37 = .ok (.getfield 7, 3) := by decide +kernel
theorem dX5_knownTo_40 : decode cX5_knownTo 40 = .ok (.bipush 49, 2) := by decide +kernel
theorem dX5_knownTo_42 : decode cX5_knownTo 42 = .ok (.iload_n 3, 1) := by decide +kernel
theorem dX5_knownTo_43 : decode cX5_knownTo 43 = .ok (.iadd, 1) := by decide +kernel
theorem dX5_knownTo_44 : decode cX5_knownTo 44 = .ok (.iaload, 1) := by decide +kernel
theorem dX5_knownTo_45 : decode cX5_knownTo 45 = .ok (.ior, 1) := by decide +kernel
theorem dX5_knownTo_46 : decode cX5_knownTo 46 = .ok (.goto 4, 3) := by decide +kernel
theorem dX5_knownTo_49 : decode cX5_knownTo 49 = .ok (.iconst 0, 1) := by decide +kernel
theorem dX5_knownTo_50 : decode cX5_knownTo 50 = .ok (.ior, 1) := by decide +kernel
theorem dX5_knownTo_51 : decode cX5_knownTo 51 = .ok (.istore_n 2, 1) := by decide +kernel
theorem dX5_knownTo_52 : decode cX5_knownTo 52 = .ok (.iinc 3 1, 3) := by decide +kernel
theorem dX5_knownTo_55 : decode cX5_knownTo 55 = .ok (.goto (-51), 3) := by decide +kernel
theorem dX5_knownTo_58 : decode cX5_knownTo 58 = .ok (.iload_n 2, 1) := by decide +kernel
theorem dX5_knownTo_59 : decode cX5_knownTo 59 = .ok (.ireturn, 1) := by decide +kernel
set_option maxRecDepth 20000 in
theorem ggX5_shared_X5_knownTo : GoodIn wsX5_shared wsX5_knownTo := goodIn_r _ [5, 6, 7, 8, 9, 10, 11, 12, 13, 14, 15, 16, 17, 18, 19, 20, 21, 22, 23, 24, 25, 26, 27, 28] (by decide +kernel) (by decide +kernel)
set_option maxRecDepth 20000 in
theorem gX5_shared_X5_knownTo : GoodIn wsX5_shared (wsV RX5 66 RX5 yX5_knownTo wsX5_knownTo) := goodIn_app (goodIn_of _ (by decide +kernel)) ggX5_shared_X5_knownTo
theorem dX5_shared_0 : decode cX5_shared 0 = .ok (.aload_n 0, 1) := by decide +kernel
theorem dX5_shared_1 : decode cX5_shared 1 = .ok (.iconst 0, 1) := by decide +kernel
theorem dX5_shared_2 : decode cX5_shared 2 = .ok (.invokevirtual 66, 3) := by decide +kernel
theorem dX5_shared_5 : decode cX5_shared 5 = .ok (.aload_n 0, 1) := by decide +kernel
theorem dX5_shared_6 : decode cX5_shared 6 = .ok (.iconst 1, 1) := by decide +kernel
theorem dX5_shared_7 : decode cX5_shared 7 = .ok (.invokevirtual 66, 3) := by decide +kernel
theorem dX5_shared_10 : decode cX5_shared 10 = .ok (.iand, 1) := by decide +kernel
theorem dX5_shared_11 : decode cX5_shared 11 = .ok (.ireturn, 1) := by decide +kernel
set_option maxRecDepth 20000 in
theorem ggX5_clash_X5_worldsOfSide : GoodIn wsX5_clash wsX5_worldsOfSide := goodIn_r _ [5, 6, 7, 8, 9, 10, 4, 11, 12, 13, 14, 15, 16, 17, 18, 19, 20, 21, 22, 23, 24, 25, 26, 27, 28, 29, 30, 31, 32, 33, 34, 35, 36] (by decide +kernel) (by decide +kernel)
set_option maxRecDepth 20000 in
theorem gX5_clash_X5_worldsOfSide : GoodIn wsX5_clash (wsV RX5 70 RX5 yX5_worldsOfSide wsX5_worldsOfSide) := goodIn_app (goodIn_of _ (by decide +kernel)) ggX5_clash_X5_worldsOfSide
theorem dX5_clash_0 : decode cX5_clash 0 = .ok (.aload_n 0, 1) := by decide +kernel
theorem dX5_clash_1 : decode cX5_clash 1 = .ok (.iconst 0, 1) := by decide +kernel
theorem dX5_clash_2 : decode cX5_clash 2 = .ok (.invokevirtual 70, 3) := by decide +kernel
theorem dX5_clash_5 : decode cX5_clash 5 = .ok (.aload_n 0, 1) := by decide +kernel
theorem dX5_clash_6 : decode cX5_clash 6 = .ok (.iconst 1, 1) := by decide +kernel
theorem dX5_clash_7 : decode cX5_clash 7 = .ok (.invokevirtual 70, 3) := by decide +kernel
theorem dX5_clash_10 : decode cX5_clash 10 = .ok (.land, 1) := by decide +kernel
theorem dX5_clash_11 : decode cX5_clash 11 = .ok (.lconst 0, 1) := by decide +kernel
theorem dX5_clash_12 : decode cX5_clash 12 = .ok (.lcmp, 1) := by decide +kernel
theorem dX5_clash_13 : decode cX5_clash 13 = .ok (.ifCond .ne 7, 3) := by decide +kernel
theorem dX5_clash_16 : decode cX5_clash 16 = .ok (.iconst 1, 1) := by decide +kernel
theorem dX5_clash_17 : decode cX5_clash 17 = .ok (.goto 4, 3) := by decide +kernel
theorem dX5_clash_20 : decode cX5_clash 20 = .ok (.iconst 0, 1) := by decide +kernel
theorem dX5_clash_21 : decode cX5_clash 21 = .ok (.ireturn, 1) := by decide +kernel
set_option maxRecDepth 20000 in
theorem ggX5_spread_X5_shared : GoodIn wsX5_spread wsX5_shared := goodIn_r _ [5, 6, 7, 8, 4, 9, 10, 11, 12, 13, 14, 15, 16, 17, 18, 19, 20, 21, 22, 23, 24, 25, 26, 27, 28, 29, 30, 31, 32] (by decide +kernel) (by decide +kernel)
set_option maxRecDepth 20000 in
theorem gX5_spread_X5_shared : GoodIn wsX5_spread (wsV RX5 73 RX5 yX5_shared wsX5_shared) := goodIn_app (goodIn_of _ (by decide +kernel)) ggX5_spread_X5_shared
theorem dX5_spread_0 : decode cX5_spread 0 = .ok (.aload_n 0, 1) := by decide +kernel
theorem dX5_spread_1 : decode cX5_spread 1 = .ok (.invokevirtual 73, 3) := by decide +kernel
theorem dX5_spread_4 : decode cX5_spread 4 = .ok (.istore_n 3, 1) := by decide +kernel
theorem dX5_spread_5 : decode cX5_spread 5 = .ok (.lconst 0, 1) := by decide +kernel
theorem dX5_spread_6 : decode cX5_spread 6 = .ok (.lstore 4, 2) := by decide +kernel
theorem dX5_spread_8 : decode cX5_spread 8 = .ok (.iconst 0, 1) := by decide +kernel
theorem dX5_spread_9 : decode cX5_spread 9 = .ok (.istore 6, 2) := by decide +kernel
theorem dX5_spread_11 : decode cX5_spread 11 = .ok (.iload 6, 2) := by decide +kernel
theorem dX5_spread_13 : decode cX5_spread 13 = .ok (.bipush 64, 2) := by decide +kernel
theorem dX5_spread_15 : decode cX5_spread 15 = .ok (.if_icmp .ge 59, 3) := by decide +kernel
theorem dX5_spread_18 : decode cX5_spread 18 = .ok (.iconst 0, 1) := by decide +kernel
theorem dX5_spread_19 : decode cX5_spread 19 = .ok (.istore 7, 2) := by decide +kernel
theorem dX5_spread_21 : decode cX5_spread 21 = .ok (.iload 7, 2) := by decide +kernel
theorem dX5_spread_23 : decode cX5_spread 23 = .ok (.bipush 64, 2) := by decide +kernel
theorem dX5_spread_25 : decode cX5_spread 25 = .ok (.if_icmp .ge 43, 3) := by decide +kernel
theorem dX5_spread_28 : decode cX5_spread 28 = .ok (.lload 4, 2) := by decide +kernel
theorem dX5_spread_30 : decode cX5_spread 30 = .ok (.lload_n 1, 1) := by decide +kernel
theorem dX5_spread_31 : decode cX5_spread 31 = .ok (.iload 7, 2) := by decide +kernel
theorem dX5_spread_33 : decode cX5_spread 33 = .ok (.lushr, 1) := by decide +kernel
theorem dX5_spread_34 : decode cX5_spread 34 = .ok (.lconst 1, 1) := by decide +kernel
theorem dX5_spread_35 : decode cX5_spread 35 = .ok (.land, 1) := by decide +kernel
theorem dX5_spread_36 : decode cX5_spread 36 = .ok (.lconst 1, 1) := by decide +kernel
theorem dX5_spread_37 : decode cX5_spread 37 = .ok (.lcmp, 1) := by decide +kernel
theorem dX5_spread_38 : decode cX5_spread 38 = .ok (.ifCond .ne 20, 3) := by decide +kernel
theorem dX5_spread_41 : decode cX5_spread 41 = .ok (.iload 7, 2) := by decide +kernel
theorem dX5_spread_43 : decode cX5_spread 43 = .ok (.iload 6, 2) := by decide +kernel
theorem dX5_spread_45 : decode cX5_spread 45 = .ok (.ixor, 1) := by decide +kernel
theorem dX5_spread_46 : decode cX5_spread 46 = .ok (.iload_n 3, 1) := by decide +kernel
theorem dX5_spread_47 : decode cX5_spread 47 = .ok (.iand, 1) := by decide +kernel
theorem dX5_spread_48 : decode cX5_spread 48 = .ok (.ifCond .ne 10, 3) := by decide +kernel
theorem dX5_spread_51 : decode cX5_spread 51 = .ok (.lconst 1, 1) := by decide +kernel
theorem dX5_spread_52 : decode cX5_spread 52 = .ok (.iload 6, 2) := by decide +kernel
theorem dX5_spread_54 : decode cX5_spread 54 = .ok (.lshl, 1) := by decide +kernel
theorem dX5_spread_55 : decode cX5_spread 55 = .ok (.goto 4, 3) := by decide +kernel
theorem dX5_spread_58 : decode cX5_spread 58 = .ok (.lconst 0, 1) := by decide +kernel
theorem dX5_spread_59 : decode cX5_spread 59 = .ok (.lor, 1) := by decide +kernel
theorem dX5_spread_60 : decode cX5_spread 60 = .ok (.lstore 4, 2) := by decide +kernel
theorem dX5_spread_62 : decode cX5_spread 62 = .ok (.iinc 7 1, 3) := by decide +kernel
theorem dX5_spread_65 : decode cX5_spread 65 = .ok (.goto (-44), 3) := by decide +kernel
theorem dX5_spread_68 : decode cX5_spread 68 = .ok (.iinc 6 1, 3) := by decide +kernel
theorem dX5_spread_71 : decode cX5_spread 71 = .ok (.goto (-60), 3) := by decide +kernel
theorem dX5_spread_74 : decode cX5_spread 74 = .ok (.lload 4, 2) := by decide +kernel
theorem dX5_spread_76 : decode cX5_spread 76 = .ok (.lreturn, 1) := by decide +kernel
theorem dX5_addStep_0 : decode cX5_addStep 0 = .ok (.aload_n 0, 1) := by decide +kernel
theorem dX5_addStep_1 : decode cX5_addStep 1 = .ok (.getfield 22, 3) := by decide +kernel
theorem dX5_addStep_4 : decode cX5_addStep 4 = .ok (.aload_n 0, 1) := by decide +kernel
theorem dX5_addStep_5 : decode cX5_addStep 5 = .ok (.getfield 77, 3) := by decide +kernel
theorem dX5_addStep_8 : decode cX5_addStep 8 = .ok (.iload_n 1, 1) := by decide +kernel
theorem dX5_addStep_9 : decode cX5_addStep 9 = .ok (.iastore, 1) := by decide +kernel
theorem dX5_addStep_10 : decode cX5_addStep 10 = .ok (.aload_n 0, 1) := by decide +kernel
theorem dX5_addStep_11 : decode cX5_addStep 11 = .ok (.getfield 25, 3) := by decide +kernel
theorem dX5_addStep_14 : decode cX5_addStep 14 = .ok (.aload_n 0, 1) := by decide +kernel
theorem dX5_addStep_15 : decode cX5_addStep 15 = .ok (.getfield 77, 3) := by decide +kernel
theorem dX5_addStep_18 : decode cX5_addStep 18 = .ok (.iload_n 2, 1) := by decide +kernel
theorem dX5_addStep_19 : decode cX5_addStep 19 = .ok (.iastore, 1) := by decide +kernel
theorem dX5_addStep_20 : decode cX5_addStep 20 = .ok (.aload_n 0, 1) := by decide +kernel
theorem dX5_addStep_21 : decode cX5_addStep 21 = .ok (.getfield 28, 3) := by decide +kernel
theorem dX5_addStep_24 : decode cX5_addStep 24 = .ok (.aload_n 0, 1) := by decide +kernel
theorem dX5_addStep_25 : decode cX5_addStep 25 = .ok (.getfield 77, 3) := by decide +kernel
theorem dX5_addStep_28 : decode cX5_addStep 28 = .ok (.iload_n 3, 1) := by decide +kernel
theorem dX5_addStep_29 : decode cX5_addStep 29 = .ok (.iastore, 1) := by decide +kernel
theorem dX5_addStep_30 : decode cX5_addStep 30 = .ok (.aload_n 0, 1) := by decide +kernel
theorem dX5_addStep_31 : decode cX5_addStep 31 = .ok (.getfield 31, 3) := by decide +kernel
theorem dX5_addStep_34 : decode cX5_addStep 34 = .ok (.aload_n 0, 1) := by decide +kernel
theorem dX5_addStep_35 : decode cX5_addStep 35 = .ok (.getfield 77, 3) := by decide +kernel
theorem dX5_addStep_38 : decode cX5_addStep 38 = .ok (.iload 4, 2) := by decide +kernel
theorem dX5_addStep_40 : decode cX5_addStep 40 = .ok (.iastore, 1) := by decide +kernel
theorem dX5_addStep_41 : decode cX5_addStep 41 = .ok (.aload_n 0, 1) := by decide +kernel
theorem dX5_addStep_42 : decode cX5_addStep 42 = .ok (.getfield 34, 3) := by decide +kernel
theorem dX5_addStep_45 : decode cX5_addStep 45 = .ok (.aload_n 0, 1) := by decide +kernel
theorem dX5_addStep_46 : decode cX5_addStep 46 = .ok (.getfield 77, 3) := by decide +kernel
theorem dX5_addStep_49 : decode cX5_addStep 49 = .ok (.iload 5, 2) := by decide +kernel
theorem dX5_addStep_51 : decode cX5_addStep 51 = .ok (.iastore, 1) := by decide +kernel
theorem dX5_addStep_52 : decode cX5_addStep 52 = .ok (.aload_n 0, 1) := by decide +kernel
theorem dX5_addStep_53 : decode cX5_addStep 53 = .ok (.getfield 37, 3) := by decide +kernel
theorem dX5_addStep_56 : decode cX5_addStep 56 = .ok (.aload_n 0, 1) := by decide +kernel
theorem dX5_addStep_57 : decode cX5_addStep 57 = .ok (.getfield 77, 3) := by decide +kernel
theorem dX5_addStep_60 : decode cX5_addStep 60 = .ok (.iconst 0, 1) := by decide +kernel
theorem dX5_addStep_61 : decode cX5_addStep 61 = .ok (.bastore, 1) := by decide +kernel
theorem dX5_addStep_62 : decode cX5_addStep 62 = .ok (.aload_n 0, 1) := by decide +kernel
theorem dX5_addStep_63 : decode cX5_addStep 63 = .ok (.getfield 41, 3) := by decide +kernel
theorem dX5_addStep_66 : decode cX5_addStep 66 = .ok (.bipush 64, 2) := by decide +kernel
theorem dX5_addStep_68 : decode cX5_addStep 68 = .ok (.iload_n 1, 1) := by decide +kernel
theorem dX5_addStep_69 : decode cX5_addStep 69 = .ok (.imul, 1) := by decide +kernel
theorem dX5_addStep_70 : decode cX5_addStep 70 = .ok (.iload_n 2, 1) := by decide +kernel
theorem dX5_addStep_71 : decode cX5_addStep 71 = .ok (.iadd, 1) := by decide +kernel
theorem dX5_addStep_72 : decode cX5_addStep 72 = .ok (.iconst 1, 1) := by decide +kernel
theorem dX5_addStep_73 : decode cX5_addStep 73 = .ok (.bastore, 1) := by decide +kernel
theorem dX5_addStep_74 : decode cX5_addStep 74 = .ok (.aload_n 0, 1) := by decide +kernel
theorem dX5_addStep_75 : decode cX5_addStep 75 = .ok (.dup, 1) := by decide +kernel
theorem dX5_addStep_76 : decode cX5_addStep 76 = .ok (.getfield 77, 3) := by decide +kernel
theorem dX5_addStep_79 : decode cX5_addStep 79 = .ok (.iconst 1, 1) := by decide +kernel
theorem dX5_addStep_80 : decode cX5_addStep 80 = .ok (.iadd, 1) := by decide +kernel
theorem dX5_addStep_81 : decode cX5_addStep 81 = .ok (.putfield 77, 3) := by decide +kernel
theorem dX5_addStep_84 : decode cX5_addStep 84 = .ok (.return_, 1) := by decide +kernel
theorem dX5_onlySign_0 : decode cX5_onlySign 0 = .ok (.bipush (-5), 2) := by decide +kernel
theorem dX5_onlySign_2 : decode cX5_onlySign 2 = .ok (.istore_n 1, 1) := by decide +kernel
theorem dX5_onlySign_3 : decode cX5_onlySign 3 = .ok (.iconst 0, 1) := by decide +kernel
theorem dX5_onlySign_4 : decode cX5_onlySign 4 = .ok (.istore_n 2, 1) := by decide +kernel
theorem dX5_onlySign_5 : decode cX5_onlySign 5 = .ok (.iload_n 2, 1) := by decide +kernel
theorem dX5_onlySign_6 : decode cX5_onlySign 6 = .ok (.bipush 6, 2) := by decide +kernel
theorem dX5_onlySign_8 : decode cX5_onlySign 8 = .ok (.if_icmp .ge 22, 3) := by decide +kernel
theorem dX5_onlySign_11 : decode cX5_onlySign 11 = .ok (.iload_n 0, 1) := by decide +kernel
theorem dX5_onlySign_12 : decode cX5_onlySign 12 = .ok (.iconst 1, 1) := by decide +kernel
theorem dX5_onlySign_13 : decode cX5_onlySign 13 = .ok (.iload_n 2, 1) := by decide +kernel
theorem dX5_onlySign_14 : decode cX5_onlySign 14 = .ok (.ishl, 1) := by decide +kernel
theorem dX5_onlySign_15 : decode cX5_onlySign 15 = .ok (.if_icmp .ne 7, 3) := by decide +kernel
theorem dX5_onlySign_18 : decode cX5_onlySign 18 = .ok (.iload_n 2, 1) := by decide +kernel
theorem dX5_onlySign_19 : decode cX5_onlySign 19 = .ok (.goto 4, 3) := by decide +kernel
theorem dX5_onlySign_22 : decode cX5_onlySign 22 = .ok (.iload_n 1, 1) := by decide +kernel
theorem dX5_onlySign_23 : decode cX5_onlySign 23 = .ok (.istore_n 1, 1) := by decide +kernel
theorem dX5_onlySign_24 : decode cX5_onlySign 24 = .ok (.iinc 2 1, 3) := by decide +kernel
theorem dX5_onlySign_27 : decode cX5_onlySign 27 = .ok (.goto (-22), 3) := by decide +kernel
theorem dX5_onlySign_30 : decode cX5_onlySign 30 = .ok (.iload_n 1, 1) := by decide +kernel
theorem dX5_onlySign_31 : decode cX5_onlySign 31 = .ok (.ireturn, 1) := by decide +kernel
set_option maxRecDepth 20000 in
theorem ggX5_prove_X5_addStep : GoodIn wsX5_prove wsX5_addStep := goodIn_r _ [15, 6, 2, 7, 9, 10, 16, 8, 1, 20, 21, 22, 23, 24, 25, 26, 27, 28, 29, 30, 31, 32, 33, 34, 35, 36, 37, 38, 39, 40, 41] (by decide +kernel) (by decide +kernel)
set_option maxRecDepth 20000 in
theorem gX5_prove_X5_addStep : GoodIn wsX5_prove (wsV RX5 87 RX5 yX5_addStep wsX5_addStep) := goodIn_app (goodIn_of _ (by decide +kernel)) ggX5_prove_X5_addStep
set_option maxRecDepth 20000 in
theorem ggX5_prove_X5_onlySign : GoodIn wsX5_prove wsX5_onlySign := goodIn_r _ [19] (by decide +kernel) (by decide +kernel)
set_option maxRecDepth 20000 in
theorem gX5_prove_X5_onlySign : GoodIn wsX5_prove (va_wsS RX5 91 yX5_onlySign wsX5_onlySign) := goodIn_app (goodIn_of _ (by decide +kernel)) ggX5_prove_X5_onlySign
theorem dX5_prove_0 : decode cX5_prove 0 = .ok (.iconst 0, 1) := by decide +kernel
theorem dX5_prove_1 : decode cX5_prove 1 = .ok (.istore_n 1, 1) := by decide +kernel
theorem dX5_prove_2 : decode cX5_prove 2 = .ok (.iload_n 1, 1) := by decide +kernel
theorem dX5_prove_3 : decode cX5_prove 3 = .ok (.sipush 4096, 3) := by decide +kernel
theorem dX5_prove_6 : decode cX5_prove 6 = .ok (.if_icmp .ge 16, 3) := by decide +kernel
theorem dX5_prove_9 : decode cX5_prove 9 = .ok (.aload_n 0, 1) := by decide +kernel
theorem dX5_prove_10 : decode cX5_prove 10 = .ok (.getfield 41, 3) := by decide +kernel
theorem dX5_prove_13 : decode cX5_prove 13 = .ok (.iload_n 1, 1) := by decide +kernel
theorem dX5_prove_14 : decode cX5_prove 14 = .ok (.iconst 0, 1) := by decide +kernel
theorem dX5_prove_15 : decode cX5_prove 15 = .ok (.bastore, 1) := by decide +kernel
theorem dX5_prove_16 : decode cX5_prove 16 = .ok (.iinc 1 1, 3) := by decide +kernel
theorem dX5_prove_19 : decode cX5_prove 19 = .ok (.goto (-17), 3) := by decide +kernel
theorem dX5_prove_22 : decode cX5_prove 22 = .ok (.aload_n 0, 1) := by decide +kernel
theorem dX5_prove_23 : decode cX5_prove 23 = .ok (.iconst 0, 1) := by decide +kernel
theorem dX5_prove_24 : decode cX5_prove 24 = .ok (.putfield 77, 3) := by decide +kernel
theorem dX5_prove_27 : decode cX5_prove 27 = .ok (.aload_n 0, 1) := by decide +kernel
theorem dX5_prove_28 : decode cX5_prove 28 = .ok (.bipush (-5), 2) := by decide +kernel
theorem dX5_prove_30 : decode cX5_prove 30 = .ok (.putfield 80, 3) := by decide +kernel
theorem dX5_prove_33 : decode cX5_prove 33 = .ok (.aload_n 0, 1) := by decide +kernel
theorem dX5_prove_34 : decode cX5_prove 34 = .ok (.iconst 1, 1) := by decide +kernel
theorem dX5_prove_35 : decode cX5_prove 35 = .ok (.putfield 83, 3) := by decide +kernel
theorem dX5_prove_38 : decode cX5_prove 38 = .ok (.iconst 0, 1) := by decide +kernel
theorem dX5_prove_39 : decode cX5_prove 39 = .ok (.istore_n 1, 1) := by decide +kernel
theorem dX5_prove_40 : decode cX5_prove 40 = .ok (.iload_n 1, 1) := by decide +kernel
theorem dX5_prove_41 : decode cX5_prove 41 = .ok (.aload_n 0, 1) := by decide +kernel
theorem dX5_prove_42 : decode cX5_prove 42 = .ok (.getfield 7, 3) := by decide +kernel
theorem dX5_prove_45 : decode cX5_prove 45 = .ok (.iconst 0, 1) := by decide +kernel
theorem dX5_prove_46 : decode cX5_prove 46 = .ok (.iaload, 1) := by decide +kernel
theorem dX5_prove_47 : decode cX5_prove 47 = .ok (.if_icmp .ge 37, 3) := by decide +kernel
theorem dX5_prove_50 : decode cX5_prove 50 = .ok (.aload_n 0, 1) := by decide +kernel
theorem dX5_prove_51 : decode cX5_prove 51 = .ok (.aload_n 0, 1) := by decide +kernel
theorem dX5_prove_52 : decode cX5_prove 52 = .ok (.getfield 7, 3) := by decide +kernel
theorem dX5_prove_55 : decode cX5_prove 55 = .ok (.bipush 25, 2) := by decide +kernel
theorem dX5_prove_57 : decode cX5_prove 57 = .ok (.iload_n 1, 1) := by decide +kernel
theorem dX5_prove_58 : decode cX5_prove 58 = .ok (.iadd, 1) := by decide +kernel
theorem dX5_prove_59 : decode cX5_prove 59 = .ok (.iaload, 1) := by decide +kernel
theorem dX5_prove_60 : decode cX5_prove 60 = .ok (.aload_n 0, 1) := by decide +kernel
theorem dX5_prove_61 : decode cX5_prove 61 = .ok (.getfield 7, 3) := by decide +kernel
theorem dX5_prove_64 : decode cX5_prove 64 = .ok (.bipush 49, 2) := by decide +kernel
theorem dX5_prove_66 : decode cX5_prove 66 = .ok (.iload_n 1, 1) := by decide +kernel
theorem dX5_prove_67 : decode cX5_prove 67 = .ok (.iadd, 1) := by decide +kernel
theorem dX5_prove_68 : decode cX5_prove 68 = .ok (.iaload, 1) := by decide +kernel
theorem dX5_prove_69 : decode cX5_prove 69 = .ok (.bipush (-5), 2) := by decide +kernel
theorem dX5_prove_71 : decode cX5_prove 71 = .ok (.bipush (-5), 2) := by decide +kernel
theorem dX5_prove_73 : decode cX5_prove 73 = .ok (.bipush (-5), 2) := by decide +kernel
theorem dX5_prove_75 : decode cX5_prove 75 = .ok (.invokevirtual 87, 3) := by decide +kernel
theorem dX5_prove_78 : decode cX5_prove 78 = .ok (.iinc 1 1, 3) := by decide +kernel
theorem dX5_prove_81 : decode cX5_prove 81 = .ok (.goto (-41), 3) := by decide +kernel
theorem dX5_prove_84 : decode cX5_prove 84 = .ok (.iconst 0, 1) := by decide +kernel
theorem dX5_prove_85 : decode cX5_prove 85 = .ok (.istore_n 1, 1) := by decide +kernel
theorem dX5_prove_86 : decode cX5_prove 86 = .ok (.iload_n 1, 1) := by decide +kernel
theorem dX5_prove_87 : decode cX5_prove 87 = .ok (.aload_n 0, 1) := by decide +kernel
theorem dX5_prove_88 : decode cX5_prove 88 = .ok (.getfield 77, 3) := by decide +kernel
theorem dX5_prove_91 : decode cX5_prove 91 = .ok (.if_icmp .ge 223, 3) := by decide +kernel
theorem dX5_prove_94 : decode cX5_prove 94 = .ok (.aload_n 0, 1) := by decide +kernel
theorem dX5_prove_95 : decode cX5_prove 95 = .ok (.getfield 80, 3) := by decide +kernel
theorem dX5_prove_98 : decode cX5_prove 98 = .ok (.bipush (-5), 2) := by decide +kernel
theorem dX5_prove_100 : decode cX5_prove 100 = .ok (.if_icmp .ne 214, 3) := by decide +kernel
theorem dX5_prove_103 : decode cX5_prove 103 = .ok (.aload_n 0, 1) := by decide +kernel
theorem dX5_prove_104 : decode cX5_prove 104 = .ok (.getfield 83, 3) := by decide +kernel
theorem dX5_prove_107 : decode cX5_prove 107 = .ok (.ifCond .eq 207, 3) := by decide +kernel
theorem dX5_prove_110 : decode cX5_prove 110 = .ok (.iconst 0, 1) := by decide +kernel
theorem dX5_prove_111 : decode cX5_prove 111 = .ok (.istore_n 2, 1) := by decide +kernel
theorem dX5_prove_112 : decode cX5_prove 112 = .ok (.iload_n 2, 1) := by decide +kernel
theorem dX5_prove_113 : decode cX5_prove 113 = .ok (.iload_n 1, 1) := by decide +kernel
theorem dX5_prove_114 : decode cX5_prove 114 = .ok (.if_icmp .ge 194, 3) := by decide +kernel
theorem dX5_prove_117 : decode cX5_prove 117 = .ok (.aload_n 0, 1) := by decide +kernel
theorem dX5_prove_118 : decode cX5_prove 118 = .ok (.getfield 80, 3) := by decide +kernel
theorem dX5_prove_121 : decode cX5_prove 121 = .ok (.bipush (-5), 2) := by decide +kernel
theorem dX5_prove_123 : decode cX5_prove 123 = .ok (.if_icmp .ne 185, 3) := by decide +kernel
theorem dX5_prove_126 : decode cX5_prove 126 = .ok (.aload_n 0, 1) := by decide +kernel
theorem dX5_prove_127 : decode cX5_prove 127 = .ok (.getfield 83, 3) := by decide +kernel
theorem dX5_prove_130 : decode cX5_prove 130 = .ok (.ifCond .eq 178, 3) := by decide +kernel
theorem dX5_prove_133 : decode cX5_prove 133 = .ok (.aload_n 0, 1) := by decide +kernel
theorem dX5_prove_134 : decode cX5_prove 134 = .ok (.getfield 22, 3) := by decide +kernel
theorem dX5_prove_137 : decode cX5_prove 137 = .ok (.iload_n 2, 1) := by decide +kernel
theorem dX5_prove_138 : decode cX5_prove 138 = .ok (.iaload, 1) := by decide +kernel
theorem dX5_prove_139 : decode cX5_prove 139 = .ok (.aload_n 0, 1) := by decide +kernel
theorem dX5_prove_140 : decode cX5_prove 140 = .ok (.getfield 25, 3) := by decide +kernel
theorem dX5_prove_143 : decode cX5_prove 143 = .ok (.iload_n 1, 1) := by decide +kernel
theorem dX5_prove_144 : decode cX5_prove 144 = .ok (.iaload, 1) := by decide +kernel
theorem dX5_prove_145 : decode cX5_prove 145 = .ok (.iand, 1) := by decide +kernel
theorem dX5_prove_146 : decode cX5_prove 146 = .ok (.aload_n 0, 1) := by decide +kernel
theorem dX5_prove_147 : decode cX5_prove 147 = .ok (.getfield 25, 3) := by decide +kernel
theorem dX5_prove_150 : decode cX5_prove 150 = .ok (.iload_n 2, 1) := by decide +kernel
theorem dX5_prove_151 : decode cX5_prove 151 = .ok (.iaload, 1) := by decide +kernel
theorem dX5_prove_152 : decode cX5_prove 152 = .ok (.aload_n 0, 1) := by decide +kernel
theorem dX5_prove_153 : decode cX5_prove 153 = .ok (.getfield 22, 3) := by decide +kernel
theorem dX5_prove_156 : decode cX5_prove 156 = .ok (.iload_n 1, 1) := by decide +kernel
theorem dX5_prove_157 : decode cX5_prove 157 = .ok (.iaload, 1) := by decide +kernel
theorem dX5_prove_158 : decode cX5_prove 158 = .ok (.iand, 1) := by decide +kernel
theorem dX5_prove_159 : decode cX5_prove 159 = .ok (.ior, 1) := by decide +kernel
theorem dX5_prove_160 : decode cX5_prove 160 = .ok (.invokestatic 91, 3) := by decide +kernel
theorem dX5_prove_163 : decode cX5_prove 163 = .ok (.istore_n 3, 1) := by decide +kernel
theorem dX5_prove_164 : decode cX5_prove 164 = .ok (.iload_n 3, 1) := by decide +kernel
theorem dX5_prove_165 : decode cX5_prove 165 = .ok (.bipush (-5), 2) := by decide +kernel
theorem dX5_prove_167 : decode cX5_prove 167 = .ok (.if_icmp .ne 7, 3) := by decide +kernel
theorem dX5_prove_170 : decode cX5_prove 170 = .ok (.iconst 0, 1) := by decide +kernel
theorem dX5_prove_171 : decode cX5_prove 171 = .ok (.goto 11, 3) := by decide +kernel
theorem dX5_prove_174 : decode cX5_prove 174 = .ok (.bipush 63, 2) := by decide +kernel
theorem dX5_prove_176 : decode cX5_prove 176 = .ok (.iconst 1, 1) := by decide +kernel
theorem dX5_prove_177 : decode cX5_prove 177 = .ok (.iload_n 3, 1) := by decide +kernel
theorem dX5_prove_178 : decode cX5_prove 178 = .ok (.ishl, 1) := by decide +kernel
theorem dX5_prove_179 : decode cX5_prove 179 = .ok (.iconst (-1), 1) := by decide +kernel
theorem dX5_prove_180 : decode cX5_prove 180 = .ok (.ixor, 1) := by decide +kernel
theorem dX5_prove_181 : decode cX5_prove 181 = .ok (.iand, 1) := by decide +kernel
theorem dX5_prove_182 : decode cX5_prove 182 = .ok (.istore 4, 2) := by decide +kernel
theorem dX5_prove_184 : decode cX5_prove 184 = .ok (.aload_n 0, 1) := by decide +kernel
theorem dX5_prove_185 : decode cX5_prove 185 = .ok (.getfield 22, 3) := by decide +kernel
theorem dX5_prove_188 : decode cX5_prove 188 = .ok (.iload_n 2, 1) := by decide +kernel
theorem dX5_prove_189 : decode cX5_prove 189 = .ok (.iaload, 1) := by decide +kernel
theorem dX5_prove_190 : decode cX5_prove 190 = .ok (.aload_n 0, 1) := by decide +kernel
theorem dX5_prove_191 : decode cX5_prove 191 = .ok (.getfield 22, 3) := by decide +kernel
theorem dX5_prove_194 : decode cX5_prove 194 = .ok (.iload_n 1, 1) := by decide +kernel
theorem dX5_prove_195 : decode cX5_prove 195 = .ok (.iaload, 1) := by decide +kernel
theorem dX5_prove_196 : decode cX5_prove 196 = .ok (.ior, 1) := by decide +kernel
theorem dX5_prove_197 : decode cX5_prove 197 = .ok (.iload 4, 2) := by decide +kernel
theorem dX5_prove_199 : decode cX5_prove 199 = .ok (.iand, 1) := by decide +kernel
theorem dX5_prove_200 : decode cX5_prove 200 = .ok (.istore 5, 2) := by decide +kernel
theorem dX5_prove_202 : decode cX5_prove 202 = .ok (.aload_n 0, 1) := by decide +kernel
theorem dX5_prove_203 : decode cX5_prove 203 = .ok (.getfield 25, 3) := by decide +kernel
theorem dX5_prove_206 : decode cX5_prove 206 = .ok (.iload_n 2, 1) := by decide +kernel
theorem dX5_prove_207 : decode cX5_prove 207 = .ok (.iaload, 1) := by decide +kernel
theorem dX5_prove_208 : decode cX5_prove 208 = .ok (.aload_n 0, 1) := by decide +kernel
theorem dX5_prove_209 : decode cX5_prove 209 = .ok (.getfield 25, 3) := by decide +kernel
theorem dX5_prove_212 : decode cX5_prove 212 = .ok (.iload_n 1, 1) := by decide +kernel
theorem dX5_prove_213 : decode cX5_prove 213 = .ok (.iaload, 1) := by decide +kernel
theorem dX5_prove_214 : decode cX5_prove 214 = .ok (.ior, 1) := by decide +kernel
theorem dX5_prove_215 : decode cX5_prove 215 = .ok (.iload 4, 2) := by decide +kernel
theorem dX5_prove_217 : decode cX5_prove 217 = .ok (.iand, 1) := by decide +kernel
theorem dX5_prove_218 : decode cX5_prove 218 = .ok (.istore 6, 2) := by decide +kernel
theorem dX5_prove_220 : decode cX5_prove 220 = .ok (.iload_n 3, 1) := by decide +kernel
theorem dX5_prove_221 : decode cX5_prove 221 = .ok (.bipush (-5), 2) := by decide +kernel
theorem dX5_prove_223 : decode cX5_prove 223 = .ok (.if_icmp .eq 79, 3) := by decide +kernel
theorem dX5_prove_226 : decode cX5_prove 226 = .ok (.aload_n 0, 1) := by decide +kernel
theorem dX5_prove_227 : decode cX5_prove 227 = .ok (.getfield 41, 3) := by decide +kernel
theorem dX5_prove_230 : decode cX5_prove 230 = .ok (.bipush 64, 2) := by decide +kernel
theorem dX5_prove_232 : decode cX5_prove 232 = .ok (.iload 5, 2) := by decide +kernel
theorem dX5_prove_234 : decode cX5_prove 234 = .ok (.imul, 1) := by decide +kernel
theorem dX5_prove_235 : decode cX5_prove 235 = .ok (.iload 6, 2) := by decide +kernel
theorem dX5_prove_237 : decode cX5_prove 237 = .ok (.iadd, 1) := by decide +kernel
theorem dX5_prove_238 : decode cX5_prove 238 = .ok (.baload, 1) := by decide +kernel
theorem dX5_prove_239 : decode cX5_prove 239 = .ok (.ifCond .ne 63, 3) := by decide +kernel
theorem dX5_prove_242 : decode cX5_prove 242 = .ok (.aload_n 0, 1) := by decide +kernel
theorem dX5_prove_243 : decode cX5_prove 243 = .ok (.aload_n 0, 1) := by decide +kernel
theorem dX5_prove_244 : decode cX5_prove 244 = .ok (.getfield 77, 3) := by decide +kernel
theorem dX5_prove_247 : decode cX5_prove 247 = .ok (.sipush 400, 3) := by decide +kernel
theorem dX5_prove_250 : decode cX5_prove 250 = .ok (.if_icmp .ge 7, 3) := by decide +kernel
theorem dX5_prove_253 : decode cX5_prove 253 = .ok (.iconst 1, 1) := by decide +kernel
theorem dX5_prove_254 : decode cX5_prove 254 = .ok (.goto 4, 3) := by decide +kernel
theorem dX5_prove_257 : decode cX5_prove 257 = .ok (.iconst 0, 1) := by decide +kernel
theorem dX5_prove_258 : decode cX5_prove 258 = .ok (.putfield 83, 3) := by decide +kernel
theorem dX5_prove_261 : decode cX5_prove 261 = .ok (.aload_n 0, 1) := by decide +kernel
theorem dX5_prove_262 : decode cX5_prove 262 = .ok (.getfield 83, 3) := by decide +kernel
theorem dX5_prove_265 : decode cX5_prove 265 = .ok (.ifCond .eq 37, 3) := by decide +kernel
theorem dX5_prove_268 : decode cX5_prove 268 = .ok (.aload_n 0, 1) := by decide +kernel
theorem dX5_prove_269 : decode cX5_prove 269 = .ok (.iload 5, 2) := by decide +kernel
theorem dX5_prove_271 : decode cX5_prove 271 = .ok (.iload 6, 2) := by decide +kernel
theorem dX5_prove_273 : decode cX5_prove 273 = .ok (.iload_n 2, 1) := by decide +kernel
theorem dX5_prove_274 : decode cX5_prove 274 = .ok (.iload_n 1, 1) := by decide +kernel
theorem dX5_prove_275 : decode cX5_prove 275 = .ok (.iload_n 3, 1) := by decide +kernel
theorem dX5_prove_276 : decode cX5_prove 276 = .ok (.invokevirtual 87, 3) := by decide +kernel
theorem dX5_prove_279 : decode cX5_prove 279 = .ok (.aload_n 0, 1) := by decide +kernel
theorem dX5_prove_280 : decode cX5_prove 280 = .ok (.iload 5, 2) := by decide +kernel
theorem dX5_prove_282 : decode cX5_prove 282 = .ok (.iload 6, 2) := by decide +kernel
theorem dX5_prove_284 : decode cX5_prove 284 = .ok (.iadd, 1) := by decide +kernel
theorem dX5_prove_285 : decode cX5_prove 285 = .ok (.ifCond .ne 12, 3) := by decide +kernel
theorem dX5_prove_288 : decode cX5_prove 288 = .ok (.aload_n 0, 1) := by decide +kernel
theorem dX5_prove_289 : decode cX5_prove 289 = .ok (.getfield 77, 3) := by decide +kernel
theorem dX5_prove_292 : decode cX5_prove 292 = .ok (.iconst 1, 1) := by decide +kernel
theorem dX5_prove_293 : decode cX5_prove 293 = .ok (.isub, 1) := by decide +kernel
theorem dX5_prove_294 : decode cX5_prove 294 = .ok (.goto 5, 3) := by decide +kernel
theorem dX5_prove_297 : decode cX5_prove 297 = .ok (.bipush (-5), 2) := by decide +kernel
theorem dX5_prove_299 : decode cX5_prove 299 = .ok (.putfield 80, 3) := by decide +kernel
theorem dX5_prove_302 : decode cX5_prove 302 = .ok (.iinc 2 1, 3) := by decide +kernel
theorem dX5_prove_305 : decode cX5_prove 305 = .ok (.goto (-193), 3) := by decide +kernel
theorem dX5_prove_308 : decode cX5_prove 308 = .ok (.iinc 1 1, 3) := by decide +kernel
theorem dX5_prove_311 : decode cX5_prove 311 = .ok (.goto (-225), 3) := by decide +kernel
theorem dX5_prove_314 : decode cX5_prove 314 = .ok (.aload_n 0, 1) := by decide +kernel
theorem dX5_prove_315 : decode cX5_prove 315 = .ok (.getfield 77, 3) := by decide +kernel
theorem dX5_prove_318 : decode cX5_prove 318 = .ok (.iconst 1, 1) := by decide +kernel
theorem dX5_prove_319 : decode cX5_prove 319 = .ok (.isub, 1) := by decide +kernel
theorem dX5_prove_320 : decode cX5_prove 320 = .ok (.istore_n 1, 1) := by decide +kernel
theorem dX5_prove_321 : decode cX5_prove 321 = .ok (.iload_n 1, 1) := by decide +kernel
theorem dX5_prove_322 : decode cX5_prove 322 = .ok (.ifCond .lt 97, 3) := by decide +kernel
theorem dX5_prove_325 : decode cX5_prove 325 = .ok (.aload_n 0, 1) := by decide +kernel
theorem dX5_prove_326 : decode cX5_prove 326 = .ok (.getfield 80, 3) := by decide +kernel
theorem dX5_prove_329 : decode cX5_prove 329 = .ok (.bipush (-5), 2) := by decide +kernel
theorem dX5_prove_331 : decode cX5_prove 331 = .ok (.if_icmp .eq 88, 3) := by decide +kernel
theorem dX5_prove_334 : decode cX5_prove 334 = .ok (.aload_n 0, 1) := by decide +kernel
theorem dX5_prove_335 : decode cX5_prove 335 = .ok (.getfield 83, 3) := by decide +kernel
theorem dX5_prove_338 : decode cX5_prove 338 = .ok (.ifCond .eq 81, 3) := by decide +kernel
theorem dX5_prove_341 : decode cX5_prove 341 = .ok (.aload_n 0, 1) := by decide +kernel
theorem dX5_prove_342 : decode cX5_prove 342 = .ok (.getfield 37, 3) := by decide +kernel
theorem dX5_prove_345 : decode cX5_prove 345 = .ok (.iload_n 1, 1) := by decide +kernel
theorem dX5_prove_346 : decode cX5_prove 346 = .ok (.aload_n 0, 1) := by decide +kernel
theorem dX5_prove_347 : decode cX5_prove 347 = .ok (.getfield 37, 3) := by decide +kernel
theorem dX5_prove_350 : decode cX5_prove 350 = .ok (.iload_n 1, 1) := by decide +kernel
theorem dX5_prove_351 : decode cX5_prove 351 = .ok (.baload, 1) := by decide +kernel
theorem dX5_prove_352 : decode cX5_prove 352 = .ok (.ifCond .ne 11, 3) := by decide +kernel
theorem dX5_prove_355 : decode cX5_prove 355 = .ok (.iload_n 1, 1) := by decide +kernel
theorem dX5_prove_356 : decode cX5_prove 356 = .ok (.aload_n 0, 1) := by decide +kernel
theorem dX5_prove_357 : decode cX5_prove 357 = .ok (.getfield 80, 3) := by decide +kernel
theorem dX5_prove_360 : decode cX5_prove 360 = .ok (.if_icmp .ne 7, 3) := by decide +kernel
theorem dX5_prove_363 : decode cX5_prove 363 = .ok (.iconst 1, 1) := by decide +kernel
theorem dX5_prove_364 : decode cX5_prove 364 = .ok (.goto 4, 3) := by decide +kernel
theorem dX5_prove_367 : decode cX5_prove 367 = .ok (.iconst 0, 1) := by decide +kernel
theorem dX5_prove_368 : decode cX5_prove 368 = .ok (.bastore, 1) := by decide +kernel
theorem dX5_prove_369 : decode cX5_prove 369 = .ok (.aload_n 0, 1) := by decide +kernel
theorem dX5_prove_370 : decode cX5_prove 370 = .ok (.getfield 37, 3) := by decide +kernel
theorem dX5_prove_373 : decode cX5_prove 373 = .ok (.iload_n 1, 1) := by decide +kernel
theorem dX5_prove_374 : decode cX5_prove 374 = .ok (.baload, 1) := by decide +kernel
theorem dX5_prove_375 : decode cX5_prove 375 = .ok (.ifCond .eq 38, 3) := by decide +kernel
theorem dX5_prove_378 : decode cX5_prove 378 = .ok (.aload_n 0, 1) := by decide +kernel
theorem dX5_prove_379 : decode cX5_prove 379 = .ok (.getfield 28, 3) := by decide +kernel
theorem dX5_prove_382 : decode cX5_prove 382 = .ok (.iload_n 1, 1) := by decide +kernel
theorem dX5_prove_383 : decode cX5_prove 383 = .ok (.iaload, 1) := by decide +kernel
theorem dX5_prove_384 : decode cX5_prove 384 = .ok (.bipush (-5), 2) := by decide +kernel
theorem dX5_prove_386 : decode cX5_prove 386 = .ok (.if_icmp .eq 27, 3) := by decide +kernel
theorem dX5_prove_389 : decode cX5_prove 389 = .ok (.aload_n 0, 1) := by decide +kernel
theorem dX5_prove_390 : decode cX5_prove 390 = .ok (.getfield 37, 3) := by decide +kernel
theorem dX5_prove_393 : decode cX5_prove 393 = .ok (.aload_n 0, 1) := by decide +kernel
theorem dX5_prove_394 : decode cX5_prove 394 = .ok (.getfield 28, 3) := by decide +kernel
theorem dX5_prove_397 : decode cX5_prove 397 = .ok (.iload_n 1, 1) := by decide +kernel
theorem dX5_prove_398 : decode cX5_prove 398 = .ok (.iaload, 1) := by decide +kernel
theorem dX5_prove_399 : decode cX5_prove 399 = .ok (.iconst 1, 1) := by decide +kernel
theorem dX5_prove_400 : decode cX5_prove 400 = .ok (.bastore, 1) := by decide +kernel
theorem dX5_prove_401 : decode cX5_prove 401 = .ok (.aload_n 0, 1) := by decide +kernel
theorem dX5_prove_402 : decode cX5_prove 402 = .ok (.getfield 37, 3) := by decide +kernel
theorem dX5_prove_405 : decode cX5_prove 405 = .ok (.aload_n 0, 1) := by decide +kernel
theorem dX5_prove_406 : decode cX5_prove 406 = .ok (.getfield 31, 3) := by decide +kernel
theorem dX5_prove_409 : decode cX5_prove 409 = .ok (.iload_n 1, 1) := by decide +kernel
theorem dX5_prove_410 : decode cX5_prove 410 = .ok (.iaload, 1) := by decide +kernel
theorem dX5_prove_411 : decode cX5_prove 411 = .ok (.iconst 1, 1) := by decide +kernel
theorem dX5_prove_412 : decode cX5_prove 412 = .ok (.bastore, 1) := by decide +kernel
theorem dX5_prove_413 : decode cX5_prove 413 = .ok (.iinc 1 (-1), 3) := by decide +kernel
theorem dX5_prove_416 : decode cX5_prove 416 = .ok (.goto (-95), 3) := by decide +kernel
theorem dX5_prove_419 : decode cX5_prove 419 = .ok (.return_, 1) := by decide +kernel
theorem dX5_isProved_0 : decode cX5_isProved 0 = .ok (.aload_n 0, 1) := by decide +kernel
theorem dX5_isProved_1 : decode cX5_isProved 1 = .ok (.getfield 83, 3) := by decide +kernel
theorem dX5_isProved_4 : decode cX5_isProved 4 = .ok (.ifCond .eq 16, 3) := by decide +kernel
theorem dX5_isProved_7 : decode cX5_isProved 7 = .ok (.aload_n 0, 1) := by decide +kernel
theorem dX5_isProved_8 : decode cX5_isProved 8 = .ok (.getfield 80, 3) := by decide +kernel
theorem dX5_isProved_11 : decode cX5_isProved 11 = .ok (.bipush (-5), 2) := by decide +kernel
theorem dX5_isProved_13 : decode cX5_isProved 13 = .ok (.if_icmp .eq 7, 3) := by decide +kernel
theorem dX5_isProved_16 : decode cX5_isProved 16 = .ok (.iconst 1, 1) := by decide +kernel
theorem dX5_isProved_17 : decode cX5_isProved 17 = .ok (.goto 4, 3) := by decide +kernel
theorem dX5_isProved_20 : decode cX5_isProved 20 = .ok (.iconst 0, 1) := by decide +kernel
theorem dX5_isProved_21 : decode cX5_isProved 21 = .ok (.ireturn, 1) := by decide +kernel
set_option maxRecDepth 20000 in
theorem ggX5_claim_X5_knownTo : GoodIn wsX5_claim wsX5_knownTo := goodIn_r _ [14, 2, 21, 22, 23, 24, 25, 26, 27, 28, 29, 30, 31, 32, 33, 34, 35, 36, 37, 38, 39, 40, 41, 42] (by decide +kernel) (by decide +kernel)
set_option maxRecDepth 20000 in
theorem gX5_claim_X5_knownTo : GoodIn wsX5_claim (wsV RX5 66 RX5 yX5_knownTo wsX5_knownTo) := goodIn_app (goodIn_of _ (by decide +kernel)) ggX5_claim_X5_knownTo
set_option maxRecDepth 20000 in
theorem ggX5_claim_X5_truths : GoodIn wsX5_claim wsX5_truths := goodIn_r _ [17] (by decide +kernel) (by decide +kernel)
set_option maxRecDepth 20000 in
theorem gX5_claim_X5_truths : GoodIn wsX5_claim (va_wsS RX5 56 yX5_truths wsX5_truths) := goodIn_app (goodIn_of _ (by decide +kernel)) ggX5_claim_X5_truths
set_option maxRecDepth 20000 in
theorem ggX5_claim_X5_worldsOf : GoodIn wsX5_claim wsX5_worldsOf := goodIn_r _ [20] (by decide +kernel) (by decide +kernel)
set_option maxRecDepth 20000 in
theorem gX5_claim_X5_worldsOf : GoodIn wsX5_claim (va_wsS RX5 94 yX5_worldsOf wsX5_worldsOf) := goodIn_app (goodIn_of _ (by decide +kernel)) ggX5_claim_X5_worldsOf
theorem dX5_claim_0 : decode cX5_claim 0 = .ok (.aload_n 0, 1) := by decide +kernel
theorem dX5_claim_1 : decode cX5_claim 1 = .ok (.iconst 0, 1) := by decide +kernel
theorem dX5_claim_2 : decode cX5_claim 2 = .ok (.invokevirtual 66, 3) := by decide +kernel
theorem dX5_claim_5 : decode cX5_claim 5 = .ok (.istore_n 2, 1) := by decide +kernel
theorem dX5_claim_6 : decode cX5_claim 6 = .ok (.aload_n 0, 1) := by decide +kernel
theorem dX5_claim_7 : decode cX5_claim 7 = .ok (.iconst 1, 1) := by decide +kernel
theorem dX5_claim_8 : decode cX5_claim 8 = .ok (.invokevirtual 66, 3) := by decide +kernel
theorem dX5_claim_11 : decode cX5_claim 11 = .ok (.istore_n 3, 1) := by decide +kernel
theorem dX5_claim_12 : decode cX5_claim 12 = .ok (.iconst 0, 1) := by decide +kernel
theorem dX5_claim_13 : decode cX5_claim 13 = .ok (.istore 4, 2) := by decide +kernel
theorem dX5_claim_15 : decode cX5_claim 15 = .ok (.iload 4, 2) := by decide +kernel
theorem dX5_claim_17 : decode cX5_claim 17 = .ok (.aload_n 0, 1) := by decide +kernel
theorem dX5_claim_18 : decode cX5_claim 18 = .ok (.getfield 77, 3) := by decide +kernel
theorem dX5_claim_21 : decode cX5_claim 21 = .ok (.if_icmp .ge 266, 3) := by decide +kernel
theorem dX5_claim_24 : decode cX5_claim 24 = .ok (.iload 4, 2) := by decide +kernel
theorem dX5_claim_26 : decode cX5_claim 26 = .ok (.aload_n 0, 1) := by decide +kernel
theorem dX5_claim_27 : decode cX5_claim 27 = .ok (.getfield 7, 3) := by decide +kernel
theorem dX5_claim_30 : decode cX5_claim 30 = .ok (.iconst 0, 1) := by decide +kernel
theorem dX5_claim_31 : decode cX5_claim 31 = .ok (.iaload, 1) := by decide +kernel
theorem dX5_claim_32 : decode cX5_claim 32 = .ok (.if_icmp .ge 60, 3) := by decide +kernel
theorem dX5_claim_35 : decode cX5_claim 35 = .ok (.aload_n 0, 1) := by decide +kernel
theorem dX5_claim_36 : decode cX5_claim 36 = .ok (.getfield 44, 3) := by decide +kernel
theorem dX5_claim_39 : decode cX5_claim 39 = .ok (.iload 4, 2) := by decide +kernel
theorem dX5_claim_41 : decode cX5_claim 41 = .ok (.aload_n 0, 1) := by decide +kernel
theorem dX5_claim_42 : decode cX5_claim 42 = .ok (.getfield 7, 3) := by decide +kernel
theorem dX5_claim_45 : decode cX5_claim 45 = .ok (.iconst 1, 1) := by decide +kernel
theorem dX5_claim_46 : decode cX5_claim 46 = .ok (.iload 4, 2) := by decide +kernel
theorem dX5_claim_48 : decode cX5_claim 48 = .ok (.iadd, 1) := by decide +kernel
theorem dX5_claim_49 : decode cX5_claim 49 = .ok (.iaload, 1) := by decide +kernel
theorem dX5_claim_50 : decode cX5_claim 50 = .ok (.iconst 1, 1) := by decide +kernel
theorem dX5_claim_51 : decode cX5_claim 51 = .ok (.if_icmp .ne 9, 3) := by decide +kernel
theorem dX5_claim_54 : decode cX5_claim 54 = .ok (.ldc2_w 60, 3) := by decide +kernel
theorem dX5_claim_57 : decode cX5_claim 57 = .ok (.goto 31, 3) := by decide +kernel
theorem dX5_claim_60 : decode cX5_claim 60 = .ok (.iload_n 1, 1) := by decide +kernel
theorem dX5_claim_61 : decode cX5_claim 61 = .ok (.ifCond .ne 7, 3) := by decide +kernel
theorem dX5_claim_64 : decode cX5_claim 64 = .ok (.lconst 0, 1) := by decide +kernel
theorem dX5_claim_65 : decode cX5_claim 65 = .ok (.goto 23, 3) := by decide +kernel
theorem dX5_claim_68 : decode cX5_claim 68 = .ok (.aload_n 0, 1) := by decide +kernel
theorem dX5_claim_69 : decode cX5_claim 69 = .ok (.getfield 22, 3) := by decide +kernel
theorem dX5_claim_72 : decode cX5_claim 72 = .ok (.iload 4, 2) := by decide +kernel
theorem dX5_claim_74 : decode cX5_claim 74 = .ok (.iaload, 1) := by decide +kernel
theorem dX5_claim_75 : decode cX5_claim 75 = .ok (.aload_n 0, 1) := by decide +kernel
theorem dX5_claim_76 : decode cX5_claim 76 = .ok (.getfield 25, 3) := by decide +kernel
theorem dX5_claim_79 : decode cX5_claim 79 = .ok (.iload 4, 2) := by decide +kernel
theorem dX5_claim_81 : decode cX5_claim 81 = .ok (.iaload, 1) := by decide +kernel
theorem dX5_claim_82 : decode cX5_claim 82 = .ok (.iload_n 2, 1) := by decide +kernel
theorem dX5_claim_83 : decode cX5_claim 83 = .ok (.iload_n 3, 1) := by decide +kernel
theorem dX5_claim_84 : decode cX5_claim 84 = .ok (.iand, 1) := by decide +kernel
theorem dX5_claim_85 : decode cX5_claim 85 = .ok (.invokestatic 56, 3) := by decide +kernel
theorem dX5_claim_88 : decode cX5_claim 88 = .ok (.lastore, 1) := by decide +kernel
theorem dX5_claim_89 : decode cX5_claim 89 = .ok (.goto 192, 3) := by decide +kernel
theorem dX5_claim_92 : decode cX5_claim 92 = .ok (.iconst 1, 1) := by decide +kernel
theorem dX5_claim_93 : decode cX5_claim 93 = .ok (.aload_n 0, 1) := by decide +kernel
theorem dX5_claim_94 : decode cX5_claim 94 = .ok (.getfield 34, 3) := by decide +kernel
theorem dX5_claim_97 : decode cX5_claim 97 = .ok (.iload 4, 2) := by decide +kernel
theorem dX5_claim_99 : decode cX5_claim 99 = .ok (.iaload, 1) := by decide +kernel
theorem dX5_claim_100 : decode cX5_claim 100 = .ok (.ishl, 1) := by decide +kernel
theorem dX5_claim_101 : decode cX5_claim 101 = .ok (.istore 5, 2) := by decide +kernel
theorem dX5_claim_103 : decode cX5_claim 103 = .ok (.aload_n 0, 1) := by decide +kernel
theorem dX5_claim_104 : decode cX5_claim 104 = .ok (.getfield 44, 3) := by decide +kernel
theorem dX5_claim_107 : decode cX5_claim 107 = .ok (.aload_n 0, 1) := by decide +kernel
theorem dX5_claim_108 : decode cX5_claim 108 = .ok (.getfield 28, 3) := by decide +kernel
theorem dX5_claim_111 : decode cX5_claim 111 = .ok (.iload 4, 2) := by decide +kernel
theorem dX5_claim_113 : decode cX5_claim 113 = .ok (.iaload, 1) := by decide +kernel
theorem dX5_claim_114 : decode cX5_claim 114 = .ok (.laload, 1) := by decide +kernel
theorem dX5_claim_115 : decode cX5_claim 115 = .ok (.lstore 6, 2) := by decide +kernel
theorem dX5_claim_117 : decode cX5_claim 117 = .ok (.aload_n 0, 1) := by decide +kernel
theorem dX5_claim_118 : decode cX5_claim 118 = .ok (.getfield 44, 3) := by decide +kernel
theorem dX5_claim_121 : decode cX5_claim 121 = .ok (.aload_n 0, 1) := by decide +kernel
theorem dX5_claim_122 : decode cX5_claim 122 = .ok (.getfield 31, 3) := by decide +kernel
theorem dX5_claim_125 : decode cX5_claim 125 = .ok (.iload 4, 2) := by decide +kernel
theorem dX5_claim_127 : decode cX5_claim 127 = .ok (.iaload, 1) := by decide +kernel
theorem dX5_claim_128 : decode cX5_claim 128 = .ok (.laload, 1) := by decide +kernel
theorem dX5_claim_129 : decode cX5_claim 129 = .ok (.lstore 8, 2) := by decide +kernel
theorem dX5_claim_131 : decode cX5_claim 131 = .ok (.aload_n 0, 1) := by decide +kernel
theorem dX5_claim_132 : decode cX5_claim 132 = .ok (.getfield 22, 3) := by decide +kernel
theorem dX5_claim_135 : decode cX5_claim 135 = .ok (.aload_n 0, 1) := by decide +kernel
theorem dX5_claim_136 : decode cX5_claim 136 = .ok (.getfield 28, 3) := by decide +kernel
theorem dX5_claim_139 : decode cX5_claim 139 = .ok (.iload 4, 2) := by decide +kernel
theorem dX5_claim_141 : decode cX5_claim 141 = .ok (.iaload, 1) := by decide +kernel
theorem dX5_claim_142 : decode cX5_claim 142 = .ok (.iaload, 1) := by decide +kernel
theorem dX5_claim_143 : decode cX5_claim 143 = .ok (.iload 5, 2) := by decide +kernel
theorem dX5_claim_145 : decode cX5_claim 145 = .ok (.iand, 1) := by decide +kernel
theorem dX5_claim_146 : decode cX5_claim 146 = .ok (.ifCond .eq 7, 3) := by decide +kernel
theorem dX5_claim_149 : decode cX5_claim 149 = .ok (.iconst 1, 1) := by decide +kernel
theorem dX5_claim_150 : decode cX5_claim 150 = .ok (.goto 4, 3) := by decide +kernel
theorem dX5_claim_153 : decode cX5_claim 153 = .ok (.iconst 0, 1) := by decide +kernel
theorem dX5_claim_154 : decode cX5_claim 154 = .ok (.istore 10, 2) := by decide +kernel
theorem dX5_claim_156 : decode cX5_claim 156 = .ok (.iload 10, 2) := by decide +kernel
theorem dX5_claim_158 : decode cX5_claim 158 = .ok (.ifCond .eq 8, 3) := by decide +kernel
theorem dX5_claim_161 : decode cX5_claim 161 = .ok (.lload 8, 2) := by decide +kernel
theorem dX5_claim_163 : decode cX5_claim 163 = .ok (.goto 5, 3) := by decide +kernel
theorem dX5_claim_166 : decode cX5_claim 166 = .ok (.lload 6, 2) := by decide +kernel
theorem dX5_claim_168 : decode cX5_claim 168 = .ok (.lstore 11, 2) := by decide +kernel
theorem dX5_claim_170 : decode cX5_claim 170 = .ok (.iload 10, 2) := by decide +kernel
theorem dX5_claim_172 : decode cX5_claim 172 = .ok (.ifCond .eq 8, 3) := by decide +kernel
theorem dX5_claim_175 : decode cX5_claim 175 = .ok (.lload 6, 2) := by decide +kernel
theorem dX5_claim_177 : decode cX5_claim 177 = .ok (.goto 5, 3) := by decide +kernel
theorem dX5_claim_180 : decode cX5_claim 180 = .ok (.lload 8, 2) := by decide +kernel
theorem dX5_claim_182 : decode cX5_claim 182 = .ok (.lstore 13, 2) := by decide +kernel
theorem dX5_claim_184 : decode cX5_claim 184 = .ok (.aload_n 0, 1) := by decide +kernel
theorem dX5_claim_185 : decode cX5_claim 185 = .ok (.getfield 34, 3) := by decide +kernel
theorem dX5_claim_188 : decode cX5_claim 188 = .ok (.iload 4, 2) := by decide +kernel
theorem dX5_claim_190 : decode cX5_claim 190 = .ok (.iaload, 1) := by decide +kernel
theorem dX5_claim_191 : decode cX5_claim 191 = .ok (.invokestatic 94, 3) := by decide +kernel
theorem dX5_claim_194 : decode cX5_claim 194 = .ok (.lstore 15, 2) := by decide +kernel
theorem dX5_claim_196 : decode cX5_claim 196 = .ok (.lload 11, 2) := by decide +kernel
theorem dX5_claim_198 : decode cX5_claim 198 = .ok (.lload 15, 2) := by decide +kernel
theorem dX5_claim_200 : decode cX5_claim 200 = .ok (.land, 1) := by decide +kernel
theorem dX5_claim_201 : decode cX5_claim 201 = .ok (.lload 13, 2) := by decide +kernel
theorem dX5_claim_203 : decode cX5_claim 203 = .ok (.lload 15, 2) := by decide +kernel
theorem dX5_claim_205 : decode cX5_claim 205 = .ok (.ldc2_w 60, 3) := by decide +kernel
theorem dX5_claim_208 : decode cX5_claim 208 = .ok (.lxor, 1) := by decide +kernel
theorem dX5_claim_209 : decode cX5_claim 209 = .ok (.land, 1) := by decide +kernel
theorem dX5_claim_210 : decode cX5_claim 210 = .ok (.lor, 1) := by decide +kernel
theorem dX5_claim_211 : decode cX5_claim 211 = .ok (.lstore 17, 2) := by decide +kernel
theorem dX5_claim_213 : decode cX5_claim 213 = .ok (.iload_n 3, 1) := by decide +kernel
theorem dX5_claim_214 : decode cX5_claim 214 = .ok (.iload 5, 2) := by decide +kernel
theorem dX5_claim_216 : decode cX5_claim 216 = .ok (.iand, 1) := by decide +kernel
theorem dX5_claim_217 : decode cX5_claim 217 = .ok (.ifCond .ne 7, 3) := by decide +kernel
theorem dX5_claim_220 : decode cX5_claim 220 = .ok (.iconst 1, 1) := by decide +kernel
theorem dX5_claim_221 : decode cX5_claim 221 = .ok (.goto 4, 3) := by decide +kernel
theorem dX5_claim_224 : decode cX5_claim 224 = .ok (.iconst 0, 1) := by decide +kernel
theorem dX5_claim_225 : decode cX5_claim 225 = .ok (.istore 19, 2) := by decide +kernel
theorem dX5_claim_227 : decode cX5_claim 227 = .ok (.iload_n 2, 1) := by decide +kernel
theorem dX5_claim_228 : decode cX5_claim 228 = .ok (.iload 5, 2) := by decide +kernel
theorem dX5_claim_230 : decode cX5_claim 230 = .ok (.iand, 1) := by decide +kernel
theorem dX5_claim_231 : decode cX5_claim 231 = .ok (.ifCond .ne 7, 3) := by decide +kernel
theorem dX5_claim_234 : decode cX5_claim 234 = .ok (.iconst 1, 1) := by decide +kernel
theorem dX5_claim_235 : decode cX5_claim 235 = .ok (.goto 4, 3) := by decide +kernel
theorem dX5_claim_238 : decode cX5_claim 238 = .ok (.iconst 0, 1) := by decide +kernel
theorem dX5_claim_239 : decode cX5_claim 239 = .ok (.istore 20, 2) := by decide +kernel
theorem dX5_claim_241 : decode cX5_claim 241 = .ok (.aload_n 0, 1) := by decide +kernel
theorem dX5_claim_242 : decode cX5_claim 242 = .ok (.getfield 44, 3) := by decide +kernel
theorem dX5_claim_245 : decode cX5_claim 245 = .ok (.iload 4, 2) := by decide +kernel
theorem dX5_claim_247 : decode cX5_claim 247 = .ok (.iload 19, 2) := by decide +kernel
theorem dX5_claim_249 : decode cX5_claim 249 = .ok (.ifCond .eq 11, 3) := by decide +kernel
theorem dX5_claim_252 : decode cX5_claim 252 = .ok (.lload 6, 2) := by decide +kernel
theorem dX5_claim_254 : decode cX5_claim 254 = .ok (.lload 8, 2) := by decide +kernel
theorem dX5_claim_256 : decode cX5_claim 256 = .ok (.lor, 1) := by decide +kernel
theorem dX5_claim_257 : decode cX5_claim 257 = .ok (.goto 23, 3) := by decide +kernel
theorem dX5_claim_260 : decode cX5_claim 260 = .ok (.iload 20, 2) := by decide +kernel
theorem dX5_claim_262 : decode cX5_claim 262 = .ok (.ifCond .ne 8, 3) := by decide +kernel
theorem dX5_claim_265 : decode cX5_claim 265 = .ok (.iload_n 1, 1) := by decide +kernel
theorem dX5_claim_266 : decode cX5_claim 266 = .ok (.iconst 1, 1) := by decide +kernel
theorem dX5_claim_267 : decode cX5_claim 267 = .ok (.if_icmp .ne 11, 3) := by decide +kernel
theorem dX5_claim_270 : decode cX5_claim 270 = .ok (.lload 6, 2) := by decide +kernel
theorem dX5_claim_272 : decode cX5_claim 272 = .ok (.lload 8, 2) := by decide +kernel
theorem dX5_claim_274 : decode cX5_claim 274 = .ok (.land, 1) := by decide +kernel
theorem dX5_claim_275 : decode cX5_claim 275 = .ok (.goto 5, 3) := by decide +kernel
theorem dX5_claim_278 : decode cX5_claim 278 = .ok (.lload 17, 2) := by decide +kernel
theorem dX5_claim_280 : decode cX5_claim 280 = .ok (.lastore, 1) := by decide +kernel
theorem dX5_claim_281 : decode cX5_claim 281 = .ok (.iinc 4 1, 3) := by decide +kernel
theorem dX5_claim_284 : decode cX5_claim 284 = .ok (.goto (-269), 3) := by decide +kernel
theorem dX5_claim_287 : decode cX5_claim 287 = .ok (.return_, 1) := by decide +kernel
set_option maxRecDepth 20000 in
theorem ggX5_middleOf_X5_claim : GoodIn wsX5_middleOf wsX5_claim := goodIn_r _ [7, 8, 9, 1, 10, 11, 12, 13, 14, 15, 16, 17, 18, 6, 19, 20, 21, 22, 23, 24, 25, 26, 27, 28, 29, 30, 31, 32, 33, 34, 35, 36, 37, 38, 39, 40, 41, 42, 43, 44, 45, 46, 47] (by decide +kernel) (by decide +kernel)
set_option maxRecDepth 20000 in
theorem gX5_middleOf_X5_claim : GoodIn wsX5_middleOf (wsV RX5 97 RX5 yX5_claim wsX5_claim) := goodIn_app (goodIn_of _ (by decide +kernel)) ggX5_middleOf_X5_claim
theorem dX5_middleOf_0 : decode cX5_middleOf 0 = .ok (.aload_n 0, 1) := by decide +kernel
theorem dX5_middleOf_1 : decode cX5_middleOf 1 = .ok (.iload_n 1, 1) := by decide +kernel
theorem dX5_middleOf_2 : decode cX5_middleOf 2 = .ok (.invokevirtual 97, 3) := by decide +kernel
theorem dX5_middleOf_5 : decode cX5_middleOf 5 = .ok (.aload_n 0, 1) := by decide +kernel
theorem dX5_middleOf_6 : decode cX5_middleOf 6 = .ok (.getfield 44, 3) := by decide +kernel
theorem dX5_middleOf_9 : decode cX5_middleOf 9 = .ok (.aload_n 0, 1) := by decide +kernel
theorem dX5_middleOf_10 : decode cX5_middleOf 10 = .ok (.getfield 80, 3) := by decide +kernel
theorem dX5_middleOf_13 : decode cX5_middleOf 13 = .ok (.laload, 1) := by decide +kernel
theorem dX5_middleOf_14 : decode cX5_middleOf 14 = .ok (.lreturn, 1) := by decide +kernel
set_option maxRecDepth 20000 in
theorem ggX5_add_X5_in : GoodIn wsX5_add wsX5_in := goodIn_r _ [5] (by decide +kernel) (by decide +kernel)
set_option maxRecDepth 20000 in
theorem gX5_add_X5_in : GoodIn wsX5_add (va_wsS RX5 48 yX5_in wsX5_in) := goodIn_app (goodIn_of _ (by decide +kernel)) ggX5_add_X5_in
set_option maxRecDepth 20000 in
theorem ggX5_add_X5_know : GoodIn wsX5_add wsX5_know := goodIn_r _ [9, 10, 11, 1, 16, 17, 18, 19, 20, 21, 22, 23, 24, 25, 26, 27, 28, 29, 30, 31, 32, 33, 34, 35, 36, 37] (by decide +kernel) (by decide +kernel)
set_option maxRecDepth 20000 in
theorem gX5_add_X5_know : GoodIn wsX5_add (wsV RX5 101 RX5 yX5_know wsX5_know) := goodIn_app (goodIn_of _ (by decide +kernel)) ggX5_add_X5_know
set_option maxRecDepth 20000 in
theorem ggX5_add_X5_put : GoodIn wsX5_add wsX5_put := goodIn_r _ [15, 1, 16, 17, 18, 19, 20, 21, 22, 23, 24, 25, 26, 27, 28, 29, 30, 31, 32, 33, 34, 35, 36, 37] (by decide +kernel) (by decide +kernel)
set_option maxRecDepth 20000 in
theorem gX5_add_X5_put : GoodIn wsX5_add (wsV RX5 104 RX5 yX5_put wsX5_put) := goodIn_app (goodIn_of _ (by decide +kernel)) ggX5_add_X5_put
theorem dX5_add_0 : decode cX5_add 0 = .ok (.iload_n 1, 1) := by decide +kernel
theorem dX5_add_1 : decode cX5_add 1 = .ok (.iconst 0, 1) := by decide +kernel
theorem dX5_add_2 : decode cX5_add 2 = .ok (.iconst 1, 1) := by decide +kernel
theorem dX5_add_3 : decode cX5_add 3 = .ok (.invokestatic 48, 3) := by decide +kernel
theorem dX5_add_6 : decode cX5_add 6 = .ok (.ifCond .ne 5, 3) := by decide +kernel
theorem dX5_add_9 : decode cX5_add 9 = .ok (.iconst (-1), 1) := by decide +kernel
theorem dX5_add_10 : decode cX5_add 10 = .ok (.ireturn, 1) := by decide +kernel
theorem dX5_add_11 : decode cX5_add 11 = .ok (.iload_n 2, 1) := by decide +kernel
theorem dX5_add_12 : decode cX5_add 12 = .ok (.iconst 0, 1) := by decide +kernel
theorem dX5_add_13 : decode cX5_add 13 = .ok (.bipush 63, 2) := by decide +kernel
theorem dX5_add_15 : decode cX5_add 15 = .ok (.invokestatic 48, 3) := by decide +kernel
theorem dX5_add_18 : decode cX5_add 18 = .ok (.ifCond .eq 25, 3) := by decide +kernel
theorem dX5_add_21 : decode cX5_add 21 = .ok (.iload_n 3, 1) := by decide +kernel
theorem dX5_add_22 : decode cX5_add 22 = .ok (.iconst 0, 1) := by decide +kernel
theorem dX5_add_23 : decode cX5_add 23 = .ok (.bipush 63, 2) := by decide +kernel
theorem dX5_add_25 : decode cX5_add 25 = .ok (.invokestatic 48, 3) := by decide +kernel
theorem dX5_add_28 : decode cX5_add 28 = .ok (.ifCond .eq 15, 3) := by decide +kernel
theorem dX5_add_31 : decode cX5_add 31 = .ok (.iload_n 2, 1) := by decide +kernel
theorem dX5_add_32 : decode cX5_add 32 = .ok (.iload_n 3, 1) := by decide +kernel
theorem dX5_add_33 : decode cX5_add 33 = .ok (.ior, 1) := by decide +kernel
theorem dX5_add_34 : decode cX5_add 34 = .ok (.ifCond .eq 9, 3) := by decide +kernel
theorem dX5_add_37 : decode cX5_add 37 = .ok (.iload_n 2, 1) := by decide +kernel
theorem dX5_add_38 : decode cX5_add 38 = .ok (.iload_n 3, 1) := by decide +kernel
theorem dX5_add_39 : decode cX5_add 39 = .ok (.iand, 1) := by decide +kernel
theorem dX5_add_40 : decode cX5_add 40 = .ok (.ifCond .eq 6, 3) := by decide +kernel
theorem dX5_add_43 : decode cX5_add 43 = .ok (.bipush (-2), 2) := by decide +kernel
theorem dX5_add_45 : decode cX5_add 45 = .ok (.ireturn, 1) := by decide +kernel
theorem dX5_add_46 : decode cX5_add 46 = .ok (.aload_n 0, 1) := by decide +kernel
theorem dX5_add_47 : decode cX5_add 47 = .ok (.getfield 7, 3) := by decide +kernel
theorem dX5_add_50 : decode cX5_add 50 = .ok (.iconst 0, 1) := by decide +kernel
theorem dX5_add_51 : decode cX5_add 51 = .ok (.iaload, 1) := by decide +kernel
theorem dX5_add_52 : decode cX5_add 52 = .ok (.bipush 24, 2) := by decide +kernel
theorem dX5_add_54 : decode cX5_add 54 = .ok (.if_icmp .ne 6, 3) := by decide +kernel
theorem dX5_add_57 : decode cX5_add 57 = .ok (.bipush (-3), 2) := by decide +kernel
theorem dX5_add_59 : decode cX5_add 59 = .ok (.ireturn, 1) := by decide +kernel
theorem dX5_add_60 : decode cX5_add 60 = .ok (.aload_n 0, 1) := by decide +kernel
theorem dX5_add_61 : decode cX5_add 61 = .ok (.invokevirtual 101, 3) := by decide +kernel
theorem dX5_add_64 : decode cX5_add 64 = .ok (.aload_n 0, 1) := by decide +kernel
theorem dX5_add_65 : decode cX5_add 65 = .ok (.iload_n 1, 1) := by decide +kernel
theorem dX5_add_66 : decode cX5_add 66 = .ok (.iload_n 2, 1) := by decide +kernel
theorem dX5_add_67 : decode cX5_add 67 = .ok (.iload_n 3, 1) := by decide +kernel
theorem dX5_add_68 : decode cX5_add 68 = .ok (.invokevirtual 104, 3) := by decide +kernel
theorem dX5_add_71 : decode cX5_add 71 = .ok (.aload_n 0, 1) := by decide +kernel
theorem dX5_add_72 : decode cX5_add 72 = .ok (.getfield 7, 3) := by decide +kernel
theorem dX5_add_75 : decode cX5_add 75 = .ok (.iconst 0, 1) := by decide +kernel
theorem dX5_add_76 : decode cX5_add 76 = .ok (.iaload, 1) := by decide +kernel
theorem dX5_add_77 : decode cX5_add 77 = .ok (.iconst 1, 1) := by decide +kernel
theorem dX5_add_78 : decode cX5_add 78 = .ok (.isub, 1) := by decide +kernel
theorem dX5_add_79 : decode cX5_add 79 = .ok (.ireturn, 1) := by decide +kernel
theorem dX5_put_0 : decode cX5_put 0 = .ok (.aload_n 0, 1) := by decide +kernel
theorem dX5_put_1 : decode cX5_put 1 = .ok (.getfield 7, 3) := by decide +kernel
theorem dX5_put_4 : decode cX5_put 4 = .ok (.iconst 1, 1) := by decide +kernel
theorem dX5_put_5 : decode cX5_put 5 = .ok (.aload_n 0, 1) := by decide +kernel
theorem dX5_put_6 : decode cX5_put 6 = .ok (.getfield 7, 3) := by decide +kernel
theorem dX5_put_9 : decode cX5_put 9 = .ok (.iconst 0, 1) := by decide +kernel
theorem dX5_put_10 : decode cX5_put 10 = .ok (.iaload, 1) := by decide +kernel
theorem dX5_put_11 : decode cX5_put 11 = .ok (.iadd, 1) := by decide +kernel
theorem dX5_put_12 : decode cX5_put 12 = .ok (.iload_n 1, 1) := by decide +kernel
theorem dX5_put_13 : decode cX5_put 13 = .ok (.iastore, 1) := by decide +kernel
theorem dX5_put_14 : decode cX5_put 14 = .ok (.aload_n 0, 1) := by decide +kernel
theorem dX5_put_15 : decode cX5_put 15 = .ok (.getfield 7, 3) := by decide +kernel
theorem dX5_put_18 : decode cX5_put 18 = .ok (.bipush 25, 2) := by decide +kernel
theorem dX5_put_20 : decode cX5_put 20 = .ok (.aload_n 0, 1) := by decide +kernel
theorem dX5_put_21 : decode cX5_put 21 = .ok (.getfield 7, 3) := by decide +kernel
theorem dX5_put_24 : decode cX5_put 24 = .ok (.iconst 0, 1) := by decide +kernel
theorem dX5_put_25 : decode cX5_put 25 = .ok (.iaload, 1) := by decide +kernel
theorem dX5_put_26 : decode cX5_put 26 = .ok (.iadd, 1) := by decide +kernel
theorem dX5_put_27 : decode cX5_put 27 = .ok (.iload_n 2, 1) := by decide +kernel
theorem dX5_put_28 : decode cX5_put 28 = .ok (.iastore, 1) := by decide +kernel
theorem dX5_put_29 : decode cX5_put 29 = .ok (.aload_n 0, 1) := by decide +kernel
theorem dX5_put_30 : decode cX5_put 30 = .ok (.getfield 7, 3) := by decide +kernel
theorem dX5_put_33 : decode cX5_put 33 = .ok (.bipush 49, 2) := by decide +kernel
theorem dX5_put_35 : decode cX5_put 35 = .ok (.aload_n 0, 1) := by decide +kernel
theorem dX5_put_36 : decode cX5_put 36 = .ok (.getfield 7, 3) := by decide +kernel
theorem dX5_put_39 : decode cX5_put 39 = .ok (.iconst 0, 1) := by decide +kernel
theorem dX5_put_40 : decode cX5_put 40 = .ok (.iaload, 1) := by decide +kernel
theorem dX5_put_41 : decode cX5_put 41 = .ok (.iadd, 1) := by decide +kernel
theorem dX5_put_42 : decode cX5_put 42 = .ok (.iload_n 3, 1) := by decide +kernel
theorem dX5_put_43 : decode cX5_put 43 = .ok (.iastore, 1) := by decide +kernel
theorem dX5_put_44 : decode cX5_put 44 = .ok (.aload_n 0, 1) := by decide +kernel
theorem dX5_put_45 : decode cX5_put 45 = .ok (.getfield 7, 3) := by decide +kernel
theorem dX5_put_48 : decode cX5_put 48 = .ok (.iconst 0, 1) := by decide +kernel
theorem dX5_put_49 : decode cX5_put 49 = .ok (.dup2, 1) := by decide +kernel
theorem dX5_put_50 : decode cX5_put 50 = .ok (.iaload, 1) := by decide +kernel
theorem dX5_put_51 : decode cX5_put 51 = .ok (.iconst 1, 1) := by decide +kernel
theorem dX5_put_52 : decode cX5_put 52 = .ok (.iadd, 1) := by decide +kernel
theorem dX5_put_53 : decode cX5_put 53 = .ok (.iastore, 1) := by decide +kernel
theorem dX5_put_54 : decode cX5_put 54 = .ok (.return_, 1) := by decide +kernel
set_option maxRecDepth 20000 in
theorem ggX5_sign_X5_in : GoodIn wsX5_sign wsX5_in := goodIn_r _ [8] (by decide +kernel) (by decide +kernel)
set_option maxRecDepth 20000 in
theorem gX5_sign_X5_in : GoodIn wsX5_sign (va_wsS RX5 48 yX5_in wsX5_in) := goodIn_app (goodIn_of _ (by decide +kernel)) ggX5_sign_X5_in
theorem dX5_sign_0 : decode cX5_sign 0 = .ok (.aload_n 0, 1) := by decide +kernel
theorem dX5_sign_1 : decode cX5_sign 1 = .ok (.getfield 108, 3) := by decide +kernel
theorem dX5_sign_4 : decode cX5_sign 4 = .ok (.aload_n 0, 1) := by decide +kernel
theorem dX5_sign_5 : decode cX5_sign 5 = .ok (.getfield 111, 3) := by decide +kernel
theorem dX5_sign_8 : decode cX5_sign 8 = .ok (.if_icmp .ge 15, 3) := by decide +kernel
theorem dX5_sign_11 : decode cX5_sign 11 = .ok (.aload_n 0, 1) := by decide +kernel
theorem dX5_sign_12 : decode cX5_sign 12 = .ok (.getfield 19, 3) := by decide +kernel
theorem dX5_sign_15 : decode cX5_sign 15 = .ok (.aload_n 0, 1) := by decide +kernel
theorem dX5_sign_16 : decode cX5_sign 16 = .ok (.getfield 108, 3) := by decide +kernel
theorem dX5_sign_19 : decode cX5_sign 19 = .ok (.iaload, 1) := by decide +kernel
theorem dX5_sign_20 : decode cX5_sign 20 = .ok (.goto 4, 3) := by decide +kernel
theorem dX5_sign_23 : decode cX5_sign 23 = .ok (.iconst 0, 1) := by decide +kernel
theorem dX5_sign_24 : decode cX5_sign 24 = .ok (.istore_n 3, 1) := by decide +kernel
theorem dX5_sign_25 : decode cX5_sign 25 = .ok (.aload_n 0, 1) := by decide +kernel
theorem dX5_sign_26 : decode cX5_sign 26 = .ok (.aload_n 0, 1) := by decide +kernel
theorem dX5_sign_27 : decode cX5_sign 27 = .ok (.getfield 114, 3) := by decide +kernel
theorem dX5_sign_30 : decode cX5_sign 30 = .ok (.ifCond .ne 12, 3) := by decide +kernel
theorem dX5_sign_33 : decode cX5_sign 33 = .ok (.iload_n 3, 1) := by decide +kernel
theorem dX5_sign_34 : decode cX5_sign 34 = .ok (.iload_n 1, 1) := by decide +kernel
theorem dX5_sign_35 : decode cX5_sign 35 = .ok (.iload_n 2, 1) := by decide +kernel
theorem dX5_sign_36 : decode cX5_sign 36 = .ok (.invokestatic 48, 3) := by decide +kernel
theorem dX5_sign_39 : decode cX5_sign 39 = .ok (.ifCond .ne 7, 3) := by decide +kernel
theorem dX5_sign_42 : decode cX5_sign 42 = .ok (.iconst 1, 1) := by decide +kernel
theorem dX5_sign_43 : decode cX5_sign 43 = .ok (.goto 4, 3) := by decide +kernel
theorem dX5_sign_46 : decode cX5_sign 46 = .ok (.iconst 0, 1) := by decide +kernel
theorem dX5_sign_47 : decode cX5_sign 47 = .ok (.putfield 114, 3) := by decide +kernel
theorem dX5_sign_50 : decode cX5_sign 50 = .ok (.aload_n 0, 1) := by decide +kernel
theorem dX5_sign_51 : decode cX5_sign 51 = .ok (.dup, 1) := by decide +kernel
theorem dX5_sign_52 : decode cX5_sign 52 = .ok (.getfield 108, 3) := by decide +kernel
theorem dX5_sign_55 : decode cX5_sign 55 = .ok (.aload_n 0, 1) := by decide +kernel
theorem dX5_sign_56 : decode cX5_sign 56 = .ok (.getfield 114, 3) := by decide +kernel
theorem dX5_sign_59 : decode cX5_sign 59 = .ok (.ifCond .eq 7, 3) := by decide +kernel
theorem dX5_sign_62 : decode cX5_sign 62 = .ok (.iconst 0, 1) := by decide +kernel
theorem dX5_sign_63 : decode cX5_sign 63 = .ok (.goto 4, 3) := by decide +kernel
theorem dX5_sign_66 : decode cX5_sign 66 = .ok (.iconst 1, 1) := by decide +kernel
theorem dX5_sign_67 : decode cX5_sign 67 = .ok (.iadd, 1) := by decide +kernel
theorem dX5_sign_68 : decode cX5_sign 68 = .ok (.putfield 108, 3) := by decide +kernel
theorem dX5_sign_71 : decode cX5_sign 71 = .ok (.iload_n 3, 1) := by decide +kernel
theorem dX5_sign_72 : decode cX5_sign 72 = .ok (.ireturn, 1) := by decide +kernel
theorem dX5_isNext_0 : decode cX5_isNext 0 = .ok (.aload_n 0, 1) := by decide +kernel
theorem dX5_isNext_1 : decode cX5_isNext 1 = .ok (.getfield 114, 3) := by decide +kernel
theorem dX5_isNext_4 : decode cX5_isNext 4 = .ok (.ifCond .ne 31, 3) := by decide +kernel
theorem dX5_isNext_7 : decode cX5_isNext 7 = .ok (.aload_n 0, 1) := by decide +kernel
theorem dX5_isNext_8 : decode cX5_isNext 8 = .ok (.getfield 108, 3) := by decide +kernel
theorem dX5_isNext_11 : decode cX5_isNext 11 = .ok (.aload_n 0, 1) := by decide +kernel
theorem dX5_isNext_12 : decode cX5_isNext 12 = .ok (.getfield 111, 3) := by decide +kernel
theorem dX5_isNext_15 : decode cX5_isNext 15 = .ok (.if_icmp .ge 20, 3) := by decide +kernel
theorem dX5_isNext_18 : decode cX5_isNext 18 = .ok (.aload_n 0, 1) := by decide +kernel
theorem dX5_isNext_19 : decode cX5_isNext 19 = .ok (.getfield 19, 3) := by decide +kernel
theorem dX5_isNext_22 : decode cX5_isNext 22 = .ok (.aload_n 0, 1) := by decide +kernel
theorem dX5_isNext_23 : decode cX5_isNext 23 = .ok (.getfield 108, 3) := by decide +kernel
theorem dX5_isNext_26 : decode cX5_isNext 26 = .ok (.iaload, 1) := by decide +kernel
theorem dX5_isNext_27 : decode cX5_isNext 27 = .ok (.iload_n 1, 1) := by decide +kernel
theorem dX5_isNext_28 : decode cX5_isNext 28 = .ok (.if_icmp .ne 7, 3) := by decide +kernel
theorem dX5_isNext_31 : decode cX5_isNext 31 = .ok (.iconst 1, 1) := by decide +kernel
theorem dX5_isNext_32 : decode cX5_isNext 32 = .ok (.goto 4, 3) := by decide +kernel
theorem dX5_isNext_35 : decode cX5_isNext 35 = .ok (.iconst 0, 1) := by decide +kernel
theorem dX5_isNext_36 : decode cX5_isNext 36 = .ok (.ireturn, 1) := by decide +kernel
set_option maxRecDepth 20000 in
theorem ggX5_isLetter_X5_in : GoodIn wsX5_isLetter wsX5_in := goodIn_r _ [8] (by decide +kernel) (by decide +kernel)
set_option maxRecDepth 20000 in
theorem gX5_isLetter_X5_in : GoodIn wsX5_isLetter (va_wsS RX5 48 yX5_in wsX5_in) := goodIn_app (goodIn_of _ (by decide +kernel)) ggX5_isLetter_X5_in
theorem dX5_isLetter_0 : decode cX5_isLetter 0 = .ok (.aload_n 0, 1) := by decide +kernel
theorem dX5_isLetter_1 : decode cX5_isLetter 1 = .ok (.getfield 114, 3) := by decide +kernel
theorem dX5_isLetter_4 : decode cX5_isLetter 4 = .ok (.ifCond .ne 36, 3) := by decide +kernel
theorem dX5_isLetter_7 : decode cX5_isLetter 7 = .ok (.aload_n 0, 1) := by decide +kernel
theorem dX5_isLetter_8 : decode cX5_isLetter 8 = .ok (.getfield 108, 3) := by decide +kernel
theorem dX5_isLetter_11 : decode cX5_isLetter 11 = .ok (.aload_n 0, 1) := by decide +kernel
theorem dX5_isLetter_12 : decode cX5_isLetter 12 = .ok (.getfield 111, 3) := by decide +kernel
theorem dX5_isLetter_15 : decode cX5_isLetter 15 = .ok (.if_icmp .ge 25, 3) := by decide +kernel
theorem dX5_isLetter_18 : decode cX5_isLetter 18 = .ok (.aload_n 0, 1) := by decide +kernel
theorem dX5_isLetter_19 : decode cX5_isLetter 19 = .ok (.getfield 19, 3) := by decide +kernel
theorem dX5_isLetter_22 : decode cX5_isLetter 22 = .ok (.aload_n 0, 1) := by decide +kernel
theorem dX5_isLetter_23 : decode cX5_isLetter 23 = .ok (.getfield 108, 3) := by decide +kernel
theorem dX5_isLetter_26 : decode cX5_isLetter 26 = .ok (.iaload, 1) := by decide +kernel
theorem dX5_isLetter_27 : decode cX5_isLetter 27 = .ok (.iload_n 1, 1) := by decide +kernel
theorem dX5_isLetter_28 : decode cX5_isLetter 28 = .ok (.bipush 102, 2) := by decide +kernel
theorem dX5_isLetter_30 : decode cX5_isLetter 30 = .ok (.invokestatic 48, 3) := by decide +kernel
theorem dX5_isLetter_33 : decode cX5_isLetter 33 = .ok (.ifCond .eq 7, 3) := by decide +kernel
theorem dX5_isLetter_36 : decode cX5_isLetter 36 = .ok (.iconst 1, 1) := by decide +kernel
theorem dX5_isLetter_37 : decode cX5_isLetter 37 = .ok (.goto 4, 3) := by decide +kernel
theorem dX5_isLetter_40 : decode cX5_isLetter 40 = .ok (.iconst 0, 1) := by decide +kernel
theorem dX5_isLetter_41 : decode cX5_isLetter 41 = .ok (.ireturn, 1) := by decide +kernel
set_option maxRecDepth 20000 in
theorem ggX5_read_X5_isNext : GoodIn wsX5_read wsX5_isNext := goodIn_r _ [8, 3, 9, 10, 11, 23, 24, 25, 26, 27, 28, 29, 30, 31, 32, 33, 34, 35, 36, 37, 38, 39, 40, 41, 42, 43, 44] (by decide +kernel) (by decide +kernel)
set_option maxRecDepth 20000 in
theorem gX5_read_X5_isNext : GoodIn wsX5_read (wsV RX5 123 RX5 yX5_isNext wsX5_isNext) := goodIn_app (goodIn_of _ (by decide +kernel)) ggX5_read_X5_isNext
set_option maxRecDepth 20000 in
theorem ggX5_read_X5_sign : GoodIn wsX5_read wsX5_sign := goodIn_r _ [15, 9, 10, 11, 3, 16, 17, 7, 18, 23, 24, 25, 26, 27, 28, 29, 30, 31, 32, 33, 34, 35, 36, 37, 38, 39, 40, 41, 42, 43, 44] (by decide +kernel) (by decide +kernel)
set_option maxRecDepth 20000 in
theorem gX5_read_X5_sign : GoodIn wsX5_read (wsV RX5 127 RX5 yX5_sign wsX5_sign) := goodIn_app (goodIn_of _ (by decide +kernel)) ggX5_read_X5_sign
set_option maxRecDepth 20000 in
theorem ggX5_read_X5_isLetter : GoodIn wsX5_read wsX5_isLetter := goodIn_r _ [22, 3, 9, 10, 11, 16, 17, 7, 18, 23, 24, 25, 26, 27, 28, 29, 30, 31, 32, 33, 34, 35, 36, 37, 38, 39, 40, 41, 42, 43, 44] (by decide +kernel) (by decide +kernel)
set_option maxRecDepth 20000 in
theorem gX5_read_X5_isLetter : GoodIn wsX5_read (wsV RX5 131 RX5 yX5_isLetter wsX5_isLetter) := goodIn_app (goodIn_of _ (by decide +kernel)) ggX5_read_X5_isLetter
theorem dX5_read_0 : decode cX5_read 0 = .ok (.aload_n 0, 1) := by decide +kernel
theorem dX5_read_1 : decode cX5_read 1 = .ok (.iconst 0, 1) := by decide +kernel
theorem dX5_read_2 : decode cX5_read 2 = .ok (.putfield 117, 3) := by decide +kernel
theorem dX5_read_5 : decode cX5_read 5 = .ok (.aload_n 0, 1) := by decide +kernel
theorem dX5_read_6 : decode cX5_read 6 = .ok (.iconst 0, 1) := by decide +kernel
theorem dX5_read_7 : decode cX5_read 7 = .ok (.putfield 120, 3) := by decide +kernel
theorem dX5_read_10 : decode cX5_read 10 = .ok (.bipush 97, 2) := by decide +kernel
theorem dX5_read_12 : decode cX5_read 12 = .ok (.istore_n 1, 1) := by decide +kernel
theorem dX5_read_13 : decode cX5_read 13 = .ok (.iconst 1, 1) := by decide +kernel
theorem dX5_read_14 : decode cX5_read 14 = .ok (.istore_n 2, 1) := by decide +kernel
theorem dX5_read_15 : decode cX5_read 15 = .ok (.iload_n 2, 1) := by decide +kernel
theorem dX5_read_16 : decode cX5_read 16 = .ok (.ifCond .eq 129, 3) := by decide +kernel
theorem dX5_read_19 : decode cX5_read 19 = .ok (.aload_n 0, 1) := by decide +kernel
theorem dX5_read_20 : decode cX5_read 20 = .ok (.bipush 45, 2) := by decide +kernel
theorem dX5_read_22 : decode cX5_read 22 = .ok (.invokevirtual 123, 3) := by decide +kernel
theorem dX5_read_25 : decode cX5_read 25 = .ok (.istore_n 3, 1) := by decide +kernel
theorem dX5_read_26 : decode cX5_read 26 = .ok (.iload_n 3, 1) := by decide +kernel
theorem dX5_read_27 : decode cX5_read 27 = .ok (.ifCond .eq 14, 3) := by decide +kernel
theorem dX5_read_30 : decode cX5_read 30 = .ok (.aload_n 0, 1) := by decide +kernel
theorem dX5_read_31 : decode cX5_read 31 = .ok (.bipush 45, 2) := by decide +kernel
theorem dX5_read_33 : decode cX5_read 33 = .ok (.bipush 45, 2) := by decide +kernel
theorem dX5_read_35 : decode cX5_read 35 = .ok (.invokevirtual 127, 3) := by decide +kernel
theorem dX5_read_38 : decode cX5_read 38 = .ok (.goto 4, 3) := by decide +kernel
theorem dX5_read_41 : decode cX5_read 41 = .ok (.iconst 0, 1) := by decide +kernel
theorem dX5_read_42 : decode cX5_read 42 = .ok (.istore 4, 2) := by decide +kernel
theorem dX5_read_44 : decode cX5_read 44 = .ok (.aload_n 0, 1) := by decide +kernel
theorem dX5_read_45 : decode cX5_read 45 = .ok (.iload_n 1, 1) := by decide +kernel
theorem dX5_read_46 : decode cX5_read 46 = .ok (.bipush 102, 2) := by decide +kernel
theorem dX5_read_48 : decode cX5_read 48 = .ok (.invokevirtual 127, 3) := by decide +kernel
theorem dX5_read_51 : decode cX5_read 51 = .ok (.istore 5, 2) := by decide +kernel
theorem dX5_read_53 : decode cX5_read 53 = .ok (.aload_n 0, 1) := by decide +kernel
theorem dX5_read_54 : decode cX5_read 54 = .ok (.getfield 114, 3) := by decide +kernel
theorem dX5_read_57 : decode cX5_read 57 = .ok (.ifCond .ne 56, 3) := by decide +kernel
theorem dX5_read_60 : decode cX5_read 60 = .ok (.aload_n 0, 1) := by decide +kernel
theorem dX5_read_61 : decode cX5_read 61 = .ok (.dup, 1) := by decide +kernel
theorem dX5_read_62 : decode cX5_read 62 = .ok (.getfield 117, 3) := by decide +kernel
theorem dX5_read_65 : decode cX5_read 65 = .ok (.iload_n 3, 1) := by decide +kernel
theorem dX5_read_66 : decode cX5_read 66 = .ok (.ifCond .eq 7, 3) := by decide +kernel
theorem dX5_read_69 : decode cX5_read 69 = .ok (.iconst 0, 1) := by decide +kernel
theorem dX5_read_70 : decode cX5_read 70 = .ok (.goto 10, 3) := by decide +kernel
theorem dX5_read_73 : decode cX5_read 73 = .ok (.iconst 1, 1) := by decide +kernel
theorem dX5_read_74 : decode cX5_read 74 = .ok (.iload 5, 2) := by decide +kernel
theorem dX5_read_76 : decode cX5_read 76 = .ok (.bipush 97, 2) := by decide +kernel
theorem dX5_read_78 : decode cX5_read 78 = .ok (.isub, 1) := by decide +kernel
theorem dX5_read_79 : decode cX5_read 79 = .ok (.ishl, 1) := by decide +kernel
theorem dX5_read_80 : decode cX5_read 80 = .ok (.ior, 1) := by decide +kernel
theorem dX5_read_81 : decode cX5_read 81 = .ok (.putfield 117, 3) := by decide +kernel
theorem dX5_read_84 : decode cX5_read 84 = .ok (.aload_n 0, 1) := by decide +kernel
theorem dX5_read_85 : decode cX5_read 85 = .ok (.dup, 1) := by decide +kernel
theorem dX5_read_86 : decode cX5_read 86 = .ok (.getfield 120, 3) := by decide +kernel
theorem dX5_read_89 : decode cX5_read 89 = .ok (.iload_n 3, 1) := by decide +kernel
theorem dX5_read_90 : decode cX5_read 90 = .ok (.ifCond .eq 13, 3) := by decide +kernel
theorem dX5_read_93 : decode cX5_read 93 = .ok (.iconst 1, 1) := by decide +kernel
theorem dX5_read_94 : decode cX5_read 94 = .ok (.iload 5, 2) := by decide +kernel
theorem dX5_read_96 : decode cX5_read 96 = .ok (.bipush 97, 2) := by decide +kernel
theorem dX5_read_98 : decode cX5_read 98 = .ok (.isub, 1) := by decide +kernel
theorem dX5_read_99 : decode cX5_read 99 = .ok (.ishl, 1) := by decide +kernel
theorem dX5_read_100 : decode cX5_read 100 = .ok (.goto 4, 3) := by decide +kernel
theorem dX5_read_103 : decode cX5_read 103 = .ok (.iconst 0, 1) := by decide +kernel
theorem dX5_read_104 : decode cX5_read 104 = .ok (.ior, 1) := by decide +kernel
theorem dX5_read_105 : decode cX5_read 105 = .ok (.putfield 120, 3) := by decide +kernel
theorem dX5_read_108 : decode cX5_read 108 = .ok (.iload 5, 2) := by decide +kernel
theorem dX5_read_110 : decode cX5_read 110 = .ok (.iconst 1, 1) := by decide +kernel
theorem dX5_read_111 : decode cX5_read 111 = .ok (.iadd, 1) := by decide +kernel
theorem dX5_read_112 : decode cX5_read 112 = .ok (.istore_n 1, 1) := by decide +kernel
theorem dX5_read_113 : decode cX5_read 113 = .ok (.aload_n 0, 1) := by decide +kernel
theorem dX5_read_114 : decode cX5_read 114 = .ok (.iload_n 1, 1) := by decide +kernel
theorem dX5_read_115 : decode cX5_read 115 = .ok (.invokevirtual 131, 3) := by decide +kernel
theorem dX5_read_118 : decode cX5_read 118 = .ok (.ifCond .ne 18, 3) := by decide +kernel
theorem dX5_read_121 : decode cX5_read 121 = .ok (.iload_n 1, 1) := by decide +kernel
theorem dX5_read_122 : decode cX5_read 122 = .ok (.bipush 102, 2) := by decide +kernel
theorem dX5_read_124 : decode cX5_read 124 = .ok (.if_icmp .gt 16, 3) := by decide +kernel
theorem dX5_read_127 : decode cX5_read 127 = .ok (.aload_n 0, 1) := by decide +kernel
theorem dX5_read_128 : decode cX5_read 128 = .ok (.bipush 45, 2) := by decide +kernel
theorem dX5_read_130 : decode cX5_read 130 = .ok (.invokevirtual 123, 3) := by decide +kernel
theorem dX5_read_133 : decode cX5_read 133 = .ok (.ifCond .eq 7, 3) := by decide +kernel
theorem dX5_read_136 : decode cX5_read 136 = .ok (.iconst 1, 1) := by decide +kernel
theorem dX5_read_137 : decode cX5_read 137 = .ok (.goto 4, 3) := by decide +kernel
theorem dX5_read_140 : decode cX5_read 140 = .ok (.iconst 0, 1) := by decide +kernel
theorem dX5_read_141 : decode cX5_read 141 = .ok (.istore_n 2, 1) := by decide +kernel
theorem dX5_read_142 : decode cX5_read 142 = .ok (.goto (-127), 3) := by decide +kernel
theorem dX5_read_145 : decode cX5_read 145 = .ok (.return_, 1) := by decide +kernel
set_option maxRecDepth 20000 in
theorem ggX5_go_X5_read : GoodIn wsX5_go wsX5_read := goodIn_r _ [10, 3, 4, 2, 11, 12, 13, 9, 14, 1, 5, 15, 16, 17, 18, 19, 20, 21, 22, 23, 24, 25, 26, 32, 33, 34, 35, 36, 37, 38, 39, 40, 41, 42, 43, 44, 45, 46, 47, 48, 49, 50, 51, 52, 53] (by decide +kernel) (by decide +kernel)
set_option maxRecDepth 20000 in
theorem gX5_go_X5_read : GoodIn wsX5_go (wsV RX5 134 RX5 yX5_read wsX5_read) := goodIn_app (goodIn_of _ (by decide +kernel)) ggX5_go_X5_read
set_option maxRecDepth 20000 in
theorem ggX5_go_X5_put : GoodIn wsX5_go wsX5_put := goodIn_r _ [30, 31, 32, 33, 34, 35, 36, 37, 38, 39, 40, 41, 42, 43, 44, 45, 46, 47, 48, 49, 50, 51, 52, 53] (by decide +kernel) (by decide +kernel)
set_option maxRecDepth 20000 in
theorem gX5_go_X5_put : GoodIn wsX5_go (wsV RX5 104 RX5 yX5_put wsX5_put) := goodIn_app (goodIn_of _ (by decide +kernel)) ggX5_go_X5_put
set_option maxRecDepth 20000 in
theorem ggX5_go_X5_isNext : GoodIn wsX5_go wsX5_isNext := goodIn_r _ [14, 2, 1, 5, 15, 32, 33, 34, 35, 36, 37, 38, 39, 40, 41, 42, 43, 44, 45, 46, 47, 48, 49, 50, 51, 52, 53] (by decide +kernel) (by decide +kernel)
set_option maxRecDepth 20000 in
theorem gX5_go_X5_isNext : GoodIn wsX5_go (wsV RX5 123 RX5 yX5_isNext wsX5_isNext) := goodIn_app (goodIn_of _ (by decide +kernel)) ggX5_go_X5_isNext
set_option maxRecDepth 20000 in
theorem ggX5_go_X5_sign : GoodIn wsX5_go wsX5_sign := goodIn_r _ [19, 1, 5, 15, 2, 20, 21, 9, 22, 32, 33, 34, 35, 36, 37, 38, 39, 40, 41, 42, 43, 44, 45, 46, 47, 48, 49, 50, 51, 52, 53] (by decide +kernel) (by decide +kernel)
set_option maxRecDepth 20000 in
theorem gX5_go_X5_sign : GoodIn wsX5_go (wsV RX5 127 RX5 yX5_sign wsX5_sign) := goodIn_app (goodIn_of _ (by decide +kernel)) ggX5_go_X5_sign
theorem dX5_go_0 : decode cX5_go 0 = .ok (.aload_n 0, 1) := by decide +kernel
theorem dX5_go_1 : decode cX5_go 1 = .ok (.iconst 0, 1) := by decide +kernel
theorem dX5_go_2 : decode cX5_go 2 = .ok (.putfield 108, 3) := by decide +kernel
theorem dX5_go_5 : decode cX5_go 5 = .ok (.aload_n 0, 1) := by decide +kernel
theorem dX5_go_6 : decode cX5_go 6 = .ok (.iconst 0, 1) := by decide +kernel
theorem dX5_go_7 : decode cX5_go 7 = .ok (.putfield 114, 3) := by decide +kernel
theorem dX5_go_10 : decode cX5_go 10 = .ok (.iconst 0, 1) := by decide +kernel
theorem dX5_go_11 : decode cX5_go 11 = .ok (.istore_n 2, 1) := by decide +kernel
theorem dX5_go_12 : decode cX5_go 12 = .ok (.iconst 0, 1) := by decide +kernel
theorem dX5_go_13 : decode cX5_go 13 = .ok (.istore_n 3, 1) := by decide +kernel
theorem dX5_go_14 : decode cX5_go 14 = .ok (.iconst 1, 1) := by decide +kernel
theorem dX5_go_15 : decode cX5_go 15 = .ok (.istore 4, 2) := by decide +kernel
theorem dX5_go_17 : decode cX5_go 17 = .ok (.iload 4, 2) := by decide +kernel
theorem dX5_go_19 : decode cX5_go 19 = .ok (.ifCond .eq 131, 3) := by decide +kernel
theorem dX5_go_22 : decode cX5_go 22 = .ok (.aload_n 0, 1) := by decide +kernel
theorem dX5_go_23 : decode cX5_go 23 = .ok (.invokevirtual 134, 3) := by decide +kernel
theorem dX5_go_26 : decode cX5_go 26 = .ok (.iload_n 1, 1) := by decide +kernel
theorem dX5_go_27 : decode cX5_go 27 = .ok (.ifCond .eq 16, 3) := by decide +kernel
theorem dX5_go_30 : decode cX5_go 30 = .ok (.aload_n 0, 1) := by decide +kernel
theorem dX5_go_31 : decode cX5_go 31 = .ok (.iload_n 3, 1) := by decide +kernel
theorem dX5_go_32 : decode cX5_go 32 = .ok (.aload_n 0, 1) := by decide +kernel
theorem dX5_go_33 : decode cX5_go 33 = .ok (.getfield 117, 3) := by decide +kernel
theorem dX5_go_36 : decode cX5_go 36 = .ok (.aload_n 0, 1) := by decide +kernel
theorem dX5_go_37 : decode cX5_go 37 = .ok (.getfield 120, 3) := by decide +kernel
theorem dX5_go_40 : decode cX5_go 40 = .ok (.invokevirtual 104, 3) := by decide +kernel
theorem dX5_go_43 : decode cX5_go 43 = .ok (.iinc 2 1, 3) := by decide +kernel
theorem dX5_go_46 : decode cX5_go 46 = .ok (.aload_n 0, 1) := by decide +kernel
theorem dX5_go_47 : decode cX5_go 47 = .ok (.getfield 114, 3) := by decide +kernel
theorem dX5_go_50 : decode cX5_go 50 = .ok (.ifCond .ne 18, 3) := by decide +kernel
theorem dX5_go_53 : decode cX5_go 53 = .ok (.aload_n 0, 1) := by decide +kernel
theorem dX5_go_54 : decode cX5_go 54 = .ok (.getfield 108, 3) := by decide +kernel
theorem dX5_go_57 : decode cX5_go 57 = .ok (.aload_n 0, 1) := by decide +kernel
theorem dX5_go_58 : decode cX5_go 58 = .ok (.getfield 111, 3) := by decide +kernel
theorem dX5_go_61 : decode cX5_go 61 = .ok (.if_icmp .ge 7, 3) := by decide +kernel
theorem dX5_go_64 : decode cX5_go 64 = .ok (.iconst 1, 1) := by decide +kernel
theorem dX5_go_65 : decode cX5_go 65 = .ok (.goto 4, 3) := by decide +kernel
theorem dX5_go_68 : decode cX5_go 68 = .ok (.iconst 0, 1) := by decide +kernel
theorem dX5_go_69 : decode cX5_go 69 = .ok (.istore 4, 2) := by decide +kernel
theorem dX5_go_71 : decode cX5_go 71 = .ok (.iload 4, 2) := by decide +kernel
theorem dX5_go_73 : decode cX5_go 73 = .ok (.ifCond .eq (-56), 3) := by decide +kernel
theorem dX5_go_76 : decode cX5_go 76 = .ok (.iload_n 3, 1) := by decide +kernel
theorem dX5_go_77 : decode cX5_go 77 = .ok (.ifCond .ne 16, 3) := by decide +kernel
theorem dX5_go_80 : decode cX5_go 80 = .ok (.aload_n 0, 1) := by decide +kernel
theorem dX5_go_81 : decode cX5_go 81 = .ok (.bipush 47, 2) := by decide +kernel
theorem dX5_go_83 : decode cX5_go 83 = .ok (.invokevirtual 123, 3) := by decide +kernel
theorem dX5_go_86 : decode cX5_go 86 = .ok (.ifCond .eq 7, 3) := by decide +kernel
theorem dX5_go_89 : decode cX5_go 89 = .ok (.iconst 1, 1) := by decide +kernel
theorem dX5_go_90 : decode cX5_go 90 = .ok (.goto 4, 3) := by decide +kernel
theorem dX5_go_93 : decode cX5_go 93 = .ok (.iconst 0, 1) := by decide +kernel
theorem dX5_go_94 : decode cX5_go 94 = .ok (.istore 5, 2) := by decide +kernel
theorem dX5_go_96 : decode cX5_go 96 = .ok (.iload 5, 2) := by decide +kernel
theorem dX5_go_98 : decode cX5_go 98 = .ok (.ifCond .eq 14, 3) := by decide +kernel
theorem dX5_go_101 : decode cX5_go 101 = .ok (.aload_n 0, 1) := by decide +kernel
theorem dX5_go_102 : decode cX5_go 102 = .ok (.bipush 47, 2) := by decide +kernel
theorem dX5_go_104 : decode cX5_go 104 = .ok (.bipush 47, 2) := by decide +kernel
theorem dX5_go_106 : decode cX5_go 106 = .ok (.invokevirtual 127, 3) := by decide +kernel
theorem dX5_go_109 : decode cX5_go 109 = .ok (.goto 11, 3) := by decide +kernel
theorem dX5_go_112 : decode cX5_go 112 = .ok (.aload_n 0, 1) := by decide +kernel
theorem dX5_go_113 : decode cX5_go 113 = .ok (.bipush 44, 2) := by decide +kernel
theorem dX5_go_115 : decode cX5_go 115 = .ok (.bipush 44, 2) := by decide +kernel
theorem dX5_go_117 : decode cX5_go 117 = .ok (.invokevirtual 127, 3) := by decide +kernel
theorem dX5_go_120 : decode cX5_go 120 = .ok (.istore 6, 2) := by decide +kernel
theorem dX5_go_122 : decode cX5_go 122 = .ok (.iload 5, 2) := by decide +kernel
theorem dX5_go_124 : decode cX5_go 124 = .ok (.ifCond .eq 7, 3) := by decide +kernel
theorem dX5_go_127 : decode cX5_go 127 = .ok (.iconst 1, 1) := by decide +kernel
theorem dX5_go_128 : decode cX5_go 128 = .ok (.goto 4, 3) := by decide +kernel
theorem dX5_go_131 : decode cX5_go 131 = .ok (.iload_n 3, 1) := by decide +kernel
theorem dX5_go_132 : decode cX5_go 132 = .ok (.istore_n 3, 1) := by decide +kernel
theorem dX5_go_133 : decode cX5_go 133 = .ok (.aload_n 0, 1) := by decide +kernel
theorem dX5_go_134 : decode cX5_go 134 = .ok (.getfield 114, 3) := by decide +kernel
theorem dX5_go_137 : decode cX5_go 137 = .ok (.ifCond .ne 7, 3) := by decide +kernel
theorem dX5_go_140 : decode cX5_go 140 = .ok (.iconst 1, 1) := by decide +kernel
theorem dX5_go_141 : decode cX5_go 141 = .ok (.goto 4, 3) := by decide +kernel
theorem dX5_go_144 : decode cX5_go 144 = .ok (.iconst 0, 1) := by decide +kernel
theorem dX5_go_145 : decode cX5_go 145 = .ok (.istore 4, 2) := by decide +kernel
theorem dX5_go_147 : decode cX5_go 147 = .ok (.goto (-130), 3) := by decide +kernel
theorem dX5_go_150 : decode cX5_go 150 = .ok (.iload_n 2, 1) := by decide +kernel
theorem dX5_go_151 : decode cX5_go 151 = .ok (.ireturn, 1) := by decide +kernel
set_option maxRecDepth 20000 in
theorem ggX5_addAll_X5_go : GoodIn wsX5_addAll wsX5_go := goodIn_r _ [8, 2, 1, 9, 10, 11, 12, 13, 14, 7, 15, 16, 17, 18, 19, 20, 21, 22, 23, 24, 25, 26, 27, 28, 29, 30, 31, 32, 33, 34, 35, 3, 42, 43, 44, 45, 46, 47, 48, 49, 50, 51, 52, 53, 54, 55, 56, 57, 58, 59, 60, 61, 62, 63] (by decide +kernel) (by decide +kernel)
set_option maxRecDepth 20000 in
theorem gX5_addAll_X5_go : GoodIn wsX5_addAll (wsV RX5 137 RX5 yX5_go wsX5_go) := goodIn_app (goodIn_of _ (by decide +kernel)) ggX5_addAll_X5_go
set_option maxRecDepth 20000 in
theorem ggX5_addAll_X5_know : GoodIn wsX5_addAll wsX5_know := goodIn_r _ [39, 40, 41, 3, 42, 43, 44, 45, 46, 47, 48, 49, 50, 51, 52, 53, 54, 55, 56, 57, 58, 59, 60, 61, 62, 63] (by decide +kernel) (by decide +kernel)
set_option maxRecDepth 20000 in
theorem gX5_addAll_X5_know : GoodIn wsX5_addAll (wsV RX5 101 RX5 yX5_know wsX5_know) := goodIn_app (goodIn_of _ (by decide +kernel)) ggX5_addAll_X5_know
theorem dX5_addAll_0 : decode cX5_addAll 0 = .ok (.aload_n 0, 1) := by decide +kernel
theorem dX5_addAll_1 : decode cX5_addAll 1 = .ok (.iconst 0, 1) := by decide +kernel
theorem dX5_addAll_2 : decode cX5_addAll 2 = .ok (.invokevirtual 137, 3) := by decide +kernel
theorem dX5_addAll_5 : decode cX5_addAll 5 = .ok (.istore_n 1, 1) := by decide +kernel
theorem dX5_addAll_6 : decode cX5_addAll 6 = .ok (.aload_n 0, 1) := by decide +kernel
theorem dX5_addAll_7 : decode cX5_addAll 7 = .ok (.getfield 114, 3) := by decide +kernel
theorem dX5_addAll_10 : decode cX5_addAll 10 = .ok (.ifCond .eq 11, 3) := by decide +kernel
theorem dX5_addAll_13 : decode cX5_addAll 13 = .ok (.bipush (-100), 2) := by decide +kernel
theorem dX5_addAll_15 : decode cX5_addAll 15 = .ok (.aload_n 0, 1) := by decide +kernel
theorem dX5_addAll_16 : decode cX5_addAll 16 = .ok (.getfield 108, 3) := by decide +kernel
theorem dX5_addAll_19 : decode cX5_addAll 19 = .ok (.isub, 1) := by decide +kernel
theorem dX5_addAll_20 : decode cX5_addAll 20 = .ok (.ireturn, 1) := by decide +kernel
theorem dX5_addAll_21 : decode cX5_addAll 21 = .ok (.aload_n 0, 1) := by decide +kernel
theorem dX5_addAll_22 : decode cX5_addAll 22 = .ok (.getfield 7, 3) := by decide +kernel
theorem dX5_addAll_25 : decode cX5_addAll 25 = .ok (.iconst 0, 1) := by decide +kernel
theorem dX5_addAll_26 : decode cX5_addAll 26 = .ok (.iaload, 1) := by decide +kernel
theorem dX5_addAll_27 : decode cX5_addAll 27 = .ok (.iload_n 1, 1) := by decide +kernel
theorem dX5_addAll_28 : decode cX5_addAll 28 = .ok (.iadd, 1) := by decide +kernel
theorem dX5_addAll_29 : decode cX5_addAll 29 = .ok (.bipush 24, 2) := by decide +kernel
theorem dX5_addAll_31 : decode cX5_addAll 31 = .ok (.if_icmp .le 6, 3) := by decide +kernel
theorem dX5_addAll_34 : decode cX5_addAll 34 = .ok (.bipush (-3), 2) := by decide +kernel
theorem dX5_addAll_36 : decode cX5_addAll 36 = .ok (.ireturn, 1) := by decide +kernel
theorem dX5_addAll_37 : decode cX5_addAll 37 = .ok (.aload_n 0, 1) := by decide +kernel
theorem dX5_addAll_38 : decode cX5_addAll 38 = .ok (.invokevirtual 101, 3) := by decide +kernel
theorem dX5_addAll_41 : decode cX5_addAll 41 = .ok (.aload_n 0, 1) := by decide +kernel
theorem dX5_addAll_42 : decode cX5_addAll 42 = .ok (.iconst 1, 1) := by decide +kernel
theorem dX5_addAll_43 : decode cX5_addAll 43 = .ok (.invokevirtual 137, 3) := by decide +kernel
theorem dX5_addAll_46 : decode cX5_addAll 46 = .ok (.ireturn, 1) := by decide +kernel
theorem dX5_drop_0 : decode cX5_drop 0 = .ok (.aload_n 0, 1) := by decide +kernel
theorem dX5_drop_1 : decode cX5_drop 1 = .ok (.getfield 7, 3) := by decide +kernel
theorem dX5_drop_4 : decode cX5_drop 4 = .ok (.iconst 0, 1) := by decide +kernel
theorem dX5_drop_5 : decode cX5_drop 5 = .ok (.dup2, 1) := by decide +kernel
theorem dX5_drop_6 : decode cX5_drop 6 = .ok (.iaload, 1) := by decide +kernel
theorem dX5_drop_7 : decode cX5_drop 7 = .ok (.iconst 1, 1) := by decide +kernel
theorem dX5_drop_8 : decode cX5_drop 8 = .ok (.isub, 1) := by decide +kernel
theorem dX5_drop_9 : decode cX5_drop 9 = .ok (.iastore, 1) := by decide +kernel
theorem dX5_drop_10 : decode cX5_drop 10 = .ok (.iload_n 1, 1) := by decide +kernel
theorem dX5_drop_11 : decode cX5_drop 11 = .ok (.istore_n 2, 1) := by decide +kernel
theorem dX5_drop_12 : decode cX5_drop 12 = .ok (.iload_n 2, 1) := by decide +kernel
theorem dX5_drop_13 : decode cX5_drop 13 = .ok (.aload_n 0, 1) := by decide +kernel
theorem dX5_drop_14 : decode cX5_drop 14 = .ok (.getfield 7, 3) := by decide +kernel
theorem dX5_drop_17 : decode cX5_drop 17 = .ok (.iconst 0, 1) := by decide +kernel
theorem dX5_drop_18 : decode cX5_drop 18 = .ok (.iaload, 1) := by decide +kernel
theorem dX5_drop_19 : decode cX5_drop 19 = .ok (.if_icmp .ge 67, 3) := by decide +kernel
theorem dX5_drop_22 : decode cX5_drop 22 = .ok (.aload_n 0, 1) := by decide +kernel
theorem dX5_drop_23 : decode cX5_drop 23 = .ok (.getfield 7, 3) := by decide +kernel
theorem dX5_drop_26 : decode cX5_drop 26 = .ok (.iconst 1, 1) := by decide +kernel
theorem dX5_drop_27 : decode cX5_drop 27 = .ok (.iload_n 2, 1) := by decide +kernel
theorem dX5_drop_28 : decode cX5_drop 28 = .ok (.iadd, 1) := by decide +kernel
theorem dX5_drop_29 : decode cX5_drop 29 = .ok (.aload_n 0, 1) := by decide +kernel
theorem dX5_drop_30 : decode cX5_drop 30 = .ok (.getfield 7, 3) := by decide +kernel
theorem dX5_drop_33 : decode cX5_drop 33 = .ok (.iconst 1, 1) := by decide +kernel
theorem dX5_drop_34 : decode cX5_drop 34 = .ok (.iload_n 2, 1) := by decide +kernel
theorem dX5_drop_35 : decode cX5_drop 35 = .ok (.iadd, 1) := by decide +kernel
theorem dX5_drop_36 : decode cX5_drop 36 = .ok (.iconst 1, 1) := by decide +kernel
theorem dX5_drop_37 : decode cX5_drop 37 = .ok (.iadd, 1) := by decide +kernel
theorem dX5_drop_38 : decode cX5_drop 38 = .ok (.iaload, 1) := by decide +kernel
theorem dX5_drop_39 : decode cX5_drop 39 = .ok (.iastore, 1) := by decide +kernel
theorem dX5_drop_40 : decode cX5_drop 40 = .ok (.aload_n 0, 1) := by decide +kernel
theorem dX5_drop_41 : decode cX5_drop 41 = .ok (.getfield 7, 3) := by decide +kernel
theorem dX5_drop_44 : decode cX5_drop 44 = .ok (.bipush 25, 2) := by decide +kernel
theorem dX5_drop_46 : decode cX5_drop 46 = .ok (.iload_n 2, 1) := by decide +kernel
theorem dX5_drop_47 : decode cX5_drop 47 = .ok (.iadd, 1) := by decide +kernel
theorem dX5_drop_48 : decode cX5_drop 48 = .ok (.aload_n 0, 1) := by decide +kernel
theorem dX5_drop_49 : decode cX5_drop 49 = .ok (.getfield 7, 3) := by decide +kernel
theorem dX5_drop_52 : decode cX5_drop 52 = .ok (.bipush 25, 2) := by decide +kernel
theorem dX5_drop_54 : decode cX5_drop 54 = .ok (.iload_n 2, 1) := by decide +kernel
theorem dX5_drop_55 : decode cX5_drop 55 = .ok (.iadd, 1) := by decide +kernel
theorem dX5_drop_56 : decode cX5_drop 56 = .ok (.iconst 1, 1) := by decide +kernel
theorem dX5_drop_57 : decode cX5_drop 57 = .ok (.iadd, 1) := by decide +kernel
theorem dX5_drop_58 : decode cX5_drop 58 = .ok (.iaload, 1) := by decide +kernel
theorem dX5_drop_59 : decode cX5_drop 59 = .ok (.iastore, 1) := by decide +kernel
theorem dX5_drop_60 : decode cX5_drop 60 = .ok (.aload_n 0, 1) := by decide +kernel
theorem dX5_drop_61 : decode cX5_drop 61 = .ok (.getfield 7, 3) := by decide +kernel
theorem dX5_drop_64 : decode cX5_drop 64 = .ok (.bipush 49, 2) := by decide +kernel
theorem dX5_drop_66 : decode cX5_drop 66 = .ok (.iload_n 2, 1) := by decide +kernel
theorem dX5_drop_67 : decode cX5_drop 67 = .ok (.iadd, 1) := by decide +kernel
theorem dX5_drop_68 : decode cX5_drop 68 = .ok (.aload_n 0, 1) := by decide +kernel
theorem dX5_drop_69 : decode cX5_drop 69 = .ok (.getfield 7, 3) := by decide +kernel
theorem dX5_drop_72 : decode cX5_drop 72 = .ok (.bipush 49, 2) := by decide +kernel
theorem dX5_drop_74 : decode cX5_drop 74 = .ok (.iload_n 2, 1) := by decide +kernel
theorem dX5_drop_75 : decode cX5_drop 75 = .ok (.iadd, 1) := by decide +kernel
theorem dX5_drop_76 : decode cX5_drop 76 = .ok (.iconst 1, 1) := by decide +kernel
theorem dX5_drop_77 : decode cX5_drop 77 = .ok (.iadd, 1) := by decide +kernel
theorem dX5_drop_78 : decode cX5_drop 78 = .ok (.iaload, 1) := by decide +kernel
theorem dX5_drop_79 : decode cX5_drop 79 = .ok (.iastore, 1) := by decide +kernel
theorem dX5_drop_80 : decode cX5_drop 80 = .ok (.iinc 2 1, 3) := by decide +kernel
theorem dX5_drop_83 : decode cX5_drop 83 = .ok (.goto (-71), 3) := by decide +kernel
theorem dX5_drop_86 : decode cX5_drop 86 = .ok (.return_, 1) := by decide +kernel
set_option maxRecDepth 20000 in
theorem ggX5_remove_X5_isClause : GoodIn wsX5_remove wsX5_isClause := goodIn_r _ [6, 1, 7, 8, 5, 9, 20, 21, 22, 23, 24, 25, 26, 27, 28, 29, 30, 31, 32, 33, 34, 35, 36, 37, 38, 39, 40, 41] (by decide +kernel) (by decide +kernel)
set_option maxRecDepth 20000 in
theorem gX5_remove_X5_isClause : GoodIn wsX5_remove (wsV RX5 141 RX5 yX5_isClause wsX5_isClause) := goodIn_app (goodIn_of _ (by decide +kernel)) ggX5_remove_X5_isClause
set_option maxRecDepth 20000 in
theorem ggX5_remove_X5_know : GoodIn wsX5_remove wsX5_know := goodIn_r _ [13, 14, 15, 1, 20, 21, 22, 23, 24, 25, 26, 27, 28, 29, 30, 31, 32, 33, 34, 35, 36, 37, 38, 39, 40, 41] (by decide +kernel) (by decide +kernel)
set_option maxRecDepth 20000 in
theorem gX5_remove_X5_know : GoodIn wsX5_remove (wsV RX5 101 RX5 yX5_know wsX5_know) := goodIn_app (goodIn_of _ (by decide +kernel)) ggX5_remove_X5_know
set_option maxRecDepth 20000 in
theorem ggX5_remove_X5_drop : GoodIn wsX5_remove wsX5_drop := goodIn_r _ [19, 1, 20, 21, 22, 23, 24, 25, 26, 27, 28, 29, 30, 31, 32, 33, 34, 35, 36, 37, 38, 39, 40, 41] (by decide +kernel) (by decide +kernel)
set_option maxRecDepth 20000 in
theorem gX5_remove_X5_drop : GoodIn wsX5_remove (wsV RX5 144 RX5 yX5_drop wsX5_drop) := goodIn_app (goodIn_of _ (by decide +kernel)) ggX5_remove_X5_drop
theorem dX5_remove_0 : decode cX5_remove 0 = .ok (.aload_n 0, 1) := by decide +kernel
theorem dX5_remove_1 : decode cX5_remove 1 = .ok (.iload_n 1, 1) := by decide +kernel
theorem dX5_remove_2 : decode cX5_remove 2 = .ok (.invokevirtual 141, 3) := by decide +kernel
theorem dX5_remove_5 : decode cX5_remove 5 = .ok (.ifCond .ne 5, 3) := by decide +kernel
theorem dX5_remove_8 : decode cX5_remove 8 = .ok (.iconst (-1), 1) := by decide +kernel
theorem dX5_remove_9 : decode cX5_remove 9 = .ok (.ireturn, 1) := by decide +kernel
theorem dX5_remove_10 : decode cX5_remove 10 = .ok (.aload_n 0, 1) := by decide +kernel
theorem dX5_remove_11 : decode cX5_remove 11 = .ok (.invokevirtual 101, 3) := by decide +kernel
theorem dX5_remove_14 : decode cX5_remove 14 = .ok (.aload_n 0, 1) := by decide +kernel
theorem dX5_remove_15 : decode cX5_remove 15 = .ok (.iload_n 1, 1) := by decide +kernel
theorem dX5_remove_16 : decode cX5_remove 16 = .ok (.invokevirtual 144, 3) := by decide +kernel
theorem dX5_remove_19 : decode cX5_remove 19 = .ok (.aload_n 0, 1) := by decide +kernel
theorem dX5_remove_20 : decode cX5_remove 20 = .ok (.getfield 7, 3) := by decide +kernel
theorem dX5_remove_23 : decode cX5_remove 23 = .ok (.iconst 0, 1) := by decide +kernel
theorem dX5_remove_24 : decode cX5_remove 24 = .ok (.iaload, 1) := by decide +kernel
theorem dX5_remove_25 : decode cX5_remove 25 = .ok (.ireturn, 1) := by decide +kernel
set_option maxRecDepth 20000 in
theorem ggX5_move_X5_isClause : GoodIn wsX5_move wsX5_isClause := goodIn_r _ [6, 1, 7, 8, 5, 9, 16, 17, 18, 19, 20, 21, 22, 23, 24, 25, 26, 27, 28, 29, 30, 31, 32, 33, 34, 35, 36, 37] (by decide +kernel) (by decide +kernel)
set_option maxRecDepth 20000 in
theorem gX5_move_X5_isClause : GoodIn wsX5_move (wsV RX5 141 RX5 yX5_isClause wsX5_isClause) := goodIn_app (goodIn_of _ (by decide +kernel)) ggX5_move_X5_isClause
set_option maxRecDepth 20000 in
theorem ggX5_move_X5_know : GoodIn wsX5_move wsX5_know := goodIn_r _ [13, 14, 15, 1, 16, 17, 18, 19, 20, 21, 22, 23, 24, 25, 26, 27, 28, 29, 30, 31, 32, 33, 34, 35, 36, 37] (by decide +kernel) (by decide +kernel)
set_option maxRecDepth 20000 in
theorem gX5_move_X5_know : GoodIn wsX5_move (wsV RX5 101 RX5 yX5_know wsX5_know) := goodIn_app (goodIn_of _ (by decide +kernel)) ggX5_move_X5_know
theorem dX5_move_0 : decode cX5_move 0 = .ok (.aload_n 0, 1) := by decide +kernel
theorem dX5_move_1 : decode cX5_move 1 = .ok (.iload_n 1, 1) := by decide +kernel
theorem dX5_move_2 : decode cX5_move 2 = .ok (.invokevirtual 141, 3) := by decide +kernel
theorem dX5_move_5 : decode cX5_move 5 = .ok (.ifCond .ne 5, 3) := by decide +kernel
theorem dX5_move_8 : decode cX5_move 8 = .ok (.iconst (-1), 1) := by decide +kernel
theorem dX5_move_9 : decode cX5_move 9 = .ok (.ireturn, 1) := by decide +kernel
theorem dX5_move_10 : decode cX5_move 10 = .ok (.aload_n 0, 1) := by decide +kernel
theorem dX5_move_11 : decode cX5_move 11 = .ok (.invokevirtual 101, 3) := by decide +kernel
theorem dX5_move_14 : decode cX5_move 14 = .ok (.aload_n 0, 1) := by decide +kernel
theorem dX5_move_15 : decode cX5_move 15 = .ok (.getfield 7, 3) := by decide +kernel
theorem dX5_move_18 : decode cX5_move 18 = .ok (.iconst 1, 1) := by decide +kernel
theorem dX5_move_19 : decode cX5_move 19 = .ok (.iload_n 1, 1) := by decide +kernel
theorem dX5_move_20 : decode cX5_move 20 = .ok (.iadd, 1) := by decide +kernel
theorem dX5_move_21 : decode cX5_move 21 = .ok (.iconst 1, 1) := by decide +kernel
theorem dX5_move_22 : decode cX5_move 22 = .ok (.aload_n 0, 1) := by decide +kernel
theorem dX5_move_23 : decode cX5_move 23 = .ok (.getfield 7, 3) := by decide +kernel
theorem dX5_move_26 : decode cX5_move 26 = .ok (.iconst 1, 1) := by decide +kernel
theorem dX5_move_27 : decode cX5_move 27 = .ok (.iload_n 1, 1) := by decide +kernel
theorem dX5_move_28 : decode cX5_move 28 = .ok (.iadd, 1) := by decide +kernel
theorem dX5_move_29 : decode cX5_move 29 = .ok (.iaload, 1) := by decide +kernel
theorem dX5_move_30 : decode cX5_move 30 = .ok (.isub, 1) := by decide +kernel
theorem dX5_move_31 : decode cX5_move 31 = .ok (.iastore, 1) := by decide +kernel
theorem dX5_move_32 : decode cX5_move 32 = .ok (.aload_n 0, 1) := by decide +kernel
theorem dX5_move_33 : decode cX5_move 33 = .ok (.getfield 7, 3) := by decide +kernel
theorem dX5_move_36 : decode cX5_move 36 = .ok (.iconst 1, 1) := by decide +kernel
theorem dX5_move_37 : decode cX5_move 37 = .ok (.iload_n 1, 1) := by decide +kernel
theorem dX5_move_38 : decode cX5_move 38 = .ok (.iadd, 1) := by decide +kernel
theorem dX5_move_39 : decode cX5_move 39 = .ok (.iaload, 1) := by decide +kernel
theorem dX5_move_40 : decode cX5_move 40 = .ok (.ireturn, 1) := by decide +kernel
theorem dX5_clausesOf_0 : decode cX5_clausesOf 0 = .ok (.iconst 0, 1) := by decide +kernel
theorem dX5_clausesOf_1 : decode cX5_clausesOf 1 = .ok (.istore_n 2, 1) := by decide +kernel
theorem dX5_clausesOf_2 : decode cX5_clausesOf 2 = .ok (.iconst 0, 1) := by decide +kernel
theorem dX5_clausesOf_3 : decode cX5_clausesOf 3 = .ok (.istore_n 3, 1) := by decide +kernel
theorem dX5_clausesOf_4 : decode cX5_clausesOf 4 = .ok (.iload_n 3, 1) := by decide +kernel
theorem dX5_clausesOf_5 : decode cX5_clausesOf 5 = .ok (.aload_n 0, 1) := by decide +kernel
theorem dX5_clausesOf_6 : decode cX5_clausesOf 6 = .ok (.getfield 7, 3) := by decide +kernel
theorem dX5_clausesOf_9 : decode cX5_clausesOf 9 = .ok (.iconst 0, 1) := by decide +kernel
theorem dX5_clausesOf_10 : decode cX5_clausesOf 10 = .ok (.iaload, 1) := by decide +kernel
theorem dX5_clausesOf_11 : decode cX5_clausesOf 11 = .ok (.if_icmp .ge 29, 3) := by decide +kernel
theorem dX5_clausesOf_14 : decode cX5_clausesOf 14 = .ok (.iload_n 2, 1) := by decide +kernel
theorem dX5_clausesOf_15 : decode cX5_clausesOf 15 = .ok (.aload_n 0, 1) := by decide +kernel
theorem dX5_clausesOf_16 : decode cX5_clausesOf 16 = .ok (.getfield 7, 3) := by decide +kernel
theorem dX5_clausesOf_19 : decode cX5_clausesOf 19 = .ok (.iconst 1, 1) := by decide +kernel
theorem dX5_clausesOf_20 : decode cX5_clausesOf 20 = .ok (.iload_n 3, 1) := by decide +kernel
theorem dX5_clausesOf_21 : decode cX5_clausesOf 21 = .ok (.iadd, 1) := by decide +kernel
theorem dX5_clausesOf_22 : decode cX5_clausesOf 22 = .ok (.iaload, 1) := by decide +kernel
theorem dX5_clausesOf_23 : decode cX5_clausesOf 23 = .ok (.iload_n 1, 1) := by decide +kernel
theorem dX5_clausesOf_24 : decode cX5_clausesOf 24 = .ok (.if_icmp .ne 7, 3) := by decide +kernel
theorem dX5_clausesOf_27 : decode cX5_clausesOf 27 = .ok (.iconst 1, 1) := by decide +kernel
theorem dX5_clausesOf_28 : decode cX5_clausesOf 28 = .ok (.goto 4, 3) := by decide +kernel
theorem dX5_clausesOf_31 : decode cX5_clausesOf 31 = .ok (.iconst 0, 1) := by decide +kernel
theorem dX5_clausesOf_32 : decode cX5_clausesOf 32 = .ok (.iadd, 1) := by decide +kernel
theorem dX5_clausesOf_33 : decode cX5_clausesOf 33 = .ok (.istore_n 2, 1) := by decide +kernel
theorem dX5_clausesOf_34 : decode cX5_clausesOf 34 = .ok (.iinc 3 1, 3) := by decide +kernel
theorem dX5_clausesOf_37 : decode cX5_clausesOf 37 = .ok (.goto (-33), 3) := by decide +kernel
theorem dX5_clausesOf_40 : decode cX5_clausesOf 40 = .ok (.iload_n 2, 1) := by decide +kernel
theorem dX5_clausesOf_41 : decode cX5_clausesOf 41 = .ok (.ireturn, 1) := by decide +kernel
set_option maxRecDepth 20000 in
theorem ggX5_exchange_X5_know : GoodIn wsX5_exchange wsX5_know := goodIn_r _ [6, 7, 8, 1, 13, 14, 15, 16, 17, 18, 19, 20, 21, 22, 23, 24, 25, 26, 27, 28, 29, 30, 31, 32, 33, 34] (by decide +kernel) (by decide +kernel)
set_option maxRecDepth 20000 in
theorem gX5_exchange_X5_know : GoodIn wsX5_exchange (wsV RX5 101 RX5 yX5_know wsX5_know) := goodIn_app (goodIn_of _ (by decide +kernel)) ggX5_exchange_X5_know
set_option maxRecDepth 20000 in
theorem ggX5_exchange_X5_clausesOf : GoodIn wsX5_exchange wsX5_clausesOf := goodIn_r _ [12, 1, 13, 14, 15, 16, 17, 18, 19, 20, 21, 22, 23, 24, 25, 26, 27, 28, 29, 30, 31, 32, 33, 34] (by decide +kernel) (by decide +kernel)
set_option maxRecDepth 20000 in
theorem gX5_exchange_X5_clausesOf : GoodIn wsX5_exchange (wsV RX5 147 RX5 yX5_clausesOf wsX5_clausesOf) := goodIn_app (goodIn_of _ (by decide +kernel)) ggX5_exchange_X5_clausesOf
theorem dX5_exchange_0 : decode cX5_exchange 0 = .ok (.aload_n 0, 1) := by decide +kernel
theorem dX5_exchange_1 : decode cX5_exchange 1 = .ok (.getfield 7, 3) := by decide +kernel
theorem dX5_exchange_4 : decode cX5_exchange 4 = .ok (.iconst 0, 1) := by decide +kernel
theorem dX5_exchange_5 : decode cX5_exchange 5 = .ok (.iaload, 1) := by decide +kernel
theorem dX5_exchange_6 : decode cX5_exchange 6 = .ok (.ifCond .ne 6, 3) := by decide +kernel
theorem dX5_exchange_9 : decode cX5_exchange 9 = .ok (.bipush (-5), 2) := by decide +kernel
theorem dX5_exchange_11 : decode cX5_exchange 11 = .ok (.ireturn, 1) := by decide +kernel
theorem dX5_exchange_12 : decode cX5_exchange 12 = .ok (.aload_n 0, 1) := by decide +kernel
theorem dX5_exchange_13 : decode cX5_exchange 13 = .ok (.invokevirtual 101, 3) := by decide +kernel
theorem dX5_exchange_16 : decode cX5_exchange 16 = .ok (.iconst 0, 1) := by decide +kernel
theorem dX5_exchange_17 : decode cX5_exchange 17 = .ok (.istore_n 1, 1) := by decide +kernel
theorem dX5_exchange_18 : decode cX5_exchange 18 = .ok (.iload_n 1, 1) := by decide +kernel
theorem dX5_exchange_19 : decode cX5_exchange 19 = .ok (.aload_n 0, 1) := by decide +kernel
theorem dX5_exchange_20 : decode cX5_exchange 20 = .ok (.getfield 7, 3) := by decide +kernel
theorem dX5_exchange_23 : decode cX5_exchange 23 = .ok (.iconst 0, 1) := by decide +kernel
theorem dX5_exchange_24 : decode cX5_exchange 24 = .ok (.iaload, 1) := by decide +kernel
theorem dX5_exchange_25 : decode cX5_exchange 25 = .ok (.if_icmp .ge 27, 3) := by decide +kernel
theorem dX5_exchange_28 : decode cX5_exchange 28 = .ok (.aload_n 0, 1) := by decide +kernel
theorem dX5_exchange_29 : decode cX5_exchange 29 = .ok (.getfield 7, 3) := by decide +kernel
theorem dX5_exchange_32 : decode cX5_exchange 32 = .ok (.iconst 1, 1) := by decide +kernel
theorem dX5_exchange_33 : decode cX5_exchange 33 = .ok (.iload_n 1, 1) := by decide +kernel
theorem dX5_exchange_34 : decode cX5_exchange 34 = .ok (.iadd, 1) := by decide +kernel
theorem dX5_exchange_35 : decode cX5_exchange 35 = .ok (.iconst 1, 1) := by decide +kernel
theorem dX5_exchange_36 : decode cX5_exchange 36 = .ok (.aload_n 0, 1) := by decide +kernel
theorem dX5_exchange_37 : decode cX5_exchange 37 = .ok (.getfield 7, 3) := by decide +kernel
theorem dX5_exchange_40 : decode cX5_exchange 40 = .ok (.iconst 1, 1) := by decide +kernel
theorem dX5_exchange_41 : decode cX5_exchange 41 = .ok (.iload_n 1, 1) := by decide +kernel
theorem dX5_exchange_42 : decode cX5_exchange 42 = .ok (.iadd, 1) := by decide +kernel
theorem dX5_exchange_43 : decode cX5_exchange 43 = .ok (.iaload, 1) := by decide +kernel
theorem dX5_exchange_44 : decode cX5_exchange 44 = .ok (.isub, 1) := by decide +kernel
theorem dX5_exchange_45 : decode cX5_exchange 45 = .ok (.iastore, 1) := by decide +kernel
theorem dX5_exchange_46 : decode cX5_exchange 46 = .ok (.iinc 1 1, 3) := by decide +kernel
theorem dX5_exchange_49 : decode cX5_exchange 49 = .ok (.goto (-31), 3) := by decide +kernel
theorem dX5_exchange_52 : decode cX5_exchange 52 = .ok (.aload_n 0, 1) := by decide +kernel
theorem dX5_exchange_53 : decode cX5_exchange 53 = .ok (.iconst 0, 1) := by decide +kernel
theorem dX5_exchange_54 : decode cX5_exchange 54 = .ok (.invokevirtual 147, 3) := by decide +kernel
theorem dX5_exchange_57 : decode cX5_exchange 57 = .ok (.ireturn, 1) := by decide +kernel
set_option maxRecDepth 20000 in
theorem ggX5_shrink_X5_prove : GoodIn wsX5_shrink wsX5_prove := goodIn_r _ [7, 8, 9, 10, 11, 1, 12, 13, 2, 14, 15, 16, 17, 18, 6, 19, 20, 21, 22, 23, 38, 39, 40, 41, 42, 43, 44, 45, 46, 47, 48, 49, 50, 51, 52, 53, 54, 55, 56, 57, 58, 59] (by decide +kernel) (by decide +kernel)
set_option maxRecDepth 20000 in
theorem gX5_shrink_X5_prove : GoodIn wsX5_shrink (wsV RX5 150 RX5 yX5_prove wsX5_prove) := goodIn_app (goodIn_of _ (by decide +kernel)) ggX5_shrink_X5_prove
set_option maxRecDepth 20000 in
theorem ggX5_shrink_X5_isProved : GoodIn wsX5_shrink wsX5_isProved := goodIn_r _ [27, 11, 10, 38, 39, 40, 41, 42, 43, 44, 45, 46, 47, 48, 49, 50, 51, 52, 53, 54, 55, 56, 57, 58, 59] (by decide +kernel) (by decide +kernel)
set_option maxRecDepth 20000 in
theorem gX5_shrink_X5_isProved : GoodIn wsX5_shrink (wsV RX5 153 RX5 yX5_isProved wsX5_isProved) := goodIn_app (goodIn_of _ (by decide +kernel)) ggX5_shrink_X5_isProved
set_option maxRecDepth 20000 in
theorem ggX5_shrink_X5_know : GoodIn wsX5_shrink wsX5_know := goodIn_r _ [31, 32, 33, 1, 38, 39, 40, 41, 42, 43, 44, 45, 46, 47, 48, 49, 50, 51, 52, 53, 54, 55, 56, 57, 58, 59] (by decide +kernel) (by decide +kernel)
set_option maxRecDepth 20000 in
theorem gX5_shrink_X5_know : GoodIn wsX5_shrink (wsV RX5 101 RX5 yX5_know wsX5_know) := goodIn_app (goodIn_of _ (by decide +kernel)) ggX5_shrink_X5_know
set_option maxRecDepth 20000 in
theorem ggX5_shrink_X5_drop : GoodIn wsX5_shrink wsX5_drop := goodIn_r _ [37, 1, 38, 39, 40, 41, 42, 43, 44, 45, 46, 47, 48, 49, 50, 51, 52, 53, 54, 55, 56, 57, 58, 59] (by decide +kernel) (by decide +kernel)
set_option maxRecDepth 20000 in
theorem gX5_shrink_X5_drop : GoodIn wsX5_shrink (wsV RX5 144 RX5 yX5_drop wsX5_drop) := goodIn_app (goodIn_of _ (by decide +kernel)) ggX5_shrink_X5_drop
theorem dX5_shrink_0 : decode cX5_shrink 0 = .ok (.aload_n 0, 1) := by decide +kernel
theorem dX5_shrink_1 : decode cX5_shrink 1 = .ok (.invokevirtual 150, 3) := by decide +kernel
theorem dX5_shrink_4 : decode cX5_shrink 4 = .ok (.aload_n 0, 1) := by decide +kernel
theorem dX5_shrink_5 : decode cX5_shrink 5 = .ok (.invokevirtual 153, 3) := by decide +kernel
theorem dX5_shrink_8 : decode cX5_shrink 8 = .ok (.ifCond .ne 6, 3) := by decide +kernel
theorem dX5_shrink_11 : decode cX5_shrink 11 = .ok (.bipush (-4), 2) := by decide +kernel
theorem dX5_shrink_13 : decode cX5_shrink 13 = .ok (.ireturn, 1) := by decide +kernel
theorem dX5_shrink_14 : decode cX5_shrink 14 = .ok (.iconst 0, 1) := by decide +kernel
theorem dX5_shrink_15 : decode cX5_shrink 15 = .ok (.istore_n 1, 1) := by decide +kernel
theorem dX5_shrink_16 : decode cX5_shrink 16 = .ok (.iconst 0, 1) := by decide +kernel
theorem dX5_shrink_17 : decode cX5_shrink 17 = .ok (.istore_n 2, 1) := by decide +kernel
theorem dX5_shrink_18 : decode cX5_shrink 18 = .ok (.iload_n 2, 1) := by decide +kernel
theorem dX5_shrink_19 : decode cX5_shrink 19 = .ok (.aload_n 0, 1) := by decide +kernel
theorem dX5_shrink_20 : decode cX5_shrink 20 = .ok (.getfield 7, 3) := by decide +kernel
theorem dX5_shrink_23 : decode cX5_shrink 23 = .ok (.iconst 0, 1) := by decide +kernel
theorem dX5_shrink_24 : decode cX5_shrink 24 = .ok (.iaload, 1) := by decide +kernel
theorem dX5_shrink_25 : decode cX5_shrink 25 = .ok (.if_icmp .ge 28, 3) := by decide +kernel
theorem dX5_shrink_28 : decode cX5_shrink 28 = .ok (.iload_n 1, 1) := by decide +kernel
theorem dX5_shrink_29 : decode cX5_shrink 29 = .ok (.ifCond .ne 12, 3) := by decide +kernel
theorem dX5_shrink_32 : decode cX5_shrink 32 = .ok (.aload_n 0, 1) := by decide +kernel
theorem dX5_shrink_33 : decode cX5_shrink 33 = .ok (.getfield 37, 3) := by decide +kernel
theorem dX5_shrink_36 : decode cX5_shrink 36 = .ok (.iload_n 2, 1) := by decide +kernel
theorem dX5_shrink_37 : decode cX5_shrink 37 = .ok (.baload, 1) := by decide +kernel
theorem dX5_shrink_38 : decode cX5_shrink 38 = .ok (.ifCond .ne 7, 3) := by decide +kernel
theorem dX5_shrink_41 : decode cX5_shrink 41 = .ok (.iconst 1, 1) := by decide +kernel
theorem dX5_shrink_42 : decode cX5_shrink 42 = .ok (.goto 4, 3) := by decide +kernel
theorem dX5_shrink_45 : decode cX5_shrink 45 = .ok (.iconst 0, 1) := by decide +kernel
theorem dX5_shrink_46 : decode cX5_shrink 46 = .ok (.istore_n 1, 1) := by decide +kernel
theorem dX5_shrink_47 : decode cX5_shrink 47 = .ok (.iinc 2 1, 3) := by decide +kernel
theorem dX5_shrink_50 : decode cX5_shrink 50 = .ok (.goto (-32), 3) := by decide +kernel
theorem dX5_shrink_53 : decode cX5_shrink 53 = .ok (.iload_n 1, 1) := by decide +kernel
theorem dX5_shrink_54 : decode cX5_shrink 54 = .ok (.ifCond .ne 6, 3) := by decide +kernel
theorem dX5_shrink_57 : decode cX5_shrink 57 = .ok (.bipush (-5), 2) := by decide +kernel
theorem dX5_shrink_59 : decode cX5_shrink 59 = .ok (.ireturn, 1) := by decide +kernel
theorem dX5_shrink_60 : decode cX5_shrink 60 = .ok (.aload_n 0, 1) := by decide +kernel
theorem dX5_shrink_61 : decode cX5_shrink 61 = .ok (.invokevirtual 101, 3) := by decide +kernel
theorem dX5_shrink_64 : decode cX5_shrink 64 = .ok (.aload_n 0, 1) := by decide +kernel
theorem dX5_shrink_65 : decode cX5_shrink 65 = .ok (.getfield 7, 3) := by decide +kernel
theorem dX5_shrink_68 : decode cX5_shrink 68 = .ok (.iconst 0, 1) := by decide +kernel
theorem dX5_shrink_69 : decode cX5_shrink 69 = .ok (.iaload, 1) := by decide +kernel
theorem dX5_shrink_70 : decode cX5_shrink 70 = .ok (.iconst 1, 1) := by decide +kernel
theorem dX5_shrink_71 : decode cX5_shrink 71 = .ok (.isub, 1) := by decide +kernel
theorem dX5_shrink_72 : decode cX5_shrink 72 = .ok (.istore_n 2, 1) := by decide +kernel
theorem dX5_shrink_73 : decode cX5_shrink 73 = .ok (.iload_n 2, 1) := by decide +kernel
theorem dX5_shrink_74 : decode cX5_shrink 74 = .ok (.ifCond .lt 23, 3) := by decide +kernel
theorem dX5_shrink_77 : decode cX5_shrink 77 = .ok (.aload_n 0, 1) := by decide +kernel
theorem dX5_shrink_78 : decode cX5_shrink 78 = .ok (.getfield 37, 3) := by decide +kernel
theorem dX5_shrink_81 : decode cX5_shrink 81 = .ok (.iload_n 2, 1) := by decide +kernel
theorem dX5_shrink_82 : decode cX5_shrink 82 = .ok (.baload, 1) := by decide +kernel
theorem dX5_shrink_83 : decode cX5_shrink 83 = .ok (.ifCond .ne 8, 3) := by decide +kernel
theorem dX5_shrink_86 : decode cX5_shrink 86 = .ok (.aload_n 0, 1) := by decide +kernel
theorem dX5_shrink_87 : decode cX5_shrink 87 = .ok (.iload_n 2, 1) := by decide +kernel
theorem dX5_shrink_88 : decode cX5_shrink 88 = .ok (.invokevirtual 144, 3) := by decide +kernel
theorem dX5_shrink_91 : decode cX5_shrink 91 = .ok (.iinc 2 (-1), 3) := by decide +kernel
theorem dX5_shrink_94 : decode cX5_shrink 94 = .ok (.goto (-21), 3) := by decide +kernel
theorem dX5_shrink_97 : decode cX5_shrink 97 = .ok (.aload_n 0, 1) := by decide +kernel
theorem dX5_shrink_98 : decode cX5_shrink 98 = .ok (.getfield 7, 3) := by decide +kernel
theorem dX5_shrink_101 : decode cX5_shrink 101 = .ok (.iconst 0, 1) := by decide +kernel
theorem dX5_shrink_102 : decode cX5_shrink 102 = .ok (.iaload, 1) := by decide +kernel
theorem dX5_shrink_103 : decode cX5_shrink 103 = .ok (.ireturn, 1) := by decide +kernel
theorem dX5_type_0 : decode cX5_type 0 = .ok (.aload_n 0, 1) := by decide +kernel
theorem dX5_type_1 : decode cX5_type 1 = .ok (.getfield 111, 3) := by decide +kernel
theorem dX5_type_4 : decode cX5_type 4 = .ok (.bipush 60, 2) := by decide +kernel
theorem dX5_type_6 : decode cX5_type 6 = .ok (.if_icmp .ne 6, 3) := by decide +kernel
theorem dX5_type_9 : decode cX5_type 9 = .ok (.bipush (-3), 2) := by decide +kernel
theorem dX5_type_11 : decode cX5_type 11 = .ok (.ireturn, 1) := by decide +kernel
theorem dX5_type_12 : decode cX5_type 12 = .ok (.aload_n 0, 1) := by decide +kernel
theorem dX5_type_13 : decode cX5_type 13 = .ok (.getfield 19, 3) := by decide +kernel
theorem dX5_type_16 : decode cX5_type 16 = .ok (.aload_n 0, 1) := by decide +kernel
theorem dX5_type_17 : decode cX5_type 17 = .ok (.getfield 111, 3) := by decide +kernel
theorem dX5_type_20 : decode cX5_type 20 = .ok (.iload_n 1, 1) := by decide +kernel
theorem dX5_type_21 : decode cX5_type 21 = .ok (.iastore, 1) := by decide +kernel
theorem dX5_type_22 : decode cX5_type 22 = .ok (.aload_n 0, 1) := by decide +kernel
theorem dX5_type_23 : decode cX5_type 23 = .ok (.dup, 1) := by decide +kernel
theorem dX5_type_24 : decode cX5_type 24 = .ok (.getfield 111, 3) := by decide +kernel
theorem dX5_type_27 : decode cX5_type 27 = .ok (.iconst 1, 1) := by decide +kernel
theorem dX5_type_28 : decode cX5_type 28 = .ok (.iadd, 1) := by decide +kernel
theorem dX5_type_29 : decode cX5_type 29 = .ok (.putfield 111, 3) := by decide +kernel
theorem dX5_type_32 : decode cX5_type 32 = .ok (.aload_n 0, 1) := by decide +kernel
theorem dX5_type_33 : decode cX5_type 33 = .ok (.getfield 111, 3) := by decide +kernel
theorem dX5_type_36 : decode cX5_type 36 = .ok (.ireturn, 1) := by decide +kernel
theorem dX5_clearText_0 : decode cX5_clearText 0 = .ok (.aload_n 0, 1) := by decide +kernel
theorem dX5_clearText_1 : decode cX5_clearText 1 = .ok (.getfield 111, 3) := by decide +kernel
theorem dX5_clearText_4 : decode cX5_clearText 4 = .ok (.istore_n 1, 1) := by decide +kernel
theorem dX5_clearText_5 : decode cX5_clearText 5 = .ok (.aload_n 0, 1) := by decide +kernel
theorem dX5_clearText_6 : decode cX5_clearText 6 = .ok (.iconst 0, 1) := by decide +kernel
theorem dX5_clearText_7 : decode cX5_clearText 7 = .ok (.putfield 111, 3) := by decide +kernel
theorem dX5_clearText_10 : decode cX5_clearText 10 = .ok (.iload_n 1, 1) := by decide +kernel
theorem dX5_clearText_11 : decode cX5_clearText 11 = .ok (.ireturn, 1) := by decide +kernel
theorem dX5_undo_0 : decode cX5_undo 0 = .ok (.aload_n 0, 1) := by decide +kernel
theorem dX5_undo_1 : decode cX5_undo 1 = .ok (.getfield 52, 3) := by decide +kernel
theorem dX5_undo_4 : decode cX5_undo 4 = .ok (.ifCond .ne 6, 3) := by decide +kernel
theorem dX5_undo_7 : decode cX5_undo 7 = .ok (.bipush (-5), 2) := by decide +kernel
theorem dX5_undo_9 : decode cX5_undo 9 = .ok (.ireturn, 1) := by decide +kernel
theorem dX5_undo_10 : decode cX5_undo 10 = .ok (.aload_n 0, 1) := by decide +kernel
theorem dX5_undo_11 : decode cX5_undo 11 = .ok (.dup, 1) := by decide +kernel
theorem dX5_undo_12 : decode cX5_undo 12 = .ok (.getfield 52, 3) := by decide +kernel
theorem dX5_undo_15 : decode cX5_undo 15 = .ok (.iconst 1, 1) := by decide +kernel
theorem dX5_undo_16 : decode cX5_undo 16 = .ok (.isub, 1) := by decide +kernel
theorem dX5_undo_17 : decode cX5_undo 17 = .ok (.putfield 52, 3) := by decide +kernel
theorem dX5_undo_20 : decode cX5_undo 20 = .ok (.iconst 0, 1) := by decide +kernel
theorem dX5_undo_21 : decode cX5_undo 21 = .ok (.istore_n 1, 1) := by decide +kernel
theorem dX5_undo_22 : decode cX5_undo 22 = .ok (.iload_n 1, 1) := by decide +kernel
theorem dX5_undo_23 : decode cX5_undo 23 = .ok (.bipush 73, 2) := by decide +kernel
theorem dX5_undo_25 : decode cX5_undo 25 = .ok (.if_icmp .ge 29, 3) := by decide +kernel
theorem dX5_undo_28 : decode cX5_undo 28 = .ok (.aload_n 0, 1) := by decide +kernel
theorem dX5_undo_29 : decode cX5_undo 29 = .ok (.getfield 7, 3) := by decide +kernel
theorem dX5_undo_32 : decode cX5_undo 32 = .ok (.iload_n 1, 1) := by decide +kernel
theorem dX5_undo_33 : decode cX5_undo 33 = .ok (.aload_n 0, 1) := by decide +kernel
theorem dX5_undo_34 : decode cX5_undo 34 = .ok (.getfield 13, 3) := by decide +kernel
theorem dX5_undo_37 : decode cX5_undo 37 = .ok (.bipush 73, 2) := by decide +kernel
theorem dX5_undo_39 : decode cX5_undo 39 = .ok (.aload_n 0, 1) := by decide +kernel
theorem dX5_undo_40 : decode cX5_undo 40 = .ok (.getfield 52, 3) := by decide +kernel
theorem dX5_undo_43 : decode cX5_undo 43 = .ok (.imul, 1) := by decide +kernel
theorem dX5_undo_44 : decode cX5_undo 44 = .ok (.iload_n 1, 1) := by decide +kernel
theorem dX5_undo_45 : decode cX5_undo 45 = .ok (.iadd, 1) := by decide +kernel
theorem dX5_undo_46 : decode cX5_undo 46 = .ok (.iaload, 1) := by decide +kernel
theorem dX5_undo_47 : decode cX5_undo 47 = .ok (.iastore, 1) := by decide +kernel
theorem dX5_undo_48 : decode cX5_undo 48 = .ok (.iinc 1 1, 3) := by decide +kernel
theorem dX5_undo_51 : decode cX5_undo 51 = .ok (.goto (-29), 3) := by decide +kernel
theorem dX5_undo_54 : decode cX5_undo 54 = .ok (.aload_n 0, 1) := by decide +kernel
theorem dX5_undo_55 : decode cX5_undo 55 = .ok (.getfield 52, 3) := by decide +kernel
theorem dX5_undo_58 : decode cX5_undo 58 = .ok (.ireturn, 1) := by decide +kernel
theorem dX5_keep_0 : decode cX5_keep 0 = .ok (.iconst 0, 1) := by decide +kernel
theorem dX5_keep_1 : decode cX5_keep 1 = .ok (.istore_n 1, 1) := by decide +kernel
theorem dX5_keep_2 : decode cX5_keep 2 = .ok (.iload_n 1, 1) := by decide +kernel
theorem dX5_keep_3 : decode cX5_keep 3 = .ok (.bipush 73, 2) := by decide +kernel
theorem dX5_keep_5 : decode cX5_keep 5 = .ok (.if_icmp .ge 21, 3) := by decide +kernel
theorem dX5_keep_8 : decode cX5_keep 8 = .ok (.aload_n 0, 1) := by decide +kernel
theorem dX5_keep_9 : decode cX5_keep 9 = .ok (.getfield 16, 3) := by decide +kernel
theorem dX5_keep_12 : decode cX5_keep 12 = .ok (.iload_n 1, 1) := by decide +kernel
theorem dX5_keep_13 : decode cX5_keep 13 = .ok (.aload_n 0, 1) := by decide +kernel
theorem dX5_keep_14 : decode cX5_keep 14 = .ok (.getfield 7, 3) := by decide +kernel
theorem dX5_keep_17 : decode cX5_keep 17 = .ok (.iload_n 1, 1) := by decide +kernel
theorem dX5_keep_18 : decode cX5_keep 18 = .ok (.iaload, 1) := by decide +kernel
theorem dX5_keep_19 : decode cX5_keep 19 = .ok (.iastore, 1) := by decide +kernel
theorem dX5_keep_20 : decode cX5_keep 20 = .ok (.iinc 1 1, 3) := by decide +kernel
theorem dX5_keep_23 : decode cX5_keep 23 = .ok (.goto (-21), 3) := by decide +kernel
theorem dX5_keep_26 : decode cX5_keep 26 = .ok (.aload_n 0, 1) := by decide +kernel
theorem dX5_keep_27 : decode cX5_keep 27 = .ok (.iconst 1, 1) := by decide +kernel
theorem dX5_keep_28 : decode cX5_keep 28 = .ok (.putfield 157, 3) := by decide +kernel
theorem dX5_keep_31 : decode cX5_keep 31 = .ok (.aload_n 0, 1) := by decide +kernel
theorem dX5_keep_32 : decode cX5_keep 32 = .ok (.getfield 7, 3) := by decide +kernel
theorem dX5_keep_35 : decode cX5_keep 35 = .ok (.iconst 0, 1) := by decide +kernel
theorem dX5_keep_36 : decode cX5_keep 36 = .ok (.iaload, 1) := by decide +kernel
theorem dX5_keep_37 : decode cX5_keep 37 = .ok (.ireturn, 1) := by decide +kernel
set_option maxRecDepth 20000 in
theorem ggX5_restore_X5_know : GoodIn wsX5_restore wsX5_know := goodIn_r _ [8, 9, 10, 2, 11, 12, 13, 14, 15, 16, 17, 18, 19, 20, 21, 22, 23, 24, 25, 26, 27, 28, 29, 30, 31, 32] (by decide +kernel) (by decide +kernel)
set_option maxRecDepth 20000 in
theorem gX5_restore_X5_know : GoodIn wsX5_restore (wsV RX5 101 RX5 yX5_know wsX5_know) := goodIn_app (goodIn_of _ (by decide +kernel)) ggX5_restore_X5_know
theorem dX5_restore_0 : decode cX5_restore 0 = .ok (.aload_n 0, 1) := by decide +kernel
theorem dX5_restore_1 : decode cX5_restore 1 = .ok (.getfield 157, 3) := by decide +kernel
theorem dX5_restore_4 : decode cX5_restore 4 = .ok (.ifCond .ne 6, 3) := by decide +kernel
theorem dX5_restore_7 : decode cX5_restore 7 = .ok (.bipush (-5), 2) := by decide +kernel
theorem dX5_restore_9 : decode cX5_restore 9 = .ok (.ireturn, 1) := by decide +kernel
theorem dX5_restore_10 : decode cX5_restore 10 = .ok (.aload_n 0, 1) := by decide +kernel
theorem dX5_restore_11 : decode cX5_restore 11 = .ok (.invokevirtual 101, 3) := by decide +kernel
theorem dX5_restore_14 : decode cX5_restore 14 = .ok (.iconst 0, 1) := by decide +kernel
theorem dX5_restore_15 : decode cX5_restore 15 = .ok (.istore_n 1, 1) := by decide +kernel
theorem dX5_restore_16 : decode cX5_restore 16 = .ok (.iload_n 1, 1) := by decide +kernel
theorem dX5_restore_17 : decode cX5_restore 17 = .ok (.bipush 73, 2) := by decide +kernel
theorem dX5_restore_19 : decode cX5_restore 19 = .ok (.if_icmp .ge 21, 3) := by decide +kernel
theorem dX5_restore_22 : decode cX5_restore 22 = .ok (.aload_n 0, 1) := by decide +kernel
theorem dX5_restore_23 : decode cX5_restore 23 = .ok (.getfield 7, 3) := by decide +kernel
theorem dX5_restore_26 : decode cX5_restore 26 = .ok (.iload_n 1, 1) := by decide +kernel
theorem dX5_restore_27 : decode cX5_restore 27 = .ok (.aload_n 0, 1) := by decide +kernel
theorem dX5_restore_28 : decode cX5_restore 28 = .ok (.getfield 16, 3) := by decide +kernel
theorem dX5_restore_31 : decode cX5_restore 31 = .ok (.iload_n 1, 1) := by decide +kernel
theorem dX5_restore_32 : decode cX5_restore 32 = .ok (.iaload, 1) := by decide +kernel
theorem dX5_restore_33 : decode cX5_restore 33 = .ok (.iastore, 1) := by decide +kernel
theorem dX5_restore_34 : decode cX5_restore 34 = .ok (.iinc 1 1, 3) := by decide +kernel
theorem dX5_restore_37 : decode cX5_restore 37 = .ok (.goto (-21), 3) := by decide +kernel
theorem dX5_restore_40 : decode cX5_restore 40 = .ok (.aload_n 0, 1) := by decide +kernel
theorem dX5_restore_41 : decode cX5_restore 41 = .ok (.getfield 7, 3) := by decide +kernel
theorem dX5_restore_44 : decode cX5_restore 44 = .ok (.iconst 0, 1) := by decide +kernel
theorem dX5_restore_45 : decode cX5_restore 45 = .ok (.iaload, 1) := by decide +kernel
theorem dX5_restore_46 : decode cX5_restore 46 = .ok (.ireturn, 1) := by decide +kernel
set_option maxRecDepth 20000 in
theorem ggX5_clause_X5_isClause : GoodIn wsX5_clause wsX5_isClause := goodIn_r _ [7, 1, 8, 9, 6, 10, 45, 46, 47, 48, 49, 50, 51, 52, 53, 54, 55, 56, 57, 58, 59, 60, 61, 62, 63, 64, 65, 66] (by decide +kernel) (by decide +kernel)
set_option maxRecDepth 20000 in
theorem gX5_clause_X5_isClause : GoodIn wsX5_clause (wsV RX5 141 RX5 yX5_isClause wsX5_isClause) := goodIn_app (goodIn_of _ (by decide +kernel)) ggX5_clause_X5_isClause
set_option maxRecDepth 20000 in
theorem ggX5_clause_X5_worldsOfClause : GoodIn wsX5_clause wsX5_worldsOfClause := goodIn_r _ [14, 1, 15, 16, 6, 17, 45, 46, 47, 48, 49, 50, 51, 52, 53, 54, 55, 56, 57, 58, 59, 60, 61, 62, 63, 64, 65, 66] (by decide +kernel) (by decide +kernel)
set_option maxRecDepth 20000 in
theorem gX5_clause_X5_worldsOfClause : GoodIn wsX5_clause (wsV RX5 62 RX5 yX5_worldsOfClause wsX5_worldsOfClause) := goodIn_app (goodIn_of _ (by decide +kernel)) ggX5_clause_X5_worldsOfClause
set_option maxRecDepth 20000 in
theorem ggX5_clause_X5_bitsOf : GoodIn wsX5_clause wsX5_bitsOf := goodIn_r _ [20] (by decide +kernel) (by decide +kernel)
set_option maxRecDepth 20000 in
theorem gX5_clause_X5_bitsOf : GoodIn wsX5_clause (va_wsS RX5 160 yX5_bitsOf wsX5_bitsOf) := goodIn_app (goodIn_of _ (by decide +kernel)) ggX5_clause_X5_bitsOf
set_option maxRecDepth 20000 in
theorem ggX5_clause_X5_prove : GoodIn wsX5_clause wsX5_prove := goodIn_r _ [24, 25, 26, 27, 28, 1, 29, 30, 2, 31, 32, 33, 34, 35, 6, 36, 37, 38, 39, 40, 45, 46, 47, 48, 49, 50, 51, 52, 53, 54, 55, 56, 57, 58, 59, 60, 61, 62, 63, 64, 65, 66] (by decide +kernel) (by decide +kernel)
set_option maxRecDepth 20000 in
theorem gX5_clause_X5_prove : GoodIn wsX5_clause (wsV RX5 150 RX5 yX5_prove wsX5_prove) := goodIn_app (goodIn_of _ (by decide +kernel)) ggX5_clause_X5_prove
set_option maxRecDepth 20000 in
theorem ggX5_clause_X5_isProved : GoodIn wsX5_clause wsX5_isProved := goodIn_r _ [44, 28, 27, 45, 46, 47, 48, 49, 50, 51, 52, 53, 54, 55, 56, 57, 58, 59, 60, 61, 62, 63, 64, 65, 66] (by decide +kernel) (by decide +kernel)
set_option maxRecDepth 20000 in
theorem gX5_clause_X5_isProved : GoodIn wsX5_clause (wsV RX5 153 RX5 yX5_isProved wsX5_isProved) := goodIn_app (goodIn_of _ (by decide +kernel)) ggX5_clause_X5_isProved
theorem dX5_clause_0 : decode cX5_clause 0 = .ok (.aload_n 0, 1) := by decide +kernel
theorem dX5_clause_1 : decode cX5_clause 1 = .ok (.iload_n 1, 1) := by decide +kernel
theorem dX5_clause_2 : decode cX5_clause 2 = .ok (.invokevirtual 141, 3) := by decide +kernel
theorem dX5_clause_5 : decode cX5_clause 5 = .ok (.ifCond .ne 5, 3) := by decide +kernel
theorem dX5_clause_8 : decode cX5_clause 8 = .ok (.iconst (-1), 1) := by decide +kernel
theorem dX5_clause_9 : decode cX5_clause 9 = .ok (.ireturn, 1) := by decide +kernel
theorem dX5_clause_10 : decode cX5_clause 10 = .ok (.iload_n 2, 1) := by decide +kernel
theorem dX5_clause_11 : decode cX5_clause 11 = .ok (.tableswitch 97 0 4 #[33, 42, 52, 62, 71], 33) := by decide +kernel
theorem dX5_clause_44 : decode cX5_clause 44 = .ok (.aload_n 0, 1) := by decide +kernel
theorem dX5_clause_45 : decode cX5_clause 45 = .ok (.getfield 7, 3) := by decide +kernel
theorem dX5_clause_48 : decode cX5_clause 48 = .ok (.iconst 1, 1) := by decide +kernel
theorem dX5_clause_49 : decode cX5_clause 49 = .ok (.iload_n 1, 1) := by decide +kernel
theorem dX5_clause_50 : decode cX5_clause 50 = .ok (.iadd, 1) := by decide +kernel
theorem dX5_clause_51 : decode cX5_clause 51 = .ok (.iaload, 1) := by decide +kernel
theorem dX5_clause_52 : decode cX5_clause 52 = .ok (.ireturn, 1) := by decide +kernel
theorem dX5_clause_53 : decode cX5_clause 53 = .ok (.aload_n 0, 1) := by decide +kernel
theorem dX5_clause_54 : decode cX5_clause 54 = .ok (.getfield 7, 3) := by decide +kernel
theorem dX5_clause_57 : decode cX5_clause 57 = .ok (.bipush 25, 2) := by decide +kernel
theorem dX5_clause_59 : decode cX5_clause 59 = .ok (.iload_n 1, 1) := by decide +kernel
theorem dX5_clause_60 : decode cX5_clause 60 = .ok (.iadd, 1) := by decide +kernel
theorem dX5_clause_61 : decode cX5_clause 61 = .ok (.iaload, 1) := by decide +kernel
theorem dX5_clause_62 : decode cX5_clause 62 = .ok (.ireturn, 1) := by decide +kernel
theorem dX5_clause_63 : decode cX5_clause 63 = .ok (.aload_n 0, 1) := by decide +kernel
theorem dX5_clause_64 : decode cX5_clause 64 = .ok (.getfield 7, 3) := by decide +kernel
theorem dX5_clause_67 : decode cX5_clause 67 = .ok (.bipush 49, 2) := by decide +kernel
theorem dX5_clause_69 : decode cX5_clause 69 = .ok (.iload_n 1, 1) := by decide +kernel
theorem dX5_clause_70 : decode cX5_clause 70 = .ok (.iadd, 1) := by decide +kernel
theorem dX5_clause_71 : decode cX5_clause 71 = .ok (.iaload, 1) := by decide +kernel
theorem dX5_clause_72 : decode cX5_clause 72 = .ok (.ireturn, 1) := by decide +kernel
theorem dX5_clause_73 : decode cX5_clause 73 = .ok (.aload_n 0, 1) := by decide +kernel
theorem dX5_clause_74 : decode cX5_clause 74 = .ok (.iload_n 1, 1) := by decide +kernel
theorem dX5_clause_75 : decode cX5_clause 75 = .ok (.invokevirtual 62, 3) := by decide +kernel
theorem dX5_clause_78 : decode cX5_clause 78 = .ok (.invokestatic 160, 3) := by decide +kernel
theorem dX5_clause_81 : decode cX5_clause 81 = .ok (.ireturn, 1) := by decide +kernel
theorem dX5_clause_82 : decode cX5_clause 82 = .ok (.aload_n 0, 1) := by decide +kernel
theorem dX5_clause_83 : decode cX5_clause 83 = .ok (.invokevirtual 150, 3) := by decide +kernel
theorem dX5_clause_86 : decode cX5_clause 86 = .ok (.aload_n 0, 1) := by decide +kernel
theorem dX5_clause_87 : decode cX5_clause 87 = .ok (.invokevirtual 153, 3) := by decide +kernel
theorem dX5_clause_90 : decode cX5_clause 90 = .ok (.ifCond .eq 16, 3) := by decide +kernel
theorem dX5_clause_93 : decode cX5_clause 93 = .ok (.aload_n 0, 1) := by decide +kernel
theorem dX5_clause_94 : decode cX5_clause 94 = .ok (.getfield 37, 3) := by decide +kernel
theorem dX5_clause_97 : decode cX5_clause 97 = .ok (.iload_n 1, 1) := by decide +kernel
theorem dX5_clause_98 : decode cX5_clause 98 = .ok (.baload, 1) := by decide +kernel
theorem dX5_clause_99 : decode cX5_clause 99 = .ok (.ifCond .eq 7, 3) := by decide +kernel
theorem dX5_clause_102 : decode cX5_clause 102 = .ok (.iconst 1, 1) := by decide +kernel
theorem dX5_clause_103 : decode cX5_clause 103 = .ok (.goto 4, 3) := by decide +kernel
theorem dX5_clause_106 : decode cX5_clause 106 = .ok (.iconst 0, 1) := by decide +kernel
theorem dX5_clause_107 : decode cX5_clause 107 = .ok (.ireturn, 1) := by decide +kernel
theorem dX5_clause_108 : decode cX5_clause 108 = .ok (.bipush (-2), 2) := by decide +kernel
theorem dX5_clause_110 : decode cX5_clause 110 = .ok (.ireturn, 1) := by decide +kernel
theorem dX5_lowest_0 : decode cX5_lowest 0 = .ok (.iconst 0, 1) := by decide +kernel
theorem dX5_lowest_1 : decode cX5_lowest 1 = .ok (.istore_n 2, 1) := by decide +kernel
theorem dX5_lowest_2 : decode cX5_lowest 2 = .ok (.iload_n 2, 1) := by decide +kernel
theorem dX5_lowest_3 : decode cX5_lowest 3 = .ok (.bipush 64, 2) := by decide +kernel
theorem dX5_lowest_5 : decode cX5_lowest 5 = .ok (.if_icmp .ge 21, 3) := by decide +kernel
theorem dX5_lowest_8 : decode cX5_lowest 8 = .ok (.lload_n 0, 1) := by decide +kernel
theorem dX5_lowest_9 : decode cX5_lowest 9 = .ok (.iload_n 2, 1) := by decide +kernel
theorem dX5_lowest_10 : decode cX5_lowest 10 = .ok (.lushr, 1) := by decide +kernel
theorem dX5_lowest_11 : decode cX5_lowest 11 = .ok (.lconst 1, 1) := by decide +kernel
theorem dX5_lowest_12 : decode cX5_lowest 12 = .ok (.land, 1) := by decide +kernel
theorem dX5_lowest_13 : decode cX5_lowest 13 = .ok (.lconst 1, 1) := by decide +kernel
theorem dX5_lowest_14 : decode cX5_lowest 14 = .ok (.lcmp, 1) := by decide +kernel
theorem dX5_lowest_15 : decode cX5_lowest 15 = .ok (.ifCond .ne 5, 3) := by decide +kernel
theorem dX5_lowest_18 : decode cX5_lowest 18 = .ok (.iload_n 2, 1) := by decide +kernel
theorem dX5_lowest_19 : decode cX5_lowest 19 = .ok (.ireturn, 1) := by decide +kernel
theorem dX5_lowest_20 : decode cX5_lowest 20 = .ok (.iinc 2 1, 3) := by decide +kernel
theorem dX5_lowest_23 : decode cX5_lowest 23 = .ok (.goto (-21), 3) := by decide +kernel
theorem dX5_lowest_26 : decode cX5_lowest 26 = .ok (.bipush (-5), 2) := by decide +kernel
theorem dX5_lowest_28 : decode cX5_lowest 28 = .ok (.ireturn, 1) := by decide +kernel
set_option maxRecDepth 20000 in
theorem ggX5_side_X5_in : GoodIn wsX5_side wsX5_in := goodIn_r _ [4] (by decide +kernel) (by decide +kernel)
set_option maxRecDepth 20000 in
theorem gX5_side_X5_in : GoodIn wsX5_side (va_wsS RX5 48 yX5_in wsX5_in) := goodIn_app (goodIn_of _ (by decide +kernel)) ggX5_side_X5_in
set_option maxRecDepth 20000 in
theorem ggX5_side_X5_clausesOf : GoodIn wsX5_side wsX5_clausesOf := goodIn_r _ [8, 9, 32, 33, 34, 35, 36, 37, 38, 39, 40, 41, 42, 43, 44, 45, 46, 47, 48, 49, 50, 51, 52, 53] (by decide +kernel) (by decide +kernel)
set_option maxRecDepth 20000 in
theorem gX5_side_X5_clausesOf : GoodIn wsX5_side (wsV RX5 147 RX5 yX5_clausesOf wsX5_clausesOf) := goodIn_app (goodIn_of _ (by decide +kernel)) ggX5_side_X5_clausesOf
set_option maxRecDepth 20000 in
theorem ggX5_side_X5_knownTo : GoodIn wsX5_side wsX5_knownTo := goodIn_r _ [13, 9, 32, 33, 34, 35, 36, 37, 38, 39, 40, 41, 42, 43, 44, 45, 46, 47, 48, 49, 50, 51, 52, 53] (by decide +kernel) (by decide +kernel)
set_option maxRecDepth 20000 in
theorem gX5_side_X5_knownTo : GoodIn wsX5_side (wsV RX5 66 RX5 yX5_knownTo wsX5_knownTo) := goodIn_app (goodIn_of _ (by decide +kernel)) ggX5_side_X5_knownTo
set_option maxRecDepth 20000 in
theorem ggX5_side_X5_worldsOfSide : GoodIn wsX5_side wsX5_worldsOfSide := goodIn_r _ [17, 18, 9, 19, 20, 21, 3, 22, 23, 24, 25, 32, 33, 34, 35, 36, 37, 38, 39, 40, 41, 42, 43, 44, 45, 46, 47, 48, 49, 50, 51, 52, 53] (by decide +kernel) (by decide +kernel)
set_option maxRecDepth 20000 in
theorem gX5_side_X5_worldsOfSide : GoodIn wsX5_side (wsV RX5 70 RX5 yX5_worldsOfSide wsX5_worldsOfSide) := goodIn_app (goodIn_of _ (by decide +kernel)) ggX5_side_X5_worldsOfSide
set_option maxRecDepth 20000 in
theorem ggX5_side_X5_bitsOf : GoodIn wsX5_side wsX5_bitsOf := goodIn_r _ [28] (by decide +kernel) (by decide +kernel)
set_option maxRecDepth 20000 in
theorem gX5_side_X5_bitsOf : GoodIn wsX5_side (va_wsS RX5 160 yX5_bitsOf wsX5_bitsOf) := goodIn_app (goodIn_of _ (by decide +kernel)) ggX5_side_X5_bitsOf
set_option maxRecDepth 20000 in
theorem ggX5_side_X5_lowest : GoodIn wsX5_side wsX5_lowest := goodIn_r _ [31] (by decide +kernel) (by decide +kernel)
set_option maxRecDepth 20000 in
theorem gX5_side_X5_lowest : GoodIn wsX5_side (va_wsS RX5 164 yX5_lowest wsX5_lowest) := goodIn_app (goodIn_of _ (by decide +kernel)) ggX5_side_X5_lowest
theorem dX5_side_0 : decode cX5_side 0 = .ok (.iload_n 1, 1) := by decide +kernel
theorem dX5_side_1 : decode cX5_side 1 = .ok (.iconst 0, 1) := by decide +kernel
theorem dX5_side_2 : decode cX5_side 2 = .ok (.iconst 1, 1) := by decide +kernel
theorem dX5_side_3 : decode cX5_side 3 = .ok (.invokestatic 48, 3) := by decide +kernel
theorem dX5_side_6 : decode cX5_side 6 = .ok (.ifCond .ne 5, 3) := by decide +kernel
theorem dX5_side_9 : decode cX5_side 9 = .ok (.iconst (-1), 1) := by decide +kernel
theorem dX5_side_10 : decode cX5_side 10 = .ok (.ireturn, 1) := by decide +kernel
theorem dX5_side_11 : decode cX5_side 11 = .ok (.iload_n 2, 1) := by decide +kernel
theorem dX5_side_12 : decode cX5_side 12 = .ok (.tableswitch 62 0 3 #[32, 38, 44, 53], 32) := by decide +kernel
theorem dX5_side_44 : decode cX5_side 44 = .ok (.aload_n 0, 1) := by decide +kernel
theorem dX5_side_45 : decode cX5_side 45 = .ok (.iload_n 1, 1) := by decide +kernel
theorem dX5_side_46 : decode cX5_side 46 = .ok (.invokevirtual 147, 3) := by decide +kernel
theorem dX5_side_49 : decode cX5_side 49 = .ok (.ireturn, 1) := by decide +kernel
theorem dX5_side_50 : decode cX5_side 50 = .ok (.aload_n 0, 1) := by decide +kernel
theorem dX5_side_51 : decode cX5_side 51 = .ok (.iload_n 1, 1) := by decide +kernel
theorem dX5_side_52 : decode cX5_side 52 = .ok (.invokevirtual 66, 3) := by decide +kernel
theorem dX5_side_55 : decode cX5_side 55 = .ok (.ireturn, 1) := by decide +kernel
theorem dX5_side_56 : decode cX5_side 56 = .ok (.aload_n 0, 1) := by decide +kernel
theorem dX5_side_57 : decode cX5_side 57 = .ok (.iload_n 1, 1) := by decide +kernel
theorem dX5_side_58 : decode cX5_side 58 = .ok (.invokevirtual 70, 3) := by decide +kernel
theorem dX5_side_61 : decode cX5_side 61 = .ok (.invokestatic 160, 3) := by decide +kernel
theorem dX5_side_64 : decode cX5_side 64 = .ok (.ireturn, 1) := by decide +kernel
theorem dX5_side_65 : decode cX5_side 65 = .ok (.aload_n 0, 1) := by decide +kernel
theorem dX5_side_66 : decode cX5_side 66 = .ok (.iload_n 1, 1) := by decide +kernel
theorem dX5_side_67 : decode cX5_side 67 = .ok (.invokevirtual 70, 3) := by decide +kernel
theorem dX5_side_70 : decode cX5_side 70 = .ok (.invokestatic 164, 3) := by decide +kernel
theorem dX5_side_73 : decode cX5_side 73 = .ok (.ireturn, 1) := by decide +kernel
theorem dX5_side_74 : decode cX5_side 74 = .ok (.bipush (-2), 2) := by decide +kernel
theorem dX5_side_76 : decode cX5_side 76 = .ok (.ireturn, 1) := by decide +kernel
set_option maxRecDepth 20000 in
theorem ggX5_step_X5_prove : GoodIn wsX5_step wsX5_prove := goodIn_r _ [13, 14, 2, 15, 1, 16, 3, 4, 8, 5, 6, 17, 18, 19, 12, 20, 7, 21, 22, 23, 27, 28, 29, 30, 31, 32, 33, 34, 35, 36, 37, 38, 39, 40, 41, 42, 43, 44, 45, 46, 47, 48] (by decide +kernel) (by decide +kernel)
set_option maxRecDepth 20000 in
theorem gX5_step_X5_prove : GoodIn wsX5_step (wsV RX5 150 RX5 yX5_prove wsX5_prove) := goodIn_app (goodIn_of _ (by decide +kernel)) ggX5_step_X5_prove
set_option maxRecDepth 20000 in
theorem ggX5_step_X5_in : GoodIn wsX5_step wsX5_in := goodIn_r _ [26] (by decide +kernel) (by decide +kernel)
set_option maxRecDepth 20000 in
theorem gX5_step_X5_in : GoodIn wsX5_step (va_wsS RX5 48 yX5_in wsX5_in) := goodIn_app (goodIn_of _ (by decide +kernel)) ggX5_step_X5_in
theorem dX5_step_0 : decode cX5_step 0 = .ok (.aload_n 0, 1) := by decide +kernel
theorem dX5_step_1 : decode cX5_step 1 = .ok (.invokevirtual 150, 3) := by decide +kernel
theorem dX5_step_4 : decode cX5_step 4 = .ok (.aload_n 0, 1) := by decide +kernel
theorem dX5_step_5 : decode cX5_step 5 = .ok (.getfield 83, 3) := by decide +kernel
theorem dX5_step_8 : decode cX5_step 8 = .ok (.ifCond .ne 6, 3) := by decide +kernel
theorem dX5_step_11 : decode cX5_step 11 = .ok (.bipush (-4), 2) := by decide +kernel
theorem dX5_step_13 : decode cX5_step 13 = .ok (.ireturn, 1) := by decide +kernel
theorem dX5_step_14 : decode cX5_step 14 = .ok (.iload_n 1, 1) := by decide +kernel
theorem dX5_step_15 : decode cX5_step 15 = .ok (.iconst 0, 1) := by decide +kernel
theorem dX5_step_16 : decode cX5_step 16 = .ok (.aload_n 0, 1) := by decide +kernel
theorem dX5_step_17 : decode cX5_step 17 = .ok (.getfield 77, 3) := by decide +kernel
theorem dX5_step_20 : decode cX5_step 20 = .ok (.iconst 1, 1) := by decide +kernel
theorem dX5_step_21 : decode cX5_step 21 = .ok (.isub, 1) := by decide +kernel
theorem dX5_step_22 : decode cX5_step 22 = .ok (.invokestatic 48, 3) := by decide +kernel
theorem dX5_step_25 : decode cX5_step 25 = .ok (.ifCond .ne 5, 3) := by decide +kernel
theorem dX5_step_28 : decode cX5_step 28 = .ok (.iconst (-1), 1) := by decide +kernel
theorem dX5_step_29 : decode cX5_step 29 = .ok (.ireturn, 1) := by decide +kernel
theorem dX5_step_30 : decode cX5_step 30 = .ok (.iload_n 2, 1) := by decide +kernel
theorem dX5_step_31 : decode cX5_step 31 = .ok (.tableswitch 87 0 5 #[37, 44, 51, 58, 65, 72], 37) := by decide +kernel
theorem dX5_step_68 : decode cX5_step 68 = .ok (.aload_n 0, 1) := by decide +kernel
theorem dX5_step_69 : decode cX5_step 69 = .ok (.getfield 22, 3) := by decide +kernel
theorem dX5_step_72 : decode cX5_step 72 = .ok (.iload_n 1, 1) := by decide +kernel
theorem dX5_step_73 : decode cX5_step 73 = .ok (.iaload, 1) := by decide +kernel
theorem dX5_step_74 : decode cX5_step 74 = .ok (.ireturn, 1) := by decide +kernel
theorem dX5_step_75 : decode cX5_step 75 = .ok (.aload_n 0, 1) := by decide +kernel
theorem dX5_step_76 : decode cX5_step 76 = .ok (.getfield 25, 3) := by decide +kernel
theorem dX5_step_79 : decode cX5_step 79 = .ok (.iload_n 1, 1) := by decide +kernel
theorem dX5_step_80 : decode cX5_step 80 = .ok (.iaload, 1) := by decide +kernel
theorem dX5_step_81 : decode cX5_step 81 = .ok (.ireturn, 1) := by decide +kernel
theorem dX5_step_82 : decode cX5_step 82 = .ok (.aload_n 0, 1) := by decide +kernel
theorem dX5_step_83 : decode cX5_step 83 = .ok (.getfield 28, 3) := by decide +kernel
theorem dX5_step_86 : decode cX5_step 86 = .ok (.iload_n 1, 1) := by decide +kernel
theorem dX5_step_87 : decode cX5_step 87 = .ok (.iaload, 1) := by decide +kernel
theorem dX5_step_88 : decode cX5_step 88 = .ok (.ireturn, 1) := by decide +kernel
theorem dX5_step_89 : decode cX5_step 89 = .ok (.aload_n 0, 1) := by decide +kernel
theorem dX5_step_90 : decode cX5_step 90 = .ok (.getfield 31, 3) := by decide +kernel
theorem dX5_step_93 : decode cX5_step 93 = .ok (.iload_n 1, 1) := by decide +kernel
theorem dX5_step_94 : decode cX5_step 94 = .ok (.iaload, 1) := by decide +kernel
theorem dX5_step_95 : decode cX5_step 95 = .ok (.ireturn, 1) := by decide +kernel
theorem dX5_step_96 : decode cX5_step 96 = .ok (.aload_n 0, 1) := by decide +kernel
theorem dX5_step_97 : decode cX5_step 97 = .ok (.getfield 34, 3) := by decide +kernel
theorem dX5_step_100 : decode cX5_step 100 = .ok (.iload_n 1, 1) := by decide +kernel
theorem dX5_step_101 : decode cX5_step 101 = .ok (.iaload, 1) := by decide +kernel
theorem dX5_step_102 : decode cX5_step 102 = .ok (.ireturn, 1) := by decide +kernel
theorem dX5_step_103 : decode cX5_step 103 = .ok (.aload_n 0, 1) := by decide +kernel
theorem dX5_step_104 : decode cX5_step 104 = .ok (.getfield 37, 3) := by decide +kernel
theorem dX5_step_107 : decode cX5_step 107 = .ok (.iload_n 1, 1) := by decide +kernel
theorem dX5_step_108 : decode cX5_step 108 = .ok (.baload, 1) := by decide +kernel
theorem dX5_step_109 : decode cX5_step 109 = .ok (.ifCond .eq 7, 3) := by decide +kernel
theorem dX5_step_112 : decode cX5_step 112 = .ok (.iconst 1, 1) := by decide +kernel
theorem dX5_step_113 : decode cX5_step 113 = .ok (.goto 4, 3) := by decide +kernel
theorem dX5_step_116 : decode cX5_step 116 = .ok (.iconst 0, 1) := by decide +kernel
theorem dX5_step_117 : decode cX5_step 117 = .ok (.ireturn, 1) := by decide +kernel
theorem dX5_step_118 : decode cX5_step 118 = .ok (.bipush (-2), 2) := by decide +kernel
theorem dX5_step_120 : decode cX5_step 120 = .ok (.ireturn, 1) := by decide +kernel
set_option maxRecDepth 20000 in
theorem ggX5_partial_X5_prove : GoodIn wsX5_partial wsX5_prove := goodIn_r _ [7, 8, 1, 9, 10, 11, 12, 13, 14, 15, 16, 17, 18, 19, 6, 20, 21, 22, 23, 24, 47, 48, 49, 50, 51, 52, 53, 54, 55, 56, 57, 58, 59, 60, 61, 62, 63, 64, 65, 66, 67, 68] (by decide +kernel) (by decide +kernel)
set_option maxRecDepth 20000 in
theorem gX5_partial_X5_prove : GoodIn wsX5_partial (wsV RX5 150 RX5 yX5_prove wsX5_prove) := goodIn_app (goodIn_of _ (by decide +kernel)) ggX5_partial_X5_prove
set_option maxRecDepth 20000 in
theorem ggX5_partial_X5_isProved : GoodIn wsX5_partial wsX5_isProved := goodIn_r _ [28, 10, 9, 47, 48, 49, 50, 51, 52, 53, 54, 55, 56, 57, 58, 59, 60, 61, 62, 63, 64, 65, 66, 67, 68] (by decide +kernel) (by decide +kernel)
set_option maxRecDepth 20000 in
theorem gX5_partial_X5_isProved : GoodIn wsX5_partial (wsV RX5 153 RX5 yX5_isProved wsX5_isProved) := goodIn_app (goodIn_of _ (by decide +kernel)) ggX5_partial_X5_isProved
set_option maxRecDepth 20000 in
theorem ggX5_partial_X5_in : GoodIn wsX5_partial wsX5_in := goodIn_r _ [31] (by decide +kernel) (by decide +kernel)
set_option maxRecDepth 20000 in
theorem gX5_partial_X5_in : GoodIn wsX5_partial (va_wsS RX5 48 yX5_in wsX5_in) := goodIn_app (goodIn_of _ (by decide +kernel)) ggX5_partial_X5_in
set_option maxRecDepth 20000 in
theorem ggX5_partial_X5_claim : GoodIn wsX5_partial wsX5_claim := goodIn_r _ [35, 1, 11, 2, 36, 12, 13, 21, 15, 16, 37, 38, 39, 6, 40, 41, 42, 43, 44, 45, 46, 47, 48, 49, 50, 51, 52, 53, 54, 55, 56, 57, 58, 59, 60, 61, 62, 63, 64, 65, 66, 67, 68] (by decide +kernel) (by decide +kernel)
set_option maxRecDepth 20000 in
theorem gX5_partial_X5_claim : GoodIn wsX5_partial (wsV RX5 97 RX5 yX5_claim wsX5_claim) := goodIn_app (goodIn_of _ (by decide +kernel)) ggX5_partial_X5_claim
theorem dX5_partial_0 : decode cX5_partial 0 = .ok (.aload_n 0, 1) := by decide +kernel
theorem dX5_partial_1 : decode cX5_partial 1 = .ok (.invokevirtual 150, 3) := by decide +kernel
theorem dX5_partial_4 : decode cX5_partial 4 = .ok (.aload_n 0, 1) := by decide +kernel
theorem dX5_partial_5 : decode cX5_partial 5 = .ok (.invokevirtual 153, 3) := by decide +kernel
theorem dX5_partial_8 : decode cX5_partial 8 = .ok (.ifCond .ne 6, 3) := by decide +kernel
theorem dX5_partial_11 : decode cX5_partial 11 = .ok (.bipush (-4), 2) := by decide +kernel
theorem dX5_partial_13 : decode cX5_partial 13 = .ok (.ireturn, 1) := by decide +kernel
theorem dX5_partial_14 : decode cX5_partial 14 = .ok (.iload_n 1, 1) := by decide +kernel
theorem dX5_partial_15 : decode cX5_partial 15 = .ok (.iconst 0, 1) := by decide +kernel
theorem dX5_partial_16 : decode cX5_partial 16 = .ok (.aload_n 0, 1) := by decide +kernel
theorem dX5_partial_17 : decode cX5_partial 17 = .ok (.getfield 77, 3) := by decide +kernel
theorem dX5_partial_20 : decode cX5_partial 20 = .ok (.iconst 1, 1) := by decide +kernel
theorem dX5_partial_21 : decode cX5_partial 21 = .ok (.isub, 1) := by decide +kernel
theorem dX5_partial_22 : decode cX5_partial 22 = .ok (.invokestatic 48, 3) := by decide +kernel
theorem dX5_partial_25 : decode cX5_partial 25 = .ok (.ifCond .ne 5, 3) := by decide +kernel
theorem dX5_partial_28 : decode cX5_partial 28 = .ok (.iconst (-1), 1) := by decide +kernel
theorem dX5_partial_29 : decode cX5_partial 29 = .ok (.ireturn, 1) := by decide +kernel
theorem dX5_partial_30 : decode cX5_partial 30 = .ok (.iload_n 2, 1) := by decide +kernel
theorem dX5_partial_31 : decode cX5_partial 31 = .ok (.iconst 0, 1) := by decide +kernel
theorem dX5_partial_32 : decode cX5_partial 32 = .ok (.iconst 1, 1) := by decide +kernel
theorem dX5_partial_33 : decode cX5_partial 33 = .ok (.invokestatic 48, 3) := by decide +kernel
theorem dX5_partial_36 : decode cX5_partial 36 = .ok (.ifCond .eq 13, 3) := by decide +kernel
theorem dX5_partial_39 : decode cX5_partial 39 = .ok (.iload_n 3, 1) := by decide +kernel
theorem dX5_partial_40 : decode cX5_partial 40 = .ok (.iconst 0, 1) := by decide +kernel
theorem dX5_partial_41 : decode cX5_partial 41 = .ok (.bipush 63, 2) := by decide +kernel
theorem dX5_partial_43 : decode cX5_partial 43 = .ok (.invokestatic 48, 3) := by decide +kernel
theorem dX5_partial_46 : decode cX5_partial 46 = .ok (.ifCond .ne 6, 3) := by decide +kernel
theorem dX5_partial_49 : decode cX5_partial 49 = .ok (.bipush (-2), 2) := by decide +kernel
theorem dX5_partial_51 : decode cX5_partial 51 = .ok (.ireturn, 1) := by decide +kernel
theorem dX5_partial_52 : decode cX5_partial 52 = .ok (.aload_n 0, 1) := by decide +kernel
theorem dX5_partial_53 : decode cX5_partial 53 = .ok (.iload_n 2, 1) := by decide +kernel
theorem dX5_partial_54 : decode cX5_partial 54 = .ok (.invokevirtual 97, 3) := by decide +kernel
theorem dX5_partial_57 : decode cX5_partial 57 = .ok (.aload_n 0, 1) := by decide +kernel
theorem dX5_partial_58 : decode cX5_partial 58 = .ok (.getfield 44, 3) := by decide +kernel
theorem dX5_partial_61 : decode cX5_partial 61 = .ok (.iload_n 1, 1) := by decide +kernel
theorem dX5_partial_62 : decode cX5_partial 62 = .ok (.laload, 1) := by decide +kernel
theorem dX5_partial_63 : decode cX5_partial 63 = .ok (.iload_n 3, 1) := by decide +kernel
theorem dX5_partial_64 : decode cX5_partial 64 = .ok (.lushr, 1) := by decide +kernel
theorem dX5_partial_65 : decode cX5_partial 65 = .ok (.lconst 1, 1) := by decide +kernel
theorem dX5_partial_66 : decode cX5_partial 66 = .ok (.land, 1) := by decide +kernel
theorem dX5_partial_67 : decode cX5_partial 67 = .ok (.l2i, 1) := by decide +kernel
theorem dX5_partial_68 : decode cX5_partial 68 = .ok (.ireturn, 1) := by decide +kernel
theorem dX5_half_0 : decode cX5_half 0 = .ok (.iload_n 2, 1) := by decide +kernel
theorem dX5_half_1 : decode cX5_half 1 = .ok (.ifCond .ne 7, 3) := by decide +kernel
theorem dX5_half_4 : decode cX5_half 4 = .ok (.lload_n 0, 1) := by decide +kernel
theorem dX5_half_5 : decode cX5_half 5 = .ok (.goto 7, 3) := by decide +kernel
theorem dX5_half_8 : decode cX5_half 8 = .ok (.lload_n 0, 1) := by decide +kernel
theorem dX5_half_9 : decode cX5_half 9 = .ok (.bipush 32, 2) := by decide +kernel
theorem dX5_half_11 : decode cX5_half 11 = .ok (.lushr, 1) := by decide +kernel
theorem dX5_half_12 : decode cX5_half 12 = .ok (.l2i, 1) := by decide +kernel
theorem dX5_half_13 : decode cX5_half 13 = .ok (.ireturn, 1) := by decide +kernel
set_option maxRecDepth 20000 in
theorem ggX5_middle_X5_prove : GoodIn wsX5_middle wsX5_prove := goodIn_r _ [5, 6, 7, 8, 9, 10, 11, 12, 13, 14, 15, 16, 17, 18, 4, 19, 20, 21, 22, 23, 54, 55, 56, 57, 58, 59, 60, 61, 62, 63, 64, 65, 66, 67, 68, 69, 70, 71, 72, 73, 74, 75] (by decide +kernel) (by decide +kernel)
set_option maxRecDepth 20000 in
theorem gX5_middle_X5_prove : GoodIn wsX5_middle (wsV RX5 150 RX5 yX5_prove wsX5_prove) := goodIn_app (goodIn_of _ (by decide +kernel)) ggX5_middle_X5_prove
set_option maxRecDepth 20000 in
theorem ggX5_middle_X5_in : GoodIn wsX5_middle wsX5_in := goodIn_r _ [26] (by decide +kernel) (by decide +kernel)
set_option maxRecDepth 20000 in
theorem gX5_middle_X5_in : GoodIn wsX5_middle (va_wsS RX5 48 yX5_in wsX5_in) := goodIn_app (goodIn_of _ (by decide +kernel)) ggX5_middle_X5_in
set_option maxRecDepth 20000 in
theorem ggX5_middle_X5_isProved : GoodIn wsX5_middle wsX5_isProved := goodIn_r _ [30, 9, 8, 54, 55, 56, 57, 58, 59, 60, 61, 62, 63, 64, 65, 66, 67, 68, 69, 70, 71, 72, 73, 74, 75] (by decide +kernel) (by decide +kernel)
set_option maxRecDepth 20000 in
theorem gX5_middle_X5_isProved : GoodIn wsX5_middle (wsV RX5 153 RX5 yX5_isProved wsX5_isProved) := goodIn_app (goodIn_of _ (by decide +kernel)) ggX5_middle_X5_isProved
set_option maxRecDepth 20000 in
theorem ggX5_middle_X5_middleOf : GoodIn wsX5_middle wsX5_middleOf := goodIn_r _ [34, 35, 8, 36, 37, 38, 4, 39, 7, 10, 40, 11, 12, 20, 14, 15, 41, 42, 43, 44, 45, 46, 47, 48, 49, 50, 54, 55, 56, 57, 58, 59, 60, 61, 62, 63, 64, 65, 66, 67, 68, 69, 70, 71, 72, 73, 74, 75] (by decide +kernel) (by decide +kernel)
set_option maxRecDepth 20000 in
theorem gX5_middle_X5_middleOf : GoodIn wsX5_middle (wsV RX5 167 RX5 yX5_middleOf wsX5_middleOf) := goodIn_app (goodIn_of _ (by decide +kernel)) ggX5_middle_X5_middleOf
set_option maxRecDepth 20000 in
theorem ggX5_middle_X5_half : GoodIn wsX5_middle wsX5_half := goodIn_r _ [53] (by decide +kernel) (by decide +kernel)
set_option maxRecDepth 20000 in
theorem gX5_middle_X5_half : GoodIn wsX5_middle (va_wsS RX5 170 yX5_half wsX5_half) := goodIn_app (goodIn_of _ (by decide +kernel)) ggX5_middle_X5_half
theorem dX5_middle_0 : decode cX5_middle 0 = .ok (.aload_n 0, 1) := by decide +kernel
theorem dX5_middle_1 : decode cX5_middle 1 = .ok (.invokevirtual 150, 3) := by decide +kernel
theorem dX5_middle_4 : decode cX5_middle 4 = .ok (.iload_n 1, 1) := by decide +kernel
theorem dX5_middle_5 : decode cX5_middle 5 = .ok (.iconst 0, 1) := by decide +kernel
theorem dX5_middle_6 : decode cX5_middle 6 = .ok (.iconst 1, 1) := by decide +kernel
theorem dX5_middle_7 : decode cX5_middle 7 = .ok (.invokestatic 48, 3) := by decide +kernel
theorem dX5_middle_10 : decode cX5_middle 10 = .ok (.ifCond .eq 31, 3) := by decide +kernel
theorem dX5_middle_13 : decode cX5_middle 13 = .ok (.iload_n 2, 1) := by decide +kernel
theorem dX5_middle_14 : decode cX5_middle 14 = .ok (.iconst 0, 1) := by decide +kernel
theorem dX5_middle_15 : decode cX5_middle 15 = .ok (.iconst 1, 1) := by decide +kernel
theorem dX5_middle_16 : decode cX5_middle 16 = .ok (.invokestatic 48, 3) := by decide +kernel
theorem dX5_middle_19 : decode cX5_middle 19 = .ok (.ifCond .eq 22, 3) := by decide +kernel
theorem dX5_middle_22 : decode cX5_middle 22 = .ok (.aload_n 0, 1) := by decide +kernel
theorem dX5_middle_23 : decode cX5_middle 23 = .ok (.invokevirtual 153, 3) := by decide +kernel
theorem dX5_middle_26 : decode cX5_middle 26 = .ok (.ifCond .eq 15, 3) := by decide +kernel
theorem dX5_middle_29 : decode cX5_middle 29 = .ok (.aload_n 0, 1) := by decide +kernel
theorem dX5_middle_30 : decode cX5_middle 30 = .ok (.iload_n 1, 1) := by decide +kernel
theorem dX5_middle_31 : decode cX5_middle 31 = .ok (.invokevirtual 167, 3) := by decide +kernel
theorem dX5_middle_34 : decode cX5_middle 34 = .ok (.iload_n 2, 1) := by decide +kernel
theorem dX5_middle_35 : decode cX5_middle 35 = .ok (.invokestatic 170, 3) := by decide +kernel
theorem dX5_middle_38 : decode cX5_middle 38 = .ok (.goto 4, 3) := by decide +kernel
theorem dX5_middle_41 : decode cX5_middle 41 = .ok (.iconst 0, 1) := by decide +kernel
theorem dX5_middle_42 : decode cX5_middle 42 = .ok (.ireturn, 1) := by decide +kernel
set_option maxRecDepth 20000 in
theorem ggX5_outermost_X5_in : GoodIn wsX5_outermost wsX5_in := goodIn_r _ [5] (by decide +kernel) (by decide +kernel)
set_option maxRecDepth 20000 in
theorem gX5_outermost_X5_in : GoodIn wsX5_outermost (va_wsS RX5 48 yX5_in wsX5_in) := goodIn_app (goodIn_of _ (by decide +kernel)) ggX5_outermost_X5_in
set_option maxRecDepth 20000 in
theorem ggX5_outermost_X5_clash : GoodIn wsX5_outermost wsX5_clash := goodIn_r _ [9, 10, 11, 12, 4, 13, 1, 14, 15, 16, 17, 18, 19, 20, 21, 37, 38, 39, 40, 41, 42, 43, 44, 45, 46, 47, 48, 49, 50, 51, 52, 53, 54, 55, 56, 57, 58] (by decide +kernel) (by decide +kernel)
set_option maxRecDepth 20000 in
theorem gX5_outermost_X5_clash : GoodIn wsX5_outermost (wsV RX5 174 RX5 yX5_clash wsX5_clash) := goodIn_app (goodIn_of _ (by decide +kernel)) ggX5_outermost_X5_clash
set_option maxRecDepth 20000 in
theorem ggX5_outermost_X5_worldsOfSide : GoodIn wsX5_outermost wsX5_worldsOfSide := goodIn_r _ [13, 1, 14, 15, 16, 17, 4, 18, 19, 20, 21, 37, 38, 39, 40, 41, 42, 43, 44, 45, 46, 47, 48, 49, 50, 51, 52, 53, 54, 55, 56, 57, 58] (by decide +kernel) (by decide +kernel)
set_option maxRecDepth 20000 in
theorem gX5_outermost_X5_worldsOfSide : GoodIn wsX5_outermost (wsV RX5 70 RX5 yX5_worldsOfSide wsX5_worldsOfSide) := goodIn_app (goodIn_of _ (by decide +kernel)) ggX5_outermost_X5_worldsOfSide
set_option maxRecDepth 20000 in
theorem ggX5_outermost_X5_spread : GoodIn wsX5_outermost wsX5_spread := goodIn_r _ [25, 26, 27, 28, 4, 29, 30, 31, 32, 33, 14, 37, 38, 39, 40, 41, 42, 43, 44, 45, 46, 47, 48, 49, 50, 51, 52, 53, 54, 55, 56, 57, 58] (by decide +kernel) (by decide +kernel)
set_option maxRecDepth 20000 in
theorem gX5_outermost_X5_spread : GoodIn wsX5_outermost (wsV RX5 177 RX5 yX5_spread wsX5_spread) := goodIn_app (goodIn_of _ (by decide +kernel)) ggX5_outermost_X5_spread
set_option maxRecDepth 20000 in
theorem ggX5_outermost_X5_half : GoodIn wsX5_outermost wsX5_half := goodIn_r _ [36] (by decide +kernel) (by decide +kernel)
set_option maxRecDepth 20000 in
theorem gX5_outermost_X5_half : GoodIn wsX5_outermost (va_wsS RX5 170 yX5_half wsX5_half) := goodIn_app (goodIn_of _ (by decide +kernel)) ggX5_outermost_X5_half
theorem dX5_outermost_0 : decode cX5_outermost 0 = .ok (.iload_n 2, 1) := by decide +kernel
theorem dX5_outermost_1 : decode cX5_outermost 1 = .ok (.iconst 0, 1) := by decide +kernel
theorem dX5_outermost_2 : decode cX5_outermost 2 = .ok (.iconst 1, 1) := by decide +kernel
theorem dX5_outermost_3 : decode cX5_outermost 3 = .ok (.invokestatic 48, 3) := by decide +kernel
theorem dX5_outermost_6 : decode cX5_outermost 6 = .ok (.ifCond .eq 10, 3) := by decide +kernel
theorem dX5_outermost_9 : decode cX5_outermost 9 = .ok (.aload_n 0, 1) := by decide +kernel
theorem dX5_outermost_10 : decode cX5_outermost 10 = .ok (.invokevirtual 174, 3) := by decide +kernel
theorem dX5_outermost_13 : decode cX5_outermost 13 = .ok (.ifCond .ne 5, 3) := by decide +kernel
theorem dX5_outermost_16 : decode cX5_outermost 16 = .ok (.iconst 0, 1) := by decide +kernel
theorem dX5_outermost_17 : decode cX5_outermost 17 = .ok (.ireturn, 1) := by decide +kernel
theorem dX5_outermost_18 : decode cX5_outermost 18 = .ok (.iload_n 1, 1) := by decide +kernel
theorem dX5_outermost_19 : decode cX5_outermost 19 = .ok (.ifCond .eq 19, 3) := by decide +kernel
theorem dX5_outermost_22 : decode cX5_outermost 22 = .ok (.aload_n 0, 1) := by decide +kernel
theorem dX5_outermost_23 : decode cX5_outermost 23 = .ok (.aload_n 0, 1) := by decide +kernel
theorem dX5_outermost_24 : decode cX5_outermost 24 = .ok (.iconst 1, 1) := by decide +kernel
theorem dX5_outermost_25 : decode cX5_outermost 25 = .ok (.invokevirtual 70, 3) := by decide +kernel
theorem dX5_outermost_28 : decode cX5_outermost 28 = .ok (.invokevirtual 177, 3) := by decide +kernel
theorem dX5_outermost_31 : decode cX5_outermost 31 = .ok (.ldc2_w 60, 3) := by decide +kernel
theorem dX5_outermost_34 : decode cX5_outermost 34 = .ok (.lxor, 1) := by decide +kernel
theorem dX5_outermost_35 : decode cX5_outermost 35 = .ok (.goto 12, 3) := by decide +kernel
theorem dX5_outermost_38 : decode cX5_outermost 38 = .ok (.aload_n 0, 1) := by decide +kernel
theorem dX5_outermost_39 : decode cX5_outermost 39 = .ok (.aload_n 0, 1) := by decide +kernel
theorem dX5_outermost_40 : decode cX5_outermost 40 = .ok (.iconst 0, 1) := by decide +kernel
theorem dX5_outermost_41 : decode cX5_outermost 41 = .ok (.invokevirtual 70, 3) := by decide +kernel
theorem dX5_outermost_44 : decode cX5_outermost 44 = .ok (.invokevirtual 177, 3) := by decide +kernel
theorem dX5_outermost_47 : decode cX5_outermost 47 = .ok (.iload_n 2, 1) := by decide +kernel
theorem dX5_outermost_48 : decode cX5_outermost 48 = .ok (.invokestatic 170, 3) := by decide +kernel
theorem dX5_outermost_51 : decode cX5_outermost 51 = .ok (.ireturn, 1) := by decide +kernel
set_option maxRecDepth 20000 in
theorem ggX5_test_X5_worldsOfSide : GoodIn wsX5_test wsX5_worldsOfSide := goodIn_r _ [7, 2, 8, 9, 10, 11, 6, 12, 13, 14, 15, 28, 29, 30, 31, 32, 33, 34, 35, 36, 37, 38, 39, 40, 41, 42, 43, 44, 45, 46, 47, 48, 49] (by decide +kernel) (by decide +kernel)
set_option maxRecDepth 20000 in
theorem gX5_test_X5_worldsOfSide : GoodIn wsX5_test (wsV RX5 70 RX5 yX5_worldsOfSide wsX5_worldsOfSide) := goodIn_app (goodIn_of _ (by decide +kernel)) ggX5_test_X5_worldsOfSide
set_option maxRecDepth 20000 in
theorem ggX5_test_X5_spread : GoodIn wsX5_test wsX5_spread := goodIn_r _ [19, 20, 21, 22, 6, 23, 24, 25, 26, 27, 8, 28, 29, 30, 31, 32, 33, 34, 35, 36, 37, 38, 39, 40, 41, 42, 43, 44, 45, 46, 47, 48, 49] (by decide +kernel) (by decide +kernel)
set_option maxRecDepth 20000 in
theorem gX5_test_X5_spread : GoodIn wsX5_test (wsV RX5 177 RX5 yX5_spread wsX5_spread) := goodIn_app (goodIn_of _ (by decide +kernel)) ggX5_test_X5_spread
theorem dX5_test_0 : decode cX5_test 0 = .ok (.iload_n 2, 1) := by decide +kernel
theorem dX5_test_1 : decode cX5_test 1 = .ok (.i2l, 1) := by decide +kernel
theorem dX5_test_2 : decode cX5_test 2 = .ok (.bipush 32, 2) := by decide +kernel
theorem dX5_test_4 : decode cX5_test 4 = .ok (.lshl, 1) := by decide +kernel
theorem dX5_test_5 : decode cX5_test 5 = .ok (.iload_n 1, 1) := by decide +kernel
theorem dX5_test_6 : decode cX5_test 6 = .ok (.i2l, 1) := by decide +kernel
theorem dX5_test_7 : decode cX5_test 7 = .ok (.ldc2_w 181, 3) := by decide +kernel
theorem dX5_test_10 : decode cX5_test 10 = .ok (.land, 1) := by decide +kernel
theorem dX5_test_11 : decode cX5_test 11 = .ok (.lor, 1) := by decide +kernel
theorem dX5_test_12 : decode cX5_test 12 = .ok (.lstore_n 3, 1) := by decide +kernel
theorem dX5_test_13 : decode cX5_test 13 = .ok (.aload_n 0, 1) := by decide +kernel
theorem dX5_test_14 : decode cX5_test 14 = .ok (.iconst 0, 1) := by decide +kernel
theorem dX5_test_15 : decode cX5_test 15 = .ok (.invokevirtual 70, 3) := by decide +kernel
theorem dX5_test_18 : decode cX5_test 18 = .ok (.lload_n 3, 1) := by decide +kernel
theorem dX5_test_19 : decode cX5_test 19 = .ok (.ldc2_w 60, 3) := by decide +kernel
theorem dX5_test_22 : decode cX5_test 22 = .ok (.lxor, 1) := by decide +kernel
theorem dX5_test_23 : decode cX5_test 23 = .ok (.land, 1) := by decide +kernel
theorem dX5_test_24 : decode cX5_test 24 = .ok (.lconst 0, 1) := by decide +kernel
theorem dX5_test_25 : decode cX5_test 25 = .ok (.lcmp, 1) := by decide +kernel
theorem dX5_test_26 : decode cX5_test 26 = .ok (.ifCond .eq 5, 3) := by decide +kernel
theorem dX5_test_29 : decode cX5_test 29 = .ok (.iconst 1, 1) := by decide +kernel
theorem dX5_test_30 : decode cX5_test 30 = .ok (.ireturn, 1) := by decide +kernel
theorem dX5_test_31 : decode cX5_test 31 = .ok (.aload_n 0, 1) := by decide +kernel
theorem dX5_test_32 : decode cX5_test 32 = .ok (.iconst 1, 1) := by decide +kernel
theorem dX5_test_33 : decode cX5_test 33 = .ok (.invokevirtual 70, 3) := by decide +kernel
theorem dX5_test_36 : decode cX5_test 36 = .ok (.lload_n 3, 1) := by decide +kernel
theorem dX5_test_37 : decode cX5_test 37 = .ok (.land, 1) := by decide +kernel
theorem dX5_test_38 : decode cX5_test 38 = .ok (.lconst 0, 1) := by decide +kernel
theorem dX5_test_39 : decode cX5_test 39 = .ok (.lcmp, 1) := by decide +kernel
theorem dX5_test_40 : decode cX5_test 40 = .ok (.ifCond .eq 5, 3) := by decide +kernel
theorem dX5_test_43 : decode cX5_test 43 = .ok (.iconst 2, 1) := by decide +kernel
theorem dX5_test_44 : decode cX5_test 44 = .ok (.ireturn, 1) := by decide +kernel
theorem dX5_test_45 : decode cX5_test 45 = .ok (.aload_n 0, 1) := by decide +kernel
theorem dX5_test_46 : decode cX5_test 46 = .ok (.lload_n 3, 1) := by decide +kernel
theorem dX5_test_47 : decode cX5_test 47 = .ok (.invokevirtual 177, 3) := by decide +kernel
theorem dX5_test_50 : decode cX5_test 50 = .ok (.lload_n 3, 1) := by decide +kernel
theorem dX5_test_51 : decode cX5_test 51 = .ok (.lcmp, 1) := by decide +kernel
theorem dX5_test_52 : decode cX5_test 52 = .ok (.ifCond .ne 7, 3) := by decide +kernel
theorem dX5_test_55 : decode cX5_test 55 = .ok (.iconst 0, 1) := by decide +kernel
theorem dX5_test_56 : decode cX5_test 56 = .ok (.goto 4, 3) := by decide +kernel
theorem dX5_test_59 : decode cX5_test 59 = .ok (.iconst 3, 1) := by decide +kernel
theorem dX5_test_60 : decode cX5_test 60 = .ok (.ireturn, 1) := by decide +kernel
set_option maxRecDepth 20000 in
theorem ggX5_compare_X5_prove : GoodIn wsX5_compare wsX5_prove := goodIn_r _ [6, 7, 8, 9, 10, 11, 12, 13, 14, 15, 16, 17, 18, 19, 5, 20, 21, 22, 23, 24, 48, 49, 50, 51, 52, 53, 54, 55, 56, 57, 58, 59, 60, 61, 62, 63, 64, 65, 66, 67, 68, 69] (by decide +kernel) (by decide +kernel)
set_option maxRecDepth 20000 in
theorem gX5_compare_X5_prove : GoodIn wsX5_compare (wsV RX5 150 RX5 yX5_prove wsX5_prove) := goodIn_app (goodIn_of _ (by decide +kernel)) ggX5_compare_X5_prove
set_option maxRecDepth 20000 in
theorem ggX5_compare_X5_isProved : GoodIn wsX5_compare wsX5_isProved := goodIn_r _ [28, 10, 9, 48, 49, 50, 51, 52, 53, 54, 55, 56, 57, 58, 59, 60, 61, 62, 63, 64, 65, 66, 67, 68, 69] (by decide +kernel) (by decide +kernel)
set_option maxRecDepth 20000 in
theorem gX5_compare_X5_isProved : GoodIn wsX5_compare (wsV RX5 153 RX5 yX5_isProved wsX5_isProved) := goodIn_app (goodIn_of _ (by decide +kernel)) ggX5_compare_X5_isProved
set_option maxRecDepth 20000 in
theorem ggX5_compare_X5_middleOf : GoodIn wsX5_compare wsX5_middleOf := goodIn_r _ [32, 33, 9, 34, 35, 36, 5, 37, 8, 11, 1, 12, 13, 21, 15, 16, 38, 39, 40, 41, 42, 43, 44, 45, 46, 47, 48, 49, 50, 51, 52, 53, 54, 55, 56, 57, 58, 59, 60, 61, 62, 63, 64, 65, 66, 67, 68, 69] (by decide +kernel) (by decide +kernel)
set_option maxRecDepth 20000 in
theorem gX5_compare_X5_middleOf : GoodIn wsX5_compare (wsV RX5 167 RX5 yX5_middleOf wsX5_middleOf) := goodIn_app (goodIn_of _ (by decide +kernel)) ggX5_compare_X5_middleOf
theorem dX5_compare_0 : decode cX5_compare 0 = .ok (.aload_n 0, 1) := by decide +kernel
theorem dX5_compare_1 : decode cX5_compare 1 = .ok (.invokevirtual 150, 3) := by decide +kernel
theorem dX5_compare_4 : decode cX5_compare 4 = .ok (.aload_n 0, 1) := by decide +kernel
theorem dX5_compare_5 : decode cX5_compare 5 = .ok (.invokevirtual 153, 3) := by decide +kernel
theorem dX5_compare_8 : decode cX5_compare 8 = .ok (.ifCond .ne 6, 3) := by decide +kernel
theorem dX5_compare_11 : decode cX5_compare 11 = .ok (.bipush (-4), 2) := by decide +kernel
theorem dX5_compare_13 : decode cX5_compare 13 = .ok (.ireturn, 1) := by decide +kernel
theorem dX5_compare_14 : decode cX5_compare 14 = .ok (.aload_n 0, 1) := by decide +kernel
theorem dX5_compare_15 : decode cX5_compare 15 = .ok (.iconst 0, 1) := by decide +kernel
theorem dX5_compare_16 : decode cX5_compare 16 = .ok (.invokevirtual 167, 3) := by decide +kernel
theorem dX5_compare_19 : decode cX5_compare 19 = .ok (.lstore_n 1, 1) := by decide +kernel
theorem dX5_compare_20 : decode cX5_compare 20 = .ok (.aload_n 0, 1) := by decide +kernel
theorem dX5_compare_21 : decode cX5_compare 21 = .ok (.iconst 1, 1) := by decide +kernel
theorem dX5_compare_22 : decode cX5_compare 22 = .ok (.invokevirtual 167, 3) := by decide +kernel
theorem dX5_compare_25 : decode cX5_compare 25 = .ok (.lstore_n 3, 1) := by decide +kernel
theorem dX5_compare_26 : decode cX5_compare 26 = .ok (.lload_n 1, 1) := by decide +kernel
theorem dX5_compare_27 : decode cX5_compare 27 = .ok (.lload_n 3, 1) := by decide +kernel
theorem dX5_compare_28 : decode cX5_compare 28 = .ok (.lcmp, 1) := by decide +kernel
theorem dX5_compare_29 : decode cX5_compare 29 = .ok (.ifCond .ne 7, 3) := by decide +kernel
theorem dX5_compare_32 : decode cX5_compare 32 = .ok (.iconst 0, 1) := by decide +kernel
theorem dX5_compare_33 : decode cX5_compare 33 = .ok (.goto 36, 3) := by decide +kernel
theorem dX5_compare_36 : decode cX5_compare 36 = .ok (.lload_n 1, 1) := by decide +kernel
theorem dX5_compare_37 : decode cX5_compare 37 = .ok (.lload_n 3, 1) := by decide +kernel
theorem dX5_compare_38 : decode cX5_compare 38 = .ok (.ldc2_w 60, 3) := by decide +kernel
theorem dX5_compare_41 : decode cX5_compare 41 = .ok (.lxor, 1) := by decide +kernel
theorem dX5_compare_42 : decode cX5_compare 42 = .ok (.land, 1) := by decide +kernel
theorem dX5_compare_43 : decode cX5_compare 43 = .ok (.lconst 0, 1) := by decide +kernel
theorem dX5_compare_44 : decode cX5_compare 44 = .ok (.lcmp, 1) := by decide +kernel
theorem dX5_compare_45 : decode cX5_compare 45 = .ok (.ifCond .ne 7, 3) := by decide +kernel
theorem dX5_compare_48 : decode cX5_compare 48 = .ok (.iconst 1, 1) := by decide +kernel
theorem dX5_compare_49 : decode cX5_compare 49 = .ok (.goto 20, 3) := by decide +kernel
theorem dX5_compare_52 : decode cX5_compare 52 = .ok (.lload_n 3, 1) := by decide +kernel
theorem dX5_compare_53 : decode cX5_compare 53 = .ok (.lload_n 1, 1) := by decide +kernel
theorem dX5_compare_54 : decode cX5_compare 54 = .ok (.ldc2_w 60, 3) := by decide +kernel
theorem dX5_compare_57 : decode cX5_compare 57 = .ok (.lxor, 1) := by decide +kernel
theorem dX5_compare_58 : decode cX5_compare 58 = .ok (.land, 1) := by decide +kernel
theorem dX5_compare_59 : decode cX5_compare 59 = .ok (.lconst 0, 1) := by decide +kernel
theorem dX5_compare_60 : decode cX5_compare 60 = .ok (.lcmp, 1) := by decide +kernel
theorem dX5_compare_61 : decode cX5_compare 61 = .ok (.ifCond .ne 7, 3) := by decide +kernel
theorem dX5_compare_64 : decode cX5_compare 64 = .ok (.iconst 2, 1) := by decide +kernel
theorem dX5_compare_65 : decode cX5_compare 65 = .ok (.goto 4, 3) := by decide +kernel
theorem dX5_compare_68 : decode cX5_compare 68 = .ok (.iconst 3, 1) := by decide +kernel
theorem dX5_compare_69 : decode cX5_compare 69 = .ok (.ireturn, 1) := by decide +kernel
theorem dX5_needed_0 : decode cX5_needed 0 = .ok (.iconst 0, 1) := by decide +kernel
theorem dX5_needed_1 : decode cX5_needed 1 = .ok (.istore_n 1, 1) := by decide +kernel
theorem dX5_needed_2 : decode cX5_needed 2 = .ok (.iconst 0, 1) := by decide +kernel
theorem dX5_needed_3 : decode cX5_needed 3 = .ok (.istore_n 2, 1) := by decide +kernel
theorem dX5_needed_4 : decode cX5_needed 4 = .ok (.iload_n 2, 1) := by decide +kernel
theorem dX5_needed_5 : decode cX5_needed 5 = .ok (.aload_n 0, 1) := by decide +kernel
theorem dX5_needed_6 : decode cX5_needed 6 = .ok (.getfield 77, 3) := by decide +kernel
theorem dX5_needed_9 : decode cX5_needed 9 = .ok (.if_icmp .ge 26, 3) := by decide +kernel
theorem dX5_needed_12 : decode cX5_needed 12 = .ok (.iload_n 1, 1) := by decide +kernel
theorem dX5_needed_13 : decode cX5_needed 13 = .ok (.aload_n 0, 1) := by decide +kernel
theorem dX5_needed_14 : decode cX5_needed 14 = .ok (.getfield 37, 3) := by decide +kernel
theorem dX5_needed_17 : decode cX5_needed 17 = .ok (.iload_n 2, 1) := by decide +kernel
theorem dX5_needed_18 : decode cX5_needed 18 = .ok (.baload, 1) := by decide +kernel
theorem dX5_needed_19 : decode cX5_needed 19 = .ok (.ifCond .eq 7, 3) := by decide +kernel
theorem dX5_needed_22 : decode cX5_needed 22 = .ok (.iconst 1, 1) := by decide +kernel
theorem dX5_needed_23 : decode cX5_needed 23 = .ok (.goto 4, 3) := by decide +kernel
theorem dX5_needed_26 : decode cX5_needed 26 = .ok (.iconst 0, 1) := by decide +kernel
theorem dX5_needed_27 : decode cX5_needed 27 = .ok (.iadd, 1) := by decide +kernel
theorem dX5_needed_28 : decode cX5_needed 28 = .ok (.istore_n 1, 1) := by decide +kernel
theorem dX5_needed_29 : decode cX5_needed 29 = .ok (.iinc 2 1, 3) := by decide +kernel
theorem dX5_needed_32 : decode cX5_needed 32 = .ok (.goto (-28), 3) := by decide +kernel
theorem dX5_needed_35 : decode cX5_needed 35 = .ok (.iload_n 1, 1) := by decide +kernel
theorem dX5_needed_36 : decode cX5_needed 36 = .ok (.ireturn, 1) := by decide +kernel
set_option maxRecDepth 20000 in
theorem ggX5_count_X5_prove : GoodIn wsX5_count wsX5_prove := goodIn_r _ [10, 11, 3, 12, 2, 1, 13, 14, 15, 16, 17, 18, 19, 20, 9, 21, 22, 23, 24, 25, 73, 74, 75, 76, 77, 78, 79, 80, 81, 82, 83, 84, 85, 86, 87, 88, 89, 90, 91, 92, 93, 94] (by decide +kernel) (by decide +kernel)
set_option maxRecDepth 20000 in
theorem gX5_count_X5_prove : GoodIn wsX5_count (wsV RX5 150 RX5 yX5_prove wsX5_prove) := goodIn_app (goodIn_of _ (by decide +kernel)) ggX5_count_X5_prove
set_option maxRecDepth 20000 in
theorem ggX5_count_X5_shared : GoodIn wsX5_count wsX5_shared := goodIn_r _ [29, 30, 31, 32, 9, 33, 1, 73, 74, 75, 76, 77, 78, 79, 80, 81, 82, 83, 84, 85, 86, 87, 88, 89, 90, 91, 92, 93, 94] (by decide +kernel) (by decide +kernel)
set_option maxRecDepth 20000 in
theorem gX5_count_X5_shared : GoodIn wsX5_count (wsV RX5 73 RX5 yX5_shared wsX5_shared) := goodIn_app (goodIn_of _ (by decide +kernel)) ggX5_count_X5_shared
set_option maxRecDepth 20000 in
theorem ggX5_count_X5_clash : GoodIn wsX5_count wsX5_clash := goodIn_r _ [37, 38, 39, 40, 9, 41, 42, 1, 43, 44, 45, 46, 47, 48, 49, 73, 74, 75, 76, 77, 78, 79, 80, 81, 82, 83, 84, 85, 86, 87, 88, 89, 90, 91, 92, 93, 94] (by decide +kernel) (by decide +kernel)
set_option maxRecDepth 20000 in
theorem gX5_count_X5_clash : GoodIn wsX5_count (wsV RX5 174 RX5 yX5_clash wsX5_clash) := goodIn_app (goodIn_of _ (by decide +kernel)) ggX5_count_X5_clash
set_option maxRecDepth 20000 in
theorem ggX5_count_X5_isProved : GoodIn wsX5_count wsX5_isProved := goodIn_r _ [53, 2, 12, 73, 74, 75, 76, 77, 78, 79, 80, 81, 82, 83, 84, 85, 86, 87, 88, 89, 90, 91, 92, 93, 94] (by decide +kernel) (by decide +kernel)
set_option maxRecDepth 20000 in
theorem gX5_count_X5_isProved : GoodIn wsX5_count (wsV RX5 153 RX5 yX5_isProved wsX5_isProved) := goodIn_app (goodIn_of _ (by decide +kernel)) ggX5_count_X5_isProved
set_option maxRecDepth 20000 in
theorem ggX5_count_X5_needed : GoodIn wsX5_count wsX5_needed := goodIn_r _ [57, 3, 15, 73, 74, 75, 76, 77, 78, 79, 80, 81, 82, 83, 84, 85, 86, 87, 88, 89, 90, 91, 92, 93, 94] (by decide +kernel) (by decide +kernel)
set_option maxRecDepth 20000 in
theorem gX5_count_X5_needed : GoodIn wsX5_count (wsV RX5 183 RX5 yX5_needed wsX5_needed) := goodIn_app (goodIn_of _ (by decide +kernel)) ggX5_count_X5_needed
set_option maxRecDepth 20000 in
theorem ggX5_count_X5_middleOf : GoodIn wsX5_count wsX5_middleOf := goodIn_r _ [61, 62, 12, 63, 64, 65, 9, 66, 3, 1, 42, 13, 14, 22, 16, 17, 30, 31, 32, 33, 47, 48, 49, 67, 68, 69, 73, 74, 75, 76, 77, 78, 79, 80, 81, 82, 83, 84, 85, 86, 87, 88, 89, 90, 91, 92, 93, 94] (by decide +kernel) (by decide +kernel)
set_option maxRecDepth 20000 in
theorem gX5_count_X5_middleOf : GoodIn wsX5_count (wsV RX5 167 RX5 yX5_middleOf wsX5_middleOf) := goodIn_app (goodIn_of _ (by decide +kernel)) ggX5_count_X5_middleOf
set_option maxRecDepth 20000 in
theorem ggX5_count_X5_bitsOf : GoodIn wsX5_count wsX5_bitsOf := goodIn_r _ [72] (by decide +kernel) (by decide +kernel)
set_option maxRecDepth 20000 in
theorem gX5_count_X5_bitsOf : GoodIn wsX5_count (va_wsS RX5 160 yX5_bitsOf wsX5_bitsOf) := goodIn_app (goodIn_of _ (by decide +kernel)) ggX5_count_X5_bitsOf
set_option maxRecDepth 20000 in
theorem ggX5_count_X5_worldsOfSide : GoodIn wsX5_count wsX5_worldsOfSide := goodIn_r _ [41, 42, 1, 43, 44, 45, 9, 46, 47, 48, 49, 73, 74, 75, 76, 77, 78, 79, 80, 81, 82, 83, 84, 85, 86, 87, 88, 89, 90, 91, 92, 93, 94] (by decide +kernel) (by decide +kernel)
set_option maxRecDepth 20000 in
theorem gX5_count_X5_worldsOfSide : GoodIn wsX5_count (wsV RX5 70 RX5 yX5_worldsOfSide wsX5_worldsOfSide) := goodIn_app (goodIn_of _ (by decide +kernel)) ggX5_count_X5_worldsOfSide
theorem dX5_count_0 : decode cX5_count 0 = .ok (.aload_n 0, 1) := by decide +kernel
theorem dX5_count_1 : decode cX5_count 1 = .ok (.invokevirtual 150, 3) := by decide +kernel
theorem dX5_count_4 : decode cX5_count 4 = .ok (.iload_n 1, 1) := by decide +kernel
theorem dX5_count_5 : decode cX5_count 5 = .ok (.tableswitch 180 0 10 #[59, 66, 71, 84, 102, 118, 131, 131, 155, 170, 175], 59) := by decide +kernel
theorem dX5_count_64 : decode cX5_count 64 = .ok (.aload_n 0, 1) := by decide +kernel
theorem dX5_count_65 : decode cX5_count 65 = .ok (.getfield 7, 3) := by decide +kernel
theorem dX5_count_68 : decode cX5_count 68 = .ok (.iconst 0, 1) := by decide +kernel
theorem dX5_count_69 : decode cX5_count 69 = .ok (.iaload, 1) := by decide +kernel
theorem dX5_count_70 : decode cX5_count 70 = .ok (.ireturn, 1) := by decide +kernel
theorem dX5_count_71 : decode cX5_count 71 = .ok (.aload_n 0, 1) := by decide +kernel
theorem dX5_count_72 : decode cX5_count 72 = .ok (.invokevirtual 73, 3) := by decide +kernel
theorem dX5_count_75 : decode cX5_count 75 = .ok (.ireturn, 1) := by decide +kernel
theorem dX5_count_76 : decode cX5_count 76 = .ok (.aload_n 0, 1) := by decide +kernel
theorem dX5_count_77 : decode cX5_count 77 = .ok (.invokevirtual 174, 3) := by decide +kernel
theorem dX5_count_80 : decode cX5_count 80 = .ok (.ifCond .eq 7, 3) := by decide +kernel
theorem dX5_count_83 : decode cX5_count 83 = .ok (.iconst 1, 1) := by decide +kernel
theorem dX5_count_84 : decode cX5_count 84 = .ok (.goto 4, 3) := by decide +kernel
theorem dX5_count_87 : decode cX5_count 87 = .ok (.iconst 0, 1) := by decide +kernel
theorem dX5_count_88 : decode cX5_count 88 = .ok (.ireturn, 1) := by decide +kernel
theorem dX5_count_89 : decode cX5_count 89 = .ok (.aload_n 0, 1) := by decide +kernel
theorem dX5_count_90 : decode cX5_count 90 = .ok (.getfield 83, 3) := by decide +kernel
theorem dX5_count_93 : decode cX5_count 93 = .ok (.ifCond .eq 10, 3) := by decide +kernel
theorem dX5_count_96 : decode cX5_count 96 = .ok (.aload_n 0, 1) := by decide +kernel
theorem dX5_count_97 : decode cX5_count 97 = .ok (.getfield 77, 3) := by decide +kernel
theorem dX5_count_100 : decode cX5_count 100 = .ok (.goto 6, 3) := by decide +kernel
theorem dX5_count_103 : decode cX5_count 103 = .ok (.sipush 401, 3) := by decide +kernel
theorem dX5_count_106 : decode cX5_count 106 = .ok (.ireturn, 1) := by decide +kernel
theorem dX5_count_107 : decode cX5_count 107 = .ok (.aload_n 0, 1) := by decide +kernel
theorem dX5_count_108 : decode cX5_count 108 = .ok (.invokevirtual 153, 3) := by decide +kernel
theorem dX5_count_111 : decode cX5_count 111 = .ok (.ifCond .eq 10, 3) := by decide +kernel
theorem dX5_count_114 : decode cX5_count 114 = .ok (.aload_n 0, 1) := by decide +kernel
theorem dX5_count_115 : decode cX5_count 115 = .ok (.invokevirtual 183, 3) := by decide +kernel
theorem dX5_count_118 : decode cX5_count 118 = .ok (.goto 4, 3) := by decide +kernel
theorem dX5_count_121 : decode cX5_count 121 = .ok (.iconst 0, 1) := by decide +kernel
theorem dX5_count_122 : decode cX5_count 122 = .ok (.ireturn, 1) := by decide +kernel
theorem dX5_count_123 : decode cX5_count 123 = .ok (.aload_n 0, 1) := by decide +kernel
theorem dX5_count_124 : decode cX5_count 124 = .ok (.invokevirtual 153, 3) := by decide +kernel
theorem dX5_count_127 : decode cX5_count 127 = .ok (.ifCond .eq 7, 3) := by decide +kernel
theorem dX5_count_130 : decode cX5_count 130 = .ok (.iconst 1, 1) := by decide +kernel
theorem dX5_count_131 : decode cX5_count 131 = .ok (.goto 4, 3) := by decide +kernel
theorem dX5_count_134 : decode cX5_count 134 = .ok (.iconst 0, 1) := by decide +kernel
theorem dX5_count_135 : decode cX5_count 135 = .ok (.ireturn, 1) := by decide +kernel
theorem dX5_count_136 : decode cX5_count 136 = .ok (.aload_n 0, 1) := by decide +kernel
theorem dX5_count_137 : decode cX5_count 137 = .ok (.invokevirtual 153, 3) := by decide +kernel
theorem dX5_count_140 : decode cX5_count 140 = .ok (.ifCond .eq 17, 3) := by decide +kernel
theorem dX5_count_143 : decode cX5_count 143 = .ok (.aload_n 0, 1) := by decide +kernel
theorem dX5_count_144 : decode cX5_count 144 = .ok (.iload_n 1, 1) := by decide +kernel
theorem dX5_count_145 : decode cX5_count 145 = .ok (.bipush 6, 2) := by decide +kernel
theorem dX5_count_147 : decode cX5_count 147 = .ok (.isub, 1) := by decide +kernel
theorem dX5_count_148 : decode cX5_count 148 = .ok (.invokevirtual 167, 3) := by decide +kernel
theorem dX5_count_151 : decode cX5_count 151 = .ok (.invokestatic 160, 3) := by decide +kernel
theorem dX5_count_154 : decode cX5_count 154 = .ok (.goto 5, 3) := by decide +kernel
theorem dX5_count_157 : decode cX5_count 157 = .ok (.bipush (-5), 2) := by decide +kernel
theorem dX5_count_159 : decode cX5_count 159 = .ok (.ireturn, 1) := by decide +kernel
theorem dX5_count_160 : decode cX5_count 160 = .ok (.aload_n 0, 1) := by decide +kernel
theorem dX5_count_161 : decode cX5_count 161 = .ok (.iconst 0, 1) := by decide +kernel
theorem dX5_count_162 : decode cX5_count 162 = .ok (.invokevirtual 70, 3) := by decide +kernel
theorem dX5_count_165 : decode cX5_count 165 = .ok (.aload_n 0, 1) := by decide +kernel
theorem dX5_count_166 : decode cX5_count 166 = .ok (.iconst 1, 1) := by decide +kernel
theorem dX5_count_167 : decode cX5_count 167 = .ok (.invokevirtual 70, 3) := by decide +kernel
theorem dX5_count_170 : decode cX5_count 170 = .ok (.land, 1) := by decide +kernel
theorem dX5_count_171 : decode cX5_count 171 = .ok (.invokestatic 160, 3) := by decide +kernel
theorem dX5_count_174 : decode cX5_count 174 = .ok (.ireturn, 1) := by decide +kernel
theorem dX5_count_175 : decode cX5_count 175 = .ok (.aload_n 0, 1) := by decide +kernel
theorem dX5_count_176 : decode cX5_count 176 = .ok (.getfield 52, 3) := by decide +kernel
theorem dX5_count_179 : decode cX5_count 179 = .ok (.ireturn, 1) := by decide +kernel
theorem dX5_count_180 : decode cX5_count 180 = .ok (.aload_n 0, 1) := by decide +kernel
theorem dX5_count_181 : decode cX5_count 181 = .ok (.getfield 111, 3) := by decide +kernel
theorem dX5_count_184 : decode cX5_count 184 = .ok (.ireturn, 1) := by decide +kernel
theorem dX5_count_185 : decode cX5_count 185 = .ok (.bipush (-2), 2) := by decide +kernel
theorem dX5_count_187 : decode cX5_count 187 = .ok (.ireturn, 1) := by decide +kernel
theorem dJ6_bitCount_0f7a4_0 : decode cJ6_bitCount_0f7a4 0 = .ok (.iload_n 0, 1) := by decide +kernel
theorem dJ6_bitCount_0f7a4_1 : decode cJ6_bitCount_0f7a4 1 = .ok (.iload_n 0, 1) := by decide +kernel
theorem dJ6_bitCount_0f7a4_2 : decode cJ6_bitCount_0f7a4 2 = .ok (.iconst 1, 1) := by decide +kernel
theorem dJ6_bitCount_0f7a4_3 : decode cJ6_bitCount_0f7a4 3 = .ok (.iushr, 1) := by decide +kernel
theorem dJ6_bitCount_0f7a4_4 : decode cJ6_bitCount_0f7a4 4 = .ok (.ldc_w 265, 3) := by decide +kernel
theorem dJ6_bitCount_0f7a4_7 : decode cJ6_bitCount_0f7a4 7 = .ok (.iand, 1) := by decide +kernel
theorem dJ6_bitCount_0f7a4_8 : decode cJ6_bitCount_0f7a4 8 = .ok (.isub, 1) := by decide +kernel
theorem dJ6_bitCount_0f7a4_9 : decode cJ6_bitCount_0f7a4 9 = .ok (.istore_n 0, 1) := by decide +kernel
theorem dJ6_bitCount_0f7a4_10 : decode cJ6_bitCount_0f7a4 10 = .ok (.iload_n 0, 1) := by decide +kernel
theorem dJ6_bitCount_0f7a4_11 : decode cJ6_bitCount_0f7a4 11 = .ok (.ldc_w 266, 3) := by decide +kernel
theorem dJ6_bitCount_0f7a4_14 : decode cJ6_bitCount_0f7a4 14 = .ok (.iand, 1) := by decide +kernel
theorem dJ6_bitCount_0f7a4_15 : decode cJ6_bitCount_0f7a4 15 = .ok (.iload_n 0, 1) := by decide +kernel
theorem dJ6_bitCount_0f7a4_16 : decode cJ6_bitCount_0f7a4 16 = .ok (.iconst 2, 1) := by decide +kernel
theorem dJ6_bitCount_0f7a4_17 : decode cJ6_bitCount_0f7a4 17 = .ok (.iushr, 1) := by decide +kernel
theorem dJ6_bitCount_0f7a4_18 : decode cJ6_bitCount_0f7a4 18 = .ok (.ldc_w 266, 3) := by decide +kernel
theorem dJ6_bitCount_0f7a4_21 : decode cJ6_bitCount_0f7a4 21 = .ok (.iand, 1) := by decide +kernel
theorem dJ6_bitCount_0f7a4_22 : decode cJ6_bitCount_0f7a4 22 = .ok (.iadd, 1) := by decide +kernel
theorem dJ6_bitCount_0f7a4_23 : decode cJ6_bitCount_0f7a4 23 = .ok (.istore_n 0, 1) := by decide +kernel
theorem dJ6_bitCount_0f7a4_24 : decode cJ6_bitCount_0f7a4 24 = .ok (.iload_n 0, 1) := by decide +kernel
theorem dJ6_bitCount_0f7a4_25 : decode cJ6_bitCount_0f7a4 25 = .ok (.iload_n 0, 1) := by decide +kernel
theorem dJ6_bitCount_0f7a4_26 : decode cJ6_bitCount_0f7a4 26 = .ok (.iconst 4, 1) := by decide +kernel
theorem dJ6_bitCount_0f7a4_27 : decode cJ6_bitCount_0f7a4 27 = .ok (.iushr, 1) := by decide +kernel
theorem dJ6_bitCount_0f7a4_28 : decode cJ6_bitCount_0f7a4 28 = .ok (.iadd, 1) := by decide +kernel
theorem dJ6_bitCount_0f7a4_29 : decode cJ6_bitCount_0f7a4 29 = .ok (.ldc_w 267, 3) := by decide +kernel
theorem dJ6_bitCount_0f7a4_32 : decode cJ6_bitCount_0f7a4 32 = .ok (.iand, 1) := by decide +kernel
theorem dJ6_bitCount_0f7a4_33 : decode cJ6_bitCount_0f7a4 33 = .ok (.istore_n 0, 1) := by decide +kernel
theorem dJ6_bitCount_0f7a4_34 : decode cJ6_bitCount_0f7a4 34 = .ok (.iload_n 0, 1) := by decide +kernel
theorem dJ6_bitCount_0f7a4_35 : decode cJ6_bitCount_0f7a4 35 = .ok (.iload_n 0, 1) := by decide +kernel
theorem dJ6_bitCount_0f7a4_36 : decode cJ6_bitCount_0f7a4 36 = .ok (.bipush 8, 2) := by decide +kernel
theorem dJ6_bitCount_0f7a4_38 : decode cJ6_bitCount_0f7a4 38 = .ok (.iushr, 1) := by decide +kernel
theorem dJ6_bitCount_0f7a4_39 : decode cJ6_bitCount_0f7a4 39 = .ok (.iadd, 1) := by decide +kernel
theorem dJ6_bitCount_0f7a4_40 : decode cJ6_bitCount_0f7a4 40 = .ok (.istore_n 0, 1) := by decide +kernel
theorem dJ6_bitCount_0f7a4_41 : decode cJ6_bitCount_0f7a4 41 = .ok (.iload_n 0, 1) := by decide +kernel
theorem dJ6_bitCount_0f7a4_42 : decode cJ6_bitCount_0f7a4 42 = .ok (.iload_n 0, 1) := by decide +kernel
theorem dJ6_bitCount_0f7a4_43 : decode cJ6_bitCount_0f7a4 43 = .ok (.bipush 16, 2) := by decide +kernel
theorem dJ6_bitCount_0f7a4_45 : decode cJ6_bitCount_0f7a4 45 = .ok (.iushr, 1) := by decide +kernel
theorem dJ6_bitCount_0f7a4_46 : decode cJ6_bitCount_0f7a4 46 = .ok (.iadd, 1) := by decide +kernel
theorem dJ6_bitCount_0f7a4_47 : decode cJ6_bitCount_0f7a4 47 = .ok (.istore_n 0, 1) := by decide +kernel
theorem dJ6_bitCount_0f7a4_48 : decode cJ6_bitCount_0f7a4 48 = .ok (.iload_n 0, 1) := by decide +kernel
theorem dJ6_bitCount_0f7a4_49 : decode cJ6_bitCount_0f7a4 49 = .ok (.bipush 63, 2) := by decide +kernel
theorem dJ6_bitCount_0f7a4_51 : decode cJ6_bitCount_0f7a4 51 = .ok (.iand, 1) := by decide +kernel
theorem dJ6_bitCount_0f7a4_52 : decode cJ6_bitCount_0f7a4 52 = .ok (.ireturn, 1) := by decide +kernel
theorem dJ13_bitCount_95d88_0 : decode cJ13_bitCount_95d88 0 = .ok (.lload_n 0, 1) := by decide +kernel
theorem dJ13_bitCount_95d88_1 : decode cJ13_bitCount_95d88 1 = .ok (.lload_n 0, 1) := by decide +kernel
theorem dJ13_bitCount_95d88_2 : decode cJ13_bitCount_95d88 2 = .ok (.iconst 1, 1) := by decide +kernel
theorem dJ13_bitCount_95d88_3 : decode cJ13_bitCount_95d88 3 = .ok (.lushr, 1) := by decide +kernel
theorem dJ13_bitCount_95d88_4 : decode cJ13_bitCount_95d88 4 = .ok (.ldc2_w 314, 3) := by decide +kernel
theorem dJ13_bitCount_95d88_7 : decode cJ13_bitCount_95d88 7 = .ok (.land, 1) := by decide +kernel
theorem dJ13_bitCount_95d88_8 : decode cJ13_bitCount_95d88 8 = .ok (.lsub, 1) := by decide +kernel
theorem dJ13_bitCount_95d88_9 : decode cJ13_bitCount_95d88 9 = .ok (.lstore_n 0, 1) := by decide +kernel
theorem dJ13_bitCount_95d88_10 : decode cJ13_bitCount_95d88 10 = .ok (.lload_n 0, 1) := by decide +kernel
theorem dJ13_bitCount_95d88_11 : decode cJ13_bitCount_95d88 11 = .ok (.ldc2_w 316, 3) := by decide +kernel
theorem dJ13_bitCount_95d88_14 : decode cJ13_bitCount_95d88 14 = .ok (.land, 1) := by decide +kernel
theorem dJ13_bitCount_95d88_15 : decode cJ13_bitCount_95d88 15 = .ok (.lload_n 0, 1) := by decide +kernel
theorem dJ13_bitCount_95d88_16 : decode cJ13_bitCount_95d88 16 = .ok (.iconst 2, 1) := by decide +kernel
theorem dJ13_bitCount_95d88_17 : decode cJ13_bitCount_95d88 17 = .ok (.lushr, 1) := by decide +kernel
theorem dJ13_bitCount_95d88_18 : decode cJ13_bitCount_95d88 18 = .ok (.ldc2_w 316, 3) := by decide +kernel
theorem dJ13_bitCount_95d88_21 : decode cJ13_bitCount_95d88 21 = .ok (.land, 1) := by decide +kernel
theorem dJ13_bitCount_95d88_22 : decode cJ13_bitCount_95d88 22 = .ok (.ladd, 1) := by decide +kernel
theorem dJ13_bitCount_95d88_23 : decode cJ13_bitCount_95d88 23 = .ok (.lstore_n 0, 1) := by decide +kernel
theorem dJ13_bitCount_95d88_24 : decode cJ13_bitCount_95d88 24 = .ok (.lload_n 0, 1) := by decide +kernel
theorem dJ13_bitCount_95d88_25 : decode cJ13_bitCount_95d88 25 = .ok (.lload_n 0, 1) := by decide +kernel
theorem dJ13_bitCount_95d88_26 : decode cJ13_bitCount_95d88 26 = .ok (.iconst 4, 1) := by decide +kernel
theorem dJ13_bitCount_95d88_27 : decode cJ13_bitCount_95d88 27 = .ok (.lushr, 1) := by decide +kernel
theorem dJ13_bitCount_95d88_28 : decode cJ13_bitCount_95d88 28 = .ok (.ladd, 1) := by decide +kernel
theorem dJ13_bitCount_95d88_29 : decode cJ13_bitCount_95d88 29 = .ok (.ldc2_w 318, 3) := by decide +kernel
theorem dJ13_bitCount_95d88_32 : decode cJ13_bitCount_95d88 32 = .ok (.land, 1) := by decide +kernel
theorem dJ13_bitCount_95d88_33 : decode cJ13_bitCount_95d88 33 = .ok (.lstore_n 0, 1) := by decide +kernel
theorem dJ13_bitCount_95d88_34 : decode cJ13_bitCount_95d88 34 = .ok (.lload_n 0, 1) := by decide +kernel
theorem dJ13_bitCount_95d88_35 : decode cJ13_bitCount_95d88 35 = .ok (.lload_n 0, 1) := by decide +kernel
theorem dJ13_bitCount_95d88_36 : decode cJ13_bitCount_95d88 36 = .ok (.bipush 8, 2) := by decide +kernel
theorem dJ13_bitCount_95d88_38 : decode cJ13_bitCount_95d88 38 = .ok (.lushr, 1) := by decide +kernel
theorem dJ13_bitCount_95d88_39 : decode cJ13_bitCount_95d88 39 = .ok (.ladd, 1) := by decide +kernel
theorem dJ13_bitCount_95d88_40 : decode cJ13_bitCount_95d88 40 = .ok (.lstore_n 0, 1) := by decide +kernel
theorem dJ13_bitCount_95d88_41 : decode cJ13_bitCount_95d88 41 = .ok (.lload_n 0, 1) := by decide +kernel
theorem dJ13_bitCount_95d88_42 : decode cJ13_bitCount_95d88 42 = .ok (.lload_n 0, 1) := by decide +kernel
theorem dJ13_bitCount_95d88_43 : decode cJ13_bitCount_95d88 43 = .ok (.bipush 16, 2) := by decide +kernel
theorem dJ13_bitCount_95d88_45 : decode cJ13_bitCount_95d88 45 = .ok (.lushr, 1) := by decide +kernel
theorem dJ13_bitCount_95d88_46 : decode cJ13_bitCount_95d88 46 = .ok (.ladd, 1) := by decide +kernel
theorem dJ13_bitCount_95d88_47 : decode cJ13_bitCount_95d88 47 = .ok (.lstore_n 0, 1) := by decide +kernel
theorem dJ13_bitCount_95d88_48 : decode cJ13_bitCount_95d88 48 = .ok (.lload_n 0, 1) := by decide +kernel
theorem dJ13_bitCount_95d88_49 : decode cJ13_bitCount_95d88 49 = .ok (.lload_n 0, 1) := by decide +kernel
theorem dJ13_bitCount_95d88_50 : decode cJ13_bitCount_95d88 50 = .ok (.bipush 32, 2) := by decide +kernel
theorem dJ13_bitCount_95d88_52 : decode cJ13_bitCount_95d88 52 = .ok (.lushr, 1) := by decide +kernel
theorem dJ13_bitCount_95d88_53 : decode cJ13_bitCount_95d88 53 = .ok (.ladd, 1) := by decide +kernel
theorem dJ13_bitCount_95d88_54 : decode cJ13_bitCount_95d88 54 = .ok (.lstore_n 0, 1) := by decide +kernel
theorem dJ13_bitCount_95d88_55 : decode cJ13_bitCount_95d88 55 = .ok (.lload_n 0, 1) := by decide +kernel
theorem dJ13_bitCount_95d88_56 : decode cJ13_bitCount_95d88 56 = .ok (.l2i, 1) := by decide +kernel
theorem dJ13_bitCount_95d88_57 : decode cJ13_bitCount_95d88 57 = .ok (.bipush 127, 2) := by decide +kernel
theorem dJ13_bitCount_95d88_59 : decode cJ13_bitCount_95d88 59 = .ok (.iand, 1) := by decide +kernel
theorem dJ13_bitCount_95d88_60 : decode cJ13_bitCount_95d88 60 = .ok (.ireturn, 1) := by decide +kernel
theorem dJ9_max_7cf53_0 : decode cJ9_max_7cf53 0 = .ok (.iload_n 0, 1) := by decide +kernel
theorem dJ9_max_7cf53_1 : decode cJ9_max_7cf53 1 = .ok (.iload_n 1, 1) := by decide +kernel
theorem dJ9_max_7cf53_2 : decode cJ9_max_7cf53 2 = .ok (.if_icmp .lt 7, 3) := by decide +kernel
theorem dJ9_max_7cf53_5 : decode cJ9_max_7cf53 5 = .ok (.iload_n 0, 1) := by decide +kernel
theorem dJ9_max_7cf53_6 : decode cJ9_max_7cf53 6 = .ok (.goto 4, 3) := by decide +kernel
theorem dJ9_max_7cf53_9 : decode cJ9_max_7cf53 9 = .ok (.iload_n 1, 1) := by decide +kernel
theorem dJ9_max_7cf53_10 : decode cJ9_max_7cf53 10 = .ok (.ireturn, 1) := by decide +kernel
set_option maxRecDepth 20000 in
theorem ggL_law_X4_init : GoodIn wsL_law wsX4_init := goodIn_r _ [8, 9, 10, 11, 12, 13, 14, 15, 16, 17, 18, 19, 20, 21, 22, 23, 24, 25, 26, 27, 28, 29, 30, 31, 32, 33, 34, 35, 36, 37, 38, 39, 40, 41, 42, 43, 44, 45, 46, 47, 48, 49, 50, 51, 52, 53, 54, 55, 56, 57, 58, 59, 60, 61, 62, 63, 64, 65, 66, 67, 68, 69, 70, 71, 72, 73, 74, 75, 713, 714, 715, 716, 683, 684, 685, 686, 687, 688, 689, 690, 717, 718, 719, 720, 721, 722, 723, 724, 725, 726, 727, 728, 729, 730, 731, 732, 733, 734, 735, 736, 737, 738, 739] (by decide +kernel) (by decide +kernel)
set_option maxRecDepth 20000 in
theorem gL_law_X4_init : GoodIn wsL_law (wsX4_init) := ggL_law_X4_init
set_option maxRecDepth 20000 in
theorem ggL_law_X5_init : GoodIn wsL_law wsX5_init := goodIn_r _ [78, 79, 10, 11, 40, 80, 81, 82, 83, 84, 85, 86, 87, 88, 72, 89, 90, 69, 91, 691, 692, 693, 694, 695, 696, 697, 698, 699, 700, 701, 702, 703, 704, 705, 706, 707, 708, 709, 710, 711, 712] (by decide +kernel) (by decide +kernel)
set_option maxRecDepth 20000 in
theorem gL_law_X5_init : GoodIn wsL_law (wsX5_init) := ggL_law_X5_init
set_option maxRecDepth 20000 in
theorem ggL_law_X4_add : GoodIn wsL_law wsX4_add := goodIn_r _ [95, 15, 96, 97, 2, 98, 99, 100, 101, 102, 103, 104, 14, 105, 44, 106, 107, 108, 109, 22, 31, 110, 111, 112, 21, 113, 51, 50, 114, 115, 116, 117, 118, 119, 120, 121, 122, 123, 124, 125, 126, 127, 128, 129, 130, 131, 132, 133, 134, 41, 135, 136, 137, 138, 139, 140, 141, 142, 42, 143, 144, 145, 146, 43, 147, 148, 149, 150, 151, 683, 684, 685, 686, 687, 688, 689, 690, 713, 714, 715, 716, 717, 718] (by decide +kernel) (by decide +kernel)
set_option maxRecDepth 20000 in
theorem gL_law_X4_add : GoodIn wsL_law (wsV RL 13 RX4 yX4_add wsX4_add) := goodIn_app (goodIn_of _ (by decide +kernel)) ggL_law_X4_add
set_option maxRecDepth 20000 in
theorem ggL_law_X5_add : GoodIn wsL_law wsX5_add := goodIn_r _ [155, 80, 156, 157, 5, 158, 159, 160, 161, 162, 163, 81, 164, 165, 166, 167, 691, 692, 693, 694, 695, 696, 697, 698, 699, 700, 701, 702, 703, 704, 705, 706, 707, 708, 709, 710, 711, 712] (by decide +kernel) (by decide +kernel)
set_option maxRecDepth 20000 in
theorem gL_law_X5_add : GoodIn wsL_law (wsV RL 17 RX5 yX5_add wsX5_add) := goodIn_app (goodIn_of _ (by decide +kernel)) ggL_law_X5_add
set_option maxRecDepth 20000 in
theorem ggL_law_X4_addAll : GoodIn wsL_law wsX4_addAll := goodIn_r _ [171, 26, 16, 15, 172, 173, 174, 25, 175, 176, 59, 58, 177, 123, 124, 14, 125, 44, 178, 179, 180, 181, 182, 183, 184, 185, 186, 187, 188, 189, 190, 191, 192, 193, 194, 195, 196, 197, 198, 148, 149, 150, 41, 42, 43, 199, 200, 201, 202, 203, 204, 205, 206, 102, 103, 104, 105, 106, 107, 108, 2, 109, 22, 31, 110, 111, 112, 21, 113, 51, 50, 114, 115, 116, 117, 118, 119, 120, 121, 122, 126, 127, 128, 129, 130, 131, 132, 133, 134, 135, 136, 137, 138, 139, 140, 141, 142, 143, 144, 145, 146, 147, 207, 683, 684, 685, 686, 687, 688, 689, 690, 719, 720, 721, 722, 723, 724, 725, 713, 714, 715, 716, 717, 718] (by decide +kernel) (by decide +kernel)
set_option maxRecDepth 20000 in
theorem gL_law_X4_addAll : GoodIn wsL_law (wsV RL 18 RX4 yX4_addAll wsX4_addAll) := goodIn_app (goodIn_of _ (by decide +kernel)) ggL_law_X4_addAll
set_option maxRecDepth 20000 in
theorem ggL_law_X5_addAll : GoodIn wsL_law wsX5_addAll := goodIn_r _ [211, 212, 213, 80, 214, 215, 216, 5, 217, 218, 219, 220, 221, 222, 223, 224, 225, 226, 227, 228, 83, 229, 230, 231, 232, 156, 157, 158, 233, 234, 235, 236, 164, 165, 166, 167, 159, 160, 161, 162, 163, 81, 691, 692, 693, 694, 695, 696, 697, 698, 699, 700, 701, 702, 703, 704, 705, 706, 707, 708, 709, 710, 711, 712] (by decide +kernel) (by decide +kernel)
set_option maxRecDepth 20000 in
theorem gL_law_X5_addAll : GoodIn wsL_law (wsV RL 22 RX5 yX5_addAll wsX5_addAll) := goodIn_app (goodIn_of _ (by decide +kernel)) ggL_law_X5_addAll
set_option maxRecDepth 20000 in
theorem ggL_law_X4_remove : GoodIn wsL_law wsX4_remove := goodIn_r _ [240, 15, 241, 136, 137, 14, 138, 44, 41, 106, 107, 108, 2, 109, 22, 31, 110, 111, 112, 21, 113, 51, 50, 114, 115, 116, 117, 118, 119, 120, 121, 122, 123, 124, 125, 126, 127, 128, 129, 130, 103, 104, 105, 131, 132, 133, 134, 135, 139, 140, 141, 142, 42, 143, 144, 145, 146, 43, 147, 148, 149, 150, 242, 243, 244, 245, 102, 683, 684, 685, 686, 687, 688, 689, 690, 713, 714, 715, 716, 717, 718] (by decide +kernel) (by decide +kernel)
set_option maxRecDepth 20000 in
theorem gL_law_X4_remove : GoodIn wsL_law (wsV RL 23 RX4 yX4_remove wsX4_remove) := goodIn_app (goodIn_of _ (by decide +kernel)) ggL_law_X4_remove
set_option maxRecDepth 20000 in
theorem ggL_law_X5_remove : GoodIn wsL_law wsX5_remove := goodIn_r _ [249, 80, 250, 251, 252, 5, 253, 156, 157, 158, 159, 160, 161, 162, 163, 81, 254, 255, 256, 257, 691, 692, 693, 694, 695, 696, 697, 698, 699, 700, 701, 702, 703, 704, 705, 706, 707, 708, 709, 710, 711, 712] (by decide +kernel) (by decide +kernel)
set_option maxRecDepth 20000 in
theorem gL_law_X5_remove : GoodIn wsL_law (wsV RL 27 RX5 yX5_remove wsX5_remove) := goodIn_app (goodIn_of _ (by decide +kernel)) ggL_law_X5_remove
set_option maxRecDepth 20000 in
theorem ggL_law_X4_move : GoodIn wsL_law wsX4_move := goodIn_r _ [261, 15, 241, 136, 137, 14, 138, 44, 41, 106, 107, 108, 2, 109, 22, 31, 110, 111, 112, 21, 113, 51, 50, 114, 115, 116, 117, 118, 119, 120, 121, 122, 123, 124, 125, 126, 127, 128, 129, 130, 103, 104, 105, 131, 132, 133, 134, 135, 139, 140, 141, 142, 42, 143, 144, 145, 146, 43, 147, 148, 149, 150, 262, 263, 264, 265, 266, 683, 684, 685, 686, 687, 688, 689, 690, 713, 714, 715, 716, 717, 718] (by decide +kernel) (by decide +kernel)
set_option maxRecDepth 20000 in
theorem gL_law_X4_move : GoodIn wsL_law (wsV RL 28 RX4 yX4_move wsX4_move) := goodIn_app (goodIn_of _ (by decide +kernel)) ggL_law_X4_move
set_option maxRecDepth 20000 in
theorem ggL_law_X5_move : GoodIn wsL_law wsX5_move := goodIn_r _ [270, 80, 250, 251, 252, 5, 253, 156, 157, 158, 159, 160, 161, 162, 163, 81, 691, 692, 693, 694, 695, 696, 697, 698, 699, 700, 701, 702, 703, 704, 705, 706, 707, 708, 709, 710, 711, 712] (by decide +kernel) (by decide +kernel)
set_option maxRecDepth 20000 in
theorem gL_law_X5_move : GoodIn wsL_law (wsV RL 31 RX5 yX5_move wsX5_move) := goodIn_app (goodIn_of _ (by decide +kernel)) ggL_law_X5_move
set_option maxRecDepth 20000 in
theorem ggL_law_X4_exchange : GoodIn wsL_law wsX4_exchange := goodIn_r _ [274, 15, 102, 103, 104, 14, 105, 44, 106, 107, 108, 2, 109, 22, 31, 110, 111, 112, 21, 113, 51, 50, 114, 115, 116, 117, 118, 119, 120, 121, 122, 123, 124, 125, 126, 127, 128, 129, 130, 131, 132, 133, 134, 41, 135, 136, 137, 138, 139, 140, 141, 142, 42, 143, 144, 145, 146, 43, 147, 148, 149, 150, 262, 263, 264, 265, 275, 276, 277, 278, 279, 280, 683, 684, 685, 686, 687, 688, 689, 690, 713, 714, 715, 716, 717, 718] (by decide +kernel) (by decide +kernel)
set_option maxRecDepth 20000 in
theorem gL_law_X4_exchange : GoodIn wsL_law (wsV RL 32 RX4 yX4_exchange wsX4_exchange) := goodIn_app (goodIn_of _ (by decide +kernel)) ggL_law_X4_exchange
set_option maxRecDepth 20000 in
theorem ggL_law_X5_exchange : GoodIn wsL_law wsX5_exchange := goodIn_r _ [284, 80, 159, 160, 161, 5, 162, 163, 81, 285, 286, 287, 288, 691, 692, 693, 694, 695, 696, 697, 698, 699, 700, 701, 702, 703, 704, 705, 706, 707, 708, 709, 710, 711, 712] (by decide +kernel) (by decide +kernel)
set_option maxRecDepth 20000 in
theorem gL_law_X5_exchange : GoodIn wsL_law (wsV RL 35 RX5 yX5_exchange wsX5_exchange) := goodIn_app (goodIn_of _ (by decide +kernel)) ggL_law_X5_exchange
set_option maxRecDepth 20000 in
theorem ggL_law_X4_shrink : GoodIn wsL_law wsX4_shrink := goodIn_r _ [292, 15, 293, 294, 295, 2, 296, 31, 30, 297, 298, 299, 29, 300, 75, 301, 302, 303, 304, 74, 305, 306, 307, 14, 308, 44, 131, 132, 133, 134, 41, 135, 136, 137, 138, 139, 140, 141, 142, 42, 143, 144, 145, 146, 43, 309, 103, 104, 105, 310, 311, 312, 313, 314, 315, 316, 317, 318, 319, 320, 321, 322, 323, 324, 325, 326, 327, 328, 329, 330, 331, 64, 65, 66, 67, 68, 70, 71, 73, 332, 333, 334, 335, 336, 337, 338, 339, 340, 341, 342, 343, 344, 345, 346, 347, 348, 349, 350, 351, 352, 353, 354, 355, 356, 357, 358, 359, 360, 361, 362, 363, 364, 365, 366, 367, 368, 369, 370, 371, 372, 373, 374, 375, 376, 377, 378, 379, 380, 381, 382, 383, 384, 385, 386, 387, 388, 389, 390, 391, 392, 393, 394, 102, 395, 396, 397, 398, 279, 280, 106, 107, 108, 109, 22, 110, 111, 112, 21, 113, 51, 50, 114, 115, 116, 117, 118, 119, 120, 121, 122, 123, 124, 125, 126, 127, 128, 129, 130, 147, 148, 149, 150, 399, 242, 243, 244, 245, 683, 684, 685, 686, 687, 688, 689, 690, 726, 727, 728, 729, 730, 731, 732, 733, 734, 735, 736, 737, 738, 739, 713, 714, 715, 716, 717, 718] (by decide +kernel) (by decide +kernel)
set_option maxRecDepth 20000 in
theorem gL_law_X4_shrink : GoodIn wsL_law (wsV RL 36 RX4 yX4_shrink wsX4_shrink) := goodIn_app (goodIn_of _ (by decide +kernel)) ggL_law_X4_shrink
set_option maxRecDepth 20000 in
theorem ggL_law_X5_shrink : GoodIn wsL_law wsX5_shrink := goodIn_r _ [403, 80, 89, 404, 405, 406, 5, 407, 90, 408, 409, 410, 84, 85, 86, 87, 411, 412, 413, 414, 88, 415, 416, 417, 418, 419, 420, 421, 159, 160, 161, 162, 163, 81, 254, 255, 256, 257, 691, 692, 693, 694, 695, 696, 697, 698, 699, 700, 701, 702, 703, 704, 705, 706, 707, 708, 709, 710, 711, 712] (by decide +kernel) (by decide +kernel)
set_option maxRecDepth 20000 in
theorem gL_law_X5_shrink : GoodIn wsL_law (wsV RL 39 RX5 yX5_shrink wsX5_shrink) := goodIn_app (goodIn_of _ (by decide +kernel)) ggL_law_X5_shrink
set_option maxRecDepth 20000 in
theorem ggL_law_X4_type : GoodIn wsL_law wsX4_type := goodIn_r _ [425, 26, 426, 427, 428, 25, 429, 59, 58, 430, 431, 432, 433, 683, 684, 685, 686, 687, 688, 689, 690, 719, 720, 721, 722, 723, 724, 725] (by decide +kernel) (by decide +kernel)
set_option maxRecDepth 20000 in
theorem gL_law_X4_type : GoodIn wsL_law (wsV RL 40 RX4 yX4_type wsX4_type) := goodIn_app (goodIn_of _ (by decide +kernel)) ggL_law_X4_type
set_option maxRecDepth 20000 in
theorem ggL_law_X5_type : GoodIn wsL_law wsX5_type := goodIn_r _ [437, 220, 83, 691, 692, 693, 694, 695, 696, 697, 698, 699, 700, 701, 702, 703, 704, 705, 706, 707, 708, 709, 710, 711, 712] (by decide +kernel) (by decide +kernel)
set_option maxRecDepth 20000 in
theorem gL_law_X5_type : GoodIn wsL_law (wsV RL 44 RX5 yX5_type wsX5_type) := goodIn_app (goodIn_of _ (by decide +kernel)) ggL_law_X5_type
set_option maxRecDepth 20000 in
theorem ggL_law_X4_clearText : GoodIn wsL_law wsX4_clearText := goodIn_r _ [441, 26, 430, 431, 432, 25, 433, 59, 442, 443, 444, 445, 683, 684, 685, 686, 687, 688, 689, 690, 719, 720, 721, 722, 723, 724, 725] (by decide +kernel) (by decide +kernel)
set_option maxRecDepth 20000 in
theorem gL_law_X4_clearText : GoodIn wsL_law (wsV RL 45 RX4 yX4_clearText wsX4_clearText) := goodIn_app (goodIn_of _ (by decide +kernel)) ggL_law_X4_clearText
set_option maxRecDepth 20000 in
theorem ggL_law_X5_clearText : GoodIn wsL_law wsX5_clearText := goodIn_r _ [449, 220, 691, 692, 693, 694, 695, 696, 697, 698, 699, 700, 701, 702, 703, 704, 705, 706, 707, 708, 709, 710, 711, 712] (by decide +kernel) (by decide +kernel)
set_option maxRecDepth 20000 in
theorem gL_law_X5_clearText : GoodIn wsL_law (wsV RL 48 RX5 yX5_clearText wsX5_clearText) := goodIn_app (goodIn_of _ (by decide +kernel)) ggL_law_X5_clearText
set_option maxRecDepth 20000 in
theorem ggL_law_X4_undo : GoodIn wsL_law wsX4_undo := goodIn_r _ [453, 22, 15, 31, 454, 455, 456, 21, 457, 51, 458, 459, 460, 461, 50, 118, 119, 120, 14, 121, 122, 123, 124, 125, 44, 126, 127, 128, 129, 130, 103, 104, 105, 131, 132, 133, 134, 41, 135, 136, 137, 138, 139, 140, 141, 142, 42, 143, 144, 145, 146, 43, 147, 148, 149, 150, 683, 684, 685, 686, 687, 688, 689, 690, 717, 718, 713, 714, 715, 716] (by decide +kernel) (by decide +kernel)
set_option maxRecDepth 20000 in
theorem gL_law_X4_undo : GoodIn wsL_law (wsV RL 49 RX4 yX4_undo wsX4_undo) := goodIn_app (goodIn_of _ (by decide +kernel)) ggL_law_X4_undo
set_option maxRecDepth 20000 in
theorem ggL_law_X5_undo : GoodIn wsL_law wsX5_undo := goodIn_r _ [465, 163, 80, 81, 691, 692, 693, 694, 695, 696, 697, 698, 699, 700, 701, 702, 703, 704, 705, 706, 707, 708, 709, 710, 711, 712] (by decide +kernel) (by decide +kernel)
set_option maxRecDepth 20000 in
theorem gL_law_X5_undo : GoodIn wsL_law (wsV RL 52 RX5 yX5_undo wsX5_undo) := goodIn_app (goodIn_of _ (by decide +kernel)) ggL_law_X5_undo
set_option maxRecDepth 20000 in
theorem ggL_law_X4_keep : GoodIn wsL_law wsX4_keep := goodIn_r _ [469, 17, 15, 18, 470, 119, 120, 14, 121, 122, 123, 124, 125, 44, 126, 127, 128, 129, 130, 103, 104, 105, 131, 132, 133, 134, 41, 135, 136, 137, 138, 139, 140, 141, 142, 42, 143, 144, 145, 146, 43, 147, 148, 149, 150, 102, 683, 684, 685, 686, 687, 688, 689, 690, 713, 714, 715, 716] (by decide +kernel) (by decide +kernel)
set_option maxRecDepth 20000 in
theorem gL_law_X4_keep : GoodIn wsL_law (wsV RL 53 RX4 yX4_keep wsX4_keep) := goodIn_app (goodIn_of _ (by decide +kernel)) ggL_law_X4_keep
set_option maxRecDepth 20000 in
theorem ggL_law_X5_keep : GoodIn wsL_law wsX5_keep := goodIn_r _ [474, 82, 80, 475, 691, 692, 693, 694, 695, 696, 697, 698, 699, 700, 701, 702, 703, 704, 705, 706, 707, 708, 709, 710, 711, 712] (by decide +kernel) (by decide +kernel)
set_option maxRecDepth 20000 in
theorem gL_law_X5_keep : GoodIn wsL_law (wsV RL 56 RX5 yX5_keep wsX5_keep) := goodIn_app (goodIn_of _ (by decide +kernel)) ggL_law_X5_keep
set_option maxRecDepth 20000 in
theorem ggL_law_X4_restore : GoodIn wsL_law wsX4_restore := goodIn_r _ [479, 18, 15, 17, 106, 107, 108, 2, 109, 22, 31, 110, 111, 112, 21, 113, 51, 50, 114, 115, 116, 117, 118, 119, 120, 14, 121, 122, 123, 124, 125, 44, 126, 127, 128, 129, 130, 103, 104, 105, 131, 132, 133, 134, 41, 135, 136, 137, 138, 139, 140, 141, 142, 42, 143, 144, 145, 146, 43, 147, 148, 149, 150, 470, 102, 683, 684, 685, 686, 687, 688, 689, 690, 717, 718, 713, 714, 715, 716] (by decide +kernel) (by decide +kernel)
set_option maxRecDepth 20000 in
theorem gL_law_X4_restore : GoodIn wsL_law (wsV RL 57 RX4 yX4_restore wsX4_restore) := goodIn_app (goodIn_of _ (by decide +kernel)) ggL_law_X4_restore
set_option maxRecDepth 20000 in
theorem ggL_law_X5_restore : GoodIn wsL_law wsX5_restore := goodIn_r _ [483, 475, 80, 82, 159, 160, 161, 5, 162, 163, 81, 691, 692, 693, 694, 695, 696, 697, 698, 699, 700, 701, 702, 703, 704, 705, 706, 707, 708, 709, 710, 711, 712] (by decide +kernel) (by decide +kernel)
set_option maxRecDepth 20000 in
theorem gL_law_X5_restore : GoodIn wsL_law (wsV RL 60 RX5 yX5_restore wsX5_restore) := goodIn_app (goodIn_of _ (by decide +kernel)) ggL_law_X5_restore
set_option maxRecDepth 20000 in
theorem ggL_law_X4_clause : GoodIn wsL_law wsX4_clause := goodIn_r _ [487, 15, 241, 136, 137, 14, 138, 44, 41, 266, 132, 133, 134, 135, 488, 140, 141, 142, 42, 489, 144, 145, 146, 43, 490, 491, 492, 493, 139, 143, 318, 2, 319, 320, 321, 322, 323, 324, 325, 326, 327, 494, 495, 496, 497, 498, 499, 500, 293, 294, 295, 296, 31, 30, 297, 298, 299, 29, 300, 75, 301, 302, 303, 304, 74, 305, 306, 307, 308, 131, 309, 103, 104, 105, 310, 311, 312, 313, 314, 315, 316, 317, 328, 329, 330, 331, 64, 65, 66, 67, 68, 70, 71, 73, 332, 333, 334, 335, 336, 337, 338, 339, 340, 341, 342, 343, 344, 345, 346, 347, 348, 349, 350, 351, 352, 353, 354, 355, 356, 357, 358, 359, 360, 361, 362, 363, 364, 365, 366, 367, 368, 369, 370, 371, 372, 373, 374, 375, 376, 377, 378, 379, 380, 381, 382, 383, 384, 385, 386, 387, 388, 389, 390, 399, 501, 279, 280, 683, 684, 685, 686, 687, 688, 689, 690, 713, 714, 715, 716, 726, 727, 728, 729, 730, 731, 732, 733, 734, 735, 736, 737, 738, 739] (by decide +kernel) (by decide +kernel)
set_option maxRecDepth 20000 in
theorem gL_law_X4_clause : GoodIn wsL_law (wsV RL 61 RX4 yX4_clause wsX4_clause) := goodIn_app (goodIn_of _ (by decide +kernel)) ggL_law_X4_clause
set_option maxRecDepth 20000 in
theorem ggL_law_X5_clause : GoodIn wsL_law wsX5_clause := goodIn_r _ [505, 80, 89, 250, 251, 252, 5, 253, 156, 157, 158, 506, 507, 508, 509, 510, 511, 512, 513, 514, 515, 404, 405, 406, 407, 90, 408, 409, 410, 84, 85, 86, 87, 411, 412, 413, 414, 88, 415, 416, 417, 418, 419, 420, 421, 691, 692, 693, 694, 695, 696, 697, 698, 699, 700, 701, 702, 703, 704, 705, 706, 707, 708, 709, 710, 711, 712] (by decide +kernel) (by decide +kernel)
set_option maxRecDepth 20000 in
theorem gL_law_X5_clause : GoodIn wsL_law (wsV RL 65 RX5 yX5_clause wsX5_clause) := goodIn_app (goodIn_of _ (by decide +kernel)) ggL_law_X5_clause
set_option maxRecDepth 20000 in
theorem ggL_law_X4_side : GoodIn wsL_law wsX4_side := goodIn_r _ [519, 15, 96, 97, 2, 98, 275, 276, 277, 14, 278, 44, 131, 132, 133, 134, 41, 135, 136, 137, 138, 279, 280, 520, 306, 307, 308, 139, 140, 141, 142, 42, 143, 144, 145, 146, 43, 521, 522, 523, 524, 525, 526, 491, 492, 493, 318, 319, 320, 321, 322, 323, 324, 325, 326, 327, 494, 495, 496, 497, 498, 499, 500, 527, 528, 529, 683, 684, 685, 686, 687, 688, 689, 690, 713, 714, 715, 716] (by decide +kernel) (by decide +kernel)
set_option maxRecDepth 20000 in
theorem gL_law_X4_side : GoodIn wsL_law (wsV RL 66 RX4 yX4_side wsX4_side) := goodIn_app (goodIn_of _ (by decide +kernel)) ggL_law_X4_side
set_option maxRecDepth 20000 in
theorem ggL_law_X5_side : GoodIn wsL_law wsX5_side := goodIn_r _ [533, 156, 157, 5, 158, 285, 286, 287, 288, 80, 534, 535, 536, 537, 538, 539, 540, 541, 542, 506, 507, 508, 509, 510, 511, 512, 513, 514, 515, 543, 544, 545, 691, 692, 693, 694, 695, 696, 697, 698, 699, 700, 701, 702, 703, 704, 705, 706, 707, 708, 709, 710, 711, 712] (by decide +kernel) (by decide +kernel)
set_option maxRecDepth 20000 in
theorem gL_law_X5_side : GoodIn wsL_law (wsV RL 69 RX5 yX5_side wsX5_side) := goodIn_app (goodIn_of _ (by decide +kernel)) ggL_law_X5_side
set_option maxRecDepth 20000 in
theorem ggL_law_X4_step : GoodIn wsL_law wsX4_step := goodIn_r _ [549, 293, 294, 295, 2, 296, 31, 30, 15, 297, 298, 299, 29, 300, 75, 301, 302, 303, 304, 74, 305, 306, 307, 14, 308, 44, 131, 132, 133, 134, 41, 135, 136, 137, 138, 139, 140, 141, 142, 42, 143, 144, 145, 146, 43, 309, 103, 104, 105, 310, 311, 312, 313, 314, 315, 316, 317, 318, 319, 320, 321, 322, 323, 324, 325, 326, 327, 328, 329, 330, 331, 64, 65, 66, 67, 68, 70, 71, 73, 332, 333, 334, 335, 336, 337, 338, 339, 340, 341, 342, 343, 344, 345, 346, 347, 348, 349, 350, 351, 352, 353, 354, 355, 356, 357, 358, 359, 360, 361, 362, 363, 364, 365, 366, 367, 368, 369, 370, 371, 372, 373, 374, 375, 376, 377, 378, 379, 380, 381, 382, 383, 384, 385, 386, 387, 388, 389, 390, 550, 551, 552, 553, 554, 555, 556, 557, 558, 559, 560, 561, 562, 399, 501, 279, 280, 683, 684, 685, 686, 687, 688, 689, 690, 726, 727, 728, 729, 730, 731, 732, 733, 734, 735, 736, 737, 738, 739, 713, 714, 715, 716] (by decide +kernel) (by decide +kernel)
set_option maxRecDepth 20000 in
theorem gL_law_X4_step : GoodIn wsL_law (wsV RL 70 RX4 yX4_step wsX4_step) := goodIn_app (goodIn_of _ (by decide +kernel)) ggL_law_X4_step
set_option maxRecDepth 20000 in
theorem ggL_law_X5_step : GoodIn wsL_law wsX5_step := goodIn_r _ [566, 410, 408, 84, 85, 86, 87, 88, 89, 404, 405, 406, 5, 407, 90, 409, 80, 411, 412, 413, 414, 415, 416, 417, 156, 157, 158, 691, 692, 693, 694, 695, 696, 697, 698, 699, 700, 701, 702, 703, 704, 705, 706, 707, 708, 709, 710, 711, 712] (by decide +kernel) (by decide +kernel)
set_option maxRecDepth 20000 in
theorem gL_law_X5_step : GoodIn wsL_law (wsV RL 73 RX5 yX5_step wsX5_step) := goodIn_app (goodIn_of _ (by decide +kernel)) ggL_law_X5_step
set_option maxRecDepth 20000 in
theorem ggL_law_X4_partial : GoodIn wsL_law wsX4_partial := goodIn_r _ [570, 293, 294, 295, 2, 296, 31, 30, 15, 297, 298, 299, 29, 300, 75, 301, 302, 303, 304, 74, 305, 306, 307, 14, 308, 44, 131, 132, 133, 134, 41, 135, 136, 137, 138, 139, 140, 141, 142, 42, 143, 144, 145, 146, 43, 309, 103, 104, 105, 310, 311, 312, 313, 314, 315, 316, 317, 318, 319, 320, 321, 322, 323, 324, 325, 326, 327, 328, 329, 330, 331, 64, 65, 66, 67, 68, 70, 71, 73, 332, 333, 334, 335, 336, 337, 338, 339, 340, 341, 342, 343, 344, 345, 346, 347, 348, 349, 350, 351, 352, 353, 354, 355, 356, 357, 358, 359, 360, 361, 362, 363, 364, 365, 366, 367, 368, 369, 370, 371, 372, 373, 374, 375, 376, 377, 378, 379, 380, 381, 382, 383, 384, 385, 386, 387, 388, 389, 390, 391, 392, 393, 394, 554, 96, 97, 98, 571, 683, 684, 685, 686, 687, 688, 689, 690, 726, 727, 728, 729, 730, 731, 732, 733, 734, 735, 736, 737, 738, 739, 713, 714, 715, 716] (by decide +kernel) (by decide +kernel)
set_option maxRecDepth 20000 in
theorem gL_law_X4_partial : GoodIn wsL_law (wsV RL 74 RX4 yX4_partial wsX4_partial) := goodIn_app (goodIn_of _ (by decide +kernel)) ggL_law_X4_partial
set_option maxRecDepth 20000 in
theorem ggL_law_X5_partial : GoodIn wsL_law wsX5_partial := goodIn_r _ [575, 408, 91, 404, 405, 406, 5, 407, 90, 409, 410, 80, 84, 85, 89, 86, 87, 411, 412, 413, 414, 88, 415, 416, 417, 418, 419, 420, 421, 156, 157, 158, 576, 577, 578, 579, 542, 534, 535, 536, 537, 510, 511, 512, 580, 581, 582, 691, 692, 693, 694, 695, 696, 697, 698, 699, 700, 701, 702, 703, 704, 705, 706, 707, 708, 709, 710, 711, 712] (by decide +kernel) (by decide +kernel)
set_option maxRecDepth 20000 in
theorem gL_law_X5_partial : GoodIn wsL_law (wsV RL 77 RX5 yX5_partial wsX5_partial) := goodIn_app (goodIn_of _ (by decide +kernel)) ggL_law_X5_partial
set_option maxRecDepth 20000 in
theorem ggL_law_X4_middle : GoodIn wsL_law wsX4_middle := goodIn_r _ [586, 96, 97, 2, 98, 293, 294, 295, 296, 31, 30, 15, 297, 298, 299, 29, 300, 75, 301, 302, 303, 304, 74, 305, 306, 307, 14, 308, 44, 131, 132, 133, 134, 41, 135, 136, 137, 138, 139, 140, 141, 142, 42, 143, 144, 145, 146, 43, 309, 103, 104, 105, 310, 311, 312, 313, 314, 315, 316, 317, 318, 319, 320, 321, 322, 323, 324, 325, 326, 327, 328, 329, 330, 331, 64, 65, 66, 67, 68, 70, 71, 73, 332, 333, 334, 335, 336, 337, 338, 339, 340, 341, 342, 343, 344, 345, 346, 347, 348, 349, 350, 351, 352, 353, 354, 355, 356, 357, 358, 359, 360, 361, 362, 363, 364, 365, 366, 367, 368, 369, 370, 371, 372, 373, 374, 375, 376, 377, 378, 379, 380, 381, 382, 383, 384, 385, 386, 387, 388, 389, 390, 391, 392, 393, 394, 587, 588, 589, 590, 591, 592, 593, 683, 684, 685, 686, 687, 688, 689, 690, 726, 727, 728, 729, 730, 731, 732, 733, 734, 735, 736, 737, 738, 739, 713, 714, 715, 716] (by decide +kernel) (by decide +kernel)
set_option maxRecDepth 20000 in
theorem gL_law_X4_middle : GoodIn wsL_law (wsV RL 78 RX4 yX4_middle wsX4_middle) := goodIn_app (goodIn_of _ (by decide +kernel)) ggL_law_X4_middle
set_option maxRecDepth 20000 in
theorem ggL_law_X5_middle : GoodIn wsL_law wsX5_middle := goodIn_r _ [597, 404, 405, 406, 5, 407, 90, 408, 409, 410, 80, 84, 85, 89, 86, 87, 411, 412, 413, 414, 88, 415, 416, 417, 156, 157, 158, 418, 419, 420, 421, 598, 599, 600, 601, 91, 576, 577, 578, 579, 542, 534, 535, 536, 537, 510, 511, 512, 580, 581, 582, 602, 603, 604, 691, 692, 693, 694, 695, 696, 697, 698, 699, 700, 701, 702, 703, 704, 705, 706, 707, 708, 709, 710, 711, 712] (by decide +kernel) (by decide +kernel)
set_option maxRecDepth 20000 in
theorem gL_law_X5_middle : GoodIn wsL_law (wsV RL 81 RX5 yX5_middle wsX5_middle) := goodIn_app (goodIn_of _ (by decide +kernel)) ggL_law_X5_middle
set_option maxRecDepth 20000 in
theorem ggL_law_X4_outermost : GoodIn wsL_law wsX4_outermost := goodIn_r _ [608, 15, 320, 96, 97, 2, 98, 609, 610, 611, 14, 612, 613, 614, 615, 616, 617, 522, 523, 524, 525, 44, 131, 132, 133, 134, 41, 135, 136, 137, 138, 526, 491, 492, 493, 139, 140, 141, 142, 42, 143, 144, 145, 146, 43, 318, 319, 321, 322, 323, 324, 325, 326, 327, 618, 619, 620, 621, 622, 306, 307, 308, 521, 623, 624, 625, 591, 592, 593, 683, 684, 685, 686, 687, 688, 689, 690, 713, 714, 715, 716] (by decide +kernel) (by decide +kernel)
set_option maxRecDepth 20000 in
theorem gL_law_X4_outermost : GoodIn wsL_law (wsV RL 82 RX4 yX4_outermost wsX4_outermost) := goodIn_app (goodIn_of _ (by decide +kernel)) ggL_law_X4_outermost
set_option maxRecDepth 20000 in
theorem ggL_law_X5_outermost : GoodIn wsL_law wsX5_outermost := goodIn_r _ [629, 542, 156, 157, 5, 158, 630, 631, 632, 633, 538, 539, 540, 541, 80, 506, 507, 508, 509, 510, 511, 512, 634, 635, 636, 637, 638, 639, 640, 641, 534, 535, 536, 537, 602, 603, 604, 691, 692, 693, 694, 695, 696, 697, 698, 699, 700, 701, 702, 703, 704, 705, 706, 707, 708, 709, 710, 711, 712] (by decide +kernel) (by decide +kernel)
set_option maxRecDepth 20000 in
theorem gL_law_X5_outermost : GoodIn wsL_law (wsV RL 86 RX5 yX5_outermost wsX5_outermost) := goodIn_app (goodIn_of _ (by decide +kernel)) ggL_law_X5_outermost
set_option maxRecDepth 20000 in
theorem ggL_law_X4_test : GoodIn wsL_law wsX4_test := goodIn_r _ [645, 646, 15, 320, 521, 522, 523, 14, 524, 525, 44, 131, 132, 133, 134, 41, 135, 136, 137, 138, 526, 491, 492, 493, 139, 140, 141, 142, 42, 143, 144, 145, 146, 43, 318, 2, 319, 321, 322, 323, 324, 325, 326, 327, 618, 619, 620, 621, 622, 306, 307, 308, 623, 624, 625, 683, 684, 685, 686, 687, 688, 689, 690, 713, 714, 715, 716] (by decide +kernel) (by decide +kernel)
set_option maxRecDepth 20000 in
theorem gL_law_X4_test : GoodIn wsL_law (wsV RL 87 RX4 yX4_test wsX4_test) := goodIn_app (goodIn_of _ (by decide +kernel)) ggL_law_X4_test
set_option maxRecDepth 20000 in
theorem ggL_law_X5_test : GoodIn wsL_law wsX5_test := goodIn_r _ [650, 651, 542, 538, 539, 540, 5, 541, 80, 506, 507, 508, 509, 510, 511, 512, 634, 635, 636, 637, 638, 639, 640, 641, 534, 535, 536, 537, 691, 692, 693, 694, 695, 696, 697, 698, 699, 700, 701, 702, 703, 704, 705, 706, 707, 708, 709, 710, 711, 712] (by decide +kernel) (by decide +kernel)
set_option maxRecDepth 20000 in
theorem gL_law_X5_test : GoodIn wsL_law (wsV RL 90 RX5 yX5_test wsX5_test) := goodIn_app (goodIn_of _ (by decide +kernel)) ggL_law_X5_test
set_option maxRecDepth 20000 in
theorem ggL_law_X4_compare : GoodIn wsL_law wsX4_compare := goodIn_r _ [655, 320, 293, 294, 295, 2, 296, 31, 30, 15, 297, 298, 299, 29, 300, 75, 301, 302, 303, 304, 74, 305, 306, 307, 14, 308, 44, 131, 132, 133, 134, 41, 135, 136, 137, 138, 139, 140, 141, 142, 42, 143, 144, 145, 146, 43, 309, 103, 104, 105, 310, 311, 312, 313, 314, 315, 316, 317, 318, 319, 321, 322, 323, 324, 325, 326, 327, 328, 329, 330, 331, 64, 65, 66, 67, 68, 70, 71, 73, 332, 333, 334, 335, 336, 337, 338, 339, 340, 341, 342, 343, 344, 345, 346, 347, 348, 349, 350, 351, 352, 353, 354, 355, 356, 357, 358, 359, 360, 361, 362, 363, 364, 365, 366, 367, 368, 369, 370, 371, 372, 373, 374, 375, 376, 377, 378, 379, 380, 381, 382, 383, 384, 385, 386, 387, 388, 389, 390, 391, 392, 393, 394, 587, 588, 589, 590, 683, 684, 685, 686, 687, 688, 689, 690, 726, 727, 728, 729, 730, 731, 732, 733, 734, 735, 736, 737, 738, 739, 713, 714, 715, 716] (by decide +kernel) (by decide +kernel)
set_option maxRecDepth 20000 in
theorem gL_law_X4_compare : GoodIn wsL_law (wsV RL 91 RX4 yX4_compare wsX4_compare) := goodIn_app (goodIn_of _ (by decide +kernel)) ggL_law_X4_compare
set_option maxRecDepth 20000 in
theorem ggL_law_X5_compare : GoodIn wsL_law wsX5_compare := goodIn_r _ [659, 542, 404, 405, 406, 5, 407, 90, 408, 409, 410, 80, 84, 85, 89, 86, 87, 411, 412, 413, 414, 88, 415, 416, 417, 418, 419, 420, 421, 598, 599, 600, 601, 91, 576, 577, 578, 579, 534, 535, 536, 537, 510, 511, 512, 580, 581, 582, 691, 692, 693, 694, 695, 696, 697, 698, 699, 700, 701, 702, 703, 704, 705, 706, 707, 708, 709, 710, 711, 712] (by decide +kernel) (by decide +kernel)
set_option maxRecDepth 20000 in
theorem gL_law_X5_compare : GoodIn wsL_law (wsV RL 94 RX5 yX5_compare wsX5_compare) := goodIn_app (goodIn_of _ (by decide +kernel)) ggL_law_X5_compare
set_option maxRecDepth 20000 in
theorem ggL_law_X4_count : GoodIn wsL_law wsX4_count := goodIn_r _ [663, 15, 22, 26, 102, 103, 104, 14, 105, 44, 618, 619, 620, 621, 622, 306, 307, 308, 131, 132, 133, 134, 41, 135, 136, 137, 138, 139, 140, 141, 142, 42, 143, 144, 145, 146, 43, 609, 610, 611, 612, 613, 614, 615, 616, 617, 522, 523, 524, 525, 526, 491, 492, 493, 318, 2, 319, 320, 321, 322, 323, 324, 325, 326, 327, 501, 279, 280, 293, 294, 295, 296, 31, 30, 297, 298, 299, 29, 300, 75, 301, 302, 303, 304, 74, 305, 309, 310, 311, 312, 313, 314, 315, 316, 317, 328, 329, 330, 331, 64, 65, 66, 67, 68, 70, 71, 73, 332, 333, 334, 335, 336, 337, 338, 339, 340, 341, 342, 343, 344, 345, 346, 347, 348, 349, 350, 351, 352, 353, 354, 355, 356, 357, 358, 359, 360, 361, 362, 363, 364, 365, 366, 367, 368, 369, 370, 371, 372, 373, 374, 375, 376, 377, 378, 379, 380, 381, 382, 383, 384, 385, 386, 387, 388, 389, 390, 664, 665, 666, 550, 551, 552, 553, 667, 668, 669, 670, 395, 396, 397, 398, 391, 392, 393, 394, 671, 672, 673, 587, 588, 589, 590, 494, 495, 496, 497, 498, 499, 500, 674, 454, 455, 456, 21, 457, 51, 430, 431, 432, 25, 433, 59, 683, 684, 685, 686, 687, 688, 689, 690, 713, 714, 715, 716, 726, 727, 728, 729, 730, 731, 732, 733, 734, 735, 736, 737, 738, 739, 717, 718, 719, 720, 721, 722, 723, 724, 725] (by decide +kernel) (by decide +kernel)
set_option maxRecDepth 20000 in
theorem gL_law_X4_count : GoodIn wsL_law (wsV RL 95 RX4 yX4_count wsX4_count) := goodIn_app (goodIn_of _ (by decide +kernel)) ggL_law_X4_count
set_option maxRecDepth 20000 in
theorem ggL_law_X5_count : GoodIn wsL_law wsX5_count := goodIn_r _ [678, 80, 410, 408, 163, 220, 404, 405, 406, 5, 407, 90, 409, 84, 85, 89, 86, 87, 411, 412, 413, 414, 88, 415, 416, 417, 638, 639, 640, 641, 534, 535, 536, 537, 630, 631, 632, 633, 538, 539, 540, 541, 542, 506, 507, 508, 509, 510, 511, 512, 418, 419, 420, 421, 679, 680, 681, 682, 598, 599, 600, 601, 91, 576, 577, 578, 579, 580, 581, 582, 513, 514, 515, 691, 692, 693, 694, 695, 696, 697, 698, 699, 700, 701, 702, 703, 704, 705, 706, 707, 708, 709, 710, 711, 712] (by decide +kernel) (by decide +kernel)
set_option maxRecDepth 20000 in
theorem gL_law_X5_count : GoodIn wsL_law (wsV RL 98 RX5 yX5_count wsX5_count) := goodIn_app (goodIn_of _ (by decide +kernel)) ggL_law_X5_count
theorem dL_law_0 : decode cL_law 0 = .ok (.new 7, 3) := by decide +kernel
theorem dL_law_3 : decode cL_law 3 = .ok (.dup, 1) := by decide +kernel
theorem dL_law_4 : decode cL_law 4 = .ok (.invokespecial 9, 3) := by decide +kernel
theorem dL_law_7 : decode cL_law 7 = .ok (.astore_n 1, 1) := by decide +kernel
theorem dL_law_8 : decode cL_law 8 = .ok (.new 10, 3) := by decide +kernel
theorem dL_law_11 : decode cL_law 11 = .ok (.dup, 1) := by decide +kernel
theorem dL_law_12 : decode cL_law 12 = .ok (.invokespecial 12, 3) := by decide +kernel
theorem dL_law_15 : decode cL_law 15 = .ok (.astore_n 2, 1) := by decide +kernel
theorem dL_law_16 : decode cL_law 16 = .ok (.iconst 0, 1) := by decide +kernel
theorem dL_law_17 : decode cL_law 17 = .ok (.istore_n 3, 1) := by decide +kernel
theorem dL_law_18 : decode cL_law 18 = .ok (.iload_n 3, 1) := by decide +kernel
theorem dL_law_19 : decode cL_law 19 = .ok (.aload_n 0, 1) := by decide +kernel
theorem dL_law_20 : decode cL_law 20 = .ok (.arraylength, 1) := by decide +kernel
theorem dL_law_21 : decode cL_law 21 = .ok (.iconst 4, 1) := by decide +kernel
theorem dL_law_22 : decode cL_law 22 = .ok (.isub, 1) := by decide +kernel
theorem dL_law_23 : decode cL_law 23 = .ok (.if_icmp .gt 609, 3) := by decide +kernel
theorem dL_law_26 : decode cL_law 26 = .ok (.aload_n 0, 1) := by decide +kernel
theorem dL_law_27 : decode cL_law 27 = .ok (.iload_n 3, 1) := by decide +kernel
theorem dL_law_28 : decode cL_law 28 = .ok (.iaload, 1) := by decide +kernel
theorem dL_law_29 : decode cL_law 29 = .ok (.bipush 31, 2) := by decide +kernel
theorem dL_law_31 : decode cL_law 31 = .ok (.iand, 1) := by decide +kernel
theorem dL_law_32 : decode cL_law 32 = .ok (.tableswitch 594 0 19 #[96, 139, 152, 175, 198, 211, 224, 249, 262, 275, 288, 301, 334, 367, 400, 443, 476, 525, 558, 571], 96) := by decide +kernel
theorem dL_law_128 : decode cL_law 128 = .ok (.aload_n 1, 1) := by decide +kernel
theorem dL_law_129 : decode cL_law 129 = .ok (.aload_n 0, 1) := by decide +kernel
theorem dL_law_130 : decode cL_law 130 = .ok (.iload_n 3, 1) := by decide +kernel
theorem dL_law_131 : decode cL_law 131 = .ok (.iconst 1, 1) := by decide +kernel
theorem dL_law_132 : decode cL_law 132 = .ok (.iadd, 1) := by decide +kernel
theorem dL_law_133 : decode cL_law 133 = .ok (.iaload, 1) := by decide +kernel
theorem dL_law_134 : decode cL_law 134 = .ok (.aload_n 0, 1) := by decide +kernel
theorem dL_law_135 : decode cL_law 135 = .ok (.iload_n 3, 1) := by decide +kernel
theorem dL_law_136 : decode cL_law 136 = .ok (.iconst 2, 1) := by decide +kernel
theorem dL_law_137 : decode cL_law 137 = .ok (.iadd, 1) := by decide +kernel
theorem dL_law_138 : decode cL_law 138 = .ok (.iaload, 1) := by decide +kernel
theorem dL_law_139 : decode cL_law 139 = .ok (.aload_n 0, 1) := by decide +kernel
theorem dL_law_140 : decode cL_law 140 = .ok (.iload_n 3, 1) := by decide +kernel
theorem dL_law_141 : decode cL_law 141 = .ok (.iconst 3, 1) := by decide +kernel
theorem dL_law_142 : decode cL_law 142 = .ok (.iadd, 1) := by decide +kernel
theorem dL_law_143 : decode cL_law 143 = .ok (.iaload, 1) := by decide +kernel
theorem dL_law_144 : decode cL_law 144 = .ok (.invokevirtual 13, 3) := by decide +kernel
theorem dL_law_147 : decode cL_law 147 = .ok (.aload_n 2, 1) := by decide +kernel
theorem dL_law_148 : decode cL_law 148 = .ok (.aload_n 0, 1) := by decide +kernel
theorem dL_law_149 : decode cL_law 149 = .ok (.iload_n 3, 1) := by decide +kernel
theorem dL_law_150 : decode cL_law 150 = .ok (.iconst 1, 1) := by decide +kernel
theorem dL_law_151 : decode cL_law 151 = .ok (.iadd, 1) := by decide +kernel
theorem dL_law_152 : decode cL_law 152 = .ok (.iaload, 1) := by decide +kernel
theorem dL_law_153 : decode cL_law 153 = .ok (.aload_n 0, 1) := by decide +kernel
theorem dL_law_154 : decode cL_law 154 = .ok (.iload_n 3, 1) := by decide +kernel
theorem dL_law_155 : decode cL_law 155 = .ok (.iconst 2, 1) := by decide +kernel
theorem dL_law_156 : decode cL_law 156 = .ok (.iadd, 1) := by decide +kernel
theorem dL_law_157 : decode cL_law 157 = .ok (.iaload, 1) := by decide +kernel
theorem dL_law_158 : decode cL_law 158 = .ok (.aload_n 0, 1) := by decide +kernel
theorem dL_law_159 : decode cL_law 159 = .ok (.iload_n 3, 1) := by decide +kernel
theorem dL_law_160 : decode cL_law 160 = .ok (.iconst 3, 1) := by decide +kernel
theorem dL_law_161 : decode cL_law 161 = .ok (.iadd, 1) := by decide +kernel
theorem dL_law_162 : decode cL_law 162 = .ok (.iaload, 1) := by decide +kernel
theorem dL_law_163 : decode cL_law 163 = .ok (.invokevirtual 17, 3) := by decide +kernel
theorem dL_law_166 : decode cL_law 166 = .ok (.if_icmp .eq 460, 3) := by decide +kernel
theorem dL_law_169 : decode cL_law 169 = .ok (.iconst 0, 1) := by decide +kernel
theorem dL_law_170 : decode cL_law 170 = .ok (.ireturn, 1) := by decide +kernel
theorem dL_law_171 : decode cL_law 171 = .ok (.aload_n 1, 1) := by decide +kernel
theorem dL_law_172 : decode cL_law 172 = .ok (.invokevirtual 18, 3) := by decide +kernel
theorem dL_law_175 : decode cL_law 175 = .ok (.aload_n 2, 1) := by decide +kernel
theorem dL_law_176 : decode cL_law 176 = .ok (.invokevirtual 22, 3) := by decide +kernel
theorem dL_law_179 : decode cL_law 179 = .ok (.if_icmp .eq 447, 3) := by decide +kernel
theorem dL_law_182 : decode cL_law 182 = .ok (.iconst 0, 1) := by decide +kernel
theorem dL_law_183 : decode cL_law 183 = .ok (.ireturn, 1) := by decide +kernel
theorem dL_law_184 : decode cL_law 184 = .ok (.aload_n 1, 1) := by decide +kernel
theorem dL_law_185 : decode cL_law 185 = .ok (.aload_n 0, 1) := by decide +kernel
theorem dL_law_186 : decode cL_law 186 = .ok (.iload_n 3, 1) := by decide +kernel
theorem dL_law_187 : decode cL_law 187 = .ok (.iconst 1, 1) := by decide +kernel
theorem dL_law_188 : decode cL_law 188 = .ok (.iadd, 1) := by decide +kernel
theorem dL_law_189 : decode cL_law 189 = .ok (.iaload, 1) := by decide +kernel
theorem dL_law_190 : decode cL_law 190 = .ok (.invokevirtual 23, 3) := by decide +kernel
theorem dL_law_193 : decode cL_law 193 = .ok (.aload_n 2, 1) := by decide +kernel
theorem dL_law_194 : decode cL_law 194 = .ok (.aload_n 0, 1) := by decide +kernel
theorem dL_law_195 : decode cL_law 195 = .ok (.iload_n 3, 1) := by decide +kernel
theorem dL_law_196 : decode cL_law 196 = .ok (.iconst 1, 1) := by decide +kernel
theorem dL_law_197 : decode cL_law 197 = .ok (.iadd, 1) := by decide +kernel
theorem dL_law_198 : decode cL_law 198 = .ok (.iaload, 1) := by decide +kernel
theorem dL_law_199 : decode cL_law 199 = .ok (.invokevirtual 27, 3) := by decide +kernel
theorem dL_law_202 : decode cL_law 202 = .ok (.if_icmp .eq 424, 3) := by decide +kernel
theorem dL_law_205 : decode cL_law 205 = .ok (.iconst 0, 1) := by decide +kernel
theorem dL_law_206 : decode cL_law 206 = .ok (.ireturn, 1) := by decide +kernel
theorem dL_law_207 : decode cL_law 207 = .ok (.aload_n 1, 1) := by decide +kernel
theorem dL_law_208 : decode cL_law 208 = .ok (.aload_n 0, 1) := by decide +kernel
theorem dL_law_209 : decode cL_law 209 = .ok (.iload_n 3, 1) := by decide +kernel
theorem dL_law_210 : decode cL_law 210 = .ok (.iconst 1, 1) := by decide +kernel
theorem dL_law_211 : decode cL_law 211 = .ok (.iadd, 1) := by decide +kernel
theorem dL_law_212 : decode cL_law 212 = .ok (.iaload, 1) := by decide +kernel
theorem dL_law_213 : decode cL_law 213 = .ok (.invokevirtual 28, 3) := by decide +kernel
theorem dL_law_216 : decode cL_law 216 = .ok (.aload_n 2, 1) := by decide +kernel
theorem dL_law_217 : decode cL_law 217 = .ok (.aload_n 0, 1) := by decide +kernel
theorem dL_law_218 : decode cL_law 218 = .ok (.iload_n 3, 1) := by decide +kernel
theorem dL_law_219 : decode cL_law 219 = .ok (.iconst 1, 1) := by decide +kernel
theorem dL_law_220 : decode cL_law 220 = .ok (.iadd, 1) := by decide +kernel
theorem dL_law_221 : decode cL_law 221 = .ok (.iaload, 1) := by decide +kernel
theorem dL_law_222 : decode cL_law 222 = .ok (.invokevirtual 31, 3) := by decide +kernel
theorem dL_law_225 : decode cL_law 225 = .ok (.if_icmp .eq 401, 3) := by decide +kernel
theorem dL_law_228 : decode cL_law 228 = .ok (.iconst 0, 1) := by decide +kernel
theorem dL_law_229 : decode cL_law 229 = .ok (.ireturn, 1) := by decide +kernel
theorem dL_law_230 : decode cL_law 230 = .ok (.aload_n 1, 1) := by decide +kernel
theorem dL_law_231 : decode cL_law 231 = .ok (.invokevirtual 32, 3) := by decide +kernel
theorem dL_law_234 : decode cL_law 234 = .ok (.aload_n 2, 1) := by decide +kernel
theorem dL_law_235 : decode cL_law 235 = .ok (.invokevirtual 35, 3) := by decide +kernel
theorem dL_law_238 : decode cL_law 238 = .ok (.if_icmp .eq 388, 3) := by decide +kernel
theorem dL_law_241 : decode cL_law 241 = .ok (.iconst 0, 1) := by decide +kernel
theorem dL_law_242 : decode cL_law 242 = .ok (.ireturn, 1) := by decide +kernel
theorem dL_law_243 : decode cL_law 243 = .ok (.aload_n 1, 1) := by decide +kernel
theorem dL_law_244 : decode cL_law 244 = .ok (.invokevirtual 36, 3) := by decide +kernel
theorem dL_law_247 : decode cL_law 247 = .ok (.aload_n 2, 1) := by decide +kernel
theorem dL_law_248 : decode cL_law 248 = .ok (.invokevirtual 39, 3) := by decide +kernel
theorem dL_law_251 : decode cL_law 251 = .ok (.if_icmp .eq 375, 3) := by decide +kernel
theorem dL_law_254 : decode cL_law 254 = .ok (.iconst 0, 1) := by decide +kernel
theorem dL_law_255 : decode cL_law 255 = .ok (.ireturn, 1) := by decide +kernel
theorem dL_law_256 : decode cL_law 256 = .ok (.aload_n 1, 1) := by decide +kernel
theorem dL_law_257 : decode cL_law 257 = .ok (.aload_n 0, 1) := by decide +kernel
theorem dL_law_258 : decode cL_law 258 = .ok (.iload_n 3, 1) := by decide +kernel
theorem dL_law_259 : decode cL_law 259 = .ok (.iconst 1, 1) := by decide +kernel
theorem dL_law_260 : decode cL_law 260 = .ok (.iadd, 1) := by decide +kernel
theorem dL_law_261 : decode cL_law 261 = .ok (.iaload, 1) := by decide +kernel
theorem dL_law_262 : decode cL_law 262 = .ok (.i2c, 1) := by decide +kernel
theorem dL_law_263 : decode cL_law 263 = .ok (.invokevirtual 40, 3) := by decide +kernel
theorem dL_law_266 : decode cL_law 266 = .ok (.aload_n 2, 1) := by decide +kernel
theorem dL_law_267 : decode cL_law 267 = .ok (.aload_n 0, 1) := by decide +kernel
theorem dL_law_268 : decode cL_law 268 = .ok (.iload_n 3, 1) := by decide +kernel
theorem dL_law_269 : decode cL_law 269 = .ok (.iconst 1, 1) := by decide +kernel
theorem dL_law_270 : decode cL_law 270 = .ok (.iadd, 1) := by decide +kernel
theorem dL_law_271 : decode cL_law 271 = .ok (.iaload, 1) := by decide +kernel
theorem dL_law_272 : decode cL_law 272 = .ok (.i2c, 1) := by decide +kernel
theorem dL_law_273 : decode cL_law 273 = .ok (.invokevirtual 44, 3) := by decide +kernel
theorem dL_law_276 : decode cL_law 276 = .ok (.if_icmp .eq 350, 3) := by decide +kernel
theorem dL_law_279 : decode cL_law 279 = .ok (.iconst 0, 1) := by decide +kernel
theorem dL_law_280 : decode cL_law 280 = .ok (.ireturn, 1) := by decide +kernel
theorem dL_law_281 : decode cL_law 281 = .ok (.aload_n 1, 1) := by decide +kernel
theorem dL_law_282 : decode cL_law 282 = .ok (.invokevirtual 45, 3) := by decide +kernel
theorem dL_law_285 : decode cL_law 285 = .ok (.aload_n 2, 1) := by decide +kernel
theorem dL_law_286 : decode cL_law 286 = .ok (.invokevirtual 48, 3) := by decide +kernel
theorem dL_law_289 : decode cL_law 289 = .ok (.if_icmp .eq 337, 3) := by decide +kernel
theorem dL_law_292 : decode cL_law 292 = .ok (.iconst 0, 1) := by decide +kernel
theorem dL_law_293 : decode cL_law 293 = .ok (.ireturn, 1) := by decide +kernel
theorem dL_law_294 : decode cL_law 294 = .ok (.aload_n 1, 1) := by decide +kernel
theorem dL_law_295 : decode cL_law 295 = .ok (.invokevirtual 49, 3) := by decide +kernel
theorem dL_law_298 : decode cL_law 298 = .ok (.aload_n 2, 1) := by decide +kernel
theorem dL_law_299 : decode cL_law 299 = .ok (.invokevirtual 52, 3) := by decide +kernel
theorem dL_law_302 : decode cL_law 302 = .ok (.if_icmp .eq 324, 3) := by decide +kernel
theorem dL_law_305 : decode cL_law 305 = .ok (.iconst 0, 1) := by decide +kernel
theorem dL_law_306 : decode cL_law 306 = .ok (.ireturn, 1) := by decide +kernel
theorem dL_law_307 : decode cL_law 307 = .ok (.aload_n 1, 1) := by decide +kernel
theorem dL_law_308 : decode cL_law 308 = .ok (.invokevirtual 53, 3) := by decide +kernel
theorem dL_law_311 : decode cL_law 311 = .ok (.aload_n 2, 1) := by decide +kernel
theorem dL_law_312 : decode cL_law 312 = .ok (.invokevirtual 56, 3) := by decide +kernel
theorem dL_law_315 : decode cL_law 315 = .ok (.if_icmp .eq 311, 3) := by decide +kernel
theorem dL_law_318 : decode cL_law 318 = .ok (.iconst 0, 1) := by decide +kernel
theorem dL_law_319 : decode cL_law 319 = .ok (.ireturn, 1) := by decide +kernel
theorem dL_law_320 : decode cL_law 320 = .ok (.aload_n 1, 1) := by decide +kernel
theorem dL_law_321 : decode cL_law 321 = .ok (.invokevirtual 57, 3) := by decide +kernel
theorem dL_law_324 : decode cL_law 324 = .ok (.aload_n 2, 1) := by decide +kernel
theorem dL_law_325 : decode cL_law 325 = .ok (.invokevirtual 60, 3) := by decide +kernel
theorem dL_law_328 : decode cL_law 328 = .ok (.if_icmp .eq 298, 3) := by decide +kernel
theorem dL_law_331 : decode cL_law 331 = .ok (.iconst 0, 1) := by decide +kernel
theorem dL_law_332 : decode cL_law 332 = .ok (.ireturn, 1) := by decide +kernel
theorem dL_law_333 : decode cL_law 333 = .ok (.aload_n 1, 1) := by decide +kernel
theorem dL_law_334 : decode cL_law 334 = .ok (.aload_n 0, 1) := by decide +kernel
theorem dL_law_335 : decode cL_law 335 = .ok (.iload_n 3, 1) := by decide +kernel
theorem dL_law_336 : decode cL_law 336 = .ok (.iconst 1, 1) := by decide +kernel
theorem dL_law_337 : decode cL_law 337 = .ok (.iadd, 1) := by decide +kernel
theorem dL_law_338 : decode cL_law 338 = .ok (.iaload, 1) := by decide +kernel
theorem dL_law_339 : decode cL_law 339 = .ok (.aload_n 0, 1) := by decide +kernel
theorem dL_law_340 : decode cL_law 340 = .ok (.iload_n 3, 1) := by decide +kernel
theorem dL_law_341 : decode cL_law 341 = .ok (.iconst 2, 1) := by decide +kernel
theorem dL_law_342 : decode cL_law 342 = .ok (.iadd, 1) := by decide +kernel
theorem dL_law_343 : decode cL_law 343 = .ok (.iaload, 1) := by decide +kernel
theorem dL_law_344 : decode cL_law 344 = .ok (.invokevirtual 61, 3) := by decide +kernel
theorem dL_law_347 : decode cL_law 347 = .ok (.aload_n 2, 1) := by decide +kernel
theorem dL_law_348 : decode cL_law 348 = .ok (.aload_n 0, 1) := by decide +kernel
theorem dL_law_349 : decode cL_law 349 = .ok (.iload_n 3, 1) := by decide +kernel
theorem dL_law_350 : decode cL_law 350 = .ok (.iconst 1, 1) := by decide +kernel
theorem dL_law_351 : decode cL_law 351 = .ok (.iadd, 1) := by decide +kernel
theorem dL_law_352 : decode cL_law 352 = .ok (.iaload, 1) := by decide +kernel
theorem dL_law_353 : decode cL_law 353 = .ok (.aload_n 0, 1) := by decide +kernel
theorem dL_law_354 : decode cL_law 354 = .ok (.iload_n 3, 1) := by decide +kernel
theorem dL_law_355 : decode cL_law 355 = .ok (.iconst 2, 1) := by decide +kernel
theorem dL_law_356 : decode cL_law 356 = .ok (.iadd, 1) := by decide +kernel
theorem dL_law_357 : decode cL_law 357 = .ok (.iaload, 1) := by decide +kernel
theorem dL_law_358 : decode cL_law 358 = .ok (.invokevirtual 65, 3) := by decide +kernel
theorem dL_law_361 : decode cL_law 361 = .ok (.if_icmp .eq 265, 3) := by decide +kernel
theorem dL_law_364 : decode cL_law 364 = .ok (.iconst 0, 1) := by decide +kernel
theorem dL_law_365 : decode cL_law 365 = .ok (.ireturn, 1) := by decide +kernel
theorem dL_law_366 : decode cL_law 366 = .ok (.aload_n 1, 1) := by decide +kernel
theorem dL_law_367 : decode cL_law 367 = .ok (.aload_n 0, 1) := by decide +kernel
theorem dL_law_368 : decode cL_law 368 = .ok (.iload_n 3, 1) := by decide +kernel
theorem dL_law_369 : decode cL_law 369 = .ok (.iconst 1, 1) := by decide +kernel
theorem dL_law_370 : decode cL_law 370 = .ok (.iadd, 1) := by decide +kernel
theorem dL_law_371 : decode cL_law 371 = .ok (.iaload, 1) := by decide +kernel
theorem dL_law_372 : decode cL_law 372 = .ok (.aload_n 0, 1) := by decide +kernel
theorem dL_law_373 : decode cL_law 373 = .ok (.iload_n 3, 1) := by decide +kernel
theorem dL_law_374 : decode cL_law 374 = .ok (.iconst 2, 1) := by decide +kernel
theorem dL_law_375 : decode cL_law 375 = .ok (.iadd, 1) := by decide +kernel
theorem dL_law_376 : decode cL_law 376 = .ok (.iaload, 1) := by decide +kernel
theorem dL_law_377 : decode cL_law 377 = .ok (.invokevirtual 66, 3) := by decide +kernel
theorem dL_law_380 : decode cL_law 380 = .ok (.aload_n 2, 1) := by decide +kernel
theorem dL_law_381 : decode cL_law 381 = .ok (.aload_n 0, 1) := by decide +kernel
theorem dL_law_382 : decode cL_law 382 = .ok (.iload_n 3, 1) := by decide +kernel
theorem dL_law_383 : decode cL_law 383 = .ok (.iconst 1, 1) := by decide +kernel
theorem dL_law_384 : decode cL_law 384 = .ok (.iadd, 1) := by decide +kernel
theorem dL_law_385 : decode cL_law 385 = .ok (.iaload, 1) := by decide +kernel
theorem dL_law_386 : decode cL_law 386 = .ok (.aload_n 0, 1) := by decide +kernel
theorem dL_law_387 : decode cL_law 387 = .ok (.iload_n 3, 1) := by decide +kernel
theorem dL_law_388 : decode cL_law 388 = .ok (.iconst 2, 1) := by decide +kernel
theorem dL_law_389 : decode cL_law 389 = .ok (.iadd, 1) := by decide +kernel
theorem dL_law_390 : decode cL_law 390 = .ok (.iaload, 1) := by decide +kernel
theorem dL_law_391 : decode cL_law 391 = .ok (.invokevirtual 69, 3) := by decide +kernel
theorem dL_law_394 : decode cL_law 394 = .ok (.if_icmp .eq 232, 3) := by decide +kernel
theorem dL_law_397 : decode cL_law 397 = .ok (.iconst 0, 1) := by decide +kernel
theorem dL_law_398 : decode cL_law 398 = .ok (.ireturn, 1) := by decide +kernel
theorem dL_law_399 : decode cL_law 399 = .ok (.aload_n 1, 1) := by decide +kernel
theorem dL_law_400 : decode cL_law 400 = .ok (.aload_n 0, 1) := by decide +kernel
theorem dL_law_401 : decode cL_law 401 = .ok (.iload_n 3, 1) := by decide +kernel
theorem dL_law_402 : decode cL_law 402 = .ok (.iconst 1, 1) := by decide +kernel
theorem dL_law_403 : decode cL_law 403 = .ok (.iadd, 1) := by decide +kernel
theorem dL_law_404 : decode cL_law 404 = .ok (.iaload, 1) := by decide +kernel
theorem dL_law_405 : decode cL_law 405 = .ok (.aload_n 0, 1) := by decide +kernel
theorem dL_law_406 : decode cL_law 406 = .ok (.iload_n 3, 1) := by decide +kernel
theorem dL_law_407 : decode cL_law 407 = .ok (.iconst 2, 1) := by decide +kernel
theorem dL_law_408 : decode cL_law 408 = .ok (.iadd, 1) := by decide +kernel
theorem dL_law_409 : decode cL_law 409 = .ok (.iaload, 1) := by decide +kernel
theorem dL_law_410 : decode cL_law 410 = .ok (.invokevirtual 70, 3) := by decide +kernel
theorem dL_law_413 : decode cL_law 413 = .ok (.aload_n 2, 1) := by decide +kernel
theorem dL_law_414 : decode cL_law 414 = .ok (.aload_n 0, 1) := by decide +kernel
theorem dL_law_415 : decode cL_law 415 = .ok (.iload_n 3, 1) := by decide +kernel
theorem dL_law_416 : decode cL_law 416 = .ok (.iconst 1, 1) := by decide +kernel
theorem dL_law_417 : decode cL_law 417 = .ok (.iadd, 1) := by decide +kernel
theorem dL_law_418 : decode cL_law 418 = .ok (.iaload, 1) := by decide +kernel
theorem dL_law_419 : decode cL_law 419 = .ok (.aload_n 0, 1) := by decide +kernel
theorem dL_law_420 : decode cL_law 420 = .ok (.iload_n 3, 1) := by decide +kernel
theorem dL_law_421 : decode cL_law 421 = .ok (.iconst 2, 1) := by decide +kernel
theorem dL_law_422 : decode cL_law 422 = .ok (.iadd, 1) := by decide +kernel
theorem dL_law_423 : decode cL_law 423 = .ok (.iaload, 1) := by decide +kernel
theorem dL_law_424 : decode cL_law 424 = .ok (.invokevirtual 73, 3) := by decide +kernel
theorem dL_law_427 : decode cL_law 427 = .ok (.if_icmp .eq 199, 3) := by decide +kernel
theorem dL_law_430 : decode cL_law 430 = .ok (.iconst 0, 1) := by decide +kernel
theorem dL_law_431 : decode cL_law 431 = .ok (.ireturn, 1) := by decide +kernel
theorem dL_law_432 : decode cL_law 432 = .ok (.aload_n 1, 1) := by decide +kernel
theorem dL_law_433 : decode cL_law 433 = .ok (.aload_n 0, 1) := by decide +kernel
theorem dL_law_434 : decode cL_law 434 = .ok (.iload_n 3, 1) := by decide +kernel
theorem dL_law_435 : decode cL_law 435 = .ok (.iconst 1, 1) := by decide +kernel
theorem dL_law_436 : decode cL_law 436 = .ok (.iadd, 1) := by decide +kernel
theorem dL_law_437 : decode cL_law 437 = .ok (.iaload, 1) := by decide +kernel
theorem dL_law_438 : decode cL_law 438 = .ok (.aload_n 0, 1) := by decide +kernel
theorem dL_law_439 : decode cL_law 439 = .ok (.iload_n 3, 1) := by decide +kernel
theorem dL_law_440 : decode cL_law 440 = .ok (.iconst 2, 1) := by decide +kernel
theorem dL_law_441 : decode cL_law 441 = .ok (.iadd, 1) := by decide +kernel
theorem dL_law_442 : decode cL_law 442 = .ok (.iaload, 1) := by decide +kernel
theorem dL_law_443 : decode cL_law 443 = .ok (.aload_n 0, 1) := by decide +kernel
theorem dL_law_444 : decode cL_law 444 = .ok (.iload_n 3, 1) := by decide +kernel
theorem dL_law_445 : decode cL_law 445 = .ok (.iconst 3, 1) := by decide +kernel
theorem dL_law_446 : decode cL_law 446 = .ok (.iadd, 1) := by decide +kernel
theorem dL_law_447 : decode cL_law 447 = .ok (.iaload, 1) := by decide +kernel
theorem dL_law_448 : decode cL_law 448 = .ok (.invokevirtual 74, 3) := by decide +kernel
theorem dL_law_451 : decode cL_law 451 = .ok (.aload_n 2, 1) := by decide +kernel
theorem dL_law_452 : decode cL_law 452 = .ok (.aload_n 0, 1) := by decide +kernel
theorem dL_law_453 : decode cL_law 453 = .ok (.iload_n 3, 1) := by decide +kernel
theorem dL_law_454 : decode cL_law 454 = .ok (.iconst 1, 1) := by decide +kernel
theorem dL_law_455 : decode cL_law 455 = .ok (.iadd, 1) := by decide +kernel
theorem dL_law_456 : decode cL_law 456 = .ok (.iaload, 1) := by decide +kernel
theorem dL_law_457 : decode cL_law 457 = .ok (.aload_n 0, 1) := by decide +kernel
theorem dL_law_458 : decode cL_law 458 = .ok (.iload_n 3, 1) := by decide +kernel
theorem dL_law_459 : decode cL_law 459 = .ok (.iconst 2, 1) := by decide +kernel
theorem dL_law_460 : decode cL_law 460 = .ok (.iadd, 1) := by decide +kernel
theorem dL_law_461 : decode cL_law 461 = .ok (.iaload, 1) := by decide +kernel
theorem dL_law_462 : decode cL_law 462 = .ok (.aload_n 0, 1) := by decide +kernel
theorem dL_law_463 : decode cL_law 463 = .ok (.iload_n 3, 1) := by decide +kernel
theorem dL_law_464 : decode cL_law 464 = .ok (.iconst 3, 1) := by decide +kernel
theorem dL_law_465 : decode cL_law 465 = .ok (.iadd, 1) := by decide +kernel
theorem dL_law_466 : decode cL_law 466 = .ok (.iaload, 1) := by decide +kernel
theorem dL_law_467 : decode cL_law 467 = .ok (.invokevirtual 77, 3) := by decide +kernel
theorem dL_law_470 : decode cL_law 470 = .ok (.if_icmp .eq 156, 3) := by decide +kernel
theorem dL_law_473 : decode cL_law 473 = .ok (.iconst 0, 1) := by decide +kernel
theorem dL_law_474 : decode cL_law 474 = .ok (.ireturn, 1) := by decide +kernel
theorem dL_law_475 : decode cL_law 475 = .ok (.aload_n 1, 1) := by decide +kernel
theorem dL_law_476 : decode cL_law 476 = .ok (.aload_n 0, 1) := by decide +kernel
theorem dL_law_477 : decode cL_law 477 = .ok (.iload_n 3, 1) := by decide +kernel
theorem dL_law_478 : decode cL_law 478 = .ok (.iconst 1, 1) := by decide +kernel
theorem dL_law_479 : decode cL_law 479 = .ok (.iadd, 1) := by decide +kernel
theorem dL_law_480 : decode cL_law 480 = .ok (.iaload, 1) := by decide +kernel
theorem dL_law_481 : decode cL_law 481 = .ok (.aload_n 0, 1) := by decide +kernel
theorem dL_law_482 : decode cL_law 482 = .ok (.iload_n 3, 1) := by decide +kernel
theorem dL_law_483 : decode cL_law 483 = .ok (.iconst 2, 1) := by decide +kernel
theorem dL_law_484 : decode cL_law 484 = .ok (.iadd, 1) := by decide +kernel
theorem dL_law_485 : decode cL_law 485 = .ok (.iaload, 1) := by decide +kernel
theorem dL_law_486 : decode cL_law 486 = .ok (.invokevirtual 78, 3) := by decide +kernel
theorem dL_law_489 : decode cL_law 489 = .ok (.aload_n 2, 1) := by decide +kernel
theorem dL_law_490 : decode cL_law 490 = .ok (.aload_n 0, 1) := by decide +kernel
theorem dL_law_491 : decode cL_law 491 = .ok (.iload_n 3, 1) := by decide +kernel
theorem dL_law_492 : decode cL_law 492 = .ok (.iconst 1, 1) := by decide +kernel
theorem dL_law_493 : decode cL_law 493 = .ok (.iadd, 1) := by decide +kernel
theorem dL_law_494 : decode cL_law 494 = .ok (.iaload, 1) := by decide +kernel
theorem dL_law_495 : decode cL_law 495 = .ok (.aload_n 0, 1) := by decide +kernel
theorem dL_law_496 : decode cL_law 496 = .ok (.iload_n 3, 1) := by decide +kernel
theorem dL_law_497 : decode cL_law 497 = .ok (.iconst 2, 1) := by decide +kernel
theorem dL_law_498 : decode cL_law 498 = .ok (.iadd, 1) := by decide +kernel
theorem dL_law_499 : decode cL_law 499 = .ok (.iaload, 1) := by decide +kernel
theorem dL_law_500 : decode cL_law 500 = .ok (.invokevirtual 81, 3) := by decide +kernel
theorem dL_law_503 : decode cL_law 503 = .ok (.if_icmp .eq 123, 3) := by decide +kernel
theorem dL_law_506 : decode cL_law 506 = .ok (.iconst 0, 1) := by decide +kernel
theorem dL_law_507 : decode cL_law 507 = .ok (.ireturn, 1) := by decide +kernel
theorem dL_law_508 : decode cL_law 508 = .ok (.aload_n 1, 1) := by decide +kernel
theorem dL_law_509 : decode cL_law 509 = .ok (.aload_n 0, 1) := by decide +kernel
theorem dL_law_510 : decode cL_law 510 = .ok (.iload_n 3, 1) := by decide +kernel
theorem dL_law_511 : decode cL_law 511 = .ok (.iconst 1, 1) := by decide +kernel
theorem dL_law_512 : decode cL_law 512 = .ok (.iadd, 1) := by decide +kernel
theorem dL_law_513 : decode cL_law 513 = .ok (.iaload, 1) := by decide +kernel
theorem dL_law_514 : decode cL_law 514 = .ok (.ifCond .eq 7, 3) := by decide +kernel
theorem dL_law_517 : decode cL_law 517 = .ok (.iconst 1, 1) := by decide +kernel
theorem dL_law_518 : decode cL_law 518 = .ok (.goto 4, 3) := by decide +kernel
theorem dL_law_521 : decode cL_law 521 = .ok (.iconst 0, 1) := by decide +kernel
theorem dL_law_522 : decode cL_law 522 = .ok (.aload_n 0, 1) := by decide +kernel
theorem dL_law_523 : decode cL_law 523 = .ok (.iload_n 3, 1) := by decide +kernel
theorem dL_law_524 : decode cL_law 524 = .ok (.iconst 2, 1) := by decide +kernel
theorem dL_law_525 : decode cL_law 525 = .ok (.iadd, 1) := by decide +kernel
theorem dL_law_526 : decode cL_law 526 = .ok (.iaload, 1) := by decide +kernel
theorem dL_law_527 : decode cL_law 527 = .ok (.invokevirtual 82, 3) := by decide +kernel
theorem dL_law_530 : decode cL_law 530 = .ok (.aload_n 2, 1) := by decide +kernel
theorem dL_law_531 : decode cL_law 531 = .ok (.aload_n 0, 1) := by decide +kernel
theorem dL_law_532 : decode cL_law 532 = .ok (.iload_n 3, 1) := by decide +kernel
theorem dL_law_533 : decode cL_law 533 = .ok (.iconst 1, 1) := by decide +kernel
theorem dL_law_534 : decode cL_law 534 = .ok (.iadd, 1) := by decide +kernel
theorem dL_law_535 : decode cL_law 535 = .ok (.iaload, 1) := by decide +kernel
theorem dL_law_536 : decode cL_law 536 = .ok (.ifCond .eq 7, 3) := by decide +kernel
theorem dL_law_539 : decode cL_law 539 = .ok (.iconst 1, 1) := by decide +kernel
theorem dL_law_540 : decode cL_law 540 = .ok (.goto 4, 3) := by decide +kernel
theorem dL_law_543 : decode cL_law 543 = .ok (.iconst 0, 1) := by decide +kernel
theorem dL_law_544 : decode cL_law 544 = .ok (.aload_n 0, 1) := by decide +kernel
theorem dL_law_545 : decode cL_law 545 = .ok (.iload_n 3, 1) := by decide +kernel
theorem dL_law_546 : decode cL_law 546 = .ok (.iconst 2, 1) := by decide +kernel
theorem dL_law_547 : decode cL_law 547 = .ok (.iadd, 1) := by decide +kernel
theorem dL_law_548 : decode cL_law 548 = .ok (.iaload, 1) := by decide +kernel
theorem dL_law_549 : decode cL_law 549 = .ok (.invokevirtual 86, 3) := by decide +kernel
theorem dL_law_552 : decode cL_law 552 = .ok (.if_icmp .eq 74, 3) := by decide +kernel
theorem dL_law_555 : decode cL_law 555 = .ok (.iconst 0, 1) := by decide +kernel
theorem dL_law_556 : decode cL_law 556 = .ok (.ireturn, 1) := by decide +kernel
theorem dL_law_557 : decode cL_law 557 = .ok (.aload_n 1, 1) := by decide +kernel
theorem dL_law_558 : decode cL_law 558 = .ok (.aload_n 0, 1) := by decide +kernel
theorem dL_law_559 : decode cL_law 559 = .ok (.iload_n 3, 1) := by decide +kernel
theorem dL_law_560 : decode cL_law 560 = .ok (.iconst 1, 1) := by decide +kernel
theorem dL_law_561 : decode cL_law 561 = .ok (.iadd, 1) := by decide +kernel
theorem dL_law_562 : decode cL_law 562 = .ok (.iaload, 1) := by decide +kernel
theorem dL_law_563 : decode cL_law 563 = .ok (.aload_n 0, 1) := by decide +kernel
theorem dL_law_564 : decode cL_law 564 = .ok (.iload_n 3, 1) := by decide +kernel
theorem dL_law_565 : decode cL_law 565 = .ok (.iconst 2, 1) := by decide +kernel
theorem dL_law_566 : decode cL_law 566 = .ok (.iadd, 1) := by decide +kernel
theorem dL_law_567 : decode cL_law 567 = .ok (.iaload, 1) := by decide +kernel
theorem dL_law_568 : decode cL_law 568 = .ok (.invokevirtual 87, 3) := by decide +kernel
theorem dL_law_571 : decode cL_law 571 = .ok (.aload_n 2, 1) := by decide +kernel
theorem dL_law_572 : decode cL_law 572 = .ok (.aload_n 0, 1) := by decide +kernel
theorem dL_law_573 : decode cL_law 573 = .ok (.iload_n 3, 1) := by decide +kernel
theorem dL_law_574 : decode cL_law 574 = .ok (.iconst 1, 1) := by decide +kernel
theorem dL_law_575 : decode cL_law 575 = .ok (.iadd, 1) := by decide +kernel
theorem dL_law_576 : decode cL_law 576 = .ok (.iaload, 1) := by decide +kernel
theorem dL_law_577 : decode cL_law 577 = .ok (.aload_n 0, 1) := by decide +kernel
theorem dL_law_578 : decode cL_law 578 = .ok (.iload_n 3, 1) := by decide +kernel
theorem dL_law_579 : decode cL_law 579 = .ok (.iconst 2, 1) := by decide +kernel
theorem dL_law_580 : decode cL_law 580 = .ok (.iadd, 1) := by decide +kernel
theorem dL_law_581 : decode cL_law 581 = .ok (.iaload, 1) := by decide +kernel
theorem dL_law_582 : decode cL_law 582 = .ok (.invokevirtual 90, 3) := by decide +kernel
theorem dL_law_585 : decode cL_law 585 = .ok (.if_icmp .eq 41, 3) := by decide +kernel
theorem dL_law_588 : decode cL_law 588 = .ok (.iconst 0, 1) := by decide +kernel
theorem dL_law_589 : decode cL_law 589 = .ok (.ireturn, 1) := by decide +kernel
theorem dL_law_590 : decode cL_law 590 = .ok (.aload_n 1, 1) := by decide +kernel
theorem dL_law_591 : decode cL_law 591 = .ok (.invokevirtual 91, 3) := by decide +kernel
theorem dL_law_594 : decode cL_law 594 = .ok (.aload_n 2, 1) := by decide +kernel
theorem dL_law_595 : decode cL_law 595 = .ok (.invokevirtual 94, 3) := by decide +kernel
theorem dL_law_598 : decode cL_law 598 = .ok (.if_icmp .eq 28, 3) := by decide +kernel
theorem dL_law_601 : decode cL_law 601 = .ok (.iconst 0, 1) := by decide +kernel
theorem dL_law_602 : decode cL_law 602 = .ok (.ireturn, 1) := by decide +kernel
theorem dL_law_603 : decode cL_law 603 = .ok (.aload_n 1, 1) := by decide +kernel
theorem dL_law_604 : decode cL_law 604 = .ok (.aload_n 0, 1) := by decide +kernel
theorem dL_law_605 : decode cL_law 605 = .ok (.iload_n 3, 1) := by decide +kernel
theorem dL_law_606 : decode cL_law 606 = .ok (.iconst 1, 1) := by decide +kernel
theorem dL_law_607 : decode cL_law 607 = .ok (.iadd, 1) := by decide +kernel
theorem dL_law_608 : decode cL_law 608 = .ok (.iaload, 1) := by decide +kernel
theorem dL_law_609 : decode cL_law 609 = .ok (.invokevirtual 95, 3) := by decide +kernel
theorem dL_law_612 : decode cL_law 612 = .ok (.aload_n 2, 1) := by decide +kernel
theorem dL_law_613 : decode cL_law 613 = .ok (.aload_n 0, 1) := by decide +kernel
theorem dL_law_614 : decode cL_law 614 = .ok (.iload_n 3, 1) := by decide +kernel
theorem dL_law_615 : decode cL_law 615 = .ok (.iconst 1, 1) := by decide +kernel
theorem dL_law_616 : decode cL_law 616 = .ok (.iadd, 1) := by decide +kernel
theorem dL_law_617 : decode cL_law 617 = .ok (.iaload, 1) := by decide +kernel
theorem dL_law_618 : decode cL_law 618 = .ok (.invokevirtual 98, 3) := by decide +kernel
theorem dL_law_621 : decode cL_law 621 = .ok (.if_icmp .eq 5, 3) := by decide +kernel
theorem dL_law_624 : decode cL_law 624 = .ok (.iconst 0, 1) := by decide +kernel
theorem dL_law_625 : decode cL_law 625 = .ok (.ireturn, 1) := by decide +kernel
theorem dL_law_626 : decode cL_law 626 = .ok (.iinc 3 4, 3) := by decide +kernel
theorem dL_law_629 : decode cL_law 629 = .ok (.goto (-611), 3) := by decide +kernel
theorem dL_law_632 : decode cL_law 632 = .ok (.iconst 1, 1) := by decide +kernel
theorem dL_law_633 : decode cL_law 633 = .ok (.ireturn, 1) := by decide +kernel
abbrev vwCl : List vw_C := [(RX0, TX0, 4), (RX1, TX1, 2), (RX2, TX2, 14), (RX3, TX3, 7), (RX4, TX4, 8), (RX5, TX5, 22)]
