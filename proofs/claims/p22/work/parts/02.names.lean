/-! names, cut out of the printed text -/
def RX0 : String := "Swarmhall$Asks"
def TX0 : u_T := fun k => match k with
  | 0 => ("Swarmhall$Asks", "blocks", "[I", true)
  | 1 => ("Swarmhall$Asks", "others", "[I", true)
  | 2 => ("Swarmhall$Asks", "count", "I", false)
  | _ => ("Swarmhall$Asks", "asked", "J", false)
def tyX0 : Nat → FieldType := fun k => match k with
  | 0 => .array .int
  | 1 => .array .int
  | 2 => .int
  | _ => .long
abbrev wsX00 : List Cond := u_ws RX0 TX0 4
theorem nmX0 : ∀ a, a < 4 → ∀ b, b < 4 → a ≠ b → (TX0 a).2.1 ≠ (TX0 b).2.1 := by decide +kernel
theorem tyX0_ok : ∀ k, k < 4 → parseFieldDescriptor (TX0 k).2.2.1 = some (tyX0 k) := by decide +kernel
abbrev cX0_init : ByteArray := prog_2_method_1_code
def yX0_init : MethodName := ⟨RX0, "<init>", "()V"⟩
abbrev cX0_clear : ByteArray := prog_2_method_2_code
def yX0_clear : MethodName := ⟨RX0, "clear", "()V"⟩
abbrev cX0_add : ByteArray := prog_2_method_3_code
def yX0_add : MethodName := ⟨RX0, "add", "(II)V"⟩
def RX1 : String := "Swarmhall$Log"
def TX1 : u_T := fun k => match k with
  | 0 => ("Swarmhall$Log", "heldAtFirst", "I", true)
  | 1 => ("Swarmhall$Log", "entries", "[I", true)
  | _ => ("Swarmhall$Log", "count", "I", false)
def tyX1 : Nat → FieldType := fun k => match k with
  | 0 => .int
  | 1 => .array .int
  | _ => .int
abbrev wsX10 : List Cond := u_ws RX1 TX1 3
theorem nmX1 : ∀ a, a < 3 → ∀ b, b < 3 → a ≠ b → (TX1 a).2.1 ≠ (TX1 b).2.1 := by decide +kernel
theorem tyX1_ok : ∀ k, k < 3 → parseFieldDescriptor (TX1 k).2.2.1 = some (tyX1 k) := by decide +kernel
abbrev cX1_init : ByteArray := prog_3_method_1_code
def yX1_init : MethodName := ⟨RX1, "<init>", "(I)V"⟩
abbrev cX1_add : ByteArray := prog_3_method_2_code
def yX1_add : MethodName := ⟨RX1, "add", "(IIZ)V"⟩
abbrev cX1_replayHeld : ByteArray := prog_3_method_3_code
def yX1_replayHeld : MethodName := ⟨RX1, "replayHeld", "()I"⟩
def RX2 : String := "Swarmhall$Peer"
def TX2 : u_T := fun k => match k with
  | 0 => ("Swarmhall$Peer", "number", "I", true)
  | 1 => ("Swarmhall$Peer", "store", "LSwarmhall$Store;", true)
  | 2 => ("Swarmhall$Peer", "log", "LSwarmhall$Log;", true)
  | 3 => ("Swarmhall$Peer", "asks", "LSwarmhall$Asks;", true)
  | 4 => ("Swarmhall$Peer", "spoiled", "I", false)
  | 5 => ("Swarmhall$Peer", "inSequence", "Z", false)
  | 6 => ("Swarmhall$Peer", "careful", "Z", false)
  | 7 => ("Swarmhall$Peer", "cameFrom", "[J", true)
  | 8 => ("Swarmhall$Peer", "gotOf", "[I", true)
  | 9 => ("Swarmhall$Peer", "strikesAgainst", "[I", true)
  | 10 => ("Swarmhall$Peer", "banned", "I", false)
  | 11 => ("Swarmhall$Peer", "doublesCome", "I", false)
  | 12 => ("Swarmhall$Peer", "shownNow", "[I", true)
  | _ => ("Swarmhall$Peer", "chosenNow", "I", false)
def tyX2 : Nat → FieldType := fun k => match k with
  | 0 => .int
  | 1 => .object "Swarmhall$Store"
  | 2 => .object "Swarmhall$Log"
  | 3 => .object "Swarmhall$Asks"
  | 4 => .int
  | 5 => .boolean
  | 6 => .boolean
  | 7 => .array .long
  | 8 => .array .int
  | 9 => .array .int
  | 10 => .int
  | 11 => .int
  | 12 => .array .int
  | _ => .int
abbrev wsX20 : List Cond := u_ws RX2 TX2 14
theorem nmX2 : ∀ a, a < 14 → ∀ b, b < 14 → a ≠ b → (TX2 a).2.1 ≠ (TX2 b).2.1 := by decide +kernel
theorem tyX2_ok : ∀ k, k < 14 → parseFieldDescriptor (TX2 k).2.2.1 = some (tyX2 k) := by decide +kernel
abbrev cX2_init : ByteArray := prog_4_method_1_code
def yX2_init : MethodName := ⟨RX2, "<init>", "(II)V"⟩
abbrev cX2_blame : ByteArray := prog_4_method_2_code
def yX2_blame : MethodName := ⟨RX2, "blame", "(I)V"⟩
abbrev cX2_forgetSenders : ByteArray := prog_4_method_3_code
def yX2_forgetSenders : MethodName := ⟨RX2, "forgetSenders", "(I)V"⟩
def RX3 : String := "Swarmhall$Store"
def TX3 : u_T := fun k => match k with
  | 0 => ("Swarmhall$Store", "held", "I", false)
  | 1 => ("Swarmhall$Store", "has", "J", false)
  | _ => ("Swarmhall$Store", "wrong", "J", false)
def tyX3 : Nat → FieldType := fun k => match k with
  | 0 => .int
  | 1 => .long
  | _ => .long
abbrev wsX30 : List Cond := u_ws RX3 TX3 3
theorem nmX3 : ∀ a, a < 3 → ∀ b, b < 3 → a ≠ b → (TX3 a).2.1 ≠ (TX3 b).2.1 := by decide +kernel
theorem tyX3_ok : ∀ k, k < 3 → parseFieldDescriptor (TX3 k).2.2.1 = some (tyX3 k) := by decide +kernel
abbrev cX3_init : ByteArray := prog_5_method_1_code
def yX3_init : MethodName := ⟨RX3, "<init>", "(I)V"⟩
abbrev cX3_take : ByteArray := prog_5_method_2_code
def yX3_take : MethodName := ⟨RX3, "take", "(IZ)Z"⟩
abbrev cX3_isComplete : ByteArray := prog_5_method_3_code
def yX3_isComplete : MethodName := ⟨RX3, "isComplete", "(I)Z"⟩
abbrev cX3_isSound : ByteArray := prog_5_method_4_code
def yX3_isSound : MethodName := ⟨RX3, "isSound", "(I)Z"⟩
abbrev cX3_endPieces : ByteArray := prog_5_method_5_code
def yX3_endPieces : MethodName := ⟨RX3, "endPieces", "()V"⟩
def RX4 : String := "Swarmhall"
def TX4 : u_T := fun k => match k with
  | 0 => ("Swarmhall", "present", "[LSwarmhall$Peer;", true)
  | 1 => ("Swarmhall", "priorities", "[I", true)
  | 2 => ("Swarmhall", "holdersAtStart", "[I", true)
  | 3 => ("Swarmhall", "joined", "I", false)
  | _ => ("Swarmhall", "roundsRun", "I", false)
def tyX4 : Nat → FieldType := fun k => match k with
  | 0 => .array (.object "Swarmhall$Peer")
  | 1 => .array .int
  | 2 => .array .int
  | 3 => .int
  | _ => .int
abbrev wsX40 : List Cond := u_ws RX4 TX4 5
theorem nmX4 : ∀ a, a < 5 → ∀ b, b < 5 → a ≠ b → (TX4 a).2.1 ≠ (TX4 b).2.1 := by decide +kernel
theorem tyX4_ok : ∀ k, k < 5 → parseFieldDescriptor (TX4 k).2.2.1 = some (tyX4 k) := by decide +kernel
abbrev cX4_init : ByteArray := prog_1_method_1_code
def yX4_init : MethodName := ⟨RX4, "<init>", "()V"⟩
abbrev cX4_join : ByteArray := prog_1_method_2_code
def yX4_join : MethodName := ⟨RX4, "join", "(Z)I"⟩
abbrev cX4_leave : ByteArray := prog_1_method_3_code
def yX4_leave : MethodName := ⟨RX4, "leave", "(I)I"⟩
abbrev cX4_setPriority : ByteArray := prog_1_method_4_code
def yX4_setPriority : MethodName := ⟨RX4, "setPriority", "(II)I"⟩
abbrev cX4_setSequence : ByteArray := prog_1_method_5_code
def yX4_setSequence : MethodName := ⟨RX4, "setSequence", "(IZ)Z"⟩
abbrev cX4_setCareful : ByteArray := prog_1_method_6_code
def yX4_setCareful : MethodName := ⟨RX4, "setCareful", "(IZ)Z"⟩
abbrev cX4_spoil : ByteArray := prog_1_method_7_code
def yX4_spoil : MethodName := ⟨RX4, "spoil", "(IIZ)Z"⟩
abbrev cX4_run : ByteArray := prog_1_method_8_code
def yX4_run : MethodName := ⟨RX4, "run", "(I)I"⟩
abbrev cX4_rounds : ByteArray := prog_1_method_9_code
def yX4_rounds : MethodName := ⟨RX4, "rounds", "()I"⟩
abbrev cX4_peers : ByteArray := prog_1_method_10_code
def yX4_peers : MethodName := ⟨RX4, "peers", "()I"⟩
abbrev cX4_holds : ByteArray := prog_1_method_11_code
def yX4_holds : MethodName := ⟨RX4, "holds", "(I)I"⟩
abbrev cX4_holdsByLog : ByteArray := prog_1_method_12_code
def yX4_holdsByLog : MethodName := ⟨RX4, "holdsByLog", "(I)I"⟩
abbrev cX4_blocks : ByteArray := prog_1_method_13_code
def yX4_blocks : MethodName := ⟨RX4, "blocks", "(II)I"⟩
abbrev cX4_holders : ByteArray := prog_1_method_14_code
def yX4_holders : MethodName := ⟨RX4, "holders", "(I)I"⟩
abbrev cX4_shown : ByteArray := prog_1_method_15_code
def yX4_shown : MethodName := ⟨RX4, "shown", "(II)I"⟩
abbrev cX4_chosen : ByteArray := prog_1_method_16_code
def yX4_chosen : MethodName := ⟨RX4, "chosen", "(I)I"⟩
abbrev cX4_got : ByteArray := prog_1_method_17_code
def yX4_got : MethodName := ⟨RX4, "got", "(II)I"⟩
abbrev cX4_doubles : ByteArray := prog_1_method_18_code
def yX4_doubles : MethodName := ⟨RX4, "doubles", "(I)I"⟩
abbrev cX4_strikes : ByteArray := prog_1_method_19_code
def yX4_strikes : MethodName := ⟨RX4, "strikes", "(II)I"⟩
abbrev cX4_isBanned : ByteArray := prog_1_method_20_code
def yX4_isBanned : MethodName := ⟨RX4, "isBanned", "(II)Z"⟩
abbrev cX4_known : ByteArray := prog_1_method_21_code
def yX4_known : MethodName := ⟨RX4, "known", "(I)LSwarmhall$Peer;"⟩
abbrev cX4_find : ByteArray := prog_1_method_22_code
def yX4_find : MethodName := ⟨RX4, "find", "(I)LSwarmhall$Peer;"⟩
abbrev cX4_checkPiece : ByteArray := prog_1_method_23_code
def yX4_checkPiece : MethodName := ⟨RX4, "checkPiece", "(I)V"⟩
abbrev cX4_countHolders : ByteArray := prog_1_method_24_code
def yX4_countHolders : MethodName := ⟨RX4, "countHolders", "(I)I"⟩
abbrev cX4_wantedPieces : ByteArray := prog_1_method_25_code
def yX4_wantedPieces : MethodName := ⟨RX4, "wantedPieces", "()I"⟩
abbrev cX4_findShown : ByteArray := prog_1_method_26_code
def yX4_findShown : MethodName := ⟨RX4, "findShown", "(LSwarmhall$Peer;LSwarmhall$Peer;)I"⟩
abbrev cX4_findRarest : ByteArray := prog_1_method_27_code
def yX4_findRarest : MethodName := ⟨RX4, "findRarest", "(II)I"⟩
abbrev cX4_findChosen : ByteArray := prog_1_method_28_code
def yX4_findChosen : MethodName := ⟨RX4, "findChosen", "(LSwarmhall$Peer;)I"⟩
abbrev cX4_findInterested : ByteArray := prog_1_method_29_code
def yX4_findInterested : MethodName := ⟨RX4, "findInterested", "(LSwarmhall$Peer;)I"⟩
abbrev cX4_findBestGiver : ByteArray := prog_1_method_30_code
def yX4_findBestGiver : MethodName := ⟨RX4, "findBestGiver", "(LSwarmhall$Peer;I)I"⟩
abbrev cX4_findNextInTurn : ByteArray := prog_1_method_31_code
def yX4_findNextInTurn : MethodName := ⟨RX4, "findNextInTurn", "(I)I"⟩
abbrev cX4_begin : ByteArray := prog_1_method_32_code
def yX4_begin : MethodName := ⟨RX4, "begin", "()V"⟩
abbrev cX4_beginShowing : ByteArray := prog_1_method_33_code
def yX4_beginShowing : MethodName := ⟨RX4, "beginShowing", "(LSwarmhall$Peer;)V"⟩
abbrev cX4_askAll : ByteArray := prog_1_method_34_code
def yX4_askAll : MethodName := ⟨RX4, "askAll", "()V"⟩
abbrev cX4_askOthers : ByteArray := prog_1_method_35_code
def yX4_askOthers : MethodName := ⟨RX4, "askOthers", "(LSwarmhall$Peer;I)V"⟩
abbrev cX4_askOne : ByteArray := prog_1_method_36_code
def yX4_askOne : MethodName := ⟨RX4, "askOne", "(LSwarmhall$Peer;LSwarmhall$Peer;J)V"⟩
abbrev cX4_findBestPiece : ByteArray := prog_1_method_37_code
def yX4_findBestPiece : MethodName := ⟨RX4, "findBestPiece", "(LSwarmhall$Peer;J)I"⟩
abbrev cX4_isBetter : ByteArray := prog_1_method_38_code
def yX4_isBetter : MethodName := ⟨RX4, "isBetter", "(LSwarmhall$Peer;II)Z"⟩
abbrev cX4_isBegun : ByteArray := prog_1_method_39_code
def yX4_isBegun : MethodName := ⟨RX4, "isBegun", "(LSwarmhall$Peer;I)Z"⟩
abbrev cX4_comeAll : ByteArray := prog_1_method_40_code
def yX4_comeAll : MethodName := ⟨RX4, "comeAll", "()I"⟩
abbrev cX4_comeTo : ByteArray := prog_1_method_41_code
def yX4_comeTo : MethodName := ⟨RX4, "comeTo", "(LSwarmhall$Peer;)I"⟩
abbrev cX4_comeOne : ByteArray := prog_1_method_42_code
def yX4_comeOne : MethodName := ⟨RX4, "comeOne", "(LSwarmhall$Peer;LSwarmhall$Peer;I)Z"⟩
abbrev cX4_settleAll : ByteArray := prog_1_method_43_code
def yX4_settleAll : MethodName := ⟨RX4, "settleAll", "()V"⟩
abbrev cX4_settle : ByteArray := prog_1_method_44_code
def yX4_settle : MethodName := ⟨RX4, "settle", "(LSwarmhall$Peer;)V"⟩
abbrev cX4_isIn : ByteArray := prog_1_method_45_code
def yX4_isIn : MethodName := ⟨RX4, "isIn", "(JI)Z"⟩
abbrev cX4_single : ByteArray := prog_1_method_46_code
def yX4_single : MethodName := ⟨RX4, "single", "(I)I"⟩
abbrev cX4_blocksOfPiece : ByteArray := prog_1_method_47_code
def yX4_blocksOfPiece : MethodName := ⟨RX4, "blocksOfPiece", "(I)J"⟩
abbrev cX4_blocksOf : ByteArray := prog_1_method_48_code
def yX4_blocksOf : MethodName := ⟨RX4, "blocksOf", "(I)J"⟩
abbrev cX4_findLowest : ByteArray := prog_1_method_49_code
def yX4_findLowest : MethodName := ⟨RX4, "findLowest", "(J)I"⟩
def RX5 : String := "SwarmhallModel"
def TX5 : u_T := fun k => match k with
  | _ => ("", "", "", false)
def tyX5 : Nat → FieldType := fun k => match k with
  | _ => .int
abbrev wsX50 : List Cond := u_ws RX5 TX5 0
theorem nmX5 : ∀ a, a < 0 → ∀ b, b < 0 → a ≠ b → (TX5 a).2.1 ≠ (TX5 b).2.1 := by decide +kernel
theorem tyX5_ok : ∀ k, k < 0 → parseFieldDescriptor (TX5 k).2.2.1 = some (tyX5 k) := by decide +kernel
def RJx145de : String := "java/io/Serializable"
def TJx145de : u_T := fun k => match k with
  | _ => ("", "", "", false)
def tyJx145de : Nat → FieldType := fun k => match k with
  | _ => .int
abbrev wsJx145de0 : List Cond := u_ws RJx145de TJx145de 0
theorem nmJx145de : ∀ a, a < 0 → ∀ b, b < 0 → a ≠ b → (TJx145de a).2.1 ≠ (TJx145de b).2.1 := by decide +kernel
theorem tyJx145de_ok : ∀ k, k < 0 → parseFieldDescriptor (TJx145de k).2.2.1 = some (tyJx145de k) := by decide +kernel
def RJ6 : String := "java/lang/Integer"
def TJ6 : u_T := fun k => match k with
  | _ => ("", "", "", false)
def tyJ6 : Nat → FieldType := fun k => match k with
  | _ => .int
abbrev wsJ60 : List Cond := u_ws RJ6 TJ6 0
theorem nmJ6 : ∀ a, a < 0 → ∀ b, b < 0 → a ≠ b → (TJ6 a).2.1 ≠ (TJ6 b).2.1 := by decide +kernel
theorem tyJ6_ok : ∀ k, k < 0 → parseFieldDescriptor (TJ6 k).2.2.1 = some (tyJ6 k) := by decide +kernel
abbrev cJ6_bitCount_0f7a4 : ByteArray := prog_12_method_49_code
def yJ6_bitCount_0f7a4 : MethodName := ⟨RJ6, "bitCount", "(I)I"⟩
def RJ0 : String := "java/lang/String"
def TJ0 : u_T := fun k => match k with
  | _ => ("", "", "", false)
def tyJ0 : Nat → FieldType := fun k => match k with
  | _ => .int
abbrev wsJ00 : List Cond := u_ws RJ0 TJ0 0
theorem nmJ0 : ∀ a, a < 0 → ∀ b, b < 0 → a ≠ b → (TJ0 a).2.1 ≠ (TJ0 b).2.1 := by decide +kernel
theorem tyJ0_ok : ∀ k, k < 0 → parseFieldDescriptor (TJ0 k).2.2.1 = some (tyJ0 k) := by decide +kernel
def RJ7 : String := "java/util/Arrays"
def TJ7 : u_T := fun k => match k with
  | _ => ("", "", "", false)
def tyJ7 : Nat → FieldType := fun k => match k with
  | _ => .int
abbrev wsJ70 : List Cond := u_ws RJ7 TJ7 0
theorem nmJ7 : ∀ a, a < 0 → ∀ b, b < 0 → a ≠ b → (TJ7 a).2.1 ≠ (TJ7 b).2.1 := by decide +kernel
theorem tyJ7_ok : ∀ k, k < 0 → parseFieldDescriptor (TJ7 k).2.2.1 = some (tyJ7 k) := by decide +kernel
abbrev cJ7_fill_53178 : ByteArray := prog_16_method_103_code
def yJ7_fill_53178 : MethodName := ⟨RJ7, "fill", "([II)V"⟩
def RL : String := "SwarmhallLaw"
abbrev cL_draw : ByteArray := method_2_code
def yL_draw : MethodName := ⟨RL, "draw", "([II)I"⟩
abbrev cL_step : ByteArray := method_3_code
def yL_step : MethodName := ⟨RL, "step", "(LSwarmhall;[IIII)Z"⟩
abbrev cL_count : ByteArray := method_4_code
def yL_count : MethodName := ⟨RL, "count", "(I)I"⟩
abbrev cL_areShown : ByteArray := method_5_code
def yL_areShown : MethodName := ⟨RL, "areShown", "(LSwarmhall;[II)Z"⟩
abbrev cL_wanted : ByteArray := method_6_code
def yL_wanted : MethodName := ⟨RL, "wanted", "([I)I"⟩
abbrev cL_areChosen : ByteArray := method_7_code
def yL_areChosen : MethodName := ⟨RL, "areChosen", "(LSwarmhall;[II)Z"⟩
abbrev cL_runs : ByteArray := method_8_code
def yL_runs : MethodName := ⟨RL, "runs", "(LSwarmhall;[II)Z"⟩
abbrev cL_areHeld : ByteArray := method_9_code
def yL_areHeld : MethodName := ⟨RL, "areHeld", "(LSwarmhall;[I)Z"⟩
abbrev cL_areBans : ByteArray := method_10_code
def yL_areBans : MethodName := ⟨RL, "areBans", "(LSwarmhall;[III)Z"⟩
abbrev cL_law : ByteArray := code
def yL_law : MethodName := ⟨RL, "law", "([I)Z"⟩
abbrev vwCl : List vw_C := [(RX0, TX0, 4), (RX1, TX1, 3), (RX2, TX2, 14), (RX3, TX3, 3), (RX4, TX4, 5)]
