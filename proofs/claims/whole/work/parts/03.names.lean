def RP9 : String := "PieceTrace$Place"
def TP9 : u_T := fun k => match k with
  | 0 => ("PieceTrace$Place", "upper", "J", false)
  | _ => ("PieceTrace$Place", "lower", "J", false)
def tyP9 : Nat → FieldType := fun k => match k with
  | 0 => .long
  | _ => .long
theorem nmP9 : ∀ a, a < 2 → ∀ b, b < 2 → a ≠ b → (TP9 a).2.1 ≠ (TP9 b).2.1 := by decide +kernel
theorem tyP9_ok : ∀ k, k < 2 → parseFieldDescriptor (TP9 k).2.2.1 = some (tyP9 k) := by decide +kernel
def RX9 : String := "PieceTrace"
def TX9 : u_T := fun k => match k with
  | 0 => ("PieceTrace", "kinds", "[I", true)
  | 1 => ("PieceTrace", "weights", "[I", true)
  | 2 => ("PieceTrace", "lengths", "[I", true)
  | 3 => ("PieceTrace", "states", "[I", true)
  | 4 => ("PieceTrace", "sources", "[I", true)
  | 5 => ("PieceTrace", "seconds", "[I", true)
  | 6 => ("PieceTrace", "rollCounts", "[I", true)
  | 7 => ("PieceTrace", "seams", "[I", true)
  | 8 => ("PieceTrace", "ratioUppers", "[I", true)
  | 9 => ("PieceTrace", "ratioLowers", "[I", true)
  | 10 => ("PieceTrace", "pieceCount", "I", false)
  | 11 => ("PieceTrace", "defectMelts", "[I", true)
  | 12 => ("PieceTrace", "defectUppers", "[J", true)
  | 13 => ("PieceTrace", "defectLowers", "[J", true)
  | 14 => ("PieceTrace", "defectCount", "I", false)
  | 15 => ("PieceTrace", "heap", "I", false)
  | 16 => ("PieceTrace", "melted", "J", false)
  | 17 => ("PieceTrace", "spot", "LPieceTrace$Place;", true)
  | 18 => ("PieceTrace", "foundUppers", "[J", true)
  | _ => ("PieceTrace", "foundLowers", "[J", true)
def tyX9 : Nat → FieldType := fun k => match k with
  | 0 => .array .int
  | 1 => .array .int
  | 2 => .array .int
  | 3 => .array .int
  | 4 => .array .int
  | 5 => .array .int
  | 6 => .array .int
  | 7 => .array .int
  | 8 => .array .int
  | 9 => .array .int
  | 10 => .int
  | 11 => .array .int
  | 12 => .array .long
  | 13 => .array .long
  | 14 => .int
  | 15 => .int
  | 16 => .long
  | 17 => .object "PieceTrace$Place"
  | 18 => .array .long
  | _ => .array .long
theorem nmX9 : ∀ a, a < 20 → ∀ b, b < 20 → a ≠ b → (TX9 a).2.1 ≠ (TX9 b).2.1 := by decide +kernel
theorem tyX9_ok : ∀ k, k < 20 → parseFieldDescriptor (TX9 k).2.2.1 = some (tyX9 k) := by decide +kernel
def RM9 : String := "PieceTraceModel"
def TM9 : u_T := fun k => match k with
  | 0 => ("PieceTraceModel", "thrown", "I", false)
  | 1 => ("PieceTraceModel", "pieces", "I", false)
  | 2 => ("PieceTraceModel", "kind", "[I", true)
  | 3 => ("PieceTraceModel", "weight", "[I", true)
  | 4 => ("PieceTraceModel", "length", "[I", true)
  | 5 => ("PieceTraceModel", "state", "[I", true)
  | 6 => ("PieceTraceModel", "held", "[Z", true)
  | 7 => ("PieceTraceModel", "of", "[I", true)
  | 8 => ("PieceTraceModel", "other", "[I", true)
  | 9 => ("PieceTraceModel", "cutAt", "[I", true)
  | 10 => ("PieceTraceModel", "over", "[I", true)
  | 11 => ("PieceTraceModel", "under", "[I", true)
  | 12 => ("PieceTraceModel", "rolls", "[I", true)
  | 13 => ("PieceTraceModel", "heap", "I", false)
  | 14 => ("PieceTraceModel", "melted", "J", false)
  | 15 => ("PieceTraceModel", "defects", "I", false)
  | 16 => ("PieceTraceModel", "defectMelt", "[I", true)
  | 17 => ("PieceTraceModel", "defectUp", "[J", true)
  | 18 => ("PieceTraceModel", "defectLow", "[J", true)
  | 19 => ("PieceTraceModel", "melt", "I", false)
  | 20 => ("PieceTraceModel", "up", "J", false)
  | 21 => ("PieceTraceModel", "low", "J", false)
  | 22 => ("PieceTraceModel", "ups", "[J", true)
  | _ => ("PieceTraceModel", "lows", "[J", true)
def tyM9 : Nat → FieldType := fun k => match k with
  | 0 => .int
  | 1 => .int
  | 2 => .array .int
  | 3 => .array .int
  | 4 => .array .int
  | 5 => .array .int
  | 6 => .array .boolean
  | 7 => .array .int
  | 8 => .array .int
  | 9 => .array .int
  | 10 => .array .int
  | 11 => .array .int
  | 12 => .array .int
  | 13 => .int
  | 14 => .long
  | 15 => .int
  | 16 => .array .int
  | 17 => .array .long
  | 18 => .array .long
  | 19 => .int
  | 20 => .long
  | 21 => .long
  | 22 => .array .long
  | _ => .array .long
theorem nmM9 : ∀ a, a < 24 → ∀ b, b < 24 → a ≠ b → (TM9 a).2.1 ≠ (TM9 b).2.1 := by decide +kernel
theorem tyM9_ok : ∀ k, k < 24 → parseFieldDescriptor (TM9 k).2.2.1 = some (tyM9 k) := by decide +kernel
def RL9 : String := "PieceTraceLaw"
abbrev vwCl : List vw_C := [(RP9, TP9, 2), (RX9, TX9, 20), (RM9, TM9, 24)]
abbrev cX_init : ByteArray := prog_1_method_1_code
def yX_init : MethodName := ⟨RX9, "<init>", "()V"⟩
abbrev cX_melt : ByteArray := prog_1_method_2_code
def yX_melt : MethodName := ⟨RX9, "melt", "(II)I"⟩
abbrev cX_cut : ByteArray := prog_1_method_3_code
def yX_cut : MethodName := ⟨RX9, "cut", "(II)I"⟩
abbrev cX_weld : ByteArray := prog_1_method_4_code
def yX_weld : MethodName := ⟨RX9, "weld", "(II)I"⟩
abbrev cX_roll : ByteArray := prog_1_method_5_code
def yX_roll : MethodName := ⟨RX9, "roll", "(III)I"⟩
abbrev cX_slit : ByteArray := prog_1_method_6_code
def yX_slit : MethodName := ⟨RX9, "slit", "(II)I"⟩
abbrev cX_hold : ByteArray := prog_1_method_7_code
def yX_hold : MethodName := ⟨RX9, "hold", "(IZ)V"⟩
abbrev cX_scrap : ByteArray := prog_1_method_8_code
def yX_scrap : MethodName := ⟨RX9, "scrap", "(I)I"⟩
abbrev cX_back : ByteArray := prog_1_method_9_code
def yX_back : MethodName := ⟨RX9, "back", "(II)I"⟩
abbrev cX_at : ByteArray := prog_1_method_10_code
def yX_at : MethodName := ⟨RX9, "at", "(II)I"⟩
abbrev cX_origin : ByteArray := prog_1_method_11_code
def yX_origin : MethodName := ⟨RX9, "origin", "(III)J"⟩
abbrev cX_defect : ByteArray := prog_1_method_12_code
def yX_defect : MethodName := ⟨RX9, "defect", "(II)I"⟩
abbrev cX_has : ByteArray := prog_1_method_13_code
def yX_has : MethodName := ⟨RX9, "has", "(III)J"⟩
abbrev cX_recall : ByteArray := prog_1_method_14_code
def yX_recall : MethodName := ⟨RX9, "recall", "(II)I"⟩
abbrev cX_told : ByteArray := prog_1_method_15_code
def yX_told : MethodName := ⟨RX9, "told", "(I)J"⟩
abbrev cX_isPiece : ByteArray := prog_1_method_16_code
def yX_isPiece : MethodName := ⟨RX9, "isPiece", "(I)Z"⟩
abbrev cX_isLive : ByteArray := prog_1_method_17_code
def yX_isLive : MethodName := ⟨RX9, "isLive", "(I)Z"⟩
abbrev cX_needPiece : ByteArray := prog_1_method_18_code
def yX_needPiece : MethodName := ⟨RX9, "needPiece", "(I)V"⟩
abbrev cX_needDefect : ByteArray := prog_1_method_19_code
def yX_needDefect : MethodName := ⟨RX9, "needDefect", "(I)V"⟩
abbrev cX_needPart : ByteArray := prog_1_method_20_code
def yX_needPart : MethodName := ⟨RX9, "needPart", "(II)V"⟩
abbrev cX_needFree : ByteArray := prog_1_method_21_code
def yX_needFree : MethodName := ⟨RX9, "needFree", "(I)V"⟩
abbrev cX_needWithin : ByteArray := prog_1_method_22_code
def yX_needWithin : MethodName := ⟨RX9, "needWithin", "(III)V"⟩
abbrev cX_needRoom : ByteArray := prog_1_method_23_code
def yX_needRoom : MethodName := ⟨RX9, "needRoom", "(I)V"⟩
abbrev cX_addPiece : ByteArray := prog_1_method_24_code
def yX_addPiece : MethodName := ⟨RX9, "addPiece", "(IIII)I"⟩
abbrev cX_liveWeight : ByteArray := prog_1_method_25_code
def yX_liveWeight : MethodName := ⟨RX9, "liveWeight", "()J"⟩
abbrev cX_walkBack : ByteArray := prog_1_method_26_code
def yX_walkBack : MethodName := ⟨RX9, "walkBack", "(II)I"⟩
abbrev cX_stepBack : ByteArray := prog_1_method_27_code
def yX_stepBack : MethodName := ⟨RX9, "stepBack", "(I)I"⟩
abbrev cX_follow : ByteArray := prog_1_method_28_code
def yX_follow : MethodName := ⟨RX9, "follow", "(I)V"⟩
abbrev cX_stepForward : ByteArray := prog_1_method_29_code
def yX_stepForward : MethodName := ⟨RX9, "stepForward", "(II)Z"⟩
abbrev cX_takeFound : ByteArray := prog_1_method_30_code
def yX_takeFound : MethodName := ⟨RX9, "takeFound", "(I)Z"⟩
abbrev cM_init : ByteArray := prog_4_method_1_code
def yM_init : MethodName := ⟨RM9, "<init>", "()V"⟩
abbrev cM_thrown : ByteArray := prog_4_method_2_code
def yM_thrown : MethodName := ⟨RM9, "thrown", "()I"⟩
abbrev cM_throwing : ByteArray := prog_4_method_3_code
def yM_throwing : MethodName := ⟨RM9, "throwing", "(ZZZZ)Z"⟩
abbrev cM_in : ByteArray := prog_4_method_4_code
def yM_in : MethodName := ⟨RM9, "in", "(III)Z"⟩
abbrev cM_isPiece : ByteArray := prog_4_method_5_code
def yM_isPiece : MethodName := ⟨RM9, "isPiece", "(I)Z"⟩
abbrev cM_isAtHand : ByteArray := prog_4_method_6_code
def yM_isAtHand : MethodName := ⟨RM9, "isAtHand", "(I)Z"⟩
abbrev cM_add : ByteArray := prog_4_method_7_code
def yM_add : MethodName := ⟨RM9, "add", "(IIII)I"⟩
abbrev cM_melt : ByteArray := prog_4_method_8_code
def yM_melt : MethodName := ⟨RM9, "melt", "(II)I"⟩
abbrev cM_cut : ByteArray := prog_4_method_9_code
def yM_cut : MethodName := ⟨RM9, "cut", "(II)I"⟩
abbrev cM_weld : ByteArray := prog_4_method_10_code
def yM_weld : MethodName := ⟨RM9, "weld", "(II)I"⟩
abbrev cM_roll : ByteArray := prog_4_method_11_code
def yM_roll : MethodName := ⟨RM9, "roll", "(III)I"⟩
abbrev cM_slit : ByteArray := prog_4_method_12_code
def yM_slit : MethodName := ⟨RM9, "slit", "(II)I"⟩
abbrev cM_hold : ByteArray := prog_4_method_13_code
def yM_hold : MethodName := ⟨RM9, "hold", "(IZ)V"⟩
abbrev cM_scrap : ByteArray := prog_4_method_14_code
def yM_scrap : MethodName := ⟨RM9, "scrap", "(I)I"⟩
abbrev cM_back : ByteArray := prog_4_method_15_code
def yM_back : MethodName := ⟨RM9, "back", "(II)I"⟩
abbrev cM_at : ByteArray := prog_4_method_16_code
def yM_at : MethodName := ⟨RM9, "at", "(II)I"⟩
abbrev cM_lowest : ByteArray := prog_4_method_17_code
def yM_lowest : MethodName := ⟨RM9, "lowest", "()V"⟩
abbrev cM_goBack : ByteArray := prog_4_method_18_code
def yM_goBack : MethodName := ⟨RM9, "goBack", "(II)V"⟩
abbrev cM_origin : ByteArray := prog_4_method_19_code
def yM_origin : MethodName := ⟨RM9, "origin", "(III)J"⟩
abbrev cM_defect : ByteArray := prog_4_method_20_code
def yM_defect : MethodName := ⟨RM9, "defect", "(II)I"⟩
abbrev cM_takes : ByteArray := prog_4_method_21_code
def yM_takes : MethodName := ⟨RM9, "takes", "(I)Z"⟩
abbrev cM_reaches : ByteArray := prog_4_method_22_code
def yM_reaches : MethodName := ⟨RM9, "reaches", "(I)Z"⟩
abbrev cM_goForward : ByteArray := prog_4_method_23_code
def yM_goForward : MethodName := ⟨RM9, "goForward", "(I)V"⟩
abbrev cM_isDefect : ByteArray := prog_4_method_24_code
def yM_isDefect : MethodName := ⟨RM9, "isDefect", "(I)Z"⟩
abbrev cM_has : ByteArray := prog_4_method_25_code
def yM_has : MethodName := ⟨RM9, "has", "(III)J"⟩
abbrev cM_recall : ByteArray := prog_4_method_26_code
def yM_recall : MethodName := ⟨RM9, "recall", "(II)I"⟩
abbrev cM_told : ByteArray := prog_4_method_27_code
def yM_told : MethodName := ⟨RM9, "told", "(I)J"⟩
abbrev cP_init : ByteArray := prog_2_method_1_code
def yP_init : MethodName := ⟨RP9, "<init>", "()V"⟩
abbrev cP_set : ByteArray := prog_2_method_2_code
def yP_set : MethodName := ⟨RP9, "set", "(JJ)V"⟩
abbrev cP_move : ByteArray := prog_2_method_3_code
def yP_move : MethodName := ⟨RP9, "move", "(J)V"⟩
abbrev cP_stretch : ByteArray := prog_2_method_4_code
def yP_stretch : MethodName := ⟨RP9, "stretch", "(JJ)V"⟩
abbrev cP_isBelow : ByteArray := prog_2_method_5_code
def yP_isBelow : MethodName := ⟨RP9, "isBelow", "(J)Z"⟩
abbrev cP_commonDivisor : ByteArray := prog_2_method_6_code
def yP_commonDivisor : MethodName := ⟨RP9, "commonDivisor", "(JJ)J"⟩
abbrev cL_melt : ByteArray := method_3_code
def yL_melt : MethodName := ⟨RL9, "melt", "(LPieceTrace;II[J)I"⟩
abbrev cL_cut : ByteArray := method_4_code
def yL_cut : MethodName := ⟨RL9, "cut", "(LPieceTrace;II[J)I"⟩
abbrev cL_weld : ByteArray := method_5_code
def yL_weld : MethodName := ⟨RL9, "weld", "(LPieceTrace;II[J)I"⟩
abbrev cL_roll : ByteArray := method_6_code
def yL_roll : MethodName := ⟨RL9, "roll", "(LPieceTrace;III[J)I"⟩
abbrev cL_slit : ByteArray := method_7_code
def yL_slit : MethodName := ⟨RL9, "slit", "(LPieceTrace;II[J)I"⟩
abbrev cL_hold : ByteArray := method_8_code
def yL_hold : MethodName := ⟨RL9, "hold", "(LPieceTrace;IZ)I"⟩
abbrev cL_scrap : ByteArray := method_9_code
def yL_scrap : MethodName := ⟨RL9, "scrap", "(LPieceTrace;I[J)I"⟩
abbrev cL_back : ByteArray := method_10_code
def yL_back : MethodName := ⟨RL9, "back", "(LPieceTrace;II[J)I"⟩
abbrev cL_at : ByteArray := method_11_code
def yL_at : MethodName := ⟨RL9, "at", "(LPieceTrace;II[J)I"⟩
abbrev cL_origin : ByteArray := method_12_code
def yL_origin : MethodName := ⟨RL9, "origin", "(LPieceTrace;III[J)I"⟩
abbrev cL_defect : ByteArray := method_13_code
def yL_defect : MethodName := ⟨RL9, "defect", "(LPieceTrace;II[J)I"⟩
abbrev cL_has : ByteArray := method_14_code
def yL_has : MethodName := ⟨RL9, "has", "(LPieceTrace;III[J)I"⟩
abbrev cL_recall : ByteArray := method_15_code
def yL_recall : MethodName := ⟨RL9, "recall", "(LPieceTrace;II[J)I"⟩
abbrev cL_told : ByteArray := method_16_code
def yL_told : MethodName := ⟨RL9, "told", "(LPieceTrace;I[J)I"⟩
def gWc : List Cond := [.code yX_init cX_init 1 none,
  .code yX_melt cX_melt 3 (some .int),
  .code yX_cut cX_cut 8 (some .int),
  .code yX_weld cX_weld 8 (some .int),
  .code yX_roll cX_roll 7 (some .int),
  .code yX_slit cX_slit 7 (some .int),
  .code yX_hold cX_hold 3 none,
  .code yX_scrap cX_scrap 2 (some .int),
  .code yX_back cX_back 4 (some .int),
  .code yX_at cX_at 3 (some .int),
  .code yX_origin cX_origin 5 (some .long),
  .code yX_defect cX_defect 4 (some .int),
  .code yX_has cX_has 4 (some .long),
  .code yX_recall cX_recall 5 (some .int),
  .code yX_told cX_told 2 (some .long),
  .code yX_isPiece cX_isPiece 2 (some .boolean),
  .code yX_isLive cX_isLive 2 (some .boolean),
  .code yX_needPiece cX_needPiece 2 none,
  .code yX_needDefect cX_needDefect 2 none,
  .code yX_needPart cX_needPart 2 none,
  .code yX_needFree cX_needFree 2 none,
  .code yX_needWithin cX_needWithin 3 none,
  .code yX_needRoom cX_needRoom 2 none,
  .code yX_addPiece cX_addPiece 6 (some .int),
  .code yX_liveWeight cX_liveWeight 4 (some .long),
  .code yX_walkBack cX_walkBack 6 (some .int),
  .code yX_stepBack cX_stepBack 2 (some .int),
  .code yX_follow cX_follow 4 none,
  .code yX_stepForward cX_stepForward 4 (some .boolean),
  .code yX_takeFound cX_takeFound 2 (some .boolean),
  .code yM_init cM_init 1 none,
  .code yM_thrown cM_thrown 1 (some .int),
  .code yM_throwing cM_throwing 5 (some .boolean),
  .code yM_in cM_in 3 (some .boolean),
  .code yM_isPiece cM_isPiece 2 (some .boolean),
  .code yM_isAtHand cM_isAtHand 2 (some .boolean),
  .code yM_add cM_add 5 (some .int),
  .code yM_melt cM_melt 3 (some .int),
  .code yM_cut cM_cut 7 (some .int),
  .code yM_weld cM_weld 6 (some .int),
  .code yM_roll cM_roll 10 (some .int),
  .code yM_slit cM_slit 4 (some .int),
  .code yM_hold cM_hold 4 none,
  .code yM_scrap cM_scrap 2 (some .int),
  .code yM_back cM_back 5 (some .int),
  .code yM_at cM_at 3 (some .int),
  .code yM_lowest cM_lowest 7 none,
  .code yM_goBack cM_goBack 5 none,
  .code yM_origin cM_origin 5 (some .long),
  .code yM_defect cM_defect 4 (some .int),
  .code yM_takes cM_takes 2 (some .boolean),
  .code yM_reaches cM_reaches 2 (some .boolean),
  .code yM_goForward cM_goForward 4 none,
  .code yM_isDefect cM_isDefect 2 (some .boolean),
  .code yM_has cM_has 4 (some .long),
  .code yM_recall cM_recall 5 (some .int),
  .code yM_told cM_told 5 (some .long),
  .code yP_init cP_init 1 none,
  .code yP_set cP_set 5 none,
  .code yP_move cP_move 3 none,
  .code yP_stretch cP_stretch 7 none,
  .code yP_isBelow cP_isBelow 3 (some .boolean),
  .code yP_commonDivisor cP_commonDivisor 11 (some .long),
  .codeWith yL_melt cL_melt 5 (some .int) [(0, 10, 13, 13), (0, 10, 17, 15)],
  .codeWith yL_cut cL_cut 5 (some .int) [(0, 10, 13, 20), (0, 10, 17, 22), (0, 10, 21, 13), (0, 10, 25, 15)],
  .codeWith yL_weld cL_weld 5 (some .int) [(0, 10, 13, 20), (0, 10, 17, 22), (0, 10, 21, 15)],
  .codeWith yL_roll cL_roll 6 (some .int) [(0, 12, 15, 20), (0, 12, 19, 22), (0, 12, 23, 13), (0, 12, 27, 15)],
  .codeWith yL_slit cL_slit 5 (some .int) [(0, 10, 13, 20), (0, 10, 17, 22), (0, 10, 21, 13), (0, 10, 25, 15)],
  .codeWith yL_hold cL_hold 4 (some .int) [(0, 6, 9, 20), (0, 6, 12, 22)],
  .codeWith yL_scrap cL_scrap 4 (some .int) [(0, 9, 12, 20), (0, 9, 15, 22)],
  .codeWith yL_back cL_back 5 (some .int) [(0, 10, 13, 13), (0, 10, 17, 15)],
  .codeWith yL_at cL_at 5 (some .int) [(0, 10, 13, 20)],
  .codeWith yL_origin cL_origin 6 (some .int) [(0, 11, 14, 20), (0, 11, 18, 13)],
  .codeWith yL_defect cL_defect 5 (some .int) [(0, 10, 13, 20), (0, 10, 17, 13), (0, 10, 21, 15)],
  .codeWith yL_has cL_has 6 (some .int) [(0, 11, 14, 20)],
  .codeWith yL_recall cL_recall 5 (some .int) [(0, 10, 13, 20)],
  .codeWith yL_told cL_told 4 (some .int) [(0, 8, 11, 20)],
  .code objectInit ⟨#[0xb1]⟩ 1 none,
  .code Lib.Math.max.name Lib.Math.max.code 2 (some .int)]
theorem kX_init : (Cond.code yX_init cX_init 1 none) ∈ gWc := List.mem_of_getElem? (i := 0) rfl
theorem kX_melt : (Cond.code yX_melt cX_melt 3 (some .int)) ∈ gWc := List.mem_of_getElem? (i := 1) rfl
theorem kX_cut : (Cond.code yX_cut cX_cut 8 (some .int)) ∈ gWc := List.mem_of_getElem? (i := 2) rfl
theorem kX_weld : (Cond.code yX_weld cX_weld 8 (some .int)) ∈ gWc := List.mem_of_getElem? (i := 3) rfl
theorem kX_roll : (Cond.code yX_roll cX_roll 7 (some .int)) ∈ gWc := List.mem_of_getElem? (i := 4) rfl
theorem kX_slit : (Cond.code yX_slit cX_slit 7 (some .int)) ∈ gWc := List.mem_of_getElem? (i := 5) rfl
theorem kX_hold : (Cond.code yX_hold cX_hold 3 none) ∈ gWc := List.mem_of_getElem? (i := 6) rfl
theorem kX_scrap : (Cond.code yX_scrap cX_scrap 2 (some .int)) ∈ gWc := List.mem_of_getElem? (i := 7) rfl
theorem kX_back : (Cond.code yX_back cX_back 4 (some .int)) ∈ gWc := List.mem_of_getElem? (i := 8) rfl
theorem kX_at : (Cond.code yX_at cX_at 3 (some .int)) ∈ gWc := List.mem_of_getElem? (i := 9) rfl
theorem kX_origin : (Cond.code yX_origin cX_origin 5 (some .long)) ∈ gWc := List.mem_of_getElem? (i := 10) rfl
theorem kX_defect : (Cond.code yX_defect cX_defect 4 (some .int)) ∈ gWc := List.mem_of_getElem? (i := 11) rfl
theorem kX_has : (Cond.code yX_has cX_has 4 (some .long)) ∈ gWc := List.mem_of_getElem? (i := 12) rfl
theorem kX_recall : (Cond.code yX_recall cX_recall 5 (some .int)) ∈ gWc := List.mem_of_getElem? (i := 13) rfl
theorem kX_told : (Cond.code yX_told cX_told 2 (some .long)) ∈ gWc := List.mem_of_getElem? (i := 14) rfl
theorem kX_isPiece : (Cond.code yX_isPiece cX_isPiece 2 (some .boolean)) ∈ gWc := List.mem_of_getElem? (i := 15) rfl
theorem kX_isLive : (Cond.code yX_isLive cX_isLive 2 (some .boolean)) ∈ gWc := List.mem_of_getElem? (i := 16) rfl
theorem kX_needPiece : (Cond.code yX_needPiece cX_needPiece 2 none) ∈ gWc := List.mem_of_getElem? (i := 17) rfl
theorem kX_needDefect : (Cond.code yX_needDefect cX_needDefect 2 none) ∈ gWc := List.mem_of_getElem? (i := 18) rfl
theorem kX_needPart : (Cond.code yX_needPart cX_needPart 2 none) ∈ gWc := List.mem_of_getElem? (i := 19) rfl
theorem kX_needFree : (Cond.code yX_needFree cX_needFree 2 none) ∈ gWc := List.mem_of_getElem? (i := 20) rfl
theorem kX_needWithin : (Cond.code yX_needWithin cX_needWithin 3 none) ∈ gWc := List.mem_of_getElem? (i := 21) rfl
theorem kX_needRoom : (Cond.code yX_needRoom cX_needRoom 2 none) ∈ gWc := List.mem_of_getElem? (i := 22) rfl
theorem kX_addPiece : (Cond.code yX_addPiece cX_addPiece 6 (some .int)) ∈ gWc := List.mem_of_getElem? (i := 23) rfl
theorem kX_liveWeight : (Cond.code yX_liveWeight cX_liveWeight 4 (some .long)) ∈ gWc := List.mem_of_getElem? (i := 24) rfl
theorem kX_walkBack : (Cond.code yX_walkBack cX_walkBack 6 (some .int)) ∈ gWc := List.mem_of_getElem? (i := 25) rfl
theorem kX_stepBack : (Cond.code yX_stepBack cX_stepBack 2 (some .int)) ∈ gWc := List.mem_of_getElem? (i := 26) rfl
theorem kX_follow : (Cond.code yX_follow cX_follow 4 none) ∈ gWc := List.mem_of_getElem? (i := 27) rfl
theorem kX_stepForward : (Cond.code yX_stepForward cX_stepForward 4 (some .boolean)) ∈ gWc := List.mem_of_getElem? (i := 28) rfl
theorem kX_takeFound : (Cond.code yX_takeFound cX_takeFound 2 (some .boolean)) ∈ gWc := List.mem_of_getElem? (i := 29) rfl
theorem kM_init : (Cond.code yM_init cM_init 1 none) ∈ gWc := List.mem_of_getElem? (i := 30) rfl
theorem kM_thrown : (Cond.code yM_thrown cM_thrown 1 (some .int)) ∈ gWc := List.mem_of_getElem? (i := 31) rfl
theorem kM_throwing : (Cond.code yM_throwing cM_throwing 5 (some .boolean)) ∈ gWc := List.mem_of_getElem? (i := 32) rfl
theorem kM_in : (Cond.code yM_in cM_in 3 (some .boolean)) ∈ gWc := List.mem_of_getElem? (i := 33) rfl
theorem kM_isPiece : (Cond.code yM_isPiece cM_isPiece 2 (some .boolean)) ∈ gWc := List.mem_of_getElem? (i := 34) rfl
theorem kM_isAtHand : (Cond.code yM_isAtHand cM_isAtHand 2 (some .boolean)) ∈ gWc := List.mem_of_getElem? (i := 35) rfl
theorem kM_add : (Cond.code yM_add cM_add 5 (some .int)) ∈ gWc := List.mem_of_getElem? (i := 36) rfl
theorem kM_melt : (Cond.code yM_melt cM_melt 3 (some .int)) ∈ gWc := List.mem_of_getElem? (i := 37) rfl
theorem kM_cut : (Cond.code yM_cut cM_cut 7 (some .int)) ∈ gWc := List.mem_of_getElem? (i := 38) rfl
theorem kM_weld : (Cond.code yM_weld cM_weld 6 (some .int)) ∈ gWc := List.mem_of_getElem? (i := 39) rfl
theorem kM_roll : (Cond.code yM_roll cM_roll 10 (some .int)) ∈ gWc := List.mem_of_getElem? (i := 40) rfl
theorem kM_slit : (Cond.code yM_slit cM_slit 4 (some .int)) ∈ gWc := List.mem_of_getElem? (i := 41) rfl
theorem kM_hold : (Cond.code yM_hold cM_hold 4 none) ∈ gWc := List.mem_of_getElem? (i := 42) rfl
theorem kM_scrap : (Cond.code yM_scrap cM_scrap 2 (some .int)) ∈ gWc := List.mem_of_getElem? (i := 43) rfl
theorem kM_back : (Cond.code yM_back cM_back 5 (some .int)) ∈ gWc := List.mem_of_getElem? (i := 44) rfl
theorem kM_at : (Cond.code yM_at cM_at 3 (some .int)) ∈ gWc := List.mem_of_getElem? (i := 45) rfl
theorem kM_lowest : (Cond.code yM_lowest cM_lowest 7 none) ∈ gWc := List.mem_of_getElem? (i := 46) rfl
theorem kM_goBack : (Cond.code yM_goBack cM_goBack 5 none) ∈ gWc := List.mem_of_getElem? (i := 47) rfl
theorem kM_origin : (Cond.code yM_origin cM_origin 5 (some .long)) ∈ gWc := List.mem_of_getElem? (i := 48) rfl
theorem kM_defect : (Cond.code yM_defect cM_defect 4 (some .int)) ∈ gWc := List.mem_of_getElem? (i := 49) rfl
theorem kM_takes : (Cond.code yM_takes cM_takes 2 (some .boolean)) ∈ gWc := List.mem_of_getElem? (i := 50) rfl
theorem kM_reaches : (Cond.code yM_reaches cM_reaches 2 (some .boolean)) ∈ gWc := List.mem_of_getElem? (i := 51) rfl
theorem kM_goForward : (Cond.code yM_goForward cM_goForward 4 none) ∈ gWc := List.mem_of_getElem? (i := 52) rfl
theorem kM_isDefect : (Cond.code yM_isDefect cM_isDefect 2 (some .boolean)) ∈ gWc := List.mem_of_getElem? (i := 53) rfl
theorem kM_has : (Cond.code yM_has cM_has 4 (some .long)) ∈ gWc := List.mem_of_getElem? (i := 54) rfl
theorem kM_recall : (Cond.code yM_recall cM_recall 5 (some .int)) ∈ gWc := List.mem_of_getElem? (i := 55) rfl
theorem kM_told : (Cond.code yM_told cM_told 5 (some .long)) ∈ gWc := List.mem_of_getElem? (i := 56) rfl
theorem kP_init : (Cond.code yP_init cP_init 1 none) ∈ gWc := List.mem_of_getElem? (i := 57) rfl
theorem kP_set : (Cond.code yP_set cP_set 5 none) ∈ gWc := List.mem_of_getElem? (i := 58) rfl
theorem kP_move : (Cond.code yP_move cP_move 3 none) ∈ gWc := List.mem_of_getElem? (i := 59) rfl
theorem kP_stretch : (Cond.code yP_stretch cP_stretch 7 none) ∈ gWc := List.mem_of_getElem? (i := 60) rfl
theorem kP_isBelow : (Cond.code yP_isBelow cP_isBelow 3 (some .boolean)) ∈ gWc := List.mem_of_getElem? (i := 61) rfl
theorem kP_commonDivisor : (Cond.code yP_commonDivisor cP_commonDivisor 11 (some .long)) ∈ gWc := List.mem_of_getElem? (i := 62) rfl
theorem kL_melt : (Cond.codeWith yL_melt cL_melt 5 (some .int) [(0, 10, 13, 13), (0, 10, 17, 15)]) ∈ gWc := List.mem_of_getElem? (i := 63) rfl
theorem kL_cut : (Cond.codeWith yL_cut cL_cut 5 (some .int) [(0, 10, 13, 20), (0, 10, 17, 22), (0, 10, 21, 13), (0, 10, 25, 15)]) ∈ gWc := List.mem_of_getElem? (i := 64) rfl
theorem kL_weld : (Cond.codeWith yL_weld cL_weld 5 (some .int) [(0, 10, 13, 20), (0, 10, 17, 22), (0, 10, 21, 15)]) ∈ gWc := List.mem_of_getElem? (i := 65) rfl
theorem kL_roll : (Cond.codeWith yL_roll cL_roll 6 (some .int) [(0, 12, 15, 20), (0, 12, 19, 22), (0, 12, 23, 13), (0, 12, 27, 15)]) ∈ gWc := List.mem_of_getElem? (i := 66) rfl
theorem kL_slit : (Cond.codeWith yL_slit cL_slit 5 (some .int) [(0, 10, 13, 20), (0, 10, 17, 22), (0, 10, 21, 13), (0, 10, 25, 15)]) ∈ gWc := List.mem_of_getElem? (i := 67) rfl
theorem kL_hold : (Cond.codeWith yL_hold cL_hold 4 (some .int) [(0, 6, 9, 20), (0, 6, 12, 22)]) ∈ gWc := List.mem_of_getElem? (i := 68) rfl
theorem kL_scrap : (Cond.codeWith yL_scrap cL_scrap 4 (some .int) [(0, 9, 12, 20), (0, 9, 15, 22)]) ∈ gWc := List.mem_of_getElem? (i := 69) rfl
theorem kL_back : (Cond.codeWith yL_back cL_back 5 (some .int) [(0, 10, 13, 13), (0, 10, 17, 15)]) ∈ gWc := List.mem_of_getElem? (i := 70) rfl
theorem kL_at : (Cond.codeWith yL_at cL_at 5 (some .int) [(0, 10, 13, 20)]) ∈ gWc := List.mem_of_getElem? (i := 71) rfl
theorem kL_origin : (Cond.codeWith yL_origin cL_origin 6 (some .int) [(0, 11, 14, 20), (0, 11, 18, 13)]) ∈ gWc := List.mem_of_getElem? (i := 72) rfl
theorem kL_defect : (Cond.codeWith yL_defect cL_defect 5 (some .int) [(0, 10, 13, 20), (0, 10, 17, 13), (0, 10, 21, 15)]) ∈ gWc := List.mem_of_getElem? (i := 73) rfl
theorem kL_has : (Cond.codeWith yL_has cL_has 6 (some .int) [(0, 11, 14, 20)]) ∈ gWc := List.mem_of_getElem? (i := 74) rfl
theorem kL_recall : (Cond.codeWith yL_recall cL_recall 5 (some .int) [(0, 10, 13, 20)]) ∈ gWc := List.mem_of_getElem? (i := 75) rfl
theorem kL_told : (Cond.codeWith yL_told cL_told 4 (some .int) [(0, 8, 11, 20)]) ∈ gWc := List.mem_of_getElem? (i := 76) rfl
theorem kobjinit : (Cond.code objectInit ⟨#[0xb1]⟩ 1 none) ∈ gWc := List.mem_of_getElem? (i := 77) rfl
theorem kmathmax : (Cond.code Lib.Math.max.name Lib.Math.max.code 2 (some .int)) ∈ gWc := List.mem_of_getElem? (i := 78) rfl
def gWo : List Cond := [(Jvm.Cond.initialized "PieceTraceLaw"),
  (Jvm.Cond.initialized "PieceTrace"),
  (Jvm.Cond.initialized "PieceTrace$Place"),
  (Jvm.Cond.initialized "PieceTraceModel"),
  (Jvm.Cond.initialized "java/lang/Exception"),
  (Jvm.Cond.initialized "java/lang/RuntimeException"),
  (Jvm.Cond.initialized "java/lang/IllegalArgumentException"),
  (Jvm.Cond.initialized "java/lang/UnsupportedOperationException"),
  (Jvm.Cond.initialized "java/lang/IndexOutOfBoundsException"),
  (Jvm.Cond.initialized "java/lang/IllegalStateException"),
  (Jvm.Cond.initialized "java/lang/Math"),
  (Jvm.Cond.classLink "PieceTraceLaw" (8 : Nat) "PieceTrace"),
  (Jvm.Cond.instantiable "PieceTrace" (20 : Nat)),
  (Jvm.Cond.methodLink "PieceTraceLaw" (65 : Nat) ({ cls := "PieceTrace", name := "<init>", desc := "()V" } : Jvm.MethodName)),
  (Jvm.Cond.instanceMethod ({ cls := "PieceTrace", name := "<init>", desc := "()V" } : Jvm.MethodName)),
  (Jvm.Cond.methodLink "PieceTrace" (1 : Nat) ({ cls := "java/lang/Object", name := "<init>", desc := "()V" } : Jvm.MethodName)),
  (Jvm.Cond.instanceMethod ({ cls := "java/lang/Object", name := "<init>", desc := "()V" } : Jvm.MethodName)),
  (Jvm.Cond.classLink "PieceTrace" (50 : Nat) "PieceTrace$Place"),
  (Jvm.Cond.instantiable "PieceTrace$Place" (2 : Nat)),
  (Jvm.Cond.instanceMethod ({ cls := "PieceTrace$Place", name := "<init>", desc := "()V" } : Jvm.MethodName)),
  (Jvm.Cond.methodLink "PieceTrace$Place" (1 : Nat) ({ cls := "java/lang/Object", name := "<init>", desc := "()V" } : Jvm.MethodName)),
  (Jvm.Cond.fieldLink "PieceTrace$Place" (7 : Nat) "PieceTrace$Place" "upper" "J"),
  (Jvm.Cond.fieldLink "PieceTrace$Place" (13 : Nat) "PieceTrace$Place" "lower" "J"),
  (Jvm.Cond.lays "PieceTrace$Place" "PieceTrace$Place" "upper" "J"),
  (Jvm.Cond.lays "PieceTrace$Place" "PieceTrace$Place" "lower" "J"),
  (Jvm.Cond.arrayClass Jvm.ClassFile.FieldType.int),
  (Jvm.Cond.arrayClass Jvm.ClassFile.FieldType.long),
  (Jvm.Cond.fieldLink "PieceTrace" (9 : Nat) "PieceTrace" "kinds" "[I"),
  (Jvm.Cond.fieldLink "PieceTrace" (13 : Nat) "PieceTrace" "weights" "[I"),
  (Jvm.Cond.fieldLink "PieceTrace" (16 : Nat) "PieceTrace" "lengths" "[I"),
  (Jvm.Cond.fieldLink "PieceTrace" (19 : Nat) "PieceTrace" "states" "[I"),
  (Jvm.Cond.fieldLink "PieceTrace" (22 : Nat) "PieceTrace" "sources" "[I"),
  (Jvm.Cond.fieldLink "PieceTrace" (25 : Nat) "PieceTrace" "seconds" "[I"),
  (Jvm.Cond.fieldLink "PieceTrace" (28 : Nat) "PieceTrace" "rollCounts" "[I"),
  (Jvm.Cond.fieldLink "PieceTrace" (31 : Nat) "PieceTrace" "seams" "[I"),
  (Jvm.Cond.fieldLink "PieceTrace" (34 : Nat) "PieceTrace" "ratioUppers" "[I"),
  (Jvm.Cond.fieldLink "PieceTrace" (37 : Nat) "PieceTrace" "ratioLowers" "[I"),
  (Jvm.Cond.fieldLink "PieceTrace" (157 : Nat) "PieceTrace" "pieceCount" "I"),
  (Jvm.Cond.fieldLink "PieceTrace" (40 : Nat) "PieceTrace" "defectMelts" "[I"),
  (Jvm.Cond.fieldLink "PieceTrace" (43 : Nat) "PieceTrace" "defectUppers" "[J"),
  (Jvm.Cond.fieldLink "PieceTrace" (47 : Nat) "PieceTrace" "defectLowers" "[J"),
  (Jvm.Cond.fieldLink "PieceTrace" (142 : Nat) "PieceTrace" "defectCount" "I"),
  (Jvm.Cond.fieldLink "PieceTrace" (115 : Nat) "PieceTrace" "heap" "I"),
  (Jvm.Cond.fieldLink "PieceTrace" (72 : Nat) "PieceTrace" "melted" "J"),
  (Jvm.Cond.fieldLink "PieceTrace" (53 : Nat) "PieceTrace" "spot" "LPieceTrace$Place;"),
  (Jvm.Cond.fieldLink "PieceTrace" (57 : Nat) "PieceTrace" "foundUppers" "[J"),
  (Jvm.Cond.fieldLink "PieceTrace" (60 : Nat) "PieceTrace" "foundLowers" "[J"),
  (Jvm.Cond.laysFinal "PieceTrace" "PieceTrace" "kinds" "[I"),
  (Jvm.Cond.laysFinal "PieceTrace" "PieceTrace" "weights" "[I"),
  (Jvm.Cond.laysFinal "PieceTrace" "PieceTrace" "lengths" "[I"),
  (Jvm.Cond.laysFinal "PieceTrace" "PieceTrace" "states" "[I"),
  (Jvm.Cond.laysFinal "PieceTrace" "PieceTrace" "sources" "[I"),
  (Jvm.Cond.laysFinal "PieceTrace" "PieceTrace" "seconds" "[I"),
  (Jvm.Cond.laysFinal "PieceTrace" "PieceTrace" "rollCounts" "[I"),
  (Jvm.Cond.laysFinal "PieceTrace" "PieceTrace" "seams" "[I"),
  (Jvm.Cond.laysFinal "PieceTrace" "PieceTrace" "ratioUppers" "[I"),
  (Jvm.Cond.laysFinal "PieceTrace" "PieceTrace" "ratioLowers" "[I"),
  (Jvm.Cond.lays "PieceTrace" "PieceTrace" "pieceCount" "I"),
  (Jvm.Cond.laysFinal "PieceTrace" "PieceTrace" "defectMelts" "[I"),
  (Jvm.Cond.laysFinal "PieceTrace" "PieceTrace" "defectUppers" "[J"),
  (Jvm.Cond.laysFinal "PieceTrace" "PieceTrace" "defectLowers" "[J"),
  (Jvm.Cond.lays "PieceTrace" "PieceTrace" "defectCount" "I"),
  (Jvm.Cond.lays "PieceTrace" "PieceTrace" "heap" "I"),
  (Jvm.Cond.lays "PieceTrace" "PieceTrace" "melted" "J"),
  (Jvm.Cond.laysFinal "PieceTrace" "PieceTrace" "spot" "LPieceTrace$Place;"),
  (Jvm.Cond.laysFinal "PieceTrace" "PieceTrace" "foundUppers" "[J"),
  (Jvm.Cond.laysFinal "PieceTrace" "PieceTrace" "foundLowers" "[J"),
  (Jvm.Cond.methodLink "PieceTraceLaw" (69 : Nat) ({ cls := "PieceTraceLaw", name := "melt", desc := "(LPieceTrace;II[J)I" } : Jvm.MethodName)),
  (Jvm.Cond.static ({ cls := "PieceTraceLaw", name := "melt", desc := "(LPieceTrace;II[J)I" } : Jvm.MethodName)),
  (Jvm.Cond.classLink "PieceTraceLaw" (13 : Nat) "java/lang/IllegalArgumentException"),
  (Jvm.Cond.classLink "PieceTraceLaw" (15 : Nat) "java/lang/UnsupportedOperationException"),
  (Jvm.Cond.methodLink "PieceTraceLaw" (7 : Nat) ({ cls := "PieceTrace", name := "melt", desc := "(II)I" } : Jvm.MethodName)),
  (Jvm.Cond.instanceMethod ({ cls := "PieceTrace", name := "melt", desc := "(II)I" } : Jvm.MethodName)),
  (Jvm.Cond.selects "PieceTrace" ({ cls := "PieceTrace", name := "melt", desc := "(II)I" } : Jvm.MethodName) ({ cls := "PieceTrace", name := "melt", desc := "(II)I" } : Jvm.MethodName)),
  (Jvm.Cond.constant "PieceTrace" (63 : Nat) (1000000 : Int32)),
  (Jvm.Cond.methodLink "PieceTrace" (64 : Nat) ({ cls := "PieceTrace", name := "needWithin", desc := "(III)V" } : Jvm.MethodName)),
  (Jvm.Cond.static ({ cls := "PieceTrace", name := "needWithin", desc := "(III)V" } : Jvm.MethodName)),
  (Jvm.Cond.classLink "PieceTrace" (175 : Nat) "java/lang/IllegalArgumentException"),
  (Jvm.Cond.instantiable "java/lang/IllegalArgumentException" (6 : Nat)),
  (Jvm.Cond.methodLink "PieceTrace" (179 : Nat) ({ cls := "java/lang/IllegalArgumentException", name := "<init>", desc := "(Ljava/lang/String;)V" } : Jvm.MethodName)),
  (Jvm.Cond.instanceMethod ({ cls := "java/lang/IllegalArgumentException", name := "<init>", desc := "(Ljava/lang/String;)V" } : Jvm.MethodName)),
  (Jvm.Cond.methodLink "java/lang/IllegalArgumentException" (7 : Nat) ({ cls := "java/lang/RuntimeException", name := "<init>", desc := "(Ljava/lang/String;)V" } : Jvm.MethodName)),
  (Jvm.Cond.instanceMethod ({ cls := "java/lang/RuntimeException", name := "<init>", desc := "(Ljava/lang/String;)V" } : Jvm.MethodName)),
  (Jvm.Cond.methodLink "java/lang/RuntimeException" (7 : Nat) ({ cls := "java/lang/Exception", name := "<init>", desc := "(Ljava/lang/String;)V" } : Jvm.MethodName)),
  (Jvm.Cond.instanceMethod ({ cls := "java/lang/Exception", name := "<init>", desc := "(Ljava/lang/String;)V" } : Jvm.MethodName)),
  (Jvm.Cond.arrayClass Jvm.ClassFile.FieldType.byte),
  (Jvm.Cond.methodLink "PieceTrace" (68 : Nat) ({ cls := "PieceTrace", name := "needRoom", desc := "(I)V" } : Jvm.MethodName)),
  (Jvm.Cond.instanceMethod ({ cls := "PieceTrace", name := "needRoom", desc := "(I)V" } : Jvm.MethodName)),
  (Jvm.Cond.classLink "PieceTrace" (95 : Nat) "java/lang/UnsupportedOperationException"),
  (Jvm.Cond.instantiable "java/lang/UnsupportedOperationException" (6 : Nat)),
  (Jvm.Cond.methodLink "PieceTrace" (99 : Nat) ({ cls := "java/lang/UnsupportedOperationException", name := "<init>", desc := "(Ljava/lang/String;)V" } : Jvm.MethodName)),
  (Jvm.Cond.instanceMethod ({ cls := "java/lang/UnsupportedOperationException", name := "<init>", desc := "(Ljava/lang/String;)V" } : Jvm.MethodName)),
  (Jvm.Cond.methodLink "java/lang/UnsupportedOperationException" (7 : Nat) ({ cls := "java/lang/RuntimeException", name := "<init>", desc := "(Ljava/lang/String;)V" } : Jvm.MethodName)),
  (Jvm.Cond.methodLink "PieceTrace" (76 : Nat) ({ cls := "PieceTrace", name := "addPiece", desc := "(IIII)I" } : Jvm.MethodName)),
  (Jvm.Cond.instanceMethod ({ cls := "PieceTrace", name := "addPiece", desc := "(IIII)I" } : Jvm.MethodName)),
  (Jvm.Cond.methodLink "PieceTraceLaw" (79 : Nat) ({ cls := "PieceTraceLaw", name := "cut", desc := "(LPieceTrace;II[J)I" } : Jvm.MethodName)),
  (Jvm.Cond.static ({ cls := "PieceTraceLaw", name := "cut", desc := "(LPieceTrace;II[J)I" } : Jvm.MethodName)),
  (Jvm.Cond.classLink "PieceTraceLaw" (20 : Nat) "java/lang/IndexOutOfBoundsException"),
  (Jvm.Cond.classLink "PieceTraceLaw" (22 : Nat) "java/lang/IllegalStateException"),
  (Jvm.Cond.methodLink "PieceTraceLaw" (17 : Nat) ({ cls := "PieceTrace", name := "cut", desc := "(II)I" } : Jvm.MethodName)),
  (Jvm.Cond.instanceMethod ({ cls := "PieceTrace", name := "cut", desc := "(II)I" } : Jvm.MethodName)),
  (Jvm.Cond.selects "PieceTrace" ({ cls := "PieceTrace", name := "cut", desc := "(II)I" } : Jvm.MethodName) ({ cls := "PieceTrace", name := "cut", desc := "(II)I" } : Jvm.MethodName)),
  (Jvm.Cond.methodLink "PieceTrace" (80 : Nat) ({ cls := "PieceTrace", name := "needPiece", desc := "(I)V" } : Jvm.MethodName)),
  (Jvm.Cond.instanceMethod ({ cls := "PieceTrace", name := "needPiece", desc := "(I)V" } : Jvm.MethodName)),
  (Jvm.Cond.methodLink "PieceTrace" (164 : Nat) ({ cls := "PieceTrace", name := "isPiece", desc := "(I)Z" } : Jvm.MethodName)),
  (Jvm.Cond.instanceMethod ({ cls := "PieceTrace", name := "isPiece", desc := "(I)Z" } : Jvm.MethodName)),
  (Jvm.Cond.classLink "PieceTrace" (86 : Nat) "java/lang/IndexOutOfBoundsException"),
  (Jvm.Cond.instantiable "java/lang/IndexOutOfBoundsException" (6 : Nat)),
  (Jvm.Cond.methodLink "PieceTrace" (90 : Nat) ({ cls := "java/lang/IndexOutOfBoundsException", name := "<init>", desc := "(Ljava/lang/String;)V" } : Jvm.MethodName)),
  (Jvm.Cond.instanceMethod ({ cls := "java/lang/IndexOutOfBoundsException", name := "<init>", desc := "(Ljava/lang/String;)V" } : Jvm.MethodName)),
  (Jvm.Cond.methodLink "java/lang/IndexOutOfBoundsException" (7 : Nat) ({ cls := "java/lang/RuntimeException", name := "<init>", desc := "(Ljava/lang/String;)V" } : Jvm.MethodName)),
  (Jvm.Cond.methodLink "PieceTrace" (83 : Nat) ({ cls := "PieceTrace", name := "needFree", desc := "(I)V" } : Jvm.MethodName)),
  (Jvm.Cond.instanceMethod ({ cls := "PieceTrace", name := "needFree", desc := "(I)V" } : Jvm.MethodName)),
  (Jvm.Cond.classLink "PieceTrace" (110 : Nat) "java/lang/IllegalStateException"),
  (Jvm.Cond.instantiable "java/lang/IllegalStateException" (6 : Nat)),
  (Jvm.Cond.methodLink "PieceTrace" (114 : Nat) ({ cls := "java/lang/IllegalStateException", name := "<init>", desc := "(Ljava/lang/String;)V" } : Jvm.MethodName)),
  (Jvm.Cond.instanceMethod ({ cls := "java/lang/IllegalStateException", name := "<init>", desc := "(Ljava/lang/String;)V" } : Jvm.MethodName)),
  (Jvm.Cond.methodLink "java/lang/IllegalStateException" (7 : Nat) ({ cls := "java/lang/RuntimeException", name := "<init>", desc := "(Ljava/lang/String;)V" } : Jvm.MethodName)),
  (Jvm.Cond.methodLink "PieceTraceLaw" (82 : Nat) ({ cls := "PieceTraceLaw", name := "weld", desc := "(LPieceTrace;II[J)I" } : Jvm.MethodName)),
  (Jvm.Cond.static ({ cls := "PieceTraceLaw", name := "weld", desc := "(LPieceTrace;II[J)I" } : Jvm.MethodName)),
  (Jvm.Cond.methodLink "PieceTraceLaw" (24 : Nat) ({ cls := "PieceTrace", name := "weld", desc := "(II)I" } : Jvm.MethodName)),
  (Jvm.Cond.instanceMethod ({ cls := "PieceTrace", name := "weld", desc := "(II)I" } : Jvm.MethodName)),
  (Jvm.Cond.selects "PieceTrace" ({ cls := "PieceTrace", name := "weld", desc := "(II)I" } : Jvm.MethodName) ({ cls := "PieceTrace", name := "weld", desc := "(II)I" } : Jvm.MethodName)),
  (Jvm.Cond.constantLong "PieceTrace" (93 : Nat) (1000000000 : Int64)),
  (Jvm.Cond.methodLink "PieceTrace" (100 : Nat) ({ cls := "java/lang/Math", name := "max", desc := "(II)I" } : Jvm.MethodName)),
  (Jvm.Cond.static ({ cls := "java/lang/Math", name := "max", desc := "(II)I" } : Jvm.MethodName)),
  (Jvm.Cond.methodLink "PieceTraceLaw" (85 : Nat) ({ cls := "PieceTraceLaw", name := "roll", desc := "(LPieceTrace;III[J)I" } : Jvm.MethodName)),
  (Jvm.Cond.static ({ cls := "PieceTraceLaw", name := "roll", desc := "(LPieceTrace;III[J)I" } : Jvm.MethodName)),
  (Jvm.Cond.methodLink "PieceTraceLaw" (27 : Nat) ({ cls := "PieceTrace", name := "roll", desc := "(III)I" } : Jvm.MethodName)),
  (Jvm.Cond.instanceMethod ({ cls := "PieceTrace", name := "roll", desc := "(III)I" } : Jvm.MethodName)),
  (Jvm.Cond.selects "PieceTrace" ({ cls := "PieceTrace", name := "roll", desc := "(III)I" } : Jvm.MethodName) ({ cls := "PieceTrace", name := "roll", desc := "(III)I" } : Jvm.MethodName)),
  (Jvm.Cond.methodLink "PieceTraceLaw" (89 : Nat) ({ cls := "PieceTraceLaw", name := "slit", desc := "(LPieceTrace;II[J)I" } : Jvm.MethodName)),
  (Jvm.Cond.static ({ cls := "PieceTraceLaw", name := "slit", desc := "(LPieceTrace;II[J)I" } : Jvm.MethodName)),
  (Jvm.Cond.methodLink "PieceTraceLaw" (31 : Nat) ({ cls := "PieceTrace", name := "slit", desc := "(II)I" } : Jvm.MethodName)),
  (Jvm.Cond.instanceMethod ({ cls := "PieceTrace", name := "slit", desc := "(II)I" } : Jvm.MethodName)),
  (Jvm.Cond.selects "PieceTrace" ({ cls := "PieceTrace", name := "slit", desc := "(II)I" } : Jvm.MethodName) ({ cls := "PieceTrace", name := "slit", desc := "(II)I" } : Jvm.MethodName)),
  (Jvm.Cond.methodLink "PieceTraceLaw" (92 : Nat) ({ cls := "PieceTraceLaw", name := "hold", desc := "(LPieceTrace;IZ)I" } : Jvm.MethodName)),
  (Jvm.Cond.static ({ cls := "PieceTraceLaw", name := "hold", desc := "(LPieceTrace;IZ)I" } : Jvm.MethodName)),
  (Jvm.Cond.methodLink "PieceTraceLaw" (34 : Nat) ({ cls := "PieceTrace", name := "hold", desc := "(IZ)V" } : Jvm.MethodName)),
  (Jvm.Cond.instanceMethod ({ cls := "PieceTrace", name := "hold", desc := "(IZ)V" } : Jvm.MethodName)),
  (Jvm.Cond.selects "PieceTrace" ({ cls := "PieceTrace", name := "hold", desc := "(IZ)V" } : Jvm.MethodName) ({ cls := "PieceTrace", name := "hold", desc := "(IZ)V" } : Jvm.MethodName)),
  (Jvm.Cond.methodLink "PieceTraceLaw" (96 : Nat) ({ cls := "PieceTraceLaw", name := "scrap", desc := "(LPieceTrace;I[J)I" } : Jvm.MethodName)),
  (Jvm.Cond.static ({ cls := "PieceTraceLaw", name := "scrap", desc := "(LPieceTrace;I[J)I" } : Jvm.MethodName)),
  (Jvm.Cond.methodLink "PieceTraceLaw" (38 : Nat) ({ cls := "PieceTrace", name := "scrap", desc := "(I)I" } : Jvm.MethodName)),
  (Jvm.Cond.instanceMethod ({ cls := "PieceTrace", name := "scrap", desc := "(I)I" } : Jvm.MethodName)),
  (Jvm.Cond.selects "PieceTrace" ({ cls := "PieceTrace", name := "scrap", desc := "(I)I" } : Jvm.MethodName) ({ cls := "PieceTrace", name := "scrap", desc := "(I)I" } : Jvm.MethodName)),
  (Jvm.Cond.methodLink "PieceTraceLaw" (100 : Nat) ({ cls := "PieceTraceLaw", name := "back", desc := "(LPieceTrace;II[J)I" } : Jvm.MethodName)),
  (Jvm.Cond.static ({ cls := "PieceTraceLaw", name := "back", desc := "(LPieceTrace;II[J)I" } : Jvm.MethodName)),
  (Jvm.Cond.methodLink "PieceTraceLaw" (42 : Nat) ({ cls := "PieceTrace", name := "back", desc := "(II)I" } : Jvm.MethodName)),
  (Jvm.Cond.instanceMethod ({ cls := "PieceTrace", name := "back", desc := "(II)I" } : Jvm.MethodName)),
  (Jvm.Cond.selects "PieceTrace" ({ cls := "PieceTrace", name := "back", desc := "(II)I" } : Jvm.MethodName) ({ cls := "PieceTrace", name := "back", desc := "(II)I" } : Jvm.MethodName)),
  (Jvm.Cond.constantLong "PieceTrace" (119 : Nat) (100 : Int64)),
  (Jvm.Cond.methodLink "PieceTraceLaw" (103 : Nat) ({ cls := "PieceTraceLaw", name := "at", desc := "(LPieceTrace;II[J)I" } : Jvm.MethodName)),
  (Jvm.Cond.static ({ cls := "PieceTraceLaw", name := "at", desc := "(LPieceTrace;II[J)I" } : Jvm.MethodName)),
  (Jvm.Cond.methodLink "PieceTraceLaw" (45 : Nat) ({ cls := "PieceTrace", name := "at", desc := "(II)I" } : Jvm.MethodName)),
  (Jvm.Cond.instanceMethod ({ cls := "PieceTrace", name := "at", desc := "(II)I" } : Jvm.MethodName)),
  (Jvm.Cond.selects "PieceTrace" ({ cls := "PieceTrace", name := "at", desc := "(II)I" } : Jvm.MethodName) ({ cls := "PieceTrace", name := "at", desc := "(II)I" } : Jvm.MethodName)),
  (Jvm.Cond.methodLink "PieceTrace" (123 : Nat) ({ cls := "PieceTrace", name := "isLive", desc := "(I)Z" } : Jvm.MethodName)),
  (Jvm.Cond.instanceMethod ({ cls := "PieceTrace", name := "isLive", desc := "(I)Z" } : Jvm.MethodName)),
  (Jvm.Cond.methodLink "PieceTraceLaw" (106 : Nat) ({ cls := "PieceTraceLaw", name := "origin", desc := "(LPieceTrace;III[J)I" } : Jvm.MethodName)),
  (Jvm.Cond.static ({ cls := "PieceTraceLaw", name := "origin", desc := "(LPieceTrace;III[J)I" } : Jvm.MethodName)),
  (Jvm.Cond.methodLink "PieceTraceLaw" (48 : Nat) ({ cls := "PieceTrace", name := "origin", desc := "(III)J" } : Jvm.MethodName)),
  (Jvm.Cond.instanceMethod ({ cls := "PieceTrace", name := "origin", desc := "(III)J" } : Jvm.MethodName)),
  (Jvm.Cond.selects "PieceTrace" ({ cls := "PieceTrace", name := "origin", desc := "(III)J" } : Jvm.MethodName) ({ cls := "PieceTrace", name := "origin", desc := "(III)J" } : Jvm.MethodName)),
  (Jvm.Cond.methodLink "PieceTrace" (129 : Nat) ({ cls := "PieceTrace", name := "needPart", desc := "(II)V" } : Jvm.MethodName)),
  (Jvm.Cond.static ({ cls := "PieceTrace", name := "needPart", desc := "(II)V" } : Jvm.MethodName)),
  (Jvm.Cond.methodLink "PieceTrace" (133 : Nat) ({ cls := "PieceTrace", name := "walkBack", desc := "(II)I" } : Jvm.MethodName)),
  (Jvm.Cond.instanceMethod ({ cls := "PieceTrace", name := "walkBack", desc := "(II)I" } : Jvm.MethodName)),
  (Jvm.Cond.instanceMethod ({ cls := "PieceTrace$Place", name := "set", desc := "(JJ)V" } : Jvm.MethodName)),
  (Jvm.Cond.methodLink "PieceTrace" (186 : Nat) ({ cls := "PieceTrace", name := "stepBack", desc := "(I)I" } : Jvm.MethodName)),
  (Jvm.Cond.instanceMethod ({ cls := "PieceTrace", name := "stepBack", desc := "(I)I" } : Jvm.MethodName)),
  (Jvm.Cond.instanceMethod ({ cls := "PieceTrace$Place", name := "move", desc := "(J)V" } : Jvm.MethodName)),
  (Jvm.Cond.instanceMethod ({ cls := "PieceTrace$Place", name := "isBelow", desc := "(J)Z" } : Jvm.MethodName)),
  (Jvm.Cond.instanceMethod ({ cls := "PieceTrace$Place", name := "stretch", desc := "(JJ)V" } : Jvm.MethodName)),
  (Jvm.Cond.methodLink "PieceTrace$Place" (16 : Nat) ({ cls := "PieceTrace$Place", name := "commonDivisor", desc := "(JJ)J" } : Jvm.MethodName)),
  (Jvm.Cond.static ({ cls := "PieceTrace$Place", name := "commonDivisor", desc := "(JJ)J" } : Jvm.MethodName)),
  (Jvm.Cond.methodLink "PieceTraceLaw" (109 : Nat) ({ cls := "PieceTraceLaw", name := "defect", desc := "(LPieceTrace;II[J)I" } : Jvm.MethodName)),
  (Jvm.Cond.static ({ cls := "PieceTraceLaw", name := "defect", desc := "(LPieceTrace;II[J)I" } : Jvm.MethodName)),
  (Jvm.Cond.methodLink "PieceTraceLaw" (52 : Nat) ({ cls := "PieceTrace", name := "defect", desc := "(II)I" } : Jvm.MethodName)),
  (Jvm.Cond.instanceMethod ({ cls := "PieceTrace", name := "defect", desc := "(II)I" } : Jvm.MethodName)),
  (Jvm.Cond.selects "PieceTrace" ({ cls := "PieceTrace", name := "defect", desc := "(II)I" } : Jvm.MethodName) ({ cls := "PieceTrace", name := "defect", desc := "(II)I" } : Jvm.MethodName)),
  (Jvm.Cond.methodLink "PieceTraceLaw" (112 : Nat) ({ cls := "PieceTraceLaw", name := "has", desc := "(LPieceTrace;III[J)I" } : Jvm.MethodName)),
  (Jvm.Cond.static ({ cls := "PieceTraceLaw", name := "has", desc := "(LPieceTrace;III[J)I" } : Jvm.MethodName)),
  (Jvm.Cond.methodLink "PieceTraceLaw" (55 : Nat) ({ cls := "PieceTrace", name := "has", desc := "(III)J" } : Jvm.MethodName)),
  (Jvm.Cond.instanceMethod ({ cls := "PieceTrace", name := "has", desc := "(III)J" } : Jvm.MethodName)),
  (Jvm.Cond.selects "PieceTrace" ({ cls := "PieceTrace", name := "has", desc := "(III)J" } : Jvm.MethodName) ({ cls := "PieceTrace", name := "has", desc := "(III)J" } : Jvm.MethodName)),
  (Jvm.Cond.methodLink "PieceTrace" (147 : Nat) ({ cls := "PieceTrace", name := "needDefect", desc := "(I)V" } : Jvm.MethodName)),
  (Jvm.Cond.instanceMethod ({ cls := "PieceTrace", name := "needDefect", desc := "(I)V" } : Jvm.MethodName)),
  (Jvm.Cond.methodLink "PieceTrace" (150 : Nat) ({ cls := "PieceTrace", name := "follow", desc := "(I)V" } : Jvm.MethodName)),
  (Jvm.Cond.instanceMethod ({ cls := "PieceTrace", name := "follow", desc := "(I)V" } : Jvm.MethodName)),
  (Jvm.Cond.methodLink "PieceTrace" (201 : Nat) ({ cls := "PieceTrace", name := "stepForward", desc := "(II)Z" } : Jvm.MethodName)),
  (Jvm.Cond.instanceMethod ({ cls := "PieceTrace", name := "stepForward", desc := "(II)Z" } : Jvm.MethodName)),
  (Jvm.Cond.methodLink "PieceTrace" (205 : Nat) ({ cls := "PieceTrace", name := "takeFound", desc := "(I)Z" } : Jvm.MethodName)),
  (Jvm.Cond.instanceMethod ({ cls := "PieceTrace", name := "takeFound", desc := "(I)Z" } : Jvm.MethodName)),
  (Jvm.Cond.constantLong "PieceTrace" (153 : Nat) (-1 : Int64)),
  (Jvm.Cond.methodLink "PieceTraceLaw" (115 : Nat) ({ cls := "PieceTraceLaw", name := "recall", desc := "(LPieceTrace;II[J)I" } : Jvm.MethodName)),
  (Jvm.Cond.static ({ cls := "PieceTraceLaw", name := "recall", desc := "(LPieceTrace;II[J)I" } : Jvm.MethodName)),
  (Jvm.Cond.methodLink "PieceTraceLaw" (58 : Nat) ({ cls := "PieceTrace", name := "recall", desc := "(II)I" } : Jvm.MethodName)),
  (Jvm.Cond.instanceMethod ({ cls := "PieceTrace", name := "recall", desc := "(II)I" } : Jvm.MethodName)),
  (Jvm.Cond.selects "PieceTrace" ({ cls := "PieceTrace", name := "recall", desc := "(II)I" } : Jvm.MethodName) ({ cls := "PieceTrace", name := "recall", desc := "(II)I" } : Jvm.MethodName)),
  (Jvm.Cond.methodLink "PieceTraceLaw" (118 : Nat) ({ cls := "PieceTraceLaw", name := "told", desc := "(LPieceTrace;I[J)I" } : Jvm.MethodName)),
  (Jvm.Cond.static ({ cls := "PieceTraceLaw", name := "told", desc := "(LPieceTrace;I[J)I" } : Jvm.MethodName)),
  (Jvm.Cond.methodLink "PieceTraceLaw" (61 : Nat) ({ cls := "PieceTrace", name := "told", desc := "(I)J" } : Jvm.MethodName)),
  (Jvm.Cond.instanceMethod ({ cls := "PieceTrace", name := "told", desc := "(I)J" } : Jvm.MethodName)),
  (Jvm.Cond.selects "PieceTrace" ({ cls := "PieceTrace", name := "told", desc := "(I)J" } : Jvm.MethodName) ({ cls := "PieceTrace", name := "told", desc := "(I)J" } : Jvm.MethodName)),
  (Jvm.Cond.methodLink "PieceTrace" (160 : Nat) ({ cls := "PieceTrace", name := "liveWeight", desc := "()J" } : Jvm.MethodName)),
  (Jvm.Cond.instanceMethod ({ cls := "PieceTrace", name := "liveWeight", desc := "()J" } : Jvm.MethodName)),
  (Jvm.Cond.classLink "PieceTraceLaw" (66 : Nat) "PieceTraceModel"),
  (Jvm.Cond.instantiable "PieceTraceModel" (24 : Nat)),
  (Jvm.Cond.methodLink "PieceTraceLaw" (68 : Nat) ({ cls := "PieceTraceModel", name := "<init>", desc := "()V" } : Jvm.MethodName)),
  (Jvm.Cond.instanceMethod ({ cls := "PieceTraceModel", name := "<init>", desc := "()V" } : Jvm.MethodName)),
  (Jvm.Cond.methodLink "PieceTraceModel" (1 : Nat) ({ cls := "java/lang/Object", name := "<init>", desc := "()V" } : Jvm.MethodName)),
  (Jvm.Cond.fieldLink "PieceTraceModel" (60 : Nat) "PieceTraceModel" "thrown" "I"),
  (Jvm.Cond.fieldLink "PieceTraceModel" (64 : Nat) "PieceTraceModel" "pieces" "I"),
  (Jvm.Cond.fieldLink "PieceTraceModel" (7 : Nat) "PieceTraceModel" "kind" "[I"),
  (Jvm.Cond.fieldLink "PieceTraceModel" (13 : Nat) "PieceTraceModel" "weight" "[I"),
  (Jvm.Cond.fieldLink "PieceTraceModel" (16 : Nat) "PieceTraceModel" "length" "[I"),
  (Jvm.Cond.fieldLink "PieceTraceModel" (19 : Nat) "PieceTraceModel" "state" "[I"),
  (Jvm.Cond.fieldLink "PieceTraceModel" (22 : Nat) "PieceTraceModel" "held" "[Z"),
  (Jvm.Cond.fieldLink "PieceTraceModel" (26 : Nat) "PieceTraceModel" "of" "[I"),
  (Jvm.Cond.fieldLink "PieceTraceModel" (29 : Nat) "PieceTraceModel" "other" "[I"),
  (Jvm.Cond.fieldLink "PieceTraceModel" (32 : Nat) "PieceTraceModel" "cutAt" "[I"),
  (Jvm.Cond.fieldLink "PieceTraceModel" (35 : Nat) "PieceTraceModel" "over" "[I"),
  (Jvm.Cond.fieldLink "PieceTraceModel" (38 : Nat) "PieceTraceModel" "under" "[I"),
  (Jvm.Cond.fieldLink "PieceTraceModel" (41 : Nat) "PieceTraceModel" "rolls" "[I"),
  (Jvm.Cond.fieldLink "PieceTraceModel" (94 : Nat) "PieceTraceModel" "heap" "I"),
  (Jvm.Cond.fieldLink "PieceTraceModel" (80 : Nat) "PieceTraceModel" "melted" "J"),
  (Jvm.Cond.fieldLink "PieceTraceModel" (115 : Nat) "PieceTraceModel" "defects" "I"),
  (Jvm.Cond.fieldLink "PieceTraceModel" (44 : Nat) "PieceTraceModel" "defectMelt" "[I"),
  (Jvm.Cond.fieldLink "PieceTraceModel" (47 : Nat) "PieceTraceModel" "defectUp" "[J"),
  (Jvm.Cond.fieldLink "PieceTraceModel" (51 : Nat) "PieceTraceModel" "defectLow" "[J"),
  (Jvm.Cond.fieldLink "PieceTraceModel" (108 : Nat) "PieceTraceModel" "melt" "I"),
  (Jvm.Cond.fieldLink "PieceTraceModel" (99 : Nat) "PieceTraceModel" "up" "J"),
  (Jvm.Cond.fieldLink "PieceTraceModel" (102 : Nat) "PieceTraceModel" "low" "J"),
  (Jvm.Cond.fieldLink "PieceTraceModel" (54 : Nat) "PieceTraceModel" "ups" "[J"),
  (Jvm.Cond.fieldLink "PieceTraceModel" (57 : Nat) "PieceTraceModel" "lows" "[J"),
  (Jvm.Cond.lays "PieceTraceModel" "PieceTraceModel" "thrown" "I"),
  (Jvm.Cond.lays "PieceTraceModel" "PieceTraceModel" "pieces" "I"),
  (Jvm.Cond.laysFinal "PieceTraceModel" "PieceTraceModel" "kind" "[I"),
  (Jvm.Cond.laysFinal "PieceTraceModel" "PieceTraceModel" "weight" "[I"),
  (Jvm.Cond.laysFinal "PieceTraceModel" "PieceTraceModel" "length" "[I"),
  (Jvm.Cond.laysFinal "PieceTraceModel" "PieceTraceModel" "state" "[I"),
  (Jvm.Cond.laysFinal "PieceTraceModel" "PieceTraceModel" "held" "[Z"),
  (Jvm.Cond.laysFinal "PieceTraceModel" "PieceTraceModel" "of" "[I"),
  (Jvm.Cond.laysFinal "PieceTraceModel" "PieceTraceModel" "other" "[I"),
  (Jvm.Cond.laysFinal "PieceTraceModel" "PieceTraceModel" "cutAt" "[I"),
  (Jvm.Cond.laysFinal "PieceTraceModel" "PieceTraceModel" "over" "[I"),
  (Jvm.Cond.laysFinal "PieceTraceModel" "PieceTraceModel" "under" "[I"),
  (Jvm.Cond.laysFinal "PieceTraceModel" "PieceTraceModel" "rolls" "[I"),
  (Jvm.Cond.lays "PieceTraceModel" "PieceTraceModel" "heap" "I"),
  (Jvm.Cond.lays "PieceTraceModel" "PieceTraceModel" "melted" "J"),
  (Jvm.Cond.lays "PieceTraceModel" "PieceTraceModel" "defects" "I"),
  (Jvm.Cond.laysFinal "PieceTraceModel" "PieceTraceModel" "defectMelt" "[I"),
  (Jvm.Cond.laysFinal "PieceTraceModel" "PieceTraceModel" "defectUp" "[J"),
  (Jvm.Cond.laysFinal "PieceTraceModel" "PieceTraceModel" "defectLow" "[J"),
  (Jvm.Cond.lays "PieceTraceModel" "PieceTraceModel" "melt" "I"),
  (Jvm.Cond.lays "PieceTraceModel" "PieceTraceModel" "up" "J"),
  (Jvm.Cond.lays "PieceTraceModel" "PieceTraceModel" "low" "J"),
  (Jvm.Cond.laysFinal "PieceTraceModel" "PieceTraceModel" "ups" "[J"),
  (Jvm.Cond.laysFinal "PieceTraceModel" "PieceTraceModel" "lows" "[J"),
  (Jvm.Cond.arrayClass Jvm.ClassFile.FieldType.boolean),
  (Jvm.Cond.methodLink "PieceTraceLaw" (75 : Nat) ({ cls := "PieceTraceModel", name := "thrown", desc := "()I" } : Jvm.MethodName)),
  (Jvm.Cond.instanceMethod ({ cls := "PieceTraceModel", name := "thrown", desc := "()I" } : Jvm.MethodName)),
  (Jvm.Cond.selects "PieceTraceModel" ({ cls := "PieceTraceModel", name := "thrown", desc := "()I" } : Jvm.MethodName) ({ cls := "PieceTraceModel", name := "thrown", desc := "()I" } : Jvm.MethodName)),
  (Jvm.Cond.methodLink "PieceTraceLaw" (74 : Nat) ({ cls := "PieceTraceModel", name := "melt", desc := "(II)I" } : Jvm.MethodName)),
  (Jvm.Cond.instanceMethod ({ cls := "PieceTraceModel", name := "melt", desc := "(II)I" } : Jvm.MethodName)),
  (Jvm.Cond.selects "PieceTraceModel" ({ cls := "PieceTraceModel", name := "melt", desc := "(II)I" } : Jvm.MethodName) ({ cls := "PieceTraceModel", name := "melt", desc := "(II)I" } : Jvm.MethodName)),
  (Jvm.Cond.constant "PieceTraceModel" (75 : Nat) (1000000 : Int32)),
  (Jvm.Cond.methodLink "PieceTraceModel" (67 : Nat) ({ cls := "PieceTraceModel", name := "in", desc := "(III)Z" } : Jvm.MethodName)),
  (Jvm.Cond.static ({ cls := "PieceTraceModel", name := "in", desc := "(III)Z" } : Jvm.MethodName)),
  (Jvm.Cond.methodLink "PieceTraceModel" (76 : Nat) ({ cls := "PieceTraceModel", name := "throwing", desc := "(ZZZZ)Z" } : Jvm.MethodName)),
  (Jvm.Cond.instanceMethod ({ cls := "PieceTraceModel", name := "throwing", desc := "(ZZZZ)Z" } : Jvm.MethodName)),
  (Jvm.Cond.methodLink "PieceTraceModel" (84 : Nat) ({ cls := "PieceTraceModel", name := "add", desc := "(IIII)I" } : Jvm.MethodName)),
  (Jvm.Cond.instanceMethod ({ cls := "PieceTraceModel", name := "add", desc := "(IIII)I" } : Jvm.MethodName)),
  (Jvm.Cond.methodLink "PieceTraceLaw" (81 : Nat) ({ cls := "PieceTraceModel", name := "cut", desc := "(II)I" } : Jvm.MethodName)),
  (Jvm.Cond.instanceMethod ({ cls := "PieceTraceModel", name := "cut", desc := "(II)I" } : Jvm.MethodName)),
  (Jvm.Cond.selects "PieceTraceModel" ({ cls := "PieceTraceModel", name := "cut", desc := "(II)I" } : Jvm.MethodName) ({ cls := "PieceTraceModel", name := "cut", desc := "(II)I" } : Jvm.MethodName)),
  (Jvm.Cond.methodLink "PieceTraceModel" (71 : Nat) ({ cls := "PieceTraceModel", name := "isPiece", desc := "(I)Z" } : Jvm.MethodName)),
  (Jvm.Cond.instanceMethod ({ cls := "PieceTraceModel", name := "isPiece", desc := "(I)Z" } : Jvm.MethodName)),
  (Jvm.Cond.methodLink "PieceTraceModel" (88 : Nat) ({ cls := "PieceTraceModel", name := "isAtHand", desc := "(I)Z" } : Jvm.MethodName)),
  (Jvm.Cond.instanceMethod ({ cls := "PieceTraceModel", name := "isAtHand", desc := "(I)Z" } : Jvm.MethodName)),
  (Jvm.Cond.methodLink "PieceTraceLaw" (84 : Nat) ({ cls := "PieceTraceModel", name := "weld", desc := "(II)I" } : Jvm.MethodName)),
  (Jvm.Cond.instanceMethod ({ cls := "PieceTraceModel", name := "weld", desc := "(II)I" } : Jvm.MethodName)),
  (Jvm.Cond.selects "PieceTraceModel" ({ cls := "PieceTraceModel", name := "weld", desc := "(II)I" } : Jvm.MethodName) ({ cls := "PieceTraceModel", name := "weld", desc := "(II)I" } : Jvm.MethodName)),
  (Jvm.Cond.constant "PieceTraceModel" (91 : Nat) (1000000000 : Int32)),
  (Jvm.Cond.methodLink "PieceTraceLaw" (88 : Nat) ({ cls := "PieceTraceModel", name := "roll", desc := "(III)I" } : Jvm.MethodName)),
  (Jvm.Cond.instanceMethod ({ cls := "PieceTraceModel", name := "roll", desc := "(III)I" } : Jvm.MethodName)),
  (Jvm.Cond.selects "PieceTraceModel" ({ cls := "PieceTraceModel", name := "roll", desc := "(III)I" } : Jvm.MethodName) ({ cls := "PieceTraceModel", name := "roll", desc := "(III)I" } : Jvm.MethodName)),
  (Jvm.Cond.constantLong "PieceTraceModel" (92 : Nat) (1000000000 : Int64)),
  (Jvm.Cond.methodLink "PieceTraceLaw" (91 : Nat) ({ cls := "PieceTraceModel", name := "slit", desc := "(II)I" } : Jvm.MethodName)),
  (Jvm.Cond.instanceMethod ({ cls := "PieceTraceModel", name := "slit", desc := "(II)I" } : Jvm.MethodName)),
  (Jvm.Cond.selects "PieceTraceModel" ({ cls := "PieceTraceModel", name := "slit", desc := "(II)I" } : Jvm.MethodName) ({ cls := "PieceTraceModel", name := "slit", desc := "(II)I" } : Jvm.MethodName)),
  (Jvm.Cond.methodLink "PieceTraceLaw" (95 : Nat) ({ cls := "PieceTraceModel", name := "hold", desc := "(IZ)V" } : Jvm.MethodName)),
  (Jvm.Cond.instanceMethod ({ cls := "PieceTraceModel", name := "hold", desc := "(IZ)V" } : Jvm.MethodName)),
  (Jvm.Cond.selects "PieceTraceModel" ({ cls := "PieceTraceModel", name := "hold", desc := "(IZ)V" } : Jvm.MethodName) ({ cls := "PieceTraceModel", name := "hold", desc := "(IZ)V" } : Jvm.MethodName)),
  (Jvm.Cond.methodLink "PieceTraceLaw" (99 : Nat) ({ cls := "PieceTraceModel", name := "scrap", desc := "(I)I" } : Jvm.MethodName)),
  (Jvm.Cond.instanceMethod ({ cls := "PieceTraceModel", name := "scrap", desc := "(I)I" } : Jvm.MethodName)),
  (Jvm.Cond.selects "PieceTraceModel" ({ cls := "PieceTraceModel", name := "scrap", desc := "(I)I" } : Jvm.MethodName) ({ cls := "PieceTraceModel", name := "scrap", desc := "(I)I" } : Jvm.MethodName)),
  (Jvm.Cond.methodLink "PieceTraceLaw" (102 : Nat) ({ cls := "PieceTraceModel", name := "back", desc := "(II)I" } : Jvm.MethodName)),
  (Jvm.Cond.instanceMethod ({ cls := "PieceTraceModel", name := "back", desc := "(II)I" } : Jvm.MethodName)),
  (Jvm.Cond.selects "PieceTraceModel" ({ cls := "PieceTraceModel", name := "back", desc := "(II)I" } : Jvm.MethodName) ({ cls := "PieceTraceModel", name := "back", desc := "(II)I" } : Jvm.MethodName)),
  (Jvm.Cond.constantLong "PieceTraceModel" (97 : Nat) (100 : Int64)),
  (Jvm.Cond.methodLink "PieceTraceLaw" (105 : Nat) ({ cls := "PieceTraceModel", name := "at", desc := "(II)I" } : Jvm.MethodName)),
  (Jvm.Cond.instanceMethod ({ cls := "PieceTraceModel", name := "at", desc := "(II)I" } : Jvm.MethodName)),
  (Jvm.Cond.selects "PieceTraceModel" ({ cls := "PieceTraceModel", name := "at", desc := "(II)I" } : Jvm.MethodName) ({ cls := "PieceTraceModel", name := "at", desc := "(II)I" } : Jvm.MethodName)),
  (Jvm.Cond.methodLink "PieceTraceLaw" (108 : Nat) ({ cls := "PieceTraceModel", name := "origin", desc := "(III)J" } : Jvm.MethodName)),
  (Jvm.Cond.instanceMethod ({ cls := "PieceTraceModel", name := "origin", desc := "(III)J" } : Jvm.MethodName)),
  (Jvm.Cond.selects "PieceTraceModel" ({ cls := "PieceTraceModel", name := "origin", desc := "(III)J" } : Jvm.MethodName) ({ cls := "PieceTraceModel", name := "origin", desc := "(III)J" } : Jvm.MethodName)),
  (Jvm.Cond.methodLink "PieceTraceModel" (111 : Nat) ({ cls := "PieceTraceModel", name := "goBack", desc := "(II)V" } : Jvm.MethodName)),
  (Jvm.Cond.instanceMethod ({ cls := "PieceTraceModel", name := "goBack", desc := "(II)V" } : Jvm.MethodName)),
  (Jvm.Cond.methodLink "PieceTraceModel" (105 : Nat) ({ cls := "PieceTraceModel", name := "lowest", desc := "()V" } : Jvm.MethodName)),
  (Jvm.Cond.instanceMethod ({ cls := "PieceTraceModel", name := "lowest", desc := "()V" } : Jvm.MethodName)),
  (Jvm.Cond.methodLink "PieceTraceLaw" (111 : Nat) ({ cls := "PieceTraceModel", name := "defect", desc := "(II)I" } : Jvm.MethodName)),
  (Jvm.Cond.instanceMethod ({ cls := "PieceTraceModel", name := "defect", desc := "(II)I" } : Jvm.MethodName)),
  (Jvm.Cond.selects "PieceTraceModel" ({ cls := "PieceTraceModel", name := "defect", desc := "(II)I" } : Jvm.MethodName) ({ cls := "PieceTraceModel", name := "defect", desc := "(II)I" } : Jvm.MethodName)),
  (Jvm.Cond.methodLink "PieceTraceLaw" (114 : Nat) ({ cls := "PieceTraceModel", name := "has", desc := "(III)J" } : Jvm.MethodName)),
  (Jvm.Cond.instanceMethod ({ cls := "PieceTraceModel", name := "has", desc := "(III)J" } : Jvm.MethodName)),
  (Jvm.Cond.selects "PieceTraceModel" ({ cls := "PieceTraceModel", name := "has", desc := "(III)J" } : Jvm.MethodName) ({ cls := "PieceTraceModel", name := "has", desc := "(III)J" } : Jvm.MethodName)),
  (Jvm.Cond.methodLink "PieceTraceModel" (126 : Nat) ({ cls := "PieceTraceModel", name := "isDefect", desc := "(I)Z" } : Jvm.MethodName)),
  (Jvm.Cond.instanceMethod ({ cls := "PieceTraceModel", name := "isDefect", desc := "(I)Z" } : Jvm.MethodName)),
  (Jvm.Cond.methodLink "PieceTraceModel" (129 : Nat) ({ cls := "PieceTraceModel", name := "goForward", desc := "(I)V" } : Jvm.MethodName)),
  (Jvm.Cond.instanceMethod ({ cls := "PieceTraceModel", name := "goForward", desc := "(I)V" } : Jvm.MethodName)),
  (Jvm.Cond.methodLink "PieceTraceModel" (121 : Nat) ({ cls := "PieceTraceModel", name := "reaches", desc := "(I)Z" } : Jvm.MethodName)),
  (Jvm.Cond.instanceMethod ({ cls := "PieceTraceModel", name := "reaches", desc := "(I)Z" } : Jvm.MethodName)),
  (Jvm.Cond.methodLink "PieceTraceModel" (118 : Nat) ({ cls := "PieceTraceModel", name := "takes", desc := "(I)Z" } : Jvm.MethodName)),
  (Jvm.Cond.instanceMethod ({ cls := "PieceTraceModel", name := "takes", desc := "(I)Z" } : Jvm.MethodName)),
  (Jvm.Cond.constantLong "PieceTraceModel" (124 : Nat) (-1 : Int64)),
  (Jvm.Cond.methodLink "PieceTraceLaw" (117 : Nat) ({ cls := "PieceTraceModel", name := "recall", desc := "(II)I" } : Jvm.MethodName)),
  (Jvm.Cond.instanceMethod ({ cls := "PieceTraceModel", name := "recall", desc := "(II)I" } : Jvm.MethodName)),
  (Jvm.Cond.selects "PieceTraceModel" ({ cls := "PieceTraceModel", name := "recall", desc := "(II)I" } : Jvm.MethodName) ({ cls := "PieceTraceModel", name := "recall", desc := "(II)I" } : Jvm.MethodName)),
  (Jvm.Cond.methodLink "PieceTraceLaw" (120 : Nat) ({ cls := "PieceTraceModel", name := "told", desc := "(I)J" } : Jvm.MethodName)),
  (Jvm.Cond.instanceMethod ({ cls := "PieceTraceModel", name := "told", desc := "(I)J" } : Jvm.MethodName)),
  (Jvm.Cond.selects "PieceTraceModel" ({ cls := "PieceTraceModel", name := "told", desc := "(I)J" } : Jvm.MethodName) ({ cls := "PieceTraceModel", name := "told", desc := "(I)J" } : Jvm.MethodName)),
  (Jvm.Cond.selects "PieceTrace" ({ cls := "PieceTrace", name := "needRoom", desc := "(I)V" } : Jvm.MethodName) ({ cls := "PieceTrace", name := "needRoom", desc := "(I)V" } : Jvm.MethodName)),
  (Jvm.Cond.selects "PieceTrace" ({ cls := "PieceTrace", name := "addPiece", desc := "(IIII)I" } : Jvm.MethodName) ({ cls := "PieceTrace", name := "addPiece", desc := "(IIII)I" } : Jvm.MethodName)),
  (Jvm.Cond.selects "PieceTrace" ({ cls := "PieceTrace", name := "needPiece", desc := "(I)V" } : Jvm.MethodName) ({ cls := "PieceTrace", name := "needPiece", desc := "(I)V" } : Jvm.MethodName)),
  (Jvm.Cond.selects "PieceTrace" ({ cls := "PieceTrace", name := "isPiece", desc := "(I)Z" } : Jvm.MethodName) ({ cls := "PieceTrace", name := "isPiece", desc := "(I)Z" } : Jvm.MethodName)),
  (Jvm.Cond.selects "PieceTrace" ({ cls := "PieceTrace", name := "needFree", desc := "(I)V" } : Jvm.MethodName) ({ cls := "PieceTrace", name := "needFree", desc := "(I)V" } : Jvm.MethodName)),
  (Jvm.Cond.selects "PieceTrace" ({ cls := "PieceTrace", name := "isLive", desc := "(I)Z" } : Jvm.MethodName) ({ cls := "PieceTrace", name := "isLive", desc := "(I)Z" } : Jvm.MethodName)),
  (Jvm.Cond.selects "PieceTrace" ({ cls := "PieceTrace", name := "walkBack", desc := "(II)I" } : Jvm.MethodName) ({ cls := "PieceTrace", name := "walkBack", desc := "(II)I" } : Jvm.MethodName)),
  (Jvm.Cond.selects "PieceTrace$Place" ({ cls := "PieceTrace$Place", name := "set", desc := "(JJ)V" } : Jvm.MethodName) ({ cls := "PieceTrace$Place", name := "set", desc := "(JJ)V" } : Jvm.MethodName)),
  (Jvm.Cond.selects "PieceTrace" ({ cls := "PieceTrace", name := "stepBack", desc := "(I)I" } : Jvm.MethodName) ({ cls := "PieceTrace", name := "stepBack", desc := "(I)I" } : Jvm.MethodName)),
  (Jvm.Cond.selects "PieceTrace$Place" ({ cls := "PieceTrace$Place", name := "move", desc := "(J)V" } : Jvm.MethodName) ({ cls := "PieceTrace$Place", name := "move", desc := "(J)V" } : Jvm.MethodName)),
  (Jvm.Cond.selects "PieceTrace$Place" ({ cls := "PieceTrace$Place", name := "isBelow", desc := "(J)Z" } : Jvm.MethodName) ({ cls := "PieceTrace$Place", name := "isBelow", desc := "(J)Z" } : Jvm.MethodName)),
  (Jvm.Cond.selects "PieceTrace$Place" ({ cls := "PieceTrace$Place", name := "stretch", desc := "(JJ)V" } : Jvm.MethodName) ({ cls := "PieceTrace$Place", name := "stretch", desc := "(JJ)V" } : Jvm.MethodName)),
  (Jvm.Cond.selects "PieceTrace" ({ cls := "PieceTrace", name := "needDefect", desc := "(I)V" } : Jvm.MethodName) ({ cls := "PieceTrace", name := "needDefect", desc := "(I)V" } : Jvm.MethodName)),
  (Jvm.Cond.selects "PieceTrace" ({ cls := "PieceTrace", name := "follow", desc := "(I)V" } : Jvm.MethodName) ({ cls := "PieceTrace", name := "follow", desc := "(I)V" } : Jvm.MethodName)),
  (Jvm.Cond.selects "PieceTrace" ({ cls := "PieceTrace", name := "stepForward", desc := "(II)Z" } : Jvm.MethodName) ({ cls := "PieceTrace", name := "stepForward", desc := "(II)Z" } : Jvm.MethodName)),
  (Jvm.Cond.selects "PieceTrace" ({ cls := "PieceTrace", name := "takeFound", desc := "(I)Z" } : Jvm.MethodName) ({ cls := "PieceTrace", name := "takeFound", desc := "(I)Z" } : Jvm.MethodName)),
  (Jvm.Cond.selects "PieceTrace" ({ cls := "PieceTrace", name := "liveWeight", desc := "()J" } : Jvm.MethodName) ({ cls := "PieceTrace", name := "liveWeight", desc := "()J" } : Jvm.MethodName)),
  (Jvm.Cond.selects "PieceTraceModel" ({ cls := "PieceTraceModel", name := "throwing", desc := "(ZZZZ)Z" } : Jvm.MethodName) ({ cls := "PieceTraceModel", name := "throwing", desc := "(ZZZZ)Z" } : Jvm.MethodName)),
  (Jvm.Cond.selects "PieceTraceModel" ({ cls := "PieceTraceModel", name := "add", desc := "(IIII)I" } : Jvm.MethodName) ({ cls := "PieceTraceModel", name := "add", desc := "(IIII)I" } : Jvm.MethodName)),
  (Jvm.Cond.selects "PieceTraceModel" ({ cls := "PieceTraceModel", name := "isPiece", desc := "(I)Z" } : Jvm.MethodName) ({ cls := "PieceTraceModel", name := "isPiece", desc := "(I)Z" } : Jvm.MethodName)),
  (Jvm.Cond.selects "PieceTraceModel" ({ cls := "PieceTraceModel", name := "isAtHand", desc := "(I)Z" } : Jvm.MethodName) ({ cls := "PieceTraceModel", name := "isAtHand", desc := "(I)Z" } : Jvm.MethodName)),
  (Jvm.Cond.selects "PieceTraceModel" ({ cls := "PieceTraceModel", name := "goBack", desc := "(II)V" } : Jvm.MethodName) ({ cls := "PieceTraceModel", name := "goBack", desc := "(II)V" } : Jvm.MethodName)),
  (Jvm.Cond.selects "PieceTraceModel" ({ cls := "PieceTraceModel", name := "lowest", desc := "()V" } : Jvm.MethodName) ({ cls := "PieceTraceModel", name := "lowest", desc := "()V" } : Jvm.MethodName)),
  (Jvm.Cond.selects "PieceTraceModel" ({ cls := "PieceTraceModel", name := "isDefect", desc := "(I)Z" } : Jvm.MethodName) ({ cls := "PieceTraceModel", name := "isDefect", desc := "(I)Z" } : Jvm.MethodName)),
  (Jvm.Cond.selects "PieceTraceModel" ({ cls := "PieceTraceModel", name := "goForward", desc := "(I)V" } : Jvm.MethodName) ({ cls := "PieceTraceModel", name := "goForward", desc := "(I)V" } : Jvm.MethodName)),
  (Jvm.Cond.selects "PieceTraceModel" ({ cls := "PieceTraceModel", name := "reaches", desc := "(I)Z" } : Jvm.MethodName) ({ cls := "PieceTraceModel", name := "reaches", desc := "(I)Z" } : Jvm.MethodName)),
  (Jvm.Cond.selects "PieceTraceModel" ({ cls := "PieceTraceModel", name := "takes", desc := "(I)Z" } : Jvm.MethodName) ({ cls := "PieceTraceModel", name := "takes", desc := "(I)Z" } : Jvm.MethodName))]
def gWt_IOB : List Cond := (vx_atS RX9 90 "java/lang/IndexOutOfBoundsException" ["java/lang/RuntimeException", "java/lang/Exception"]).filter goodWord
def gWt_ISE : List Cond := (vx_atS RX9 114 "java/lang/IllegalStateException" ["java/lang/RuntimeException", "java/lang/Exception"]).filter goodWord
def gWt_IAE : List Cond := (vx_atS RX9 179 "java/lang/IllegalArgumentException" ["java/lang/RuntimeException", "java/lang/Exception"]).filter goodWord
def gWt_UOE : List Cond := (vx_atS RX9 99 "java/lang/UnsupportedOperationException" ["java/lang/RuntimeException", "java/lang/Exception"]).filter goodWord
def gW : List Cond := gWc ++ (gWo ++ (gWt_IOB ++ (gWt_ISE ++ (gWt_IAE ++ gWt_UOE))))
theorem gWc_in : ∀ w ∈ gWc, w ∈ gW := fun w h => List.mem_append_left _ h
theorem gWo_in : ∀ w ∈ gWo, w ∈ gW := fun w h => List.mem_append_right _ (List.mem_append_left _ h)
theorem gWt_IOB_in : ∀ w ∈ gWt_IOB, w ∈ gW := fun w h => List.mem_append_right _ (List.mem_append_right _ (List.mem_append_left _ h))
theorem gWt_ISE_in : ∀ w ∈ gWt_ISE, w ∈ gW := fun w h => List.mem_append_right _ (List.mem_append_right _ (List.mem_append_right _ (List.mem_append_left _ h)))
theorem gWt_IAE_in : ∀ w ∈ gWt_IAE, w ∈ gW := fun w h => List.mem_append_right _ (List.mem_append_right _ (List.mem_append_right _ (List.mem_append_right _ (List.mem_append_left _ h))))
theorem gWt_UOE_in : ∀ w ∈ gWt_UOE, w ∈ gW := fun w h => List.mem_append_right _ (List.mem_append_right _ (List.mem_append_right _ (List.mem_append_right _ (List.mem_append_right _ h))))
theorem gW_all : gW.all goodWord = true := by decide +kernel
theorem gW_good : ∀ w ∈ gW, (w.onTables && w.keeps) = true ∨ ∃ ty, w = .arrayClass ty := fun w h => good_of_word (List.all_eq_true.mp gW_all w h)
theorem gGI {c2 : Cond} (hc : c2 ∈ gWc) : GoodIn gW (c2 :: gW) := fun w h => (List.mem_cons.mp h).elim (fun e => by rw [e]; exact ⟨gWc_in _ hc, gW_good _ (gWc_in _ hc)⟩) (fun h => ⟨h, gW_good w h⟩)
theorem gGV {own : String} {idx : Nat} {C : String} {y : MethodName} {c2 : Cond} (h : ∀ w ∈ ([.methodLink own idx y, .instanceMethod y, .selects C y y, .initialized C] : List Cond), w ∈ gWo) (hc : c2 ∈ gWc) : GoodIn gW (wsV own idx C y (c2 :: gW)) := fun w hw => (List.mem_append.mp hw).elim (fun h9 => ⟨gWo_in w (h w h9), gW_good w (gWo_in w (h w h9))⟩) (gGI hc w)
theorem gGS {own : String} {idx : Nat} {y : MethodName} {c2 : Cond} (h : ∀ w ∈ ([.methodLink own idx y, .static y, .initialized y.cls] : List Cond), w ∈ gWo) (hc : c2 ∈ gWc) : GoodIn gW (va_wsS own idx y (c2 :: gW)) := fun w hw => (List.mem_append.mp hw).elim (fun h9 => ⟨gWo_in w (h w h9), gW_good w (gWo_in w (h w h9))⟩) (gGI hc w)
abbrev wsX_init : List Cond := .code yX_init cX_init 1 none :: gW
abbrev wsX_melt : List Cond := .code yX_melt cX_melt 3 (some .int) :: gW
abbrev wsX_cut : List Cond := .code yX_cut cX_cut 8 (some .int) :: gW
abbrev wsX_weld : List Cond := .code yX_weld cX_weld 8 (some .int) :: gW
abbrev wsX_roll : List Cond := .code yX_roll cX_roll 7 (some .int) :: gW
abbrev wsX_slit : List Cond := .code yX_slit cX_slit 7 (some .int) :: gW
abbrev wsX_hold : List Cond := .code yX_hold cX_hold 3 none :: gW
abbrev wsX_scrap : List Cond := .code yX_scrap cX_scrap 2 (some .int) :: gW
abbrev wsX_back : List Cond := .code yX_back cX_back 4 (some .int) :: gW
abbrev wsX_at : List Cond := .code yX_at cX_at 3 (some .int) :: gW
abbrev wsX_origin : List Cond := .code yX_origin cX_origin 5 (some .long) :: gW
abbrev wsX_defect : List Cond := .code yX_defect cX_defect 4 (some .int) :: gW
abbrev wsX_has : List Cond := .code yX_has cX_has 4 (some .long) :: gW
abbrev wsX_recall : List Cond := .code yX_recall cX_recall 5 (some .int) :: gW
abbrev wsX_told : List Cond := .code yX_told cX_told 2 (some .long) :: gW
abbrev wsX_isPiece : List Cond := .code yX_isPiece cX_isPiece 2 (some .boolean) :: gW
abbrev wsX_isLive : List Cond := .code yX_isLive cX_isLive 2 (some .boolean) :: gW
abbrev wsX_needPiece : List Cond := .code yX_needPiece cX_needPiece 2 none :: gW
abbrev wsX_needDefect : List Cond := .code yX_needDefect cX_needDefect 2 none :: gW
abbrev wsX_needPart : List Cond := .code yX_needPart cX_needPart 2 none :: gW
abbrev wsX_needFree : List Cond := .code yX_needFree cX_needFree 2 none :: gW
abbrev wsX_needWithin : List Cond := .code yX_needWithin cX_needWithin 3 none :: gW
abbrev wsX_needRoom : List Cond := .code yX_needRoom cX_needRoom 2 none :: gW
abbrev wsX_addPiece : List Cond := .code yX_addPiece cX_addPiece 6 (some .int) :: gW
abbrev wsX_liveWeight : List Cond := .code yX_liveWeight cX_liveWeight 4 (some .long) :: gW
abbrev wsX_walkBack : List Cond := .code yX_walkBack cX_walkBack 6 (some .int) :: gW
abbrev wsX_stepBack : List Cond := .code yX_stepBack cX_stepBack 2 (some .int) :: gW
abbrev wsX_follow : List Cond := .code yX_follow cX_follow 4 none :: gW
abbrev wsX_stepForward : List Cond := .code yX_stepForward cX_stepForward 4 (some .boolean) :: gW
abbrev wsX_takeFound : List Cond := .code yX_takeFound cX_takeFound 2 (some .boolean) :: gW
abbrev wsM_init : List Cond := .code yM_init cM_init 1 none :: gW
abbrev wsM_thrown : List Cond := .code yM_thrown cM_thrown 1 (some .int) :: gW
abbrev wsM_throwing : List Cond := .code yM_throwing cM_throwing 5 (some .boolean) :: gW
abbrev wsM_in : List Cond := .code yM_in cM_in 3 (some .boolean) :: gW
abbrev wsM_isPiece : List Cond := .code yM_isPiece cM_isPiece 2 (some .boolean) :: gW
abbrev wsM_isAtHand : List Cond := .code yM_isAtHand cM_isAtHand 2 (some .boolean) :: gW
abbrev wsM_add : List Cond := .code yM_add cM_add 5 (some .int) :: gW
abbrev wsM_melt : List Cond := .code yM_melt cM_melt 3 (some .int) :: gW
abbrev wsM_cut : List Cond := .code yM_cut cM_cut 7 (some .int) :: gW
abbrev wsM_weld : List Cond := .code yM_weld cM_weld 6 (some .int) :: gW
abbrev wsM_roll : List Cond := .code yM_roll cM_roll 10 (some .int) :: gW
abbrev wsM_slit : List Cond := .code yM_slit cM_slit 4 (some .int) :: gW
abbrev wsM_hold : List Cond := .code yM_hold cM_hold 4 none :: gW
abbrev wsM_scrap : List Cond := .code yM_scrap cM_scrap 2 (some .int) :: gW
abbrev wsM_back : List Cond := .code yM_back cM_back 5 (some .int) :: gW
abbrev wsM_at : List Cond := .code yM_at cM_at 3 (some .int) :: gW
abbrev wsM_lowest : List Cond := .code yM_lowest cM_lowest 7 none :: gW
abbrev wsM_goBack : List Cond := .code yM_goBack cM_goBack 5 none :: gW
abbrev wsM_origin : List Cond := .code yM_origin cM_origin 5 (some .long) :: gW
abbrev wsM_defect : List Cond := .code yM_defect cM_defect 4 (some .int) :: gW
abbrev wsM_takes : List Cond := .code yM_takes cM_takes 2 (some .boolean) :: gW
abbrev wsM_reaches : List Cond := .code yM_reaches cM_reaches 2 (some .boolean) :: gW
abbrev wsM_goForward : List Cond := .code yM_goForward cM_goForward 4 none :: gW
abbrev wsM_isDefect : List Cond := .code yM_isDefect cM_isDefect 2 (some .boolean) :: gW
abbrev wsM_has : List Cond := .code yM_has cM_has 4 (some .long) :: gW
abbrev wsM_recall : List Cond := .code yM_recall cM_recall 5 (some .int) :: gW
abbrev wsM_told : List Cond := .code yM_told cM_told 5 (some .long) :: gW
abbrev wsP_init : List Cond := .code yP_init cP_init 1 none :: gW
abbrev wsP_set : List Cond := .code yP_set cP_set 5 none :: gW
abbrev wsP_move : List Cond := .code yP_move cP_move 3 none :: gW
abbrev wsP_stretch : List Cond := .code yP_stretch cP_stretch 7 none :: gW
abbrev wsP_isBelow : List Cond := .code yP_isBelow cP_isBelow 3 (some .boolean) :: gW
abbrev wsP_commonDivisor : List Cond := .code yP_commonDivisor cP_commonDivisor 11 (some .long) :: gW
abbrev wsL_melt : List Cond := .codeWith yL_melt cL_melt 5 (some .int) [(0, 10, 13, 13), (0, 10, 17, 15)] :: gW
abbrev wsL_cut : List Cond := .codeWith yL_cut cL_cut 5 (some .int) [(0, 10, 13, 20), (0, 10, 17, 22), (0, 10, 21, 13), (0, 10, 25, 15)] :: gW
abbrev wsL_weld : List Cond := .codeWith yL_weld cL_weld 5 (some .int) [(0, 10, 13, 20), (0, 10, 17, 22), (0, 10, 21, 15)] :: gW
abbrev wsL_roll : List Cond := .codeWith yL_roll cL_roll 6 (some .int) [(0, 12, 15, 20), (0, 12, 19, 22), (0, 12, 23, 13), (0, 12, 27, 15)] :: gW
abbrev wsL_slit : List Cond := .codeWith yL_slit cL_slit 5 (some .int) [(0, 10, 13, 20), (0, 10, 17, 22), (0, 10, 21, 13), (0, 10, 25, 15)] :: gW
abbrev wsL_hold : List Cond := .codeWith yL_hold cL_hold 4 (some .int) [(0, 6, 9, 20), (0, 6, 12, 22)] :: gW
abbrev wsL_scrap : List Cond := .codeWith yL_scrap cL_scrap 4 (some .int) [(0, 9, 12, 20), (0, 9, 15, 22)] :: gW
abbrev wsL_back : List Cond := .codeWith yL_back cL_back 5 (some .int) [(0, 10, 13, 13), (0, 10, 17, 15)] :: gW
abbrev wsL_at : List Cond := .codeWith yL_at cL_at 5 (some .int) [(0, 10, 13, 20)] :: gW
abbrev wsL_origin : List Cond := .codeWith yL_origin cL_origin 6 (some .int) [(0, 11, 14, 20), (0, 11, 18, 13)] :: gW
abbrev wsL_defect : List Cond := .codeWith yL_defect cL_defect 5 (some .int) [(0, 10, 13, 20), (0, 10, 17, 13), (0, 10, 21, 15)] :: gW
abbrev wsL_has : List Cond := .codeWith yL_has cL_has 6 (some .int) [(0, 11, 14, 20)] :: gW
abbrev wsL_recall : List Cond := .codeWith yL_recall cL_recall 5 (some .int) [(0, 10, 13, 20)] :: gW
abbrev wsL_told : List Cond := .codeWith yL_told cL_told 4 (some .int) [(0, 8, 11, 20)] :: gW
theorem iP9 : ∀ w ∈ u_ws RP9 TP9 2, w ∈ gW := fun w h => gWo_in w ((by decide +kernel : ∀ w ∈ u_ws RP9 TP9 2, w ∈ gWo) w h)
theorem iX9 : ∀ w ∈ u_ws RX9 TX9 20, w ∈ gW := fun w h => gWo_in w ((by decide +kernel : ∀ w ∈ u_ws RX9 TX9 20, w ∈ gWo) w h)
theorem iM9 : ∀ w ∈ u_ws RM9 TM9 24, w ∈ gW := fun w h => gWo_in w ((by decide +kernel : ∀ w ∈ u_ws RM9 TM9 24, w ∈ gWo) w h)
def gNW : List Cond := [(Jvm.Cond.methodLinkNest "PieceTrace" (52 : Nat) ({ cls := "PieceTrace$Place", name := "<init>", desc := "()V" } : Jvm.MethodName) "PieceTrace"),
  (Jvm.Cond.fieldLinkNest "PieceTrace" (136 : Nat) "PieceTrace$Place" "upper" "J" "PieceTrace"),
  (Jvm.Cond.fieldLinkNest "PieceTrace" (139 : Nat) "PieceTrace$Place" "lower" "J" "PieceTrace"),
  (Jvm.Cond.castable "java/lang/IllegalArgumentException" "java/lang/IllegalArgumentException"),
  (Jvm.Cond.declares ({ cls := "java/lang/RuntimeException", name := "<init>", desc := "()V" } : Jvm.MethodName)),
  (Jvm.Cond.declares ({ cls := "java/lang/RuntimeException", name := "<init>", desc := "(Ljava/lang/String;)V" } : Jvm.MethodName)),
  (Jvm.Cond.declares ({ cls := "java/lang/Exception", name := "<init>", desc := "()V" } : Jvm.MethodName)),
  (Jvm.Cond.declares ({ cls := "java/lang/Exception", name := "<init>", desc := "(Ljava/lang/String;)V" } : Jvm.MethodName)),
  (Jvm.Cond.declares ({ cls := "java/lang/Throwable", name := "<init>", desc := "()V" } : Jvm.MethodName)),
  (Jvm.Cond.declares ({ cls := "java/lang/Throwable", name := "<init>", desc := "(Ljava/lang/String;)V" } : Jvm.MethodName)),
  (Jvm.Cond.castable "java/lang/UnsupportedOperationException" "java/lang/UnsupportedOperationException"),
  (Jvm.Cond.castable "java/lang/IndexOutOfBoundsException" "java/lang/IndexOutOfBoundsException"),
  (Jvm.Cond.castable "java/lang/IllegalStateException" "java/lang/IllegalStateException"),
  (Jvm.Cond.methodLinkNest "PieceTrace" (182 : Nat) ({ cls := "PieceTrace$Place", name := "set", desc := "(JJ)V" } : Jvm.MethodName) "PieceTrace"),
  (Jvm.Cond.methodLinkNest "PieceTrace" (190 : Nat) ({ cls := "PieceTrace$Place", name := "move", desc := "(J)V" } : Jvm.MethodName) "PieceTrace"),
  (Jvm.Cond.methodLinkNest "PieceTrace" (194 : Nat) ({ cls := "PieceTrace$Place", name := "isBelow", desc := "(J)Z" } : Jvm.MethodName) "PieceTrace"),
  (Jvm.Cond.methodLinkNest "PieceTrace" (198 : Nat) ({ cls := "PieceTrace$Place", name := "stretch", desc := "(JJ)V" } : Jvm.MethodName) "PieceTrace")]
theorem gNW_t : ∀ w ∈ gNW, w.onTables = true := by decide +kernel
theorem gNW_warm {s U : State} (hW : s.WarmedH U.vm) : ∀ w ∈ gNW, va_Nw w s → va_Nw w U := by
  intro w hw
  rcases List.mem_cons.mp hw with rfl | hw
  · exact va_Nw.warmM hW
  rcases List.mem_cons.mp hw with rfl | hw
  · exact va_Nw.warmF hW
  rcases List.mem_cons.mp hw with rfl | hw
  · exact va_Nw.warmF hW
  rcases List.mem_cons.mp hw with rfl | hw
  · exact va_Nw.warmC hW
  rcases List.mem_cons.mp hw with rfl | hw
  · exact va_Nw.warmD hW
  rcases List.mem_cons.mp hw with rfl | hw
  · exact va_Nw.warmD hW
  rcases List.mem_cons.mp hw with rfl | hw
  · exact va_Nw.warmD hW
  rcases List.mem_cons.mp hw with rfl | hw
  · exact va_Nw.warmD hW
  rcases List.mem_cons.mp hw with rfl | hw
  · exact va_Nw.warmD hW
  rcases List.mem_cons.mp hw with rfl | hw
  · exact va_Nw.warmD hW
  rcases List.mem_cons.mp hw with rfl | hw
  · exact va_Nw.warmC hW
  rcases List.mem_cons.mp hw with rfl | hw
  · exact va_Nw.warmC hW
  rcases List.mem_cons.mp hw with rfl | hw
  · exact va_Nw.warmC hW
  rcases List.mem_cons.mp hw with rfl | hw
  · exact va_Nw.warmM hW
  rcases List.mem_cons.mp hw with rfl | hw
  · exact va_Nw.warmM hW
  rcases List.mem_cons.mp hw with rfl | hw
  · exact va_Nw.warmM hW
  rcases List.mem_cons.mp hw with rfl | hw
  · exact va_Nw.warmM hW
  cases hw
def gNC : List (String × String) := [("java/lang/IndexOutOfBoundsException", "java/lang/IllegalStateException"), ("java/lang/IndexOutOfBoundsException", "java/lang/IllegalArgumentException"), ("java/lang/IndexOutOfBoundsException", "java/lang/UnsupportedOperationException"), ("java/lang/IllegalStateException", "java/lang/IndexOutOfBoundsException"), ("java/lang/IllegalStateException", "java/lang/IllegalArgumentException"), ("java/lang/IllegalStateException", "java/lang/UnsupportedOperationException"), ("java/lang/IllegalArgumentException", "java/lang/IndexOutOfBoundsException"), ("java/lang/IllegalArgumentException", "java/lang/IllegalStateException"), ("java/lang/IllegalArgumentException", "java/lang/UnsupportedOperationException"), ("java/lang/UnsupportedOperationException", "java/lang/IndexOutOfBoundsException"), ("java/lang/UnsupportedOperationException", "java/lang/IllegalStateException"), ("java/lang/UnsupportedOperationException", "java/lang/IllegalArgumentException")]
def gSR : List (String × Nat × String) := [(RX9, 177, "a number out of its range"), (RX9, 180, "there is no room for a piece"), (RX9, 167, "no such piece"), (RX9, 173, "the piece is not live, or held"), (RX9, 88, "a piece can't be welded to itself"), (RX9, 97, "the weld would be too long or heavy"), (RX9, 106, "the piece has been rolled three times"), (RX9, 108, "the rolled piece would be too short or long"), (RX9, 112, "the piece is not live, or it is so"), (RX9, 121, "the share of the heap is less than a gram"), (RX9, 127, "no such what"), (RX9, 171, "no such part"), (RX9, 145, "there is no room for a defect"), (RX9, 169, "no such defect"), (RX9, 155, "k is below 0")]
def gBad_IOB : List Cond := [.castable "java/lang/IndexOutOfBoundsException" "java/lang/IndexOutOfBoundsException", .declares ⟨"java/lang/RuntimeException", "<init>", "(Ljava/lang/String;)V"⟩, .declares ⟨"java/lang/Exception", "<init>", "(Ljava/lang/String;)V"⟩, .declares ⟨"java/lang/Throwable", "<init>", "(Ljava/lang/String;)V"⟩]
theorem gBad_IOB_t : ∀ w ∈ gBad_IOB, w.onTables = true := by decide +kernel
theorem gBad_IOB_in : ∀ w ∈ gBad_IOB, w ∈ gNW := by decide +kernel
theorem gF_IOB : Bundle.fit "java/lang/IndexOutOfBoundsException" = true := by decide +kernel
theorem gB9_IOB : ∀ w ∈ (vx_atS RX9 90 "java/lang/IndexOutOfBoundsException" ["java/lang/RuntimeException", "java/lang/Exception"]).filter (fun w => !goodWord w), w ∈ gBad_IOB := by decide +kernel
def gBad_ISE : List Cond := [.castable "java/lang/IllegalStateException" "java/lang/IllegalStateException", .declares ⟨"java/lang/RuntimeException", "<init>", "(Ljava/lang/String;)V"⟩, .declares ⟨"java/lang/Exception", "<init>", "(Ljava/lang/String;)V"⟩, .declares ⟨"java/lang/Throwable", "<init>", "(Ljava/lang/String;)V"⟩]
theorem gBad_ISE_t : ∀ w ∈ gBad_ISE, w.onTables = true := by decide +kernel
theorem gBad_ISE_in : ∀ w ∈ gBad_ISE, w ∈ gNW := by decide +kernel
theorem gF_ISE : Bundle.fit "java/lang/IllegalStateException" = true := by decide +kernel
theorem gB9_ISE : ∀ w ∈ (vx_atS RX9 114 "java/lang/IllegalStateException" ["java/lang/RuntimeException", "java/lang/Exception"]).filter (fun w => !goodWord w), w ∈ gBad_ISE := by decide +kernel
def gBad_IAE : List Cond := [.castable "java/lang/IllegalArgumentException" "java/lang/IllegalArgumentException", .declares ⟨"java/lang/RuntimeException", "<init>", "(Ljava/lang/String;)V"⟩, .declares ⟨"java/lang/Exception", "<init>", "(Ljava/lang/String;)V"⟩, .declares ⟨"java/lang/Throwable", "<init>", "(Ljava/lang/String;)V"⟩]
theorem gBad_IAE_t : ∀ w ∈ gBad_IAE, w.onTables = true := by decide +kernel
theorem gBad_IAE_in : ∀ w ∈ gBad_IAE, w ∈ gNW := by decide +kernel
theorem gF_IAE : Bundle.fit "java/lang/IllegalArgumentException" = true := by decide +kernel
theorem gB9_IAE : ∀ w ∈ (vx_atS RX9 179 "java/lang/IllegalArgumentException" ["java/lang/RuntimeException", "java/lang/Exception"]).filter (fun w => !goodWord w), w ∈ gBad_IAE := by decide +kernel
def gBad_UOE : List Cond := [.castable "java/lang/UnsupportedOperationException" "java/lang/UnsupportedOperationException", .declares ⟨"java/lang/RuntimeException", "<init>", "(Ljava/lang/String;)V"⟩, .declares ⟨"java/lang/Exception", "<init>", "(Ljava/lang/String;)V"⟩, .declares ⟨"java/lang/Throwable", "<init>", "(Ljava/lang/String;)V"⟩]
theorem gBad_UOE_t : ∀ w ∈ gBad_UOE, w.onTables = true := by decide +kernel
theorem gBad_UOE_in : ∀ w ∈ gBad_UOE, w ∈ gNW := by decide +kernel
theorem gF_UOE : Bundle.fit "java/lang/UnsupportedOperationException" = true := by decide +kernel
theorem gB9_UOE : ∀ w ∈ (vx_atS RX9 99 "java/lang/UnsupportedOperationException" ["java/lang/RuntimeException", "java/lang/Exception"]).filter (fun w => !goodWord w), w ∈ gBad_UOE := by decide +kernel
theorem gN_ : ∀ n ∈ ["java/lang/RuntimeException", "java/lang/Exception"], Bundle.fit n = true := by decide +kernel
