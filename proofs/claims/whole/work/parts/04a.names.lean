def RX0 : String := "TurnBoards$Acts"
def TX0 : u_T := fun k => match k with
  | 0 => ("TurnBoards$Acts", "kept", "I", false)
  | 1 => ("TurnBoards$Acts", "next", "I", false)
  | _ => ("TurnBoards$Acts", "rows", "[[I", true)
def tyX0 : Nat → FieldType := fun k => match k with
  | 0 => .int
  | 1 => .int
  | _ => .array (.array .int)
theorem nmX0 : ∀ a, a < 3 → ∀ b, b < 3 → a ≠ b → (TX0 a).2.1 ≠ (TX0 b).2.1 := by decide +kernel
theorem tyX0_ok : ∀ k, k < 3 → parseFieldDescriptor (TX0 k).2.2.1 = some (tyX0 k) := by decide +kernel
def RX1 : String := "TurnBoards$Board"
def TX1 : u_T := fun k => match k with
  | 0 => ("TurnBoards$Board", "points", "I", false)
  | 1 => ("TurnBoards$Board", "lines", "I", false)
  | 2 => ("TurnBoards$Board", "treeLines", "I", false)
  | 3 => ("TurnBoards$Board", "froms", "[I", true)
  | 4 => ("TurnBoards$Board", "tos", "[I", true)
  | 5 => ("TurnBoards$Board", "turns", "[I", true)
  | 6 => ("TurnBoards$Board", "inTree", "[Z", true)
  | 7 => ("TurnBoards$Board", "leasts", "[I", true)
  | 8 => ("TurnBoards$Board", "shifts", "[I", true)
  | _ => ("TurnBoards$Board", "reached", "[Z", true)
def tyX1 : Nat → FieldType := fun k => match k with
  | 0 => .int
  | 1 => .int
  | 2 => .int
  | 3 => .array .int
  | 4 => .array .int
  | 5 => .array .int
  | 6 => .array .boolean
  | 7 => .array .int
  | 8 => .array .int
  | _ => .array .boolean
theorem nmX1 : ∀ a, a < 10 → ∀ b, b < 10 → a ≠ b → (TX1 a).2.1 ≠ (TX1 b).2.1 := by decide +kernel
theorem tyX1_ok : ∀ k, k < 10 → parseFieldDescriptor (TX1 k).2.2.1 = some (tyX1 k) := by decide +kernel
def RX2 : String := "TurnBoards$Group"
def TX2 : u_T := fun k => match k with
  | 0 => ("TurnBoards$Group", "size", "I", false)
  | 1 => ("TurnBoards$Group", "draft", "[I", true)
  | 2 => ("TurnBoards$Group", "products", "[I", true)
  | 3 => ("TurnBoards$Group", "backs", "[I", true)
  | 4 => ("TurnBoards$Group", "classes", "[I", true)
  | _ => ("TurnBoards$Group", "worths", "[I", true)
def tyX2 : Nat → FieldType := fun k => match k with
  | 0 => .int
  | 1 => .array .int
  | 2 => .array .int
  | 3 => .array .int
  | 4 => .array .int
  | _ => .array .int
theorem nmX2 : ∀ a, a < 6 → ∀ b, b < 6 → a ≠ b → (TX2 a).2.1 ≠ (TX2 b).2.1 := by decide +kernel
theorem tyX2_ok : ∀ k, k < 6 → parseFieldDescriptor (TX2 k).2.2.1 = some (tyX2 k) := by decide +kernel
def RX3 : String := "TurnBoards$Sheet"
def TX3 : u_T := fun k => match k with
  | 0 => ("TurnBoards$Sheet", "made", "Z", false)
  | 1 => ("TurnBoards$Sheet", "size", "I", false)
  | 2 => ("TurnBoards$Sheet", "lane", "I", false)
  | _ => ("TurnBoards$Sheet", "cells", "[I", true)
def tyX3 : Nat → FieldType := fun k => match k with
  | 0 => .boolean
  | 1 => .int
  | 2 => .int
  | _ => .array .int
theorem nmX3 : ∀ a, a < 4 → ∀ b, b < 4 → a ≠ b → (TX3 a).2.1 ≠ (TX3 b).2.1 := by decide +kernel
theorem tyX3_ok : ∀ k, k < 4 → parseFieldDescriptor (TX3 k).2.2.1 = some (tyX3 k) := by decide +kernel
def RX4 : String := "TurnBoards$Sums"
def TX4 : u_T := fun k => match k with
  | 0 => ("TurnBoards$Sums", "looked", "[Z", true)
  | 1 => ("TurnBoards$Sums", "factors", "[[I", true)
  | 2 => ("TurnBoards$Sums", "lasts", "[I", true)
  | 3 => ("TurnBoards$Sums", "used", "[Z", true)
  | 4 => ("TurnBoards$Sums", "fixed", "[Z", true)
  | _ => ("TurnBoards$Sums", "turns", "[I", true)
def tyX4 : Nat → FieldType := fun k => match k with
  | 0 => .array .boolean
  | 1 => .array (.array .int)
  | 2 => .array .int
  | 3 => .array .boolean
  | 4 => .array .boolean
  | _ => .array .int
theorem nmX4 : ∀ a, a < 6 → ∀ b, b < 6 → a ≠ b → (TX4 a).2.1 ≠ (TX4 b).2.1 := by decide +kernel
theorem tyX4_ok : ∀ k, k < 6 → parseFieldDescriptor (TX4 k).2.2.1 = some (tyX4 k) := by decide +kernel
def RX5 : String := "TurnBoards$Walk"
def TX5 : u_T := fun k => match k with
  | 0 => ("TurnBoards$Walk", "start", "I", false)
  | 1 => ("TurnBoards$Walk", "end", "I", false)
  | 2 => ("TurnBoards$Walk", "steps", "I", false)
  | 3 => ("TurnBoards$Walk", "counted", "Z", false)
  | 4 => ("TurnBoards$Walk", "lines", "[I", true)
  | _ => ("TurnBoards$Walk", "backs", "[Z", true)
def tyX5 : Nat → FieldType := fun k => match k with
  | 0 => .int
  | 1 => .int
  | 2 => .int
  | 3 => .boolean
  | 4 => .array .int
  | _ => .array .boolean
theorem nmX5 : ∀ a, a < 6 → ∀ b, b < 6 → a ≠ b → (TX5 a).2.1 ≠ (TX5 b).2.1 := by decide +kernel
theorem tyX5_ok : ∀ k, k < 6 → parseFieldDescriptor (TX5 k).2.2.1 = some (tyX5 k) := by decide +kernel
def RX6 : String := "TurnBoards"
def TX6 : u_T := fun k => match k with
  | 0 => ("TurnBoards", "theGroup", "LTurnBoards$Group;", true)
  | 1 => ("TurnBoards", "theBoard", "LTurnBoards$Board;", true)
  | 2 => ("TurnBoards", "theWalks", "[LTurnBoards$Walk;", true)
  | 3 => ("TurnBoards", "walksMade", "I", false)
  | 4 => ("TurnBoards", "theActs", "LTurnBoards$Acts;", true)
  | 5 => ("TurnBoards", "theSheets", "[LTurnBoards$Sheet;", true)
  | _ => ("TurnBoards", "theSums", "LTurnBoards$Sums;", true)
def tyX6 : Nat → FieldType := fun k => match k with
  | 0 => .object "TurnBoards$Group"
  | 1 => .object "TurnBoards$Board"
  | 2 => .array (.object "TurnBoards$Walk")
  | 3 => .int
  | 4 => .object "TurnBoards$Acts"
  | 5 => .array (.object "TurnBoards$Sheet")
  | _ => .object "TurnBoards$Sums"
theorem nmX6 : ∀ a, a < 7 → ∀ b, b < 7 → a ≠ b → (TX6 a).2.1 ≠ (TX6 b).2.1 := by decide +kernel
theorem tyX6_ok : ∀ k, k < 7 → parseFieldDescriptor (TX6 k).2.2.1 = some (tyX6 k) := by decide +kernel
def RX7 : String := "TurnBoardsModel"
def TX7 : u_T := fun k => match k with
  | 0 => ("TurnBoardsModel", "size", "I", false)
  | 1 => ("TurnBoardsModel", "table", "[I", true)
  | 2 => ("TurnBoardsModel", "worths", "[I", true)
  | 3 => ("TurnBoardsModel", "points", "I", false)
  | 4 => ("TurnBoardsModel", "lines", "I", false)
  | 5 => ("TurnBoardsModel", "froms", "[I", true)
  | 6 => ("TurnBoardsModel", "tos", "[I", true)
  | 7 => ("TurnBoardsModel", "turns", "[I", true)
  | 8 => ("TurnBoardsModel", "walks", "I", false)
  | 9 => ("TurnBoardsModel", "begins", "[I", true)
  | 10 => ("TurnBoardsModel", "stepMany", "[I", true)
  | 11 => ("TurnBoardsModel", "stepLine", "[I", true)
  | 12 => ("TurnBoardsModel", "stepBack", "[Z", true)
  | 13 => ("TurnBoardsModel", "isCounted", "[Z", true)
  | 14 => ("TurnBoardsModel", "acts", "I", false)
  | 15 => ("TurnBoardsModel", "actTurns", "[I", true)
  | 16 => ("TurnBoardsModel", "lanes", "[I", true)
  | 17 => ("TurnBoardsModel", "lengths", "[I", true)
  | 18 => ("TurnBoardsModel", "cells", "[I", true)
  | 19 => ("TurnBoardsModel", "tried", "[I", true)
  | 20 => ("TurnBoardsModel", "way", "[I", true)
  | 21 => ("TurnBoardsModel", "backs", "[I", true)
  | 22 => ("TurnBoardsModel", "by", "[I", true)
  | 23 => ("TurnBoardsModel", "partOf", "[I", true)
  | 24 => ("TurnBoardsModel", "isTree", "[Z", true)
  | 25 => ("TurnBoardsModel", "isKnown", "[Z", true)
  | _ => ("TurnBoardsModel", "kinOf", "[I", true)
def tyX7 : Nat → FieldType := fun k => match k with
  | 0 => .int
  | 1 => .array .int
  | 2 => .array .int
  | 3 => .int
  | 4 => .int
  | 5 => .array .int
  | 6 => .array .int
  | 7 => .array .int
  | 8 => .int
  | 9 => .array .int
  | 10 => .array .int
  | 11 => .array .int
  | 12 => .array .boolean
  | 13 => .array .boolean
  | 14 => .int
  | 15 => .array .int
  | 16 => .array .int
  | 17 => .array .int
  | 18 => .array .int
  | 19 => .array .int
  | 20 => .array .int
  | 21 => .array .int
  | 22 => .array .int
  | 23 => .array .int
  | 24 => .array .boolean
  | 25 => .array .boolean
  | _ => .array .int
theorem nmX7 : ∀ a, a < 27 → ∀ b, b < 27 → a ≠ b → (TX7 a).2.1 ≠ (TX7 b).2.1 := by decide +kernel
theorem tyX7_ok : ∀ k, k < 27 → parseFieldDescriptor (TX7 k).2.2.1 = some (tyX7 k) := by decide +kernel
abbrev vwCl : List vw_C := [(RX0, TX0, 3), (RX1, TX1, 10), (RX2, TX2, 6), (RX3, TX3, 4), (RX4, TX4, 6), (RX5, TX5, 6), (RX6, TX6, 7), (RX7, TX7, 27)]
/-- a method: its name, its code, its locals, what it answers -/
def pm_md : Nat → MethodName × ByteArray × Nat × Option FieldType := fun y => (bif Nat.ble 72 y then (bif Nat.ble 108 y then (bif Nat.ble 126 y then (bif Nat.ble 135 y then (bif Nat.ble 140 y then (bif Nat.ble 142 y then (bif Nat.ble 143 y then (bif Nat.ble 144 y then (⟨"TurnBoardsLaw", "law", "([I)Z"⟩, code, 4, (some .boolean)) else (⟨"TurnBoardsModel", "many", "(I)I"⟩, prog_9_method_54_code, 5, (some .int))) else (⟨"TurnBoardsModel", "fill", "(III)I"⟩, prog_9_method_53_code, 7, (some .int))) else (bif Nat.ble 141 y then (⟨"TurnBoardsModel", "flat", "()J"⟩, prog_9_method_52_code, 1, (some .long)) else (⟨"TurnBoardsModel", "mean", "(III)J"⟩, prog_9_method_51_code, 14, (some .long)))) else (bif Nat.ble 137 y then (bif Nat.ble 138 y then (bif Nat.ble 139 y then (⟨"TurnBoardsModel", "sumBy", "(II)J"⟩, prog_9_method_50_code, 3, (some .long)) else (⟨"TurnBoardsModel", "canSum", "(II)Z"⟩, prog_9_method_49_code, 3, (some .boolean))) else (⟨"TurnBoardsModel", "sum", "()J"⟩, prog_9_method_48_code, 1, (some .long))) else (bif Nat.ble 136 y then (⟨"TurnBoardsModel", "summed", "(III)J"⟩, prog_9_method_47_code, 13, (some .long)) else (⟨"TurnBoardsModel", "isFlat", "()Z"⟩, prog_9_method_46_code, 3, (some .boolean))))) else (bif Nat.ble 130 y then (bif Nat.ble 132 y then (bif Nat.ble 133 y then (bif Nat.ble 134 y then (⟨"TurnBoardsModel", "power", "(I)J"⟩, prog_9_method_45_code, 5, (some .long)) else (⟨"TurnBoardsModel", "tree", "(I)I"⟩, prog_9_method_44_code, 3, (some .int))) else (⟨"TurnBoardsModel", "still", "()I"⟩, prog_9_method_43_code, 7, (some .int))) else (bif Nat.ble 131 y then (⟨"TurnBoardsModel", "layTree", "()I"⟩, prog_9_method_42_code, 6, (some .int)) else (⟨"TurnBoardsModel", "twist", "(II)I"⟩, prog_9_method_41_code, 4, (some .int)))) else (bif Nat.ble 128 y then (bif Nat.ble 129 y then (⟨"TurnBoardsModel", "turned", "()I"⟩, prog_9_method_40_code, 4, (some .int)) else (⟨"TurnBoardsModel", "weight", "()J"⟩, prog_9_method_39_code, 1, (some .long))) else (bif Nat.ble 127 y then (⟨"TurnBoardsModel", "weightOf", "()J"⟩, prog_9_method_38_code, 4, (some .long)) else (⟨"TurnBoardsModel", "at", "(I)I"⟩, prog_9_method_37_code, 2, (some .int)))))) else (bif Nat.ble 117 y then (bif Nat.ble 121 y then (bif Nat.ble 123 y then (bif Nat.ble 124 y then (bif Nat.ble 125 y then (⟨"TurnBoardsModel", "set", "(II)I"⟩, prog_9_method_36_code, 4, (some .int)) else (⟨"TurnBoardsModel", "undo", "()I"⟩, prog_9_method_35_code, 2, (some .int))) else (⟨"TurnBoardsModel", "record", "()V"⟩, prog_9_method_34_code, 2, none)) else (bif Nat.ble 122 y then (⟨"TurnBoardsModel", "drop", "()I"⟩, prog_9_method_33_code, 1, (some .int)) else (⟨"TurnBoardsModel", "told", "(II)I"⟩, prog_9_method_32_code, 3, (some .int)))) else (bif Nat.ble 119 y then (bif Nat.ble 120 y then (⟨"TurnBoardsModel", "layBacks", "()V"⟩, prog_9_method_31_code, 2, none) else (⟨"TurnBoardsModel", "turnOf", "(I)I"⟩, prog_9_method_30_code, 5, (some .int))) else (bif Nat.ble 118 y then (⟨"TurnBoardsModel", "takeLines", "()V"⟩, prog_9_method_29_code, 2, none) else (⟨"TurnBoardsModel", "isClosed", "(I)Z"⟩, prog_9_method_28_code, 2, (some .boolean))))) else (bif Nat.ble 112 y then (bif Nat.ble 114 y then (bif Nat.ble 115 y then (bif Nat.ble 116 y then (⟨"TurnBoardsModel", "counts", "(IZ)I"⟩, prog_9_method_27_code, 4, (some .int)) else (⟨"TurnBoardsModel", "step", "(IIZ)I"⟩, prog_9_method_26_code, 4, (some .int))) else (⟨"TurnBoardsModel", "endOf", "(I)I"⟩, prog_9_method_25_code, 4, (some .int))) else (bif Nat.ble 113 y then (⟨"TurnBoardsModel", "walk", "(I)I"⟩, prog_9_method_24_code, 2, (some .int)) else (⟨"TurnBoardsModel", "line", "(II)I"⟩, prog_9_method_23_code, 3, (some .int)))) else (bif Nat.ble 110 y then (bif Nat.ble 111 y then (⟨"TurnBoardsModel", "point", "()I"⟩, prog_9_method_22_code, 1, (some .int)) else (⟨"TurnBoardsModel", "isPoint", "(I)Z"⟩, prog_9_method_21_code, 2, (some .boolean))) else (bif Nat.ble 109 y then (⟨"TurnBoardsModel", "isWalk", "(I)Z"⟩, prog_9_method_20_code, 2, (some .boolean)) else (⟨"TurnBoardsModel", "isLine", "(I)Z"⟩, prog_9_method_19_code, 2, (some .boolean))))))) else (bif Nat.ble 90 y then (bif Nat.ble 99 y then (bif Nat.ble 103 y then (bif Nat.ble 105 y then (bif Nat.ble 106 y then (bif Nat.ble 107 y then (⟨"TurnBoardsModel", "worth", "(II)I"⟩, prog_9_method_18_code, 6, (some .int)) else (⟨"TurnBoardsModel", "about", "(I)I"⟩, prog_9_method_17_code, 6, (some .int))) else (⟨"TurnBoardsModel", "turn", "(II)I"⟩, prog_9_method_16_code, 5, (some .int))) else (bif Nat.ble 104 y then (⟨"TurnBoardsModel", "alikeWith", "(I)I"⟩, prog_9_method_15_code, 4, (some .int)) else (⟨"TurnBoardsModel", "classOf", "(I)I"⟩, prog_9_method_14_code, 5, (some .int)))) else (bif Nat.ble 101 y then (bif Nat.ble 102 y then (⟨"TurnBoardsModel", "times", "(II)I"⟩, prog_9_method_13_code, 3, (some .int)) else (⟨"TurnBoardsModel", "read", "(IIII)I"⟩, prog_9_method_12_code, 8, (some .int))) else (bif Nat.ble 100 y then (⟨"TurnBoardsModel", "lay", "(III)I"⟩, prog_9_method_11_code, 4, (some .int)) else (⟨"TurnBoardsModel", "sheet", "(III)I"⟩, prog_9_method_10_code, 5, (some .int))))) else (bif Nat.ble 94 y then (bif Nat.ble 96 y then (bif Nat.ble 97 y then (bif Nat.ble 98 y then (⟨"TurnBoardsModel", "group", "(II)I"⟩, prog_9_method_9_code, 9, (some .int)) else (⟨"TurnBoardsModel", "crossed", "(II)I"⟩, prog_9_method_8_code, 6, (some .int))) else (⟨"TurnBoardsModel", "begin", "(I)V"⟩, prog_9_method_7_code, 3, none)) else (bif Nat.ble 95 y then (⟨"TurnBoardsModel", "backOf", "(I)I"⟩, prog_9_method_6_code, 3, (some .int)) else (⟨"TurnBoardsModel", "product", "(II)I"⟩, prog_9_method_5_code, 3, (some .int)))) else (bif Nat.ble 92 y then (bif Nat.ble 93 y then (⟨"TurnBoardsModel", "isTurn", "(I)Z"⟩, prog_9_method_4_code, 2, (some .boolean)) else (⟨"TurnBoardsModel", "in", "(JJJ)Z"⟩, prog_9_method_3_code, 6, (some .boolean))) else (bif Nat.ble 91 y then (⟨"TurnBoards", "fillLines", "(LTurnBoards$Sheet;I)I"⟩, prog_1_method_47_code, 6, (some .int)) else (⟨"TurnBoards", "linesFault", "(LTurnBoards$Sheet;I)I"⟩, prog_1_method_46_code, 4, (some .int)))))) else (bif Nat.ble 81 y then (bif Nat.ble 85 y then (bif Nat.ble 87 y then (bif Nat.ble 88 y then (bif Nat.ble 89 y then (⟨"TurnBoards", "commonDivisor", "(JJ)J"⟩, prog_1_method_45_code, 11, (some .long)) else (⟨"TurnBoards", "sumLooked", "()J"⟩, prog_1_method_44_code, 1, (some .long))) else (⟨"TurnBoards", "lookForWeights", "()V"⟩, prog_1_method_43_code, 2, none)) else (bif Nat.ble 86 y then (⟨"TurnBoards", "sumHeld", "(II)J"⟩, prog_1_method_42_code, 3, (some .long)) else (⟨"TurnBoards", "sumOfWeights", "()J"⟩, prog_1_method_41_code, 1, (some .long)))) else (bif Nat.ble 83 y then (bif Nat.ble 84 y then (⟨"TurnBoards", "isSpent", "()Z"⟩, prog_1_method_40_code, 4, (some .boolean)) else (⟨"TurnBoards", "draftFrom", "(LTurnBoards$Sheet;II)I"⟩, prog_1_method_39_code, 8, (some .int))) else (bif Nat.ble 82 y then (⟨"TurnBoards", "takeDraft", "(I)I"⟩, prog_1_method_38_code, 2, (some .int)) else (⟨"TurnBoards", "walksThatWeigh", "()I"⟩, prog_1_method_37_code, 3, (some .int))))) else (bif Nat.ble 76 y then (bif Nat.ble 78 y then (bif Nat.ble 79 y then (bif Nat.ble 80 y then (⟨"TurnBoards", "isLane", "(I)Z"⟩, prog_1_method_36_code, 1, (some .boolean)) else (⟨"TurnBoards", "isSheet", "(I)Z"⟩, prog_1_method_35_code, 1, (some .boolean))) else (⟨"TurnBoards", "isClosedWalk", "(I)Z"⟩, prog_1_method_34_code, 2, (some .boolean))) else (bif Nat.ble 77 y then (⟨"TurnBoards", "isWalk", "(I)Z"⟩, prog_1_method_33_code, 2, (some .boolean)) else (⟨"TurnBoards", "isLine", "(I)Z"⟩, prog_1_method_32_code, 2, (some .boolean)))) else (bif Nat.ble 74 y then (bif Nat.ble 75 y then (⟨"TurnBoards", "isPoint", "(I)Z"⟩, prog_1_method_31_code, 2, (some .boolean)) else (⟨"TurnBoards", "isTurn", "(I)Z"⟩, prog_1_method_30_code, 2, (some .boolean))) else (bif Nat.ble 73 y then (⟨"TurnBoards", "many", "(I)I"⟩, prog_1_method_29_code, 2, (some .int)) else (⟨"TurnBoards", "fill", "(III)I"⟩, prog_1_method_28_code, 6, (some .int)))))))) else (bif Nat.ble 36 y then (bif Nat.ble 54 y then (bif Nat.ble 63 y then (bif Nat.ble 67 y then (bif Nat.ble 69 y then (bif Nat.ble 70 y then (bif Nat.ble 71 y then (⟨"TurnBoards", "lay", "(III)I"⟩, prog_1_method_27_code, 5, (some .int)) else (⟨"TurnBoards", "sheet", "(III)I"⟩, prog_1_method_26_code, 4, (some .int))) else (⟨"TurnBoards", "flat", "()J"⟩, prog_1_method_25_code, 2, (some .long))) else (bif Nat.ble 68 y then (⟨"TurnBoards", "mean", "(III)J"⟩, prog_1_method_24_code, 10, (some .long)) else (⟨"TurnBoards", "sumBy", "(II)J"⟩, prog_1_method_23_code, 3, (some .long)))) else (bif Nat.ble 65 y then (bif Nat.ble 66 y then (⟨"TurnBoards", "sum", "()J"⟩, prog_1_method_22_code, 1, (some .long)) else (⟨"TurnBoards", "tree", "(I)I"⟩, prog_1_method_21_code, 2, (some .int))) else (bif Nat.ble 64 y then (⟨"TurnBoards", "undo", "()I"⟩, prog_1_method_20_code, 1, (some .int)) else (⟨"TurnBoards", "still", "()I"⟩, prog_1_method_19_code, 1, (some .int))))) else (bif Nat.ble 58 y then (bif Nat.ble 60 y then (bif Nat.ble 61 y then (bif Nat.ble 62 y then (⟨"TurnBoards", "twist", "(II)I"⟩, prog_1_method_18_code, 3, (some .int)) else (⟨"TurnBoards", "weight", "()J"⟩, prog_1_method_17_code, 4, (some .long))) else (⟨"TurnBoards", "at", "(I)I"⟩, prog_1_method_16_code, 2, (some .int))) else (bif Nat.ble 59 y then (⟨"TurnBoards", "set", "(II)I"⟩, prog_1_method_15_code, 4, (some .int)) else (⟨"TurnBoards", "drop", "()I"⟩, prog_1_method_14_code, 1, (some .int)))) else (bif Nat.ble 56 y then (bif Nat.ble 57 y then (⟨"TurnBoards", "told", "(II)I"⟩, prog_1_method_13_code, 4, (some .int)) else (⟨"TurnBoards", "counts", "(IZ)I"⟩, prog_1_method_12_code, 4, (some .int))) else (bif Nat.ble 55 y then (⟨"TurnBoards", "step", "(IIZ)I"⟩, prog_1_method_11_code, 7, (some .int)) else (⟨"TurnBoards", "walk", "(I)I"⟩, prog_1_method_10_code, 2, (some .int)))))) else (bif Nat.ble 45 y then (bif Nat.ble 49 y then (bif Nat.ble 51 y then (bif Nat.ble 52 y then (bif Nat.ble 53 y then (⟨"TurnBoards", "line", "(II)I"⟩, prog_1_method_9_code, 3, (some .int)) else (⟨"TurnBoards", "point", "()I"⟩, prog_1_method_8_code, 1, (some .int))) else (⟨"TurnBoards", "worth", "(II)I"⟩, prog_1_method_7_code, 4, (some .int))) else (bif Nat.ble 50 y then (⟨"TurnBoards", "about", "(I)I"⟩, prog_1_method_6_code, 2, (some .int)) else (⟨"TurnBoards", "turn", "(II)I"⟩, prog_1_method_5_code, 3, (some .int)))) else (bif Nat.ble 47 y then (bif Nat.ble 48 y then (⟨"TurnBoards", "times", "(II)I"⟩, prog_1_method_4_code, 3, (some .int)) else (⟨"TurnBoards", "read", "(IIII)I"⟩, prog_1_method_3_code, 6, (some .int))) else (bif Nat.ble 46 y then (⟨"TurnBoards", "group", "(II)I"⟩, prog_1_method_2_code, 3, (some .int)) else (⟨"TurnBoards$Walk", "markLines", "([Z)I"⟩, prog_7_method_7_code, 4, (some .int))))) else (bif Nat.ble 40 y then (bif Nat.ble 42 y then (bif Nat.ble 43 y then (bif Nat.ble 44 y then (⟨"TurnBoards$Walk", "turnWith", "([ILTurnBoards$Group;)I"⟩, prog_7_method_6_code, 6, (some .int)) else (⟨"TurnBoards$Walk", "weighs", "()Z"⟩, prog_7_method_5_code, 1, (some .boolean))) else (⟨"TurnBoards$Walk", "isClosed", "()Z"⟩, prog_7_method_4_code, 1, (some .boolean))) else (bif Nat.ble 41 y then (⟨"TurnBoards$Walk", "go", "(IZI)V"⟩, prog_7_method_3_code, 4, none) else (⟨"TurnBoards$Walk", "begin", "(I)V"⟩, prog_7_method_2_code, 2, none))) else (bif Nat.ble 38 y then (bif Nat.ble 39 y then (⟨"TurnBoards$Sums", "factorBehind", "(I[LTurnBoards$Walk;LTurnBoards$Group;)J"⟩, prog_6_method_8_code, 7, (some .long)) else (⟨"TurnBoards$Sums", "sumFrom", "(IJLTurnBoards$Sums;[LTurnBoards$Walk;ILTurnBoards$Group;)J"⟩, prog_6_method_7_code, 13, (some .long))) else (bif Nat.ble 37 y then (⟨"TurnBoards$Sums", "markLines", "([LTurnBoards$Walk;LTurnBoards$Board;)V"⟩, prog_6_method_6_code, 4, none) else (⟨"TurnBoards$Sums", "lookForStill", "(I)V"⟩, prog_6_method_5_code, 3, none)))))) else (bif Nat.ble 18 y then (bif Nat.ble 27 y then (bif Nat.ble 31 y then (bif Nat.ble 33 y then (bif Nat.ble 34 y then (bif Nat.ble 35 y then (⟨"TurnBoards$Sums", "lookForClass", "(IILTurnBoards$Group;)V"⟩, prog_6_method_4_code, 5, none) else (⟨"TurnBoards$Sums", "lookForWorth", "(ILTurnBoards$Group;)V"⟩, prog_6_method_3_code, 4, none)) else (⟨"TurnBoards$Sums", "clear", "()V"⟩, prog_6_method_2_code, 3, none)) else (bif Nat.ble 32 y then (⟨"TurnBoards$Sheet", "put", "(II)V"⟩, prog_5_method_5_code, 3, none) else (⟨"TurnBoards$Sheet", "faultAs", "(I)I"⟩, prog_5_method_4_code, 2, (some .int)))) else (bif Nat.ble 29 y then (bif Nat.ble 30 y then (⟨"TurnBoards$Sheet", "hasCell", "(I)Z"⟩, prog_5_method_3_code, 2, (some .boolean)) else (⟨"TurnBoards$Sheet", "renew", "(II)V"⟩, prog_5_method_2_code, 4, none)) else (bif Nat.ble 28 y then (⟨"TurnBoards$Group", "giveWorth", "(II)V"⟩, prog_4_method_19_code, 4, none) else (⟨"TurnBoards$Group", "alikePairs", "()I"⟩, prog_4_method_18_code, 3, (some .int))))) else (bif Nat.ble 22 y then (bif Nat.ble 24 y then (bif Nat.ble 25 y then (bif Nat.ble 26 y then (⟨"TurnBoards$Group", "alikeWithAll", "()I"⟩, prog_4_method_17_code, 3, (some .int)) else (⟨"TurnBoards$Group", "alikeWith", "(I)I"⟩, prog_4_method_16_code, 4, (some .int))) else (⟨"TurnBoards$Group", "classesMany", "()I"⟩, prog_4_method_15_code, 3, (some .int))) else (bif Nat.ble 23 y then (⟨"TurnBoards$Group", "classSize", "(I)I"⟩, prog_4_method_14_code, 4, (some .int)) else (⟨"TurnBoards$Group", "orderOf", "(I)I"⟩, prog_4_method_13_code, 4, (some .int)))) else (bif Nat.ble 20 y then (bif Nat.ble 21 y then (⟨"TurnBoards$Group", "findClass", "(I)I"⟩, prog_4_method_12_code, 4, (some .int)) else (⟨"TurnBoards$Group", "findBack", "(I)I"⟩, prog_4_method_11_code, 3, (some .int))) else (bif Nat.ble 19 y then (⟨"TurnBoards$Group", "product", "(II)I"⟩, prog_4_method_10_code, 3, (some .int)) else (⟨"TurnBoards$Group", "adopt", "(I)V"⟩, prog_4_method_9_code, 3, none))))) else (bif Nat.ble 9 y then (bif Nat.ble 13 y then (bif Nat.ble 15 y then (bif Nat.ble 16 y then (bif Nat.ble 17 y then (⟨"TurnBoards$Group", "draftJoinFault", "(I)I"⟩, prog_4_method_8_code, 5, (some .int)) else (⟨"TurnBoards$Group", "draftHasBack", "(II)Z"⟩, prog_4_method_7_code, 4, (some .boolean))) else (⟨"TurnBoards$Group", "drafted", "(II)I"⟩, prog_4_method_6_code, 3, (some .int))) else (bif Nat.ble 14 y then (⟨"TurnBoards$Group", "draftFault", "(I)I"⟩, prog_4_method_5_code, 3, (some .int)) else (⟨"TurnBoards$Group", "draftCrossed", "()V"⟩, prog_4_method_4_code, 4, none))) else (bif Nat.ble 11 y then (bif Nat.ble 12 y then (⟨"TurnBoards$Group", "draftFlips", "(I)V"⟩, prog_4_method_3_code, 6, none) else (⟨"TurnBoards$Group", "draftRing", "(I)V"⟩, prog_4_method_2_code, 4, none)) else (bif Nat.ble 10 y then (⟨"TurnBoards$Board", "turnPoints", "(LTurnBoards$Group;)I"⟩, prog_3_method_9_code, 6, (some .int)) else (⟨"TurnBoards$Board", "reachAlong", "(ILTurnBoards$Group;)V"⟩, prog_3_method_8_code, 6, none)))) else (bif Nat.ble 4 y then (bif Nat.ble 6 y then (bif Nat.ble 7 y then (bif Nat.ble 8 y then (⟨"TurnBoards$Board", "shiftToStill", "(LTurnBoards$Group;)V"⟩, prog_3_method_7_code, 4, none) else (⟨"TurnBoards$Board", "shiftOnly", "(II)V"⟩, prog_3_method_6_code, 4, none)) else (⟨"TurnBoards$Board", "clearTurns", "()V"⟩, prog_3_method_5_code, 2, none)) else (bif Nat.ble 5 y then (⟨"TurnBoards$Board", "joinParts", "(II)V"⟩, prog_3_method_4_code, 5, none) else (⟨"TurnBoards$Board", "addLine", "(II)I"⟩, prog_3_method_3_code, 3, (some .int)))) else (bif Nat.ble 2 y then (bif Nat.ble 3 y then (⟨"TurnBoards$Board", "addPoint", "()I"⟩, prog_3_method_2_code, 1, (some .int)) else (⟨"TurnBoards$Acts", "forget", "()V"⟩, prog_2_method_4_code, 1, none)) else (bif Nat.ble 1 y then (⟨"TurnBoards$Acts", "giveBack", "([I)Z"⟩, prog_2_method_3_code, 2, (some .boolean)) else (⟨"TurnBoards$Acts", "keep", "([I)V"⟩, prog_2_method_2_code, 2, none))))))))
abbrev pm_nm (y : Nat) : MethodName := (pm_md y).1
abbrev pm_cc (y : Nat) : ByteArray := (pm_md y).2.1
abbrev pm_nl (y : Nat) : Nat := (pm_md y).2.2.1
abbrev pm_rty (y : Nat) : Option FieldType := (pm_md y).2.2.2
def pm_rs : Nat → List Bool := fun c => (bif Nat.ble 4 c then (bif Nat.ble 6 c then (bif Nat.ble 7 c then [false, true, true, false, false, true, true, true, false, true, true, true, true, true, false, true, true, true, true, true, true, true, true, true, true, true, true] else [true, true, true, false, true, true, true]) else (bif Nat.ble 5 c then [false, false, false, false, true, true] else [true, true, true, true, true, true])) else (bif Nat.ble 2 c then (bif Nat.ble 3 c then [false, false, false, true] else [false, true, true, true, true, true]) else (bif Nat.ble 1 c then [false, false, false, true, true, true, true, true, true, true] else [false, false, true])))
/-- the tables' words that hold at every later state too -/
def pm_TB : List Cond := lw_tbl.filter goodWord
theorem pm_TB_good : ∀ w ∈ pm_TB, (w.onTables && w.keeps) = true ∨ ∃ ty, w = .arrayClass ty := fun w h => good_of_word (List.mem_filter.mp h).2
theorem pm_TB_at {w : Cond} (n : Nat) (h : lw_tbl[n]? = some w) (hg : goodWord w = true) : w ∈ pm_TB := List.mem_filter.mpr ⟨List.mem_of_getElem? h, hg⟩
