/-! The objects' tables (names, fields in the order of their places, types): begun from the names that the task prints. -/
theorem zin_r {big : List Cond} (ws : List Cond) (ps : List Nat) (hp : ws = ps.filterMap (fun i => big[i]?)) : ∀ w ∈ ws, w ∈ big := by
  intro w hw
  rw [hp] at hw
  obtain ⟨i, -, hi⟩ := List.mem_filterMap.mp hw
  exact List.mem_of_getElem? hi
/-- the words that stay as they are on the way into a callee -/
def zgt : List Cond := lw_tbl.filter goodWord
theorem zgt_of {i : Nat} {w : Cond} (h : lw_tbl[i]? = some w) (hg : goodWord w = true) : w ∈ zgt := List.mem_filter.mpr ⟨List.mem_of_getElem? h, hg⟩
theorem zgt_good : ∀ w ∈ zgt, (w.onTables && w.keeps) = true ∨ ∃ ty, w = .arrayClass ty := fun w h => good_of_word (List.mem_filter.mp h).2
def RX0 : String := "WordLinks$Corpus"
def TX0 : u_T := fun k => match k with
  | 0 => ("WordLinks$Corpus", "words", "[I", true)
  | 1 => ("WordLinks$Corpus", "keys", "[[J", true)
  | 2 => ("WordLinks$Corpus", "partners", "[[J", true)
  | 3 => ("WordLinks$Corpus", "lengths", "[[I", true)
  | 4 => ("WordLinks$Corpus", "places", "[[I", true)
  | 5 => ("WordLinks$Corpus", "told", "[I", true)
  | _ => ("WordLinks$Corpus", "pairs", "I", false)
def tyX0 : Nat → FieldType := fun k => match k with
  | 0 => .array .int
  | 1 => .array (.array .long)
  | 2 => .array (.array .long)
  | 3 => .array (.array .int)
  | 4 => .array (.array .int)
  | 5 => .array .int
  | _ => .int
theorem nmX0 : ∀ a, a < 7 → ∀ b, b < 7 → a ≠ b → (TX0 a).2.1 ≠ (TX0 b).2.1 := by decide +kernel
theorem tyX0_ok : ∀ k, k < 7 → parseFieldDescriptor (TX0 k).2.2.1 = some (tyX0 k) := by decide +kernel
set_option maxRecDepth 20000 in
theorem inX0 : ∀ w ∈ u_ws RX0 TX0 7, w ∈ lw_tbl := zin_r _ [229, 231, 233, 235, 237, 239, 241] (by decide +kernel)
theorem igX0 : (u_ws RX0 TX0 7).all goodWord = true := by decide +kernel
def RX1 : String := "WordLinks$Linker"
def TX1 : u_T := fun k => match k with
  | 0 => ("WordLinks$Linker", "forth", "[I", true)
  | 1 => ("WordLinks$Linker", "back", "[I", true)
  | 2 => ("WordLinks$Linker", "either", "[I", true)
  | 3 => ("WordLinks$Linker", "set", "[I", true)
  | 4 => ("WordLinks$Linker", "rows", "I", false)
  | _ => ("WordLinks$Linker", "columns", "I", false)
def tyX1 : Nat → FieldType := fun k => match k with
  | 0 => .array .int
  | 1 => .array .int
  | 2 => .array .int
  | 3 => .array .int
  | 4 => .int
  | _ => .int
theorem nmX1 : ∀ a, a < 6 → ∀ b, b < 6 → a ≠ b → (TX1 a).2.1 ≠ (TX1 b).2.1 := by decide +kernel
theorem tyX1_ok : ∀ k, k < 6 → parseFieldDescriptor (TX1 k).2.2.1 = some (tyX1 k) := by decide +kernel
set_option maxRecDepth 20000 in
theorem inX1 : ∀ w ∈ u_ws RX1 TX1 6, w ∈ lw_tbl := zin_r _ [393, 395, 397, 399, 401, 403] (by decide +kernel)
theorem igX1 : (u_ws RX1 TX1 6).all goodWord = true := by decide +kernel
def RX2 : String := "WordLinks$Matcher"
def TX2 : u_T := fun k => match k with
  | 0 => ("WordLinks$Matcher", "costs", "[I", true)
  | 1 => ("WordLinks$Matcher", "kinds", "[I", true)
  | 2 => ("WordLinks$Matcher", "letters0", "[I", true)
  | 3 => ("WordLinks$Matcher", "letters1", "[I", true)
  | 4 => ("WordLinks$Matcher", "size0", "I", false)
  | 5 => ("WordLinks$Matcher", "size1", "I", false)
  | _ => ("WordLinks$Matcher", "parts", "I", false)
def tyX2 : Nat → FieldType := fun k => match k with
  | 0 => .array .int
  | 1 => .array .int
  | 2 => .array .int
  | 3 => .array .int
  | 4 => .int
  | 5 => .int
  | _ => .int
theorem nmX2 : ∀ a, a < 7 → ∀ b, b < 7 → a ≠ b → (TX2 a).2.1 ≠ (TX2 b).2.1 := by decide +kernel
theorem tyX2_ok : ∀ k, k < 7 → parseFieldDescriptor (TX2 k).2.2.1 = some (tyX2 k) := by decide +kernel
set_option maxRecDepth 20000 in
theorem inX2 : ∀ w ∈ u_ws RX2 TX2 7, w ∈ lw_tbl := zin_r _ [326, 328, 330, 332, 334, 336, 338] (by decide +kernel)
theorem igX2 : (u_ws RX2 TX2 7).all goodWord = true := by decide +kernel
def RX3 : String := "WordLinks$Parted"
def TX3 : u_T := fun k => match k with
  | 0 => ("WordLinks$Parted", "weights", "[J", true)
  | 1 => ("WordLinks$Parted", "rests", "[J", true)
  | 2 => ("WordLinks$Parted", "gains", "[I", true)
  | _ => ("WordLinks$Parted", "size", "I", false)
def tyX3 : Nat → FieldType := fun k => match k with
  | 0 => .array .long
  | 1 => .array .long
  | 2 => .array .int
  | _ => .int
theorem nmX3 : ∀ a, a < 4 → ∀ b, b < 4 → a ≠ b → (TX3 a).2.1 ≠ (TX3 b).2.1 := by decide +kernel
theorem tyX3_ok : ∀ k, k < 4 → parseFieldDescriptor (TX3 k).2.2.1 = some (tyX3 k) := by decide +kernel
set_option maxRecDepth 20000 in
theorem inX3 : ∀ w ∈ u_ws RX3 TX3 4, w ∈ lw_tbl := zin_r _ [357, 359, 361, 363] (by decide +kernel)
theorem igX3 : (u_ws RX3 TX3 4).all goodWord = true := by decide +kernel
def RX4 : String := "WordLinks$Phrases"
def TX4 : u_T := fun k => match k with
  | 0 => ("WordLinks$Phrases", "rows", "[J", true)
  | 1 => ("WordLinks$Phrases", "boxes", "[I", true)
  | _ => ("WordLinks$Phrases", "size", "I", false)
def tyX4 : Nat → FieldType := fun k => match k with
  | 0 => .array .long
  | 1 => .array .int
  | _ => .int
theorem nmX4 : ∀ a, a < 3 → ∀ b, b < 3 → a ≠ b → (TX4 a).2.1 ≠ (TX4 b).2.1 := by decide +kernel
theorem tyX4_ok : ∀ k, k < 3 → parseFieldDescriptor (TX4 k).2.2.1 = some (tyX4 k) := by decide +kernel
set_option maxRecDepth 20000 in
theorem inX4 : ∀ w ∈ u_ws RX4 TX4 3, w ∈ lw_tbl := zin_r _ [440, 442, 444] (by decide +kernel)
theorem igX4 : (u_ws RX4 TX4 3).all goodWord = true := by decide +kernel
def RX5 : String := "WordLinks$Putter"
def TX5 : u_T := fun k => match k with
  | 0 => ("WordLinks$Putter", "words", "[I", true)
  | 1 => ("WordLinks$Putter", "costs", "[I", true)
  | 2 => ("WordLinks$Putter", "counts", "[I", true)
  | 3 => ("WordLinks$Putter", "choices", "[I", true)
  | 4 => ("WordLinks$Putter", "chosen", "[I", true)
  | 5 => ("WordLinks$Putter", "coming", "[I", true)
  | 6 => ("WordLinks$Putter", "size", "I", false)
  | 7 => ("WordLinks$Putter", "pieces", "I", false)
  | _ => ("WordLinks$Putter", "comingWords", "I", false)
def tyX5 : Nat → FieldType := fun k => match k with
  | 0 => .array .int
  | 1 => .array .int
  | 2 => .array .int
  | 3 => .array .int
  | 4 => .array .int
  | 5 => .array .int
  | 6 => .int
  | 7 => .int
  | _ => .int
theorem nmX5 : ∀ a, a < 9 → ∀ b, b < 9 → a ≠ b → (TX5 a).2.1 ≠ (TX5 b).2.1 := by decide +kernel
theorem tyX5_ok : ∀ k, k < 9 → parseFieldDescriptor (TX5 k).2.2.1 = some (tyX5 k) := by decide +kernel
set_option maxRecDepth 20000 in
theorem inX5 : ∀ w ∈ u_ws RX5 TX5 9, w ∈ lw_tbl := zin_r _ [466, 468, 470, 472, 474, 476, 478, 480, 482] (by decide +kernel)
theorem igX5 : (u_ws RX5 TX5 9).all goodWord = true := by decide +kernel
def RX6 : String := "WordLinks$Rounder"
def TX6 : u_T := fun k => match k with
  | 0 => ("WordLinks$Rounder", "parted", "LWordLinks$Parted;", true)
  | 1 => ("WordLinks$Rounder", "counts", "[I", true)
  | _ => ("WordLinks$Rounder", "nearCounts", "[I", true)
def tyX6 : Nat → FieldType := fun k => match k with
  | 0 => .object "WordLinks$Parted"
  | 1 => .array .int
  | _ => .array .int
theorem nmX6 : ∀ a, a < 3 → ∀ b, b < 3 → a ≠ b → (TX6 a).2.1 ≠ (TX6 b).2.1 := by decide +kernel
theorem tyX6_ok : ∀ k, k < 3 → parseFieldDescriptor (TX6 k).2.2.1 = some (tyX6 k) := by decide +kernel
set_option maxRecDepth 20000 in
theorem inX6 : ∀ w ∈ u_ws RX6 TX6 3, w ∈ lw_tbl := zin_r _ [371, 373, 375] (by decide +kernel)
theorem igX6 : (u_ws RX6 TX6 3).all goodWord = true := by decide +kernel
def RX7 : String := "WordLinks$Rows"
def TX7 : u_T := fun k => match k with
  | 0 => ("WordLinks$Rows", "lengths", "[I", true)
  | 1 => ("WordLinks$Rows", "keys", "[J", true)
  | _ => ("WordLinks$Rows", "size", "I", false)
def tyX7 : Nat → FieldType := fun k => match k with
  | 0 => .array .int
  | 1 => .array .long
  | _ => .int
theorem nmX7 : ∀ a, a < 3 → ∀ b, b < 3 → a ≠ b → (TX7 a).2.1 ≠ (TX7 b).2.1 := by decide +kernel
theorem tyX7_ok : ∀ k, k < 3 → parseFieldDescriptor (TX7 k).2.2.1 = some (tyX7 k) := by decide +kernel
set_option maxRecDepth 20000 in
theorem inX7 : ∀ w ∈ u_ws RX7 TX7 3, w ∈ lw_tbl := zin_r _ [258, 260, 262] (by decide +kernel)
theorem igX7 : (u_ws RX7 TX7 3).all goodWord = true := by decide +kernel
def RX8 : String := "WordLinks$Shape"
def TX8 : u_T := fun k => match k with
  | 0 => ("WordLinks$Shape", "ways", "[J", true)
  | 1 => ("WordLinks$Shape", "cutRow", "I", false)
  | 2 => ("WordLinks$Shape", "cutColumn", "I", false)
  | _ => ("WordLinks$Shape", "cutLinks", "I", false)
def tyX8 : Nat → FieldType := fun k => match k with
  | 0 => .array .long
  | 1 => .int
  | 2 => .int
  | _ => .int
theorem nmX8 : ∀ a, a < 4 → ∀ b, b < 4 → a ≠ b → (TX8 a).2.1 ≠ (TX8 b).2.1 := by decide +kernel
theorem tyX8_ok : ∀ k, k < 4 → parseFieldDescriptor (TX8 k).2.2.1 = some (tyX8 k) := by decide +kernel
set_option maxRecDepth 20000 in
theorem inX8 : ∀ w ∈ u_ws RX8 TX8 4, w ∈ lw_tbl := zin_r _ [419, 421, 423, 425] (by decide +kernel)
theorem igX8 : (u_ws RX8 TX8 4).all goodWord = true := by decide +kernel
def RX9 : String := "WordLinks$State"
def TX9 : u_T := fun k => match k with
  | 0 => ("WordLinks$State", "corpus", "LWordLinks$Corpus;", true)
  | 1 => ("WordLinks$State", "sheet0", "LWordLinks$Rows;", true)
  | 2 => ("WordLinks$State", "sheet1", "LWordLinks$Rows;", true)
  | 3 => ("WordLinks$State", "shares", "[[I", true)
  | 4 => ("WordLinks$State", "nears", "[[I", true)
  | 5 => ("WordLinks$State", "lettered", "Z", false)
  | 6 => ("WordLinks$State", "placing", "Z", false)
  | _ => ("WordLinks$State", "bound", "I", false)
def tyX9 : Nat → FieldType := fun k => match k with
  | 0 => .object "WordLinks$Corpus"
  | 1 => .object "WordLinks$Rows"
  | 2 => .object "WordLinks$Rows"
  | 3 => .array (.array .int)
  | 4 => .array (.array .int)
  | 5 => .boolean
  | 6 => .boolean
  | _ => .int
theorem nmX9 : ∀ a, a < 8 → ∀ b, b < 8 → a ≠ b → (TX9 a).2.1 ≠ (TX9 b).2.1 := by decide +kernel
theorem tyX9_ok : ∀ k, k < 8 → parseFieldDescriptor (TX9 k).2.2.1 = some (tyX9 k) := by decide +kernel
set_option maxRecDepth 20000 in
theorem inX9 : ∀ w ∈ u_ws RX9 TX9 8, w ∈ lw_tbl := zin_r _ [292, 294, 296, 298, 300, 302, 304, 306] (by decide +kernel)
theorem igX9 : (u_ws RX9 TX9 8).all goodWord = true := by decide +kernel
def RX10 : String := "WordLinks$Tape"
def TX10 : u_T := fun k => match k with
  | 0 => ("WordLinks$Tape", "bytes", "[I", true)
  | 1 => ("WordLinks$Tape", "size", "I", false)
  | 2 => ("WordLinks$Tape", "end", "I", false)
  | 3 => ("WordLinks$Tape", "place", "I", false)
  | _ => ("WordLinks$Tape", "fault", "I", false)
def tyX10 : Nat → FieldType := fun k => match k with
  | 0 => .array .int
  | 1 => .int
  | 2 => .int
  | 3 => .int
  | _ => .int
theorem nmX10 : ∀ a, a < 5 → ∀ b, b < 5 → a ≠ b → (TX10 a).2.1 ≠ (TX10 b).2.1 := by decide +kernel
theorem tyX10_ok : ∀ k, k < 5 → parseFieldDescriptor (TX10 k).2.2.1 = some (tyX10 k) := by decide +kernel
set_option maxRecDepth 20000 in
theorem inX10 : ∀ w ∈ u_ws RX10 TX10 5, w ∈ lw_tbl := zin_r _ [179, 181, 183, 185, 187] (by decide +kernel)
theorem igX10 : (u_ws RX10 TX10 5).all goodWord = true := by decide +kernel
def RX11 : String := "WordLinks"
def TX11 : u_T := fun k => match k with
  | 0 => ("WordLinks", "tape", "LWordLinks$Tape;", true)
  | 1 => ("WordLinks", "now", "LWordLinks$State;", true)
  | 2 => ("WordLinks", "kept", "LWordLinks$State;", true)
  | 3 => ("WordLinks", "aside", "LWordLinks$State;", true)
  | 4 => ("WordLinks", "one", "LWordLinks$Rows;", true)
  | 5 => ("WordLinks", "other", "LWordLinks$Rows;", true)
  | 6 => ("WordLinks", "matcher", "LWordLinks$Matcher;", true)
  | 7 => ("WordLinks", "rounder", "LWordLinks$Rounder;", true)
  | 8 => ("WordLinks", "linker", "LWordLinks$Linker;", true)
  | 9 => ("WordLinks", "shape", "LWordLinks$Shape;", true)
  | 10 => ("WordLinks", "table", "LWordLinks$Phrases;", true)
  | 11 => ("WordLinks", "putter", "LWordLinks$Putter;", true)
  | _ => ("WordLinks", "hasKept", "Z", false)
def tyX11 : Nat → FieldType := fun k => match k with
  | 0 => .object "WordLinks$Tape"
  | 1 => .object "WordLinks$State"
  | 2 => .object "WordLinks$State"
  | 3 => .object "WordLinks$State"
  | 4 => .object "WordLinks$Rows"
  | 5 => .object "WordLinks$Rows"
  | 6 => .object "WordLinks$Matcher"
  | 7 => .object "WordLinks$Rounder"
  | 8 => .object "WordLinks$Linker"
  | 9 => .object "WordLinks$Shape"
  | 10 => .object "WordLinks$Phrases"
  | 11 => .object "WordLinks$Putter"
  | _ => .boolean
theorem nmX11 : ∀ a, a < 13 → ∀ b, b < 13 → a ≠ b → (TX11 a).2.1 ≠ (TX11 b).2.1 := by decide +kernel
theorem tyX11_ok : ∀ k, k < 13 → parseFieldDescriptor (TX11 k).2.2.1 = some (tyX11 k) := by decide +kernel
set_option maxRecDepth 20000 in
theorem inX11 : ∀ w ∈ u_ws RX11 TX11 13, w ∈ lw_tbl := zin_r _ [498, 500, 502, 504, 506, 508, 510, 512, 514, 516, 518, 520, 522] (by decide +kernel)
theorem igX11 : (u_ws RX11 TX11 13).all goodWord = true := by decide +kernel
def RX12 : String := "WordLinksModel"
def TX12 : u_T := fun k => match k with
  | 0 => ("WordLinksModel", "file", "[I", true)
  | 1 => ("WordLinksModel", "isKept", "Z", false)
  | 2 => ("WordLinksModel", "tape", "[B", true)
  | 3 => ("WordLinksModel", "taped", "I", false)
  | 4 => ("WordLinksModel", "place0", "I", false)
  | 5 => ("WordLinksModel", "length0", "I", false)
  | 6 => ("WordLinksModel", "fault", "I", false)
  | 7 => ("WordLinksModel", "clauses", "I", false)
  | 8 => ("WordLinksModel", "ofSheets", "Z", false)
  | 9 => ("WordLinksModel", "hand", "[I", true)
  | 10 => ("WordLinksModel", "isRoom", "Z", false)
  | 11 => ("WordLinksModel", "fromOf", "[I", true)
  | 12 => ("WordLinksModel", "endOf", "[I", true)
  | 13 => ("WordLinksModel", "lettersIn", "[I", true)
  | 14 => ("WordLinksModel", "wordsIn", "[I", true)
  | 15 => ("WordLinksModel", "sentences", "[I", true)
  | 16 => ("WordLinksModel", "costFromHere", "[I", true)
  | 17 => ("WordLinksModel", "kindFromHere", "[I", true)
  | 18 => ("WordLinksModel", "weight", "[J", true)
  | 19 => ("WordLinksModel", "rest", "[J", true)
  | 20 => ("WordLinksModel", "part", "[I", true)
  | 21 => ("WordLinksModel", "common", "[I", true)
  | 22 => ("WordLinksModel", "count", "[I", true)
  | 23 => ("WordLinksModel", "nearCount", "[I", true)
  | 24 => ("WordLinksModel", "link", "[I", true)
  | 25 => ("WordLinksModel", "both", "[I", true)
  | 26 => ("WordLinksModel", "other", "[I", true)
  | 27 => ("WordLinksModel", "partingsOf", "[J", true)
  | 28 => ("WordLinksModel", "keyOf", "[J", true)
  | 29 => ("WordLinksModel", "boxesOf", "[I", true)
  | 30 => ("WordLinksModel", "phraseMany", "I", false)
  | 31 => ("WordLinksModel", "said", "[I", true)
  | 32 => ("WordLinksModel", "costFrom", "[I", true)
  | 33 => ("WordLinksModel", "piecesFrom", "[I", true)
  | 34 => ("WordLinksModel", "pieceAt", "[I", true)
  | _ => ("WordLinksModel", "saidMany", "I", false)
def tyX12 : Nat → FieldType := fun k => match k with
  | 0 => .array .int
  | 1 => .boolean
  | 2 => .array .byte
  | 3 => .int
  | 4 => .int
  | 5 => .int
  | 6 => .int
  | 7 => .int
  | 8 => .boolean
  | 9 => .array .int
  | 10 => .boolean
  | 11 => .array .int
  | 12 => .array .int
  | 13 => .array .int
  | 14 => .array .int
  | 15 => .array .int
  | 16 => .array .int
  | 17 => .array .int
  | 18 => .array .long
  | 19 => .array .long
  | 20 => .array .int
  | 21 => .array .int
  | 22 => .array .int
  | 23 => .array .int
  | 24 => .array .int
  | 25 => .array .int
  | 26 => .array .int
  | 27 => .array .long
  | 28 => .array .long
  | 29 => .array .int
  | 30 => .int
  | 31 => .array .int
  | 32 => .array .int
  | 33 => .array .int
  | 34 => .array .int
  | _ => .int
theorem nmX12 : ∀ a, a < 36 → ∀ b, b < 36 → a ≠ b → (TX12 a).2.1 ≠ (TX12 b).2.1 := by decide +kernel
theorem tyX12_ok : ∀ k, k < 36 → parseFieldDescriptor (TX12 k).2.2.1 = some (tyX12 k) := by decide +kernel
set_option maxRecDepth 20000 in
theorem inX12 : ∀ w ∈ u_ws RX12 TX12 36, w ∈ lw_tbl := zin_r _ [1414, 1416, 1418, 1420, 1422, 1424, 1426, 1428, 1430, 1432, 1434, 1436, 1438, 1440, 1442, 1444, 1446, 1448, 1450, 1452, 1454, 1456, 1458, 1460, 1462, 1464, 1466, 1468, 1470, 1472, 1474, 1476, 1478, 1480, 1482, 1484] (by decide +kernel)
theorem igX12 : (u_ws RX12 TX12 36).all goodWord = true := by decide +kernel
def vwCl : List vw_C := [(RX0, TX0, 7), (RX1, TX1, 6), (RX2, TX2, 7), (RX3, TX3, 4), (RX4, TX4, 3), (RX5, TX5, 9), (RX6, TX6, 3), (RX7, TX7, 3), (RX8, TX8, 4), (RX9, TX9, 8), (RX10, TX10, 5), (RX11, TX11, 13), (RX12, TX12, 36)]
/-- what the tables say of each kind of object -/
def zClOk (r : vw_C) (ty : Nat → FieldType) : Prop := (∀ w ∈ u_ws r.1 r.2.1 r.2.2, w ∈ zgt) ∧ (∀ a, a < r.2.2 → ∀ b, b < r.2.2 → a ≠ b → (r.2.1 a).2.1 ≠ (r.2.1 b).2.1) ∧ ∀ k, k < r.2.2 → parseFieldDescriptor (r.2.1 k).2.2.1 = some (ty k)
def zTy (ci : Nat) : Nat → FieldType := match ci with
  | 0 => tyX0
  | 1 => tyX1
  | 2 => tyX2
  | 3 => tyX3
  | 4 => tyX4
  | 5 => tyX5
  | 6 => tyX6
  | 7 => tyX7
  | 8 => tyX8
  | 9 => tyX9
  | 10 => tyX10
  | 11 => tyX11
  | _ => tyX12
theorem zgt_ws {ws : List Cond} (h : ∀ w ∈ ws, w ∈ lw_tbl) (g : ws.all goodWord = true) : ∀ w ∈ ws, w ∈ zgt := fun w hw => List.mem_filter.mpr ⟨h w hw, List.all_eq_true.mp g w hw⟩
theorem zcl_ok : ∀ (ci : Nat) (r : vw_C), vwCl[ci]? = some r → zClOk r (zTy ci) := by
  intro ci r h
  match ci, h with
  | 0, h => cases h; exact ⟨zgt_ws inX0 igX0, nmX0, tyX0_ok⟩
  | 1, h => cases h; exact ⟨zgt_ws inX1 igX1, nmX1, tyX1_ok⟩
  | 2, h => cases h; exact ⟨zgt_ws inX2 igX2, nmX2, tyX2_ok⟩
  | 3, h => cases h; exact ⟨zgt_ws inX3 igX3, nmX3, tyX3_ok⟩
  | 4, h => cases h; exact ⟨zgt_ws inX4 igX4, nmX4, tyX4_ok⟩
  | 5, h => cases h; exact ⟨zgt_ws inX5 igX5, nmX5, tyX5_ok⟩
  | 6, h => cases h; exact ⟨zgt_ws inX6 igX6, nmX6, tyX6_ok⟩
  | 7, h => cases h; exact ⟨zgt_ws inX7 igX7, nmX7, tyX7_ok⟩
  | 8, h => cases h; exact ⟨zgt_ws inX8 igX8, nmX8, tyX8_ok⟩
  | 9, h => cases h; exact ⟨zgt_ws inX9 igX9, nmX9, tyX9_ok⟩
  | 10, h => cases h; exact ⟨zgt_ws inX10 igX10, nmX10, tyX10_ok⟩
  | 11, h => cases h; exact ⟨zgt_ws inX11 igX11, nmX11, tyX11_ok⟩
  | 12, h => cases h; exact ⟨zgt_ws inX12 igX12, nmX12, tyX12_ok⟩
  | n + 13, h => simp [vwCl] at h
