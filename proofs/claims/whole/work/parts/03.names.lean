def R_X : String := "SortingNets"
def F_X : u_T := fun k => match k with
  | 0 => ("SortingNets", "nets", "[LSortingNets$Net;", true)
  | 1 => ("SortingNets", "draft", "LSortingNets$Net;", true)
  | 2 => ("SortingNets", "tangle", "LSortingNets$Tangle;", true)
  | 3 => ("SortingNets", "text", "LSortingNets$Text;", true)
  | 4 => ("SortingNets", "told", "LSortingNets$Numbers;", true)
  | 5 => ("SortingNets", "layers", "LSortingNets$Layers;", true)
  | 6 => ("SortingNets", "trial", "LSortingNets$Trial;", true)
  | 7 => ("SortingNets", "second", "LSortingNets$Trial;", true)
  | 8 => ("SortingNets", "found", "LSortingNets$PatternSet;", true)
  | 9 => ("SortingNets", "results", "[I", true)
  | 10 => ("SortingNets", "notices", "[J", true)
  | 11 => ("SortingNets", "values", "[I", true)
  | 12 => ("SortingNets", "places", "[I", true)
  | 13 => ("SortingNets", "path", "[I", true)
  | _ => ("SortingNets", "search", "LSortingNets$Search;", true)
def t_X : Nat → FieldType := fun k => match k with
  | 0 => .array (.object "SortingNets$Net")
  | 1 => .object "SortingNets$Net"
  | 2 => .object "SortingNets$Tangle"
  | 3 => .object "SortingNets$Text"
  | 4 => .object "SortingNets$Numbers"
  | 5 => .object "SortingNets$Layers"
  | 6 => .object "SortingNets$Trial"
  | 7 => .object "SortingNets$Trial"
  | 8 => .object "SortingNets$PatternSet"
  | 9 => .array .int
  | 10 => .array .long
  | 11 => .array .int
  | 12 => .array .int
  | 13 => .array .int
  | _ => .object "SortingNets$Search"
theorem n_X : ∀ a, a < 15 → ∀ b, b < 15 → a ≠ b → (F_X a).2.1 ≠ (F_X b).2.1 := by decide +kernel
theorem t_X_ok : ∀ k, k < 15 → parseFieldDescriptor (F_X k).2.2.1 = some (t_X k) := by decide +kernel
def R_Net : String := "SortingNets$Net"
def F_Net : u_T := fun k => match k with
  | 0 => ("SortingNets$Net", "wires", "I", false)
  | 1 => ("SortingNets$Net", "size", "I", false)
  | 2 => ("SortingNets$Net", "low", "[I", true)
  | _ => ("SortingNets$Net", "high", "[I", true)
def t_Net : Nat → FieldType := fun k => match k with
  | 0 => .int
  | 1 => .int
  | 2 => .array .int
  | _ => .array .int
theorem n_Net : ∀ a, a < 4 → ∀ b, b < 4 → a ≠ b → (F_Net a).2.1 ≠ (F_Net b).2.1 := by decide +kernel
theorem t_Net_ok : ∀ k, k < 4 → parseFieldDescriptor (F_Net k).2.2.1 = some (t_Net k) := by decide +kernel
def R_Tangle : String := "SortingNets$Tangle"
def F_Tangle : u_T := fun k => match k with
  | _ => ("SortingNets$Tangle", "at", "[I", true)
def t_Tangle : Nat → FieldType := fun k => match k with
  | _ => .array .int
theorem n_Tangle : ∀ a, a < 1 → ∀ b, b < 1 → a ≠ b → (F_Tangle a).2.1 ≠ (F_Tangle b).2.1 := by decide +kernel
theorem t_Tangle_ok : ∀ k, k < 1 → parseFieldDescriptor (F_Tangle k).2.2.1 = some (t_Tangle k) := by decide +kernel
def R_Text : String := "SortingNets$Text"
def F_Text : u_T := fun k => match k with
  | 0 => ("SortingNets$Text", "signs", "[C", true)
  | _ => ("SortingNets$Text", "length", "I", false)
def t_Text : Nat → FieldType := fun k => match k with
  | 0 => .array .char
  | _ => .int
theorem n_Text : ∀ a, a < 2 → ∀ b, b < 2 → a ≠ b → (F_Text a).2.1 ≠ (F_Text b).2.1 := by decide +kernel
theorem t_Text_ok : ∀ k, k < 2 → parseFieldDescriptor (F_Text k).2.2.1 = some (t_Text k) := by decide +kernel
def R_Numbers : String := "SortingNets$Numbers"
def F_Numbers : u_T := fun k => match k with
  | 0 => ("SortingNets$Numbers", "numbers", "[J", true)
  | _ => ("SortingNets$Numbers", "size", "I", false)
def t_Numbers : Nat → FieldType := fun k => match k with
  | 0 => .array .long
  | _ => .int
theorem n_Numbers : ∀ a, a < 2 → ∀ b, b < 2 → a ≠ b → (F_Numbers a).2.1 ≠ (F_Numbers b).2.1 := by decide +kernel
theorem t_Numbers_ok : ∀ k, k < 2 → parseFieldDescriptor (F_Numbers k).2.2.1 = some (t_Numbers k) := by decide +kernel
def R_Layers : String := "SortingNets$Layers"
def F_Layers : u_T := fun k => match k with
  | 0 => ("SortingNets$Layers", "of", "[I", true)
  | 1 => ("SortingNets$Layers", "deepest", "I", false)
  | 2 => ("SortingNets$Layers", "sizes", "[I", true)
  | _ => ("SortingNets$Layers", "last", "[I", true)
def t_Layers : Nat → FieldType := fun k => match k with
  | 0 => .array .int
  | 1 => .int
  | 2 => .array .int
  | _ => .array .int
theorem n_Layers : ∀ a, a < 4 → ∀ b, b < 4 → a ≠ b → (F_Layers a).2.1 ≠ (F_Layers b).2.1 := by decide +kernel
theorem t_Layers_ok : ∀ k, k < 4 → parseFieldDescriptor (F_Layers k).2.2.1 = some (t_Layers k) := by decide +kernel
def R_Trial : String := "SortingNets$Trial"
def F_Trial : u_T := fun k => match k with
  | 0 => ("SortingNets$Trial", "words", "[J", true)
  | 1 => ("SortingNets$Trial", "wires", "I", false)
  | _ => ("SortingNets$Trial", "blocks", "I", false)
def t_Trial : Nat → FieldType := fun k => match k with
  | 0 => .array .long
  | 1 => .int
  | _ => .int
theorem n_Trial : ∀ a, a < 3 → ∀ b, b < 3 → a ≠ b → (F_Trial a).2.1 ≠ (F_Trial b).2.1 := by decide +kernel
theorem t_Trial_ok : ∀ k, k < 3 → parseFieldDescriptor (F_Trial k).2.2.1 = some (t_Trial k) := by decide +kernel
def R_PatternSet : String := "SortingNets$PatternSet"
def F_PatternSet : u_T := fun k => match k with
  | _ => ("SortingNets$PatternSet", "words", "[J", true)
def t_PatternSet : Nat → FieldType := fun k => match k with
  | _ => .array .long
theorem n_PatternSet : ∀ a, a < 1 → ∀ b, b < 1 → a ≠ b → (F_PatternSet a).2.1 ≠ (F_PatternSet b).2.1 := by decide +kernel
theorem t_PatternSet_ok : ∀ k, k < 1 → parseFieldDescriptor (F_PatternSet k).2.2.1 = some (t_PatternSet k) := by decide +kernel
def R_Search : String := "SortingNets$Search"
def F_Search : u_T := fun k => match k with
  | 0 => ("SortingNets$Search", "low", "[I", true)
  | 1 => ("SortingNets$Search", "high", "[I", true)
  | 2 => ("SortingNets$Search", "moves", "[I", true)
  | 3 => ("SortingNets$Search", "kept", "[J", true)
  | 4 => ("SortingNets$Search", "fresh", "[J", true)
  | 5 => ("SortingNets$Search", "wires", "I", false)
  | 6 => ("SortingNets$Search", "pairs", "I", false)
  | 7 => ("SortingNets$Search", "moveSize", "I", false)
  | 8 => ("SortingNets$Search", "keptSize", "I", false)
  | _ => ("SortingNets$Search", "freshSize", "I", false)
def t_Search : Nat → FieldType := fun k => match k with
  | 0 => .array .int
  | 1 => .array .int
  | 2 => .array .int
  | 3 => .array .long
  | 4 => .array .long
  | 5 => .int
  | 6 => .int
  | 7 => .int
  | 8 => .int
  | _ => .int
theorem n_Search : ∀ a, a < 10 → ∀ b, b < 10 → a ≠ b → (F_Search a).2.1 ≠ (F_Search b).2.1 := by decide +kernel
theorem t_Search_ok : ∀ k, k < 10 → parseFieldDescriptor (F_Search k).2.2.1 = some (t_Search k) := by decide +kernel
def R_M : String := "SortingNetsModel"
def F_M : u_T := fun k => match k with
  | 0 => ("SortingNetsModel", "thrown", "I", false)
  | 1 => ("SortingNetsModel", "told", "I", false)
  | 2 => ("SortingNetsModel", "row", "[J", true)
  | 3 => ("SortingNetsModel", "wires", "[I", true)
  | 4 => ("SortingNetsModel", "many", "[I", true)
  | 5 => ("SortingNetsModel", "low", "[I", true)
  | 6 => ("SortingNetsModel", "high", "[I", true)
  | 7 => ("SortingNetsModel", "tape", "[I", true)
  | 8 => ("SortingNetsModel", "taped", "I", false)
  | 9 => ("SortingNetsModel", "at", "I", false)
  | 10 => ("SortingNetsModel", "to", "I", false)
  | 11 => ("SortingNetsModel", "digit", "I", false)
  | 12 => ("SortingNetsModel", "one", "[I", true)
  | 13 => ("SortingNetsModel", "other", "[I", true)
  | 14 => ("SortingNetsModel", "pairs", "I", false)
  | 15 => ("SortingNetsModel", "toldWires", "I", false)
  | 16 => ("SortingNetsModel", "where", "[I", true)
  | 17 => ("SortingNetsModel", "drawn", "I", false)
  | 18 => ("SortingNetsModel", "layer", "[I", true)
  | 19 => ("SortingNetsModel", "reached", "[I", true)
  | 20 => ("SortingNetsModel", "line", "[I", true)
  | 21 => ("SortingNetsModel", "busy", "J", false)
  | 22 => ("SortingNetsModel", "firstWrong", "I", false)
  | 23 => ("SortingNetsModel", "numbers", "[I", true)
  | 24 => ("SortingNetsModel", "isThere", "[Z", true)
  | 25 => ("SortingNetsModel", "order", "[I", true)
  | 26 => ("SortingNetsModel", "noticed", "[J", true)
  | 27 => ("SortingNetsModel", "kept", "[J", false)
  | 28 => ("SortingNetsModel", "keptNew", "[J", false)
  | 29 => ("SortingNetsModel", "keptMany", "I", false)
  | 30 => ("SortingNetsModel", "newMany", "I", false)
  | _ => ("SortingNetsModel", "rest", "[I", true)
def t_M : Nat → FieldType := fun k => match k with
  | 0 => .int
  | 1 => .int
  | 2 => .array .long
  | 3 => .array .int
  | 4 => .array .int
  | 5 => .array .int
  | 6 => .array .int
  | 7 => .array .int
  | 8 => .int
  | 9 => .int
  | 10 => .int
  | 11 => .int
  | 12 => .array .int
  | 13 => .array .int
  | 14 => .int
  | 15 => .int
  | 16 => .array .int
  | 17 => .int
  | 18 => .array .int
  | 19 => .array .int
  | 20 => .array .int
  | 21 => .long
  | 22 => .int
  | 23 => .array .int
  | 24 => .array .boolean
  | 25 => .array .int
  | 26 => .array .long
  | 27 => .array .long
  | 28 => .array .long
  | 29 => .int
  | 30 => .int
  | _ => .array .int
theorem n_M : ∀ a, a < 32 → ∀ b, b < 32 → a ≠ b → (F_M a).2.1 ≠ (F_M b).2.1 := by decide +kernel
theorem t_M_ok : ∀ k, k < 32 → parseFieldDescriptor (F_M k).2.2.1 = some (t_M k) := by decide +kernel
def classes : List vw_C := [(R_X, F_X, 15), (R_Net, F_Net, 4), (R_Tangle, F_Tangle, 1), (R_Text, F_Text, 2), (R_Numbers, F_Numbers, 2), (R_Layers, F_Layers, 4), (R_Trial, F_Trial, 3), (R_PatternSet, F_PatternSet, 1), (R_Search, F_Search, 10), (R_M, F_M, 32)]
def TB : List Cond := lw_tbl.filter goodWord
theorem TB_of {w : Cond} (h : w ∈ lw_tbl) (hg : goodWord w = true) : w ∈ TB := List.mem_filter.mpr ⟨h, hg⟩
theorem TB_good : GoodIn TB TB := fun w h => ⟨h, good_of_word (List.mem_filter.mp h).2⟩
set_option maxRecDepth 20000 in
theorem i_X : ∀ w ∈ u_ws R_X F_X 15, w ∈ TB := by decide +kernel
set_option maxRecDepth 20000 in
theorem i_Net : ∀ w ∈ u_ws R_Net F_Net 4, w ∈ TB := by decide +kernel
set_option maxRecDepth 20000 in
theorem i_Tangle : ∀ w ∈ u_ws R_Tangle F_Tangle 1, w ∈ TB := by decide +kernel
set_option maxRecDepth 20000 in
theorem i_Text : ∀ w ∈ u_ws R_Text F_Text 2, w ∈ TB := by decide +kernel
set_option maxRecDepth 20000 in
theorem i_Numbers : ∀ w ∈ u_ws R_Numbers F_Numbers 2, w ∈ TB := by decide +kernel
set_option maxRecDepth 20000 in
theorem i_Layers : ∀ w ∈ u_ws R_Layers F_Layers 4, w ∈ TB := by decide +kernel
set_option maxRecDepth 20000 in
theorem i_Trial : ∀ w ∈ u_ws R_Trial F_Trial 3, w ∈ TB := by decide +kernel
set_option maxRecDepth 20000 in
theorem i_PatternSet : ∀ w ∈ u_ws R_PatternSet F_PatternSet 1, w ∈ TB := by decide +kernel
set_option maxRecDepth 20000 in
theorem i_Search : ∀ w ∈ u_ws R_Search F_Search 10, w ∈ TB := by decide +kernel
set_option maxRecDepth 20000 in
theorem i_M : ∀ w ∈ u_ws R_M F_M 32, w ∈ TB := by decide +kernel
/-- the cells by their places: 0 x, 1 nets, 2 net0, 3 net0.low, 4 net0.high, 5 net1, 6 net1.low, 7 net1.high, 8 net2, 9 net2.low, 10 net2.high, 11 net3, 12 net3.low, 13 net3.high, 14 text, 15 text.signs, 16 told, 17 told.numbers, 18 net4, 19 net4.low, 20 net4.high, 21 tangle, 22 tangle.at, 23 layers, 24 layers.of, 25 layers.sizes, 26 layers.last, 27 trial, 28 trial.words, 29 second, 30 second.words, 31 found, 32 found.words, 33 results, 34 notices, 35 values, 36 places, 37 path, 38 search, 39 search.low, 40 search.high, 41 search.moves, 42 search.kept, 43 search.fresh, 44 m, 45 m.row, 46 m.wires, 47 m.many, 48 m.low, 49 m.high, 50 m.tape, 51 m.one, 52 m.other, 53 m.where, 54 m.layer, 55 m.reached, 56 m.line, 57 m.numbers, 58 m.isThere, 59 m.order, 60 m.noticed, 61 m.kept, 62 m.keptNew, 63 m.rest, 64 out -/
def sh : List Shp := [.inr (0, [4, 21, 24, 17, 19, 26, 30, 32, 34, 36, 37, 38, 39, 40, 41]), .inl (4, 4), .inr (1, [0, 0, 6, 7]), .inl (60, 0), .inl (60, 0), .inr (1, [0, 0, 9, 10]), .inl (60, 0), .inl (60, 0), .inr (1, [0, 0, 12, 13]), .inl (60, 0), .inl (60, 0), .inr (1, [0, 0, 15, 16]), .inl (60, 0), .inl (60, 0), .inr (3, [18, 0]), .inl (200, 2), .inr (4, [20, 0]), .inl (64, 1), .inr (1, [0, 0, 22, 23]), .inl (60, 0), .inl (60, 0), .inr (2, [25]), .inl (8, 0), .inr (5, [27, 0, 28, 29]), .inl (60, 0), .inl (61, 0), .inl (8, 0), .inr (6, [31, 0, 0]), .inl (32, 1), .inr (6, [33, 0, 0]), .inl (32, 1), .inr (7, [35]), .inl (4, 1), .inl (256, 0), .inl (256, 1), .inl (8, 0), .inl (8, 0), .inl (6, 0), .inr (8, [42, 43, 44, 45, 46, 0, 0, 0, 0, 0]), .inl (10, 0), .inl (10, 0), .inl (26, 0), .inl (64, 1), .inl (64, 1), .inr (9, [0, 0, 48, 49, 50, 51, 52, 53, 0, 0, 0, 0, 54, 55, 0, 0, 56, 0, 57, 58, 59, 1, 0, 60, 61, 62, 63, 2, 2, 0, 0, 66]), .inl (64, 1), .inl (4, 0), .inl (4, 0), .inl (240, 0), .inl (240, 0), .inl (200, 0), .inl (60, 0), .inl (60, 0), .inl (8, 0), .inl (60, 0), .inl (8, 0), .inl (8, 0), .inl (8, 0), .inl (256, 3), .inl (8, 0), .inl (256, 1), .inl (2000, 1), .inl (2000, 1), .inl (8, 0), .inl (1, 1)]
