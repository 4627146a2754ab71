/-! THE WORLD: the cells of a bench, of its reference and of the law as numbers ('ids'), their contents as two functions; a picture of the heap. -/
def h_tb : List Cond := lw_tbl.filter goodWord
theorem h_in {w : Cond} (h : w ∈ lw_tbl) (g : goodWord w = true) : w ∈ h_tb := List.mem_filter.mpr ⟨h, g⟩
theorem h_inI (i : Nat) {w : Cond} (h : lw_tbl[i]? = some w) (g : goodWord w = true) : w ∈ h_tb := h_in (List.mem_of_getElem? h) g
theorem h_good {ws : List Cond} (h : ∀ w ∈ ws, w ∈ h_tb) : GoodIn h_tb ws := fun w hw => ⟨h w hw, good_of_word (List.mem_filter.mp (h w hw)).2⟩
abbrev HMem : Type := (Nat → Nat → Int32) × (Nat → Nat → Int64)
abbrev HGeo : Type := va_G × (Nat → ClassId) × (Nat → Nat)
def h_N : Nat := 144
/-- kinds: 1 int[], 2 byte[], 3 boolean[], 4 long[], 5 Graph[], 6 int[][], 10 + k an object of class k -/
def h_kdT : List Nat := [11, 5, 12, 5, 13, 2, 14, 2, 15, 1, 1, 1, 1, 16, 1, 1, 1, 1, 1, 17, 1, 1, 1, 6, 1, 1, 1, 1, 1, 1, 1, 1, 1, 18, 1, 1, 1, 1, 19, 4, 4, 20, 1, 1, 1, 1, 1, 1, 1, 1, 1, 1, 1, 3, 4, 1, 4, 4, 1, 4]
def h_kd (c : Nat) : Nat := if c < 84 then (if c % 4 = 0 then 10 else 1) else h_kdT.getD (c - 84) 0
def h_lenT : List Nat := [0, 4, 0, 16, 0, 120, 0, 265, 0, 8, 8, 8, 256, 0, 8, 64, 8, 8, 8, 0, 8, 8, 8, 9, 8, 8, 8, 8, 8, 8, 8, 8, 8, 0, 8, 8, 8, 8, 0, 8, 8, 0, 438, 1168, 120, 8, 8, 8, 256, 9, 8, 8, 9, 64, 9, 10, 8, 8, 300, 1]
def h_len (c : Nat) : Nat := if c < 84 then (if c % 4 = 2 then 64 else 8) else h_lenT.getD (c - 84) 0
/-- the fields of an object: (0, _) an int, (1, _) a long, (2, t) the cell t -/
def h_flT : List (List (Nat × Nat)) := [[(2, 85), (2, 16), (2, 86), (2, 88), (2, 90), (2, 92), (2, 97), (2, 103), (2, 117), (2, 121), (2, 122)], [], [(2, 87), (0, 0), (0, 0)], [], [(2, 89), (0, 0), (0, 0)], [], [(2, 91), (0, 0)], [], [(2, 93), (2, 94), (0, 0), (0, 0), (2, 95), (2, 96)], [], [], [], [], [(0, 0), (0, 0), (2, 98), (2, 99), (2, 100), (2, 101), (2, 102)], [], [], [], [], [], [(0, 0), (2, 104), (2, 105), (2, 106), (2, 107)], [], [], [], [], [], [], [], [], [], [], [], [], [], [(2, 118), (2, 119), (2, 120)], [], [], [], [], [(2, 123), (2, 124)], [], [], [(2, 126), (2, 127), (0, 0), (2, 128), (0, 0), (0, 0), (2, 129), (2, 130), (2, 131), (0, 0), (0, 0), (2, 132), (2, 133), (2, 134), (2, 135), (2, 136), (2, 137), (2, 138), (2, 139), (2, 140), (2, 141), (0, 0), (0, 0), (2, 142), (0, 0), (1, 0)], [], [], [], [], [], [], [], [], [], [], [], [], [], [], [], [], [], []]
def h_fl (c : Nat) : List (Nat × Nat) := if c < 84 then [(0, 0), (2, c + 1), (2, c + 2), (2, c + 3)] else h_flT.getD (c - 84) []
/-- the cell at a place of an array of cells -/
def h_el (c i : Nat) : Nat := if c = 85 then 4 * i else if c = 87 then 20 + 4 * i else 108 + i
def R_Graph : String := "HomBench$Graph"
def F_Graph : u_T := fun k => match k with
  | 0 => ("HomBench$Graph", "size", "I", false)
  | 1 => ("HomBench$Graph", "weights", "[I", true)
  | 2 => ("HomBench$Graph", "edgeWeights", "[I", true)
  | _ => ("HomBench$Graph", "near", "[I", true)
def t_Graph : Nat → FieldType := fun k => match k with
  | 0 => .int
  | 1 => .array .int
  | 2 => .array .int
  | _ => .array .int
theorem n_Graph : ∀ a, a < 4 → ∀ b, b < 4 → a ≠ b → (F_Graph a).2.1 ≠ (F_Graph b).2.1 := by decide +kernel
theorem t_Graph_ok : ∀ k, k < 4 → parseFieldDescriptor (F_Graph k).2.2.1 = some (t_Graph k) := by decide +kernel
theorem i_Graph : ∀ w ∈ u_ws R_Graph F_Graph 4, w ∈ h_tb := fun w hw => h_in ((by decide +kernel : ∀ w ∈ u_ws R_Graph F_Graph 4, w ∈ lw_tbl) w hw) ((by decide +kernel : ∀ w ∈ u_ws R_Graph F_Graph 4, goodWord w = true) w hw)
def R_Bench : String := "HomBench"
def F_Bench : u_T := fun k => match k with
  | 0 => ("HomBench", "graphs", "[LHomBench$Graph;", true)
  | 1 => ("HomBench", "draft", "LHomBench$Graph;", true)
  | 2 => ("HomBench", "history", "LHomBench$History;", true)
  | 3 => ("HomBench", "text", "LHomBench$Text;", true)
  | 4 => ("HomBench", "script", "LHomBench$Script;", true)
  | 5 => ("HomBench", "elimination", "LHomBench$Elimination;", true)
  | 6 => ("HomBench", "sums", "LHomBench$MapSums;", true)
  | 7 => ("HomBench", "search", "LHomBench$HomSearch;", true)
  | 8 => ("HomBench", "bijections", "LHomBench$Bijections;", true)
  | 9 => ("HomBench", "colorClasses", "[I", true)
  | _ => ("HomBench", "walker", "LHomBench$Walks;", true)
def t_Bench : Nat → FieldType := fun k => match k with
  | 0 => .array (.object "HomBench$Graph")
  | 1 => .object "HomBench$Graph"
  | 2 => .object "HomBench$History"
  | 3 => .object "HomBench$Text"
  | 4 => .object "HomBench$Script"
  | 5 => .object "HomBench$Elimination"
  | 6 => .object "HomBench$MapSums"
  | 7 => .object "HomBench$HomSearch"
  | 8 => .object "HomBench$Bijections"
  | 9 => .array .int
  | _ => .object "HomBench$Walks"
theorem n_Bench : ∀ a, a < 11 → ∀ b, b < 11 → a ≠ b → (F_Bench a).2.1 ≠ (F_Bench b).2.1 := by decide +kernel
theorem t_Bench_ok : ∀ k, k < 11 → parseFieldDescriptor (F_Bench k).2.2.1 = some (t_Bench k) := by decide +kernel
theorem i_Bench : ∀ w ∈ u_ws R_Bench F_Bench 11, w ∈ h_tb := fun w hw => h_in ((by decide +kernel : ∀ w ∈ u_ws R_Bench F_Bench 11, w ∈ lw_tbl) w hw) ((by decide +kernel : ∀ w ∈ u_ws R_Bench F_Bench 11, goodWord w = true) w hw)
def R_History : String := "HomBench$History"
def F_History : u_T := fun k => match k with
  | 0 => ("HomBench$History", "copies", "[LHomBench$Graph;", true)
  | 1 => ("HomBench$History", "oldest", "I", false)
  | _ => ("HomBench$History", "length", "I", false)
def t_History : Nat → FieldType := fun k => match k with
  | 0 => .array (.object "HomBench$Graph")
  | 1 => .int
  | _ => .int
theorem n_History : ∀ a, a < 3 → ∀ b, b < 3 → a ≠ b → (F_History a).2.1 ≠ (F_History b).2.1 := by decide +kernel
theorem t_History_ok : ∀ k, k < 3 → parseFieldDescriptor (F_History k).2.2.1 = some (t_History k) := by decide +kernel
theorem i_History : ∀ w ∈ u_ws R_History F_History 3, w ∈ h_tb := fun w hw => h_in ((by decide +kernel : ∀ w ∈ u_ws R_History F_History 3, w ∈ lw_tbl) w hw) ((by decide +kernel : ∀ w ∈ u_ws R_History F_History 3, goodWord w = true) w hw)
def R_Text : String := "HomBench$Text"
def F_Text : u_T := fun k => match k with
  | 0 => ("HomBench$Text", "bytes", "[B", true)
  | 1 => ("HomBench$Text", "length", "I", false)
  | _ => ("HomBench$Text", "at", "I", false)
def t_Text : Nat → FieldType := fun k => match k with
  | 0 => .array .byte
  | 1 => .int
  | _ => .int
theorem n_Text : ∀ a, a < 3 → ∀ b, b < 3 → a ≠ b → (F_Text a).2.1 ≠ (F_Text b).2.1 := by decide +kernel
theorem t_Text_ok : ∀ k, k < 3 → parseFieldDescriptor (F_Text k).2.2.1 = some (t_Text k) := by decide +kernel
theorem i_Text : ∀ w ∈ u_ws R_Text F_Text 3, w ∈ h_tb := fun w hw => h_in ((by decide +kernel : ∀ w ∈ u_ws R_Text F_Text 3, w ∈ lw_tbl) w hw) ((by decide +kernel : ∀ w ∈ u_ws R_Text F_Text 3, goodWord w = true) w hw)
def R_Script : String := "HomBench$Script"
def F_Script : u_T := fun k => match k with
  | 0 => ("HomBench$Script", "bytes", "[B", true)
  | _ => ("HomBench$Script", "length", "I", false)
def t_Script : Nat → FieldType := fun k => match k with
  | 0 => .array .byte
  | _ => .int
theorem n_Script : ∀ a, a < 2 → ∀ b, b < 2 → a ≠ b → (F_Script a).2.1 ≠ (F_Script b).2.1 := by decide +kernel
theorem t_Script_ok : ∀ k, k < 2 → parseFieldDescriptor (F_Script k).2.2.1 = some (t_Script k) := by decide +kernel
theorem i_Script : ∀ w ∈ u_ws R_Script F_Script 2, w ∈ h_tb := fun w hw => h_in ((by decide +kernel : ∀ w ∈ u_ws R_Script F_Script 2, w ∈ lw_tbl) w hw) ((by decide +kernel : ∀ w ∈ u_ws R_Script F_Script 2, goodWord w = true) w hw)
def R_Elimination : String := "HomBench$Elimination"
def F_Elimination : u_T := fun k => match k with
  | 0 => ("HomBench$Elimination", "order", "[I", true)
  | 1 => ("HomBench$Elimination", "bags", "[I", true)
  | 2 => ("HomBench$Elimination", "orderWidth", "I", false)
  | 3 => ("HomBench$Elimination", "addedEdges", "I", false)
  | 4 => ("HomBench$Elimination", "present", "[I", true)
  | _ => ("HomBench$Elimination", "widths", "[I", true)
def t_Elimination : Nat → FieldType := fun k => match k with
  | 0 => .array .int
  | 1 => .array .int
  | 2 => .int
  | 3 => .int
  | 4 => .array .int
  | _ => .array .int
theorem n_Elimination : ∀ a, a < 6 → ∀ b, b < 6 → a ≠ b → (F_Elimination a).2.1 ≠ (F_Elimination b).2.1 := by decide +kernel
theorem t_Elimination_ok : ∀ k, k < 6 → parseFieldDescriptor (F_Elimination k).2.2.1 = some (t_Elimination k) := by decide +kernel
theorem i_Elimination : ∀ w ∈ u_ws R_Elimination F_Elimination 6, w ∈ h_tb := fun w hw => h_in ((by decide +kernel : ∀ w ∈ u_ws R_Elimination F_Elimination 6, w ∈ lw_tbl) w hw) ((by decide +kernel : ∀ w ∈ u_ws R_Elimination F_Elimination 6, goodWord w = true) w hw)
def R_MapSums : String := "HomBench$MapSums"
def F_MapSums : u_T := fun k => match k with
  | 0 => ("HomBench$MapSums", "sources", "I", false)
  | 1 => ("HomBench$MapSums", "targets", "I", false)
  | 2 => ("HomBench$MapSums", "worth", "[I", true)
  | 3 => ("HomBench$MapSums", "gain", "[I", true)
  | 4 => ("HomBench$MapSums", "earlier", "[I", true)
  | 5 => ("HomBench$MapSums", "children", "[I", true)
  | _ => ("HomBench$MapSums", "images", "[I", true)
def t_MapSums : Nat → FieldType := fun k => match k with
  | 0 => .int
  | 1 => .int
  | 2 => .array .int
  | 3 => .array .int
  | 4 => .array .int
  | 5 => .array .int
  | _ => .array .int
theorem n_MapSums : ∀ a, a < 7 → ∀ b, b < 7 → a ≠ b → (F_MapSums a).2.1 ≠ (F_MapSums b).2.1 := by decide +kernel
theorem t_MapSums_ok : ∀ k, k < 7 → parseFieldDescriptor (F_MapSums k).2.2.1 = some (t_MapSums k) := by decide +kernel
theorem i_MapSums : ∀ w ∈ u_ws R_MapSums F_MapSums 7, w ∈ h_tb := fun w hw => h_in ((by decide +kernel : ∀ w ∈ u_ws R_MapSums F_MapSums 7, w ∈ lw_tbl) w hw) ((by decide +kernel : ∀ w ∈ u_ws R_MapSums F_MapSums 7, goodWord w = true) w hw)
def R_HomSearch : String := "HomBench$HomSearch"
def F_HomSearch : u_T := fun k => match k with
  | 0 => ("HomBench$HomSearch", "sources", "I", false)
  | 1 => ("HomBench$HomSearch", "fromNear", "[I", true)
  | 2 => ("HomBench$HomSearch", "toNear", "[I", true)
  | 3 => ("HomBench$HomSearch", "allowed", "[I", true)
  | _ => ("HomBench$HomSearch", "domains", "[[I", true)
def t_HomSearch : Nat → FieldType := fun k => match k with
  | 0 => .int
  | 1 => .array .int
  | 2 => .array .int
  | 3 => .array .int
  | _ => .array (.array .int)
theorem n_HomSearch : ∀ a, a < 5 → ∀ b, b < 5 → a ≠ b → (F_HomSearch a).2.1 ≠ (F_HomSearch b).2.1 := by decide +kernel
theorem t_HomSearch_ok : ∀ k, k < 5 → parseFieldDescriptor (F_HomSearch k).2.2.1 = some (t_HomSearch k) := by decide +kernel
theorem i_HomSearch : ∀ w ∈ u_ws R_HomSearch F_HomSearch 5, w ∈ h_tb := fun w hw => h_in ((by decide +kernel : ∀ w ∈ u_ws R_HomSearch F_HomSearch 5, w ∈ lw_tbl) w hw) ((by decide +kernel : ∀ w ∈ u_ws R_HomSearch F_HomSearch 5, goodWord w = true) w hw)
def R_Bijections : String := "HomBench$Bijections"
def F_Bijections : u_T := fun k => match k with
  | 0 => ("HomBench$Bijections", "fromMarks", "[I", true)
  | 1 => ("HomBench$Bijections", "toMarks", "[I", true)
  | _ => ("HomBench$Bijections", "partners", "[I", true)
def t_Bijections : Nat → FieldType := fun k => match k with
  | 0 => .array .int
  | 1 => .array .int
  | _ => .array .int
theorem n_Bijections : ∀ a, a < 3 → ∀ b, b < 3 → a ≠ b → (F_Bijections a).2.1 ≠ (F_Bijections b).2.1 := by decide +kernel
theorem t_Bijections_ok : ∀ k, k < 3 → parseFieldDescriptor (F_Bijections k).2.2.1 = some (t_Bijections k) := by decide +kernel
theorem i_Bijections : ∀ w ∈ u_ws R_Bijections F_Bijections 3, w ∈ h_tb := fun w hw => h_in ((by decide +kernel : ∀ w ∈ u_ws R_Bijections F_Bijections 3, w ∈ lw_tbl) w hw) ((by decide +kernel : ∀ w ∈ u_ws R_Bijections F_Bijections 3, goodWord w = true) w hw)
def R_Walks : String := "HomBench$Walks"
def F_Walks : u_T := fun k => match k with
  | 0 => ("HomBench$Walks", "present", "[J", true)
  | _ => ("HomBench$Walks", "next", "[J", true)
def t_Walks : Nat → FieldType := fun k => match k with
  | 0 => .array .long
  | _ => .array .long
theorem n_Walks : ∀ a, a < 2 → ∀ b, b < 2 → a ≠ b → (F_Walks a).2.1 ≠ (F_Walks b).2.1 := by decide +kernel
theorem t_Walks_ok : ∀ k, k < 2 → parseFieldDescriptor (F_Walks k).2.2.1 = some (t_Walks k) := by decide +kernel
theorem i_Walks : ∀ w ∈ u_ws R_Walks F_Walks 2, w ∈ h_tb := fun w hw => h_in ((by decide +kernel : ∀ w ∈ u_ws R_Walks F_Walks 2, w ∈ lw_tbl) w hw) ((by decide +kernel : ∀ w ∈ u_ws R_Walks F_Walks 2, goodWord w = true) w hw)
def R_Model : String := "HomBenchModel"
def F_Model : u_T := fun k => match k with
  | 0 => ("HomBenchModel", "w", "[I", true)
  | 1 => ("HomBenchModel", "past", "[I", true)
  | 2 => ("HomBenchModel", "pasts", "I", false)
  | 3 => ("HomBenchModel", "text", "[I", true)
  | 4 => ("HomBenchModel", "typed", "I", false)
  | 5 => ("HomBenchModel", "thrown", "I", false)
  | 6 => ("HomBenchModel", "beside", "[I", true)
  | 7 => ("HomBenchModel", "order", "[I", true)
  | 8 => ("HomBenchModel", "bags", "[I", true)
  | 9 => ("HomBenchModel", "widest", "I", false)
  | 10 => ("HomBenchModel", "filled", "I", false)
  | 11 => ("HomBenchModel", "narrow", "[I", true)
  | 12 => ("HomBenchModel", "image", "[I", true)
  | 13 => ("HomBenchModel", "turn", "[I", true)
  | 14 => ("HomBenchModel", "laid", "[I", true)
  | 15 => ("HomBenchModel", "begun", "[I", true)
  | 16 => ("HomBenchModel", "isTaken", "[Z", true)
  | 17 => ("HomBenchModel", "sets", "[J", true)
  | 18 => ("HomBenchModel", "many", "[I", true)
  | 19 => ("HomBenchModel", "steps", "[J", true)
  | 20 => ("HomBenchModel", "then", "[J", true)
  | 21 => ("HomBenchModel", "at", "I", false)
  | 22 => ("HomBenchModel", "fault", "I", false)
  | 23 => ("HomBenchModel", "out", "[I", true)
  | 24 => ("HomBenchModel", "outs", "I", false)
  | _ => ("HomBenchModel", "h", "J", false)
def t_Model : Nat → FieldType := fun k => match k with
  | 0 => .array .int
  | 1 => .array .int
  | 2 => .int
  | 3 => .array .int
  | 4 => .int
  | 5 => .int
  | 6 => .array .int
  | 7 => .array .int
  | 8 => .array .int
  | 9 => .int
  | 10 => .int
  | 11 => .array .int
  | 12 => .array .int
  | 13 => .array .int
  | 14 => .array .int
  | 15 => .array .int
  | 16 => .array .boolean
  | 17 => .array .long
  | 18 => .array .int
  | 19 => .array .long
  | 20 => .array .long
  | 21 => .int
  | 22 => .int
  | 23 => .array .int
  | 24 => .int
  | _ => .long
theorem n_Model : ∀ a, a < 26 → ∀ b, b < 26 → a ≠ b → (F_Model a).2.1 ≠ (F_Model b).2.1 := by decide +kernel
theorem t_Model_ok : ∀ k, k < 26 → parseFieldDescriptor (F_Model k).2.2.1 = some (t_Model k) := by decide +kernel
theorem i_Model : ∀ w ∈ u_ws R_Model F_Model 26, w ∈ h_tb := fun w hw => h_in ((by decide +kernel : ∀ w ∈ u_ws R_Model F_Model 26, w ∈ lw_tbl) w hw) ((by decide +kernel : ∀ w ∈ u_ws R_Model F_Model 26, goodWord w = true) w hw)
abbrev h_cl : List vw_C := [(R_Graph, F_Graph, 4), (R_Bench, F_Bench, 11), (R_History, F_History, 3), (R_Text, F_Text, 3), (R_Script, F_Script, 2), (R_Elimination, F_Elimination, 6), (R_MapSums, F_MapSums, 7), (R_HomSearch, F_HomSearch, 5), (R_Bijections, F_Bijections, 3), (R_Walks, F_Walks, 2), (R_Model, F_Model, 26)]
def h_tys (G : HGeo) : List (ClassId × FieldType) := [(G.2.1 0, .int), (G.2.1 1, .byte), (G.2.1 2, .boolean), (G.2.1 3, .long), (G.2.1 4, .object "HomBench$Graph"), (G.2.1 5, .array .int)]
def h_fv (G : HGeo) (μ : HMem) (c k : Nat) (q : Nat × Nat) : Value := if q.1 = 0 then .int (μ.1 c k) else if q.1 = 1 then .long (μ.2 c k) else .ref (G.2.2 q.2)
def h_cell (G : HGeo) (μ : HMem) (c : Nat) : va_E :=
  if h_kd c = 1 then .inl (G.2.1 0, h_len c, .inl (μ.1 c))
  else if h_kd c = 2 then .inl (G.2.1 1, h_len c, .inl (μ.1 c))
  else if h_kd c = 3 then .inl (G.2.1 2, h_len c, .inl (μ.1 c))
  else if h_kd c = 4 then .inl (G.2.1 3, h_len c, .inr (.inl (μ.2 c)))
  else if h_kd c = 5 then .inl (G.2.1 4, h_len c, .inr (.inr (.inr (.inr (fun i => some (G.2.2 (h_el c i)))))))
  else if h_kd c = 6 then .inl (G.2.1 5, h_len c, .inr (.inr (.inr (.inr (fun i => some (G.2.2 (h_el c i)))))))
  else .inr (h_kd c - 10, (h_fl c).mapIdx (fun k q => h_fv G μ c k q))
def h_ws (G : HGeo) (μ : HMem) : va_W := (List.range h_N).map (fun c => (G.2.2 c, h_cell G μ c))
theorem h_ws_at (G : HGeo) (μ : HMem) {c : Nat} (h : c < h_N) : (h_ws G μ)[c]? = some (G.2.2 c, h_cell G μ c) := by
  simp [h_ws, List.getElem?_map, List.getElem?_range h]
theorem h_ws_len (G : HGeo) (μ : HMem) : (h_ws G μ).length = h_N := by simp [h_ws]
theorem h_ws_inv {G : HGeo} {μ : HMem} {k : Nat} {q : Nat × va_E} (h : (h_ws G μ)[k]? = some q) : k < h_N ∧ q = (G.2.2 k, h_cell G μ k) := by
  have hk : k < h_N := by
    have := (List.getElem?_eq_some_iff.mp h).1
    rwa [h_ws_len] at this
  rw [h_ws_at G μ hk] at h
  exact ⟨hk, (Option.some.inj h).symm⟩
theorem h_ws_set (G : HGeo) (μ μ' : HMem) {c : Nat} (hc : c < h_N) {e : va_E} (he : h_cell G μ' c = e) (ho : ∀ d, d ≠ c → h_cell G μ' d = h_cell G μ d) : (h_ws G μ).set c (G.2.2 c, e) = h_ws G μ' := by
  apply List.ext_getElem?
  intro i
  by_cases hi : i < h_N
  · rw [h_ws_at G μ' hi]
    by_cases hic : i = c
    · subst hic
      rw [List.getElem?_set_self (by rw [h_ws_len]; exact hi), he]
    · rw [List.getElem?_set_ne (fun h => hic h.symm), h_ws_at G μ hi, ho i hic]
  · rw [List.getElem?_eq_none (by rw [List.length_set, h_ws_len]; omega), List.getElem?_eq_none (by rw [h_ws_len]; omega)]
def h_inj (G : HGeo) : Prop := ∀ i j, i < h_N → j < h_N → G.2.2 i = G.2.2 j → i = j
theorem h_D {G : HGeo} (hi : h_inj G) {A : Nat → Prop} (hA : ∀ c, c < h_N → A (G.2.2 c)) (μ : HMem) : va_D A (h_ws G μ) := by
  refine ⟨fun i j p q hp hq h => ?_, fun k q hq => ?_⟩
  · obtain ⟨h1, rfl⟩ := h_ws_inv hp
    obtain ⟨h2, rfl⟩ := h_ws_inv hq
    exact hi i j h1 h2 h
  · obtain ⟨h1, rfl⟩ := h_ws_inv hq
    exact hA k h1
/-- writing -/
def h_wi (μ : HMem) (c i : Nat) (x : Int32) : HMem := (fun a => if a = c then upd (μ.1 a) i x else μ.1 a, μ.2)
def h_wl (μ : HMem) (c i : Nat) (x : Int64) : HMem := (μ.1, fun a => if a = c then vp_updL (μ.2 a) i x else μ.2 a)
theorem h_fv_wi (G : HGeo) (μ : HMem) (c i : Nat) (x : Int32) {d : Nat} (h : d ≠ c) (k : Nat) (q : Nat × Nat) : h_fv G (h_wi μ c i x) d k q = h_fv G μ d k q := by
  simp [h_fv, h_wi, h]
theorem h_fv_wl (G : HGeo) (μ : HMem) (c i : Nat) (x : Int64) {d : Nat} (h : d ≠ c) (k : Nat) (q : Nat × Nat) : h_fv G (h_wl μ c i x) d k q = h_fv G μ d k q := by
  simp [h_fv, h_wl, h]
theorem h_cell_wi (G : HGeo) (μ : HMem) (c i : Nat) (x : Int32) {d : Nat} (h : d ≠ c) : h_cell G (h_wi μ c i x) d = h_cell G μ d := by
  simp only [h_cell, h_fv_wi G μ c i x h]
  simp [h_wi, h]
theorem h_cell_wl (G : HGeo) (μ : HMem) (c i : Nat) (x : Int64) {d : Nat} (h : d ≠ c) : h_cell G (h_wl μ c i x) d = h_cell G μ d := by
  simp only [h_cell, h_fv_wl G μ c i x h]
  simp [h_wl, h]
theorem h_cell_1 (G : HGeo) (μ : HMem) {c : Nat} (h : h_kd c = 1) : h_cell G μ c = .inl (G.2.1 0, h_len c, .inl (μ.1 c)) := by simp [h_cell, h]
theorem h_cell_2 (G : HGeo) (μ : HMem) {c : Nat} (h : h_kd c = 2) : h_cell G μ c = .inl (G.2.1 1, h_len c, .inl (μ.1 c)) := by simp [h_cell, h]
theorem h_cell_3 (G : HGeo) (μ : HMem) {c : Nat} (h : h_kd c = 3) : h_cell G μ c = .inl (G.2.1 2, h_len c, .inl (μ.1 c)) := by simp [h_cell, h]
theorem h_cell_4 (G : HGeo) (μ : HMem) {c : Nat} (h : h_kd c = 4) : h_cell G μ c = .inl (G.2.1 3, h_len c, .inr (.inl (μ.2 c))) := by simp [h_cell, h]
theorem h_cell_5 (G : HGeo) (μ : HMem) {c : Nat} (h : h_kd c = 5) : h_cell G μ c = .inl (G.2.1 4, h_len c, .inr (.inr (.inr (.inr (fun i => some (G.2.2 (h_el c i))))))) := by simp [h_cell, h]
theorem h_cell_6 (G : HGeo) (μ : HMem) {c : Nat} (h : h_kd c = 6) : h_cell G μ c = .inl (G.2.1 5, h_len c, .inr (.inr (.inr (.inr (fun i => some (G.2.2 (h_el c i))))))) := by simp [h_cell, h]
theorem h_cell_o (G : HGeo) (μ : HMem) {c ci : Nat} (h : h_kd c = 10 + ci) : h_cell G μ c = .inr (ci, (h_fl c).mapIdx (fun k q => h_fv G μ c k q)) := by
  have h1 : ¬ h_kd c = 1 := by omega
  have h2 : ¬ h_kd c = 2 := by omega
  have h3 : ¬ h_kd c = 3 := by omega
  have h4 : ¬ h_kd c = 4 := by omega
  have h5 : ¬ h_kd c = 5 := by omega
  have h6 : ¬ h_kd c = 6 := by omega
  have h7 : h_kd c - 10 = ci := by omega
  simp only [h_cell, h1, h2, h3, h4, h5, h6, h7, if_false]
theorem h_set_i (G : HGeo) (μ : HMem) (c k : Nat) (x : Int32) {t : Nat} (hf : (h_fl c)[k]? = some (0, t)) : (h_fl c).mapIdx (fun j q => h_fv G (h_wi μ c k x) c j q) = ((h_fl c).mapIdx (fun j q => h_fv G μ c j q)).set k (.int x) := by
  apply List.ext_getElem?
  intro i
  by_cases hi : i = k
  · subst hi
    have hl := (List.getElem?_eq_some_iff.mp hf).1
    rw [List.getElem?_set_self (by simpa using hl), List.getElem?_mapIdx, hf]
    simp [h_fv, h_wi, upd]
  · rw [List.getElem?_set_ne (fun h => hi h.symm), List.getElem?_mapIdx, List.getElem?_mapIdx]
    cases (h_fl c)[i]? with
    | none => rfl
    | some q => simp [h_fv, h_wi, upd, hi]
theorem h_set_l (G : HGeo) (μ : HMem) (c k : Nat) (x : Int64) {t : Nat} (hf : (h_fl c)[k]? = some (1, t)) : (h_fl c).mapIdx (fun j q => h_fv G (h_wl μ c k x) c j q) = ((h_fl c).mapIdx (fun j q => h_fv G μ c j q)).set k (.long x) := by
  apply List.ext_getElem?
  intro i
  by_cases hi : i = k
  · subst hi
    have hl := (List.getElem?_eq_some_iff.mp hf).1
    rw [List.getElem?_set_self (by simpa using hl), List.getElem?_mapIdx, hf]
    simp [h_fv, h_wl, vp_updL]
  · rw [List.getElem?_set_ne (fun h => hi h.symm), List.getElem?_mapIdx, List.getElem?_mapIdx]
    cases (h_fl c)[i]? with
    | none => rfl
    | some q => simp [h_fv, h_wl, vp_updL, hi]
/-- values with ids in place of addresses -/
def h_tr (G : HGeo) : Value → Value
  | .ref a => .ref (G.2.2 a)
  | v => v
def h_trs (G : HGeo) (st : List Value) : List Value := st.map (h_tr G)
def h_trl (G : HGeo) (l : List (Nat × Value)) : List (Nat × Value) := l.map (fun q => (q.1, h_tr G q.2))
theorem h_tr_cat (G : HGeo) (v : Value) : (h_tr G v).category = v.category := by cases v <;> rfl
theorem h_trs_cat (G : HGeo) (st : List Value) : ((h_trs G st).map fun v => v.category) = st.map fun v => v.category := by
  simp [h_trs, List.map_map, Function.comp_def, h_tr_cat]
theorem h_trl_at (G : HGeo) {l : List (Nat × Value)} {p i : Nat} {v : Value} (h : l[p]? = some (i, v)) : (h_trl G l)[p]? = some (i, h_tr G v) := by simp [h_trl, h]
theorem h_args (G : HGeo) : ∀ (as : List Value) (i : Nat), lv_args i (h_trs G as) = h_trl G (lv_args i as)
  | [], i => by rfl
  | v :: vs, i => by
    have h := h_args G vs
    simp only [h_trs, List.map_cons] at h ⊢
    cases v <;> simp [lv_args, h_trl, h_tr, h, Value.category]
/-- the places of an array may be asked -/
def h_chk {R : Type} (i : Int32) (n : Nat) (F : Option R) : Option R := if i < 0 ∨ n ≤ i.toNatClampNeg then none else F
theorem h_chk_some {R : Type} {i : Int32} {n : Nat} {F : Option R} {r : R} (h : h_chk i n F = some r) : vp_in i n ∧ F = some r := by
  unfold h_chk at h
  split at h
  · cases h
  · rename_i hn
    exact ⟨hn, h⟩
/-- links to private static methods of a nest mate -/
def h_nests : List (String × Nat × MethodName × String) := [("HomBench$Graph", 55, ⟨"HomBench", "has", "(II)Z"⟩, "HomBench"), ("HomBench$Bijections", 47, ⟨"HomBench", "has", "(II)Z"⟩, "HomBench"), ("HomBench$HomSearch", 39, ⟨"HomBench", "has", "(II)Z"⟩, "HomBench"), ("HomBench$Graph", 81, ⟨"HomBench", "limited", "(II)I"⟩, "HomBench"), ("HomBench$Elimination", 51, ⟨"HomBench", "has", "(II)Z"⟩, "HomBench"), ("HomBench$MapSums", 49, ⟨"HomBench", "has", "(II)Z"⟩, "HomBench")]
def h_nw (U : State) : Prop := ∀ q ∈ h_nests, va_Nw (.methodLinkNest q.1 q.2.1 q.2.2.1 q.2.2.2) U
theorem h_nw.warm {s U : State} (hW : s.WarmedH U.vm) (h : h_nw s) : h_nw U := fun q hq => va_Nw.warmM hW (h q hq)
theorem h_nw.same {s U : State} (hv : s.vm = U.vm) (h : h_nw s) : h_nw U := fun q hq => va_Nw.same rfl hv (h q hq)
