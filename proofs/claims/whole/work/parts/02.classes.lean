/-! the classes, their fields, and the words of the tables that travel -/
theorem mw_idx {tbl ws : List Cond} (is : List Nat) (h : ws.map some = is.map (fun i => tbl[i]?)) : ∀ w ∈ ws, w ∈ tbl := by
  intro w hw
  have h1 : some w ∈ ws.map some := List.mem_map.mpr ⟨w, hw, rfl⟩
  rw [h] at h1
  obtain ⟨i, -, hi⟩ := List.mem_map.mp h1
  exact List.mem_of_getElem? hi
def mW : List Cond := lw_tbl.filter goodWord
theorem mW_at (i : Nat) {w : Cond} (h : lw_tbl[i]? = some w) (hg : goodWord w = true) : w ∈ mW := List.mem_filter.mpr ⟨List.mem_of_getElem? h, hg⟩
theorem mW_of {ws : List Cond} (h : ∀ w ∈ ws, w ∈ lw_tbl) (hg : ws.all goodWord = true) : ∀ w ∈ ws, w ∈ mW := fun w hw => List.mem_filter.mpr ⟨h w hw, List.all_eq_true.mp hg w hw⟩
def R_Asker : String := "StuckRecord$Asker"
def F_Asker : u_T := fun k => match k with
  | 0 => ("StuckRecord$Asker", "seen", "[I", true)
  | 1 => ("StuckRecord$Asker", "queue", "[I", true)
  | 2 => ("StuckRecord$Asker", "chain", "[I", true)
  | 3 => ("StuckRecord$Asker", "ways", "[I", true)
  | 4 => ("StuckRecord$Asker", "fewest", "[I", true)
  | 5 => ("StuckRecord$Asker", "shares", "[I", true)
  | _ => ("StuckRecord$Asker", "queued", "I", false)
def y_Asker : Nat → FieldType := fun k => match k with
  | 0 => .array .int
  | 1 => .array .int
  | 2 => .array .int
  | 3 => .array .int
  | 4 => .array .int
  | 5 => .array .int
  | _ => .int
theorem n_Asker : ∀ a, a < 7 → ∀ b, b < 7 → a ≠ b → (F_Asker a).2.1 ≠ (F_Asker b).2.1 := by decide +kernel
theorem y_Asker_ok : ∀ k, k < 7 → parseFieldDescriptor (F_Asker k).2.2.1 = some (y_Asker k) := by decide +kernel
set_option maxRecDepth 100000 in
theorem i_Asker : ∀ w ∈ u_ws R_Asker F_Asker 7, w ∈ mW := mW_of (mw_idx [463, 465, 467, 469, 471, 473, 475] (by decide +kernel)) (by decide +kernel)
def R_Dates : String := "StuckRecord$Dates"
def R_Law : String := "StuckRecord$Law"
def F_Law : u_T := fun k => match k with
  | 0 => ("StuckRecord$Law", "lines", "LStuckRecord$Rows;", true)
  | 1 => ("StuckRecord$Law", "code", "[I", true)
  | 2 => ("StuckRecord$Law", "codeSize", "I", false)
  | _ => ("StuckRecord$Law", "stack", "[I", true)
def y_Law : Nat → FieldType := fun k => match k with
  | 0 => .object "StuckRecord$Rows"
  | 1 => .array .int
  | 2 => .int
  | _ => .array .int
theorem n_Law : ∀ a, a < 4 → ∀ b, b < 4 → a ≠ b → (F_Law a).2.1 ≠ (F_Law b).2.1 := by decide +kernel
theorem y_Law_ok : ∀ k, k < 4 → parseFieldDescriptor (F_Law k).2.2.1 = some (y_Law k) := by decide +kernel
set_option maxRecDepth 100000 in
theorem i_Law : ∀ w ∈ u_ws R_Law F_Law 4, w ∈ mW := mW_of (mw_idx [344, 346, 348, 350] (by decide +kernel)) (by decide +kernel)
def R_Layers : String := "StuckRecord$Layers"
def F_Layers : u_T := fun k => match k with
  | 0 => ("StuckRecord$Layers", "on", "[I", true)
  | _ => ("StuckRecord$Layers", "ahead", "[I", true)
def y_Layers : Nat → FieldType := fun k => match k with
  | 0 => .array .int
  | _ => .array .int
theorem n_Layers : ∀ a, a < 2 → ∀ b, b < 2 → a ≠ b → (F_Layers a).2.1 ≠ (F_Layers b).2.1 := by decide +kernel
theorem y_Layers_ok : ∀ k, k < 2 → parseFieldDescriptor (F_Layers k).2.2.1 = some (y_Layers k) := by decide +kernel
set_option maxRecDepth 100000 in
theorem i_Layers : ∀ w ∈ u_ws R_Layers F_Layers 2, w ∈ mW := mW_of (mw_idx [486, 488] (by decide +kernel)) (by decide +kernel)
def R_Reader : String := "StuckRecord$Reader"
def F_Reader : u_T := fun k => match k with
  | 0 => ("StuckRecord$Reader", "tape", "[I", true)
  | 1 => ("StuckRecord$Reader", "length", "I", false)
  | 2 => ("StuckRecord$Reader", "fault", "I", false)
  | 3 => ("StuckRecord$Reader", "faultPlace", "I", false)
  | 4 => ("StuckRecord$Reader", "found", "LStuckRecord$Rows;", true)
  | 5 => ("StuckRecord$Reader", "code", "[I", true)
  | 6 => ("StuckRecord$Reader", "codeSize", "I", false)
  | 7 => ("StuckRecord$Reader", "sorts", "[I", true)
  | 8 => ("StuckRecord$Reader", "values", "[I", true)
  | 9 => ("StuckRecord$Reader", "places", "[I", true)
  | 10 => ("StuckRecord$Reader", "tokens", "I", false)
  | 11 => ("StuckRecord$Reader", "next", "I", false)
  | _ => ("StuckRecord$Reader", "line", "[I", true)
def y_Reader : Nat → FieldType := fun k => match k with
  | 0 => .array .int
  | 1 => .int
  | 2 => .int
  | 3 => .int
  | 4 => .object "StuckRecord$Rows"
  | 5 => .array .int
  | 6 => .int
  | 7 => .array .int
  | 8 => .array .int
  | 9 => .array .int
  | 10 => .int
  | 11 => .int
  | _ => .array .int
theorem n_Reader : ∀ a, a < 13 → ∀ b, b < 13 → a ≠ b → (F_Reader a).2.1 ≠ (F_Reader b).2.1 := by decide +kernel
theorem y_Reader_ok : ∀ k, k < 13 → parseFieldDescriptor (F_Reader k).2.2.1 = some (y_Reader k) := by decide +kernel
set_option maxRecDepth 100000 in
theorem i_Reader : ∀ w ∈ u_ws R_Reader F_Reader 13, w ∈ mW := mW_of (mw_idx [423, 425, 427, 429, 431, 433, 435, 437, 439, 441, 443, 445, 447] (by decide +kernel)) (by decide +kernel)
def R_Rows : String := "StuckRecord$Rows"
def F_Rows : u_T := fun k => match k with
  | 0 => ("StuckRecord$Rows", "width", "I", true)
  | 1 => ("StuckRecord$Rows", "most", "I", true)
  | 2 => ("StuckRecord$Rows", "cells", "[I", true)
  | _ => ("StuckRecord$Rows", "size", "I", false)
def y_Rows : Nat → FieldType := fun k => match k with
  | 0 => .int
  | 1 => .int
  | 2 => .array .int
  | _ => .int
theorem n_Rows : ∀ a, a < 4 → ∀ b, b < 4 → a ≠ b → (F_Rows a).2.1 ≠ (F_Rows b).2.1 := by decide +kernel
theorem y_Rows_ok : ∀ k, k < 4 → parseFieldDescriptor (F_Rows k).2.2.1 = some (y_Rows k) := by decide +kernel
set_option maxRecDepth 100000 in
theorem i_Rows : ∀ w ∈ u_ws R_Rows F_Rows 4, w ∈ mW := mW_of (mw_idx [199, 201, 203, 205] (by decide +kernel)) (by decide +kernel)
def R_Thing : String := "StuckRecord$Thing"
def F_Thing : u_T := fun k => match k with
  | 0 => ("StuckRecord$Thing", "number", "I", false)
  | 1 => ("StuckRecord$Thing", "kind", "I", false)
  | 2 => ("StuckRecord$Thing", "size", "I", false)
  | 3 => ("StuckRecord$Thing", "life", "I", false)
  | 4 => ("StuckRecord$Thing", "at", "I", false)
  | 5 => ("StuckRecord$Thing", "age", "I", false)
  | _ => ("StuckRecord$Thing", "limbs", "I", false)
def y_Thing : Nat → FieldType := fun k => match k with
  | 0 => .int
  | 1 => .int
  | 2 => .int
  | 3 => .int
  | 4 => .int
  | 5 => .int
  | _ => .int
theorem n_Thing : ∀ a, a < 7 → ∀ b, b < 7 → a ≠ b → (F_Thing a).2.1 ≠ (F_Thing b).2.1 := by decide +kernel
theorem y_Thing_ok : ∀ k, k < 7 → parseFieldDescriptor (F_Thing k).2.2.1 = some (y_Thing k) := by decide +kernel
set_option maxRecDepth 100000 in
theorem i_Thing : ∀ w ∈ u_ws R_Thing F_Thing 7, w ∈ mW := mW_of (mw_idx [248, 250, 252, 254, 256, 258, 260] (by decide +kernel)) (by decide +kernel)
def R_Told : String := "StuckRecord$Told"
def F_Told : u_T := fun k => match k with
  | 0 => ("StuckRecord$Told", "law", "LStuckRecord$Law;", true)
  | 1 => ("StuckRecord$Told", "flight", "LStuckRecord$Rows;", true)
  | 2 => ("StuckRecord$Told", "sky", "LStuckRecord$Rows;", true)
  | 3 => ("StuckRecord$Told", "strips", "LStuckRecord$Rows;", true)
  | 4 => ("StuckRecord$Told", "row", "LStuckRecord$Rows;", true)
  | 5 => ("StuckRecord$Told", "words", "LStuckRecord$Rows;", true)
  | 6 => ("StuckRecord$Told", "looks", "LStuckRecord$Rows;", true)
  | 7 => ("StuckRecord$Told", "veins", "LStuckRecord$Rows;", true)
  | _ => ("StuckRecord$Told", "otherVeins", "LStuckRecord$Rows;", true)
def y_Told : Nat → FieldType := fun k => match k with
  | 0 => .object "StuckRecord$Law"
  | 1 => .object "StuckRecord$Rows"
  | 2 => .object "StuckRecord$Rows"
  | 3 => .object "StuckRecord$Rows"
  | 4 => .object "StuckRecord$Rows"
  | 5 => .object "StuckRecord$Rows"
  | 6 => .object "StuckRecord$Rows"
  | 7 => .object "StuckRecord$Rows"
  | _ => .object "StuckRecord$Rows"
theorem n_Told : ∀ a, a < 9 → ∀ b, b < 9 → a ≠ b → (F_Told a).2.1 ≠ (F_Told b).2.1 := by decide +kernel
theorem y_Told_ok : ∀ k, k < 9 → parseFieldDescriptor (F_Told k).2.2.1 = some (y_Told k) := by decide +kernel
set_option maxRecDepth 100000 in
theorem i_Told : ∀ w ∈ u_ws R_Told F_Told 9, w ∈ mW := mW_of (mw_idx [376, 378, 380, 382, 384, 386, 388, 390, 392] (by decide +kernel)) (by decide +kernel)
def R_Wings : String := "StuckRecord$Wings"
def F_Wings : u_T := fun k => match k with
  | 0 => ("StuckRecord$Wings", "here", "[I", true)
  | 1 => ("StuckRecord$Wings", "there", "[I", true)
  | _ => ("StuckRecord$Wings", "became", "[I", true)
def y_Wings : Nat → FieldType := fun k => match k with
  | 0 => .array .int
  | 1 => .array .int
  | _ => .array .int
theorem n_Wings : ∀ a, a < 3 → ∀ b, b < 3 → a ≠ b → (F_Wings a).2.1 ≠ (F_Wings b).2.1 := by decide +kernel
theorem y_Wings_ok : ∀ k, k < 3 → parseFieldDescriptor (F_Wings k).2.2.1 = some (y_Wings k) := by decide +kernel
set_option maxRecDepth 100000 in
theorem i_Wings : ∀ w ∈ u_ws R_Wings F_Wings 3, w ∈ mW := mW_of (mw_idx [500, 502, 504] (by decide +kernel)) (by decide +kernel)
def R_World : String := "StuckRecord$World"
def F_World : u_T := fun k => match k with
  | 0 => ("StuckRecord$World", "glue", "[I", true)
  | 1 => ("StuckRecord$World", "legs", "[I", true)
  | 2 => ("StuckRecord$World", "numberAt", "[I", true)
  | 3 => ("StuckRecord$World", "things", "[LStuckRecord$Thing;", true)
  | 4 => ("StuckRecord$World", "book", "LStuckRecord$Rows;", true)
  | 5 => ("StuckRecord$World", "count", "I", false)
  | 6 => ("StuckRecord$World", "state", "I", false)
  | 7 => ("StuckRecord$World", "wind", "I", false)
  | 8 => ("StuckRecord$World", "heat", "I", false)
  | 9 => ("StuckRecord$World", "came", "I", false)
  | 10 => ("StuckRecord$World", "freed", "I", false)
  | 11 => ("StuckRecord$World", "read", "I", false)
  | _ => ("StuckRecord$World", "day", "I", false)
def y_World : Nat → FieldType := fun k => match k with
  | 0 => .array .int
  | 1 => .array .int
  | 2 => .array .int
  | 3 => .array (.object "StuckRecord$Thing")
  | 4 => .object "StuckRecord$Rows"
  | 5 => .int
  | 6 => .int
  | 7 => .int
  | 8 => .int
  | 9 => .int
  | 10 => .int
  | 11 => .int
  | _ => .int
theorem n_World : ∀ a, a < 13 → ∀ b, b < 13 → a ≠ b → (F_World a).2.1 ≠ (F_World b).2.1 := by decide +kernel
theorem y_World_ok : ∀ k, k < 13 → parseFieldDescriptor (F_World k).2.2.1 = some (y_World k) := by decide +kernel
set_option maxRecDepth 100000 in
theorem i_World : ∀ w ∈ u_ws R_World F_World 13, w ∈ mW := mW_of (mw_idx [295, 297, 299, 301, 303, 305, 307, 309, 311, 313, 315, 317, 319] (by decide +kernel)) (by decide +kernel)
def R_Rec : String := "StuckRecord"
def F_Rec : u_T := fun k => match k with
  | 0 => ("StuckRecord", "world", "LStuckRecord$World;", true)
  | 1 => ("StuckRecord", "told", "LStuckRecord$Told;", true)
  | 2 => ("StuckRecord", "imageWorld", "LStuckRecord$World;", true)
  | 3 => ("StuckRecord", "imageTold", "LStuckRecord$Told;", true)
  | 4 => ("StuckRecord", "imageTaken", "Z", false)
  | 5 => ("StuckRecord", "past", "[LStuckRecord$World;", true)
  | 6 => ("StuckRecord", "pastEnd", "I", false)
  | 7 => ("StuckRecord", "pastSize", "I", false)
  | 8 => ("StuckRecord", "reader", "LStuckRecord$Reader;", true)
  | 9 => ("StuckRecord", "dream", "LStuckRecord$World;", true)
  | 10 => ("StuckRecord", "asker", "LStuckRecord$Asker;", true)
  | 11 => ("StuckRecord", "layers", "LStuckRecord$Layers;", true)
  | _ => ("StuckRecord", "wingPair", "LStuckRecord$Wings;", true)
def y_Rec : Nat → FieldType := fun k => match k with
  | 0 => .object "StuckRecord$World"
  | 1 => .object "StuckRecord$Told"
  | 2 => .object "StuckRecord$World"
  | 3 => .object "StuckRecord$Told"
  | 4 => .boolean
  | 5 => .array (.object "StuckRecord$World")
  | 6 => .int
  | 7 => .int
  | 8 => .object "StuckRecord$Reader"
  | 9 => .object "StuckRecord$World"
  | 10 => .object "StuckRecord$Asker"
  | 11 => .object "StuckRecord$Layers"
  | _ => .object "StuckRecord$Wings"
theorem n_Rec : ∀ a, a < 13 → ∀ b, b < 13 → a ≠ b → (F_Rec a).2.1 ≠ (F_Rec b).2.1 := by decide +kernel
theorem y_Rec_ok : ∀ k, k < 13 → parseFieldDescriptor (F_Rec k).2.2.1 = some (y_Rec k) := by decide +kernel
set_option maxRecDepth 100000 in
theorem i_Rec : ∀ w ∈ u_ws R_Rec F_Rec 13, w ∈ mW := mW_of (mw_idx [520, 522, 524, 526, 528, 530, 532, 534, 536, 538, 540, 542, 544] (by decide +kernel)) (by decide +kernel)
def R_Mod : String := "StuckRecordModel"
def F_Mod : u_T := fun k => match k with
  | 0 => ("StuckRecordModel", "told", "I", false)
  | 1 => ("StuckRecordModel", "now", "[I", true)
  | 2 => ("StuckRecordModel", "rows", "[I", true)
  | 3 => ("StuckRecordModel", "undoable", "I", false)
  | 4 => ("StuckRecordModel", "waiting", "[I", true)
  | 5 => ("StuckRecordModel", "isThought", "Z", false)
  | 6 => ("StuckRecordModel", "book", "[I", true)
  | 7 => ("StuckRecordModel", "tape", "[I", true)
  | 8 => ("StuckRecordModel", "taped", "I", false)
  | 9 => ("StuckRecordModel", "spot", "I", false)
  | 10 => ("StuckRecordModel", "from", "I", false)
  | 11 => ("StuckRecordModel", "token", "I", false)
  | 12 => ("StuckRecordModel", "value", "I", false)
  | 13 => ("StuckRecordModel", "words", "[I", true)
  | 14 => ("StuckRecordModel", "lineMany", "[I", true)
  | 15 => ("StuckRecordModel", "lineWord", "[I", true)
  | 16 => ("StuckRecordModel", "lineFrom", "[I", true)
  | 17 => ("StuckRecordModel", "lineWhen", "[I", true)
  | 18 => ("StuckRecordModel", "lineTo", "[I", true)
  | 19 => ("StuckRecordModel", "op", "[I", true)
  | 20 => ("StuckRecordModel", "arg", "[I", true)
  | 21 => ("StuckRecordModel", "which", "I", false)
  | 22 => ("StuckRecordModel", "codes", "I", false)
  | 23 => ("StuckRecordModel", "open", "I", false)
  | 24 => ("StuckRecordModel", "pending", "[I", true)
  | 25 => ("StuckRecordModel", "pendings", "I", false)
  | 26 => ("StuckRecordModel", "readFault", "I", false)
  | 27 => ("StuckRecordModel", "readPlace", "I", false)
  | 28 => ("StuckRecordModel", "faultKind", "I", false)
  | 29 => ("StuckRecordModel", "faultPlace", "I", false)
  | 30 => ("StuckRecordModel", "flightMany", "I", false)
  | 31 => ("StuckRecordModel", "flights", "[I", true)
  | 32 => ("StuckRecordModel", "deedMany", "I", false)
  | 33 => ("StuckRecordModel", "deeds", "[I", true)
  | 34 => ("StuckRecordModel", "stripMany", "I", false)
  | 35 => ("StuckRecordModel", "liesOn", "[I", true)
  | 36 => ("StuckRecordModel", "asked", "[I", true)
  | 37 => ("StuckRecordModel", "stack", "[I", true)
  | 38 => ("StuckRecordModel", "marks", "[I", true)
  | 39 => ("StuckRecordModel", "saidMany", "I", false)
  | 40 => ("StuckRecordModel", "said", "[I", true)
  | 41 => ("StuckRecordModel", "waysTo", "[I", true)
  | 42 => ("StuckRecordModel", "wordMany", "I", false)
  | 43 => ("StuckRecordModel", "wordLegs", "[I", true)
  | 44 => ("StuckRecordModel", "wordWorth", "[I", true)
  | 45 => ("StuckRecordModel", "sightMany", "I", false)
  | 46 => ("StuckRecordModel", "sights", "[I", true)
  | 47 => ("StuckRecordModel", "veinMany", "[I", true)
  | 48 => ("StuckRecordModel", "veins", "[I", true)
  | 49 => ("StuckRecordModel", "numbering", "[I", true)
  | 50 => ("StuckRecordModel", "canBe", "[I", true)
  | 51 => ("StuckRecordModel", "fingers", "[I", true)
  | 52 => ("StuckRecordModel", "isTaking", "Z", false)
  | 53 => ("StuckRecordModel", "hasImage", "Z", false)
  | 54 => ("StuckRecordModel", "keptAt", "I", false)
  | _ => ("StuckRecordModel", "images", "[I", true)
def y_Mod : Nat → FieldType := fun k => match k with
  | 0 => .int
  | 1 => .array .int
  | 2 => .array .int
  | 3 => .int
  | 4 => .array .int
  | 5 => .boolean
  | 6 => .array .int
  | 7 => .array .int
  | 8 => .int
  | 9 => .int
  | 10 => .int
  | 11 => .int
  | 12 => .int
  | 13 => .array .int
  | 14 => .array .int
  | 15 => .array .int
  | 16 => .array .int
  | 17 => .array .int
  | 18 => .array .int
  | 19 => .array .int
  | 20 => .array .int
  | 21 => .int
  | 22 => .int
  | 23 => .int
  | 24 => .array .int
  | 25 => .int
  | 26 => .int
  | 27 => .int
  | 28 => .int
  | 29 => .int
  | 30 => .int
  | 31 => .array .int
  | 32 => .int
  | 33 => .array .int
  | 34 => .int
  | 35 => .array .int
  | 36 => .array .int
  | 37 => .array .int
  | 38 => .array .int
  | 39 => .int
  | 40 => .array .int
  | 41 => .array .int
  | 42 => .int
  | 43 => .array .int
  | 44 => .array .int
  | 45 => .int
  | 46 => .array .int
  | 47 => .array .int
  | 48 => .array .int
  | 49 => .array .int
  | 50 => .array .int
  | 51 => .array .int
  | 52 => .boolean
  | 53 => .boolean
  | 54 => .int
  | _ => .array .int
theorem n_Mod : ∀ a, a < 56 → ∀ b, b < 56 → a ≠ b → (F_Mod a).2.1 ≠ (F_Mod b).2.1 := by decide +kernel
theorem y_Mod_ok : ∀ k, k < 56 → parseFieldDescriptor (F_Mod k).2.2.1 = some (y_Mod k) := by decide +kernel
set_option maxRecDepth 100000 in
theorem i_Mod : ∀ w ∈ u_ws R_Mod F_Mod 56, w ∈ mW := mW_of (mw_idx [1312, 1314, 1316, 1318, 1320, 1322, 1324, 1326, 1328, 1330, 1332, 1334, 1336, 1338, 1340, 1342, 1344, 1346, 1348, 1350, 1352, 1354, 1356, 1358, 1360, 1362, 1364, 1366, 1368, 1370, 1372, 1374, 1376, 1378, 1380, 1382, 1384, 1386, 1388, 1390, 1392, 1394, 1396, 1398, 1400, 1402, 1404, 1406, 1408, 1410, 1412, 1414, 1416, 1418, 1420, 1422] (by decide +kernel)) (by decide +kernel)
abbrev mcl : List vw_C := [(R_Asker, F_Asker, 7), (R_Law, F_Law, 4), (R_Layers, F_Layers, 2), (R_Reader, F_Reader, 13), (R_Rows, F_Rows, 4), (R_Thing, F_Thing, 7), (R_Told, F_Told, 9), (R_Wings, F_Wings, 3), (R_World, F_World, 13), (R_Rec, F_Rec, 13), (R_Mod, F_Mod, 56)]
def mNest : List Cond := [(Jvm.Cond.methodLinkNest "StuckRecord$World" (67 : Nat) ({ cls := "StuckRecord$Thing", name := "<init>", desc := "()V" } : Jvm.MethodName) "StuckRecord"), (Jvm.Cond.methodLinkNest "StuckRecord" (18 : Nat) ({ cls := "StuckRecord$Told", name := "<init>", desc := "()V" } : Jvm.MethodName) "StuckRecord"), (Jvm.Cond.methodLinkNest "StuckRecord$Told" (11 : Nat) ({ cls := "StuckRecord$Law", name := "<init>", desc := "()V" } : Jvm.MethodName) "StuckRecord"), (Jvm.Cond.methodLinkNest "StuckRecord" (46 : Nat) ({ cls := "StuckRecord$Reader", name := "<init>", desc := "()V" } : Jvm.MethodName) "StuckRecord"), (Jvm.Cond.methodLinkNest "StuckRecord" (56 : Nat) ({ cls := "StuckRecord$Asker", name := "<init>", desc := "()V" } : Jvm.MethodName) "StuckRecord"), (Jvm.Cond.methodLinkNest "StuckRecord" (63 : Nat) ({ cls := "StuckRecord$Layers", name := "<init>", desc := "()V" } : Jvm.MethodName) "StuckRecord"), (Jvm.Cond.methodLinkNest "StuckRecord" (70 : Nat) ({ cls := "StuckRecord$Wings", name := "<init>", desc := "()V" } : Jvm.MethodName) "StuckRecord"), (Jvm.Cond.methodLinkNest "StuckRecord$Dates" (9 : Nat) ({ cls := "StuckRecord", name := "within", desc := "(III)Z" } : Jvm.MethodName) "StuckRecord")]
set_option maxRecDepth 100000 in
theorem mNest_in : ∀ w ∈ mNest, w ∈ lw_tbl := mw_idx [213, 324, 330, 398, 452, 480, 493, 1161] (by decide +kernel)
