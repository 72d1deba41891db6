/-! names: the tables that may be carried into a call, the classes with their fields, the methods -/
def wsG : List Cond := lw_tbl.filter goodWord
theorem mem_g {w : Cond} (i : Nat) (h : lw_tbl[i]? = some w) (hg : goodWord w = true) : w ∈ wsG := List.mem_filter.mpr ⟨List.mem_of_getElem? h, hg⟩
theorem mem_gs {ws : List Cond} (ps : List Nat) (hp : ws = ps.filterMap (fun i => lw_tbl[i]?)) (h : ws.all goodWord = true) : ∀ w ∈ ws, w ∈ wsG := by
  intro w hw
  have h1 := List.all_eq_true.mp h w hw
  rw [hp] at hw
  obtain ⟨i, -, hi⟩ := List.mem_filterMap.mp hw
  exact mem_g i hi h1
def tch (k : Nat) : List Cond := match k with
  | 0 => tables_1_1
  | 1 => tables_1_2
  | 2 => tables_1_3
  | 3 => tables_1_4
  | 4 => tables_1_5
  | 5 => tables_1_6
  | _ => tables_1_7
theorem tch_in (k : Nat) {w : Cond} (h : w ∈ tch k) : w ∈ lw_tbl := by
  refine List.mem_append_right _ ?_
  simp only [tables_1, List.mem_append]
  unfold tch at h
  split at h
  · exact Or.inl h
  · exact Or.inr (Or.inl h)
  · exact Or.inr (Or.inr (Or.inl h))
  · exact Or.inr (Or.inr (Or.inr (Or.inl h)))
  · exact Or.inr (Or.inr (Or.inr (Or.inr (Or.inl h))))
  · exact Or.inr (Or.inr (Or.inr (Or.inr (Or.inr (Or.inl h)))))
  · exact Or.inr (Or.inr (Or.inr (Or.inr (Or.inr (Or.inr h)))))
theorem mem_t {w : Cond} (k j : Nat) (h : (tch k)[j]? = some w) (hg : goodWord w = true) : w ∈ wsG := List.mem_filter.mpr ⟨tch_in k (List.mem_of_getElem? h), hg⟩
def isNest (w : Cond) : Bool := match w with
  | .fieldLinkNest _ _ _ _ _ _ => true
  | .methodLinkNest _ _ _ _ => true
  | _ => false
def nestW : List Cond := lw_tbl.filter isNest
theorem mem_n {w : Cond} (k j : Nat) (h : (tch k)[j]? = some w) (hg : isNest w = true) : w ∈ nestW := List.mem_filter.mpr ⟨tch_in k (List.mem_of_getElem? h), hg⟩
def cN0 : String := "PegWatch$Board"
def cT0 : u_T := fun k => match k with
  | 0 => ("PegWatch$Board", "watches", "[LPegWatch$Watch;", true)
  | 1 => ("PegWatch$Board", "size", "I", false)
  | _ => ("PegWatch$Board", "miss", "I", false)
def ct0 : Nat → FieldType := fun k => match k with
  | 0 => .array (.object "PegWatch$Watch")
  | 1 => .int
  | _ => .int
theorem cw0 : ∀ w ∈ u_ws cN0 cT0 3, w ∈ wsG := mem_gs [162, 164, 166] (by decide +kernel) (by decide +kernel)
theorem cm0 : ∀ a, a < 3 → ∀ b, b < 3 → a ≠ b → (cT0 a).2.1 ≠ (cT0 b).2.1 := by decide +kernel
theorem cy0 : ∀ k, k < 3 → parseFieldDescriptor (cT0 k).2.2.1 = some (ct0 k) := by decide +kernel
def cN1 : String := "PegWatch$Chart"
def cT1 : u_T := fun k => match k with
  | 0 => ("PegWatch$Chart", "depths", "[I", true)
  | 1 => ("PegWatch$Chart", "open", "LPegWatch$Patch;", true)
  | 2 => ("PegWatch$Chart", "land", "LPegWatch$Patch;", true)
  | 3 => ("PegWatch$Chart", "weedy", "LPegWatch$Patch;", true)
  | 4 => ("PegWatch$Chart", "width", "I", false)
  | 5 => ("PegWatch$Chart", "height", "I", false)
  | 6 => ("PegWatch$Chart", "fromEast", "I", false)
  | 7 => ("PegWatch$Chart", "toEast", "I", false)
  | 8 => ("PegWatch$Chart", "fromNorth", "I", false)
  | _ => ("PegWatch$Chart", "toNorth", "I", false)
def ct1 : Nat → FieldType := fun k => match k with
  | 0 => .array .int
  | 1 => .object "PegWatch$Patch"
  | 2 => .object "PegWatch$Patch"
  | 3 => .object "PegWatch$Patch"
  | 4 => .int
  | 5 => .int
  | 6 => .int
  | 7 => .int
  | 8 => .int
  | _ => .int
theorem cw1 : ∀ w ∈ u_ws cN1 cT1 10, w ∈ wsG := mem_gs [239, 241, 243, 245, 247, 249, 251, 253, 255, 257] (by decide +kernel) (by decide +kernel)
theorem cm1 : ∀ a, a < 10 → ∀ b, b < 10 → a ≠ b → (cT1 a).2.1 ≠ (cT1 b).2.1 := by decide +kernel
theorem cy1 : ∀ k, k < 10 → parseFieldDescriptor (cT1 k).2.2.1 = some (ct1 k) := by decide +kernel
def cN2 : String := "PegWatch$Board"
def cT2 : u_T := fun k => match k with
  | 0 => ("PegWatch$Board", "watches", "[LPegWatch$Watch;", true)
  | 1 => ("PegWatch$Board", "size", "I", false)
  | _ => ("PegWatch$Board", "miss", "I", false)
def ct2 : Nat → FieldType := fun k => match k with
  | 0 => .array (.object "PegWatch$Watch")
  | 1 => .int
  | _ => .int
theorem cw2 : ∀ w ∈ u_ws cN2 cT2 3, w ∈ wsG := mem_gs [162, 164, 166] (by decide +kernel) (by decide +kernel)
theorem cm2 : ∀ a, a < 3 → ∀ b, b < 3 → a ≠ b → (cT2 a).2.1 ≠ (cT2 b).2.1 := by decide +kernel
theorem cy2 : ∀ k, k < 3 → parseFieldDescriptor (cT2 k).2.2.1 = some (ct2 k) := by decide +kernel
def cN3 : String := "PegWatch$Log"
def cT3 : u_T := fun k => match k with
  | 0 => ("PegWatch$Log", "rows", "[LPegWatch$Row;", true)
  | 1 => ("PegWatch$Log", "size", "I", false)
  | 2 => ("PegWatch$Log", "startX", "I", false)
  | 3 => ("PegWatch$Log", "startY", "I", false)
  | _ => ("PegWatch$Log", "startR", "I", false)
def ct3 : Nat → FieldType := fun k => match k with
  | 0 => .array (.object "PegWatch$Row")
  | 1 => .int
  | 2 => .int
  | 3 => .int
  | _ => .int
theorem cw3 : ∀ w ∈ u_ws cN3 cT3 5, w ∈ wsG := mem_gs [353, 355, 357, 359, 361] (by decide +kernel) (by decide +kernel)
theorem cm3 : ∀ a, a < 5 → ∀ b, b < 5 → a ≠ b → (cT3 a).2.1 ≠ (cT3 b).2.1 := by decide +kernel
theorem cy3 : ∀ k, k < 5 → parseFieldDescriptor (cT3 k).2.2.1 = some (ct3 k) := by decide +kernel
def cN4 : String := "PegWatch$Patch"
def cT4 : u_T := fun k => match k with
  | _ => ("PegWatch$Patch", "bits", "[I", true)
def ct4 : Nat → FieldType := fun k => match k with
  | _ => .array .int
theorem cw4 : ∀ w ∈ u_ws cN4 cT4 1, w ∈ wsG := mem_gs [183] (by decide +kernel) (by decide +kernel)
theorem cm4 : ∀ a, a < 1 → ∀ b, b < 1 → a ≠ b → (cT4 a).2.1 ≠ (cT4 b).2.1 := by decide +kernel
theorem cy4 : ∀ k, k < 1 → parseFieldDescriptor (cT4 k).2.2.1 = some (ct4 k) := by decide +kernel
def cN5 : String := "PegWatch$Reach"
def cT5 : u_T := fun k => match k with
  | 0 => ("PegWatch$Reach", "west", "I", false)
  | 1 => ("PegWatch$Reach", "east", "I", false)
  | 2 => ("PegWatch$Reach", "south", "I", false)
  | _ => ("PegWatch$Reach", "north", "I", false)
def ct5 : Nat → FieldType := fun k => match k with
  | 0 => .int
  | 1 => .int
  | 2 => .int
  | _ => .int
theorem cw5 : ∀ w ∈ u_ws cN5 cT5 4, w ∈ wsG := mem_gs [291, 293, 295, 297] (by decide +kernel) (by decide +kernel)
theorem cm5 : ∀ a, a < 4 → ∀ b, b < 4 → a ≠ b → (cT5 a).2.1 ≠ (cT5 b).2.1 := by decide +kernel
theorem cy5 : ∀ k, k < 4 → parseFieldDescriptor (cT5 k).2.2.1 = some (ct5 k) := by decide +kernel
def cN6 : String := "PegWatch$Reckoning"
def cT6 : u_T := fun k => match k with
  | 0 => ("PegWatch$Reckoning", "chart", "LPegWatch$Chart;", true)
  | 1 => ("PegWatch$Reckoning", "board", "LPegWatch$Board;", true)
  | 2 => ("PegWatch$Reckoning", "log", "LPegWatch$Log;", true)
  | 3 => ("PegWatch$Reckoning", "ahead", "[LPegWatch$Patch;", true)
  | 4 => ("PegWatch$Reckoning", "back", "[LPegWatch$Patch;", true)
  | 5 => ("PegWatch$Reckoning", "here", "LPegWatch$Patch;", true)
  | 6 => ("PegWatch$Reckoning", "without", "LPegWatch$Patch;", true)
  | 7 => ("PegWatch$Reckoning", "withoutTwo", "LPegWatch$Patch;", true)
  | 8 => ("PegWatch$Reckoning", "found", "[I", true)
  | _ => ("PegWatch$Reckoning", "foundSize", "I", false)
def ct6 : Nat → FieldType := fun k => match k with
  | 0 => .object "PegWatch$Chart"
  | 1 => .object "PegWatch$Board"
  | 2 => .object "PegWatch$Log"
  | 3 => .array (.object "PegWatch$Patch")
  | 4 => .array (.object "PegWatch$Patch")
  | 5 => .object "PegWatch$Patch"
  | 6 => .object "PegWatch$Patch"
  | 7 => .object "PegWatch$Patch"
  | 8 => .array .int
  | _ => .int
theorem cw6 : ∀ w ∈ u_ws cN6 cT6 10, w ∈ wsG := mem_gs [385, 387, 389, 391, 393, 395, 397, 399, 401, 403] (by decide +kernel) (by decide +kernel)
theorem cm6 : ∀ a, a < 10 → ∀ b, b < 10 → a ≠ b → (cT6 a).2.1 ≠ (cT6 b).2.1 := by decide +kernel
theorem cy6 : ∀ k, k < 10 → parseFieldDescriptor (cT6 k).2.2.1 = some (ct6 k) := by decide +kernel
def cN7 : String := "PegWatch$Row"
def cT7 : u_T := fun k => match k with
  | 0 => ("PegWatch$Row", "counted", "LPegWatch$Reach;", true)
  | 1 => ("PegWatch$Row", "uncounted", "LPegWatch$Reach;", true)
  | 2 => ("PegWatch$Row", "staying", "LPegWatch$Patch;", true)
  | 3 => ("PegWatch$Row", "watch", "I", false)
  | 4 => ("PegWatch$Row", "sort", "I", false)
  | 5 => ("PegWatch$Row", "a", "I", false)
  | 6 => ("PegWatch$Row", "b", "I", false)
  | _ => ("PegWatch$Row", "counts", "Z", false)
def ct7 : Nat → FieldType := fun k => match k with
  | 0 => .object "PegWatch$Reach"
  | 1 => .object "PegWatch$Reach"
  | 2 => .object "PegWatch$Patch"
  | 3 => .int
  | 4 => .int
  | 5 => .int
  | 6 => .int
  | _ => .boolean
theorem cw7 : ∀ w ∈ u_ws cN7 cT7 8, w ∈ wsG := mem_gs [320, 322, 324, 326, 328, 330, 332, 334] (by decide +kernel) (by decide +kernel)
theorem cm7 : ∀ a, a < 8 → ∀ b, b < 8 → a ≠ b → (cT7 a).2.1 ≠ (cT7 b).2.1 := by decide +kernel
theorem cy7 : ∀ k, k < 8 → parseFieldDescriptor (cT7 k).2.2.1 = some (ct7 k) := by decide +kernel
def cN8 : String := "PegWatch$Voyage"
def cT8 : u_T := fun k => match k with
  | 0 => ("PegWatch$Voyage", "chart", "LPegWatch$Chart;", true)
  | 1 => ("PegWatch$Voyage", "near", "LPegWatch$Patch;", true)
  | 2 => ("PegWatch$Voyage", "left", "LPegWatch$Patch;", true)
  | 3 => ("PegWatch$Voyage", "reach", "LPegWatch$Reach;", true)
  | 4 => ("PegWatch$Voyage", "knots", "I", false)
  | _ => ("PegWatch$Voyage", "hour", "I", false)
def ct8 : Nat → FieldType := fun k => match k with
  | 0 => .object "PegWatch$Chart"
  | 1 => .object "PegWatch$Patch"
  | 2 => .object "PegWatch$Patch"
  | 3 => .object "PegWatch$Reach"
  | 4 => .int
  | _ => .int
theorem cw8 : ∀ w ∈ u_ws cN8 cT8 6, w ∈ wsG := mem_gs [422, 424, 426, 428, 430, 432] (by decide +kernel) (by decide +kernel)
theorem cm8 : ∀ a, a < 6 → ∀ b, b < 6 → a ≠ b → (cT8 a).2.1 ≠ (cT8 b).2.1 := by decide +kernel
theorem cy8 : ∀ k, k < 6 → parseFieldDescriptor (cT8 k).2.2.1 = some (ct8 k) := by decide +kernel
def cN9 : String := "PegWatch$Watch"
def cT9 : u_T := fun k => match k with
  | 0 => ("PegWatch$Watch", "pegs", "[I", true)
  | 1 => ("PegWatch$Watch", "knots", "[I", true)
  | 2 => ("PegWatch$Watch", "eastParts", "[I", true)
  | 3 => ("PegWatch$Watch", "northParts", "[I", true)
  | 4 => ("PegWatch$Watch", "spreadOfLost", "I", false)
  | 5 => ("PegWatch$Watch", "spreadIfAllLost", "I", false)
  | 6 => ("PegWatch$Watch", "helmsman", "I", false)
  | 7 => ("PegWatch$Watch", "wind", "I", false)
  | _ => ("PegWatch$Watch", "sail", "I", false)
def ct9 : Nat → FieldType := fun k => match k with
  | 0 => .array .int
  | 1 => .array .int
  | 2 => .array .int
  | 3 => .array .int
  | 4 => .int
  | 5 => .int
  | 6 => .int
  | 7 => .int
  | _ => .int
theorem cw9 : ∀ w ∈ u_ws cN9 cT9 9, w ∈ wsG := mem_gs [135, 137, 139, 141, 143, 145, 147, 149, 151] (by decide +kernel) (by decide +kernel)
theorem cm9 : ∀ a, a < 9 → ∀ b, b < 9 → a ≠ b → (cT9 a).2.1 ≠ (cT9 b).2.1 := by decide +kernel
theorem cy9 : ∀ k, k < 9 → parseFieldDescriptor (cT9 k).2.2.1 = some (ct9 k) := by decide +kernel
def cN10 : String := "PegWatch$Words"
def cT10 : u_T := fun k => match k with
  | 0 => ("PegWatch$Words", "numbers", "[I", true)
  | 1 => ("PegWatch$Words", "meanings", "[I", true)
  | _ => ("PegWatch$Words", "length", "I", false)
def ct10 : Nat → FieldType := fun k => match k with
  | 0 => .array .int
  | 1 => .array .int
  | _ => .int
theorem cw10 : ∀ w ∈ u_ws cN10 cT10 3, w ∈ wsG := mem_gs [98, 100, 102] (by decide +kernel) (by decide +kernel)
theorem cm10 : ∀ a, a < 3 → ∀ b, b < 3 → a ≠ b → (cT10 a).2.1 ≠ (cT10 b).2.1 := by decide +kernel
theorem cy10 : ∀ k, k < 3 → parseFieldDescriptor (cT10 k).2.2.1 = some (ct10 k) := by decide +kernel
def cN11 : String := "PegWatch"
def cT11 : u_T := fun k => match k with
  | 0 => ("PegWatch", "words", "LPegWatch$Words;", true)
  | 1 => ("PegWatch", "board", "LPegWatch$Board;", true)
  | 2 => ("PegWatch", "chart", "LPegWatch$Chart;", true)
  | 3 => ("PegWatch", "log", "LPegWatch$Log;", true)
  | 4 => ("PegWatch", "reckoning", "LPegWatch$Reckoning;", true)
  | 5 => ("PegWatch", "voyage", "LPegWatch$Voyage;", true)
  | 6 => ("PegWatch", "landfallsDone", "I", false)
  | 7 => ("PegWatch", "coursesDone", "I", false)
  | _ => ("PegWatch", "blamesDone", "I", false)
def ct11 : Nat → FieldType := fun k => match k with
  | 0 => .object "PegWatch$Words"
  | 1 => .object "PegWatch$Board"
  | 2 => .object "PegWatch$Chart"
  | 3 => .object "PegWatch$Log"
  | 4 => .object "PegWatch$Reckoning"
  | 5 => .object "PegWatch$Voyage"
  | 6 => .int
  | 7 => .int
  | _ => .int
theorem cw11 : ∀ w ∈ u_ws cN11 cT11 9, w ∈ wsG := mem_gs [444, 446, 448, 450, 452, 454, 456, 458, 460] (by decide +kernel) (by decide +kernel)
theorem cm11 : ∀ a, a < 9 → ∀ b, b < 9 → a ≠ b → (cT11 a).2.1 ≠ (cT11 b).2.1 := by decide +kernel
theorem cy11 : ∀ k, k < 9 → parseFieldDescriptor (cT11 k).2.2.1 = some (ct11 k) := by decide +kernel
def cN12 : String := "PegWatchModel"
def cT12 : u_T := fun k => match k with
  | 0 => ("PegWatchModel", "names", "[I", true)
  | 1 => ("PegWatchModel", "thousandths", "[I", true)
  | 2 => ("PegWatchModel", "words", "I", false)
  | 3 => ("PegWatchModel", "wordOf", "[I", true)
  | 4 => ("PegWatchModel", "watches", "I", false)
  | 5 => ("PegWatchModel", "pegs", "[I", true)
  | 6 => ("PegWatchModel", "knotsOf", "[I", true)
  | 7 => ("PegWatchModel", "sets", "[I", true)
  | 8 => ("PegWatchModel", "miss", "I", false)
  | 9 => ("PegWatchModel", "wide", "I", false)
  | 10 => ("PegWatchModel", "high", "I", false)
  | 11 => ("PegWatchModel", "depths", "[I", true)
  | 12 => ("PegWatchModel", "isWeed", "[Z", true)
  | 13 => ("PegWatchModel", "eastFrom", "I", false)
  | 14 => ("PegWatchModel", "eastTo", "I", false)
  | 15 => ("PegWatchModel", "northFrom", "I", false)
  | 16 => ("PegWatchModel", "northTo", "I", false)
  | 17 => ("PegWatchModel", "startX", "I", false)
  | 18 => ("PegWatchModel", "startY", "I", false)
  | 19 => ("PegWatchModel", "startR", "I", false)
  | 20 => ("PegWatchModel", "rows", "I", false)
  | 21 => ("PegWatchModel", "rowOf", "[I", true)
  | 22 => ("PegWatchModel", "fitsDone", "I", false)
  | 23 => ("PegWatchModel", "coursesDone", "I", false)
  | 24 => ("PegWatchModel", "blamesDone", "I", false)
  | 25 => ("PegWatchModel", "waits", "[I", true)
  | 26 => ("PegWatchModel", "east", "I", false)
  | 27 => ("PegWatchModel", "north", "I", false)
  | 28 => ("PegWatchModel", "spread", "I", false)
  | 29 => ("PegWatchModel", "held", "[Z", true)
  | 30 => ("PegWatchModel", "between", "[Z", true)
  | 31 => ("PegWatchModel", "history", "[Z", true)
  | 32 => ("PegWatchModel", "nearOf", "[I", true)
  | 33 => ("PegWatchModel", "blamedOne", "I", false)
  | _ => ("PegWatchModel", "h", "J", false)
def ct12 : Nat → FieldType := fun k => match k with
  | 0 => .array .int
  | 1 => .array .int
  | 2 => .int
  | 3 => .array .int
  | 4 => .int
  | 5 => .array .int
  | 6 => .array .int
  | 7 => .array .int
  | 8 => .int
  | 9 => .int
  | 10 => .int
  | 11 => .array .int
  | 12 => .array .boolean
  | 13 => .int
  | 14 => .int
  | 15 => .int
  | 16 => .int
  | 17 => .int
  | 18 => .int
  | 19 => .int
  | 20 => .int
  | 21 => .array .int
  | 22 => .int
  | 23 => .int
  | 24 => .int
  | 25 => .array .int
  | 26 => .int
  | 27 => .int
  | 28 => .int
  | 29 => .array .boolean
  | 30 => .array .boolean
  | 31 => .array .boolean
  | 32 => .array .int
  | 33 => .int
  | _ => .long
theorem cw12 : ∀ w ∈ u_ws cN12 cT12 35, w ∈ wsG := mem_gs [1101, 1103, 1105, 1107, 1109, 1111, 1113, 1115, 1117, 1119, 1121, 1123, 1125, 1127, 1129, 1131, 1133, 1135, 1137, 1139, 1141, 1143, 1145, 1147, 1149, 1151, 1153, 1155, 1157, 1159, 1161, 1163, 1165, 1167, 1169] (by decide +kernel) (by decide +kernel)
theorem cm12 : ∀ a, a < 35 → ∀ b, b < 35 → a ≠ b → (cT12 a).2.1 ≠ (cT12 b).2.1 := by decide +kernel
theorem cy12 : ∀ k, k < 35 → parseFieldDescriptor (cT12 k).2.2.1 = some (ct12 k) := by decide +kernel
abbrev clsL : List vw_C := [(cN0, cT0, 3), (cN1, cT1, 10), (cN2, cT2, 3), (cN3, cT3, 5), (cN4, cT4, 1), (cN5, cT5, 4), (cN6, cT6, 10), (cN7, cT7, 8), (cN8, cT8, 6), (cN9, cT9, 9), (cN10, cT10, 3), (cN11, cT11, 9), (cN12, cT12, 35)]
def clT (ci : Nat) : Nat → FieldType := match ci with
  | 0 => ct0
  | 1 => ct1
  | 2 => ct2
  | 3 => ct3
  | 4 => ct4
  | 5 => ct5
  | 6 => ct6
  | 7 => ct7
  | 8 => ct8
  | 9 => ct9
  | 10 => ct10
  | 11 => ct11
  | _ => ct12
def ClOk (ci : Nat) (r : vw_C) : Prop := (∀ w ∈ u_ws r.1 r.2.1 r.2.2, w ∈ wsG) ∧ (∀ k, k < r.2.2 → parseFieldDescriptor (r.2.1 k).2.2.1 = some (clT ci k)) ∧ ∀ a, a < r.2.2 → ∀ b, b < r.2.2 → a ≠ b → (r.2.1 a).2.1 ≠ (r.2.1 b).2.1
theorem cl_ok {ci : Nat} {r : vw_C} (h : clsL[ci]? = some r) : ClOk ci r := by
  match ci, h with
  | 0, h => cases h; exact ⟨cw0, cy0, cm0⟩
  | 1, h => cases h; exact ⟨cw1, cy1, cm1⟩
  | 2, h => cases h; exact ⟨cw2, cy2, cm2⟩
  | 3, h => cases h; exact ⟨cw3, cy3, cm3⟩
  | 4, h => cases h; exact ⟨cw4, cy4, cm4⟩
  | 5, h => cases h; exact ⟨cw5, cy5, cm5⟩
  | 6, h => cases h; exact ⟨cw6, cy6, cm6⟩
  | 7, h => cases h; exact ⟨cw7, cy7, cm7⟩
  | 8, h => cases h; exact ⟨cw8, cy8, cm8⟩
  | 9, h => cases h; exact ⟨cw9, cy9, cm9⟩
  | 10, h => cases h; exact ⟨cw10, cy10, cm10⟩
  | 11, h => cases h; exact ⟨cw11, cy11, cm11⟩
  | 12, h => cases h; exact ⟨cw12, cy12, cm12⟩
  | n + 13, h => simp [clsL] at h
abbrev Md : Type := MethodName × ByteArray × Nat × Option FieldType × Nat × Nat
def mY (m : Md) : MethodName := m.1
def mB (m : Md) : ByteArray := m.2.1
def mL (m : Md) : Nat := m.2.2.1
def mR (m : Md) : Option FieldType := m.2.2.2.1
def mF (m : Md) : Nat := m.2.2.2.2.1
def mO (m : Md) : Nat := m.2.2.2.2.2
def md_Peg_init : Md := (⟨"PegWatch", "<init>", "()V"⟩, prog_1_method_1_code, 1, (Option.none : Option Jvm.ClassFile.FieldType), 4, 93)
def md_Words_init : Md := (⟨"PegWatch$Words", "<init>", "()V"⟩, prog_12_method_1_code, 1, (Option.none : Option Jvm.ClassFile.FieldType), 1, 20)
def md_Board_init : Md := (⟨"PegWatch$Board", "<init>", "()V"⟩, prog_2_method_1_code, 2, (Option.none : Option Jvm.ClassFile.FieldType), 2, 43)
def md_Watch_init : Md := (⟨"PegWatch$Watch", "<init>", "()V"⟩, prog_11_method_1_code, 1, (Option.none : Option Jvm.ClassFile.FieldType), 1, 23)
def md_JArrays_fill : Md := (⟨"java/util/Arrays", "fill", "([II)V"⟩, prog_18_method_103_code, 4, (Option.none : Option Jvm.ClassFile.FieldType), 0, 0)
def md_Chart_init : Md := (⟨"PegWatch$Chart", "<init>", "()V"⟩, prog_3_method_1_code, 1, (Option.none : Option Jvm.ClassFile.FieldType), 3, 73)
def md_Patch_init : Md := (⟨"PegWatch$Patch", "<init>", "()V"⟩, prog_6_method_1_code, 1, (Option.none : Option Jvm.ClassFile.FieldType), 1, 20)
def md_Chart_streamBecomes : Md := (⟨"PegWatch$Chart", "streamBecomes", "(IIII)V"⟩, prog_3_method_3_code, 5, (Option.none : Option Jvm.ClassFile.FieldType), 0, 0)
def md_Chart_drawAnew : Md := (⟨"PegWatch$Chart", "drawAnew", "(II)V"⟩, prog_3_method_2_code, 3, (Option.none : Option Jvm.ClassFile.FieldType), 2, 51)
def md_Patch_clear : Md := (⟨"PegWatch$Patch", "clear", "()V"⟩, prog_6_method_2_code, 1, (Option.none : Option Jvm.ClassFile.FieldType), 1, 23)
def md_Patch_put : Md := (⟨"PegWatch$Patch", "put", "(IIIIZ)V"⟩, prog_6_method_10_code, 11, (Option.none : Option Jvm.ClassFile.FieldType), 1, 21)
def md_JMath_max : Md := (⟨"java/lang/Math", "max", "(II)I"⟩, prog_16_method_65_code, 2, (Option.some Jvm.ClassFile.FieldType.int), 0, 0)
def md_JMath_min : Md := (⟨"java/lang/Math", "min", "(II)I"⟩, prog_16_method_69_code, 2, (Option.some Jvm.ClassFile.FieldType.int), 0, 0)
def md_Patch_firstBits : Md := (⟨"PegWatch$Patch", "firstBits", "(I)I"⟩, prog_6_method_13_code, 1, (Option.some Jvm.ClassFile.FieldType.int), 0, 0)
def md_Log_init : Md := (⟨"PegWatch$Log", "<init>", "()V"⟩, prog_5_method_1_code, 2, (Option.none : Option Jvm.ClassFile.FieldType), 3, 60)
def md_Row_init : Md := (⟨"PegWatch$Row", "<init>", "()V"⟩, prog_9_method_1_code, 1, (Option.none : Option Jvm.ClassFile.FieldType), 2, 40)
def md_Reach_init : Md := (⟨"PegWatch$Reach", "<init>", "()V"⟩, prog_7_method_1_code, 1, (Option.none : Option Jvm.ClassFile.FieldType), 1, 20)
def md_Row_become : Md := (⟨"PegWatch$Row", "become", "(IIII)V"⟩, prog_9_method_5_code, 5, (Option.none : Option Jvm.ClassFile.FieldType), 0, 0)
def md_Log_startFrom : Md := (⟨"PegWatch$Log", "startFrom", "(III)V"⟩, prog_5_method_2_code, 4, (Option.none : Option Jvm.ClassFile.FieldType), 0, 0)
def md_Reckoning_init : Md := (⟨"PegWatch$Reckoning", "<init>", "(LPegWatch$Chart;LPegWatch$Board;LPegWatch$Log;)V"⟩, prog_8_method_1_code, 5, (Option.none : Option Jvm.ClassFile.FieldType), 2, 40)
def md_Voyage_init : Md := (⟨"PegWatch$Voyage", "<init>", "(LPegWatch$Chart;)V"⟩, prog_10_method_1_code, 2, (Option.none : Option Jvm.ClassFile.FieldType), 2, 40)
def md_Peg_name : Md := (⟨"PegWatch", "name", "(I)I"⟩, prog_1_method_2_code, 2, (Option.some Jvm.ClassFile.FieldType.int), 1, 20)
def md_Compass_isPoint : Md := (⟨"PegWatch$Compass", "isPoint", "(I)Z"⟩, prog_4_method_2_code, 1, (Option.some Jvm.ClassFile.FieldType.boolean), 0, 0)
def md_Peg_read : Md := (⟨"PegWatch", "read", "(I)I"⟩, prog_1_method_3_code, 3, (Option.some Jvm.ClassFile.FieldType.int), 2, 44)
def md_Compass_hasFigureZero : Md := (⟨"PegWatch$Compass", "hasFigureZero", "(I)Z"⟩, prog_4_method_10_code, 2, (Option.some Jvm.ClassFile.FieldType.boolean), 0, 0)
def md_Compass_pointNamed : Md := (⟨"PegWatch$Compass", "pointNamed", "(I)I"⟩, prog_4_method_9_code, 2, (Option.some Jvm.ClassFile.FieldType.int), 0, 0)
def md_Compass_lettersThatBegin : Md := (⟨"PegWatch$Compass", "lettersThatBegin", "(I)I"⟩, prog_4_method_11_code, 3, (Option.some Jvm.ClassFile.FieldType.int), 1, 22)
def md_Compass_isBeginning : Md := (⟨"PegWatch$Compass", "isBeginning", "(I)Z"⟩, prog_4_method_12_code, 3, (Option.some Jvm.ClassFile.FieldType.boolean), 0, 0)
def md_Peg_turns : Md := (⟨"PegWatch", "turns", "(II)I"⟩, prog_1_method_4_code, 3, (Option.some Jvm.ClassFile.FieldType.int), 1, 21)
def md_Compass_turnsBetween : Md := (⟨"PegWatch$Compass", "turnsBetween", "(II)I"⟩, prog_4_method_4_code, 2, (Option.some Jvm.ClassFile.FieldType.int), 0, 0)
def md_Peg_go : Md := (⟨"PegWatch", "go", "(II)I"⟩, prog_1_method_5_code, 3, (Option.some Jvm.ClassFile.FieldType.int), 4, 85)
def md_Peg_isWithin : Md := (⟨"PegWatch", "isWithin", "(III)Z"⟩, prog_1_method_41_code, 3, (Option.some Jvm.ClassFile.FieldType.boolean), 0, 0)
def md_Compass_eastOf : Md := (⟨"PegWatch$Compass", "eastOf", "(I)I"⟩, prog_4_method_7_code, 1, (Option.some Jvm.ClassFile.FieldType.int), 3, 65)
def md_Compass_turned : Md := (⟨"PegWatch$Compass", "turned", "(II)I"⟩, prog_4_method_3_code, 2, (Option.some Jvm.ClassFile.FieldType.int), 0, 0)
def md_Compass_northOf : Md := (⟨"PegWatch$Compass", "northOf", "(I)I"⟩, prog_4_method_6_code, 3, (Option.some Jvm.ClassFile.FieldType.int), 2, 43)
def md_Compass_angle : Md := (⟨"PegWatch$Compass", "angle", "(II)I"⟩, prog_4_method_5_code, 3, (Option.some Jvm.ClassFile.FieldType.int), 1, 21)
def md_Peg_word : Md := (⟨"PegWatch", "word", "(I)I"⟩, prog_1_method_6_code, 2, (Option.some Jvm.ClassFile.FieldType.int), 1, 22)
def md_Words_append : Md := (⟨"PegWatch$Words", "append", "(I)Z"⟩, prog_12_method_2_code, 2, (Option.some Jvm.ClassFile.FieldType.boolean), 0, 0)
def md_Peg_hush : Md := (⟨"PegWatch", "hush", "()I"⟩, prog_1_method_7_code, 2, (Option.some Jvm.ClassFile.FieldType.int), 0, 0)
def md_Peg_fault : Md := (⟨"PegWatch", "fault", "()I"⟩, prog_1_method_8_code, 1, (Option.some Jvm.ClassFile.FieldType.int), 4, 85)
def md_Words_firstFault : Md := (⟨"PegWatch$Words", "firstFault", "()I"⟩, prog_12_method_3_code, 4, (Option.some Jvm.ClassFile.FieldType.int), 3, 62)
def md_Words_isWord : Md := (⟨"PegWatch$Words", "isWord", "(I)Z"⟩, prog_12_method_6_code, 1, (Option.some Jvm.ClassFile.FieldType.boolean), 2, 42)
def md_Words_turnOf : Md := (⟨"PegWatch$Words", "turnOf", "(I)I"⟩, prog_12_method_7_code, 1, (Option.some Jvm.ClassFile.FieldType.int), 1, 22)
def md_Peg_told : Md := (⟨"PegWatch", "told", "()I"⟩, prog_1_method_9_code, 1, (Option.some Jvm.ClassFile.FieldType.int), 4, 85)
def md_Words_meaning : Md := (⟨"PegWatch$Words", "meaning", "()I"⟩, prog_12_method_4_code, 4, (Option.some Jvm.ClassFile.FieldType.int), 2, 42)
def md_Words_halfway : Md := (⟨"PegWatch$Words", "halfway", "(II)I"⟩, prog_12_method_8_code, 2, (Option.some Jvm.ClassFile.FieldType.int), 1, 21)
def md_Peg_watch : Md := (⟨"PegWatch", "watch", "()I"⟩, prog_1_method_10_code, 1, (Option.some Jvm.ClassFile.FieldType.int), 0, 0)
def md_Peg_peg : Md := (⟨"PegWatch", "peg", "(III)I"⟩, prog_1_method_11_code, 4, (Option.some Jvm.ClassFile.FieldType.int), 7, 160)
def md_Board_isWatch : Md := (⟨"PegWatch$Board", "isWatch", "(I)Z"⟩, prog_2_method_2_code, 2, (Option.some Jvm.ClassFile.FieldType.boolean), 0, 0)
def md_Watch_putPeg : Md := (⟨"PegWatch$Watch", "putPeg", "(II)I"⟩, prog_11_method_3_code, 4, (Option.some Jvm.ClassFile.FieldType.int), 6, 137)
def md_Watch_sumUp : Md := (⟨"PegWatch$Watch", "sumUp", "()V"⟩, prog_11_method_11_code, 2, (Option.none : Option Jvm.ClassFile.FieldType), 5, 116)
def md_Watch_sumSpreads : Md := (⟨"PegWatch$Watch", "sumSpreads", "()V"⟩, prog_11_method_12_code, 4, (Option.none : Option Jvm.ClassFile.FieldType), 1, 21)
def md_Watch_knotsOfPeg : Md := (⟨"PegWatch$Watch", "knotsOfPeg", "(I)I"⟩, prog_11_method_9_code, 2, (Option.some Jvm.ClassFile.FieldType.int), 0, 0)
def md_Watch_sumParts : Md := (⟨"PegWatch$Watch", "sumParts", "(I)V"⟩, prog_11_method_13_code, 6, (Option.none : Option Jvm.ClassFile.FieldType), 4, 91)
def md_Watch_madeGood : Md := (⟨"PegWatch$Watch", "madeGood", "(II)I"⟩, prog_11_method_14_code, 6, (Option.some Jvm.ClassFile.FieldType.int), 3, 66)
def md_Compass_pointsFarther : Md := (⟨"PegWatch$Compass", "pointsFarther", "(III)I"⟩, prog_4_method_8_code, 4, (Option.some Jvm.ClassFile.FieldType.int), 2, 43)
def md_Peg_knots : Md := (⟨"PegWatch", "knots", "(III)I"⟩, prog_1_method_12_code, 4, (Option.some Jvm.ClassFile.FieldType.int), 7, 160)
def md_Watch_putKnots : Md := (⟨"PegWatch$Watch", "putKnots", "(II)I"⟩, prog_11_method_4_code, 4, (Option.some Jvm.ClassFile.FieldType.int), 6, 137)
def md_Peg_set : Md := (⟨"PegWatch", "set", "(III)I"⟩, prog_1_method_13_code, 4, (Option.some Jvm.ClassFile.FieldType.int), 7, 160)
def md_Watch_mostOf : Md := (⟨"PegWatch$Watch", "mostOf", "(I)I"⟩, prog_11_method_2_code, 1, (Option.some Jvm.ClassFile.FieldType.int), 0, 0)
def md_Watch_putTrait : Md := (⟨"PegWatch$Watch", "putTrait", "(II)I"⟩, prog_11_method_5_code, 4, (Option.some Jvm.ClassFile.FieldType.int), 6, 137)
def md_Peg_leeway : Md := (⟨"PegWatch", "leeway", "(III)I"⟩, prog_1_method_14_code, 4, (Option.some Jvm.ClassFile.FieldType.int), 3, 66)
def md_Peg_way : Md := (⟨"PegWatch", "way", "(IIII)I"⟩, prog_1_method_15_code, 7, (Option.some Jvm.ClassFile.FieldType.int), 3, 65)
def md_Watch_wayEast : Md := (⟨"PegWatch$Watch", "wayEast", "(II)I"⟩, prog_11_method_6_code, 3, (Option.some Jvm.ClassFile.FieldType.int), 2, 43)
def md_Watch_byGlass : Md := (⟨"PegWatch$Watch", "byGlass", "(II)I"⟩, prog_11_method_10_code, 2, (Option.some Jvm.ClassFile.FieldType.int), 1, 22)
def md_JMath_floorDiv : Md := (⟨"java/lang/Math", "floorDiv", "(II)I"⟩, prog_16_method_47_code, 3, (Option.some Jvm.ClassFile.FieldType.int), 0, 0)
def md_Watch_wayNorth : Md := (⟨"PegWatch$Watch", "wayNorth", "(II)I"⟩, prog_11_method_7_code, 3, (Option.some Jvm.ClassFile.FieldType.int), 2, 43)
def md_Peg_miss : Md := (⟨"PegWatch", "miss", "(I)I"⟩, prog_1_method_16_code, 3, (Option.some Jvm.ClassFile.FieldType.int), 1, 22)
def md_Peg_chart : Md := (⟨"PegWatch", "chart", "(II)I"⟩, prog_1_method_17_code, 3, (Option.some Jvm.ClassFile.FieldType.int), 3, 73)
def md_Peg_sea : Md := (⟨"PegWatch", "sea", "(IIIII)I"⟩, prog_1_method_18_code, 6, (Option.some Jvm.ClassFile.FieldType.int), 3, 78)
def md_Chart_isCell : Md := (⟨"PegWatch$Chart", "isCell", "(II)Z"⟩, prog_3_method_4_code, 3, (Option.some Jvm.ClassFile.FieldType.boolean), 0, 0)
def md_Chart_putDepth : Md := (⟨"PegWatch$Chart", "putDepth", "(IIIII)V"⟩, prog_3_method_6_code, 8, (Option.none : Option Jvm.ClassFile.FieldType), 2, 51)
def md_Peg_weed : Md := (⟨"PegWatch", "weed", "(IIIIZ)I"⟩, prog_1_method_19_code, 6, (Option.some Jvm.ClassFile.FieldType.int), 2, 51)
def md_Peg_about : Md := (⟨"PegWatch", "about", "(III)I"⟩, prog_1_method_20_code, 4, (Option.some Jvm.ClassFile.FieldType.int), 3, 69)
def md_Chart_depthAt : Md := (⟨"PegWatch$Chart", "depthAt", "(II)I"⟩, prog_3_method_5_code, 3, (Option.some Jvm.ClassFile.FieldType.int), 1, 22)
def md_Patch_holds : Md := (⟨"PegWatch$Patch", "holds", "(II)Z"⟩, prog_6_method_6_code, 3, (Option.some Jvm.ClassFile.FieldType.boolean), 1, 22)
def md_Peg_asNumber : Md := (⟨"PegWatch", "asNumber", "(Z)I"⟩, prog_1_method_42_code, 1, (Option.some Jvm.ClassFile.FieldType.int), 0, 0)
def md_Chart_leastNear : Md := (⟨"PegWatch$Chart", "leastNear", "(II)I"⟩, prog_3_method_7_code, 6, (Option.some Jvm.ClassFile.FieldType.int), 2, 44)
def md_Peg_stream : Md := (⟨"PegWatch", "stream", "(IIII)I"⟩, prog_1_method_21_code, 5, (Option.some Jvm.ClassFile.FieldType.int), 1, 24)
def md_Peg_isStream : Md := (⟨"PegWatch", "isStream", "(II)Z"⟩, prog_1_method_44_code, 2, (Option.some Jvm.ClassFile.FieldType.boolean), 0, 0)
def md_Peg_start : Md := (⟨"PegWatch", "start", "(III)I"⟩, prog_1_method_22_code, 4, (Option.some Jvm.ClassFile.FieldType.int), 4, 92)
def md_Reckoning_startCells : Md := (⟨"PegWatch$Reckoning", "startCells", "()I"⟩, prog_8_method_2_code, 1, (Option.some Jvm.ClassFile.FieldType.int), 3, 72)
def md_Reckoning_findStart : Md := (⟨"PegWatch$Reckoning", "findStart", "()V"⟩, prog_8_method_8_code, 2, (Option.none : Option Jvm.ClassFile.FieldType), 2, 51)
def md_Patch_cutTo : Md := (⟨"PegWatch$Patch", "cutTo", "(LPegWatch$Patch;)V"⟩, prog_6_method_8_code, 3, (Option.none : Option Jvm.ClassFile.FieldType), 0, 0)
def md_Patch_size : Md := (⟨"PegWatch$Patch", "size", "()I"⟩, prog_6_method_4_code, 3, (Option.some Jvm.ClassFile.FieldType.int), 1, 20)
def md_JInteger_bitCount : Md := (⟨"java/lang/Integer", "bitCount", "(I)I"⟩, prog_15_method_49_code, 1, (Option.some Jvm.ClassFile.FieldType.int), 0, 0)
def md_Peg_run : Md := (⟨"PegWatch", "run", "(I)I"⟩, prog_1_method_23_code, 2, (Option.some Jvm.ClassFile.FieldType.int), 2, 48)
def md_Log_holdsWatch : Md := (⟨"PegWatch$Log", "holdsWatch", "(I)Z"⟩, prog_5_method_5_code, 3, (Option.some Jvm.ClassFile.FieldType.boolean), 0, 0)
def md_Log_append : Md := (⟨"PegWatch$Log", "append", "(IIII)Z"⟩, prog_5_method_6_code, 5, (Option.some Jvm.ClassFile.FieldType.boolean), 1, 24)
def md_Peg_sign : Md := (⟨"PegWatch", "sign", "(III)I"⟩, prog_1_method_24_code, 6, (Option.some Jvm.ClassFile.FieldType.int), 2, 48)
def md_Row_isSign : Md := (⟨"PegWatch$Row", "isSign", "(III)Z"⟩, prog_9_method_4_code, 4, (Option.some Jvm.ClassFile.FieldType.boolean), 1, 22)
def md_Row_needsFirst : Md := (⟨"PegWatch$Row", "needsFirst", "(I)Z"⟩, prog_9_method_2_code, 1, (Option.some Jvm.ClassFile.FieldType.boolean), 0, 0)
def md_Row_needsSecond : Md := (⟨"PegWatch$Row", "needsSecond", "(I)Z"⟩, prog_9_method_3_code, 1, (Option.some Jvm.ClassFile.FieldType.boolean), 0, 0)
def md_Peg_count : Md := (⟨"PegWatch", "count", "(IZ)I"⟩, prog_1_method_25_code, 4, (Option.some Jvm.ClassFile.FieldType.int), 1, 21)
def md_Log_isRow : Md := (⟨"PegWatch$Log", "isRow", "(I)Z"⟩, prog_5_method_3_code, 2, (Option.some Jvm.ClassFile.FieldType.boolean), 0, 0)
def md_Peg_strike : Md := (⟨"PegWatch", "strike", "()I"⟩, prog_1_method_26_code, 1, (Option.some Jvm.ClassFile.FieldType.int), 0, 0)
def md_Peg_row : Md := (⟨"PegWatch", "row", "(II)I"⟩, prog_1_method_27_code, 3, (Option.some Jvm.ClassFile.FieldType.int), 2, 41)
def md_Row_fact : Md := (⟨"PegWatch$Row", "fact", "(I)I"⟩, prog_9_method_7_code, 2, (Option.some Jvm.ClassFile.FieldType.int), 1, 20)
def md_Peg_patch : Md := (⟨"PegWatch", "patch", "(I)I"⟩, prog_1_method_28_code, 2, (Option.some Jvm.ClassFile.FieldType.int), 6, 160)
def md_Log_isBehind : Md := (⟨"PegWatch$Log", "isBehind", "(I)Z"⟩, prog_5_method_4_code, 2, (Option.some Jvm.ClassFile.FieldType.boolean), 0, 0)
def md_Reckoning_lookAhead : Md := (⟨"PegWatch$Reckoning", "lookAhead", "()LPegWatch$Patch;"⟩, prog_8_method_3_code, 2, (Option.some (Jvm.ClassFile.FieldType.object "PegWatch$Patch")), 5, 139)
def md_Reckoning_makeReady : Md := (⟨"PegWatch$Reckoning", "makeReady", "(LPegWatch$Row;)V"⟩, prog_8_method_9_code, 2, (Option.none : Option Jvm.ClassFile.FieldType), 4, 102)
def md_Row_isWatch : Md := (⟨"PegWatch$Row", "isWatch", "()Z"⟩, prog_9_method_6_code, 1, (Option.some Jvm.ClassFile.FieldType.boolean), 0, 0)
def md_Reckoning_stretchCounted : Md := (⟨"PegWatch$Reckoning", "stretchCounted", "(LPegWatch$Row;II)Z"⟩, prog_8_method_10_code, 5, (Option.some Jvm.ClassFile.FieldType.boolean), 3, 67)
def md_Reckoning_stretch : Md := (⟨"PegWatch$Reckoning", "stretch", "(LPegWatch$Reach;III)Z"⟩, prog_8_method_11_code, 6, (Option.some Jvm.ClassFile.FieldType.boolean), 2, 42)
def md_Reach_cellsDown : Md := (⟨"PegWatch$Reach", "cellsDown", "(I)I"⟩, prog_7_method_3_code, 1, (Option.some Jvm.ClassFile.FieldType.int), 1, 22)
def md_Reach_cellsUp : Md := (⟨"PegWatch$Reach", "cellsUp", "(I)I"⟩, prog_7_method_4_code, 1, (Option.some Jvm.ClassFile.FieldType.int), 1, 22)
def md_Reach_become : Md := (⟨"PegWatch$Reach", "become", "(IIII)Z"⟩, prog_7_method_2_code, 6, (Option.some Jvm.ClassFile.FieldType.boolean), 0, 0)
def md_Row_findStaying : Md := (⟨"PegWatch$Row", "findStaying", "(LPegWatch$Chart;)V"⟩, prog_9_method_8_code, 2, (Option.none : Option Jvm.ClassFile.FieldType), 3, 81)
def md_Chart_findDepths : Md := (⟨"PegWatch$Chart", "findDepths", "(IILPegWatch$Patch;)V"⟩, prog_3_method_9_code, 6, (Option.none : Option Jvm.ClassFile.FieldType), 2, 51)
def md_Chart_findNear : Md := (⟨"PegWatch$Chart", "findNear", "(ILPegWatch$Patch;)V"⟩, prog_3_method_8_code, 3, (Option.none : Option Jvm.ClassFile.FieldType), 2, 59)
def md_Patch_becomeReached : Md := (⟨"PegWatch$Patch", "becomeReached", "(LPegWatch$Patch;IIIILPegWatch$Chart;)V"⟩, prog_6_method_11_code, 14, (Option.none : Option Jvm.ClassFile.FieldType), 1, 26)
def md_Patch_smear : Md := (⟨"PegWatch$Patch", "smear", "(III)I"⟩, prog_6_method_14_code, 7, (Option.some Jvm.ClassFile.FieldType.int), 0, 0)
def md_Patch_copy : Md := (⟨"PegWatch$Patch", "copy", "(LPegWatch$Patch;)V"⟩, prog_6_method_3_code, 2, (Option.none : Option Jvm.ClassFile.FieldType), 1, 48)
def md_Patch_turnOver : Md := (⟨"PegWatch$Patch", "turnOver", "(LPegWatch$Patch;)V"⟩, prog_6_method_9_code, 3, (Option.none : Option Jvm.ClassFile.FieldType), 0, 0)
def md_Reckoning_takeOnFrom : Md := (⟨"PegWatch$Reckoning", "takeOnFrom", "(I)V"⟩, prog_8_method_13_code, 3, (Option.none : Option Jvm.ClassFile.FieldType), 4, 117)
def md_Row_takeOn : Md := (⟨"PegWatch$Row", "takeOn", "(ZLPegWatch$Patch;LPegWatch$Patch;LPegWatch$Chart;)V"⟩, prog_9_method_9_code, 6, (Option.none : Option Jvm.ClassFile.FieldType), 3, 92)
def md_Row_cut : Md := (⟨"PegWatch$Row", "cut", "(ZLPegWatch$Patch;LPegWatch$Patch;)V"⟩, prog_9_method_11_code, 4, (Option.none : Option Jvm.ClassFile.FieldType), 2, 69)
def md_Peg_has : Md := (⟨"PegWatch", "has", "(III)I"⟩, prog_1_method_29_code, 4, (Option.some Jvm.ClassFile.FieldType.int), 6, 160)
def md_Peg_here : Md := (⟨"PegWatch", "here", "(I)I"⟩, prog_1_method_30_code, 2, (Option.some Jvm.ClassFile.FieldType.int), 7, 181)
def md_Reckoning_seenFromEnd : Md := (⟨"PegWatch$Reckoning", "seenFromEnd", "(I)LPegWatch$Patch;"⟩, prog_8_method_4_code, 2, (Option.some (Jvm.ClassFile.FieldType.object "PegWatch$Patch")), 6, 160)
def md_Reckoning_lookBack : Md := (⟨"PegWatch$Reckoning", "lookBack", "()V"⟩, prog_8_method_14_code, 2, (Option.none : Option Jvm.ClassFile.FieldType), 4, 116)
def md_Row_takeBack : Md := (⟨"PegWatch$Row", "takeBack", "(LPegWatch$Patch;LPegWatch$Patch;LPegWatch$Chart;)V"⟩, prog_9_method_10_code, 5, (Option.none : Option Jvm.ClassFile.FieldType), 3, 92)
def md_Peg_was : Md := (⟨"PegWatch", "was", "(III)I"⟩, prog_1_method_31_code, 4, (Option.some Jvm.ClassFile.FieldType.int), 7, 181)
def md_Peg_blamed : Md := (⟨"PegWatch", "blamed", "()I"⟩, prog_1_method_32_code, 1, (Option.some Jvm.ClassFile.FieldType.int), 7, 185)
def md_Peg_mayBlame : Md := (⟨"PegWatch", "mayBlame", "()Z"⟩, prog_1_method_45_code, 1, (Option.some Jvm.ClassFile.FieldType.boolean), 6, 160)
def md_Patch_isEmpty : Md := (⟨"PegWatch$Patch", "isEmpty", "()Z"⟩, prog_6_method_5_code, 2, (Option.some Jvm.ClassFile.FieldType.boolean), 0, 0)
def md_Reckoning_findBlamed : Md := (⟨"PegWatch$Reckoning", "findBlamed", "()V"⟩, prog_8_method_6_code, 3, (Option.none : Option Jvm.ClassFile.FieldType), 6, 163)
def md_Reckoning_leadsOnWithout : Md := (⟨"PegWatch$Reckoning", "leadsOnWithout", "(ILPegWatch$Patch;LPegWatch$Patch;)Z"⟩, prog_8_method_15_code, 4, (Option.some Jvm.ClassFile.FieldType.boolean), 4, 117)
def md_Patch_meets : Md := (⟨"PegWatch$Patch", "meets", "(LPegWatch$Patch;)Z"⟩, prog_6_method_7_code, 3, (Option.some Jvm.ClassFile.FieldType.boolean), 0, 0)
def md_Reckoning_add : Md := (⟨"PegWatch$Reckoning", "add", "(I)V"⟩, prog_8_method_17_code, 2, (Option.none : Option Jvm.ClassFile.FieldType), 0, 0)
def md_Reckoning_findPairsOf : Md := (⟨"PegWatch$Reckoning", "findPairsOf", "(I)V"⟩, prog_8_method_16_code, 4, (Option.none : Option Jvm.ClassFile.FieldType), 5, 140)
def md_Peg_blame : Md := (⟨"PegWatch", "blame", "(I)I"⟩, prog_1_method_33_code, 2, (Option.some Jvm.ClassFile.FieldType.int), 7, 185)
def md_Reckoning_foundAt : Md := (⟨"PegWatch$Reckoning", "foundAt", "(I)I"⟩, prog_8_method_5_code, 2, (Option.some Jvm.ClassFile.FieldType.int), 0, 0)
def md_Peg_fits : Md := (⟨"PegWatch", "fits", "(II)I"⟩, prog_1_method_34_code, 3, (Option.some Jvm.ClassFile.FieldType.int), 7, 191)
def md_Reckoning_findFits : Md := (⟨"PegWatch$Reckoning", "findFits", "(II)V"⟩, prog_8_method_7_code, 6, (Option.none : Option Jvm.ClassFile.FieldType), 6, 166)
def md_Reckoning_lookAheadBy : Md := (⟨"PegWatch$Reckoning", "lookAheadBy", "(III)LPegWatch$Patch;"⟩, prog_8_method_12_code, 8, (Option.some (Jvm.ClassFile.FieldType.object "PegWatch$Patch")), 5, 139)
def md_Peg_fit : Md := (⟨"PegWatch", "fit", "(III)I"⟩, prog_1_method_35_code, 4, (Option.some Jvm.ClassFile.FieldType.int), 7, 191)
def md_Peg_sights : Md := (⟨"PegWatch", "sights", "(IIIIIII)I"⟩, prog_1_method_36_code, 8, (Option.some Jvm.ClassFile.FieldType.int), 6, 160)
def md_Voyage_isVoyage : Md := (⟨"PegWatch$Voyage", "isVoyage", "(IIII)Z"⟩, prog_10_method_2_code, 4, (Option.some Jvm.ClassFile.FieldType.boolean), 1, 22)
def md_Voyage_fitOut : Md := (⟨"PegWatch$Voyage", "fitOut", "(III)V"⟩, prog_10_method_3_code, 4, (Option.none : Option Jvm.ClassFile.FieldType), 3, 81)
def md_Voyage_sightedFromCell : Md := (⟨"PegWatch$Voyage", "sightedFromCell", "(IIII)I"⟩, prog_10_method_4_code, 5, (Option.some Jvm.ClassFile.FieldType.int), 5, 110)
def md_Voyage_sightedFromLeft : Md := (⟨"PegWatch$Voyage", "sightedFromLeft", "(II)I"⟩, prog_10_method_7_code, 6, (Option.some Jvm.ClassFile.FieldType.int), 4, 85)
def md_Voyage_isOneAground : Md := (⟨"PegWatch$Voyage", "isOneAground", "()Z"⟩, prog_10_method_8_code, 4, (Option.some Jvm.ClassFile.FieldType.boolean), 2, 44)
def md_Patch_seenFrom : Md := (⟨"PegWatch$Patch", "seenFrom", "(II)I"⟩, prog_6_method_12_code, 3, (Option.some Jvm.ClassFile.FieldType.int), 1, 22)
def md_Voyage_dropSighted : Md := (⟨"PegWatch$Voyage", "dropSighted", "()V"⟩, prog_10_method_9_code, 5, (Option.none : Option Jvm.ClassFile.FieldType), 2, 44)
def md_Peg_sure : Md := (⟨"PegWatch", "sure", "(IIIII)I"⟩, prog_1_method_37_code, 7, (Option.some Jvm.ClassFile.FieldType.int), 6, 160)
def md_Voyage_sightedFromAll : Md := (⟨"PegWatch$Voyage", "sightedFromAll", "(LPegWatch$Patch;II)I"⟩, prog_10_method_5_code, 4, (Option.some Jvm.ClassFile.FieldType.int), 5, 110)
def md_Peg_course : Md := (⟨"PegWatch", "course", "(IIII)I"⟩, prog_1_method_38_code, 6, (Option.some Jvm.ClassFile.FieldType.int), 7, 160)
def md_Voyage_soonestPoint : Md := (⟨"PegWatch$Voyage", "soonestPoint", "(LPegWatch$Patch;I)I"⟩, prog_10_method_6_code, 7, (Option.some Jvm.ClassFile.FieldType.int), 6, 133)
def md_Peg_many : Md := (⟨"PegWatch", "many", "(I)I"⟩, prog_1_method_39_code, 2, (Option.some Jvm.ClassFile.FieldType.int), 2, 42)
def md_Peg_digest : Md := (⟨"PegWatch", "digest", "()J"⟩, prog_1_method_40_code, 3, (Option.some Jvm.ClassFile.FieldType.long), 6, 160)
def md_Words_foldInto : Md := (⟨"PegWatch$Words", "foldInto", "(J)J"⟩, prog_12_method_5_code, 6, (Option.some Jvm.ClassFile.FieldType.long), 1, 22)
def md_Peg_fold : Md := (⟨"PegWatch", "fold", "(JI)J"⟩, prog_1_method_43_code, 3, (Option.some Jvm.ClassFile.FieldType.long), 0, 0)
def md_Board_foldWatchesInto : Md := (⟨"PegWatch$Board", "foldWatchesInto", "(J)J"⟩, prog_2_method_3_code, 6, (Option.some Jvm.ClassFile.FieldType.long), 2, 47)
def md_Watch_foldInto : Md := (⟨"PegWatch$Watch", "foldInto", "(J)J"⟩, prog_11_method_8_code, 6, (Option.some Jvm.ClassFile.FieldType.long), 1, 22)
def md_Chart_foldInto : Md := (⟨"PegWatch$Chart", "foldInto", "(J)J"⟩, prog_3_method_10_code, 7, (Option.some Jvm.ClassFile.FieldType.long), 2, 44)
def md_Log_foldInto : Md := (⟨"PegWatch$Log", "foldInto", "(J)J"⟩, prog_5_method_7_code, 7, (Option.some Jvm.ClassFile.FieldType.long), 2, 41)
def md_Mod_init : Md := (⟨"PegWatchModel", "<init>", "()V"⟩, prog_14_method_1_code, 1, (Option.none : Option Jvm.ClassFile.FieldType), 1, 21)
def md_Mod_flood : Md := (⟨"PegWatchModel", "flood", "()V"⟩, prog_14_method_4_code, 2, (Option.none : Option Jvm.ClassFile.FieldType), 0, 0)
def md_Mod_name : Md := (⟨"PegWatchModel", "name", "(I)I"⟩, prog_14_method_6_code, 2, (Option.some Jvm.ClassFile.FieldType.int), 2, 42)
def md_Mod_isPoint : Md := (⟨"PegWatchModel", "isPoint", "(I)Z"⟩, prog_14_method_5_code, 1, (Option.some Jvm.ClassFile.FieldType.boolean), 1, 22)
def md_Mod_in : Md := (⟨"PegWatchModel", "in", "(III)Z"⟩, prog_14_method_3_code, 3, (Option.some Jvm.ClassFile.FieldType.boolean), 0, 0)
def md_Mod_read : Md := (⟨"PegWatchModel", "read", "(I)I"⟩, prog_14_method_10_code, 4, (Option.some Jvm.ClassFile.FieldType.int), 2, 47)
def md_Mod_lettersOf : Md := (⟨"PegWatchModel", "lettersOf", "(I)I"⟩, prog_14_method_7_code, 3, (Option.some Jvm.ClassFile.FieldType.int), 0, 0)
def md_Mod_cutOff : Md := (⟨"PegWatchModel", "cutOff", "(II)I"⟩, prog_14_method_8_code, 4, (Option.some Jvm.ClassFile.FieldType.int), 0, 0)
def md_Mod_begins : Md := (⟨"PegWatchModel", "begins", "(I)Z"⟩, prog_14_method_9_code, 5, (Option.some Jvm.ClassFile.FieldType.boolean), 1, 23)
def md_Mod_turns : Md := (⟨"PegWatchModel", "turns", "(II)I"⟩, prog_14_method_12_code, 3, (Option.some Jvm.ClassFile.FieldType.int), 2, 42)
def md_Mod_turnsOf : Md := (⟨"PegWatchModel", "turnsOf", "(II)I"⟩, prog_14_method_11_code, 2, (Option.some Jvm.ClassFile.FieldType.int), 0, 0)
def md_Mod_go : Md := (⟨"PegWatchModel", "go", "(II)I"⟩, prog_14_method_15_code, 3, (Option.some Jvm.ClassFile.FieldType.int), 2, 43)
def md_Mod_eastOf : Md := (⟨"PegWatchModel", "eastOf", "(I)I"⟩, prog_14_method_14_code, 2, (Option.some Jvm.ClassFile.FieldType.int), 1, 22)
def md_Mod_northOf : Md := (⟨"PegWatchModel", "northOf", "(I)I"⟩, prog_14_method_13_code, 3, (Option.some Jvm.ClassFile.FieldType.int), 0, 0)
def md_Mod_word : Md := (⟨"PegWatchModel", "word", "(I)I"⟩, prog_14_method_16_code, 2, (Option.some Jvm.ClassFile.FieldType.int), 1, 22)
def md_Mod_hush : Md := (⟨"PegWatchModel", "hush", "()I"⟩, prog_14_method_17_code, 2, (Option.some Jvm.ClassFile.FieldType.int), 0, 0)
def md_Mod_fault : Md := (⟨"PegWatchModel", "fault", "()I"⟩, prog_14_method_19_code, 1, (Option.some Jvm.ClassFile.FieldType.int), 3, 66)
def md_Mod_faultOf : Md := (⟨"PegWatchModel", "faultOf", "()I"⟩, prog_14_method_18_code, 5, (Option.some Jvm.ClassFile.FieldType.int), 2, 42)
def md_Mod_told : Md := (⟨"PegWatchModel", "told", "()I"⟩, prog_14_method_20_code, 6, (Option.some Jvm.ClassFile.FieldType.int), 3, 66)
def md_Mod_watch : Md := (⟨"PegWatchModel", "watch", "()I"⟩, prog_14_method_22_code, 2, (Option.some Jvm.ClassFile.FieldType.int), 0, 0)
def md_Mod_peg : Md := (⟨"PegWatchModel", "peg", "(III)I"⟩, prog_14_method_23_code, 5, (Option.some Jvm.ClassFile.FieldType.int), 2, 43)
def md_Mod_isWatch : Md := (⟨"PegWatchModel", "isWatch", "(I)Z"⟩, prog_14_method_21_code, 2, (Option.some Jvm.ClassFile.FieldType.boolean), 1, 22)
def md_Mod_knots : Md := (⟨"PegWatchModel", "knots", "(III)I"⟩, prog_14_method_24_code, 5, (Option.some Jvm.ClassFile.FieldType.int), 2, 43)
def md_Mod_set : Md := (⟨"PegWatchModel", "set", "(III)I"⟩, prog_14_method_25_code, 5, (Option.some Jvm.ClassFile.FieldType.int), 2, 43)
def md_Mod_leeway : Md := (⟨"PegWatchModel", "leeway", "(III)I"⟩, prog_14_method_27_code, 4, (Option.some Jvm.ClassFile.FieldType.int), 2, 45)
def md_Mod_leewayOf : Md := (⟨"PegWatchModel", "leewayOf", "(III)I"⟩, prog_14_method_26_code, 5, (Option.some Jvm.ClassFile.FieldType.int), 1, 21)
def md_Mod_way : Md := (⟨"PegWatchModel", "way", "(IIII)I"⟩, prog_14_method_30_code, 5, (Option.some Jvm.ClassFile.FieldType.int), 3, 75)
def md_Mod_goWatch : Md := (⟨"PegWatchModel", "goWatch", "(IIIZ)V"⟩, prog_14_method_29_code, 11, (Option.none : Option Jvm.ClassFile.FieldType), 2, 45)
def md_Mod_down : Md := (⟨"PegWatchModel", "down", "(II)I"⟩, prog_14_method_28_code, 3, (Option.some Jvm.ClassFile.FieldType.int), 0, 0)
def md_Mod_miss : Md := (⟨"PegWatchModel", "miss", "(I)I"⟩, prog_14_method_31_code, 3, (Option.some Jvm.ClassFile.FieldType.int), 1, 22)
def md_Mod_chart : Md := (⟨"PegWatchModel", "chart", "(II)I"⟩, prog_14_method_34_code, 3, (Option.some Jvm.ClassFile.FieldType.int), 1, 22)
def md_Mod_sea : Md := (⟨"PegWatchModel", "sea", "(IIIII)I"⟩, prog_14_method_35_code, 8, (Option.some Jvm.ClassFile.FieldType.int), 2, 44)
def md_Mod_isCell : Md := (⟨"PegWatchModel", "isCell", "(II)Z"⟩, prog_14_method_32_code, 3, (Option.some Jvm.ClassFile.FieldType.boolean), 1, 22)
def md_Mod_at : Md := (⟨"PegWatchModel", "at", "(II)I"⟩, prog_14_method_33_code, 2, (Option.some Jvm.ClassFile.FieldType.int), 0, 0)
def md_Mod_weed : Md := (⟨"PegWatchModel", "weed", "(IIIIZ)I"⟩, prog_14_method_36_code, 8, (Option.some Jvm.ClassFile.FieldType.int), 2, 44)
def md_Mod_about : Md := (⟨"PegWatchModel", "about", "(III)I"⟩, prog_14_method_39_code, 4, (Option.some Jvm.ClassFile.FieldType.int), 4, 91)
def md_Mod_nearest : Md := (⟨"PegWatchModel", "nearest", "(II)I"⟩, prog_14_method_38_code, 6, (Option.some Jvm.ClassFile.FieldType.int), 3, 66)
def md_Mod_isLand : Md := (⟨"PegWatchModel", "isLand", "(II)Z"⟩, prog_14_method_37_code, 3, (Option.some Jvm.ClassFile.FieldType.boolean), 2, 44)
def md_Mod_stream : Md := (⟨"PegWatchModel", "stream", "(IIII)I"⟩, prog_14_method_40_code, 5, (Option.some Jvm.ClassFile.FieldType.int), 1, 22)
def md_Mod_run : Md := (⟨"PegWatchModel", "run", "(I)I"⟩, prog_14_method_41_code, 3, (Option.some Jvm.ClassFile.FieldType.int), 2, 43)
def md_Mod_add : Md := (⟨"PegWatchModel", "add", "(IIII)I"⟩, prog_14_method_42_code, 5, (Option.some Jvm.ClassFile.FieldType.int), 0, 0)
def md_Mod_sign : Md := (⟨"PegWatchModel", "sign", "(III)I"⟩, prog_14_method_43_code, 7, (Option.some Jvm.ClassFile.FieldType.int), 1, 24)
def md_Mod_count : Md := (⟨"PegWatchModel", "count", "(IZ)I"⟩, prog_14_method_45_code, 4, (Option.some Jvm.ClassFile.FieldType.int), 2, 43)
def md_Mod_isRow : Md := (⟨"PegWatchModel", "isRow", "(I)Z"⟩, prog_14_method_44_code, 2, (Option.some Jvm.ClassFile.FieldType.boolean), 1, 22)
def md_Mod_strike : Md := (⟨"PegWatchModel", "strike", "()I"⟩, prog_14_method_46_code, 1, (Option.some Jvm.ClassFile.FieldType.int), 0, 0)
def md_Mod_row : Md := (⟨"PegWatchModel", "row", "(II)I"⟩, prog_14_method_47_code, 3, (Option.some Jvm.ClassFile.FieldType.int), 2, 43)
def md_Mod_start : Md := (⟨"PegWatchModel", "start", "(III)I"⟩, prog_14_method_48_code, 4, (Option.some Jvm.ClassFile.FieldType.int), 4, 89)
def md_Mod_begin : Md := (⟨"PegWatchModel", "begin", "()V"⟩, prog_14_method_49_code, 4, (Option.none : Option Jvm.ClassFile.FieldType), 3, 66)
def md_Mod_cells : Md := (⟨"PegWatchModel", "cells", "()I"⟩, prog_14_method_50_code, 4, (Option.some Jvm.ClassFile.FieldType.int), 1, 21)
def md_Mod_patch : Md := (⟨"PegWatchModel", "patch", "(I)I"⟩, prog_14_method_66_code, 2, (Option.some Jvm.ClassFile.FieldType.int), 8, 183)
def md_Mod_goPlain : Md := (⟨"PegWatchModel", "goPlain", "()V"⟩, prog_14_method_64_code, 1, (Option.none : Option Jvm.ClassFile.FieldType), 7, 163)
def md_Mod_measure : Md := (⟨"PegWatchModel", "measure", "()V"⟩, prog_14_method_52_code, 3, (Option.none : Option Jvm.ClassFile.FieldType), 4, 91)
def md_Mod_goAll : Md := (⟨"PegWatchModel", "goAll", "(III)V"⟩, prog_14_method_63_code, 5, (Option.none : Option Jvm.ClassFile.FieldType), 6, 139)
def md_Mod_keep : Md := (⟨"PegWatchModel", "keep", "(I)V"⟩, prog_14_method_62_code, 3, (Option.none : Option Jvm.ClassFile.FieldType), 0, 0)
def md_Mod_step : Md := (⟨"PegWatchModel", "step", "(IIII)V"⟩, prog_14_method_61_code, 5, (Option.none : Option Jvm.ClassFile.FieldType), 5, 115)
def md_Mod_wayOf : Md := (⟨"PegWatchModel", "wayOf", "(IIII)V"⟩, prog_14_method_60_code, 7, (Option.none : Option Jvm.ClassFile.FieldType), 3, 75)
def md_Mod_eastLow : Md := (⟨"PegWatchModel", "eastLow", "()I"⟩, prog_14_method_56_code, 1, (Option.some Jvm.ClassFile.FieldType.int), 1, 22)
def md_Mod_eastHigh : Md := (⟨"PegWatchModel", "eastHigh", "()I"⟩, prog_14_method_57_code, 1, (Option.some Jvm.ClassFile.FieldType.int), 1, 22)
def md_Mod_northLow : Md := (⟨"PegWatchModel", "northLow", "()I"⟩, prog_14_method_58_code, 1, (Option.some Jvm.ClassFile.FieldType.int), 1, 22)
def md_Mod_northHigh : Md := (⟨"PegWatchModel", "northHigh", "()I"⟩, prog_14_method_59_code, 1, (Option.some Jvm.ClassFile.FieldType.int), 1, 22)
def md_Mod_dilate : Md := (⟨"PegWatchModel", "dilate", "(IIII)V"⟩, prog_14_method_51_code, 11, (Option.none : Option Jvm.ClassFile.FieldType), 1, 21)
def md_Mod_cutBy : Md := (⟨"PegWatchModel", "cutBy", "(I)V"⟩, prog_14_method_55_code, 4, (Option.none : Option Jvm.ClassFile.FieldType), 4, 92)
def md_Mod_isSign : Md := (⟨"PegWatchModel", "isSign", "(III)Z"⟩, prog_14_method_54_code, 6, (Option.some Jvm.ClassFile.FieldType.boolean), 3, 67)
def md_Mod_isNear : Md := (⟨"PegWatchModel", "isNear", "(III)Z"⟩, prog_14_method_53_code, 4, (Option.some Jvm.ClassFile.FieldType.boolean), 2, 44)
def md_Mod_lay : Md := (⟨"PegWatchModel", "lay", "(I)V"⟩, prog_14_method_65_code, 3, (Option.none : Option Jvm.ClassFile.FieldType), 0, 0)
def md_Mod_has : Md := (⟨"PegWatchModel", "has", "(III)I"⟩, prog_14_method_67_code, 4, (Option.some Jvm.ClassFile.FieldType.int), 8, 183)
def md_Mod_here : Md := (⟨"PegWatchModel", "here", "(I)I"⟩, prog_14_method_69_code, 2, (Option.some Jvm.ClassFile.FieldType.int), 9, 206)
def md_Mod_goBack : Md := (⟨"PegWatchModel", "goBack", "(I)V"⟩, prog_14_method_68_code, 4, (Option.none : Option Jvm.ClassFile.FieldType), 8, 183)
def md_Mod_was : Md := (⟨"PegWatchModel", "was", "(III)I"⟩, prog_14_method_70_code, 4, (Option.some Jvm.ClassFile.FieldType.int), 9, 206)
def md_Mod_blamed : Md := (⟨"PegWatchModel", "blamed", "()I"⟩, prog_14_method_76_code, 1, (Option.some Jvm.ClassFile.FieldType.int), 10, 233)
def md_Mod_isBlaming : Md := (⟨"PegWatchModel", "isBlaming", "()Z"⟩, prog_14_method_75_code, 1, (Option.some Jvm.ClassFile.FieldType.boolean), 7, 161)
def md_Mod_isEmptyNow : Md := (⟨"PegWatchModel", "isEmptyNow", "()Z"⟩, prog_14_method_71_code, 3, (Option.some Jvm.ClassFile.FieldType.boolean), 6, 139)
def md_Mod_seek : Md := (⟨"PegWatchModel", "seek", "(I)I"⟩, prog_14_method_73_code, 4, (Option.some Jvm.ClassFile.FieldType.int), 9, 210)
def md_Mod_helps : Md := (⟨"PegWatchModel", "helps", "(II)Z"⟩, prog_14_method_72_code, 6, (Option.some Jvm.ClassFile.FieldType.boolean), 7, 161)
def md_Mod_seekPairs : Md := (⟨"PegWatchModel", "seekPairs", "(I)I"⟩, prog_14_method_74_code, 5, (Option.some Jvm.ClassFile.FieldType.int), 8, 186)
def md_Mod_blame : Md := (⟨"PegWatchModel", "blame", "(I)I"⟩, prog_14_method_77_code, 2, (Option.some Jvm.ClassFile.FieldType.int), 10, 233)
def md_Mod_fits : Md := (⟨"PegWatchModel", "fits", "(II)I"⟩, prog_14_method_79_code, 3, (Option.some Jvm.ClassFile.FieldType.int), 8, 191)
def md_Mod_seekFits : Md := (⟨"PegWatchModel", "seekFits", "(III)I"⟩, prog_14_method_78_code, 9, (Option.some Jvm.ClassFile.FieldType.int), 7, 163)
def md_Mod_fit : Md := (⟨"PegWatchModel", "fit", "(III)I"⟩, prog_14_method_80_code, 4, (Option.some Jvm.ClassFile.FieldType.int), 8, 191)
def md_Mod_sights : Md := (⟨"PegWatchModel", "sights", "(IIIIIII)I"⟩, prog_14_method_84_code, 8, (Option.some Jvm.ClassFile.FieldType.int), 8, 183)
def md_Mod_isCourse : Md := (⟨"PegWatchModel", "isCourse", "(IIII)Z"⟩, prog_14_method_83_code, 4, (Option.some Jvm.ClassFile.FieldType.boolean), 1, 22)
def md_Mod_seesAt : Md := (⟨"PegWatchModel", "seesAt", "(IIIIIII)I"⟩, prog_14_method_82_code, 12, (Option.some Jvm.ClassFile.FieldType.int), 3, 67)
def md_Mod_up : Md := (⟨"PegWatchModel", "up", "(II)I"⟩, prog_14_method_81_code, 2, (Option.some Jvm.ClassFile.FieldType.int), 1, 22)
def md_Mod_sure : Md := (⟨"PegWatchModel", "sure", "(IIIII)I"⟩, prog_14_method_86_code, 6, (Option.some Jvm.ClassFile.FieldType.int), 8, 183)
def md_Mod_sureBy : Md := (⟨"PegWatchModel", "sureBy", "(IIIII)I"⟩, prog_14_method_85_code, 10, (Option.some Jvm.ClassFile.FieldType.int), 4, 98)
def md_Mod_course : Md := (⟨"PegWatchModel", "course", "(IIII)I"⟩, prog_14_method_87_code, 9, (Option.some Jvm.ClassFile.FieldType.int), 8, 183)
def md_Mod_many : Md := (⟨"PegWatchModel", "many", "(I)I"⟩, prog_14_method_89_code, 2, (Option.some Jvm.ClassFile.FieldType.int), 4, 89)
def md_Mod_landMany : Md := (⟨"PegWatchModel", "landMany", "()I"⟩, prog_14_method_88_code, 4, (Option.some Jvm.ClassFile.FieldType.int), 3, 66)
def md_Mod_digest : Md := (⟨"PegWatchModel", "digest", "()J"⟩, prog_14_method_93_code, 3, (Option.some Jvm.ClassFile.FieldType.long), 9, 204)
def md_Mod_mix : Md := (⟨"PegWatchModel", "mix", "(J)V"⟩, prog_14_method_90_code, 3, (Option.none : Option Jvm.ClassFile.FieldType), 0, 0)
def md_Mod_mixWatch : Md := (⟨"PegWatchModel", "mixWatch", "(I)V"⟩, prog_14_method_91_code, 3, (Option.none : Option Jvm.ClassFile.FieldType), 1, 22)
def md_Mod_mixChart : Md := (⟨"PegWatchModel", "mixChart", "()V"⟩, prog_14_method_92_code, 3, (Option.none : Option Jvm.ClassFile.FieldType), 1, 22)
def md_Law_law : Md := (⟨"PegWatchLaw", "law", "([I)Z"⟩, code, 4, (Option.some Jvm.ClassFile.FieldType.boolean), 11, 254)
