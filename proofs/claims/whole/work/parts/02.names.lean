/-! printed by wip/whole/gen.py: the classes, their fields, the kinds of cells, the references, the static arrays -/
def bt_nth {α : Type} (d : α) : List α → Nat → α
  | [], _ => d
  | a :: _, 0 => a
  | _ :: r, n + 1 => bt_nth d r n
def bt_R0 : String := "BellTrees"
def bt_T0 : u_T := fun k => bt_nth ("", "", "", false) [("BellTrees", "forest", "LBellTrees$Forest;", true), ("BellTrees", "law", "LBellTrees$Law;", true), ("BellTrees", "sounds", "LBellTrees$Sounds;", true), ("BellTrees", "otherSounds", "LBellTrees$Sounds;", true), ("BellTrees", "walks", "LBellTrees$Walks;", true), ("BellTrees", "changes", "LBellTrees$Changes;", true), ("BellTrees", "image", "LBellTrees$Image;", true), ("BellTrees", "bodies", "LBellTrees$Bodies;", true), ("BellTrees", "shelves", "[LBellTrees$Shelf;", true)] k
def bt_ty0 : Nat → FieldType := fun k => bt_nth .int [(.object "BellTrees$Forest"), (.object "BellTrees$Law"), (.object "BellTrees$Sounds"), (.object "BellTrees$Sounds"), (.object "BellTrees$Walks"), (.object "BellTrees$Changes"), (.object "BellTrees$Image"), (.object "BellTrees$Bodies"), (.array (.object "BellTrees$Shelf"))] k
theorem bt_nm0 : ∀ a, a < 9 → ∀ b, b < 9 → a ≠ b → (bt_T0 a).2.1 ≠ (bt_T0 b).2.1 := by decide +kernel
theorem bt_tyok0 : ∀ k, k < 9 → parseFieldDescriptor (bt_T0 k).2.2.1 = some (bt_ty0 k) := by decide +kernel
theorem bt_in0 : ∀ w ∈ u_ws bt_R0 bt_T0 9, w ∈ lw_tbl := by
  intro w hw
  obtain ⟨k, hk, rfl⟩ := List.mem_map.mp hw
  have hk := List.mem_range.mp hk
  have h : ∀ k, k < 9 → lw_tbl[bt_nth 0 [350, 352, 354, 356, 358, 360, 362, 364, 366] k]? = some (u_lay bt_R0 bt_T0 k) := by decide +kernel
  exact List.mem_of_getElem? (h k hk)
theorem bt_inst0 : Cond.instantiable bt_R0 9 ∈ lw_tbl := List.mem_of_getElem? (i := 116) (by decide +kernel)
def bt_R1 : String := "BellTrees$Forest"
def bt_T1 : u_T := fun k => bt_nth ("", "", "", false) [("BellTrees$Forest", "value", "[[I", true), ("BellTrees$Forest", "near", "[I", true), ("BellTrees$Forest", "far", "[I", true), ("BellTrees$Forest", "heard", "[I", true), ("BellTrees$Forest", "treesThere", "I", false), ("BellTrees$Forest", "pathsThere", "I", false), ("BellTrees$Forest", "walksMade", "I", false)] k
def bt_ty1 : Nat → FieldType := fun k => bt_nth .int [(.array (.array .int)), (.array .int), (.array .int), (.array .int), .int, .int, .int] k
theorem bt_nm1 : ∀ a, a < 7 → ∀ b, b < 7 → a ≠ b → (bt_T1 a).2.1 ≠ (bt_T1 b).2.1 := by decide +kernel
theorem bt_tyok1 : ∀ k, k < 7 → parseFieldDescriptor (bt_T1 k).2.2.1 = some (bt_ty1 k) := by decide +kernel
theorem bt_in1 : ∀ w ∈ u_ws bt_R1 bt_T1 7, w ∈ lw_tbl := by
  intro w hw
  obtain ⟨k, hk, rfl⟩ := List.mem_map.mp hw
  have hk := List.mem_range.mp hk
  have h : ∀ k, k < 7 → lw_tbl[bt_nth 0 [143, 145, 147, 149, 151, 153, 155] k]? = some (u_lay bt_R1 bt_T1 k) := by decide +kernel
  exact List.mem_of_getElem? (h k hk)
theorem bt_inst1 : Cond.instantiable bt_R1 7 ∈ lw_tbl := List.mem_of_getElem? (i := 124) (by decide +kernel)
def bt_R2 : String := "BellTrees$Law"
def bt_T2 : u_T := fun k => bt_nth ("", "", "", false) [("BellTrees$Law", "tape", "[I", true), ("BellTrees$Law", "draft", "[I", true), ("BellTrees$Law", "signs", "[I", true), ("BellTrees$Law", "stack", "[I", true), ("BellTrees$Law", "fed", "I", false), ("BellTrees$Law", "at", "I", false), ("BellTrees$Law", "drafted", "I", false), ("BellTrees$Law", "length", "I", false), ("BellTrees$Law", "top", "I", false), ("BellTrees$Law", "loud", "I", false), ("BellTrees$Law", "far", "I", false), ("BellTrees$Law", "wind", "I", false), ("BellTrees$Law", "pitch", "I", false), ("BellTrees$Law", "snow", "I", false), ("BellTrees$Law", "sort", "I", false)] k
def bt_ty2 : Nat → FieldType := fun k => bt_nth .int [(.array .int), (.array .int), (.array .int), (.array .int), .int, .int, .int, .int, .int, .int, .int, .int, .int, .int, .int] k
theorem bt_nm2 : ∀ a, a < 15 → ∀ b, b < 15 → a ≠ b → (bt_T2 a).2.1 ≠ (bt_T2 b).2.1 := by decide +kernel
theorem bt_tyok2 : ∀ k, k < 15 → parseFieldDescriptor (bt_T2 k).2.2.1 = some (bt_ty2 k) := by decide +kernel
theorem bt_in2 : ∀ w ∈ u_ws bt_R2 bt_T2 15, w ∈ lw_tbl := by
  intro w hw
  obtain ⟨k, hk, rfl⟩ := List.mem_map.mp hw
  have hk := List.mem_range.mp hk
  have h : ∀ k, k < 15 → lw_tbl[bt_nth 0 [180, 182, 184, 186, 188, 190, 192, 194, 196, 198, 200, 202, 204, 206, 208] k]? = some (u_lay bt_R2 bt_T2 k) := by decide +kernel
  exact List.mem_of_getElem? (h k hk)
theorem bt_inst2 : Cond.instantiable bt_R2 15 ∈ lw_tbl := List.mem_of_getElem? (i := 160) (by decide +kernel)
def bt_R3 : String := "BellTrees$Sounds"
def bt_T3 : u_T := fun k => bt_nth ("", "", "", false) [("BellTrees$Sounds", "forest", "LBellTrees$Forest;", true), ("BellTrees$Sounds", "law", "LBellTrees$Law;", true), ("BellTrees$Sounds", "sound", "[[I", true), ("BellTrees$Sounds", "heardIn", "[I", true)] k
def bt_ty3 : Nat → FieldType := fun k => bt_nth .int [(.object "BellTrees$Forest"), (.object "BellTrees$Law"), (.array (.array .int)), (.array .int)] k
theorem bt_nm3 : ∀ a, a < 4 → ∀ b, b < 4 → a ≠ b → (bt_T3 a).2.1 ≠ (bt_T3 b).2.1 := by decide +kernel
theorem bt_tyok3 : ∀ k, k < 4 → parseFieldDescriptor (bt_T3 k).2.2.1 = some (bt_ty3 k) := by decide +kernel
theorem bt_in3 : ∀ w ∈ u_ws bt_R3 bt_T3 4, w ∈ lw_tbl := by
  intro w hw
  obtain ⟨k, hk, rfl⟩ := List.mem_map.mp hw
  have hk := List.mem_range.mp hk
  have h : ∀ k, k < 4 → lw_tbl[bt_nth 0 [222, 224, 226, 228] k]? = some (u_lay bt_R3 bt_T3 k) := by decide +kernel
  exact List.mem_of_getElem? (h k hk)
theorem bt_inst3 : Cond.instantiable bt_R3 4 ∈ lw_tbl := List.mem_of_getElem? (i := 212) (by decide +kernel)
def bt_R4 : String := "BellTrees$Walks"
def bt_T4 : u_T := fun k => bt_nth ("", "", "", false) [("BellTrees$Walks", "forest", "LBellTrees$Forest;", true), ("BellTrees$Walks", "onward", "[[I", true)] k
def bt_ty4 : Nat → FieldType := fun k => bt_nth .int [(.object "BellTrees$Forest"), (.array (.array .int))] k
theorem bt_nm4 : ∀ a, a < 2 → ∀ b, b < 2 → a ≠ b → (bt_T4 a).2.1 ≠ (bt_T4 b).2.1 := by decide +kernel
theorem bt_tyok4 : ∀ k, k < 2 → parseFieldDescriptor (bt_T4 k).2.2.1 = some (bt_ty4 k) := by decide +kernel
theorem bt_in4 : ∀ w ∈ u_ws bt_R4 bt_T4 2, w ∈ lw_tbl := by
  intro w hw
  obtain ⟨k, hk, rfl⟩ := List.mem_map.mp hw
  have hk := List.mem_range.mp hk
  have h : ∀ k, k < 2 → lw_tbl[bt_nth 0 [240, 242] k]? = some (u_lay bt_R4 bt_T4 k) := by decide +kernel
  exact List.mem_of_getElem? (h k hk)
theorem bt_inst4 : Cond.instantiable bt_R4 2 ∈ lw_tbl := List.mem_of_getElem? (i := 232) (by decide +kernel)
def bt_R5 : String := "BellTrees$Changes"
def bt_T5 : u_T := fun k => bt_nth ("", "", "", false) [("BellTrees$Changes", "what", "[I", true), ("BellTrees$Changes", "number", "[I", true), ("BellTrees$Changes", "was", "[I", true), ("BellTrees$Changes", "became", "[I", true), ("BellTrees$Changes", "done", "I", false), ("BellTrees$Changes", "kept", "I", false)] k
def bt_ty5 : Nat → FieldType := fun k => bt_nth .int [(.array .int), (.array .int), (.array .int), (.array .int), .int, .int] k
theorem bt_nm5 : ∀ a, a < 6 → ∀ b, b < 6 → a ≠ b → (bt_T5 a).2.1 ≠ (bt_T5 b).2.1 := by decide +kernel
theorem bt_tyok5 : ∀ k, k < 6 → parseFieldDescriptor (bt_T5 k).2.2.1 = some (bt_ty5 k) := by decide +kernel
theorem bt_in5 : ∀ w ∈ u_ws bt_R5 bt_T5 6, w ∈ lw_tbl := by
  intro w hw
  obtain ⟨k, hk, rfl⟩ := List.mem_map.mp hw
  have hk := List.mem_range.mp hk
  have h : ∀ k, k < 6 → lw_tbl[bt_nth 0 [257, 259, 261, 263, 265, 267] k]? = some (u_lay bt_R5 bt_T5 k) := by decide +kernel
  exact List.mem_of_getElem? (h k hk)
theorem bt_inst5 : Cond.instantiable bt_R5 6 ∈ lw_tbl := List.mem_of_getElem? (i := 246) (by decide +kernel)
def bt_R6 : String := "BellTrees$Image"
def bt_T6 : u_T := fun k => bt_nth ("", "", "", false) [("BellTrees$Image", "pitch", "[I", true), ("BellTrees$Image", "hangs", "[I", true), ("BellTrees$Image", "there", "[I", true), ("BellTrees$Image", "heard", "[I", true), ("BellTrees$Image", "stands", "Z", false), ("BellTrees$Image", "treesKnown", "I", false), ("BellTrees$Image", "walksKnown", "I", false)] k
def bt_ty6 : Nat → FieldType := fun k => bt_nth .int [(.array .int), (.array .int), (.array .int), (.array .int), .boolean, .int, .int] k
theorem bt_nm6 : ∀ a, a < 7 → ∀ b, b < 7 → a ≠ b → (bt_T6 a).2.1 ≠ (bt_T6 b).2.1 := by decide +kernel
theorem bt_tyok6 : ∀ k, k < 7 → parseFieldDescriptor (bt_T6 k).2.2.1 = some (bt_ty6 k) := by decide +kernel
theorem bt_in6 : ∀ w ∈ u_ws bt_R6 bt_T6 7, w ∈ lw_tbl := by
  intro w hw
  obtain ⟨k, hk, rfl⟩ := List.mem_map.mp hw
  have hk := List.mem_range.mp hk
  have h : ∀ k, k < 7 → lw_tbl[bt_nth 0 [283, 285, 287, 289, 291, 293, 295] k]? = some (u_lay bt_R6 bt_T6 k) := by decide +kernel
  exact List.mem_of_getElem? (h k hk)
theorem bt_inst6 : Cond.instantiable bt_R6 7 ∈ lw_tbl := List.mem_of_getElem? (i := 271) (by decide +kernel)
def bt_R7 : String := "BellTrees$Bodies"
def bt_T7 : u_T := fun k => bt_nth ("", "", "", false) [("BellTrees$Bodies", "kinds", "[I", true), ("BellTrees$Bodies", "ranFirst", "[I", true), ("BellTrees$Bodies", "bodiesKept", "I", false), ("BellTrees$Bodies", "ran", "I", false), ("BellTrees$Bodies", "actor", "I", false)] k
def bt_ty7 : Nat → FieldType := fun k => bt_nth .int [(.array .int), (.array .int), .int, .int, .int] k
theorem bt_nm7 : ∀ a, a < 5 → ∀ b, b < 5 → a ≠ b → (bt_T7 a).2.1 ≠ (bt_T7 b).2.1 := by decide +kernel
theorem bt_tyok7 : ∀ k, k < 5 → parseFieldDescriptor (bt_T7 k).2.2.1 = some (bt_ty7 k) := by decide +kernel
theorem bt_in7 : ∀ w ∈ u_ws bt_R7 bt_T7 5, w ∈ lw_tbl := by
  intro w hw
  obtain ⟨k, hk, rfl⟩ := List.mem_map.mp hw
  have hk := List.mem_range.mp hk
  have h : ∀ k, k < 5 → lw_tbl[bt_nth 0 [309, 311, 313, 315, 317] k]? = some (u_lay bt_R7 bt_T7 k) := by decide +kernel
  exact List.mem_of_getElem? (h k hk)
theorem bt_inst7 : Cond.instantiable bt_R7 5 ∈ lw_tbl := List.mem_of_getElem? (i := 299) (by decide +kernel)
def bt_R8 : String := "BellTrees$Shelf"
def bt_T8 : u_T := fun k => bt_nth ("", "", "", false) [("BellTrees$Shelf", "elements", "[J", true), ("BellTrees$Shelf", "heldBody", "I", false), ("BellTrees$Shelf", "rowSort", "I", false), ("BellTrees$Shelf", "size", "I", false)] k
def bt_ty8 : Nat → FieldType := fun k => bt_nth .int [(.array .long), .int, .int, .int] k
theorem bt_nm8 : ∀ a, a < 4 → ∀ b, b < 4 → a ≠ b → (bt_T8 a).2.1 ≠ (bt_T8 b).2.1 := by decide +kernel
theorem bt_tyok8 : ∀ k, k < 4 → parseFieldDescriptor (bt_T8 k).2.2.1 = some (bt_ty8 k) := by decide +kernel
theorem bt_in8 : ∀ w ∈ u_ws bt_R8 bt_T8 4, w ∈ lw_tbl := by
  intro w hw
  obtain ⟨k, hk, rfl⟩ := List.mem_map.mp hw
  have hk := List.mem_range.mp hk
  have h : ∀ k, k < 4 → lw_tbl[bt_nth 0 [331, 333, 335, 337] k]? = some (u_lay bt_R8 bt_T8 k) := by decide +kernel
  exact List.mem_of_getElem? (h k hk)
theorem bt_inst8 : Cond.instantiable bt_R8 4 ∈ lw_tbl := List.mem_of_getElem? (i := 322) (by decide +kernel)
def bt_R9 : String := "BellTreesModel"
def bt_T9 : u_T := fun k => bt_nth ("", "", "", false) [("BellTreesModel", "code", "I", false), ("BellTreesModel", "trees", "I", false), ("BellTreesModel", "pitch", "[I", true), ("BellTreesModel", "loud", "[I", true), ("BellTreesModel", "hangs", "[I", true), ("BellTreesModel", "there", "[I", true), ("BellTreesModel", "beside", "[I", true), ("BellTreesModel", "heard", "[I", true), ("BellTreesModel", "paths", "I", false), ("BellTreesModel", "walks", "I", false), ("BellTreesModel", "wind", "[I", true), ("BellTreesModel", "height", "[I", true), ("BellTreesModel", "snow", "I", false), ("BellTreesModel", "hut", "I", false), ("BellTreesModel", "doneMany", "I", false), ("BellTreesModel", "undoneMany", "I", false), ("BellTreesModel", "changeOf", "[I", true), ("BellTreesModel", "changeAt", "[I", true), ("BellTreesModel", "before", "[I", true), ("BellTreesModel", "behind", "[I", true), ("BellTreesModel", "far", "[I", true), ("BellTreesModel", "tape", "[B", true), ("BellTreesModel", "taped", "I", false), ("BellTreesModel", "here", "I", false), ("BellTreesModel", "fault", "I", false), ("BellTreesModel", "open", "I", false), ("BellTreesModel", "laid", "I", false), ("BellTreesModel", "act", "[B", true), ("BellTreesModel", "with", "[I", true), ("BellTreesModel", "lineMany", "[I", true), ("BellTreesModel", "testEnd", "[S", true), ("BellTreesModel", "lineEnd", "[S", true), ("BellTreesModel", "facts", "[I", true), ("BellTreesModel", "pile", "[I", true), ("BellTreesModel", "hasLaw", "Z", false), ("BellTreesModel", "onward", "[J", true), ("BellTreesModel", "upTo", "[J", true), ("BellTreesModel", "least1", "[I", true), ("BellTreesModel", "drawn", "I", false), ("BellTreesModel", "keptTrees", "I", false), ("BellTreesModel", "keptWalks", "I", false), ("BellTreesModel", "keptPitch", "[I", true), ("BellTreesModel", "keptHangs", "[I", true), ("BellTreesModel", "keptThere", "[I", true), ("BellTreesModel", "keptHeard", "[I", true), ("BellTreesModel", "bodies", "I", false), ("BellTreesModel", "kind", "[I", true), ("BellTreesModel", "traces", "I", false), ("BellTreesModel", "traced", "[I", true), ("BellTreesModel", "holds", "[I", true), ("BellTreesModel", "size", "[I", true), ("BellTreesModel", "elements", "[J", true), ("BellTreesModel", "shifted", "[J", true)] k
def bt_ty9 : Nat → FieldType := fun k => bt_nth .int [.int, .int, (.array .int), (.array .int), (.array .int), (.array .int), (.array .int), (.array .int), .int, .int, (.array .int), (.array .int), .int, .int, .int, .int, (.array .int), (.array .int), (.array .int), (.array .int), (.array .int), (.array .byte), .int, .int, .int, .int, .int, (.array .byte), (.array .int), (.array .int), (.array .short), (.array .short), (.array .int), (.array .int), .boolean, (.array .long), (.array .long), (.array .int), .int, .int, .int, (.array .int), (.array .int), (.array .int), (.array .int), .int, (.array .int), .int, (.array .int), (.array .int), (.array .int), (.array .long), (.array .long)] k
theorem bt_nm9 : ∀ a, a < 53 → ∀ b, b < 53 → a ≠ b → (bt_T9 a).2.1 ≠ (bt_T9 b).2.1 := by decide +kernel
theorem bt_tyok9 : ∀ k, k < 53 → parseFieldDescriptor (bt_T9 k).2.2.1 = some (bt_ty9 k) := by decide +kernel
theorem bt_in9 : ∀ w ∈ u_ws bt_R9 bt_T9 53, w ∈ lw_tbl := by
  intro w hw
  obtain ⟨k, hk, rfl⟩ := List.mem_map.mp hw
  have hk := List.mem_range.mp hk
  have h : ∀ k, k < 53 → lw_tbl[bt_nth 0 [1090, 1092, 1094, 1096, 1098, 1100, 1102, 1104, 1106, 1108, 1110, 1112, 1114, 1116, 1118, 1120, 1122, 1124, 1126, 1128, 1130, 1132, 1134, 1136, 1138, 1140, 1142, 1144, 1146, 1148, 1150, 1152, 1154, 1156, 1158, 1160, 1162, 1164, 1166, 1168, 1170, 1172, 1174, 1176, 1178, 1180, 1182, 1184, 1186, 1188, 1190, 1192, 1194] k]? = some (u_lay bt_R9 bt_T9 k) := by decide +kernel
  exact List.mem_of_getElem? (h k hk)
theorem bt_inst9 : Cond.instantiable bt_R9 53 ∈ lw_tbl := List.mem_of_getElem? (i := 1033) (by decide +kernel)
abbrev bt_cl : List vw_C := [(bt_R0, bt_T0, 9), (bt_R1, bt_T1, 7), (bt_R2, bt_T2, 15), (bt_R3, bt_T3, 4), (bt_R4, bt_T4, 2), (bt_R5, bt_T5, 6), (bt_R6, bt_T6, 7), (bt_R7, bt_T7, 5), (bt_R8, bt_T8, 4), (bt_R9, bt_T9, 53)]
/-- what a field is: 0 int, 1 boolean, 2 a reference -/
def bt_fk (c j : Nat) : Nat := bt_nth 9 (bt_nth [] [[2, 2, 2, 2, 2, 2, 2, 2, 2], [2, 2, 2, 2, 0, 0, 0], [2, 2, 2, 2, 0, 0, 0, 0, 0, 0, 0, 0, 0, 0, 0], [2, 2, 2, 2], [2, 2], [2, 2, 2, 2, 0, 0], [2, 2, 2, 2, 1, 0, 0], [2, 2, 0, 0, 0], [2, 0, 0, 0], [0, 0, 2, 2, 2, 2, 2, 2, 0, 0, 2, 2, 0, 0, 0, 0, 2, 2, 2, 2, 2, 2, 0, 0, 0, 0, 0, 2, 2, 2, 2, 2, 2, 2, 1, 2, 2, 2, 0, 0, 0, 2, 2, 2, 2, 0, 2, 0, 2, 2, 2, 2, 2]] c) j
def bt_nf (c : Nat) : Nat := bt_nth 0 [9, 7, 15, 4, 2, 6, 7, 5, 4, 53] c
-- kinds: 0 BellTrees, 1 Forest, 2 value, 3 value rows, 4 near, 5 far, 6 heard, 7 Law, 8 tape, 9 draft, 10 signs, 11 stack, 12 Sounds, 13 sound, 14 sound rows, 15 heardIn, 16 Walks, 17 onward, 18 onward rows, 19 Changes, 20 what, 21 number, 22 was, 23 became, 24 Image, 25 i.pitch, 26 i.hangs, 27 i.there, 28 i.heard, 29 Bodies, 30 kinds, 31 ranFirst, 32 shelves, 33 Shelf, 34 elements, 35 Model, 36 m.pitch, 37 m.loud, 38 m.hangs, 39 m.there, 40 m.beside, 41 m.heard, 42 m.wind, 43 m.height, 44 m.changeOf, 45 m.changeAt, 46 m.before, 47 m.behind, 48 m.far, 49 m.tape, 50 m.act, 51 m.with, 52 m.lineMany, 53 m.testEnd, 54 m.lineEnd, 55 m.facts, 56 m.pile, 57 m.onward, 58 m.upTo, 59 m.least1, 60 m.keptPitch, 61 m.keptHangs, 62 m.keptThere, 63 m.keptHeard, 64 m.kind, 65 m.traced, 66 m.holds, 67 m.size, 68 m.elements, 69 m.shifted
/-- the shape of a kind: 0 an object of the c-th of bt_cl; 1 ints, 2 longs, 3 bytes, 4 shorts, 5 rows of ints, 6 Shelf; how long -/
def bt_shp (k : Nat) : Nat × Nat := bt_nth (9, 0) [(0, 0), (0, 1), (5, 8), (1, 24), (1, 8), (1, 8), (1, 8), (0, 2), (1, 120), (1, 128), (1, 128), (1, 128), (0, 3), (5, 8), (1, 24), (1, 10), (0, 4), (5, 24), (1, 8), (0, 5), (1, 40), (1, 40), (1, 40), (1, 40), (0, 6), (1, 8), (1, 8), (1, 8), (1, 8), (0, 7), (1, 50), (1, 24), (6, 6), (0, 8), (2, 60), (0, 9), (1, 8), (1, 8), (1, 8), (1, 8), (1, 8), (1, 8), (1, 24), (1, 4), (1, 40), (1, 40), (1, 40), (1, 40), (1, 8), (3, 120), (3, 260), (1, 260), (1, 2), (4, 122), (4, 122), (1, 6), (1, 130), (2, 200), (2, 192), (1, 192), (1, 8), (1, 8), (1, 8), (1, 8), (1, 50), (1, 24), (1, 6), (1, 6), (2, 360), (2, 60)] k
def bt_cntL : List Nat := [1, 1, 1, 8, 1, 1, 1, 1, 1, 1, 1, 1, 2, 2, 16, 2, 1, 1, 24, 1, 1, 1, 1, 1, 1, 1, 1, 1, 1, 1, 1, 1, 1, 6, 6, 1, 1, 1, 1, 1, 1, 1, 1, 1, 1, 1, 1, 1, 1, 1, 1, 1, 1, 1, 1, 1, 1, 1, 1, 1, 1, 1, 1, 1, 1, 1, 1, 1, 1, 1]
/-- how many cells of a kind there are (100 on: the static arrays) -/
def bt_cnt (k : Nat) : Nat := bt_nth 0 bt_cntL k
def bt_NK : Nat := 70
def bt_bas (k : Nat) : Nat := bt_nth 0 [0, 1, 2, 3, 11, 12, 13, 14, 15, 16, 17, 18, 19, 21, 23, 39, 41, 42, 43, 67, 68, 69, 70, 71, 72, 73, 74, 75, 76, 77, 78, 79, 80, 81, 87, 93, 94, 95, 96, 97, 98, 99, 100, 101, 102, 103, 104, 105, 106, 107, 108, 109, 110, 111, 112, 113, 114, 115, 116, 117, 118, 119, 120, 121, 122, 123, 124, 125, 126, 127] k
def bt_NMS : List (Nat × Nat) := (List.range bt_NK).flatMap (fun k => (List.range (bt_cnt k)).map (fun i => (k, i)))
def bt_RF (k i j : Nat) : Option (Nat × Nat) := bt_nth (fun _ _ => none) [fun i j => bt_nth none [some (1, 0), some (7, 0), some (12, 0), some (12, 1), some (16, 0), some (19, 0), some (24, 0), some (29, 0), some (32, 0)] j, fun i j => bt_nth none [some (2, 0), some (4, 0), some (5, 0), some (6, 0), none, none, none] j, fun _ j => some (3, j), fun _ _ => none, fun _ _ => none, fun _ _ => none, fun _ _ => none, fun i j => bt_nth none [some (8, 0), some (9, 0), some (10, 0), some (11, 0), none, none, none, none, none, none, none, none, none, none, none] j, fun _ _ => none, fun _ _ => none, fun _ _ => none, fun _ _ => none, fun i j => bt_nth none [some (1, 0), some (7, 0), some (13, i), some (15, i)] j, fun i j => some (14, 8 * i + j), fun _ _ => none, fun _ _ => none, fun i j => bt_nth none [some (1, 0), some (17, 0)] j, fun _ j => some (18, j), fun _ _ => none, fun i j => bt_nth none [some (20, 0), some (21, 0), some (22, 0), some (23, 0), none, none] j, fun _ _ => none, fun _ _ => none, fun _ _ => none, fun _ _ => none, fun i j => bt_nth none [some (25, 0), some (26, 0), some (27, 0), some (28, 0), none, none, none] j, fun _ _ => none, fun _ _ => none, fun _ _ => none, fun _ _ => none, fun i j => bt_nth none [some (30, 0), some (31, 0), none, none, none] j, fun _ _ => none, fun _ _ => none, fun _ j => some (33, j), fun i j => bt_nth none [some (34, i), none, none, none] j, fun _ _ => none, fun i j => bt_nth none [none, none, some (36, 0), some (37, 0), some (38, 0), some (39, 0), some (40, 0), some (41, 0), none, none, some (42, 0), some (43, 0), none, none, none, none, some (44, 0), some (45, 0), some (46, 0), some (47, 0), some (48, 0), some (49, 0), none, none, none, none, none, some (50, 0), some (51, 0), some (52, 0), some (53, 0), some (54, 0), some (55, 0), some (56, 0), none, some (57, 0), some (58, 0), some (59, 0), none, none, none, some (60, 0), some (61, 0), some (62, 0), some (63, 0), none, some (64, 0), none, some (65, 0), some (66, 0), some (67, 0), some (68, 0), some (69, 0)] j, fun _ _ => none, fun _ _ => none, fun _ _ => none, fun _ _ => none, fun _ _ => none, fun _ _ => none, fun _ _ => none, fun _ _ => none, fun _ _ => none, fun _ _ => none, fun _ _ => none, fun _ _ => none, fun _ _ => none, fun _ _ => none, fun _ _ => none, fun _ _ => none, fun _ _ => none, fun _ _ => none, fun _ _ => none, fun _ _ => none, fun _ _ => none, fun _ _ => none, fun _ _ => none, fun _ _ => none, fun _ _ => none, fun _ _ => none, fun _ _ => none, fun _ _ => none, fun _ _ => none, fun _ _ => none, fun _ _ => none, fun _ _ => none, fun _ _ => none, fun _ _ => none] k i j
def bt_SC (j : Nat) : String × String := bt_nth ("", "") [("BellTrees$Forest", "MOST"), ("BellTrees$Bodies", "ABOVE"), ("BellTrees$Bodies", "OWN")] j
def bt_SN (j : Nat) : Nat := bt_nth 0 [8, 8, 32] j
def bt_SV (j i : Nat) : Int32 := bt_nth 0 (bt_nth [] [[9, 9, 9, 1, 9, 9, 9, 7], [-1, 0, 0, 2, 1, 3, 0, 6], [1, 10, 11, 2, 20, 0, 0, 0, 0, 30, 0, 0, 0, 41, 40, 0, 0, 0, 0, 50, 0, 0, 60, 61, 70, 0, 0, 0, 81, 80, 0, 0]] j) i
theorem bt_pos : ∀ k, k < 70 → ∀ i, i < bt_cnt k → bt_NMS[bt_bas k + i]? = some (k, i) := by decide +kernel
theorem bt_cnt_big (k : Nat) (h : 70 ≤ k) : bt_cnt k = 0 := by
  have e : k = (k - 70) + 70 := by omega
  rw [e]; rfl
theorem bt_mem_ok : ∀ q ∈ bt_NMS, q.1 < 70 ∧ q.2 < bt_cnt q.1 := by decide +kernel
