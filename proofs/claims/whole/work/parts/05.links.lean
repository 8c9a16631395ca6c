/-! the words that the program rests on: written by wip/gen/links.py -/
def gtbl : List Cond := lw_tbl.filter goodWord
theorem gt_of {w : Cond} (h : w ∈ tables_1) (hg : goodWord w = true) : w ∈ gtbl := List.mem_filter.mpr ⟨List.mem_append_right _ h, hg⟩
theorem gt_sel {y : MethodName} {n : Nat} (h : (y, n) ∈ lw_privs) (hg : goodWord (.selects y.cls y y) = true) : Cond.selects y.cls y y ∈ gtbl := List.mem_filter.mpr ⟨List.mem_append_left _ (List.mem_map.mpr ⟨(y, n), h, rfl⟩), hg⟩
theorem gt_good {w : Cond} (h : w ∈ gtbl) : (w.onTables && w.keeps) = true ∨ ∃ ty, w = .arrayClass ty := good_of_word (List.mem_filter.mp h).2
def ej_at (n : Nat) (w : Cond) : Bool := decide (tables_1[n]? = some w)
theorem at_mem {n : Nat} {w : Cond} (h : ej_at n w = true) : w ∈ tables_1 := List.mem_of_getElem? (of_decide_eq_true h)
def ej_flds : List (List (String × String × String × Bool)) := [[("FeignedSuit$Clerk", "bytes", "[I", true), ("FeignedSuit$Clerk", "length", "I", false), ("FeignedSuit$Clerk", "at", "I", false), ("FeignedSuit$Clerk", "fault", "I", false), ("FeignedSuit$Clerk", "seenWords", "I", false), ("FeignedSuit$Clerk", "facts", "[I", true), ("FeignedSuit$Clerk", "cells", "I", false), ("FeignedSuit$Clerk", "turns", "[I", true), ("FeignedSuit$Clerk", "turnCells", "I", false), ("FeignedSuit$Clerk", "waiting", "[I", true), ("FeignedSuit$Clerk", "waits", "I", false), ("FeignedSuit$Clerk", "depth", "I", false), ("FeignedSuit$Clerk", "brackets", "I", false), ("FeignedSuit$Clerk", "begins", "[I", true), ("FeignedSuit$Clerk", "yesHoles", "[I", true), ("FeignedSuit$Clerk", "noHoles", "[I", true), ("FeignedSuit$Clerk", "pieces", "I", false)],
  [("FeignedSuit$Hunt", "most", "I", true), ("FeignedSuit$Hunt", "shift", "I", true), ("FeignedSuit$Hunt", "state", "[I", true), ("FeignedSuit$Hunt", "link", "[I", true), ("FeignedSuit$Hunt", "slots", "[I", true), ("FeignedSuit$Hunt", "states", "I", false), ("FeignedSuit$Hunt", "passed", "I", false), ("FeignedSuit$Hunt", "standing", "I", false)],
  [("FeignedSuit$Judgment", "terms", "LFeignedSuit$Terms;", true), ("FeignedSuit$Judgment", "start", "I", false), ("FeignedSuit$Judgment", "state", "I", false), ("FeignedSuit$Judgment", "made", "I", false), ("FeignedSuit$Judgment", "fees", "I", false), ("FeignedSuit$Judgment", "days", "I", false)],
  [("FeignedSuit$Land", "writs", "[LFeignedSuit$Writ;", true), ("FeignedSuit$Land", "told", "[I", true), ("FeignedSuit$Land", "opens", "[I", true), ("FeignedSuit$Land", "shuts", "[I", true), ("FeignedSuit$Land", "stopsInForce", "I", false), ("FeignedSuit$Land", "holders", "[I", true), ("FeignedSuit$Land", "rolls", "LFeignedSuit$Rolls;", true), ("FeignedSuit$Land", "search", "LFeignedSuit$Hunt;", false), ("FeignedSuit$Land", "searchGift", "I", false), ("FeignedSuit$Land", "searchWish", "I", false), ("FeignedSuit$Land", "searchYear", "I", false)],
  [("FeignedSuit$Rolls", "told", "I", false), ("FeignedSuit$Rolls", "gift", "[I", true), ("FeignedSuit$Rolls", "year", "[I", true), ("FeignedSuit$Rolls", "entries", "[I", true), ("FeignedSuit$Rolls", "moves", "[I", true)],
  [("FeignedSuit$Scales", "weight", "[I", true), ("FeignedSuit$Scales", "done", "[Z", true)],
  [("FeignedSuit$Terms", "gift", "LFeignedSuit$Writ;", false), ("FeignedSuit$Terms", "wish", "LFeignedSuit$Writ;", false), ("FeignedSuit$Terms", "moves", "J", false), ("FeignedSuit$Terms", "stops", "I", false), ("FeignedSuit$Terms", "trusted", "I", false)],
  [("FeignedSuit$Writ", "gives", "I", false), ("FeignedSuit$Writ", "ends", "I", false), ("FeignedSuit$Writ", "days", "I", false), ("FeignedSuit$Writ", "fee", "I", false), ("FeignedSuit$Writ", "lenders", "I", false), ("FeignedSuit$Writ", "entry", "I", false), ("FeignedSuit$Writ", "facts", "[I", false), ("FeignedSuit$Writ", "turns", "[I", false)],
  [("FeignedSuit", "tape", "[I", true), ("FeignedSuit", "tapeLength", "I", false), ("FeignedSuit", "clerk", "LFeignedSuit$Clerk;", true), ("FeignedSuit", "land", "LFeignedSuit$Land;", true), ("FeignedSuit", "marks", "[LFeignedSuit$Land;", true), ("FeignedSuit", "terms", "LFeignedSuit$Terms;", true), ("FeignedSuit", "hunt", "LFeignedSuit$Hunt;", true), ("FeignedSuit", "scales", "LFeignedSuit$Scales;", true), ("FeignedSuit", "judgment", "LFeignedSuit$Judgment;", true)],
  [("FeignedSuitModel", "thrown", "I", false), ("FeignedSuitModel", "taped", "I", false), ("FeignedSuitModel", "p", "I", false), ("FeignedSuitModel", "fault", "I", false), ("FeignedSuitModel", "slot", "I", false), ("FeignedSuitModel", "entries", "I", false), ("FeignedSuitModel", "deep", "I", false), ("FeignedSuitModel", "counted", "I", false), ("FeignedSuitModel", "opened", "I", false), ("FeignedSuitModel", "forced", "I", false), ("FeignedSuitModel", "tape", "[B", true), ("FeignedSuitModel", "many", "[I", true), ("FeignedSuitModel", "sort", "[I", true), ("FeignedSuitModel", "number", "[I", true), ("FeignedSuitModel", "clauses", "[I", true), ("FeignedSuitModel", "tells", "[I", true), ("FeignedSuitModel", "worth", "[I", true), ("FeignedSuitModel", "testAt", "[I", true), ("FeignedSuitModel", "endAt", "[I", true), ("FeignedSuitModel", "open", "[I", true), ("FeignedSuitModel", "from", "[I", true), ("FeignedSuitModel", "till", "[I", true), ("FeignedSuitModel", "held", "[I", true), ("FeignedSuitModel", "stack", "[Z", true), ("FeignedSuitModel", "placeState", "[I", true), ("FeignedSuitModel", "placeMark", "[I", true), ("FeignedSuitModel", "placeAt", "[I", true), ("FeignedSuitModel", "marker", "I", false), ("FeignedSuitModel", "metState", "[I", true), ("FeignedSuitModel", "metFrom", "[I", true), ("FeignedSuitModel", "metBy", "[I", true), ("FeignedSuitModel", "status", "I", false), ("FeignedSuitModel", "met", "I", false), ("FeignedSuitModel", "gone", "I", false), ("FeignedSuitModel", "searchGift", "I", false), ("FeignedSuitModel", "searchWish", "I", false), ("FeignedSuitModel", "searchYear", "I", false), ("FeignedSuitModel", "foundAt", "I", false), ("FeignedSuitModel", "few", "[I", true), ("FeignedSuitModel", "fewDeep", "[I", true), ("FeignedSuitModel", "lenders", "I", false), ("FeignedSuitModel", "without", "I", false), ("FeignedSuitModel", "trusted", "I", false), ("FeignedSuitModel", "deepest", "I", false), ("FeignedSuitModel", "fewMany", "I", false), ("FeignedSuitModel", "way", "[I", true), ("FeignedSuitModel", "isDone", "[Z", true), ("FeignedSuitModel", "rolls", "I", false), ("FeignedSuitModel", "rollGift", "[I", true), ("FeignedSuitModel", "rollYear", "[I", true), ("FeignedSuitModel", "rollMany", "[I", true), ("FeignedSuitModel", "rollMove", "[I", true), ("FeignedSuitModel", "broken", "I", false), ("FeignedSuitModel", "reachedState", "I", false), ("FeignedSuitModel", "marks", "[I", true), ("FeignedSuitModel", "scalars", "[I", true), ("FeignedSuitModel", "isMarked", "[Z", true), ("FeignedSuitModel", "markAt", "I", false), ("FeignedSuitModel", "isBack", "Z", false)]]
def TT (c : Nat) : u_T := fun k => (ej_flds.getD c []).getD k ("", "", "", false)
def ej_nn : List Nat := [17, 8, 6, 11, 5, 2, 5, 8, 9, 59]
def NN (c : Nat) : Nat := ej_nn.getD c 0
def ej_ftys : List (List FieldType) := [[.array .int, .int, .int, .int, .int, .array .int, .int, .array .int, .int, .array .int, .int, .int, .int, .array .int, .array .int, .array .int, .int],
  [.int, .int, .array .int, .array .int, .array .int, .int, .int, .int],
  [.object "FeignedSuit$Terms", .int, .int, .int, .int, .int],
  [.array (.object "FeignedSuit$Writ"), .array .int, .array .int, .array .int, .int, .array .int, .object "FeignedSuit$Rolls", .object "FeignedSuit$Hunt", .int, .int, .int],
  [.int, .array .int, .array .int, .array .int, .array .int],
  [.array .int, .array .boolean],
  [.object "FeignedSuit$Writ", .object "FeignedSuit$Writ", .long, .int, .int],
  [.int, .int, .int, .int, .int, .int, .array .int, .array .int],
  [.array .int, .int, .object "FeignedSuit$Clerk", .object "FeignedSuit$Land", .array (.object "FeignedSuit$Land"), .object "FeignedSuit$Terms", .object "FeignedSuit$Hunt", .object "FeignedSuit$Scales", .object "FeignedSuit$Judgment"],
  [.int, .int, .int, .int, .int, .int, .int, .int, .int, .int, .array .byte, .array .int, .array .int, .array .int, .array .int, .array .int, .array .int, .array .int, .array .int, .array .int, .array .int, .array .int, .array .int, .array .boolean, .array .int, .array .int, .array .int, .int, .array .int, .array .int, .array .int, .int, .int, .int, .int, .int, .int, .int, .array .int, .array .int, .int, .int, .int, .int, .int, .array .int, .array .boolean, .int, .array .int, .array .int, .array .int, .array .int, .int, .int, .array .int, .array .int, .array .boolean, .int, .boolean]]
def fty (c k : Nat) : FieldType := (ej_ftys.getD c []).getD k .int
/-- 0 int, 1 long, 2 reference, 3 boolean -/
def ej_fcs : List (List Nat) := [[2, 0, 0, 0, 0, 2, 0, 2, 0, 2, 0, 0, 0, 2, 2, 2, 0], [0, 0, 2, 2, 2, 0, 0, 0], [2, 0, 0, 0, 0, 0], [2, 2, 2, 2, 0, 2, 2, 2, 0, 0, 0], [0, 2, 2, 2, 2], [2, 2], [2, 2, 1, 0, 0], [0, 0, 0, 0, 0, 0, 2, 2], [2, 0, 2, 2, 2, 2, 2, 2, 2], [0, 0, 0, 0, 0, 0, 0, 0, 0, 0, 2, 2, 2, 2, 2, 2, 2, 2, 2, 2, 2, 2, 2, 2, 2, 2, 2, 0, 2, 2, 2, 0, 0, 0, 0, 0, 0, 0, 2, 2, 0, 0, 0, 0, 0, 2, 2, 0, 2, 2, 2, 2, 0, 0, 2, 2, 2, 0, 3]]
def fcd (c k : Nat) : Nat := (ej_fcs.getD c []).getD k 0
theorem fty_ok : ∀ c, c < 10 → ∀ k, k < NN c → parseFieldDescriptor (TT c k).2.2.1 = some (fty c k) := by decide +kernel
theorem fnm_ok : ∀ c, c < 10 → ∀ a, a < NN c → ∀ b, b < NN c → a ≠ b → (TT c a).2.1 ≠ (TT c b).2.1 := by decide +kernel
theorem fcd_ok : ∀ c, c < 10 → ∀ k, k < NN c → (fcd c k = 0 ∧ fty c k = .int) ∨ (fcd c k = 1 ∧ fty c k = .long) ∨ (fcd c k = 3 ∧ fty c k = .boolean) ∨ (fcd c k = 2 ∧ (fty c k).isReference = true) := by decide +kernel
theorem fow_ok : ∀ c, c < 10 → ∀ k, k < NN c → (TT c k).1 = ej_cn c := by decide +kernel
def ej_lays : List (List Nat) := [[51, 53, 55, 57, 59, 61, 63, 65, 67, 69, 71, 73, 75, 77, 79, 81, 83], [235, 237, 239, 241, 243, 245, 247, 249], [285, 287, 289, 291, 293, 295], [149, 151, 153, 155, 157, 159, 161, 163, 165, 167, 169], [111, 113, 115, 117, 119], [260, 262], [202, 204, 206, 208, 210], [388, 390, 392, 394, 396, 398, 400, 402], [307, 309, 311, 313, 315, 317, 319, 321, 323], [997, 999, 1001, 1003, 1005, 1007, 1009, 1011, 1013, 1015, 1017, 1019, 1021, 1023, 1025, 1027, 1029, 1031, 1033, 1035, 1037, 1039, 1041, 1043, 1045, 1047, 1049, 1051, 1053, 1055, 1057, 1059, 1061, 1063, 1065, 1067, 1069, 1071, 1073, 1075, 1077, 1079, 1081, 1083, 1085, 1087, 1089, 1091, 1093, 1095, 1097, 1099, 1101, 1103, 1105, 1107, 1109, 1111, 1113]]
theorem lays_ok : ∀ c, c < 10 → ∀ k, k < NN c → ej_at ((ej_lays.getD c []).getD k 0) (u_lay (ej_cn c) (TT c) k) = true := by decide +kernel
theorem good_lay (C : String) (T : u_T) (k : Nat) : goodWord (u_lay C T k) = true := by unfold u_lay; split <;> rfl
theorem lay_in {c : Nat} (hc : c < 10) : ∀ w ∈ u_ws (ej_cn c) (TT c) (NN c), w ∈ gtbl := by
  intro w hw
  obtain ⟨k, hk, rfl⟩ := List.mem_map.mp hw
  exact gt_of (at_mem (lays_ok c hc k (List.mem_range.mp hk))) (good_lay _ _ _)
def ej_vw : List vw_C := (List.range 10).map fun c => (ej_cn c, TT c, NN c)
theorem vw_at {c : Nat} (hc : c < 10) : ej_vw[c]? = some (ej_cn c, TT c, NN c) := by simp [ej_vw, hc]
theorem inst_ok : ∀ c, c < 10 → ej_at ([28, 214, 267, 88, 98, 253, 174, 354, 20, 933].getD c 0) (.instantiable (ej_cn c) (NN c)) = true := by decide +kernel
theorem init_ok : ∀ c, c < 18 → ej_at ([2, 7, 9, 3, 4, 8, 6, 12, 1, 10, 13, 0, 18, 11, 14, 16, 5, 15].getD c 0) (.initialized (ej_cn c)) = true := by decide +kernel
theorem inst_in {c : Nat} (hc : c < 10) : Cond.instantiable (ej_cn c) (NN c) ∈ gtbl := gt_of (at_mem (inst_ok c hc)) rfl
theorem init_in {c : Nat} (hc : c < 18) : Cond.initialized (ej_cn c) ∈ gtbl := gt_of (at_mem (init_ok c hc)) rfl
def ej_lkF : List (Nat × Nat × Nat × Nat × Nat) := [(0, 63, 0, 0, 33), (0, 9, 0, 1, 34), (0, 15, 0, 2, 35), (0, 18, 0, 3, 36), (8, 79, 0, 3, 37), (0, 21, 0, 4, 38), (0, 26, 0, 5, 39), (0, 30, 0, 6, 40), (0, 33, 0, 7, 41), (0, 36, 0, 8, 42), (0, 39, 0, 9, 43), (0, 42, 0, 10, 44), (0, 45, 0, 11, 45), (0, 48, 0, 12, 46), (0, 51, 0, 13, 47), (0, 54, 0, 14, 48), (0, 57, 0, 15, 49), (0, 60, 0, 16, 50), (4, 9, 4, 0, 103), (8, 255, 4, 0, 104), (4, 15, 4, 1, 105), (2, 46, 4, 1, 106), (4, 19, 4, 2, 107), (2, 57, 4, 2, 108), (4, 22, 4, 3, 109), (4, 25, 4, 4, 110), (3, 11, 3, 0, 125), (3, 17, 3, 1, 126), (5, 64, 3, 1, 127), (8, 98, 3, 1, 128), (1, 70, 3, 1, 129), (3, 24, 3, 2, 130), (8, 92, 3, 2, 131), (3, 27, 3, 3, 132), (8, 95, 3, 3, 133), (3, 30, 3, 4, 134), (8, 101, 3, 4, 135), (3, 34, 3, 5, 136), (8, 104, 3, 5, 137), (3, 40, 3, 6, 138), (2, 34, 3, 6, 139), (8, 213, 3, 6, 140), (3, 44, 3, 7, 141), (8, 141, 3, 7, 142), (3, 48, 3, 8, 143), (8, 147, 3, 8, 144), (3, 51, 3, 9, 145), (8, 150, 3, 9, 146), (3, 54, 3, 10, 147), (8, 153, 3, 10, 148), (6, 9, 6, 0, 180), (5, 19, 6, 0, 181), (2, 54, 6, 0, 182), (1, 48, 6, 0, 183), (3, 75, 6, 0, 184), (8, 268, 6, 0, 185), (6, 15, 6, 1, 186), (5, 25, 6, 1, 187), (1, 59, 6, 1, 188), (8, 272, 6, 1, 189), (6, 18, 6, 2, 190), (2, 64, 6, 2, 191), (1, 75, 6, 2, 192), (3, 95, 6, 2, 193), (8, 201, 6, 2, 194), (6, 22, 6, 3, 195), (2, 68, 6, 3, 196), (3, 88, 6, 3, 197), (8, 257, 6, 3, 198), (6, 27, 6, 4, 199), (1, 100, 6, 4, 200), (8, 196, 6, 4, 201), (1, 21, 1, 0, 219), (1, 24, 1, 1, 220), (1, 27, 1, 2, 221), (5, 50, 1, 2, 222), (8, 173, 1, 2, 223), (1, 31, 1, 3, 224), (1, 34, 1, 4, 225), (1, 9, 1, 5, 226), (5, 40, 1, 5, 227), (8, 160, 1, 5, 228), (1, 15, 1, 6, 229), (8, 163, 1, 6, 230), (1, 18, 1, 7, 231), (5, 61, 1, 7, 232), (3, 130, 1, 7, 233), (8, 144, 1, 7, 234), (5, 9, 5, 0, 258), (5, 15, 5, 1, 259), (2, 12, 2, 0, 274), (2, 18, 2, 1, 275), (8, 237, 2, 1, 276), (2, 22, 2, 2, 277), (8, 235, 2, 2, 278), (2, 25, 2, 3, 279), (8, 232, 2, 3, 280), (2, 28, 2, 4, 281), (8, 249, 2, 4, 282), (2, 31, 2, 5, 283), (8, 252, 2, 5, 284), (8, 9, 8, 0, 298), (8, 13, 8, 1, 299), (8, 22, 8, 2, 300), (8, 29, 8, 3, 301), (8, 33, 8, 4, 302), (8, 40, 8, 5, 303), (8, 49, 8, 6, 304), (8, 56, 8, 7, 305), (8, 63, 8, 8, 306), (7, 7, 7, 0, 359), (5, 28, 7, 0, 360), (2, 71, 7, 0, 361), (1, 54, 7, 0, 362), (0, 133, 7, 0, 363), (8, 107, 7, 0, 364), (7, 13, 7, 1, 365), (0, 139, 7, 1, 366), (7, 16, 7, 2, 367), (2, 91, 7, 2, 368), (5, 73, 7, 2, 369), (0, 146, 7, 2, 370), (7, 19, 7, 3, 371), (2, 88, 7, 3, 372), (5, 76, 7, 3, 373), (0, 148, 7, 3, 374), (7, 22, 7, 4, 375), (0, 150, 7, 4, 376), (3, 72, 7, 4, 377), (7, 25, 7, 5, 378), (0, 73, 7, 5, 379), (5, 47, 7, 5, 380), (1, 90, 7, 5, 381), (8, 115, 7, 5, 382), (3, 81, 7, 5, 383), (7, 28, 7, 6, 384), (0, 100, 7, 6, 385), (7, 32, 7, 7, 386), (0, 101, 7, 7, 387), (9, 127, 9, 1, 939), (9, 155, 9, 2, 940), (9, 152, 9, 3, 941), (9, 182, 9, 4, 942), (9, 185, 9, 5, 943), (9, 227, 9, 6, 944), (9, 188, 9, 7, 945), (9, 224, 9, 8, 946), (9, 297, 9, 9, 947), (9, 9, 9, 10, 948), (9, 13, 9, 11, 949), (9, 17, 9, 12, 950), (9, 20, 9, 13, 951), (9, 23, 9, 14, 952), (9, 26, 9, 15, 953), (9, 29, 9, 16, 954), (9, 32, 9, 17, 955), (9, 35, 9, 18, 956), (9, 38, 9, 19, 957), (9, 41, 9, 20, 958), (9, 44, 9, 21, 959), (9, 47, 9, 22, 960), (9, 50, 9, 23, 961), (9, 54, 9, 24, 962), (9, 57, 9, 25, 963), (9, 60, 9, 26, 964), (9, 335, 9, 27, 965), (9, 63, 9, 28, 966), (9, 66, 9, 29, 967), (9, 69, 9, 30, 968), (9, 359, 9, 31, 969), (9, 350, 9, 32, 970), (9, 353, 9, 33, 971), (9, 341, 9, 34, 972), (9, 344, 9, 35, 973), (9, 347, 9, 36, 974), (9, 356, 9, 37, 975), (9, 72, 9, 38, 976), (9, 75, 9, 39, 977), (9, 78, 9, 40, 978), (9, 82, 9, 41, 979), (9, 85, 9, 42, 980), (9, 382, 9, 43, 981), (9, 379, 9, 44, 982), (9, 88, 9, 45, 983), (9, 91, 9, 46, 984), (9, 403, 9, 47, 985), (9, 94, 9, 48, 986), (9, 97, 9, 49, 987), (9, 100, 9, 50, 988), (9, 103, 9, 51, 989), (9, 412, 9, 52, 990), (9, 409, 9, 53, 991), (9, 107, 9, 54, 992), (9, 110, 9, 55, 993), (9, 113, 9, 56, 994), (9, 425, 9, 57, 995), (9, 421, 9, 58, 996)]
def cF (e : Nat × Nat × Nat × Nat × Nat) : Cond := .fieldLink (ej_cn e.1) e.2.1 (ej_cn e.2.2.1) (TT e.2.2.1 e.2.2.2.1).2.1 (TT e.2.2.1 e.2.2.2.1).2.2.1
theorem lkF_all : (ej_lkF.all fun e => ej_at e.2.2.2.2 (cF e) && (decide (e.2.2.1 < 10) && decide (e.2.2.2.1 < NN e.2.2.1))) = true := by decide +kernel
def hasF (own ix ci k : Nat) : Bool := ej_lkF.any fun e => Nat.beq e.1 own && (Nat.beq e.2.1 ix && (Nat.beq e.2.2.1 ci && Nat.beq e.2.2.2.1 k))
theorem hasF_ok {own ix ci k : Nat} (h : hasF own ix ci k = true) : Cond.fieldLink (ej_cn own) ix (ej_cn ci) (TT ci k).2.1 (TT ci k).2.2.1 ∈ gtbl ∧ ci < 10 ∧ k < NN ci := by
  obtain ⟨e, he, h1⟩ := List.any_eq_true.mp h
  have h2 := List.all_eq_true.mp lkF_all e he
  obtain ⟨a, b, c, d, n⟩ := e
  simp only [Bool.and_eq_true, decide_eq_true_eq] at h1 h2
  obtain ⟨r1, r2, r3, r4⟩ := h1
  rw [← Nat.eq_of_beq_eq_true r1, ← Nat.eq_of_beq_eq_true r2, ← Nat.eq_of_beq_eq_true r3, ← Nat.eq_of_beq_eq_true r4]
  exact ⟨gt_of (at_mem h2.1) rfl, h2.2.1, h2.2.2⟩
def ej_lkM : List (Nat × Nat × Nat × Nat) := [(11, 9, 75, 21), (8, 19, 0, 29), (8, 28, 45, 89), (3, 57, 218, 122), (8, 46, 29, 215), (11, 13, 76, 326), (8, 67, 111, 330), (11, 18, 77, 334), (11, 23, 78, 338), (8, 71, 46, 342), (8, 75, 1, 346), (0, 66, 207, 350), (0, 76, 2, 405), (0, 83, 22, 409), (0, 102, 3, 413), (0, 113, 24, 418), (0, 215, 208, 422), (10, 335, 210, 426), (0, 212, 25, 432), (0, 219, 209, 435), (10, 492, 211, 439), (10, 495, 213, 443), (14, 9, 212, 446), (10, 1059, 220, 451), (10, 498, 216, 454), (15, 67, 217, 457), (15, 48, 215, 460), (15, 414, 212, 463), (15, 71, 214, 464), (0, 105, 4, 479), (0, 90, 28, 485), (0, 108, 23, 489), (0, 79, 5, 493), (0, 87, 8, 497), (0, 165, 9, 502), (0, 184, 10, 506), (0, 200, 14, 510), (0, 189, 26, 515), (0, 193, 11, 518), (0, 136, 20, 522), (0, 142, 21, 526), (0, 209, 27, 530), (0, 196, 15, 533), (0, 203, 16, 537), (0, 172, 12, 543), (0, 178, 17, 547), (0, 181, 18, 551), (0, 206, 19, 555), (0, 175, 13, 559), (0, 153, 6, 563), (0, 157, 7, 568), (0, 94, 219, 572), (16, 304, 207, 582), (8, 82, 47, 586), (11, 27, 79, 593), (8, 86, 48, 597), (8, 89, 109, 601), (11, 32, 80, 604), (11, 36, 81, 608), (11, 41, 82, 612), (11, 45, 83, 616), (8, 112, 110, 620), (8, 118, 72, 624), (7, 35, 206, 628), (11, 49, 84, 634), (8, 122, 112, 638), (8, 209, 49, 642), (8, 126, 55, 647), (3, 91, 48, 651), (3, 99, 73, 652), (3, 84, 72, 656), (3, 103, 54, 657), (11, 54, 85, 661), (8, 130, 73, 665), (11, 58, 86, 666), (8, 134, 74, 670), (7, 41, 72, 674), (11, 62, 87, 675), (8, 137, 56, 679), (3, 109, 29, 684), (3, 112, 30, 685), (1, 37, 31, 689), (1, 44, 38, 693), (1, 40, 36, 698), (1, 93, 72, 702), (11, 67, 88, 703), (8, 156, 33, 707), (1, 66, 34, 711), (1, 79, 35, 715), (1, 83, 48, 719), (1, 87, 73, 720), (1, 97, 37, 721), (1, 104, 74, 726), (1, 107, 54, 727), (11, 71, 89, 728), (8, 166, 39, 732), (11, 75, 90, 736), (8, 170, 40, 740), (1, 112, 39, 744), (11, 79, 91, 745), (11, 83, 92, 749), (8, 176, 32, 753), (1, 62, 30, 757), (11, 88, 93, 758), (8, 180, 50, 762), (3, 68, 51, 767), (8, 183, 206, 771), (8, 188, 113, 772), (8, 275, 52, 776), (8, 278, 51, 780), (8, 282, 114, 781), (11, 92, 94, 784), (8, 191, 67, 788), (5, 34, 30, 792), (5, 43, 68, 793), (5, 53, 72, 797), (5, 57, 69, 798), (5, 69, 48, 802), (5, 79, 73, 803), (5, 82, 37, 804), (5, 85, 55, 805), (5, 89, 36, 806), (11, 96, 95, 807), (11, 100, 96, 811), (8, 205, 41, 816), (11, 105, 97, 820), (11, 109, 98, 824), (8, 217, 61, 828), (11, 113, 99, 832), (8, 223, 60, 836), (8, 226, 62, 840), (4, 28, 60, 844), (11, 117, 100, 845), (8, 229, 115, 849), (8, 243, 44, 853), (2, 40, 60, 857), (2, 50, 48, 858), (2, 60, 49, 859), (2, 76, 63, 860), (2, 80, 64, 864), (4, 32, 63, 868), (2, 84, 55, 869), (11, 121, 101, 870), (11, 125, 102, 874), (8, 240, 53, 878), (11, 129, 103, 882), (8, 246, 64, 886), (11, 133, 104, 887), (11, 137, 105, 891), (8, 260, 116, 895), (8, 285, 63, 899), (11, 141, 106, 900), (8, 263, 57, 904), (3, 122, 65, 909), (3, 126, 58, 914), (3, 133, 31, 918), (3, 136, 42, 919), (11, 145, 107, 924), (11, 149, 108, 928), (11, 12, 117, 934), (11, 17, 122, 1116), (9, 130, 123, 1120), (11, 22, 124, 1124), (11, 26, 149, 1128), (9, 121, 118, 1133), (9, 272, 125, 1136), (9, 275, 126, 1139), (9, 279, 148, 1142), (9, 267, 147, 1146), (9, 175, 130, 1150), (9, 158, 129, 1154), (9, 251, 127, 1158), (9, 178, 132, 1170), (9, 166, 208, 1174), (9, 171, 209, 1175), (9, 191, 128, 1176), (9, 255, 146, 1180), (9, 259, 145, 1184), (9, 241, 144, 1188), (9, 235, 142, 1193), (9, 238, 140, 1197), (9, 203, 137, 1201), (9, 210, 135, 1207), (9, 213, 134, 1211), (9, 218, 138, 1216), (9, 221, 139, 1220), (9, 206, 136, 1224), (9, 195, 131, 1228), (9, 244, 143, 1234), (9, 230, 141, 1238), (9, 264, 133, 1245), (11, 31, 153, 1249), (9, 290, 150, 1253), (9, 293, 119, 1257), (11, 35, 154, 1261), (11, 40, 155, 1265), (11, 44, 158, 1272), (9, 309, 157, 1276), (9, 306, 156, 1280), (11, 48, 159, 1284), (9, 312, 120, 1288), (9, 315, 160, 1292), (9, 318, 152, 1296), (9, 286, 151, 1300), (9, 283, 121, 1304), (11, 53, 164, 1307), (9, 327, 163, 1311), (9, 321, 161, 1315), (9, 324, 162, 1319), (11, 57, 165, 1323), (11, 61, 167, 1327), (9, 331, 166, 1331), (11, 66, 171, 1335), (11, 70, 172, 1339), (9, 364, 170, 1344), (9, 338, 168, 1348), (9, 366, 173, 1353), (9, 369, 169, 1357), (9, 372, 174, 1361), (11, 74, 176, 1365), (9, 376, 175, 1369), (11, 78, 177, 1373), (11, 82, 178, 1377), (11, 87, 182, 1381), (9, 388, 181, 1385), (9, 391, 180, 1389), (9, 385, 179, 1393), (11, 91, 184, 1397), (9, 395, 183, 1401), (11, 95, 186, 1405), (9, 398, 185, 1409), (11, 99, 187, 1413), (11, 104, 188, 1418), (11, 108, 189, 1422), (11, 112, 190, 1426), (11, 116, 192, 1430), (9, 406, 191, 1434), (11, 120, 194, 1438), (9, 415, 193, 1442), (11, 124, 195, 1446), (11, 128, 196, 1450), (11, 132, 197, 1454), (11, 136, 198, 1458), (11, 140, 200, 1462), (9, 418, 199, 1466), (11, 144, 203, 1470), (9, 433, 202, 1474), (9, 429, 201, 1479), (11, 148, 204, 1483), (11, 152, 205, 1487)]
theorem lkM_all : (ej_lkM.all fun e => ej_at e.2.2.2 (.methodLink (ej_cn e.1) e.2.1 (ej_y e.2.2.1))) = true := by decide +kernel
def hasM (own ix m : Nat) : Bool := ej_lkM.any fun e => Nat.beq e.1 own && (Nat.beq e.2.1 ix && Nat.beq e.2.2.1 m)
theorem hasM_ok {own ix m : Nat} (h : hasM own ix m = true) : Cond.methodLink (ej_cn own) ix (ej_y m) ∈ gtbl := by
  obtain ⟨e, he, h1⟩ := List.any_eq_true.mp h
  have h2 := List.all_eq_true.mp lkM_all e he
  obtain ⟨a, b, c, n⟩ := e
  simp only [Bool.and_eq_true] at h1
  obtain ⟨r1, r2, r3⟩ := h1
  rw [← Nat.eq_of_beq_eq_true r1, ← Nat.eq_of_beq_eq_true r2, ← Nat.eq_of_beq_eq_true r3]
  exact gt_of (at_mem h2) rfl
def ej_lkN : List (Nat × Nat × Nat × Nat) := [(3, 39, 59, 99), (8, 39, 70, 175), (8, 55, 66, 254), (8, 62, 43, 268), (2, 11, 70, 273), (0, 72, 71, 355)]
theorem lkN_all : (ej_lkN.all fun e => ej_at e.2.2.2 (.methodLinkNest (ej_cn e.1) e.2.1 (ej_y e.2.2.1) "FeignedSuit")) = true := by decide +kernel
def hasN (own ix m : Nat) : Bool := ej_lkN.any fun e => Nat.beq e.1 own && (Nat.beq e.2.1 ix && Nat.beq e.2.2.1 m)
theorem hasN_ok {own ix m : Nat} (h : hasN own ix m = true) : ∃ e ∈ ej_lkN, Cond.methodLinkNest (ej_cn own) ix (ej_y m) "FeignedSuit" = .methodLinkNest (ej_cn e.1) e.2.1 (ej_y e.2.2.1) "FeignedSuit" := by
  obtain ⟨e, he, h1⟩ := List.any_eq_true.mp h
  obtain ⟨a, b, c, n⟩ := e
  simp only [Bool.and_eq_true] at h1
  obtain ⟨r1, r2, r3⟩ := h1
  refine ⟨(a, b, c, n), he, ?_⟩
  rw [← Nat.eq_of_beq_eq_true r1, ← Nat.eq_of_beq_eq_true r2, ← Nat.eq_of_beq_eq_true r3]
def ej_cps : List Nat := [31, 349, 408, 416, 482, 496, 566, 571, 500, 505, 509, 521, 546, 562, 513, 536, 540, 550, 554, 558, 525, 529, 412, 492, 421, 434, 517, 532, 488, 217, 688, 692, 756, 710, 714, 718, 701, 724, 696, 735, 743, 819, 922, 270, 856, 91, 345, 589, 600, 645, 765, 770, 779, 881, 660, 650, 682, 907, 917, 101, 839, 831, 843, 863, 867, 912, 256, 791, 796, 801, 177, 357, 627, 655, 673, 23, 329, 337, 341, 596, 607, 611, 615, 619, 637, 664, 669, 678, 706, 731, 739, 748, 752, 761, 787, 810, 814, 823, 827, 835, 848, 873, 877, 885, 890, 894, 903, 927, 931, 603, 622, 333, 641, 775, 783, 852, 898, 936, 1135, 1259, 1290, 1306, 1119, 1123, 1127, 1138, 1141, 1160, 1179, 1157, 1153, 1231, 1173, 1248, 1214, 1210, 1227, 1204, 1219, 1223, 1200, 1241, 1196, 1237, 1191, 1187, 1183, 1149, 1145, 1131, 1256, 1302, 1299, 1252, 1264, 1268, 1283, 1279, 1275, 1287, 1295, 1318, 1322, 1314, 1310, 1326, 1334, 1330, 1351, 1360, 1347, 1338, 1342, 1356, 1364, 1372, 1368, 1376, 1380, 1396, 1392, 1388, 1384, 1404, 1400, 1412, 1408, 1416, 1421, 1425, 1429, 1437, 1433, 1445, 1441, 1449, 1453, 1457, 1461, 1469, 1465, 1482, 1477, 1473, 1486, 1490, 630, 352, 425, 438, 429, 442, 448, 445, 466, 462, 456, 459, 124, 574, 453, 0]
def cdP (m : Nat) : Prop := Cond.code (ej_y m) (ej_b m) (ej_mx m) (ej_rt m) ∈ tables_1
set_option maxRecDepth 100000 in
theorem cd_0 : ∀ m, m < 1 → cdP m := lt_s (fun a h => absurd h (Nat.not_lt_zero a)) (List.mem_of_getElem? (i := 31) rfl)
set_option maxRecDepth 100000 in
theorem cd_1 : ∀ m, m < 2 → cdP m := lt_s cd_0 (List.mem_of_getElem? (i := 349) rfl)
set_option maxRecDepth 100000 in
theorem cd_2 : ∀ m, m < 3 → cdP m := lt_s cd_1 (List.mem_of_getElem? (i := 408) rfl)
set_option maxRecDepth 100000 in
theorem cd_3 : ∀ m, m < 4 → cdP m := lt_s cd_2 (List.mem_of_getElem? (i := 416) rfl)
set_option maxRecDepth 100000 in
theorem cd_4 : ∀ m, m < 5 → cdP m := lt_s cd_3 (List.mem_of_getElem? (i := 482) rfl)
set_option maxRecDepth 100000 in
theorem cd_5 : ∀ m, m < 6 → cdP m := lt_s cd_4 (List.mem_of_getElem? (i := 496) rfl)
set_option maxRecDepth 100000 in
theorem cd_6 : ∀ m, m < 7 → cdP m := lt_s cd_5 (List.mem_of_getElem? (i := 566) rfl)
set_option maxRecDepth 100000 in
theorem cd_7 : ∀ m, m < 8 → cdP m := lt_s cd_6 (List.mem_of_getElem? (i := 571) rfl)
set_option maxRecDepth 100000 in
theorem cd_8 : ∀ m, m < 9 → cdP m := lt_s cd_7 (List.mem_of_getElem? (i := 500) rfl)
set_option maxRecDepth 100000 in
theorem cd_9 : ∀ m, m < 10 → cdP m := lt_s cd_8 (List.mem_of_getElem? (i := 505) rfl)
set_option maxRecDepth 100000 in
theorem cd_10 : ∀ m, m < 11 → cdP m := lt_s cd_9 (List.mem_of_getElem? (i := 509) rfl)
set_option maxRecDepth 100000 in
theorem cd_11 : ∀ m, m < 12 → cdP m := lt_s cd_10 (List.mem_of_getElem? (i := 521) rfl)
set_option maxRecDepth 100000 in
theorem cd_12 : ∀ m, m < 13 → cdP m := lt_s cd_11 (List.mem_of_getElem? (i := 546) rfl)
set_option maxRecDepth 100000 in
theorem cd_13 : ∀ m, m < 14 → cdP m := lt_s cd_12 (List.mem_of_getElem? (i := 562) rfl)
set_option maxRecDepth 100000 in
theorem cd_14 : ∀ m, m < 15 → cdP m := lt_s cd_13 (List.mem_of_getElem? (i := 513) rfl)
set_option maxRecDepth 100000 in
theorem cd_15 : ∀ m, m < 16 → cdP m := lt_s cd_14 (List.mem_of_getElem? (i := 536) rfl)
set_option maxRecDepth 100000 in
theorem cd_16 : ∀ m, m < 17 → cdP m := lt_s cd_15 (List.mem_of_getElem? (i := 540) rfl)
set_option maxRecDepth 100000 in
theorem cd_17 : ∀ m, m < 18 → cdP m := lt_s cd_16 (List.mem_of_getElem? (i := 550) rfl)
set_option maxRecDepth 100000 in
theorem cd_18 : ∀ m, m < 19 → cdP m := lt_s cd_17 (List.mem_of_getElem? (i := 554) rfl)
set_option maxRecDepth 100000 in
theorem cd_19 : ∀ m, m < 20 → cdP m := lt_s cd_18 (List.mem_of_getElem? (i := 558) rfl)
set_option maxRecDepth 100000 in
theorem cd_20 : ∀ m, m < 21 → cdP m := lt_s cd_19 (List.mem_of_getElem? (i := 525) rfl)
set_option maxRecDepth 100000 in
theorem cd_21 : ∀ m, m < 22 → cdP m := lt_s cd_20 (List.mem_of_getElem? (i := 529) rfl)
set_option maxRecDepth 100000 in
theorem cd_22 : ∀ m, m < 23 → cdP m := lt_s cd_21 (List.mem_of_getElem? (i := 412) rfl)
set_option maxRecDepth 100000 in
theorem cd_23 : ∀ m, m < 24 → cdP m := lt_s cd_22 (List.mem_of_getElem? (i := 492) rfl)
set_option maxRecDepth 100000 in
theorem cd_24 : ∀ m, m < 25 → cdP m := lt_s cd_23 (List.mem_of_getElem? (i := 421) rfl)
set_option maxRecDepth 100000 in
theorem cd_25 : ∀ m, m < 26 → cdP m := lt_s cd_24 (List.mem_of_getElem? (i := 434) rfl)
set_option maxRecDepth 100000 in
theorem cd_26 : ∀ m, m < 27 → cdP m := lt_s cd_25 (List.mem_of_getElem? (i := 517) rfl)
set_option maxRecDepth 100000 in
theorem cd_27 : ∀ m, m < 28 → cdP m := lt_s cd_26 (List.mem_of_getElem? (i := 532) rfl)
set_option maxRecDepth 100000 in
theorem cd_28 : ∀ m, m < 29 → cdP m := lt_s cd_27 (List.mem_of_getElem? (i := 488) rfl)
set_option maxRecDepth 100000 in
theorem cd_29 : ∀ m, m < 30 → cdP m := lt_s cd_28 (List.mem_of_getElem? (i := 217) rfl)
set_option maxRecDepth 100000 in
theorem cd_30 : ∀ m, m < 31 → cdP m := lt_s cd_29 (List.mem_of_getElem? (i := 688) rfl)
set_option maxRecDepth 100000 in
theorem cd_31 : ∀ m, m < 32 → cdP m := lt_s cd_30 (List.mem_of_getElem? (i := 692) rfl)
set_option maxRecDepth 100000 in
theorem cd_32 : ∀ m, m < 33 → cdP m := lt_s cd_31 (List.mem_of_getElem? (i := 756) rfl)
set_option maxRecDepth 100000 in
theorem cd_33 : ∀ m, m < 34 → cdP m := lt_s cd_32 (List.mem_of_getElem? (i := 710) rfl)
set_option maxRecDepth 100000 in
theorem cd_34 : ∀ m, m < 35 → cdP m := lt_s cd_33 (List.mem_of_getElem? (i := 714) rfl)
set_option maxRecDepth 100000 in
theorem cd_35 : ∀ m, m < 36 → cdP m := lt_s cd_34 (List.mem_of_getElem? (i := 718) rfl)
set_option maxRecDepth 100000 in
theorem cd_36 : ∀ m, m < 37 → cdP m := lt_s cd_35 (List.mem_of_getElem? (i := 701) rfl)
set_option maxRecDepth 100000 in
theorem cd_37 : ∀ m, m < 38 → cdP m := lt_s cd_36 (List.mem_of_getElem? (i := 724) rfl)
set_option maxRecDepth 100000 in
theorem cd_38 : ∀ m, m < 39 → cdP m := lt_s cd_37 (List.mem_of_getElem? (i := 696) rfl)
set_option maxRecDepth 100000 in
theorem cd_39 : ∀ m, m < 40 → cdP m := lt_s cd_38 (List.mem_of_getElem? (i := 735) rfl)
set_option maxRecDepth 100000 in
theorem cd_40 : ∀ m, m < 41 → cdP m := lt_s cd_39 (List.mem_of_getElem? (i := 743) rfl)
set_option maxRecDepth 100000 in
theorem cd_41 : ∀ m, m < 42 → cdP m := lt_s cd_40 (List.mem_of_getElem? (i := 819) rfl)
set_option maxRecDepth 100000 in
theorem cd_42 : ∀ m, m < 43 → cdP m := lt_s cd_41 (List.mem_of_getElem? (i := 922) rfl)
set_option maxRecDepth 100000 in
theorem cd_43 : ∀ m, m < 44 → cdP m := lt_s cd_42 (List.mem_of_getElem? (i := 270) rfl)
set_option maxRecDepth 100000 in
theorem cd_44 : ∀ m, m < 45 → cdP m := lt_s cd_43 (List.mem_of_getElem? (i := 856) rfl)
set_option maxRecDepth 100000 in
theorem cd_45 : ∀ m, m < 46 → cdP m := lt_s cd_44 (List.mem_of_getElem? (i := 91) rfl)
set_option maxRecDepth 100000 in
theorem cd_46 : ∀ m, m < 47 → cdP m := lt_s cd_45 (List.mem_of_getElem? (i := 345) rfl)
set_option maxRecDepth 100000 in
theorem cd_47 : ∀ m, m < 48 → cdP m := lt_s cd_46 (List.mem_of_getElem? (i := 589) rfl)
set_option maxRecDepth 100000 in
theorem cd_48 : ∀ m, m < 49 → cdP m := lt_s cd_47 (List.mem_of_getElem? (i := 600) rfl)
set_option maxRecDepth 100000 in
theorem cd_49 : ∀ m, m < 50 → cdP m := lt_s cd_48 (List.mem_of_getElem? (i := 645) rfl)
set_option maxRecDepth 100000 in
theorem cd_50 : ∀ m, m < 51 → cdP m := lt_s cd_49 (List.mem_of_getElem? (i := 765) rfl)
set_option maxRecDepth 100000 in
theorem cd_51 : ∀ m, m < 52 → cdP m := lt_s cd_50 (List.mem_of_getElem? (i := 770) rfl)
set_option maxRecDepth 100000 in
theorem cd_52 : ∀ m, m < 53 → cdP m := lt_s cd_51 (List.mem_of_getElem? (i := 779) rfl)
set_option maxRecDepth 100000 in
theorem cd_53 : ∀ m, m < 54 → cdP m := lt_s cd_52 (List.mem_of_getElem? (i := 881) rfl)
set_option maxRecDepth 100000 in
theorem cd_54 : ∀ m, m < 55 → cdP m := lt_s cd_53 (List.mem_of_getElem? (i := 660) rfl)
set_option maxRecDepth 100000 in
theorem cd_55 : ∀ m, m < 56 → cdP m := lt_s cd_54 (List.mem_of_getElem? (i := 650) rfl)
set_option maxRecDepth 100000 in
theorem cd_56 : ∀ m, m < 57 → cdP m := lt_s cd_55 (List.mem_of_getElem? (i := 682) rfl)
set_option maxRecDepth 100000 in
theorem cd_57 : ∀ m, m < 58 → cdP m := lt_s cd_56 (List.mem_of_getElem? (i := 907) rfl)
set_option maxRecDepth 100000 in
theorem cd_58 : ∀ m, m < 59 → cdP m := lt_s cd_57 (List.mem_of_getElem? (i := 917) rfl)
set_option maxRecDepth 100000 in
theorem cd_59 : ∀ m, m < 60 → cdP m := lt_s cd_58 (List.mem_of_getElem? (i := 101) rfl)
set_option maxRecDepth 100000 in
theorem cd_60 : ∀ m, m < 61 → cdP m := lt_s cd_59 (List.mem_of_getElem? (i := 839) rfl)
set_option maxRecDepth 100000 in
theorem cd_61 : ∀ m, m < 62 → cdP m := lt_s cd_60 (List.mem_of_getElem? (i := 831) rfl)
set_option maxRecDepth 100000 in
theorem cd_62 : ∀ m, m < 63 → cdP m := lt_s cd_61 (List.mem_of_getElem? (i := 843) rfl)
set_option maxRecDepth 100000 in
theorem cd_63 : ∀ m, m < 64 → cdP m := lt_s cd_62 (List.mem_of_getElem? (i := 863) rfl)
set_option maxRecDepth 100000 in
theorem cd_64 : ∀ m, m < 65 → cdP m := lt_s cd_63 (List.mem_of_getElem? (i := 867) rfl)
set_option maxRecDepth 100000 in
theorem cd_65 : ∀ m, m < 66 → cdP m := lt_s cd_64 (List.mem_of_getElem? (i := 912) rfl)
set_option maxRecDepth 100000 in
theorem cd_66 : ∀ m, m < 67 → cdP m := lt_s cd_65 (List.mem_of_getElem? (i := 256) rfl)
set_option maxRecDepth 100000 in
theorem cd_67 : ∀ m, m < 68 → cdP m := lt_s cd_66 (List.mem_of_getElem? (i := 791) rfl)
set_option maxRecDepth 100000 in
theorem cd_68 : ∀ m, m < 69 → cdP m := lt_s cd_67 (List.mem_of_getElem? (i := 796) rfl)
set_option maxRecDepth 100000 in
theorem cd_69 : ∀ m, m < 70 → cdP m := lt_s cd_68 (List.mem_of_getElem? (i := 801) rfl)
set_option maxRecDepth 100000 in
theorem cd_70 : ∀ m, m < 71 → cdP m := lt_s cd_69 (List.mem_of_getElem? (i := 177) rfl)
set_option maxRecDepth 100000 in
theorem cd_71 : ∀ m, m < 72 → cdP m := lt_s cd_70 (List.mem_of_getElem? (i := 357) rfl)
set_option maxRecDepth 100000 in
theorem cd_72 : ∀ m, m < 73 → cdP m := lt_s cd_71 (List.mem_of_getElem? (i := 627) rfl)
set_option maxRecDepth 100000 in
theorem cd_73 : ∀ m, m < 74 → cdP m := lt_s cd_72 (List.mem_of_getElem? (i := 655) rfl)
set_option maxRecDepth 100000 in
theorem cd_74 : ∀ m, m < 75 → cdP m := lt_s cd_73 (List.mem_of_getElem? (i := 673) rfl)
set_option maxRecDepth 100000 in
theorem cd_75 : ∀ m, m < 76 → cdP m := lt_s cd_74 (List.mem_of_getElem? (i := 23) rfl)
set_option maxRecDepth 100000 in
theorem cd_76 : ∀ m, m < 77 → cdP m := lt_s cd_75 (List.mem_of_getElem? (i := 329) rfl)
set_option maxRecDepth 100000 in
theorem cd_77 : ∀ m, m < 78 → cdP m := lt_s cd_76 (List.mem_of_getElem? (i := 337) rfl)
set_option maxRecDepth 100000 in
theorem cd_78 : ∀ m, m < 79 → cdP m := lt_s cd_77 (List.mem_of_getElem? (i := 341) rfl)
set_option maxRecDepth 100000 in
theorem cd_79 : ∀ m, m < 80 → cdP m := lt_s cd_78 (List.mem_of_getElem? (i := 596) rfl)
set_option maxRecDepth 100000 in
theorem cd_80 : ∀ m, m < 81 → cdP m := lt_s cd_79 (List.mem_of_getElem? (i := 607) rfl)
set_option maxRecDepth 100000 in
theorem cd_81 : ∀ m, m < 82 → cdP m := lt_s cd_80 (List.mem_of_getElem? (i := 611) rfl)
set_option maxRecDepth 100000 in
theorem cd_82 : ∀ m, m < 83 → cdP m := lt_s cd_81 (List.mem_of_getElem? (i := 615) rfl)
set_option maxRecDepth 100000 in
theorem cd_83 : ∀ m, m < 84 → cdP m := lt_s cd_82 (List.mem_of_getElem? (i := 619) rfl)
set_option maxRecDepth 100000 in
theorem cd_84 : ∀ m, m < 85 → cdP m := lt_s cd_83 (List.mem_of_getElem? (i := 637) rfl)
set_option maxRecDepth 100000 in
theorem cd_85 : ∀ m, m < 86 → cdP m := lt_s cd_84 (List.mem_of_getElem? (i := 664) rfl)
set_option maxRecDepth 100000 in
theorem cd_86 : ∀ m, m < 87 → cdP m := lt_s cd_85 (List.mem_of_getElem? (i := 669) rfl)
set_option maxRecDepth 100000 in
theorem cd_87 : ∀ m, m < 88 → cdP m := lt_s cd_86 (List.mem_of_getElem? (i := 678) rfl)
set_option maxRecDepth 100000 in
theorem cd_88 : ∀ m, m < 89 → cdP m := lt_s cd_87 (List.mem_of_getElem? (i := 706) rfl)
set_option maxRecDepth 100000 in
theorem cd_89 : ∀ m, m < 90 → cdP m := lt_s cd_88 (List.mem_of_getElem? (i := 731) rfl)
set_option maxRecDepth 100000 in
theorem cd_90 : ∀ m, m < 91 → cdP m := lt_s cd_89 (List.mem_of_getElem? (i := 739) rfl)
set_option maxRecDepth 100000 in
theorem cd_91 : ∀ m, m < 92 → cdP m := lt_s cd_90 (List.mem_of_getElem? (i := 748) rfl)
set_option maxRecDepth 100000 in
theorem cd_92 : ∀ m, m < 93 → cdP m := lt_s cd_91 (List.mem_of_getElem? (i := 752) rfl)
set_option maxRecDepth 100000 in
theorem cd_93 : ∀ m, m < 94 → cdP m := lt_s cd_92 (List.mem_of_getElem? (i := 761) rfl)
set_option maxRecDepth 100000 in
theorem cd_94 : ∀ m, m < 95 → cdP m := lt_s cd_93 (List.mem_of_getElem? (i := 787) rfl)
set_option maxRecDepth 100000 in
theorem cd_95 : ∀ m, m < 96 → cdP m := lt_s cd_94 (List.mem_of_getElem? (i := 810) rfl)
set_option maxRecDepth 100000 in
theorem cd_96 : ∀ m, m < 97 → cdP m := lt_s cd_95 (List.mem_of_getElem? (i := 814) rfl)
set_option maxRecDepth 100000 in
theorem cd_97 : ∀ m, m < 98 → cdP m := lt_s cd_96 (List.mem_of_getElem? (i := 823) rfl)
set_option maxRecDepth 100000 in
theorem cd_98 : ∀ m, m < 99 → cdP m := lt_s cd_97 (List.mem_of_getElem? (i := 827) rfl)
set_option maxRecDepth 100000 in
theorem cd_99 : ∀ m, m < 100 → cdP m := lt_s cd_98 (List.mem_of_getElem? (i := 835) rfl)
set_option maxRecDepth 100000 in
theorem cd_100 : ∀ m, m < 101 → cdP m := lt_s cd_99 (List.mem_of_getElem? (i := 848) rfl)
set_option maxRecDepth 100000 in
theorem cd_101 : ∀ m, m < 102 → cdP m := lt_s cd_100 (List.mem_of_getElem? (i := 873) rfl)
set_option maxRecDepth 100000 in
theorem cd_102 : ∀ m, m < 103 → cdP m := lt_s cd_101 (List.mem_of_getElem? (i := 877) rfl)
set_option maxRecDepth 100000 in
theorem cd_103 : ∀ m, m < 104 → cdP m := lt_s cd_102 (List.mem_of_getElem? (i := 885) rfl)
set_option maxRecDepth 100000 in
theorem cd_104 : ∀ m, m < 105 → cdP m := lt_s cd_103 (List.mem_of_getElem? (i := 890) rfl)
set_option maxRecDepth 100000 in
theorem cd_105 : ∀ m, m < 106 → cdP m := lt_s cd_104 (List.mem_of_getElem? (i := 894) rfl)
set_option maxRecDepth 100000 in
theorem cd_106 : ∀ m, m < 107 → cdP m := lt_s cd_105 (List.mem_of_getElem? (i := 903) rfl)
set_option maxRecDepth 100000 in
theorem cd_107 : ∀ m, m < 108 → cdP m := lt_s cd_106 (List.mem_of_getElem? (i := 927) rfl)
set_option maxRecDepth 100000 in
theorem cd_108 : ∀ m, m < 109 → cdP m := lt_s cd_107 (List.mem_of_getElem? (i := 931) rfl)
set_option maxRecDepth 100000 in
theorem cd_109 : ∀ m, m < 110 → cdP m := lt_s cd_108 (List.mem_of_getElem? (i := 603) rfl)
set_option maxRecDepth 100000 in
theorem cd_110 : ∀ m, m < 111 → cdP m := lt_s cd_109 (List.mem_of_getElem? (i := 622) rfl)
set_option maxRecDepth 100000 in
theorem cd_111 : ∀ m, m < 112 → cdP m := lt_s cd_110 (List.mem_of_getElem? (i := 333) rfl)
set_option maxRecDepth 100000 in
theorem cd_112 : ∀ m, m < 113 → cdP m := lt_s cd_111 (List.mem_of_getElem? (i := 641) rfl)
set_option maxRecDepth 100000 in
theorem cd_113 : ∀ m, m < 114 → cdP m := lt_s cd_112 (List.mem_of_getElem? (i := 775) rfl)
set_option maxRecDepth 100000 in
theorem cd_114 : ∀ m, m < 115 → cdP m := lt_s cd_113 (List.mem_of_getElem? (i := 783) rfl)
set_option maxRecDepth 100000 in
theorem cd_115 : ∀ m, m < 116 → cdP m := lt_s cd_114 (List.mem_of_getElem? (i := 852) rfl)
set_option maxRecDepth 100000 in
theorem cd_116 : ∀ m, m < 117 → cdP m := lt_s cd_115 (List.mem_of_getElem? (i := 898) rfl)
set_option maxRecDepth 100000 in
theorem cd_117 : ∀ m, m < 118 → cdP m := lt_s cd_116 (List.mem_of_getElem? (i := 936) rfl)
set_option maxRecDepth 100000 in
theorem cd_118 : ∀ m, m < 119 → cdP m := lt_s cd_117 (List.mem_of_getElem? (i := 1135) rfl)
set_option maxRecDepth 100000 in
theorem cd_119 : ∀ m, m < 120 → cdP m := lt_s cd_118 (List.mem_of_getElem? (i := 1259) rfl)
set_option maxRecDepth 100000 in
theorem cd_120 : ∀ m, m < 121 → cdP m := lt_s cd_119 (List.mem_of_getElem? (i := 1290) rfl)
set_option maxRecDepth 100000 in
theorem cd_121 : ∀ m, m < 122 → cdP m := lt_s cd_120 (List.mem_of_getElem? (i := 1306) rfl)
set_option maxRecDepth 100000 in
theorem cd_122 : ∀ m, m < 123 → cdP m := lt_s cd_121 (List.mem_of_getElem? (i := 1119) rfl)
set_option maxRecDepth 100000 in
theorem cd_123 : ∀ m, m < 124 → cdP m := lt_s cd_122 (List.mem_of_getElem? (i := 1123) rfl)
set_option maxRecDepth 100000 in
theorem cd_124 : ∀ m, m < 125 → cdP m := lt_s cd_123 (List.mem_of_getElem? (i := 1127) rfl)
set_option maxRecDepth 100000 in
theorem cd_125 : ∀ m, m < 126 → cdP m := lt_s cd_124 (List.mem_of_getElem? (i := 1138) rfl)
set_option maxRecDepth 100000 in
theorem cd_126 : ∀ m, m < 127 → cdP m := lt_s cd_125 (List.mem_of_getElem? (i := 1141) rfl)
set_option maxRecDepth 100000 in
theorem cd_127 : ∀ m, m < 128 → cdP m := lt_s cd_126 (List.mem_of_getElem? (i := 1160) rfl)
set_option maxRecDepth 100000 in
theorem cd_128 : ∀ m, m < 129 → cdP m := lt_s cd_127 (List.mem_of_getElem? (i := 1179) rfl)
set_option maxRecDepth 100000 in
theorem cd_129 : ∀ m, m < 130 → cdP m := lt_s cd_128 (List.mem_of_getElem? (i := 1157) rfl)
set_option maxRecDepth 100000 in
theorem cd_130 : ∀ m, m < 131 → cdP m := lt_s cd_129 (List.mem_of_getElem? (i := 1153) rfl)
set_option maxRecDepth 100000 in
theorem cd_131 : ∀ m, m < 132 → cdP m := lt_s cd_130 (List.mem_of_getElem? (i := 1231) rfl)
set_option maxRecDepth 100000 in
theorem cd_132 : ∀ m, m < 133 → cdP m := lt_s cd_131 (List.mem_of_getElem? (i := 1173) rfl)
set_option maxRecDepth 100000 in
theorem cd_133 : ∀ m, m < 134 → cdP m := lt_s cd_132 (List.mem_of_getElem? (i := 1248) rfl)
set_option maxRecDepth 100000 in
theorem cd_134 : ∀ m, m < 135 → cdP m := lt_s cd_133 (List.mem_of_getElem? (i := 1214) rfl)
set_option maxRecDepth 100000 in
theorem cd_135 : ∀ m, m < 136 → cdP m := lt_s cd_134 (List.mem_of_getElem? (i := 1210) rfl)
set_option maxRecDepth 100000 in
theorem cd_136 : ∀ m, m < 137 → cdP m := lt_s cd_135 (List.mem_of_getElem? (i := 1227) rfl)
set_option maxRecDepth 100000 in
theorem cd_137 : ∀ m, m < 138 → cdP m := lt_s cd_136 (List.mem_of_getElem? (i := 1204) rfl)
set_option maxRecDepth 100000 in
theorem cd_138 : ∀ m, m < 139 → cdP m := lt_s cd_137 (List.mem_of_getElem? (i := 1219) rfl)
set_option maxRecDepth 100000 in
theorem cd_139 : ∀ m, m < 140 → cdP m := lt_s cd_138 (List.mem_of_getElem? (i := 1223) rfl)
set_option maxRecDepth 100000 in
theorem cd_140 : ∀ m, m < 141 → cdP m := lt_s cd_139 (List.mem_of_getElem? (i := 1200) rfl)
set_option maxRecDepth 100000 in
theorem cd_141 : ∀ m, m < 142 → cdP m := lt_s cd_140 (List.mem_of_getElem? (i := 1241) rfl)
set_option maxRecDepth 100000 in
theorem cd_142 : ∀ m, m < 143 → cdP m := lt_s cd_141 (List.mem_of_getElem? (i := 1196) rfl)
set_option maxRecDepth 100000 in
theorem cd_143 : ∀ m, m < 144 → cdP m := lt_s cd_142 (List.mem_of_getElem? (i := 1237) rfl)
set_option maxRecDepth 100000 in
theorem cd_144 : ∀ m, m < 145 → cdP m := lt_s cd_143 (List.mem_of_getElem? (i := 1191) rfl)
set_option maxRecDepth 100000 in
theorem cd_145 : ∀ m, m < 146 → cdP m := lt_s cd_144 (List.mem_of_getElem? (i := 1187) rfl)
set_option maxRecDepth 100000 in
theorem cd_146 : ∀ m, m < 147 → cdP m := lt_s cd_145 (List.mem_of_getElem? (i := 1183) rfl)
set_option maxRecDepth 100000 in
theorem cd_147 : ∀ m, m < 148 → cdP m := lt_s cd_146 (List.mem_of_getElem? (i := 1149) rfl)
set_option maxRecDepth 100000 in
theorem cd_148 : ∀ m, m < 149 → cdP m := lt_s cd_147 (List.mem_of_getElem? (i := 1145) rfl)
set_option maxRecDepth 100000 in
theorem cd_149 : ∀ m, m < 150 → cdP m := lt_s cd_148 (List.mem_of_getElem? (i := 1131) rfl)
set_option maxRecDepth 100000 in
theorem cd_150 : ∀ m, m < 151 → cdP m := lt_s cd_149 (List.mem_of_getElem? (i := 1256) rfl)
set_option maxRecDepth 100000 in
theorem cd_151 : ∀ m, m < 152 → cdP m := lt_s cd_150 (List.mem_of_getElem? (i := 1302) rfl)
set_option maxRecDepth 100000 in
theorem cd_152 : ∀ m, m < 153 → cdP m := lt_s cd_151 (List.mem_of_getElem? (i := 1299) rfl)
set_option maxRecDepth 100000 in
theorem cd_153 : ∀ m, m < 154 → cdP m := lt_s cd_152 (List.mem_of_getElem? (i := 1252) rfl)
set_option maxRecDepth 100000 in
theorem cd_154 : ∀ m, m < 155 → cdP m := lt_s cd_153 (List.mem_of_getElem? (i := 1264) rfl)
set_option maxRecDepth 100000 in
theorem cd_155 : ∀ m, m < 156 → cdP m := lt_s cd_154 (List.mem_of_getElem? (i := 1268) rfl)
set_option maxRecDepth 100000 in
theorem cd_156 : ∀ m, m < 157 → cdP m := lt_s cd_155 (List.mem_of_getElem? (i := 1283) rfl)
set_option maxRecDepth 100000 in
theorem cd_157 : ∀ m, m < 158 → cdP m := lt_s cd_156 (List.mem_of_getElem? (i := 1279) rfl)
set_option maxRecDepth 100000 in
theorem cd_158 : ∀ m, m < 159 → cdP m := lt_s cd_157 (List.mem_of_getElem? (i := 1275) rfl)
set_option maxRecDepth 100000 in
theorem cd_159 : ∀ m, m < 160 → cdP m := lt_s cd_158 (List.mem_of_getElem? (i := 1287) rfl)
set_option maxRecDepth 100000 in
theorem cd_160 : ∀ m, m < 161 → cdP m := lt_s cd_159 (List.mem_of_getElem? (i := 1295) rfl)
set_option maxRecDepth 100000 in
theorem cd_161 : ∀ m, m < 162 → cdP m := lt_s cd_160 (List.mem_of_getElem? (i := 1318) rfl)
set_option maxRecDepth 100000 in
theorem cd_162 : ∀ m, m < 163 → cdP m := lt_s cd_161 (List.mem_of_getElem? (i := 1322) rfl)
set_option maxRecDepth 100000 in
theorem cd_163 : ∀ m, m < 164 → cdP m := lt_s cd_162 (List.mem_of_getElem? (i := 1314) rfl)
set_option maxRecDepth 100000 in
theorem cd_164 : ∀ m, m < 165 → cdP m := lt_s cd_163 (List.mem_of_getElem? (i := 1310) rfl)
set_option maxRecDepth 100000 in
theorem cd_165 : ∀ m, m < 166 → cdP m := lt_s cd_164 (List.mem_of_getElem? (i := 1326) rfl)
set_option maxRecDepth 100000 in
theorem cd_166 : ∀ m, m < 167 → cdP m := lt_s cd_165 (List.mem_of_getElem? (i := 1334) rfl)
set_option maxRecDepth 100000 in
theorem cd_167 : ∀ m, m < 168 → cdP m := lt_s cd_166 (List.mem_of_getElem? (i := 1330) rfl)
set_option maxRecDepth 100000 in
theorem cd_168 : ∀ m, m < 169 → cdP m := lt_s cd_167 (List.mem_of_getElem? (i := 1351) rfl)
set_option maxRecDepth 100000 in
theorem cd_169 : ∀ m, m < 170 → cdP m := lt_s cd_168 (List.mem_of_getElem? (i := 1360) rfl)
set_option maxRecDepth 100000 in
theorem cd_170 : ∀ m, m < 171 → cdP m := lt_s cd_169 (List.mem_of_getElem? (i := 1347) rfl)
set_option maxRecDepth 100000 in
theorem cd_171 : ∀ m, m < 172 → cdP m := lt_s cd_170 (List.mem_of_getElem? (i := 1338) rfl)
set_option maxRecDepth 100000 in
theorem cd_172 : ∀ m, m < 173 → cdP m := lt_s cd_171 (List.mem_of_getElem? (i := 1342) rfl)
set_option maxRecDepth 100000 in
theorem cd_173 : ∀ m, m < 174 → cdP m := lt_s cd_172 (List.mem_of_getElem? (i := 1356) rfl)
set_option maxRecDepth 100000 in
theorem cd_174 : ∀ m, m < 175 → cdP m := lt_s cd_173 (List.mem_of_getElem? (i := 1364) rfl)
set_option maxRecDepth 100000 in
theorem cd_175 : ∀ m, m < 176 → cdP m := lt_s cd_174 (List.mem_of_getElem? (i := 1372) rfl)
set_option maxRecDepth 100000 in
theorem cd_176 : ∀ m, m < 177 → cdP m := lt_s cd_175 (List.mem_of_getElem? (i := 1368) rfl)
set_option maxRecDepth 100000 in
theorem cd_177 : ∀ m, m < 178 → cdP m := lt_s cd_176 (List.mem_of_getElem? (i := 1376) rfl)
set_option maxRecDepth 100000 in
theorem cd_178 : ∀ m, m < 179 → cdP m := lt_s cd_177 (List.mem_of_getElem? (i := 1380) rfl)
set_option maxRecDepth 100000 in
theorem cd_179 : ∀ m, m < 180 → cdP m := lt_s cd_178 (List.mem_of_getElem? (i := 1396) rfl)
set_option maxRecDepth 100000 in
theorem cd_180 : ∀ m, m < 181 → cdP m := lt_s cd_179 (List.mem_of_getElem? (i := 1392) rfl)
set_option maxRecDepth 100000 in
theorem cd_181 : ∀ m, m < 182 → cdP m := lt_s cd_180 (List.mem_of_getElem? (i := 1388) rfl)
set_option maxRecDepth 100000 in
theorem cd_182 : ∀ m, m < 183 → cdP m := lt_s cd_181 (List.mem_of_getElem? (i := 1384) rfl)
set_option maxRecDepth 100000 in
theorem cd_183 : ∀ m, m < 184 → cdP m := lt_s cd_182 (List.mem_of_getElem? (i := 1404) rfl)
set_option maxRecDepth 100000 in
theorem cd_184 : ∀ m, m < 185 → cdP m := lt_s cd_183 (List.mem_of_getElem? (i := 1400) rfl)
set_option maxRecDepth 100000 in
theorem cd_185 : ∀ m, m < 186 → cdP m := lt_s cd_184 (List.mem_of_getElem? (i := 1412) rfl)
set_option maxRecDepth 100000 in
theorem cd_186 : ∀ m, m < 187 → cdP m := lt_s cd_185 (List.mem_of_getElem? (i := 1408) rfl)
set_option maxRecDepth 100000 in
theorem cd_187 : ∀ m, m < 188 → cdP m := lt_s cd_186 (List.mem_of_getElem? (i := 1416) rfl)
set_option maxRecDepth 100000 in
theorem cd_188 : ∀ m, m < 189 → cdP m := lt_s cd_187 (List.mem_of_getElem? (i := 1421) rfl)
set_option maxRecDepth 100000 in
theorem cd_189 : ∀ m, m < 190 → cdP m := lt_s cd_188 (List.mem_of_getElem? (i := 1425) rfl)
set_option maxRecDepth 100000 in
theorem cd_190 : ∀ m, m < 191 → cdP m := lt_s cd_189 (List.mem_of_getElem? (i := 1429) rfl)
set_option maxRecDepth 100000 in
theorem cd_191 : ∀ m, m < 192 → cdP m := lt_s cd_190 (List.mem_of_getElem? (i := 1437) rfl)
set_option maxRecDepth 100000 in
theorem cd_192 : ∀ m, m < 193 → cdP m := lt_s cd_191 (List.mem_of_getElem? (i := 1433) rfl)
set_option maxRecDepth 100000 in
theorem cd_193 : ∀ m, m < 194 → cdP m := lt_s cd_192 (List.mem_of_getElem? (i := 1445) rfl)
set_option maxRecDepth 100000 in
theorem cd_194 : ∀ m, m < 195 → cdP m := lt_s cd_193 (List.mem_of_getElem? (i := 1441) rfl)
set_option maxRecDepth 100000 in
theorem cd_195 : ∀ m, m < 196 → cdP m := lt_s cd_194 (List.mem_of_getElem? (i := 1449) rfl)
set_option maxRecDepth 100000 in
theorem cd_196 : ∀ m, m < 197 → cdP m := lt_s cd_195 (List.mem_of_getElem? (i := 1453) rfl)
set_option maxRecDepth 100000 in
theorem cd_197 : ∀ m, m < 198 → cdP m := lt_s cd_196 (List.mem_of_getElem? (i := 1457) rfl)
set_option maxRecDepth 100000 in
theorem cd_198 : ∀ m, m < 199 → cdP m := lt_s cd_197 (List.mem_of_getElem? (i := 1461) rfl)
set_option maxRecDepth 100000 in
theorem cd_199 : ∀ m, m < 200 → cdP m := lt_s cd_198 (List.mem_of_getElem? (i := 1469) rfl)
set_option maxRecDepth 100000 in
theorem cd_200 : ∀ m, m < 201 → cdP m := lt_s cd_199 (List.mem_of_getElem? (i := 1465) rfl)
set_option maxRecDepth 100000 in
theorem cd_201 : ∀ m, m < 202 → cdP m := lt_s cd_200 (List.mem_of_getElem? (i := 1482) rfl)
set_option maxRecDepth 100000 in
theorem cd_202 : ∀ m, m < 203 → cdP m := lt_s cd_201 (List.mem_of_getElem? (i := 1477) rfl)
set_option maxRecDepth 100000 in
theorem cd_203 : ∀ m, m < 204 → cdP m := lt_s cd_202 (List.mem_of_getElem? (i := 1473) rfl)
set_option maxRecDepth 100000 in
theorem cd_204 : ∀ m, m < 205 → cdP m := lt_s cd_203 (List.mem_of_getElem? (i := 1486) rfl)
set_option maxRecDepth 100000 in
theorem cd_205 : ∀ m, m < 206 → cdP m := lt_s cd_204 (List.mem_of_getElem? (i := 1490) rfl)
set_option maxRecDepth 100000 in
theorem cd_206 : ∀ m, m < 207 → cdP m := lt_s cd_205 (List.mem_of_getElem? (i := 630) rfl)
set_option maxRecDepth 100000 in
theorem cd_207 : ∀ m, m < 208 → cdP m := lt_s cd_206 (List.mem_of_getElem? (i := 352) rfl)
set_option maxRecDepth 100000 in
theorem cd_208 : ∀ m, m < 209 → cdP m := lt_s cd_207 (List.mem_of_getElem? (i := 425) rfl)
set_option maxRecDepth 100000 in
theorem cd_209 : ∀ m, m < 210 → cdP m := lt_s cd_208 (List.mem_of_getElem? (i := 438) rfl)
set_option maxRecDepth 100000 in
theorem cd_210 : ∀ m, m < 211 → cdP m := lt_s cd_209 (List.mem_of_getElem? (i := 429) rfl)
set_option maxRecDepth 100000 in
theorem cd_211 : ∀ m, m < 212 → cdP m := lt_s cd_210 (List.mem_of_getElem? (i := 442) rfl)
set_option maxRecDepth 100000 in
theorem cd_212 : ∀ m, m < 213 → cdP m := lt_s cd_211 (List.mem_of_getElem? (i := 448) rfl)
set_option maxRecDepth 100000 in
theorem cd_213 : ∀ m, m < 214 → cdP m := lt_s cd_212 (List.mem_of_getElem? (i := 445) rfl)
set_option maxRecDepth 100000 in
theorem cd_214 : ∀ m, m < 215 → cdP m := lt_s cd_213 (List.mem_of_getElem? (i := 466) rfl)
set_option maxRecDepth 100000 in
theorem cd_215 : ∀ m, m < 216 → cdP m := lt_s cd_214 (List.mem_of_getElem? (i := 462) rfl)
set_option maxRecDepth 100000 in
theorem cd_216 : ∀ m, m < 217 → cdP m := lt_s cd_215 (List.mem_of_getElem? (i := 456) rfl)
set_option maxRecDepth 100000 in
theorem cd_217 : ∀ m, m < 218 → cdP m := lt_s cd_216 (List.mem_of_getElem? (i := 459) rfl)
set_option maxRecDepth 100000 in
theorem cd_218 : ∀ m, m < 219 → cdP m := lt_s cd_217 (List.mem_of_getElem? (i := 124) rfl)
set_option maxRecDepth 100000 in
theorem cd_219 : ∀ m, m < 220 → cdP m := lt_s cd_218 (List.mem_of_getElem? (i := 574) rfl)
set_option maxRecDepth 100000 in
theorem cd_220 : ∀ m, m < 221 → cdP m := lt_s cd_219 (List.mem_of_getElem? (i := 453) rfl)
theorem code_in {m : Nat} (hm : m < 221) : Cond.code (ej_y m) (ej_b m) (ej_mx m) (ej_rt m) ∈ gtbl := gt_of (cd_220 m hm) rfl
def ej_nas : List Nat := [1, 2, 2, 0, 0, 2, 0, 2, 2, 1, 1, 0, 1, 0, 1, 3, 0, 1, 2, 2, 0, 1, 0, 0, 1, 1, 1, 1, 1, 2, 2, 0, 2, 3, 2, 4, 3, 1, 1, 0, 1, 0, 1, 0, 4, 0, 1, 2, 2, 1, 0, 1, 1, 1, 2, 3, 4, 1, 1, 0, 1, 2, 2, 1, 2, 1, 0, 4, 1, 5, 0, 0, 2, 1, 1, 0, 5, 1, 1, 3, 1, 2, 1, 2, 4, 2, 2, 4, 1, 1, 1, 1, 3, 4, 4, 4, 3, 4, 2, 2, 2, 1, 2, 2, 2, 5, 1, 1, 1, 1, 1, 1, 3, 1, 2, 1, 2, 0, 3, 1, 1, 1, 5, 1, 1, 1, 2, 2, 2, 0, 0, 0, 1, 1, 2, 1, 1, 0, 0, 1, 0, 0, 1, 1, 0, 0, 2, 2, 1, 1, 2, 3, 2, 3, 1, 2, 2, 1, 1, 2, 2, 2, 2, 4, 4, 2, 2, 2, 1, 1, 2, 4, 1, 0, 3, 0, 1, 1, 1, 2, 3, 3, 3, 0, 4, 2, 4, 4, 3, 4, 2, 1, 2, 2, 2, 1, 2, 2, 2, 1, 5, 1, 1, 1, 1, 1, 1, 2, 0, 1, 0, 0, 2, 2, 2, 1, 2, 2, 2, 2, 3, 1]
def ej_na (m : Nat) : Nat := ej_nas.getD m 0
theorem na_ok : ∀ m, m < 222 → (parseMethodDescriptor (ej_y m).desc).map (fun d => d.parameters.length) = some (ej_na m) := by decide +kernel
theorem own_ok : ∀ m, m < 222 → (ej_y m).cls = ej_cn (ej_own m) ∧ ej_own m < 18 ∧ ej_mx m ≤ 12 := by decide +kernel
theorem cls_ok : ∀ c, c < 18 → ej_cn c ≠ "java/lang/invoke/MethodHandle" ∧ ej_cn c ≠ "java/lang/invoke/VarHandle" ∧ (c = 13 ∨ Jvm.plainName (ej_cn c) = true) := by decide +kernel
/-- methods called on an object: the word of the method, of what is chosen (0: a word of the tables; 1: a private one, by its place) -/
def ej_virt : List (Nat × Nat × Nat × Nat) := [(1, 347, 0, 348), (2, 407, 1, 1), (3, 415, 1, 3), (4, 481, 1, 5), (5, 495, 1, 8), (6, 565, 1, 23), (7, 570, 1, 24), (8, 499, 1, 9), (9, 504, 1, 10), (10, 508, 1, 11), (11, 520, 1, 13), (12, 545, 1, 18), (13, 561, 1, 22), (14, 512, 1, 12), (15, 535, 1, 16), (16, 539, 1, 17), (17, 549, 1, 19), (18, 553, 1, 20), (19, 557, 1, 21), (20, 524, 1, 14), (21, 528, 1, 15), (22, 411, 1, 2), (23, 491, 1, 7), (24, 420, 1, 4), (28, 487, 1, 6), (30, 686, 0, 687), (31, 690, 0, 691), (32, 754, 0, 755), (33, 708, 0, 709), (34, 713, 1, 27), (35, 717, 1, 28), (36, 699, 0, 700), (37, 722, 0, 723), (38, 695, 1, 26), (39, 733, 0, 734), (40, 741, 0, 742), (41, 817, 0, 818), (42, 920, 0, 921), (44, 854, 0, 855), (46, 343, 0, 344), (47, 587, 0, 588), (48, 598, 0, 599), (49, 643, 0, 644), (50, 763, 0, 764), (51, 768, 0, 769), (52, 777, 0, 778), (53, 879, 0, 880), (54, 658, 0, 659), (55, 648, 0, 649), (56, 680, 0, 681), (57, 905, 0, 906), (58, 916, 1, 34), (60, 837, 0, 838), (61, 829, 0, 830), (62, 841, 0, 842), (63, 861, 0, 862), (64, 865, 0, 866), (65, 910, 0, 911), (67, 789, 0, 790), (68, 795, 1, 30), (69, 800, 1, 31), (72, 625, 0, 626), (73, 653, 0, 654), (74, 671, 0, 672), (76, 327, 0, 328), (77, 335, 0, 336), (78, 339, 0, 340), (79, 594, 0, 595), (80, 605, 0, 606), (81, 609, 0, 610), (82, 613, 0, 614), (83, 617, 0, 618), (84, 635, 0, 636), (85, 662, 0, 663), (86, 667, 0, 668), (87, 676, 0, 677), (88, 704, 0, 705), (89, 729, 0, 730), (90, 737, 0, 738), (91, 746, 0, 747), (92, 750, 0, 751), (93, 759, 0, 760), (94, 785, 0, 786), (95, 808, 0, 809), (96, 812, 0, 813), (97, 821, 0, 822), (98, 825, 0, 826), (99, 833, 0, 834), (100, 846, 0, 847), (101, 871, 0, 872), (102, 875, 0, 876), (103, 883, 0, 884), (104, 888, 0, 889), (105, 892, 0, 893), (106, 901, 0, 902), (107, 925, 0, 926), (108, 929, 0, 930), (111, 332, 1, 0), (112, 640, 1, 25), (113, 774, 1, 29), (115, 851, 1, 32), (116, 897, 1, 33), (122, 1117, 0, 1118), (123, 1122, 1, 35), (124, 1125, 0, 1126), (128, 1178, 1, 41), (129, 1156, 1, 39), (130, 1152, 1, 38), (131, 1230, 1, 53), (132, 1172, 1, 40), (133, 1247, 1, 56), (134, 1213, 1, 49), (135, 1209, 1, 48), (136, 1226, 1, 52), (137, 1203, 1, 47), (138, 1218, 1, 50), (139, 1222, 1, 51), (140, 1199, 1, 46), (141, 1240, 1, 55), (142, 1195, 1, 45), (143, 1236, 1, 54), (144, 1190, 1, 44), (145, 1186, 1, 43), (146, 1182, 1, 42), (147, 1148, 1, 37), (148, 1144, 1, 36), (149, 1129, 0, 1130), (150, 1255, 1, 57), (152, 1298, 1, 61), (153, 1250, 0, 1251), (154, 1262, 0, 1263), (155, 1266, 0, 1267), (156, 1282, 1, 59), (157, 1278, 1, 58), (158, 1273, 0, 1274), (159, 1285, 0, 1286), (160, 1294, 1, 60), (161, 1317, 1, 63), (162, 1321, 1, 64), (163, 1313, 1, 62), (164, 1308, 0, 1309), (165, 1324, 0, 1325), (166, 1333, 1, 65), (167, 1328, 0, 1329), (168, 1350, 1, 67), (169, 1359, 1, 69), (170, 1346, 1, 66), (171, 1336, 0, 1337), (172, 1340, 0, 1341), (173, 1355, 1, 68), (174, 1363, 1, 70), (175, 1371, 1, 71), (176, 1366, 0, 1367), (177, 1374, 0, 1375), (178, 1378, 0, 1379), (179, 1395, 1, 74), (180, 1391, 1, 73), (181, 1387, 1, 72), (182, 1382, 0, 1383), (183, 1403, 1, 75), (184, 1398, 0, 1399), (185, 1411, 1, 76), (186, 1406, 0, 1407), (187, 1414, 0, 1415), (188, 1419, 0, 1420), (189, 1423, 0, 1424), (190, 1427, 0, 1428), (191, 1436, 1, 77), (192, 1431, 0, 1432), (193, 1444, 1, 78), (194, 1439, 0, 1440), (195, 1447, 0, 1448), (196, 1451, 0, 1452), (197, 1455, 0, 1456), (198, 1459, 0, 1460), (199, 1468, 1, 79), (200, 1463, 0, 1464), (201, 1481, 1, 81), (202, 1476, 1, 80), (203, 1471, 0, 1472), (204, 1484, 0, 1485), (205, 1488, 0, 1489), (208, 423, 0, 424), (209, 436, 0, 437), (210, 427, 0, 428), (211, 440, 0, 441)]
def okV (e : Nat × Nat × Nat × Nat) : Bool := ej_at e.2.1 (.instanceMethod (ej_y e.1)) && (match e.2.2.1 with
  | 0 => ej_at e.2.2.2 (.selects (ej_y e.1).cls (ej_y e.1) (ej_y e.1))
  | _ => match lw_privs[e.2.2.2]? with
    | some q => decide (q.1 = ej_y e.1)
    | none => false)
theorem virt_all : (ej_virt.all okV) = true := by decide +kernel
def isV (m : Nat) : Bool := ej_virt.any fun e => Nat.beq e.1 m
theorem isV_ok {m : Nat} (h : isV m = true) : Cond.instanceMethod (ej_y m) ∈ gtbl ∧ Cond.selects (ej_y m).cls (ej_y m) (ej_y m) ∈ gtbl := by
  obtain ⟨e, he, h1⟩ := List.any_eq_true.mp h
  have h2 := List.all_eq_true.mp virt_all e he
  obtain ⟨a, b, c, n⟩ := e
  have h1 : Nat.beq a m = true := h1
  rw [← Nat.eq_of_beq_eq_true h1]
  simp only [okV, Bool.and_eq_true] at h2
  obtain ⟨h3, h4⟩ := h2
  refine ⟨gt_of (at_mem h3) rfl, ?_⟩
  match c, h4 with
  | 0, h4 => exact gt_of (at_mem h4) rfl
  | c + 1, h4 =>
    cases hq : lw_privs[n]? with
    | none => simp [hq] at h4
    | some q =>
      simp only [hq, decide_eq_true_eq] at h4
      obtain ⟨q1, q2⟩ := q
      have h4 : q1 = ej_y a := h4
      subst h4
      exact gt_sel (List.mem_of_getElem? hq) rfl
def ej_stat : List (Nat × Nat) := [(25, 433), (26, 516), (27, 531), (109, 602), (110, 621), (114, 782), (118, 1134), (119, 1258), (120, 1289), (121, 1305), (125, 1137), (126, 1140), (127, 1159), (151, 1301), (206, 629), (212, 447), (213, 444), (216, 455), (218, 123), (219, 573), (220, 452)]
theorem stat_all : (ej_stat.all fun e => ej_at e.2 (.static (ej_y e.1))) = true := by decide +kernel
def isS (m : Nat) : Bool := ej_stat.any fun e => Nat.beq e.1 m
theorem isS_ok {m : Nat} (h : isS m = true) : Cond.static (ej_y m) ∈ gtbl := by
  obtain ⟨e, he, h1⟩ := List.any_eq_true.mp h
  have h2 := List.all_eq_true.mp stat_all e he
  have h1 : Nat.beq e.1 m = true := h1
  rw [← Nat.eq_of_beq_eq_true h1]
  exact gt_of (at_mem h2) rfl
def ej_spec : List (Nat × Nat) := [(0, 30), (29, 216), (43, 269), (45, 90), (59, 100), (66, 255), (70, 176), (71, 356), (75, 22), (117, 935)]
theorem spec_all : (ej_spec.all fun e => ej_at e.2 (.instanceMethod (ej_y e.1)) && (decide ((ej_y e.1).name = "<init>") && decide (ej_rt e.1 = none))) = true := by decide +kernel
def isI (m : Nat) : Bool := ej_spec.any fun e => Nat.beq e.1 m
theorem isI_ok {m : Nat} (h : isI m = true) : Cond.instanceMethod (ej_y m) ∈ gtbl ∧ (ej_y m).name = "<init>" ∧ ej_rt m = none := by
  obtain ⟨e, he, h1⟩ := List.any_eq_true.mp h
  have h2 := List.all_eq_true.mp spec_all e he
  have h1 : Nat.beq e.1 m = true := h1
  rw [← Nat.eq_of_beq_eq_true h1]
  simp only [Bool.and_eq_true, decide_eq_true_eq] at h2
  exact ⟨gt_of (at_mem h2.1) rfl, h2.2⟩
def ej_lkO : List (Nat × Nat × Nat) := [(8, 1, 24), (0, 3, 32), (3, 3, 92), (4, 3, 102), (6, 3, 178), (1, 3, 218), (5, 3, 257), (2, 3, 271), (7, 1, 358), (9, 3, 937)]
theorem lkO_all : (ej_lkO.all fun e => ej_at e.2.2 (.methodLink (ej_cn e.1) e.2.1 objectInit)) = true := by decide +kernel
def hasO (own ix : Nat) : Bool := ej_lkO.any fun e => Nat.beq e.1 own && Nat.beq e.2.1 ix
theorem hasO_ok {own ix : Nat} (h : hasO own ix = true) : Cond.methodLink (ej_cn own) ix objectInit ∈ gtbl := by
  obtain ⟨e, he, h1⟩ := List.any_eq_true.mp h
  have h2 := List.all_eq_true.mp lkO_all e he
  simp only [Bool.and_eq_true] at h1
  rw [← Nat.eq_of_beq_eq_true h1.1, ← Nat.eq_of_beq_eq_true h1.2]
  exact gt_of (at_mem h2) rfl
theorem oi_code : Cond.code objectInit ⟨#[0xb1]⟩ 1 none ∈ gtbl := gt_of (at_mem (n := 26) (by decide +kernel)) rfl
theorem oi_inst : Cond.instanceMethod objectInit ∈ gtbl := gt_of (at_mem (n := 25) (by decide +kernel)) rfl
def ej_lkA : List (Nat × Nat × Nat) := [(16, 150, 583), (3, 116, 908), (4, 36, 913), (1, 116, 923)]
theorem lkA_all : (ej_lkA.all fun e => ej_at e.2.2 (.methodLink (ej_cn e.1) e.2.1 arraycopyName)) = true := by decide +kernel
def hasA (own ix : Nat) : Bool := ej_lkA.any fun e => Nat.beq e.1 own && Nat.beq e.2.1 ix
theorem hasA_ok {own ix : Nat} (h : hasA own ix = true) : Cond.methodLink (ej_cn own) ix arraycopyName ∈ gtbl := by
  obtain ⟨e, he, h1⟩ := List.any_eq_true.mp h
  have h2 := List.all_eq_true.mp lkA_all e he
  simp only [Bool.and_eq_true] at h1
  rw [← Nat.eq_of_beq_eq_true h1.1, ← Nat.eq_of_beq_eq_true h1.2]
  exact gt_of (at_mem h2) rfl
theorem ac_nat : Cond.native arraycopyName ∈ gtbl := gt_of (at_mem (n := 585) (by decide +kernel)) rfl
theorem ac_sta : Cond.static arraycopyName ∈ gtbl := gt_of (at_mem (n := 584) (by decide +kernel)) rfl
theorem ac_ini : Cond.initialized "java/lang/System" ∈ gtbl := gt_of (at_mem (n := 17) (by decide +kernel)) rfl
theorem cl_lnk : Cond.methodLink "java/util/Arrays" 316 ⟨"[I", "clone", "()Ljava/lang/Object;"⟩ ∈ gtbl := gt_of (at_mem (n := 575) (by decide +kernel)) rfl
theorem cl_sam : Cond.sameMethod "[I" "java/lang/Object" "clone" "()Ljava/lang/Object;" ∈ gtbl := gt_of (at_mem (n := 576) (by decide +kernel)) rfl
theorem cl_nat : Cond.native ⟨"java/lang/Object", "clone", "()Ljava/lang/Object;"⟩ ∈ gtbl := gt_of (at_mem (n := 577) (by decide +kernel)) rfl
theorem cl_ins : Cond.instanceMethod ⟨"java/lang/Object", "clone", "()Ljava/lang/Object;"⟩ ∈ gtbl := gt_of (at_mem (n := 578) (by decide +kernel)) rfl
theorem cl_sel : Cond.selects "[I" ⟨"[I", "clone", "()Ljava/lang/Object;"⟩ ⟨"java/lang/Object", "clone", "()Ljava/lang/Object;"⟩ ∈ gtbl := gt_of (at_mem (n := 579) (by decide +kernel)) rfl
theorem cl_cas : Cond.castable "[I" "java/lang/Cloneable" ∈ tables_1 := at_mem (n := 580) (by decide +kernel)
theorem cl_chk : Cond.classLink "java/util/Arrays" 317 "[I" ∈ gtbl := gt_of (at_mem (n := 581) (by decide +kernel)) rfl
def ej_lkC : List (Nat × Nat × Nat × Nat) := [(11, 7, 8, 19), (8, 17, 0, 27), (8, 26, 3, 87), (3, 9, 7, 93), (3, 37, 4, 97), (8, 37, 6, 173), (8, 44, 1, 213), (8, 53, 5, 252), (8, 60, 2, 266), (2, 9, 6, 272), (0, 24, 7, 353), (3, 107, 1, 683), (11, 10, 9, 932)]
theorem lkC_all : (ej_lkC.all fun e => ej_at e.2.2.2 (.classLink (ej_cn e.1) e.2.1 (ej_cn e.2.2.1)) && decide (e.2.2.1 < 10)) = true := by decide +kernel
def hasC (own ix c : Nat) : Bool := ej_lkC.any fun e => Nat.beq e.1 own && (Nat.beq e.2.1 ix && Nat.beq e.2.2.1 c)
theorem hasC_ok {own ix c : Nat} (h : hasC own ix c = true) : Cond.classLink (ej_cn own) ix (ej_cn c) ∈ gtbl ∧ c < 10 := by
  obtain ⟨e, he, h1⟩ := List.any_eq_true.mp h
  have h2 := List.all_eq_true.mp lkC_all e he
  simp only [Bool.and_eq_true, decide_eq_true_eq] at h1 h2
  obtain ⟨r1, r2, r3⟩ := h1
  rw [← Nat.eq_of_beq_eq_true r1, ← Nat.eq_of_beq_eq_true r2, ← Nat.eq_of_beq_eq_true r3]
  exact ⟨gt_of (at_mem h2.1) rfl, h2.2⟩
theorem arr_I : Cond.arrayClass .int ∈ gtbl := gt_of (at_mem (n := 86) (by decide +kernel)) rfl
theorem arr_B : Cond.arrayClass .byte ∈ gtbl := gt_of (at_mem (n := 592) (by decide +kernel)) rfl
theorem arr_Z : Cond.arrayClass .boolean ∈ gtbl := gt_of (at_mem (n := 265) (by decide +kernel)) rfl
theorem arr_W : Cond.arrayOver (.object "FeignedSuit$Writ") ∈ tables_1 := at_mem (n := 94) (by decide +kernel)
theorem arr_L : Cond.arrayOver (.object "FeignedSuit$Land") ∈ tables_1 := at_mem (n := 172) (by decide +kernel)
theorem mn_sta : Cond.static Lib.Math.min.name ∈ gtbl := gt_of (at_mem (n := 351) (by decide +kernel)) rfl
theorem mn_ini : Cond.initialized "java/lang/Math" ∈ gtbl := gt_of (at_mem (n := 11) (by decide +kernel)) rfl
theorem mn_cod : Cond.code Lib.Math.min.name Lib.Math.min.code 2 (some .int) ∈ gtbl := gt_of (at_mem (n := 352) (by decide +kernel)) rfl
def ej_lkX : List (Nat × Nat × Nat) := [(0, 66, 350), (16, 304, 582)]
theorem lkX_all : (ej_lkX.all fun e => ej_at e.2.2 (.methodLink (ej_cn e.1) e.2.1 Lib.Math.min.name)) = true := by decide +kernel
def hasX (own ix : Nat) : Bool := ej_lkX.any fun e => Nat.beq e.1 own && Nat.beq e.2.1 ix
theorem hasX_ok {own ix : Nat} (h : hasX own ix = true) : Cond.methodLink (ej_cn own) ix Lib.Math.min.name ∈ gtbl := by
  obtain ⟨e, he, h1⟩ := List.any_eq_true.mp h
  have h2 := List.all_eq_true.mp lkX_all e he
  simp only [Bool.and_eq_true] at h1
  rw [← Nat.eq_of_beq_eq_true h1.1, ← Nat.eq_of_beq_eq_true h1.2]
  exact gt_of (at_mem h2) rfl
def ej_lkI : List (Nat × Nat × Int32 × Nat) := [(6, 26, 65535, 179), (8, 267, 16777215, 623), (12, 265, 1431655765, 631), (12, 266, 858993459, 632), (12, 267, 252645135, 633), (8, 195, 65535, 646), (1, 111, (-1640531527), 697), (1, 103, 65535, 725), (9, 106, 184000, 938), (9, 282, 16777215, 1303), (9, 334, 40503, 1352), (9, 428, 46000, 1478)]
theorem lkI_all : (ej_lkI.all fun e => ej_at e.2.2.2 (.constant (ej_cn e.1) e.2.1 e.2.2.1)) = true := by decide +kernel
def hasI (own ix : Nat) (v : Int32) : Bool := ej_lkI.any fun e => Nat.beq e.1 own && (Nat.beq e.2.1 ix && decide (e.2.2.1 = v))
theorem hasI_ok {own ix : Nat} {v : Int32} (h : hasI own ix v = true) : Cond.constant (ej_cn own) ix v ∈ gtbl := by
  obtain ⟨e, he, h1⟩ := List.any_eq_true.mp h
  have h2 := List.all_eq_true.mp lkI_all e he
  simp only [Bool.and_eq_true, decide_eq_true_eq] at h1
  obtain ⟨r1, r2, r3⟩ := h1
  rw [← Nat.eq_of_beq_eq_true r1, ← Nat.eq_of_beq_eq_true r2, ← r3]
  exact gt_of (at_mem h2) rfl
def ej_lkL : List (Nat × Nat × Int64 × Nat) := [(3, 66, (-1), 766), (8, 199, (-1), 815), (9, 270, 3, 1132), (9, 199, 65, 1205), (9, 201, 88, 1206), (9, 162, 48, 1232), (9, 164, 57, 1233), (9, 119, 2999, 1260), (9, 300, 23, 1269), (9, 302, (-1), 1270), (9, 304, 15, 1271), (9, 125, 16777215, 1291), (9, 362, 4000, 1343), (9, 401, 65535, 1417)]
theorem lkL_all : (ej_lkL.all fun e => ej_at e.2.2.2 (.constantLong (ej_cn e.1) e.2.1 e.2.2.1)) = true := by decide +kernel
def hasL (own ix : Nat) (v : Int64) : Bool := ej_lkL.any fun e => Nat.beq e.1 own && (Nat.beq e.2.1 ix && decide (e.2.2.1 = v))
theorem hasL_ok {own ix : Nat} {v : Int64} (h : hasL own ix v = true) : Cond.constantLong (ej_cn own) ix v ∈ gtbl := by
  obtain ⟨e, he, h1⟩ := List.any_eq_true.mp h
  have h2 := List.all_eq_true.mp lkL_all e he
  simp only [Bool.and_eq_true, decide_eq_true_eq] at h1
  obtain ⟨r1, r2, r3⟩ := h1
  rw [← Nat.eq_of_beq_eq_true r1, ← Nat.eq_of_beq_eq_true r2, ← r3]
  exact gt_of (at_mem h2) rfl
def ej_lkT : List (Nat × Nat × Nat × Nat × String) := [(0, 111, 3, 417, "need"), (0, 117, 4, 473, "give"), (0, 119, 5, 474, "end"), (0, 121, 6, 475, "days"), (0, 123, 7, 476, "fee"), (0, 125, 8, 477, "lend"), (0, 127, 9, 478, "turn"), (0, 129, 10, 483, "have"), (0, 131, 11, 484, "stop"), (0, 163, 12, 501, "not"), (0, 187, 13, 514, "of"), (0, 168, 14, 541, "and"), (0, 170, 15, 542, "or"), (0, 161, 16, 567, "if"), (9, 134, 17, 1161, "have"), (9, 136, 18, 1162, "stop"), (9, 138, 19, 1163, "need"), (9, 140, 20, 1164, "give"), (9, 142, 21, 1165, "end"), (9, 144, 22, 1166, "days"), (9, 146, 23, 1167, "fee"), (9, 148, 24, 1168, "lend"), (9, 150, 25, 1169, "turn"), (9, 233, 26, 1192, "not"), (9, 216, 27, 1215, "of"), (9, 247, 28, 1242, "and"), (9, 249, 29, 1243, "or"), (9, 262, 30, 1244, "if")]
theorem lkT_all : (ej_lkT.all fun e => ej_at e.2.2.2.1 (.stringRef (ej_cn e.1) e.2.1 e.2.2.2.2)) = true := by decide +kernel
def hasT (own ix i : Nat) : Bool := ej_lkT.any fun e => Nat.beq e.1 own && (Nat.beq e.2.1 ix && Nat.beq e.2.2.1 i)
theorem hasT_ok {own ix i : Nat} (h : hasT own ix i = true) : ∃ e ∈ ej_lkT, own = e.1 ∧ ix = e.2.1 ∧ i = e.2.2.1 := by
  obtain ⟨e, he, h1⟩ := List.any_eq_true.mp h
  simp only [Bool.and_eq_true] at h1
  obtain ⟨r1, r2, r3⟩ := h1
  exact ⟨e, he, (Nat.eq_of_beq_eq_true r1).symm, (Nat.eq_of_beq_eq_true r2).symm, (Nat.eq_of_beq_eq_true r3).symm⟩
theorem sl_val : Cond.fieldLink "java/lang/String" 9 "java/lang/String" "value" "[B" ∈ gtbl := gt_of (at_mem (n := 1491) (by decide +kernel)) rfl
theorem sl_cod : Cond.fieldLink "java/lang/String" 15 "java/lang/String" "coder" "B" ∈ gtbl := gt_of (at_mem (n := 1492) (by decide +kernel)) rfl
theorem sl_cmp : Cond.fieldLink "java/lang/String" 38 "java/lang/String" "COMPACT_STRINGS" "Z" ∈ gtbl := gt_of (at_mem (n := 430) (by decide +kernel)) rfl
theorem sl_fmt : Cond.fieldLink "java/lang/String" 1053 "jdk/internal/util/Preconditions" "SIOOBE_FORMATTER" "Ljava/util/function/BiFunction;" ∈ gtbl := gt_of (at_mem (n := 449) (by decide +kernel)) rfl
def ej_sby : List (List Int32) := [[110, 101, 101, 100], [103, 105, 118, 101], [101, 110, 100], [100, 97, 121, 115], [102, 101, 101], [108, 101, 110, 100], [116, 117, 114, 110], [104, 97, 118, 101], [115, 116, 111, 112], [110, 111, 116], [111, 102], [97, 110, 100], [111, 114], [105, 102], [104, 97, 118, 101], [115, 116, 111, 112], [110, 101, 101, 100], [103, 105, 118, 101], [101, 110, 100], [100, 97, 121, 115], [102, 101, 101], [108, 101, 110, 100], [116, 117, 114, 110], [110, 111, 116], [111, 102], [97, 110, 100], [111, 114], [105, 102]]
