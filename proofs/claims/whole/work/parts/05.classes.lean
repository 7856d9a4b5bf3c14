/-! PRINTED by wip/whole/gen1.py: class numbers, fields, links by their places in tables_1 -/
def ix_onL : List String := ["RouteProofs", "RouteProofs$Board", "RouteProofs$Grid", "RouteProofs$Route", "RouteProofs$Pad", "RouteProofs$Descent", "RouteProofs$Walk", "RouteProofs$Stream", "RouteProofs$Chains", "RouteProofs$Bundle", "RouteProofs$Tally", "RouteProofsModel", "java/lang/String", "RouteProofsLaw", "java/lang/Long", "java/lang/Integer", "java/lang/Math", "java/lang/StringLatin1"]
def ix_on (c : Nat) : String := ix_onL.getD c ""
def ix_TL : List (List (String × String × String × Bool)) := [[("RouteProofs", "board", "LRouteProofs$Board;", true), ("RouteProofs", "places", "[LRouteProofs$Board;", true), ("RouteProofs", "filled", "[Z", true), ("RouteProofs", "pad", "LRouteProofs$Pad;", true), ("RouteProofs", "descent", "LRouteProofs$Descent;", true), ("RouteProofs", "walk", "LRouteProofs$Walk;", true), ("RouteProofs", "stream", "LRouteProofs$Stream;", true), ("RouteProofs", "chains", "LRouteProofs$Chains;", true), ("RouteProofs", "spare", "LRouteProofs$Route;", true), ("RouteProofs", "bundle", "LRouteProofs$Bundle;", false)],
  [("RouteProofs$Board", "grid", "LRouteProofs$Grid;", true), ("RouteProofs$Board", "routes", "[LRouteProofs$Route;", true), ("RouteProofs$Board", "starts", "[I", true), ("RouteProofs$Board", "ends", "[I", true), ("RouteProofs$Board", "pairs", "I", false)],
  [("RouteProofs$Grid", "width", "I", false), ("RouteProofs$Grid", "height", "I", false), ("RouteProofs$Grid", "cells", "J", false), ("RouteProofs$Grid", "notFirst", "J", false), ("RouteProofs$Grid", "notLast", "J", false), ("RouteProofs$Grid", "walls", "J", false), ("RouteProofs$Grid", "roles", "[J", true), ("RouteProofs$Grid", "wires", "[J", true)],
  [("RouteProofs$Route", "cells", "[I", true), ("RouteProofs$Route", "length", "I", false), ("RouteProofs$Route", "on", "J", false)],
  [("RouteProofs$Pad", "codes", "[I", true), ("RouteProofs$Pad", "length", "I", false)],
  [("RouteProofs$Descent", "ways", "[J", true), ("RouteProofs$Descent", "matrix", "[J", true), ("RouteProofs$Descent", "minors", "[J", true)],
  [("RouteProofs$Walk", "layers", "[J", true)],
  [("RouteProofs$Stream", "exits", "[J", true), ("RouteProofs$Stream", "open", "J", false), ("RouteProofs$Stream", "sources", "J", false), ("RouteProofs$Stream", "targets", "J", false), ("RouteProofs$Stream", "used", "J", false), ("RouteProofs$Stream", "right", "J", false), ("RouteProofs$Stream", "left", "J", false), ("RouteProofs$Stream", "down", "J", false), ("RouteProofs$Stream", "up", "J", false), ("RouteProofs$Stream", "entered", "J", false), ("RouteProofs$Stream", "passed", "J", false)],
  [("RouteProofs$Chains", "ahead", "[J", true), ("RouteProofs$Chains", "leader", "[I", true), ("RouteProofs$Chains", "follower", "[I", true), ("RouteProofs$Chains", "queue", "[I", true), ("RouteProofs$Chains", "seeker", "[I", true), ("RouteProofs$Chains", "members", "J", false), ("RouteProofs$Chains", "ends", "J", false)],
  [("RouteProofs$Bundle", "allowed", "[J", true), ("RouteProofs$Bundle", "firstDiagonal", "[I", true), ("RouteProofs$Bundle", "lastDiagonal", "[I", true), ("RouteProofs$Bundle", "now", "LRouteProofs$Tally;", false), ("RouteProofs$Bundle", "then", "LRouteProofs$Tally;", false)],
  [("RouteProofs$Tally", "ways", "[J", true), ("RouteProofs$Tally", "states", "[I", true), ("RouteProofs$Tally", "size", "I", false)],
  [("RouteProofsModel", "at", "[I", true), ("RouteProofsModel", "slots", "[I", true), ("RouteProofsModel", "isSaved", "[Z", true), ("RouteProofsModel", "ways", "[J", true), ("RouteProofsModel", "now", "[J", true), ("RouteProofsModel", "then", "[J", true), ("RouteProofsModel", "matrix", "[J", true), ("RouteProofsModel", "far", "[I", true), ("RouteProofsModel", "queue", "[I", true), ("RouteProofsModel", "goesOn", "[I", true), ("RouteProofsModel", "comesBy", "[I", true), ("RouteProofsModel", "reachedBy", "[I", true), ("RouteProofsModel", "fromRole", "I", false), ("RouteProofsModel", "toRole", "I", false), ("RouteProofsModel", "queued", "I", false), ("RouteProofsModel", "along", "[I", true), ("RouteProofsModel", "begins", "[I", true), ("RouteProofsModel", "ends", "[I", true), ("RouteProofsModel", "isPass", "[Z", true), ("RouteProofsModel", "marked", "[I", true), ("RouteProofsModel", "markedMany", "I", false), ("RouteProofsModel", "isBehind", "[Z", true), ("RouteProofsModel", "isLooked", "[Z", true), ("RouteProofsModel", "after", "[I", true), ("RouteProofsModel", "before", "[I", true), ("RouteProofsModel", "triedBy", "[I", true), ("RouteProofsModel", "chosen", "[I", true), ("RouteProofsModel", "groupMany", "I", false), ("RouteProofsModel", "joined", "[I", true), ("RouteProofsModel", "joinedMany", "[I", true), ("RouteProofsModel", "pad", "[I", true), ("RouteProofsModel", "padMany", "I", false), ("RouteProofsModel", "readWidth", "I", false), ("RouteProofsModel", "readHeight", "I", false)],
  [("java/lang/String", "value", "[B", true), ("java/lang/String", "coder", "B", true)]]
def ix_T (c : Nat) : u_T := fun k => (ix_TL.getD c []).getD k ("", "", "", false)
def ix_N (c : Nat) : Nat := (ix_TL.getD c []).length
def ix_tyL : List (List FieldType) := [[(.object "RouteProofs$Board"), (.array (.object "RouteProofs$Board")), (.array .boolean), (.object "RouteProofs$Pad"), (.object "RouteProofs$Descent"), (.object "RouteProofs$Walk"), (.object "RouteProofs$Stream"), (.object "RouteProofs$Chains"), (.object "RouteProofs$Route"), (.object "RouteProofs$Bundle")],
  [(.object "RouteProofs$Grid"), (.array (.object "RouteProofs$Route")), (.array .int), (.array .int), .int],
  [.int, .int, .long, .long, .long, .long, (.array .long), (.array .long)],
  [(.array .int), .int, .long],
  [(.array .int), .int],
  [(.array .long), (.array .long), (.array .long)],
  [(.array .long)],
  [(.array .long), .long, .long, .long, .long, .long, .long, .long, .long, .long, .long],
  [(.array .long), (.array .int), (.array .int), (.array .int), (.array .int), .long, .long],
  [(.array .long), (.array .int), (.array .int), (.object "RouteProofs$Tally"), (.object "RouteProofs$Tally")],
  [(.array .long), (.array .int), .int],
  [(.array .int), (.array .int), (.array .boolean), (.array .long), (.array .long), (.array .long), (.array .long), (.array .int), (.array .int), (.array .int), (.array .int), (.array .int), .int, .int, .int, (.array .int), (.array .int), (.array .int), (.array .boolean), (.array .int), .int, (.array .boolean), (.array .boolean), (.array .int), (.array .int), (.array .int), (.array .int), .int, (.array .int), (.array .int), (.array .int), .int, .int, .int],
  [(.array .byte), .byte]]
def ix_ty (c : Nat) : Nat → FieldType := fun k => (ix_tyL.getD c []).getD k .int
def ix_dfL : List (List Value) := [[.null, .null, .null, .null, .null, .null, .null, .null, .null, .null],
  [.null, .null, .null, .null, .int 0],
  [.int 0, .int 0, .long 0, .long 0, .long 0, .long 0, .null, .null],
  [.null, .int 0, .long 0],
  [.null, .int 0],
  [.null, .null, .null],
  [.null],
  [.null, .long 0, .long 0, .long 0, .long 0, .long 0, .long 0, .long 0, .long 0, .long 0, .long 0],
  [.null, .null, .null, .null, .null, .long 0, .long 0],
  [.null, .null, .null, .null, .null],
  [.null, .null, .int 0],
  [.null, .null, .null, .null, .null, .null, .null, .null, .null, .null, .null, .null, .int 0, .int 0, .int 0, .null, .null, .null, .null, .null, .int 0, .null, .null, .null, .null, .null, .null, .int 0, .null, .null, .null, .int 0, .int 0, .int 0]]
def ix_df (c : Nat) : List Value := ix_dfL.getD c []
/-- own class, pool index, class of the field, its number, its kind (0 int, 1 long, 2 reference, 3 may be null, 4 and 5 of String), final, place -/
def ix_FT : List (Nat × Nat × Nat × Nat × Nat × Nat × Nat) := [(2, 9, 2, 0, 0, 0, 42), (9, 62, 2, 0, 0, 0, 43), (5, 49, 2, 0, 0, 0, 44), (8, 76, 2, 0, 0, 0, 45), (7, 82, 2, 0, 0, 0, 46), (0, 288, 2, 0, 0, 0, 47), (2, 15, 2, 1, 0, 0, 48), (9, 67, 2, 1, 0, 0, 49), (0, 291, 2, 1, 0, 0, 50), (2, 18, 2, 2, 1, 0, 51), (7, 46, 2, 2, 1, 0, 52), (2, 22, 2, 3, 1, 0, 53), (5, 37, 2, 3, 1, 0, 54), (8, 70, 2, 3, 1, 0, 55), (7, 76, 2, 3, 1, 0, 56), (2, 25, 2, 4, 1, 0, 57), (7, 79, 2, 4, 1, 0, 58), (2, 28, 2, 5, 1, 0, 59), (0, 94, 2, 5, 1, 0, 60), (4, 41, 2, 5, 1, 0, 61), (2, 31, 2, 6, 2, 1, 62), (7, 53, 2, 6, 2, 1, 63), (2, 35, 2, 7, 2, 1, 64), (0, 117, 2, 7, 2, 1, 65), (3, 9, 3, 0, 2, 1, 91), (3, 15, 3, 1, 0, 0, 92), (1, 44, 3, 1, 0, 0, 93), (0, 247, 3, 1, 0, 0, 94), (3, 19, 3, 2, 1, 0, 95), (0, 244, 3, 2, 1, 0, 96), (1, 12, 1, 0, 2, 1, 105), (0, 78, 1, 0, 2, 1, 106), (9, 58, 1, 0, 2, 1, 107), (5, 61, 1, 0, 2, 1, 108), (1, 21, 1, 1, 2, 1, 109), (0, 240, 1, 1, 2, 1, 110), (1, 25, 1, 2, 2, 1, 111), (9, 86, 1, 2, 2, 1, 112), (5, 65, 1, 2, 2, 1, 113), (1, 29, 1, 3, 2, 1, 114), (9, 89, 1, 3, 2, 1, 115), (5, 73, 1, 3, 2, 1, 116), (1, 32, 1, 4, 0, 0, 117), (9, 32, 1, 4, 0, 0, 118), (5, 53, 1, 4, 0, 0, 119), (0, 193, 1, 4, 0, 0, 120), (4, 11, 4, 0, 2, 1, 139), (4, 15, 4, 1, 0, 0, 140), (0, 163, 4, 1, 0, 0, 141), (5, 9, 5, 0, 2, 1, 154), (5, 15, 5, 1, 2, 1, 155), (5, 18, 5, 2, 2, 1, 156), (6, 9, 6, 0, 2, 1, 170), (7, 9, 7, 0, 2, 1, 180), (7, 15, 7, 1, 1, 0, 181), (7, 19, 7, 2, 1, 0, 182), (7, 22, 7, 3, 1, 0, 183), (7, 25, 7, 4, 1, 0, 184), (7, 28, 7, 5, 1, 0, 185), (7, 31, 7, 6, 1, 0, 186), (7, 34, 7, 7, 1, 0, 187), (7, 37, 7, 8, 1, 0, 188), (7, 40, 7, 9, 1, 0, 189), (7, 43, 7, 10, 1, 0, 190), (8, 9, 8, 0, 2, 1, 220), (8, 15, 8, 1, 2, 1, 221), (8, 19, 8, 2, 2, 1, 222), (8, 22, 8, 3, 2, 1, 223), (8, 25, 8, 4, 2, 1, 224), (8, 28, 8, 5, 1, 0, 225), (8, 32, 8, 6, 1, 0, 226), (0, 10, 0, 0, 2, 1, 269), (0, 16, 0, 1, 2, 1, 270), (0, 20, 0, 2, 2, 1, 271), (0, 27, 0, 3, 2, 1, 272), (0, 34, 0, 4, 2, 1, 273), (0, 41, 0, 5, 2, 1, 274), (0, 48, 0, 6, 2, 1, 275), (0, 55, 0, 7, 2, 1, 276), (0, 62, 0, 8, 2, 1, 277), (0, 66, 0, 9, 3, 0, 278), (10, 11, 10, 0, 2, 1, 686), (10, 15, 10, 1, 2, 1, 687), (10, 19, 10, 2, 0, 0, 688), (9, 113, 10, 2, 0, 0, 689), (9, 9, 9, 0, 2, 1, 697), (9, 15, 9, 1, 2, 1, 698), (9, 19, 9, 2, 2, 1, 699), (9, 25, 9, 3, 2, 0, 700), (9, 29, 9, 4, 2, 0, 701), (11, 7, 11, 0, 2, 1, 998), (11, 13, 11, 1, 2, 1, 999), (11, 16, 11, 2, 2, 1, 1000), (11, 20, 11, 3, 2, 1, 1001), (11, 24, 11, 4, 2, 1, 1002), (11, 27, 11, 5, 2, 1, 1003), (11, 30, 11, 6, 2, 1, 1004), (11, 33, 11, 7, 2, 1, 1005), (11, 36, 11, 8, 2, 1, 1006), (11, 39, 11, 9, 2, 1, 1007), (11, 42, 11, 10, 2, 1, 1008), (11, 45, 11, 11, 2, 1, 1009), (11, 172, 11, 12, 0, 0, 1010), (11, 185, 11, 13, 0, 0, 1011), (11, 168, 11, 14, 0, 0, 1012), (11, 48, 11, 15, 2, 1, 1013), (11, 51, 11, 16, 2, 1, 1014), (11, 54, 11, 17, 2, 1, 1015), (11, 57, 11, 18, 2, 1, 1016), (11, 60, 11, 19, 2, 1, 1017), (11, 221, 11, 20, 0, 0, 1018), (11, 63, 11, 21, 2, 1, 1019), (11, 66, 11, 22, 2, 1, 1020), (11, 69, 11, 23, 2, 1, 1021), (11, 72, 11, 24, 2, 1, 1022), (11, 75, 11, 25, 2, 1, 1023), (11, 78, 11, 26, 2, 1, 1024), (11, 242, 11, 27, 0, 0, 1025), (11, 81, 11, 28, 2, 1, 1026), (11, 84, 11, 29, 2, 1, 1027), (11, 87, 11, 30, 2, 1, 1028), (11, 317, 11, 31, 0, 0, 1029), (11, 320, 11, 32, 0, 0, 1030), (11, 323, 11, 33, 0, 0, 1031), (12, 15, 12, 1, 5, 1, 1494), (12, 9, 12, 0, 4, 1, 1495)]
def ix_LT : List (Nat × Nat × Int × Nat) := [(2, 42, -1, 255), (0, 102, -1, 323), (14, 314, 6148914691236517205, 330), (14, 316, 3689348814741910323, 331), (14, 318, 1085102592571150095, 332), (7, 51, -1, 404), (8, 80, -1, 468), (4, 19, 255, 507), (0, 180, -1000000000000000001, 644), (6, 33, -1, 822), (11, 130, -1000000000000000001, 1147), (11, 315, 255, 1456), (13, 39, 4294967295, 1493)]
def ix_IT : List (Nat × Nat × Int × Nat) := [(15, 265, 1431655765, 807), (15, 266, 858993459, 808), (15, 267, 252645135, 809)]
def ix_NT : List (Nat × Nat × Nat × Nat) := [(13, 7, 0, 22), (0, 7, 1, 30), (1, 9, 2, 36), (1, 18, 3, 84), (0, 24, 4, 133), (0, 31, 5, 148), (0, 38, 6, 164), (0, 45, 7, 174), (0, 52, 8, 214), (0, 59, 3, 242), (0, 196, 9, 674), (9, 22, 10, 680), (13, 10, 11, 988)]
def ix_instP : List Nat := [23, 31, 37, 86, 134, 149, 165, 175, 215, 675, 681, 989]
def ix_iniP : List Nat := [1, 2, 3, 4, 5, 6, 7, 8, 9, 18, 19, 10, 13, 0, 11, 20, 12, 14]
def ix_layP : List (List Nat) := [[279, 281, 283, 285, 287, 289, 291, 293, 295, 297], [121, 123, 125, 127, 129], [66, 68, 70, 72, 74, 76, 78, 80], [97, 99, 101], [142, 144], [157, 159, 161], [171], [191, 193, 195, 197, 199, 201, 203, 205, 207, 209, 211], [227, 229, 231, 233, 235, 237, 239], [702, 704, 706, 708, 710], [690, 692, 694], [1032, 1034, 1036, 1038, 1040, 1042, 1044, 1046, 1048, 1050, 1052, 1054, 1056, 1058, 1060, 1062, 1064, 1066, 1068, 1070, 1072, 1074, 1076, 1078, 1080, 1082, 1084, 1086, 1088, 1090, 1092, 1094, 1096, 1098]]
abbrev ix_pB : Nat := 147
abbrev ix_pI : Nat := 104
abbrev ix_pL : Nat := 83
abbrev ix_pC : Nat := 549
/-- the words that may be handed on -/
def ix_tb : List Jvm.Cond := lw_tbl.filter goodWord
def ix_w (pos : Nat) (w : Jvm.Cond) : Bool := decide (tables_1[pos]? = some w) && goodWord w
theorem ix_w_in {pos : Nat} {w : Jvm.Cond} (h : ix_w pos w = true) : w ∈ ix_tb := by
  simp only [ix_w, Bool.and_eq_true, decide_eq_true_eq] at h
  exact List.mem_filter.mpr ⟨List.mem_append_right _ (List.mem_of_getElem? h.1), h.2⟩
def ix_kdty (kd : Nat) (ty : FieldType) : Bool := match kd, ty with
  | 0, .int => true
  | 1, .long => true
  | 2, .object _ => true
  | 2, .array _ => true
  | 3, .object _ => true
  | 4, _ => true
  | 5, _ => true
  | _, _ => false
def ix_FTok (q : Nat × Nat × Nat × Nat × Nat × Nat × Nat) : Bool := match q with
  | (ow, idx, ci, k, kd, fin, pos) => ix_w pos (.fieldLink (ix_on ow) idx (ix_T ci k).1 (ix_T ci k).2.1 (ix_T ci k).2.2.1) && decide (k < ix_N ci) && decide (ci < 13) && (decide (4 ≤ kd) == decide (ci = 12)) && decide (parseFieldDescriptor (ix_T ci k).2.2.1 = some (ix_ty ci k)) && ix_kdty kd (ix_ty ci k) && ((ix_T ci k).2.2.2 == decide (fin = 1)) && (decide (kd = 4) == decide (ci = 12 ∧ k = 0)) && (decide (kd = 5) == decide (ci = 12 ∧ k = 1))
theorem ix_FT_ok : ∀ q ∈ ix_FT, ix_FTok q = true := List.all_eq_true.mp (by decide +kernel)
def ix_LTok (q : Nat × Nat × Int × Nat) : Bool := match q with
  | (ow, idx, z, pos) => ix_w pos (.constantLong (ix_on ow) idx (Int64.ofInt z))
theorem ix_LT_ok : ∀ q ∈ ix_LT, ix_LTok q = true := List.all_eq_true.mp (by decide +kernel)
def ix_ITok (q : Nat × Nat × Int × Nat) : Bool := match q with
  | (ow, idx, z, pos) => ix_w pos (.constant (ix_on ow) idx (Int32.ofInt z))
theorem ix_IT_ok : ∀ q ∈ ix_IT, ix_ITok q = true := List.all_eq_true.mp (by decide +kernel)
def ix_NTok (q : Nat × Nat × Nat × Nat) : Bool := match q with
  | (ow, idx, ci, pos) => ix_w pos (.classLink (ix_on ow) idx (ix_on ci)) && decide (ci < 12)
theorem ix_NT_ok : ∀ q ∈ ix_NT, ix_NTok q = true := List.all_eq_true.mp (by decide +kernel)
/-- of each class: its words, the fields' names, their types, what a new one holds -/
def ix_clok (c : Nat) : Bool := ix_w (ix_instP.getD c 0) (.instantiable (ix_on c) (ix_N c)) && ix_w (ix_iniP.getD c 0) (.initialized (ix_on c)) &&
  (List.range (ix_N c)).all (fun k => ix_w ((ix_layP.getD c []).getD k 0) (u_lay (ix_on c) (ix_T c) k)) &&
  (List.range (ix_N c)).all (fun a => (List.range (ix_N c)).all (fun b => a == b || decide ((ix_T c a).2.1 ≠ (ix_T c b).2.1))) &&
  (List.range (ix_N c)).all (fun k => decide (parseFieldDescriptor (ix_T c k).2.2.1 = some (ix_ty c k)) && decide ((ix_T c k).1 = ix_on c) && decide ((ix_df c).getD k .null = defaultValue (ix_ty c k))) &&
  decide ((ix_df c).length = ix_N c)
theorem ix_cl_ok : ∀ c ∈ List.range 12, ix_clok c = true := List.all_eq_true.mp (by decide +kernel)
theorem ix_ini_ok : ∀ c ∈ List.range 18, ix_w (ix_iniP.getD c 0) (.initialized (ix_on c)) = true := List.all_eq_true.mp (by decide +kernel)
