/-! the tables of the mirror machine: classes, fields, methods, links, by numbers; printed by wip/whole/gen02.py -/
def mr_cn : List String := ["ReachLabels$Album", "ReachLabels$Chances", "ReachLabels$Changes", "ReachLabels$Net", "ReachLabels$Past", "ReachLabels$Ranker", "ReachLabels$Reach", "ReachLabels$Script", "ReachLabels$Sights", "ReachLabels$Walks", "ReachLabels", "ReachLabelsModel", "ReachLabelsLaw", "java/lang/Integer", "java/lang/Math"]
def mr_fd : List (List (String × String × Bool × FieldType)) := [
  [("nets", "[LReachLabels$Net;", true, .array (.object "ReachLabels$Net")), ("kept", "[Z", true, .array (.boolean))],
  [("upper", "J", false, .long), ("lower", "J", false, .long), ("from", "[I", true, .array (.int)), ("to", "[I", true, .array (.int)), ("weights", "[J", true, .array (.long)), ("edges", "I", false, .int)],
  [("without", "[I", true, .array (.int))],
  [("nodes", "I", false, .int), ("to", "[I", true, .array (.int)), ("rank", "[I", true, .array (.int))],
  [("size", "I", false, .int), ("nets", "[LReachLabels$Net;", true, .array (.object "ReachLabels$Net"))],
  [("weight", "[I", true, .array (.int))],
  [("ahead", "[I", true, .array (.int)), ("behind", "[I", true, .array (.int)), ("name", "[I", true, .array (.int)), ("in", "[I", true, .array (.int)), ("out", "[I", true, .array (.int)), ("ringRank", "[I", true, .array (.int)), ("lowerRanked", "[I", true, .array (.int)), ("chainFrom", "[I", true, .array (.int)), ("nodes", "I", false, .int), ("names", "I", false, .int)],
  [("length", "I", false, .int), ("letters", "[I", true, .array (.int)), ("at", "I", false, .int), ("tokenStart", "I", false, .int), ("token", "I", false, .int), ("value", "I", false, .int), ("ranked", "I", false, .int)],
  [("size", "I", false, .int), ("from", "[I", true, .array (.int)), ("to", "[I", true, .array (.int)), ("came", "[I", true, .array (.int)), ("fits", "[I", true, .array (.int)), ("nodes", "I", false, .int)],
  [("farOff", "[I", true, .array (.int))],
  [("net", "LReachLabels$Net;", true, .object "ReachLabels$Net"), ("draft", "LReachLabels$Net;", true, .object "ReachLabels$Net"), ("script", "LReachLabels$Script;", true, .object "ReachLabels$Script"), ("reach", "LReachLabels$Reach;", true, .object "ReachLabels$Reach"), ("ranker", "LReachLabels$Ranker;", true, .object "ReachLabels$Ranker"), ("walks", "LReachLabels$Walks;", true, .object "ReachLabels$Walks"), ("changes", "LReachLabels$Changes;", true, .object "ReachLabels$Changes"), ("chances", "LReachLabels$Chances;", true, .object "ReachLabels$Chances"), ("sights", "LReachLabels$Sights;", true, .object "ReachLabels$Sights"), ("past", "LReachLabels$Past;", true, .object "ReachLabels$Past"), ("album", "LReachLabels$Album;", true, .object "ReachLabels$Album")],
  [("thrown", "I", false, .int), ("text", "[I", true, .array (.int)), ("typed", "I", false, .int), ("at", "I", false, .int), ("token", "I", false, .int), ("place", "I", false, .int), ("value", "I", false, .int), ("fault", "I", false, .int), ("nodes", "I", false, .int), ("draftNodes", "I", false, .int), ("draft", "[I", true, .array (.int)), ("draftRanked", "I", false, .int), ("s", "[I", true, .array (.int)), ("w", "[I", true, .array (.int)), ("kept", "[I", true, .array (.int)), ("isKept", "[Z", true, .array (.boolean)), ("undos", "[I", true, .array (.int)), ("undoMany", "I", false, .int), ("seenFrom", "[I", true, .array (.int)), ("seenTo", "[I", true, .array (.int)), ("seenCame", "[I", true, .array (.int)), ("seenMany", "I", false, .int), ("reach", "[I", true, .array (.int)), ("reachIf", "[I", true, .array (.int)), ("chained", "[I", true, .array (.int)), ("far", "[I", true, .array (.int)), ("comesIf", "[I", true, .array (.int)), ("unseenFirst", "I", false, .int)]]
def mr_name (n : Nat) : String := mr_cn.getD n ""
def mr_flds (n : Nat) : List (String × String × Bool × FieldType) := mr_fd.getD n []
def mr_T (n : Nat) : u_T := fun k => match (mr_flds n)[k]? with
  | some q => (mr_name n, q.1, q.2.1, q.2.2.1)
  | none => (mr_name n, "", "", true)
def mr_ty (n k : Nat) : FieldType := match (mr_flds n)[k]? with
  | some q => q.2.2.2
  | none => .int
def mr_N (n : Nat) : Nat := (mr_flds n).length
def mr_cl : List vw_C := (List.range 12).map (fun n => (mr_name n, mr_T n, mr_N n))
/-- a method: number of its class, name, descriptor, the place of its code among the words (5000: the law), locals, answer, how many parameters (without this), its height over its callees, kind (0 static, 1 virtual, 2 constructor) -/
abbrev mr_R : Type := Nat × String × String × Nat × Nat × Option FieldType × Nat × Nat × Nat
def mr_M : List mr_R := [
  (10, "<init>", "()V", 76, 1, none, 0, 4, 2),
  (3, "<init>", "()V", 84, 1, none, 0, 2, 2),
  (3, "startAnew", "()V", 89, 2, none, 0, 0, 1),
  (3, "rankRest", "(I)V", 93, 4, none, 1, 1, 1),
  (3, "isRanked", "(I)Z", 97, 2, some .boolean, 1, 0, 1),
  (7, "<init>", "()V", 129, 1, none, 0, 1, 2),
  (6, "<init>", "()V", 158, 1, none, 0, 1, 2),
  (5, "<init>", "()V", 205, 1, none, 0, 1, 2),
  (9, "<init>", "()V", 215, 1, none, 0, 1, 2),
  (2, "<init>", "()V", 225, 1, none, 0, 1, 2),
  (1, "<init>", "()V", 235, 1, none, 0, 1, 2),
  (8, "<init>", "()V", 263, 1, none, 0, 1, 2),
  (4, "<init>", "()V", 289, 2, none, 0, 3, 2),
  (0, "<init>", "()V", 306, 2, none, 0, 3, 2),
  (6, "derive", "(LReachLabels$Net;)V", 321, 2, none, 1, 3, 1),
  (10, "close", "([II)V", 327, 4, none, 2, 1, 0),
  (10, "bit", "(I)I", 330, 1, some .int, 1, 0, 0),
  (10, "holds", "(II)Z", 333, 2, some .boolean, 2, 0, 0),
  (6, "turnAround", "()V", 337, 3, none, 0, 1, 1),
  (6, "nameRings", "()V", 343, 2, none, 0, 2, 1),
  (6, "ringOf", "(I)I", 347, 2, some .int, 1, 0, 1),
  (10, "lowest", "(I)I", 350, 2, some .int, 1, 1, 0),
  (6, "rankRings", "([I)V", 354, 4, none, 1, 1, 1),
  (14, "min", "(II)I", 357, 2, some .int, 2, 0, 0),
  (6, "label", "()V", 361, 3, none, 0, 2, 1),
  (6, "leads", "(II)Z", 365, 3, some .boolean, 2, 1, 1),
  (10, "type", "(I)I", 403, 2, some .int, 1, 1, 1),
  (7, "append", "(I)Z", 407, 2, some .boolean, 1, 0, 1),
  (10, "clear", "()I", 411, 2, some .int, 0, 0, 1),
  (10, "graph", "()I", 415, 2, some .int, 0, 6, 1),
  (7, "readInto", "(LReachLabels$Net;)I", 419, 3, some .int, 1, 5, 1),
  (7, "readToken", "()V", 424, 3, none, 0, 1, 1),
  (7, "isDigit", "(I)Z", 427, 1, some .boolean, 1, 0, 0),
  (7, "isSign", "(I)Z", 430, 1, some .boolean, 1, 0, 0),
  (7, "readItem", "(LReachLabels$Net;Z)Z", 435, 4, some .boolean, 2, 4, 1),
  (7, "readNodes", "(LReachLabels$Net;)Z", 439, 2, some .boolean, 1, 3, 1),
  (7, "readNumber", "(II)Z", 443, 3, some .boolean, 2, 2, 1),
  (7, "readEdge", "(LReachLabels$Net;)Z", 447, 3, some .boolean, 1, 3, 1),
  (3, "has", "(II)Z", 451, 3, some .boolean, 2, 1, 1),
  (3, "link", "(II)V", 456, 3, none, 2, 1, 1),
  (7, "readRanked", "(LReachLabels$Net;)Z", 461, 2, some .boolean, 1, 3, 1),
  (3, "become", "(LReachLabels$Net;)V", 467, 2, none, 1, 1, 1),
  (0, "empty", "()V", 472, 2, none, 0, 0, 1),
  (10, "node", "(II)I", 476, 3, some .int, 2, 1, 1),
  (10, "isNode", "(I)Z", 480, 2, some .boolean, 1, 0, 1),
  (10, "edge", "(II)I", 485, 3, some .int, 2, 3, 1),
  (10, "areTwoNodes", "(II)Z", 489, 3, some .boolean, 2, 2, 1),
  (10, "areNodes", "(II)Z", 493, 3, some .boolean, 2, 1, 1),
  (10, "now", "(I)I", 498, 2, some .int, 1, 4, 1),
  (3, "edgeCount", "()I", 502, 3, some .int, 0, 1, 1),
  (13, "bitCount", "(I)I", 505, 1, some .int, 1, 0, 0),
  (6, "ringCount", "()I", 512, 1, some .int, 0, 1, 1),
  (6, "labelCount", "()I", 517, 3, some .int, 0, 1, 1),
  (6, "pairCount", "()I", 521, 1, some .int, 0, 2, 1),
  (10, "pairsOf", "([II)I", 524, 4, some .int, 2, 1, 0),
  (2, "spareCount", "(LReachLabels$Net;)I", 529, 5, some .int, 1, 3, 1),
  (2, "isSpare", "(LReachLabels$Net;II)Z", 534, 4, some .boolean, 3, 2, 1),
  (3, "spread", "(II)I", 539, 7, some .int, 2, 1, 1),
  (6, "lone", "()I", 544, 4, some .int, 0, 2, 1),
  (14, "max", "(II)I", 548, 2, some .int, 2, 0, 0),
  (6, "chain", "()I", 552, 4, some .int, 0, 2, 1),
  (6, "longestFrom", "(I)I", 556, 4, some .int, 1, 1, 1),
  (10, "adds", "(II)I", 560, 3, some .int, 2, 5, 1),
  (4, "remember", "(LReachLabels$Net;)V", 564, 2, none, 1, 2, 1),
  (4, "dropOldest", "()V", 568, 3, none, 0, 0, 1),
  (10, "labelsThen", "()I", 574, 1, some .int, 0, 4, 1),
  (10, "cuts", "(II)I", 578, 3, some .int, 2, 5, 1),
  (3, "unlink", "(II)V", 582, 3, none, 2, 1, 1),
  (10, "ranks", "()I", 586, 1, some .int, 0, 5, 1),
  (5, "rank", "(LReachLabels$Net;)V", 590, 3, none, 1, 3, 1),
  (3, "edgesInto", "(I)I", 595, 4, some .int, 1, 2, 1),
  (5, "howManyAheadOf", "(II)I", 600, 5, some .int, 2, 0, 1),
  (10, "undo", "()I", 604, 1, some .int, 0, 4, 1),
  (4, "restore", "(LReachLabels$Net;)Z", 608, 2, some .boolean, 1, 2, 1),
  (10, "comes", "(II)I", 612, 3, some .int, 2, 2, 1),
  (10, "hub", "(II)I", 616, 3, some .int, 2, 2, 1),
  (6, "lowestRanked", "(I)I", 620, 4, some .int, 1, 1, 1),
  (10, "way", "(III)I", 624, 5, some .int, 3, 3, 1),
  (9, "shortest", "(LReachLabels$Net;II)I", 628, 6, some .int, 3, 2, 1),
  (9, "leadingTo", "(LReachLabels$Net;I)I", 633, 4, some .int, 2, 1, 0),
  (9, "nodeOfShortest", "(LReachLabels$Net;III)I", 637, 7, some .int, 4, 2, 1),
  (10, "on", "(III)I", 642, 5, some .int, 3, 3, 1),
  (10, "isChoice", "(I)Z", 645, 1, some .boolean, 1, 0, 0),
  (9, "onEvery", "(LReachLabels$Net;III)I", 649, 7, some .int, 4, 2, 1),
  (10, "loss", "(III)I", 654, 4, some .int, 3, 3, 1),
  (2, "pairsWithout", "(LReachLabels$Net;II)I", 659, 4, some .int, 3, 2, 1),
  (10, "gain", "(II)I", 666, 3, some .int, 2, 3, 1),
  (2, "gainOf", "(LReachLabels$Reach;II)I", 670, 6, some .int, 3, 1, 1),
  (10, "best", "(I)I", 675, 3, some .int, 1, 4, 1),
  (2, "bestToAdd", "(LReachLabels$Net;LReachLabels$Reach;)I", 679, 8, some .int, 2, 3, 1),
  (3, "missingFrom", "(I)I", 683, 2, some .int, 1, 2, 1),
  (3, "everyNode", "()I", 687, 1, some .int, 0, 1, 1),
  (10, "edgeNumber", "(II)I", 691, 2, some .int, 2, 0, 0),
  (10, "odds", "(IIII)I", 695, 5, some .int, 4, 4, 1),
  (1, "weigh", "(LReachLabels$Net;LReachLabels$Reach;III)V", 699, 7, none, 5, 3, 1),
  (1, "takeEdges", "(LReachLabels$Net;I)V", 703, 6, none, 2, 2, 1),
  (1, "weighCounts", "(I)V", 709, 3, none, 1, 1, 1),
  (1, "power", "(JI)J", 712, 6, some .long, 2, 0, 0),
  (1, "arrives", "(III)Z", 717, 8, some .boolean, 3, 1, 1),
  (1, "reduce", "()V", 723, 8, none, 0, 0, 1),
  (10, "sees", "(III)I", 727, 4, some .int, 3, 2, 1),
  (8, "append", "(III)Z", 731, 4, some .boolean, 3, 0, 1),
  (10, "forget", "()I", 735, 2, some .int, 0, 0, 1),
  (10, "unseen", "(I)I", 739, 2, some .int, 1, 4, 1),
  (8, "sift", "(LReachLabels$Net;LReachLabels$Reach;)V", 743, 6, none, 2, 3, 1),
  (8, "making", "(LReachLabels$Reach;III)I", 747, 4, some .int, 4, 2, 0),
  (8, "fitting", "()I", 752, 3, some .int, 0, 1, 1),
  (8, "firstFitting", "()I", 757, 2, some .int, 0, 2, 1),
  (10, "next", "()I", 763, 1, some .int, 0, 5, 1),
  (8, "bestQuestion", "(LReachLabels$Reach;)I", 767, 9, some .int, 1, 4, 1),
  (8, "fittingSo", "(LReachLabels$Reach;II)I", 772, 6, some .int, 3, 3, 1),
  (10, "keep", "(I)I", 777, 2, some .int, 1, 3, 1),
  (0, "take", "(ILReachLabels$Net;)V", 781, 3, none, 2, 2, 1),
  (10, "back", "(I)I", 786, 2, some .int, 1, 4, 1),
  (0, "show", "(ILReachLabels$Net;)Z", 790, 3, some .boolean, 2, 2, 1),
  (10, "count", "(I)I", 794, 2, some .int, 1, 0, 1),
  (11, "<init>", "()V", 799, 1, none, 0, 1, 2),
  (11, "begins", "()V", 804, 2, none, 0, 0, 1),
  (11, "ranksRest", "()V", 808, 2, none, 0, 0, 1),
  (11, "settles", "()V", 812, 2, none, 0, 0, 1),
  (11, "type", "(I)I", 901, 2, some .int, 1, 1, 1),
  (11, "in", "(III)Z", 904, 3, some .boolean, 3, 0, 0),
  (11, "clear", "()I", 908, 2, some .int, 0, 0, 1),
  (11, "graph", "()I", 912, 3, some .int, 0, 4, 1),
  (11, "advances", "()V", 916, 2, none, 0, 1, 1),
  (11, "letterAt", "(I)I", 920, 2, some .int, 1, 0, 1),
  (11, "isWell", "()Z", 924, 1, some .boolean, 0, 0, 1),
  (11, "takes", "(Z)I", 928, 3, some .int, 1, 2, 1),
  (11, "readsItem", "(I)V", 932, 4, none, 1, 3, 1),
  (11, "isNumber", "(II)Z", 936, 3, some .boolean, 2, 1, 1),
  (11, "has", "(II)Z", 939, 2, some .boolean, 2, 0, 0),
  (11, "node", "(II)I", 943, 3, some .int, 2, 6, 1),
  (11, "isNode", "(I)Z", 947, 2, some .boolean, 1, 1, 1),
  (11, "comesBy", "([I[I)V", 951, 5, none, 2, 1, 1),
  (11, "nameOf", "(I)I", 955, 2, some .int, 1, 3, 1),
  (11, "ringOf", "(I)I", 959, 2, some .int, 1, 2, 1),
  (11, "comingTo", "(I)I", 963, 4, some .int, 1, 1, 1),
  (11, "lowest", "(I)I", 966, 2, some .int, 1, 1, 0),
  (11, "names", "()I", 970, 3, some .int, 0, 4, 1),
  (11, "inOf", "(II)I", 974, 6, some .int, 2, 5, 1),
  (11, "isLabel", "(IIII)Z", 978, 7, some .boolean, 4, 4, 1),
  (11, "ringRank", "(I)I", 982, 5, some .int, 1, 3, 1),
  (11, "outOf", "(II)I", 986, 6, some .int, 2, 5, 1),
  (11, "edge", "(II)I", 990, 3, some .int, 2, 3, 1),
  (11, "isTwo", "(II)Z", 994, 3, some .boolean, 2, 2, 1),
  (11, "now", "(I)I", 998, 2, some .int, 1, 7, 1),
  (11, "edges", "([I)I", 1002, 4, some .int, 1, 1, 1),
  (11, "ones", "(I)I", 1005, 3, some .int, 1, 0, 0),
  (11, "labels", "()I", 1009, 4, some .int, 0, 6, 1),
  (11, "pairsOf", "([I)I", 1013, 4, some .int, 1, 1, 1),
  (11, "spares", "()I", 1017, 5, some .int, 0, 3, 1),
  (11, "pairsNow", "()I", 1021, 1, some .int, 0, 2, 1),
  (11, "pairsWith", "(II)I", 1025, 3, some .int, 2, 2, 1),
  (11, "asNow", "()V", 1029, 2, none, 0, 0, 1),
  (11, "lone", "()I", 1033, 5, some .int, 0, 5, 1),
  (11, "chain", "()I", 1037, 7, some .int, 0, 5, 1),
  (11, "adds", "(II)I", 1041, 3, some .int, 2, 7, 1),
  (11, "notes", "()V", 1045, 2, none, 0, 0, 1),
  (11, "cuts", "(II)I", 1049, 3, some .int, 2, 7, 1),
  (11, "ranks", "()I", 1053, 4, some .int, 0, 7, 1),
  (11, "weight", "(I)I", 1057, 4, some .int, 1, 1, 1),
  (11, "undo", "()I", 1061, 2, some .int, 0, 0, 1),
  (11, "comes", "(II)I", 1065, 3, some .int, 2, 2, 1),
  (11, "hub", "(II)I", 1069, 7, some .int, 2, 6, 1),
  (11, "way", "(III)I", 1073, 7, some .int, 3, 2, 1),
  (11, "measures", "(I)V", 1077, 5, none, 1, 1, 1),
  (11, "on", "(III)I", 1081, 6, some .int, 3, 2, 1),
  (11, "loss", "(III)I", 1085, 5, some .int, 3, 3, 1),
  (11, "gain", "(II)I", 1089, 3, some .int, 2, 3, 1),
  (11, "best", "(I)I", 1093, 8, some .int, 1, 3, 1),
  (11, "odds", "(IIII)I", 1097, 17, some .int, 4, 2, 1),
  (11, "gcd", "(JJ)J", 1101, 10, some .long, 2, 0, 0),
  (11, "sees", "(III)I", 1105, 4, some .int, 3, 2, 1),
  (11, "forget", "()I", 1109, 2, some .int, 0, 0, 1),
  (11, "unseen", "(I)I", 1113, 3, some .int, 1, 5, 1),
  (11, "unseenMany", "()I", 1117, 5, some .int, 0, 4, 1),
  (11, "canBe", "(II)Z", 1121, 5, some .boolean, 2, 3, 1),
  (11, "next", "()I", 1125, 8, some .int, 0, 5, 1),
  (11, "keep", "(I)I", 1129, 3, some .int, 1, 2, 1),
  (11, "back", "(I)I", 1133, 3, some .int, 1, 2, 1),
  (11, "count", "(I)I", 1137, 2, some .int, 1, 0, 1),
  (12, "law", "([I)Z", 5000, 4, some .boolean, 1, 8, 0)]
def mr_y (q : mr_R) : MethodName := ⟨mr_name q.1, q.2.1, q.2.2.1⟩
def mr_bytes (q : mr_R) : ByteArray := if q.2.2.2.1 = 5000 then code else match lw_tbl[q.2.2.2.1]? with
  | some (.code _ b _ _) => b
  | _ => ⟨#[]⟩
abbrev mr_maxL (q : mr_R) : Nat := q.2.2.2.2.1
abbrev mr_ret (q : mr_R) : Option FieldType := q.2.2.2.2.2.1
abbrev mr_na (q : mr_R) : Nat := q.2.2.2.2.2.2.1
abbrev mr_hg (q : mr_R) : Nat := q.2.2.2.2.2.2.2.1
abbrev mr_kd (q : mr_R) : Nat := q.2.2.2.2.2.2.2.2
/-- the places of a method's words: its code, static or instanceMethod, selects (virtual ones), its class initialized -/
def mr_pM : List (Nat × Nat × Nat × Nat) := [(76, 75, 0, 57), (84, 83, 0, 58), (89, 87, 88, 58), (93, 91, 92, 58), (97, 95, 96, 58), (129, 128, 0, 59), (158, 157, 0, 60), (205, 204, 0, 61), (215, 214, 0, 62), (225, 224, 0, 63), (235, 234, 0, 64), (263, 262, 0, 65), (289, 288, 0, 66), (306, 305, 0, 67), (321, 319, 320, 60), (327, 326, 0, 57), (330, 329, 0, 57), (333, 332, 0, 57), (337, 336, 0, 60), (343, 342, 1, 60), (347, 345, 346, 60), (350, 349, 0, 57), (354, 353, 2, 60), (357, 356, 0, 69), (361, 360, 3, 60), (365, 363, 364, 60), (403, 401, 402, 57), (407, 405, 406, 59), (411, 409, 410, 57), (415, 413, 414, 57), (419, 417, 418, 59), (424, 423, 4, 59), (427, 426, 0, 59), (430, 429, 0, 59), (435, 434, 5, 59), (439, 438, 6, 59), (443, 442, 7, 59), (447, 446, 8, 59), (451, 449, 450, 58), (456, 454, 455, 58), (461, 460, 9, 59), (467, 465, 466, 58), (472, 470, 471, 67), (476, 474, 475, 57), (480, 479, 10, 57), (485, 483, 484, 57), (489, 488, 11, 57), (493, 492, 12, 57), (498, 496, 497, 57), (502, 500, 501, 58), (505, 504, 0, 71), (512, 510, 511, 60), (517, 515, 516, 60), (521, 519, 520, 60), (524, 523, 0, 57), (529, 527, 528, 63), (534, 532, 533, 63), (539, 537, 538, 58), (544, 542, 543, 60), (548, 547, 0, 69), (552, 550, 551, 60), (556, 555, 13, 60), (560, 558, 559, 57), (564, 562, 563, 66), (568, 567, 14, 66), (574, 573, 15, 57), (578, 576, 577, 57), (582, 580, 581, 58), (586, 584, 585, 57), (590, 588, 589, 61), (595, 593, 594, 58), (600, 599, 16, 61), (604, 602, 603, 57), (608, 606, 607, 66), (612, 610, 611, 57), (616, 614, 615, 57), (620, 618, 619, 60), (624, 622, 623, 57), (628, 626, 627, 62), (633, 632, 0, 62), (637, 635, 636, 62), (642, 640, 641, 57), (645, 644, 0, 57), (649, 647, 648, 62), (654, 652, 653, 57), (659, 657, 658, 63), (666, 664, 665, 57), (670, 668, 669, 63), (675, 673, 674, 57), (679, 677, 678, 63), (683, 681, 682, 58), (687, 685, 686, 58), (691, 690, 0, 57), (695, 693, 694, 57), (699, 697, 698, 64), (703, 702, 17, 64), (709, 708, 18, 64), (712, 711, 0, 64), (717, 716, 19, 64), (723, 722, 20, 64), (727, 725, 726, 57), (731, 729, 730, 65), (735, 733, 734, 57), (739, 737, 738, 57), (743, 741, 742, 65), (747, 746, 0, 65), (752, 750, 751, 65), (757, 755, 756, 65), (763, 761, 762, 57), (767, 765, 766, 65), (772, 771, 21, 65), (777, 775, 776, 57), (781, 779, 780, 67), (786, 784, 785, 57), (790, 788, 789, 67), (794, 792, 793, 57), (799, 798, 0, 70), (804, 803, 22, 70), (808, 807, 23, 70), (812, 811, 24, 70), (901, 899, 900, 70), (904, 903, 0, 70), (908, 906, 907, 70), (912, 910, 911, 70), (916, 915, 25, 70), (920, 919, 26, 70), (924, 923, 27, 70), (928, 927, 28, 70), (932, 931, 29, 70), (936, 935, 30, 70), (939, 938, 0, 70), (943, 941, 942, 70), (947, 946, 31, 70), (951, 950, 32, 70), (955, 954, 33, 70), (959, 958, 34, 70), (963, 962, 35, 70), (966, 965, 0, 70), (970, 969, 36, 70), (974, 973, 37, 70), (978, 977, 38, 70), (982, 981, 39, 70), (986, 985, 40, 70), (990, 988, 989, 70), (994, 993, 41, 70), (998, 996, 997, 70), (1002, 1001, 42, 70), (1005, 1004, 0, 70), (1009, 1008, 43, 70), (1013, 1012, 44, 70), (1017, 1016, 45, 70), (1021, 1020, 46, 70), (1025, 1024, 47, 70), (1029, 1028, 48, 70), (1033, 1032, 49, 70), (1037, 1036, 50, 70), (1041, 1039, 1040, 70), (1045, 1044, 51, 70), (1049, 1047, 1048, 70), (1053, 1051, 1052, 70), (1057, 1056, 52, 70), (1061, 1059, 1060, 70), (1065, 1063, 1064, 70), (1069, 1067, 1068, 70), (1073, 1071, 1072, 70), (1077, 1076, 53, 70), (1081, 1079, 1080, 70), (1085, 1083, 1084, 70), (1089, 1087, 1088, 70), (1093, 1091, 1092, 70), (1097, 1095, 1096, 70), (1101, 1100, 0, 70), (1105, 1103, 1104, 70), (1109, 1107, 1108, 70), (1113, 1111, 1112, 70), (1117, 1116, 54, 70), (1121, 1120, 55, 70), (1125, 1123, 1124, 70), (1129, 1127, 1128, 70), (1133, 1131, 1132, 70), (1137, 1135, 1136, 70)]
def mr_okM (q : mr_R) (p : Nat × Nat × Nat × Nat) : Bool :=
  (match lw_tbl[q.2.2.2.1]? with
  | some (.code y _ L r) => decide (y = mr_y q) && decide (L = mr_maxL q) && decide (r = mr_ret q)
  | _ => false) && decide (q.2.2.2.1 ≠ 5000) && decide (lw_tbl[p.2.2.2]? = some (.initialized (mr_y q).cls)) &&
  (if mr_kd q = 0 then decide (lw_tbl[p.2.1]? = some (.static (mr_y q))) else decide (lw_tbl[p.2.1]? = some (.instanceMethod (mr_y q)))) &&
  (if mr_kd q = 1 then decide (lw_tbl[p.2.2.1]? = some (.selects (mr_y q).cls (mr_y q) (mr_y q))) else true) &&
  (if mr_kd q = 2 then decide ((mr_y q).name = "<init>") && decide (mr_ret q = none) else true) &&
  decide ((mr_y q).cls ≠ "java/lang/invoke/MethodHandle") && decide ((mr_y q).cls ≠ "java/lang/invoke/VarHandle") && decide ((parseMethodDescriptor (mr_y q).desc).map (fun d => d.parameters.length) = some (mr_na q)) &&
  (Jvm.plainName (mr_y q).cls || decide (q.1 = 14)) && decide (mr_maxL q ≤ 17) && decide (mr_kd q ≤ 2)
/-- links of methods: number of the class and the entry; the method (1000: System.arraycopy, 1001: Object.<init>, 1002: Math.max, 1003: Math.min), 1 if it is a nest mate's, the place of the word -/
def mr_mL : List ((Nat × Nat) × Nat × Nat × Nat) := [((0, 3), 1001, 0, 307), ((0, 21), 1, 0, 309), ((0, 22), 41, 0, 782), ((1, 3), 1001, 0, 236), ((1, 41), 95, 0, 700), ((1, 45), 96, 0, 706), ((1, 49), 16, 1, 713), ((1, 53), 98, 0, 714), ((1, 57), 50, 0, 718), ((1, 64), 97, 0, 710), ((1, 68), 99, 0, 720), ((1, 76), 17, 1, 704), ((1, 80), 38, 0, 705), ((10, 1), 1001, 0, 77), ((10, 9), 1, 0, 82), ((10, 21), 5, 1, 127), ((10, 28), 6, 1, 156), ((10, 35), 7, 1, 203), ((10, 42), 8, 1, 213), ((10, 49), 9, 1, 223), ((10, 56), 10, 1, 233), ((10, 63), 11, 1, 261), ((10, 70), 12, 0, 287), ((10, 77), 13, 0, 304), ((10, 82), 14, 0, 318), ((10, 86), 27, 0, 404), ((10, 94), 30, 0, 416), ((10, 98), 41, 0, 464), ((10, 105), 42, 0, 469), ((10, 108), 44, 0, 477), ((10, 115), 20, 0, 481), ((10, 134), 46, 0, 486), ((10, 138), 38, 0, 494), ((10, 141), 49, 0, 499), ((10, 145), 51, 0, 509), ((10, 148), 52, 0, 514), ((10, 151), 53, 0, 518), ((10, 154), 55, 0, 526), ((10, 157), 58, 0, 541), ((10, 160), 60, 0, 549), ((10, 163), 63, 0, 561), ((10, 166), 39, 0, 570), ((10, 170), 65, 0, 571), ((10, 173), 67, 0, 579), ((10, 176), 69, 0, 587), ((10, 178), 73, 0, 605), ((10, 182), 47, 0, 490), ((10, 185), 76, 0, 617), ((10, 188), 78, 0, 625), ((10, 192), 80, 0, 634), ((10, 196), 82, 0, 643), ((10, 199), 83, 0, 646), ((10, 202), 56, 0, 655), ((10, 206), 85, 0, 656), ((10, 209), 87, 0, 667), ((10, 213), 89, 0, 676), ((10, 217), 94, 0, 696), ((10, 228), 101, 0, 728), ((10, 231), 104, 0, 740), ((10, 235), 106, 0, 749), ((10, 238), 107, 0, 754), ((10, 241), 109, 0, 764), ((10, 245), 112, 0, 778), ((10, 249), 114, 0, 787), ((10, 256), 17, 0, 331), ((10, 259), 16, 0, 328), ((10, 262), 50, 0, 525), ((11, 1), 1001, 0, 800), ((11, 56), 117, 0, 801), ((11, 59), 118, 0, 805), ((11, 62), 119, 0, 809), ((11, 69), 121, 0, 902), ((11, 79), 125, 0, 917), ((11, 95), 126, 0, 921), ((11, 99), 124, 0, 913), ((11, 108), 129, 0, 933), ((11, 112), 127, 0, 925), ((11, 116), 130, 0, 937), ((11, 119), 128, 0, 929), ((11, 132), 132, 0, 944), ((11, 136), 147, 0, 1003), ((11, 139), 136, 0, 960), ((11, 142), 135, 0, 956), ((11, 145), 137, 0, 964), ((11, 148), 134, 0, 952), ((11, 151), 141, 0, 979), ((11, 154), 140, 0, 975), ((11, 158), 133, 0, 948), ((11, 162), 138, 0, 967), ((11, 166), 139, 0, 971), ((11, 170), 142, 0, 983), ((11, 173), 144, 0, 991), ((11, 176), 153, 0, 1026), ((11, 179), 149, 0, 1010), ((11, 183), 151, 0, 1018), ((11, 186), 152, 0, 1022), ((11, 189), 146, 0, 999), ((11, 192), 148, 0, 1006), ((11, 195), 150, 0, 1014), ((11, 198), 154, 0, 1030), ((11, 201), 155, 0, 1034), ((11, 204), 157, 0, 1042), ((11, 207), 160, 0, 1054), ((11, 210), 165, 0, 1074), ((11, 215), 171, 0, 1099), ((11, 222), 176, 0, 1118), ((11, 225), 175, 0, 1114), ((12, 9), 0, 0, 74), ((12, 12), 116, 0, 797), ((12, 13), 26, 0, 400), ((12, 17), 120, 0, 898), ((12, 18), 28, 0, 408), ((12, 22), 122, 0, 905), ((12, 23), 29, 0, 412), ((12, 26), 123, 0, 909), ((12, 27), 43, 0, 473), ((12, 31), 131, 0, 940), ((12, 32), 45, 0, 482), ((12, 35), 143, 0, 987), ((12, 36), 48, 0, 495), ((12, 39), 145, 0, 995), ((12, 40), 62, 0, 557), ((12, 43), 156, 0, 1038), ((12, 44), 66, 0, 575), ((12, 47), 158, 0, 1046), ((12, 48), 68, 0, 583), ((12, 51), 159, 0, 1050), ((12, 52), 72, 0, 601), ((12, 55), 161, 0, 1058), ((12, 56), 74, 0, 609), ((12, 59), 162, 0, 1062), ((12, 60), 75, 0, 613), ((12, 63), 163, 0, 1066), ((12, 64), 77, 0, 621), ((12, 68), 164, 0, 1070), ((12, 69), 81, 0, 639), ((12, 72), 166, 0, 1078), ((12, 73), 84, 0, 651), ((12, 76), 167, 0, 1082), ((12, 77), 86, 0, 663), ((12, 80), 168, 0, 1086), ((12, 81), 88, 0, 672), ((12, 84), 169, 0, 1090), ((12, 85), 93, 0, 692), ((12, 89), 170, 0, 1094), ((12, 90), 100, 0, 724), ((12, 93), 172, 0, 1102), ((12, 94), 102, 0, 732), ((12, 97), 173, 0, 1106), ((12, 98), 103, 0, 736), ((12, 101), 174, 0, 1110), ((12, 102), 108, 0, 760), ((12, 105), 177, 0, 1122), ((12, 106), 111, 0, 774), ((12, 109), 178, 0, 1126), ((12, 110), 113, 0, 783), ((12, 113), 179, 0, 1130), ((12, 114), 115, 0, 791), ((12, 117), 180, 0, 1134), ((2, 3), 1001, 0, 226), ((2, 20), 16, 1, 535), ((2, 24), 57, 0, 536), ((2, 28), 17, 1, 540), ((2, 36), 38, 0, 530), ((2, 39), 56, 0, 531), ((2, 43), 1000, 0, 660), ((2, 49), 15, 1, 661), ((2, 53), 54, 1, 662), ((2, 65), 50, 0, 671), ((2, 70), 90, 0, 680), ((2, 73), 87, 0, 688), ((2, 77), 92, 1, 689), ((3, 3), 1001, 0, 85), ((3, 18), 2, 0, 86), ((3, 21), 3, 0, 90), ((3, 29), 1000, 0, 468), ((3, 35), 16, 1, 457), ((3, 39), 17, 1, 452), ((3, 43), 50, 0, 503), ((3, 48), 91, 0, 684), ((3, 52), 4, 0, 94), ((3, 56), 38, 0, 596), ((4, 3), 1001, 0, 290), ((4, 21), 1, 0, 293), ((4, 22), 64, 0, 565), ((4, 25), 41, 0, 569), ((5, 3), 1001, 0, 206), ((5, 24), 50, 0, 591), ((5, 30), 70, 0, 592), ((5, 36), 71, 0, 597), ((6, 3), 1001, 0, 159), ((6, 49), 1000, 0, 322), ((6, 55), 15, 1, 325), ((6, 59), 18, 0, 334), ((6, 62), 19, 0, 340), ((6, 68), 22, 0, 351), ((6, 72), 24, 0, 358), ((6, 75), 17, 1, 338), ((6, 79), 50, 0, 513), ((6, 85), 54, 1, 522), ((6, 89), 51, 0, 545), ((6, 93), 20, 0, 344), ((6, 96), 1002, 0, 546), ((6, 102), 61, 0, 553), ((6, 105), 16, 1, 339), ((6, 108), 21, 1, 348), ((6, 111), 1003, 0, 355), ((6, 114), 25, 0, 362), ((7, 3), 1001, 0, 130), ((7, 34), 2, 0, 420), ((7, 39), 31, 0, 421), ((7, 42), 34, 0, 432), ((7, 46), 3, 0, 463), ((7, 50), 35, 0, 436), ((7, 54), 37, 0, 444), ((7, 57), 40, 0, 458), ((7, 60), 36, 0, 440), ((7, 67), 38, 0, 448), ((7, 70), 39, 0, 453), ((7, 74), 4, 0, 462), ((7, 81), 32, 0, 425), ((7, 84), 33, 0, 428), ((7, 87), 1003, 0, 431), ((8, 3), 1001, 0, 264), ((8, 34), 90, 0, 744), ((8, 38), 105, 0, 745), ((8, 42), 50, 0, 753), ((8, 47), 21, 1, 758), ((8, 50), 92, 1, 759), ((8, 54), 106, 0, 768), ((8, 58), 110, 0, 769), ((8, 62), 1002, 0, 773), ((8, 67), 25, 0, 748), ((9, 3), 1001, 0, 216), ((9, 15), 16, 1, 629), ((9, 25), 17, 1, 630), ((9, 29), 79, 0, 631), ((9, 36), 21, 1, 638), ((9, 39), 57, 0, 650)]
def mr_yOf (t : Nat) : MethodName := if t = 1000 then arraycopyName else if t = 1001 then Lib.objectInit else if t = 1002 then Lib.Math.max.name else if t = 1003 then Lib.Math.min.name else match mr_M[t]? with
  | some q => mr_y q
  | none => ⟨"", "", ""⟩
def mr_okL (e : (Nat × Nat) × Nat × Nat × Nat) : Bool :=
  if e.2.2.1 = 0 then decide (lw_tbl[e.2.2.2]? = some (.methodLink (mr_name e.1.1) e.1.2 (mr_yOf e.2.1))) else decide (lw_tbl[e.2.2.2]? = some (.methodLinkNest (mr_name e.1.1) e.1.2 (mr_yOf e.2.1) "ReachLabels"))
/-- links of fields: number of the class and the entry; class, slot, the place of the word -/
def mr_fL : List ((Nat × Nat) × Nat × Nat × Nat) := [((0, 11), 0, 0, 310), ((0, 17), 0, 1, 311), ((1, 9), 1, 0, 237), ((1, 15), 1, 1, 239), ((1, 18), 1, 2, 241), ((1, 22), 1, 3, 242), ((1, 25), 1, 4, 243), ((1, 29), 1, 5, 244), ((1, 33), 6, 0, 161), ((1, 38), 6, 1, 165), ((1, 71), 3, 0, 104), ((2, 9), 2, 0, 227), ((2, 15), 3, 1, 108), ((2, 32), 3, 0, 103), ((2, 57), 6, 1, 166), ((2, 62), 6, 0, 162), ((3, 9), 3, 1, 107), ((3, 15), 3, 2, 112), ((3, 25), 3, 0, 98), ((4, 9), 4, 0, 294), ((4, 17), 4, 1, 296), ((5, 9), 5, 0, 207), ((5, 15), 3, 0, 100), ((5, 21), 3, 1, 110), ((5, 33), 3, 2, 114), ((6, 9), 6, 0, 160), ((6, 15), 6, 1, 164), ((6, 18), 6, 2, 169), ((6, 21), 6, 3, 171), ((6, 24), 6, 4, 173), ((6, 27), 6, 5, 175), ((6, 30), 6, 6, 176), ((6, 33), 6, 7, 177), ((6, 36), 6, 8, 178), ((6, 40), 6, 9, 179), ((6, 43), 3, 0, 99), ((6, 46), 3, 1, 109), ((6, 65), 3, 2, 113), ((7, 9), 7, 0, 131), ((7, 15), 7, 1, 133), ((7, 19), 7, 2, 134), ((7, 22), 7, 3, 135), ((7, 25), 7, 4, 136), ((7, 28), 7, 5, 137), ((7, 31), 7, 6, 138), ((7, 64), 3, 0, 105), ((7, 78), 3, 2, 116), ((8, 9), 8, 0, 265), ((8, 15), 8, 1, 267), ((8, 19), 8, 2, 268), ((8, 22), 8, 3, 269), ((8, 25), 8, 4, 270), ((8, 28), 8, 5, 271), ((8, 31), 3, 0, 102), ((8, 73), 6, 1, 168), ((9, 9), 9, 0, 217), ((9, 19), 3, 0, 101), ((9, 33), 3, 1, 111), ((10, 10), 10, 0, 366), ((10, 16), 10, 1, 367), ((10, 22), 10, 2, 368), ((10, 29), 10, 3, 369), ((10, 36), 10, 4, 370), ((10, 43), 10, 5, 371), ((10, 50), 10, 6, 372), ((10, 57), 10, 7, 373), ((10, 64), 10, 8, 374), ((10, 71), 10, 9, 375), ((10, 78), 10, 10, 376), ((10, 90), 7, 0, 132), ((10, 101), 8, 0, 266), ((10, 104), 4, 0, 295), ((10, 111), 6, 2, 170), ((10, 119), 3, 2, 115), ((10, 122), 6, 3, 172), ((10, 125), 6, 4, 174), ((10, 128), 6, 0, 163), ((10, 131), 6, 1, 167), ((10, 221), 1, 0, 238), ((10, 225), 1, 1, 240), ((10, 253), 3, 0, 106), ((11, 7), 11, 1, 814), ((11, 13), 11, 10, 823), ((11, 16), 11, 12, 825), ((11, 19), 11, 13, 826), ((11, 22), 11, 14, 827), ((11, 25), 11, 15, 828), ((11, 29), 11, 16, 829), ((11, 32), 11, 18, 831), ((11, 35), 11, 19, 832), ((11, 38), 11, 20, 833), ((11, 41), 11, 22, 835), ((11, 44), 11, 23, 836), ((11, 47), 11, 24, 837), ((11, 50), 11, 25, 838), ((11, 53), 11, 26, 839), ((11, 65), 11, 0, 813), ((11, 73), 11, 2, 815), ((11, 76), 11, 3, 816), ((11, 83), 11, 5, 818), ((11, 86), 11, 4, 817), ((11, 89), 11, 6, 819), ((11, 92), 11, 7, 820), ((11, 102), 11, 9, 822), ((11, 105), 11, 11, 824), ((11, 123), 11, 8, 821), ((11, 126), 11, 21, 834), ((11, 129), 11, 17, 830), ((11, 219), 11, 27, 840)]
def mr_okF (e : (Nat × Nat) × Nat × Nat × Nat) : Bool := decide (lw_tbl[e.2.2.2]? = some (.fieldLink (mr_name e.1.1) e.1.2 (mr_name e.2.1) (mr_T e.2.1 e.2.2.1).2.1 (mr_T e.2.1 e.2.2.1).2.2.1)) && decide (e.2.2.1 < mr_N e.2.1) && decide (e.2.1 < 12)
/-- links of classes: number of the class and the entry; class, places of classLink, instantiable, initialized -/
def mr_cL : List ((Nat × Nat) × Nat × Nat × Nat × Nat) := [((0, 9), 3, 308, 81, 58), ((4, 15), 3, 291, 81, 58), ((10, 7), 3, 80, 81, 58), ((10, 19), 7, 125, 126, 59), ((10, 26), 6, 154, 155, 60), ((10, 33), 5, 201, 202, 61), ((10, 40), 9, 211, 212, 62), ((10, 47), 2, 221, 222, 63), ((10, 54), 1, 231, 232, 64), ((10, 61), 8, 259, 260, 65), ((10, 68), 4, 285, 286, 66), ((10, 75), 0, 302, 303, 67), ((12, 7), 10, 72, 73, 57), ((12, 10), 11, 795, 796, 70)]
def mr_okC (e : (Nat × Nat) × Nat × Nat × Nat × Nat) : Bool := decide (lw_tbl[e.2.2.1]? = some (.classLink (mr_name e.1.1) e.1.2 (mr_name e.2.1))) && decide (lw_tbl[e.2.2.2.1]? = some (.instantiable (mr_name e.2.1) (mr_N e.2.1))) && decide (lw_tbl[e.2.2.2.2]? = some (.initialized (mr_name e.2.1))) && decide (e.2.1 < 12)
def mr_kI : List ((Nat × Nat) × Int32 × Nat) := [((13, 265), 1431655765, 506), ((13, 266), 858993459, 507), ((13, 267), 252645135, 508)]
def mr_kJ : List ((Nat × Nat) × Int64 × Nat) := [((1, 62), 10, 719), ((11, 213), 10, 1098)]
/-- the layout of the fields, by the places of its words -/
def mr_lp : List (List Nat) := [[312, 314], [245, 247, 249, 251, 253, 255], [228], [117, 119, 121], [297, 299], [208], [180, 182, 184, 186, 188, 190, 192, 194, 196, 198], [139, 141, 143, 145, 147, 149, 151], [272, 274, 276, 278, 280, 282], [218], [377, 379, 381, 383, 385, 387, 389, 391, 393, 395, 397], [841, 843, 845, 847, 849, 851, 853, 855, 857, 859, 861, 863, 865, 867, 869, 871, 873, 875, 877, 879, 881, 883, 885, 887, 889, 891, 893, 895]]
def mr_okY (n : Nat) : Bool := decide ((mr_lp.getD n []).map (fun i => lw_tbl[i]?) = (u_ws (mr_name n) (mr_T n) (mr_N n)).map some) &&
  decide (∀ k, k < mr_N n → parseFieldDescriptor (mr_T n k).2.2.1 = some (mr_ty n k)) && decide (∀ a, a < mr_N n → ∀ b, b < mr_N n → a ≠ b → (mr_T n a).2.1 ≠ (mr_T n b).2.1) && decide (∀ k, k < mr_N n → (mr_T n k).1 = mr_name n)
set_option maxRecDepth 100000 in
theorem mr_okM_all : ((mr_M.take 181).zip mr_pM).all (fun e => mr_okM e.1 e.2) = true := by decide +kernel
theorem mr_pM_len : mr_pM.length = 181 := by decide +kernel
theorem mr_M_len : mr_M.length = 182 := by decide +kernel
set_option maxRecDepth 100000 in
theorem mr_okL_all : mr_mL.all mr_okL = true := by decide +kernel
set_option maxRecDepth 100000 in
theorem mr_okF_all : mr_fL.all mr_okF = true := by decide +kernel
set_option maxRecDepth 100000 in
theorem mr_okC_all : mr_cL.all mr_okC = true := by decide +kernel
set_option maxRecDepth 100000 in
theorem mr_okY_all : (List.range 12).all mr_okY = true := by decide +kernel
set_option maxRecDepth 100000 in
theorem mr_kI_all : mr_kI.all (fun e => decide (lw_tbl[e.2.2]? = some (.constant (mr_name e.1.1) e.1.2 e.2.1))) = true := by decide +kernel
set_option maxRecDepth 100000 in
theorem mr_kJ_all : mr_kJ.all (fun e => decide (lw_tbl[e.2.2]? = some (.constantLong (mr_name e.1.1) e.1.2 e.2.1))) = true := by decide +kernel
set_option maxRecDepth 100000 in
theorem mr_w_aI : (.arrayClass .int : Jvm.Cond) ∈ lw_tbl := List.mem_of_getElem? (i := 124) (by decide +kernel)
set_option maxRecDepth 100000 in
theorem mr_w_aJ : (.arrayClass .long : Jvm.Cond) ∈ lw_tbl := List.mem_of_getElem? (i := 258) (by decide +kernel)
set_option maxRecDepth 100000 in
theorem mr_w_aZ : (.arrayClass .boolean : Jvm.Cond) ∈ lw_tbl := List.mem_of_getElem? (i := 317) (by decide +kernel)
set_option maxRecDepth 100000 in
theorem mr_w_aO : (.arrayOver (.object "ReachLabels$Net") : Jvm.Cond) ∈ lw_tbl := List.mem_of_getElem? (i := 292) (by decide +kernel)
set_option maxRecDepth 100000 in
theorem mr_w_nat : (.native arraycopyName : Jvm.Cond) ∈ lw_tbl := List.mem_of_getElem? (i := 324) (by decide +kernel)
set_option maxRecDepth 100000 in
theorem mr_w_sac : (.static arraycopyName : Jvm.Cond) ∈ lw_tbl := List.mem_of_getElem? (i := 323) (by decide +kernel)
set_option maxRecDepth 100000 in
theorem mr_w_obj : (.code Lib.objectInit ⟨#[0xb1]⟩ 1 none : Jvm.Cond) ∈ lw_tbl := List.mem_of_getElem? (i := 79) (by decide +kernel)
set_option maxRecDepth 100000 in
theorem mr_w_oin : (.instanceMethod Lib.objectInit : Jvm.Cond) ∈ lw_tbl := List.mem_of_getElem? (i := 78) (by decide +kernel)
set_option maxRecDepth 100000 in
theorem mr_w_sys : (.initialized "java/lang/System" : Jvm.Cond) ∈ lw_tbl := List.mem_of_getElem? (i := 68) (by decide +kernel)
set_option maxRecDepth 100000 in
theorem mr_w_max : (.code Lib.Math.max.name Lib.Math.max.code 2 (some .int) : Jvm.Cond) ∈ lw_tbl := List.mem_of_getElem? (i := 548) (by decide +kernel)
set_option maxRecDepth 100000 in
theorem mr_w_min : (.code Lib.Math.min.name Lib.Math.min.code 2 (some .int) : Jvm.Cond) ∈ lw_tbl := List.mem_of_getElem? (i := 357) (by decide +kernel)
set_option maxRecDepth 100000 in
theorem mr_w_smax : (.static Lib.Math.max.name : Jvm.Cond) ∈ lw_tbl := List.mem_of_getElem? (i := 547) (by decide +kernel)
set_option maxRecDepth 100000 in
theorem mr_w_smin : (.static Lib.Math.min.name : Jvm.Cond) ∈ lw_tbl := List.mem_of_getElem? (i := 356) (by decide +kernel)
set_option maxRecDepth 100000 in
theorem mr_w_math : (.initialized "java/lang/Math" : Jvm.Cond) ∈ lw_tbl := List.mem_of_getElem? (i := 69) (by decide +kernel)
