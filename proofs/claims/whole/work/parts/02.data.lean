/-! names, fields, links of the program itself, as lists of numbers (printed by wip/whole/gen02.py out of the Statement) -/
def pj_cn : List String := ["TurnedRing$Field", "TurnedRing$Level", "TurnedRing$Norm", "TurnedRing$Polynomial", "TurnedRing$Reader", "TurnedRing$Register", "TurnedRing$Ring", "TurnedRing$Span", "TurnedRing$Splitter", "TurnedRing$State", "TurnedRing$Tape", "TurnedRing", "TurnedRingModel", "TurnedRingLaw", "java/util/NoSuchElementException", "java/lang/Integer"]
def pj_F0 : List (String × String × String × Bool) := [("TurnedRing$Field", "bits", "I", false), ("TurnedRing$Field", "modulus", "I", false), ("TurnedRing$Field", "power", "I", false), ("TurnedRing$Field", "slant", "I", false), ("TurnedRing$Field", "size", "I", false), ("TurnedRing$Field", "round", "I", false), ("TurnedRing$Field", "powers", "[I", true), ("TurnedRing$Field", "logs", "[I", true), ("TurnedRing$Field", "turns", "[I", true), ("TurnedRing$Field", "slopes", "[I", true)]
def pj_G0 : List Nat := [0, 0, 0, 0, 0, 0, 3, 3, 3, 3]
def pj_F1 : List (String × String × String × Bool) := [("TurnedRing$Level", "sum", "LTurnedRing$Polynomial;", true), ("TurnedRing$Level", "term", "LTurnedRing$Polynomial;", true), ("TurnedRing$Level", "atom", "LTurnedRing$Polynomial;", true), ("TurnedRing$Level", "first", "LTurnedRing$Polynomial;", true)]
def pj_G1 : List Nat := [3, 3, 3, 3]
def pj_F2 : List (String × String × String × Bool) := [("TurnedRing$Norm", "minors", "[LTurnedRing$Polynomial;", true), ("TurnedRing$Norm", "cell", "LTurnedRing$Polynomial;", true), ("TurnedRing$Norm", "inY", "[I", true)]
def pj_G2 : List Nat := [3, 3, 3]
def pj_F3 : List (String × String × String × Bool) := [("TurnedRing$Polynomial", "numbers", "[I", true)]
def pj_G3 : List Nat := [3]
def pj_F4 : List (String × String × String × Bool) := [("TurnedRing$Reader", "told", "LTurnedRing$State;", true), ("TurnedRing$Reader", "lines", "I", false), ("TurnedRing$Reader", "faultKind", "I", false), ("TurnedRing$Reader", "faultPlace", "I", false), ("TurnedRing$Reader", "ring", "LTurnedRing$Ring;", true), ("TurnedRing$Reader", "nameCodes", "[I", true), ("TurnedRing$Reader", "levels", "[LTurnedRing$Level;", true), ("TurnedRing$Reader", "quotient", "LTurnedRing$Polynomial;", true), ("TurnedRing$Reader", "rest", "LTurnedRing$Polynomial;", true), ("TurnedRing$Reader", "text", "[I", true), ("TurnedRing$Reader", "length", "I", false), ("TurnedRing$Reader", "nextHead", "I", false), ("TurnedRing$Reader", "kind", "I", false), ("TurnedRing$Reader", "place", "I", false), ("TurnedRing$Reader", "content", "I", false), ("TurnedRing$Reader", "behind", "I", false)]
def pj_G4 : List Nat := [3, 0, 0, 0, 3, 3, 3, 3, 3, 3, 0, 0, 0, 0, 0, 0]
def pj_F5 : List (String × String × String × Bool) := [("TurnedRing$Register", "taps", "[I", true), ("TurnedRing$Register", "length", "I", false), ("TurnedRing$Register", "rows", "[[I", true), ("TurnedRing$Register", "solvedBy", "[I", true), ("TurnedRing$Register", "count", "I", false)]
def pj_G5 : List Nat := [3, 0, 3, 3, 0]
def pj_F6 : List (String × String × String × Bool) := [("TurnedRing$Ring", "field", "LTurnedRing$Field;", true), ("TurnedRing$Ring", "part", "LTurnedRing$Polynomial;", true), ("TurnedRing$Ring", "ofFirst", "LTurnedRing$Polynomial;", true), ("TurnedRing$Ring", "ofSecond", "LTurnedRing$Polynomial;", true), ("TurnedRing$Ring", "multiple", "LTurnedRing$Polynomial;", true), ("TurnedRing$Ring", "multipleFits", "Z", false), ("TurnedRing$Ring", "rest", "LTurnedRing$Polynomial;", true), ("TurnedRing$Ring", "passed", "LTurnedRing$Polynomial;", true), ("TurnedRing$Ring", "product", "LTurnedRing$Polynomial;", true), ("TurnedRing$Ring", "single", "LTurnedRing$Polynomial;", true), ("TurnedRing$Ring", "left", "LTurnedRing$Polynomial;", true), ("TurnedRing$Ring", "quotient", "LTurnedRing$Polynomial;", true), ("TurnedRing$Ring", "next", "LTurnedRing$Polynomial;", true), ("TurnedRing$Ring", "nextFirst", "LTurnedRing$Polynomial;", true), ("TurnedRing$Ring", "nextSecond", "LTurnedRing$Polynomial;", true), ("TurnedRing$Ring", "steps", "LTurnedRing$Polynomial;", true), ("TurnedRing$Ring", "joined", "LTurnedRing$Polynomial;", true)]
def pj_G6 : List Nat := [3, 3, 3, 3, 3, 1, 3, 3, 3, 3, 3, 3, 3, 3, 3, 3, 3]
def pj_F7 : List (String × String × String × Bool) := [("TurnedRing$Span", "rows", "[J", true), ("TurnedRing$Span", "pivots", "[I", true), ("TurnedRing$Span", "multiple", "[I", true), ("TurnedRing$Span", "count", "I", false), ("TurnedRing$Span", "bits", "I", false)]
def pj_G7 : List Nat := [3, 3, 3, 0, 0]
def pj_F8 : List (String × String × String × Bool) := [("TurnedRing$Splitter", "candidate", "LTurnedRing$Polynomial;", true), ("TurnedRing$Splitter", "smaller", "LTurnedRing$Polynomial;", true), ("TurnedRing$Splitter", "rest", "LTurnedRing$Polynomial;", true), ("TurnedRing$Splitter", "parts", "[LTurnedRing$Polynomial;", true), ("TurnedRing$Splitter", "chosen", "[I", true), ("TurnedRing$Splitter", "wanted", "I", false), ("TurnedRing$Splitter", "found", "I", false), ("TurnedRing$Splitter", "factors", "I", false)]
def pj_G8 : List Nat := [3, 3, 3, 3, 3, 0, 0, 0]
def pj_F9 : List (String × String × String × Bool) := [("TurnedRing$State", "bits", "I", false), ("TurnedRing$State", "modulus", "I", false), ("TurnedRing$State", "power", "I", false), ("TurnedRing$State", "slant", "I", false), ("TurnedRing$State", "nameCount", "I", false), ("TurnedRing$State", "pointCount", "I", false), ("TurnedRing$State", "undoCount", "I", false), ("TurnedRing$State", "names", "[LTurnedRing$Polynomial;", true), ("TurnedRing$State", "points", "[I", true), ("TurnedRing$State", "undoTold", "[LTurnedRing$Polynomial;", true), ("TurnedRing$State", "undoNames", "[I", true)]
def pj_G9 : List Nat := [0, 0, 0, 0, 0, 0, 0, 3, 3, 3, 3]
def pj_F10 : List (String × String × String × Bool) := [("TurnedRing$Tape", "bytes", "[I", true), ("TurnedRing$Tape", "length", "I", false)]
def pj_G10 : List Nat := [3, 0]
def pj_F11 : List (String × String × String × Bool) := [("TurnedRing", "tape", "LTurnedRing$Tape;", true), ("TurnedRing", "now", "LTurnedRing$State;", true), ("TurnedRing", "images", "[LTurnedRing$State;", true), ("TurnedRing", "imaged", "[Z", true), ("TurnedRing", "results", "[LTurnedRing$Polynomial;", true), ("TurnedRing", "ring", "LTurnedRing$Ring;", true), ("TurnedRing", "reader", "LTurnedRing$Reader;", true), ("TurnedRing", "splitter", "LTurnedRing$Splitter;", true), ("TurnedRing", "span", "LTurnedRing$Span;", true), ("TurnedRing", "normer", "LTurnedRing$Norm;", true), ("TurnedRing", "latest", "LTurnedRing$Register;", true), ("TurnedRing", "scratch", "LTurnedRing$Polynomial;", true), ("TurnedRing", "seen", "[Z", true), ("TurnedRing", "faultKind", "I", false)]
def pj_G11 : List Nat := [3, 3, 3, 3, 3, 3, 3, 3, 3, 3, 3, 3, 3, 0]
def pj_F12 : List (String × String × String × Bool) := [("TurnedRingModel", "thrown", "I", false), ("TurnedRingModel", "tape", "[I", true), ("TurnedRingModel", "taped", "I", false), ("TurnedRingModel", "now", "[I", true), ("TurnedRingModel", "read", "[I", true), ("TurnedRingModel", "kept", "[I", true), ("TurnedRingModel", "name", "[J", true), ("TurnedRingModel", "readName", "[J", true), ("TurnedRingModel", "keptName", "[J", true), ("TurnedRingModel", "isKept", "[Z", true), ("TurnedRingModel", "m", "I", false), ("TurnedRingModel", "p", "I", false), ("TurnedRingModel", "s", "I", false), ("TurnedRingModel", "c", "I", false), ("TurnedRingModel", "moved", "[I", true), ("TurnedRingModel", "single", "[I", true), ("TurnedRingModel", "scaled", "[I", true), ("TurnedRingModel", "steps", "[I", true), ("TurnedRingModel", "part", "[I", true), ("TurnedRingModel", "one", "[I", true), ("TurnedRingModel", "two", "[I", true), ("TurnedRingModel", "quotient", "[I", true), ("TurnedRingModel", "rest", "[I", true), ("TurnedRingModel", "turnRow", "[I", true), ("TurnedRingModel", "u1", "[I", true), ("TurnedRingModel", "v1", "[I", true), ("TurnedRingModel", "u2", "[I", true), ("TurnedRingModel", "v2", "[I", true), ("TurnedRingModel", "fRow", "[I", true), ("TurnedRingModel", "gRow", "[I", true), ("TurnedRingModel", "outRow", "[I", true), ("TurnedRingModel", "size", "I", false), ("TurnedRingModel", "to", "I", false), ("TurnedRingModel", "from", "I", false), ("TurnedRingModel", "kind", "I", false), ("TurnedRingModel", "number", "I", false), ("TurnedRingModel", "sign", "I", false), ("TurnedRingModel", "fault", "I", false), ("TurnedRingModel", "place", "I", false), ("TurnedRingModel", "word", "J", false), ("TurnedRingModel", "heap", "[I", true), ("TurnedRingModel", "left", "[I", true), ("TurnedRingModel", "right", "[I", true), ("TurnedRingModel", "made", "[I", true), ("TurnedRingModel", "top", "I", false), ("TurnedRingModel", "within", "I", false), ("TurnedRingModel", "laws", "I", false), ("TurnedRingModel", "result", "[I", true), ("TurnedRingModel", "met", "[Z", true), ("TurnedRingModel", "told", "[I", true), ("TurnedRingModel", "small", "[I", true), ("TurnedRingModel", "parts", "[I", true), ("TurnedRingModel", "level", "[I", true), ("TurnedRingModel", "factorNumbers", "[I", true), ("TurnedRingModel", "sought", "I", false), ("TurnedRingModel", "factorMany", "I", false), ("TurnedRingModel", "likeOne", "[I", true), ("TurnedRingModel", "likeTwo", "[I", true), ("TurnedRingModel", "walk", "[I", true), ("TurnedRingModel", "inY", "[I", true), ("TurnedRingModel", "cells", "[I", true), ("TurnedRingModel", "term", "[I", true), ("TurnedRingModel", "grown", "[I", true), ("TurnedRingModel", "sum", "[I", true), ("TurnedRingModel", "base", "[I", true), ("TurnedRingModel", "wordRow", "[I", true), ("TurnedRingModel", "given", "[I", true), ("TurnedRingModel", "equations", "[I", true), ("TurnedRingModel", "taps", "[I", true), ("TurnedRingModel", "tapMany", "I", false), ("TurnedRingModel", "triedTaps", "[I", true)]
def pj_G12 : List Nat := [0, 3, 0, 3, 3, 3, 3, 3, 3, 3, 0, 0, 0, 0, 3, 3, 3, 3, 3, 3, 3, 3, 3, 3, 3, 3, 3, 3, 3, 3, 3, 0, 0, 0, 0, 0, 0, 0, 0, 2, 3, 3, 3, 3, 0, 0, 0, 3, 3, 3, 3, 3, 3, 3, 0, 0, 3, 3, 3, 3, 3, 3, 3, 3, 3, 3, 3, 3, 3, 0, 3]
def pj_F (ci : Nat) : List (String × String × String × Bool) := match ci with
  | 0 => pj_F0
  | 1 => pj_F1
  | 2 => pj_F2
  | 3 => pj_F3
  | 4 => pj_F4
  | 5 => pj_F5
  | 6 => pj_F6
  | 7 => pj_F7
  | 8 => pj_F8
  | 9 => pj_F9
  | 10 => pj_F10
  | 11 => pj_F11
  | 12 => pj_F12
  | _ => []
/-- 0 int, 1 boolean, 2 long, 3 a reference -/
def pj_ft (ci j : Nat) : Nat := match ci with
  | 0 => pj_G0.getD j 9
  | 1 => pj_G1.getD j 9
  | 2 => pj_G2.getD j 9
  | 3 => pj_G3.getD j 9
  | 4 => pj_G4.getD j 9
  | 5 => pj_G5.getD j 9
  | 6 => pj_G6.getD j 9
  | 7 => pj_G7.getD j 9
  | 8 => pj_G8.getD j 9
  | 9 => pj_G9.getD j 9
  | 10 => pj_G10.getD j 9
  | 11 => pj_G11.getD j 9
  | 12 => pj_G12.getD j 9
  | _ => 9
def pj_T (ci : Nat) : u_T := fun k => (pj_F ci).getD k ("", "", "", false)
def pj_N (ci : Nat) : Nat := match ci with
  | 0 => 10
  | 1 => 4
  | 2 => 3
  | 3 => 1
  | 4 => 16
  | 5 => 5
  | 6 => 17
  | 7 => 5
  | 8 => 8
  | 9 => 11
  | 10 => 2
  | 11 => 14
  | 12 => 71
  | _ => 0
def pj_C (ci : Nat) : String := pj_cn.getD ci ""
def pj_cl : List vw_C := (List.range 15).map (fun ci => (pj_C ci, pj_T ci, pj_N ci))
def pj_fl0 : List (Nat × Nat × Nat) := [(9, 0, 0), (15, 0, 1), (18, 0, 2), (21, 0, 3), (24, 0, 4), (27, 0, 5), (30, 0, 6), (34, 0, 7), (37, 0, 8), (40, 0, 9)]
def pj_fl1 : List (Nat × Nat × Nat) := [(10, 1, 0), (16, 1, 1), (19, 1, 2), (22, 1, 3)]
def pj_fl2 : List (Nat × Nat × Nat) := [(91, 3, 0), (75, 0, 3), (38, 0, 5), (13, 2, 0), (22, 2, 1), (26, 2, 2)]
def pj_fl3 : List (Nat × Nat × Nat) := [(9, 3, 0)]
def pj_fl4 : List (Nat × Nat × Nat) := [(77, 10, 1), (137, 9, 0), (119, 9, 1), (122, 9, 2), (125, 9, 3), (152, 9, 4), (207, 0, 4), (93, 6, 0), (244, 6, 1), (247, 6, 4), (250, 6, 5), (162, 1, 0), (177, 1, 1), (185, 1, 2), (226, 1, 3), (12, 4, 0), (18, 4, 1), (22, 4, 2), (25, 4, 3), (31, 4, 4), (35, 4, 5), (41, 4, 6), (48, 4, 7), (52, 4, 8), (55, 4, 9), (58, 4, 10), (61, 4, 11), (64, 4, 12), (67, 4, 13), (70, 4, 14), (73, 4, 15)]
def pj_fl5 : List (Nat × Nat × Nat) := [(9, 5, 0), (15, 5, 1), (21, 5, 2), (24, 5, 3), (27, 5, 4)]
def pj_fl6 : List (Nat × Nat × Nat) := [(86, 3, 0), (12, 6, 0), (21, 6, 1), (25, 6, 2), (28, 6, 3), (31, 6, 4), (34, 6, 5), (38, 6, 6), (41, 6, 7), (44, 6, 8), (47, 6, 9), (50, 6, 10), (53, 6, 11), (56, 6, 12), (59, 6, 13), (62, 6, 14), (65, 6, 15), (68, 6, 16)]
def pj_fl7 : List (Nat × Nat × Nat) := [(29, 0, 0), (9, 7, 0), (15, 7, 1), (19, 7, 2), (22, 7, 3), (26, 7, 4)]
def pj_fl8 : List (Nat × Nat × Nat) := [(56, 0, 0), (107, 0, 4), (50, 6, 0), (12, 8, 0), (18, 8, 1), (21, 8, 2), (28, 8, 3), (32, 8, 4), (36, 8, 5), (40, 8, 6), (43, 8, 7)]
def pj_fl9 : List (Nat × Nat × Nat) := [(32, 9, 0), (36, 9, 1), (39, 9, 2), (42, 9, 3), (45, 9, 4), (48, 9, 5), (51, 9, 6), (13, 9, 7), (19, 9, 8), (23, 9, 9), (26, 9, 10)]
def pj_fl10 : List (Nat × Nat × Nat) := [(9, 10, 0), (15, 10, 1)]
def pj_fl11 : List (Nat × Nat × Nat) := [(236, 10, 0), (103, 10, 1), (209, 3, 0), (382, 9, 4), (341, 9, 5), (385, 9, 6), (273, 0, 0), (373, 0, 1), (376, 0, 2), (379, 0, 3), (227, 0, 4), (308, 0, 5), (95, 6, 0), (193, 6, 1), (196, 6, 2), (199, 6, 3), (206, 6, 4), (202, 6, 5), (287, 6, 6), (131, 4, 0), (138, 4, 1), (127, 4, 2), (128, 4, 3), (12, 11, 0), (19, 11, 1), (23, 11, 2), (27, 11, 3), (35, 11, 4), (42, 11, 5), (49, 11, 6), (56, 11, 7), (63, 11, 8), (70, 11, 9), (77, 11, 10), (84, 11, 11), (88, 11, 12), (91, 11, 13)]
def pj_fl12 : List (Nat × Nat × Nat) := [(169, 12, 0), (7, 12, 1), (172, 12, 2), (13, 12, 3), (16, 12, 4), (19, 12, 5), (22, 12, 6), (26, 12, 7), (29, 12, 8), (32, 12, 9), (36, 12, 10), (40, 12, 11), (179, 12, 12), (182, 12, 13), (43, 12, 14), (46, 12, 15), (49, 12, 16), (52, 12, 17), (55, 12, 18), (58, 12, 19), (61, 12, 20), (64, 12, 21), (67, 12, 22), (70, 12, 23), (73, 12, 24), (76, 12, 25), (79, 12, 26), (82, 12, 27), (85, 12, 28), (88, 12, 29), (91, 12, 30), (259, 12, 31), (262, 12, 32), (265, 12, 33), (268, 12, 34), (287, 12, 35), (280, 12, 36), (305, 12, 37), (308, 12, 38), (283, 12, 39), (94, 12, 40), (97, 12, 41), (100, 12, 42), (103, 12, 43), (311, 12, 44), (353, 12, 45), (366, 12, 46), (106, 12, 47), (109, 12, 48), (112, 12, 49), (115, 12, 50), (118, 12, 51), (121, 12, 52), (124, 12, 53), (430, 12, 54), (433, 12, 55), (127, 12, 56), (130, 12, 57), (133, 12, 58), (136, 12, 59), (139, 12, 60), (142, 12, 61), (145, 12, 62), (148, 12, 63), (151, 12, 64), (154, 12, 65), (157, 12, 66), (160, 12, 67), (163, 12, 68), (471, 12, 69), (166, 12, 70)]
def pj_fl (oc : Nat) : List (Nat × Nat × Nat) := match oc with
  | 0 => pj_fl0
  | 1 => pj_fl1
  | 2 => pj_fl2
  | 3 => pj_fl3
  | 4 => pj_fl4
  | 5 => pj_fl5
  | 6 => pj_fl6
  | 7 => pj_fl7
  | 8 => pj_fl8
  | 9 => pj_fl9
  | 10 => pj_fl10
  | 11 => pj_fl11
  | 12 => pj_fl12
  | _ => []
def pj_ml0 : List (Nat × Nat × Nat) := [(3, 15, 0), (43, 0, 16), (47, 0, 17), (55, 0, 18), (51, 0, 19), (58, 0, 87), (61, 0, 104), (64, 0, 61)]
def pj_ml1 : List (Nat × Nat × Nat) := [(1, 15, 0), (9, 6, 4)]
def pj_ml2 : List (Nat × Nat × Nat) := [(3, 15, 0), (9, 5, 3), (21, 6, 4), (30, 0, 144), (34, 0, 59), (78, 0, 63), (81, 0, 19), (84, 0, 60), (44, 11, 0), (50, 0, 72), (54, 0, 49), (57, 1, 138), (63, 0, 145), (87, 0, 65), (67, 0, 146), (71, 0, 54)]
def pj_ml3 : List (Nat × Nat × Nat) := [(3, 15, 0), (19, 0, 49), (15, 0, 59)]
def pj_ml4 : List (Nat × Nat × Nat) := [(3, 15, 0), (11, 2, 2), (30, 6, 6), (47, 6, 4), (76, 6, 9), (80, 11, 0), (86, 0, 25), (90, 0, 5), (97, 0, 14), (101, 0, 26), (268, 0, 27), (271, 1, 28), (274, 1, 29), (277, 0, 30), (265, 1, 31), (282, 14, 0), (104, 0, 33), (108, 1, 34), (256, 12, 0), (261, 13, 0), (115, 0, 36), (134, 0, 37), (140, 0, 38), (111, 0, 39), (143, 1, 40), (146, 1, 41), (128, 0, 42), (131, 0, 43), (149, 0, 46), (155, 0, 47), (158, 0, 48), (168, 10, 0), (171, 0, 49), (174, 0, 50), (183, 0, 51), (195, 0, 52), (201, 0, 53), (188, 0, 54), (204, 0, 55), (216, 0, 56), (229, 0, 57), (236, 0, 58), (233, 0, 70), (240, 0, 71), (219, 0, 79), (222, 0, 80), (212, 0, 72), (197, 0, 81), (191, 0, 82), (179, 0, 69), (164, 0, 83)]
def pj_ml5 : List (Nat × Nat × Nat) := [(3, 15, 0), (30, 0, 170), (42, 0, 63), (34, 0, 171), (48, 11, 0), (53, 0, 172), (56, 0, 173), (60, 0, 174), (64, 0, 61), (68, 0, 19), (71, 0, 67), (38, 0, 175)]
def pj_ml6 : List (Nat × Nat × Nat) := [(3, 15, 0), (11, 6, 7), (20, 6, 4), (75, 0, 59), (90, 0, 60), (110, 0, 61), (79, 0, 54), (83, 0, 49), (113, 0, 62), (124, 0, 63), (128, 0, 19), (130, 0, 64), (117, 0, 65), (71, 0, 66), (94, 0, 67), (98, 0, 68), (121, 0, 69), (102, 0, 72), (133, 0, 73), (137, 0, 58), (141, 0, 74), (156, 0, 75), (145, 0, 76), (148, 0, 77), (159, 10, 0), (152, 0, 78), (106, 0, 82), (168, 0, 104), (171, 0, 103), (175, 0, 79), (178, 0, 108), (164, 0, 118)]
def pj_ml7 : List (Nat × Nat × Nat) := [(3, 15, 0), (32, 0, 135), (44, 1, 138), (50, 0, 141), (54, 0, 65), (80, 0, 150), (87, 10, 0), (83, 0, 151), (36, 0, 67), (40, 0, 134), (60, 0, 136), (64, 0, 137), (68, 11, 0), (74, 0, 165), (77, 0, 139)]
def pj_ml8 : List (Nat × Nat × Nat) := [(3, 15, 0), (11, 6, 4), (24, 5, 3), (46, 0, 59), (61, 1, 116), (104, 0, 49), (110, 0, 65), (65, 0, 117), (69, 0, 122), (81, 0, 54), (85, 0, 123), (73, 0, 124), (77, 0, 125), (88, 0, 126), (92, 0, 127), (100, 0, 58), (96, 1, 128), (114, 0, 60)]
def pj_ml9 : List (Nat × Nat × Nat) := [(3, 15, 0), (9, 5, 3), (29, 0, 5), (54, 0, 15), (60, 0, 54), (66, 10, 0), (75, 0, 83), (72, 11, 0)]
def pj_ml10 : List (Nat × Nat × Nat) := [(3, 15, 0)]
def pj_ml11 : List (Nat × Nat × Nat) := [(3, 15, 0), (11, 6, 1), (18, 2, 2), (388, 10, 0), (83, 6, 4), (31, 1, 3), (41, 6, 6), (48, 2, 8), (55, 6, 10), (62, 6, 11), (69, 6, 12), (76, 6, 13), (99, 0, 14), (106, 0, 21), (110, 0, 24), (114, 0, 32), (118, 0, 35), (121, 0, 44), (124, 0, 45), (134, 0, 84), (141, 0, 87), (147, 0, 19), (151, 0, 63), (154, 0, 90), (158, 0, 80), (172, 0, 54), (175, 0, 69), (178, 0, 82), (165, 0, 59), (182, 1, 93), (185, 0, 58), (189, 0, 71), (213, 0, 98), (217, 0, 99), (220, 0, 101), (223, 0, 103), (230, 0, 108), (233, 0, 110), (239, 0, 72), (242, 0, 112), (246, 0, 73), (249, 0, 114), (252, 0, 115), (256, 0, 120), (260, 0, 121), (264, 0, 130), (267, 0, 132), (271, 0, 133), (276, 0, 49), (279, 0, 65), (283, 0, 118), (290, 0, 134), (294, 0, 136), (297, 0, 137), (301, 0, 139), (304, 0, 140), (311, 0, 143), (315, 1, 148), (318, 0, 149), (322, 0, 25), (325, 0, 153), (328, 0, 155), (332, 0, 68), (335, 0, 156), (338, 0, 158), (344, 0, 160), (347, 0, 162), (350, 0, 163), (169, 0, 60), (364, 0, 104), (353, 0, 164), (356, 0, 135), (360, 0, 167), (366, 0, 169), (370, 0, 177)]
def pj_ml12 : List (Nat × Nat × Nat) := [(1, 15, 0), (175, 0, 187), (196, 0, 190), (185, 0, 191), (199, 0, 192), (189, 0, 193), (203, 1, 195), (193, 0, 196), (207, 0, 198), (382, 0, 200), (321, 0, 201), (271, 1, 202), (274, 1, 203), (277, 1, 204), (290, 0, 205), (385, 0, 206), (343, 0, 207), (301, 1, 208), (297, 1, 209), (372, 0, 210), (340, 0, 211), (369, 1, 212), (375, 0, 213), (379, 0, 214), (350, 0, 215), (318, 0, 216), (356, 0, 217), (314, 0, 218), (330, 0, 219), (337, 0, 220), (215, 1, 221), (327, 0, 222), (211, 1, 223), (347, 0, 224), (359, 0, 225), (324, 0, 226), (218, 1, 227), (333, 0, 228), (244, 0, 229), (222, 0, 230), (229, 0, 231), (232, 0, 232), (225, 0, 233), (252, 0, 234), (248, 0, 235), (240, 1, 236), (255, 0, 237), (236, 0, 238), (362, 0, 239), (388, 0, 242), (391, 0, 243), (394, 0, 244), (396, 0, 247), (399, 0, 248), (403, 0, 257), (406, 0, 259), (410, 0, 262), (413, 0, 265), (416, 0, 267), (419, 0, 268), (423, 0, 269), (427, 0, 270), (443, 0, 272), (440, 0, 273), (436, 0, 274), (447, 0, 277), (450, 0, 279), (453, 0, 280), (456, 0, 281), (460, 0, 283), (463, 0, 289), (467, 0, 292)]
def pj_ml13 : List (Nat × Nat × Nat) := [(22, 2, 0), (26, 0, 20), (31, 0, 22), (36, 0, 23), (41, 0, 85), (45, 0, 86), (49, 0, 88), (53, 0, 89), (70, 0, 91), (75, 0, 92), (79, 0, 94), (83, 0, 95), (90, 0, 96), (94, 0, 97), (99, 0, 100), (103, 0, 102), (107, 0, 105), (111, 0, 106), (115, 0, 107), (119, 0, 109), (123, 0, 111), (127, 0, 113), (131, 0, 119), (135, 0, 129), (139, 0, 131), (143, 0, 142), (147, 0, 147), (151, 0, 152), (155, 0, 154), (159, 0, 157), (163, 0, 159), (167, 0, 161), (171, 0, 166), (175, 0, 168), (179, 0, 176), (183, 0, 178), (187, 0, 179), (191, 0, 180), (57, 20, 181), (7, 0, 181), (66, 21, 182), (15, 0, 182), (87, 22, 183), (19, 0, 183), (25, 2, 184), (63, 0, 185), (30, 0, 186), (35, 0, 188), (48, 0, 189), (52, 0, 194), (56, 0, 197), (40, 0, 199), (44, 0, 240), (62, 0, 241), (69, 0, 245), (74, 0, 246), (78, 0, 249), (82, 0, 250), (86, 0, 251), (89, 0, 252), (93, 0, 253), (98, 0, 254), (102, 0, 255), (106, 0, 256), (110, 0, 258), (114, 0, 260), (118, 0, 261), (122, 0, 263), (126, 0, 264), (130, 0, 266), (134, 0, 271), (138, 0, 275), (142, 0, 276), (146, 0, 278), (150, 0, 282), (154, 0, 284), (158, 0, 285), (162, 0, 286), (166, 0, 287), (170, 0, 288), (174, 0, 290), (178, 0, 291), (182, 0, 293), (186, 0, 294), (190, 0, 295), (194, 0, 296)]
/-- calls: index, kind (0 virtual, 1 static, 2 <init>; 4, 5, 6 the same by a nest mate; 10 and on: the JDK), method -/
def pj_ml (oc : Nat) : List (Nat × Nat × Nat) := match oc with
  | 0 => pj_ml0
  | 1 => pj_ml1
  | 2 => pj_ml2
  | 3 => pj_ml3
  | 4 => pj_ml4
  | 5 => pj_ml5
  | 6 => pj_ml6
  | 7 => pj_ml7
  | 8 => pj_ml8
  | 9 => pj_ml9
  | 10 => pj_ml10
  | 11 => pj_ml11
  | 12 => pj_ml12
  | 13 => pj_ml13
  | _ => []
def pj_kl (oc : Nat) : List (Nat × Nat) := match oc with
  | 1 => [(7, 3)]
  | 2 => [(19, 3)]
  | 4 => [(9, 9), (28, 6), (39, 1), (45, 3)]
  | 5 => [(19, 100)]
  | 6 => [(9, 0), (18, 3)]
  | 8 => [(9, 3)]
  | 11 => [(9, 10), (16, 9), (81, 3), (39, 6), (46, 4), (53, 8), (60, 7), (67, 2), (74, 5), (162, 14)]
  | 13 => [(8, 11), (13, 14), (23, 12)]
  | _ => []
/-- methods: name, bytes, locals, return type, class, arguments, 1 where <init> -/
def pj_ms0 : List (MethodName × ByteArray × Nat × Option FieldType × Nat × Nat × Nat) := [
  (⟨"TurnedRing", "<init>", "()V"⟩, prog_1_method_1_code, 2, (none), 11, 1, 1),
  (⟨"TurnedRing$Tape", "<init>", "()V"⟩, prog_12_method_1_code, 1, (none), 10, 1, 1),
  (⟨"TurnedRing$State", "<init>", "()V"⟩, prog_11_method_1_code, 1, (none), 9, 1, 1),
  (⟨"TurnedRing", "polynomials", "(I)[LTurnedRing$Polynomial;"⟩, prog_1_method_50_code, 3, (some (FieldType.array (FieldType.object "TurnedRing$Polynomial"))), 11, 1, 0),
  (⟨"TurnedRing$Polynomial", "<init>", "()V"⟩, prog_5_method_1_code, 1, (none), 3, 1, 1),
  (⟨"TurnedRing$State", "begin", "()V"⟩, prog_11_method_2_code, 1, (none), 9, 1, 0),
  (⟨"TurnedRing$Ring", "<init>", "()V"⟩, prog_8_method_1_code, 1, (none), 6, 1, 1),
  (⟨"TurnedRing$Field", "<init>", "()V"⟩, prog_2_method_1_code, 1, (none), 0, 1, 1),
  (⟨"TurnedRing$Reader", "<init>", "()V"⟩, prog_6_method_1_code, 2, (none), 4, 1, 1),
  (⟨"TurnedRing$Level", "<init>", "()V"⟩, prog_3_method_1_code, 1, (none), 1, 1, 1),
  (⟨"TurnedRing$Splitter", "<init>", "()V"⟩, prog_10_method_1_code, 1, (none), 8, 1, 1),
  (⟨"TurnedRing$Span", "<init>", "()V"⟩, prog_9_method_1_code, 1, (none), 7, 1, 1),
  (⟨"TurnedRing$Norm", "<init>", "()V"⟩, prog_4_method_1_code, 1, (none), 2, 1, 1),
  (⟨"TurnedRing$Register", "<init>", "()V"⟩, prog_7_method_1_code, 1, (none), 5, 1, 1),
  (⟨"TurnedRing$State", "tellTo", "(LTurnedRing$Field;)V"⟩, prog_11_method_3_code, 2, (none), 9, 2, 0),
  (⟨"TurnedRing$Field", "tell", "(IIII)V"⟩, prog_2_method_2_code, 9, (none), 0, 5, 0),
  (⟨"TurnedRing$Field", "leastRound", "()I"⟩, prog_2_method_3_code, 2, (some FieldType.int), 0, 1, 0),
  (⟨"TurnedRing$Field", "fillPowers", "(I)Z"⟩, prog_2_method_4_code, 4, (some FieldType.boolean), 0, 2, 0),
  (⟨"TurnedRing$Field", "longProduct", "(II)I"⟩, prog_2_method_5_code, 6, (some FieldType.int), 0, 3, 0),
  (⟨"TurnedRing$Field", "product", "(II)I"⟩, prog_2_method_9_code, 3, (some FieldType.int), 0, 3, 0),
  (⟨"TurnedRing", "feed", "(IIIII)I"⟩, prog_1_method_2_code, 6, (some FieldType.int), 11, 6, 0),
  (⟨"TurnedRing$Tape", "putNumber", "(I)V"⟩, prog_12_method_2_code, 3, (none), 10, 2, 0),
  (⟨"TurnedRing", "end", "(I)Z"⟩, prog_1_method_3_code, 2, (some FieldType.boolean), 11, 2, 0),
  (⟨"TurnedRing", "script", "()I"⟩, prog_1_method_4_code, 2, (some FieldType.int), 11, 1, 0),
  (⟨"TurnedRing$Reader", "begin", "(LTurnedRing$Tape;)V"⟩, prog_6_method_2_code, 3, (none), 4, 2, 0),
  (⟨"TurnedRing$Tape", "byteAt", "(I)I"⟩, prog_12_method_3_code, 2, (some FieldType.int), 10, 2, 0),
  (⟨"TurnedRing$Reader", "scan", "()V"⟩, prog_6_method_29_code, 2, (none), 4, 1, 0),
  (⟨"TurnedRing$Reader", "signAt", "(I)I"⟩, prog_6_method_31_code, 2, (some FieldType.int), 4, 2, 0),
  (⟨"TurnedRing$Reader", "isLetter", "(I)Z"⟩, prog_6_method_32_code, 1, (some FieldType.boolean), 4, 1, 0),
  (⟨"TurnedRing$Reader", "isDigit", "(I)Z"⟩, prog_6_method_33_code, 1, (some FieldType.boolean), 4, 1, 0)]
def pj_ms1 : List (MethodName × ByteArray × Nat × Option FieldType × Nat × Nat × Nat) := [
  (⟨"TurnedRing$Reader", "scanRun", "()V"⟩, prog_6_method_30_code, 6, (none), 4, 1, 0),
  (⟨"TurnedRing$Reader", "withLetter", "(II)I"⟩, prog_6_method_28_code, 2, (some FieldType.int), 4, 2, 0),
  (⟨"TurnedRing$Reader", "isAtHead", "()Z"⟩, prog_6_method_4_code, 1, (some FieldType.boolean), 4, 1, 0),
  (⟨"TurnedRing$Reader", "isHead", "()Z"⟩, prog_6_method_5_code, 2, (some FieldType.boolean), 4, 1, 0),
  (⟨"TurnedRing$Reader", "keyword", "(I)I"⟩, prog_6_method_27_code, 5, (some FieldType.int), 4, 1, 0),
  (⟨"TurnedRing$Reader", "headLine", "()V"⟩, prog_6_method_9_code, 2, (none), 4, 1, 0),
  (⟨"TurnedRing$Reader", "isHeadNumber", "(I)Z"⟩, prog_6_method_11_code, 2, (some FieldType.boolean), 4, 2, 0),
  (⟨"TurnedRing$Reader", "fieldNumbers", "()Z"⟩, prog_6_method_12_code, 1, (some FieldType.boolean), 4, 1, 0),
  (⟨"TurnedRing$Reader", "isNumber", "(II)Z"⟩, prog_6_method_8_code, 3, (some FieldType.boolean), 4, 3, 0),
  (⟨"TurnedRing$Reader", "refuse", "(II)Z"⟩, prog_6_method_6_code, 3, (some FieldType.boolean), 4, 3, 0),
  (⟨"TurnedRing$Reader", "isUndivided", "(II)Z"⟩, prog_6_method_13_code, 3, (some FieldType.boolean), 4, 2, 0),
  (⟨"TurnedRing$Reader", "bitRest", "(II)I"⟩, prog_6_method_14_code, 5, (some FieldType.int), 4, 2, 0),
  (⟨"TurnedRing$Reader", "endLine", "()V"⟩, prog_6_method_10_code, 1, (none), 4, 1, 0),
  (⟨"TurnedRing$Reader", "pass", "(I)Z"⟩, prog_6_method_7_code, 2, (some FieldType.boolean), 4, 2, 0),
  (⟨"TurnedRing$Reader", "goesOn", "()Z"⟩, prog_6_method_3_code, 1, (some FieldType.boolean), 4, 1, 0),
  (⟨"TurnedRing$Reader", "nameLine", "()V"⟩, prog_6_method_15_code, 3, (none), 4, 1, 0),
  (⟨"TurnedRing$Reader", "nameOf", "(I)I"⟩, prog_6_method_16_code, 3, (some FieldType.int), 4, 2, 0),
  (⟨"TurnedRing$Reader", "sum", "(I)Z"⟩, prog_6_method_18_code, 4, (some FieldType.boolean), 4, 2, 0),
  (⟨"TurnedRing$Reader", "level", "(I)LTurnedRing$Level;"⟩, prog_6_method_17_code, 2, (some (FieldType.object "TurnedRing$Level")), 4, 2, 0),
  (⟨"TurnedRing$Polynomial", "clear", "()V"⟩, prog_5_method_6_code, 2, (none), 3, 1, 0),
  (⟨"TurnedRing$Reader", "term", "(I)Z"⟩, prog_6_method_19_code, 5, (some FieldType.boolean), 4, 2, 0),
  (⟨"TurnedRing$Reader", "power", "(I)Z"⟩, prog_6_method_20_code, 4, (some FieldType.boolean), 4, 2, 0),
  (⟨"TurnedRing$Reader", "atom", "(I)Z"⟩, prog_6_method_21_code, 2, (some FieldType.boolean), 4, 2, 0),
  (⟨"TurnedRing$Reader", "bracket", "(I)Z"⟩, prog_6_method_22_code, 2, (some FieldType.boolean), 4, 2, 0),
  (⟨"TurnedRing$Polynomial", "copy", "(LTurnedRing$Polynomial;)V"⟩, prog_5_method_9_code, 3, (none), 3, 2, 0),
  (⟨"TurnedRing$Reader", "wordAtom", "(I)Z"⟩, prog_6_method_23_code, 4, (some FieldType.boolean), 4, 2, 0),
  (⟨"TurnedRing$Reader", "what", "(II)Z"⟩, prog_6_method_24_code, 6, (some FieldType.boolean), 4, 3, 0),
  (⟨"TurnedRing$Reader", "quotientOrRest", "(ILTurnedRing$Polynomial;LTurnedRing$Polynomial;LTurnedRing$Polynomial;)Z"⟩, prog_6_method_25_code, 5, (some FieldType.boolean), 4, 5, 0),
  (⟨"TurnedRing$Ring", "divide", "(ILTurnedRing$Polynomial;LTurnedRing$Polynomial;LTurnedRing$Polynomial;LTurnedRing$Polynomial;)Z"⟩, prog_8_method_5_code, 10, (some FieldType.boolean), 6, 6, 0),
  (⟨"TurnedRing$Polynomial", "top", "()I"⟩, prog_5_method_2_code, 2, (some FieldType.int), 3, 1, 0)]
def pj_ms2 : List (MethodName × ByteArray × Nat × Option FieldType × Nat × Nat × Nat) := [
  (⟨"TurnedRing$Polynomial", "get", "(I)I"⟩, prog_5_method_4_code, 2, (some FieldType.int), 3, 2, 0),
  (⟨"TurnedRing$Field", "inverse", "(I)I"⟩, prog_2_method_10_code, 2, (some FieldType.int), 0, 2, 0),
  (⟨"TurnedRing$Ring", "quotientNumber", "(IIII)I"⟩, prog_8_method_6_code, 6, (some FieldType.int), 6, 5, 0),
  (⟨"TurnedRing$Field", "turn", "(II)I"⟩, prog_2_method_11_code, 5, (some FieldType.int), 0, 3, 0),
  (⟨"TurnedRing$Field", "turnBack", "(II)I"⟩, prog_2_method_12_code, 5, (some FieldType.int), 0, 3, 0),
  (⟨"TurnedRing$Polynomial", "put", "(II)V"⟩, prog_5_method_5_code, 3, (none), 3, 3, 0),
  (⟨"TurnedRing$Ring", "join", "(ILTurnedRing$Polynomial;LTurnedRing$Polynomial;LTurnedRing$Polynomial;)Z"⟩, prog_8_method_3_code, 10, (some FieldType.boolean), 6, 5, 0),
  (⟨"TurnedRing$Field", "addTimes", "([II[II)V"⟩, prog_2_method_17_code, 7, (none), 0, 5, 0),
  (⟨"TurnedRing$Field", "passLetter", "([II)V"⟩, prog_2_method_16_code, 4, (none), 0, 3, 0),
  (⟨"TurnedRing$Polynomial", "add", "(LTurnedRing$Polynomial;)V"⟩, prog_5_method_10_code, 3, (none), 3, 2, 0),
  (⟨"TurnedRing$Reader", "partOrMultiple", "(ILTurnedRing$Polynomial;LTurnedRing$Polynomial;LTurnedRing$Polynomial;)Z"⟩, prog_6_method_26_code, 5, (some FieldType.boolean), 4, 5, 0),
  (⟨"TurnedRing$Ring", "compare", "(ILTurnedRing$Polynomial;LTurnedRing$Polynomial;)V"⟩, prog_8_method_7_code, 5, (none), 6, 4, 0),
  (⟨"TurnedRing$Polynomial", "constant", "(I)V"⟩, prog_5_method_7_code, 2, (none), 3, 2, 0),
  (⟨"TurnedRing$Polynomial", "isZero", "()Z"⟩, prog_5_method_3_code, 1, (some FieldType.boolean), 3, 1, 0),
  (⟨"TurnedRing$Ring", "stepOn", "(ILTurnedRing$Polynomial;LTurnedRing$Polynomial;)V"⟩, prog_8_method_8_code, 4, (none), 6, 4, 0),
  (⟨"TurnedRing$Polynomial", "swap", "(LTurnedRing$Polynomial;)V"⟩, prog_5_method_11_code, 4, (none), 3, 2, 0),
  (⟨"TurnedRing$Ring", "makeMultiple", "(ILTurnedRing$Polynomial;LTurnedRing$Polynomial;)V"⟩, prog_8_method_9_code, 4, (none), 6, 4, 0),
  (⟨"TurnedRing$Ring", "monicNumber", "(ILTurnedRing$Polynomial;)I"⟩, prog_8_method_10_code, 5, (some FieldType.int), 6, 3, 0),
  (⟨"TurnedRing$Ring", "scale", "(IILTurnedRing$Polynomial;)V"⟩, prog_8_method_11_code, 4, (none), 6, 4, 0),
  (⟨"TurnedRing$Polynomial", "letter", "()V"⟩, prog_5_method_8_code, 1, (none), 3, 1, 0),
  (⟨"TurnedRing$State", "named", "(I)LTurnedRing$Polynomial;"⟩, prog_11_method_5_code, 2, (some (FieldType.object "TurnedRing$Polynomial")), 9, 2, 0),
  (⟨"TurnedRing$Ring", "raise", "(LTurnedRing$Polynomial;I)Z"⟩, prog_8_method_4_code, 4, (some FieldType.boolean), 6, 3, 0),
  (⟨"TurnedRing$Ring", "multiply", "(LTurnedRing$Polynomial;LTurnedRing$Polynomial;LTurnedRing$Polynomial;)Z"⟩, prog_8_method_2_code, 4, (some FieldType.boolean), 6, 4, 0),
  (⟨"TurnedRing$State", "putName", "(ILTurnedRing$Polynomial;)V"⟩, prog_11_method_6_code, 3, (none), 9, 3, 0),
  (⟨"TurnedRing$State", "copy", "(LTurnedRing$State;)V"⟩, prog_11_method_4_code, 3, (none), 9, 2, 0),
  (⟨"TurnedRing", "fault", "()I"⟩, prog_1_method_5_code, 1, (some FieldType.int), 11, 1, 0),
  (⟨"TurnedRing", "times", "(II)I"⟩, prog_1_method_6_code, 3, (some FieldType.int), 11, 3, 0),
  (⟨"TurnedRing$Field", "has", "(I)Z"⟩, prog_2_method_6_code, 2, (some FieldType.boolean), 0, 2, 0),
  (⟨"TurnedRing", "turned", "(II)I"⟩, prog_1_method_7_code, 3, (some FieldType.int), 11, 3, 0),
  (⟨"TurnedRing", "slope", "(I)I"⟩, prog_1_method_8_code, 2, (some FieldType.int), 11, 2, 0)]
def pj_ms3 : List (MethodName × ByteArray × Nat × Option FieldType × Nat × Nat × Nat) := [
  (⟨"TurnedRing$Field", "slopeOf", "(I)I"⟩, prog_2_method_13_code, 2, (some FieldType.int), 0, 2, 0),
  (⟨"TurnedRing", "makes", "(III)I"⟩, prog_1_method_11_code, 6, (some FieldType.int), 11, 4, 0),
  (⟨"TurnedRing", "divides", "(III)I"⟩, prog_1_method_12_code, 6, (some FieldType.int), 11, 4, 0),
  (⟨"TurnedRing", "isSide", "(I)Z"⟩, prog_1_method_15_code, 1, (some FieldType.boolean), 11, 1, 0),
  (⟨"TurnedRing", "common", "(III)I"⟩, prog_1_method_13_code, 6, (some FieldType.int), 11, 4, 0),
  (⟨"TurnedRing", "multiple", "(III)I"⟩, prog_1_method_14_code, 6, (some FieldType.int), 11, 4, 0),
  (⟨"TurnedRing", "resultDegree", "(I)I"⟩, prog_1_method_17_code, 2, (some FieldType.int), 11, 2, 0),
  (⟨"TurnedRing", "keep", "(II)Z"⟩, prog_1_method_18_code, 4, (some FieldType.boolean), 11, 3, 0),
  (⟨"TurnedRing$Field", "hasAll", "([III)Z"⟩, prog_2_method_7_code, 5, (some FieldType.boolean), 0, 4, 0),
  (⟨"TurnedRing$State", "remember", "(I)V"⟩, prog_11_method_9_code, 3, (none), 9, 2, 0),
  (⟨"TurnedRing", "undo", "()I"⟩, prog_1_method_19_code, 1, (some FieldType.int), 11, 1, 0),
  (⟨"TurnedRing$State", "undoLatest", "()I"⟩, prog_11_method_10_code, 1, (some FieldType.int), 9, 1, 0),
  (⟨"TurnedRing", "value", "(II)I"⟩, prog_1_method_20_code, 4, (some FieldType.int), 11, 3, 0),
  (⟨"TurnedRing$Ring", "appliedTo", "(LTurnedRing$Polynomial;II)I"⟩, prog_8_method_15_code, 8, (some FieldType.int), 6, 4, 0),
  (⟨"TurnedRing$Field", "step", "(II)I"⟩, prog_2_method_14_code, 3, (some FieldType.int), 0, 3, 0),
  (⟨"TurnedRing", "applied", "(III)I"⟩, prog_1_method_21_code, 6, (some FieldType.int), 11, 4, 0),
  (⟨"TurnedRing", "roots", "(II)I"⟩, prog_1_method_22_code, 6, (some FieldType.int), 11, 3, 0),
  (⟨"TurnedRing", "kin", "(II)I"⟩, prog_1_method_23_code, 4, (some FieldType.int), 11, 3, 0),
  (⟨"TurnedRing$Field", "kinOf", "(II)I"⟩, prog_2_method_15_code, 3, (some FieldType.int), 0, 3, 0),
  (⟨"TurnedRing", "classes", "()I"⟩, prog_1_method_24_code, 3, (some FieldType.int), 11, 1, 0),
  (⟨"TurnedRing", "seeKin", "(I)V"⟩, prog_1_method_25_code, 3, (none), 11, 2, 0),
  (⟨"TurnedRing", "least", "()I"⟩, prog_1_method_26_code, 3, (some FieldType.int), 11, 1, 0),
  (⟨"TurnedRing$Ring", "takeIn", "(LTurnedRing$Polynomial;I)V"⟩, prog_8_method_16_code, 4, (none), 6, 3, 0),
  (⟨"TurnedRing", "divisors", "(III)I"⟩, prog_1_method_27_code, 5, (some FieldType.int), 11, 4, 0),
  (⟨"TurnedRing$Field", "isFew", "(I)Z"⟩, prog_2_method_8_code, 2, (some FieldType.boolean), 0, 2, 0),
  (⟨"TurnedRing$Splitter", "divisor", "(LTurnedRing$Ring;LTurnedRing$Polynomial;II)I"⟩, prog_10_method_2_code, 8, (some FieldType.int), 8, 5, 0),
  (⟨"TurnedRing$Splitter", "putMonic", "(LTurnedRing$Field;LTurnedRing$Polynomial;II)V"⟩, prog_10_method_10_code, 5, (none), 8, 4, 0),
  (⟨"TurnedRing$Ring", "dividesFromRight", "(LTurnedRing$Polynomial;LTurnedRing$Polynomial;)Z"⟩, prog_8_method_14_code, 3, (some FieldType.boolean), 6, 3, 0),
  (⟨"TurnedRing$Ring", "leave", "(LTurnedRing$Polynomial;LTurnedRing$Polynomial;LTurnedRing$Polynomial;)V"⟩, prog_8_method_13_code, 8, (none), 6, 4, 0),
  (⟨"TurnedRing", "factorings", "(I)I"⟩, prog_1_method_28_code, 3, (some FieldType.int), 11, 2, 0)]
def pj_ms4 : List (MethodName × ByteArray × Nat × Option FieldType × Nat × Nat × Nat) := [
  (⟨"TurnedRing", "isFactored", "(LTurnedRing$Polynomial;)Z"⟩, prog_1_method_30_code, 2, (some FieldType.boolean), 11, 2, 0),
  (⟨"TurnedRing$Splitter", "countFactorings", "(LTurnedRing$Ring;LTurnedRing$Polynomial;)I"⟩, prog_10_method_3_code, 3, (some FieldType.int), 8, 3, 0),
  (⟨"TurnedRing$Splitter", "begin", "(LTurnedRing$Ring;LTurnedRing$Polynomial;I)V"⟩, prog_10_method_5_code, 4, (none), 8, 4, 0),
  (⟨"TurnedRing$Ring", "makeMonic", "(LTurnedRing$Polynomial;)V"⟩, prog_8_method_12_code, 2, (none), 6, 2, 0),
  (⟨"TurnedRing$Splitter", "search", "(LTurnedRing$Ring;I)V"⟩, prog_10_method_7_code, 9, (none), 8, 3, 0),
  (⟨"TurnedRing$Splitter", "isDone", "()Z"⟩, prog_10_method_6_code, 1, (some FieldType.boolean), 8, 1, 0),
  (⟨"TurnedRing$Splitter", "isUndivided", "(LTurnedRing$Ring;LTurnedRing$Polynomial;)Z"⟩, prog_10_method_9_code, 7, (some FieldType.boolean), 8, 3, 0),
  (⟨"TurnedRing$Splitter", "choose", "(LTurnedRing$Ring;II)V"⟩, prog_10_method_8_code, 4, (none), 8, 4, 0),
  (⟨"TurnedRing$Splitter", "numberOf", "(LTurnedRing$Field;LTurnedRing$Polynomial;)I"⟩, prog_10_method_11_code, 4, (some FieldType.int), 8, 2, 0),
  (⟨"TurnedRing", "factor", "(III)I"⟩, prog_1_method_29_code, 5, (some FieldType.int), 11, 4, 0),
  (⟨"TurnedRing$Splitter", "factorOf", "(LTurnedRing$Ring;LTurnedRing$Polynomial;II)I"⟩, prog_10_method_4_code, 6, (some FieldType.int), 8, 5, 0),
  (⟨"TurnedRing", "like", "(II)I"⟩, prog_1_method_31_code, 6, (some FieldType.int), 11, 3, 0),
  (⟨"TurnedRing", "areLike", "(LTurnedRing$Polynomial;LTurnedRing$Polynomial;I)Z"⟩, prog_1_method_32_code, 7, (some FieldType.boolean), 11, 4, 0),
  (⟨"TurnedRing$Span", "begin", "(LTurnedRing$Field;)V"⟩, prog_9_method_2_code, 2, (none), 7, 2, 0),
  (⟨"TurnedRing$Span", "addRow", "([II)V"⟩, prog_9_method_3_code, 3, (none), 7, 3, 0),
  (⟨"TurnedRing$Span", "packed", "([II)J"⟩, prog_9_method_5_code, 6, (some FieldType.long), 7, 3, 0),
  (⟨"TurnedRing$Span", "sums", "()I"⟩, prog_9_method_7_code, 1, (some FieldType.int), 7, 1, 0),
  (⟨"TurnedRing$Span", "step", "(I)J"⟩, prog_9_method_8_code, 3, (some FieldType.long), 7, 2, 0),
  (⟨"java/lang/Integer", "bitCount", "(I)I"⟩, prog_20_method_49_code, 1, (some FieldType.int), 15, 1, 0),
  (⟨"TurnedRing$Span", "code", "(I)I"⟩, prog_9_method_9_code, 2, (some FieldType.int), 7, 2, 0),
  (⟨"TurnedRing$Span", "putPolynomial", "(ILTurnedRing$Polynomial;)V"⟩, prog_9_method_10_code, 4, (none), 7, 3, 0),
  (⟨"TurnedRing$Span", "unpacked", "(JI)I"⟩, prog_9_method_6_code, 4, (some FieldType.int), 7, 3, 0),
  (⟨"TurnedRing", "norm", "(I)I"⟩, prog_1_method_33_code, 3, (some FieldType.int), 11, 2, 0),
  (⟨"TurnedRing$Norm", "take", "(LTurnedRing$Field;LTurnedRing$Polynomial;LTurnedRing$Polynomial;)V"⟩, prog_4_method_2_code, 8, (none), 2, 4, 0),
  (⟨"TurnedRing$Norm", "writeInY", "(LTurnedRing$Field;LTurnedRing$Polynomial;)V"⟩, prog_4_method_3_code, 5, (none), 2, 3, 0),
  (⟨"TurnedRing$Norm", "putCell", "(LTurnedRing$Field;III)V"⟩, prog_4_method_4_code, 7, (none), 2, 5, 0),
  (⟨"TurnedRing$Norm", "addProduct", "(LTurnedRing$Field;LTurnedRing$Polynomial;LTurnedRing$Polynomial;)V"⟩, prog_4_method_5_code, 6, (none), 2, 4, 0),
  (⟨"TurnedRing", "rank", "()I"⟩, prog_1_method_34_code, 3, (some FieldType.int), 11, 1, 0),
  (⟨"TurnedRing", "isWord", "(I)Z"⟩, prog_1_method_37_code, 1, (some FieldType.boolean), 11, 1, 0),
  (⟨"TurnedRing$Span", "rankOf", "([III)I"⟩, prog_9_method_15_code, 6, (some FieldType.int), 7, 4, 0)]
def pj_ms5 : List (MethodName × ByteArray × Nat × Option FieldType × Nat × Nat × Nat) := [
  (⟨"TurnedRing$Span", "clearPivots", "()V"⟩, prog_9_method_16_code, 2, (none), 7, 1, 0),
  (⟨"TurnedRing$Span", "addsRank", "(I)Z"⟩, prog_9_method_17_code, 4, (some FieldType.boolean), 7, 2, 0),
  (⟨"TurnedRing", "sumRank", "()I"⟩, prog_1_method_35_code, 5, (some FieldType.int), 11, 1, 0),
  (⟨"TurnedRing", "rankOfBlocks", "(I)I"⟩, prog_1_method_36_code, 6, (some FieldType.int), 11, 2, 0),
  (⟨"TurnedRing", "weight", "(II)I"⟩, prog_1_method_38_code, 6, (some FieldType.int), 11, 3, 0),
  (⟨"TurnedRing$Span", "addTimes", "(LTurnedRing$Field;[II)V"⟩, prog_9_method_4_code, 6, (none), 7, 4, 0),
  (⟨"TurnedRing$Span", "leastWeight", "(I)I"⟩, prog_9_method_11_code, 8, (some FieldType.int), 7, 2, 0),
  (⟨"TurnedRing", "points", "()I"⟩, prog_1_method_39_code, 3, (some FieldType.int), 11, 1, 0),
  (⟨"TurnedRing$State", "putPoints", "([II)V"⟩, prog_11_method_8_code, 4, (none), 9, 3, 0),
  (⟨"TurnedRing", "word", "(II)I"⟩, prog_1_method_40_code, 4, (some FieldType.int), 11, 3, 0),
  (⟨"TurnedRing$State", "point", "(I)I"⟩, prog_11_method_7_code, 2, (some FieldType.int), 9, 2, 0),
  (⟨"TurnedRing", "distance", "(I)I"⟩, prog_1_method_41_code, 2, (some FieldType.int), 11, 2, 0),
  (⟨"TurnedRing", "isDimension", "(I)Z"⟩, prog_1_method_43_code, 2, (some FieldType.boolean), 11, 2, 0),
  (⟨"TurnedRing", "spanPoints", "(I)V"⟩, prog_1_method_44_code, 4, (none), 11, 2, 0),
  (⟨"TurnedRing$Span", "leastRank", "(I)I"⟩, prog_9_method_12_code, 6, (some FieldType.int), 7, 2, 0),
  (⟨"TurnedRing$Span", "rankOfPacked", "(JI)I"⟩, prog_9_method_14_code, 6, (some FieldType.int), 7, 3, 0),
  (⟨"TurnedRing", "mend", "(I)I"⟩, prog_1_method_42_code, 6, (some FieldType.int), 11, 2, 0),
  (⟨"TurnedRing$Span", "onlyNear", "(JII)I"⟩, prog_9_method_13_code, 9, (some FieldType.int), 7, 4, 0),
  (⟨"TurnedRing", "register", "()I"⟩, prog_1_method_45_code, 3, (some FieldType.int), 11, 1, 0),
  (⟨"TurnedRing$Register", "find", "(LTurnedRing$Field;[II)I"⟩, prog_7_method_2_code, 5, (some FieldType.int), 5, 4, 0),
  (⟨"TurnedRing$Register", "fill", "(LTurnedRing$Field;[III)V"⟩, prog_7_method_4_code, 7, (none), 5, 5, 0),
  (⟨"TurnedRing$Register", "isSolved", "(LTurnedRing$Field;I)Z"⟩, prog_7_method_5_code, 6, (some FieldType.boolean), 5, 3, 0),
  (⟨"TurnedRing$Register", "rowWith", "(II)I"⟩, prog_7_method_6_code, 4, (some FieldType.int), 5, 3, 0),
  (⟨"TurnedRing$Register", "swapRows", "(II)V"⟩, prog_7_method_7_code, 4, (none), 5, 3, 0),
  (⟨"TurnedRing$Register", "clearColumn", "(LTurnedRing$Field;III)V"⟩, prog_7_method_8_code, 7, (none), 5, 5, 0),
  (⟨"TurnedRing$Register", "putTaps", "(I)V"⟩, prog_7_method_9_code, 4, (none), 5, 2, 0),
  (⟨"TurnedRing", "tap", "(I)I"⟩, prog_1_method_46_code, 2, (some FieldType.int), 11, 2, 0),
  (⟨"TurnedRing$Register", "tapAt", "(I)I"⟩, prog_7_method_3_code, 2, (some FieldType.int), 5, 2, 0),
  (⟨"TurnedRing", "image", "(I)Z"⟩, prog_1_method_47_code, 2, (some FieldType.boolean), 11, 2, 0),
  (⟨"TurnedRing", "restore", "(I)Z"⟩, prog_1_method_48_code, 2, (some FieldType.boolean), 11, 2, 0)]
def pj_ms6 : List (MethodName × ByteArray × Nat × Option FieldType × Nat × Nat × Nat) := [
  (⟨"TurnedRing", "count", "(I)I"⟩, prog_1_method_49_code, 2, (some FieldType.int), 11, 2, 0),
  (⟨"TurnedRing", "degree", "(I)I"⟩, prog_1_method_9_code, 3, (some FieldType.int), 11, 2, 0),
  (⟨"TurnedRing", "at", "(II)I"⟩, prog_1_method_10_code, 4, (some FieldType.int), 11, 3, 0),
  (⟨"TurnedRing", "result", "(II)I"⟩, prog_1_method_16_code, 3, (some FieldType.int), 11, 3, 0),
  (⟨"TurnedRingModel", "<init>", "()V"⟩, prog_14_method_1_code, 1, (none), 12, 1, 1),
  (⟨"TurnedRingModel", "thrown", "()I"⟩, prog_14_method_2_code, 1, (some FieldType.int), 12, 1, 0),
  (⟨"TurnedRingModel", "feed", "(IIIII)I"⟩, prog_14_method_5_code, 6, (some FieldType.int), 12, 6, 0),
  (⟨"TurnedRingModel", "come", "(I)V"⟩, prog_14_method_4_code, 3, (none), 12, 2, 0),
  (⟨"TurnedRingModel", "end", "(I)Z"⟩, prog_14_method_6_code, 2, (some FieldType.boolean), 12, 2, 0),
  (⟨"TurnedRingModel", "times", "(II)I"⟩, prog_14_method_17_code, 3, (some FieldType.int), 12, 3, 0),
  (⟨"TurnedRingModel", "begin", "()V"⟩, prog_14_method_10_code, 1, (none), 12, 1, 0),
  (⟨"TurnedRingModel", "use", "([I)V"⟩, prog_14_method_9_code, 2, (none), 12, 2, 0),
  (⟨"TurnedRingModel", "isNumber", "(I)Z"⟩, prog_14_method_11_code, 2, (some FieldType.boolean), 12, 2, 0),
  (⟨"TurnedRingModel", "mul", "(II)I"⟩, prog_14_method_12_code, 6, (some FieldType.int), 12, 3, 0),
  (⟨"TurnedRingModel", "turned", "(II)I"⟩, prog_14_method_18_code, 3, (some FieldType.int), 12, 3, 0),
  (⟨"TurnedRingModel", "isIn", "(III)Z"⟩, prog_14_method_8_code, 3, (some FieldType.boolean), 12, 3, 0),
  (⟨"TurnedRingModel", "turn", "(II)I"⟩, prog_14_method_14_code, 6, (some FieldType.int), 12, 3, 0),
  (⟨"TurnedRingModel", "slope", "(I)I"⟩, prog_14_method_19_code, 2, (some FieldType.int), 12, 2, 0),
  (⟨"TurnedRingModel", "slopeOf", "(I)I"⟩, prog_14_method_15_code, 2, (some FieldType.int), 12, 2, 0),
  (⟨"TurnedRingModel", "script", "()I"⟩, prog_14_method_58_code, 3, (some FieldType.int), 12, 1, 0),
  (⟨"TurnedRingModel", "take", "()I"⟩, prog_14_method_7_code, 2, (some FieldType.int), 12, 1, 0),
  (⟨"TurnedRingModel", "go", "()V"⟩, prog_14_method_37_code, 5, (none), 12, 1, 0),
  (⟨"TurnedRingModel", "isLetter", "(I)Z"⟩, prog_14_method_35_code, 1, (some FieldType.boolean), 12, 1, 0),
  (⟨"TurnedRingModel", "isDigit", "(I)Z"⟩, prog_14_method_34_code, 1, (some FieldType.boolean), 12, 1, 0),
  (⟨"TurnedRingModel", "isMark", "(I)Z"⟩, prog_14_method_36_code, 1, (some FieldType.boolean), 12, 1, 0),
  (⟨"TurnedRingModel", "byteAt", "(I)I"⟩, prog_14_method_33_code, 2, (some FieldType.int), 12, 2, 0),
  (⟨"TurnedRingModel", "readLine", "()Z"⟩, prog_14_method_57_code, 3, (some FieldType.boolean), 12, 1, 0),
  (⟨"TurnedRingModel", "wordAtHand", "()I"⟩, prog_14_method_40_code, 2, (some FieldType.int), 12, 1, 0),
  (⟨"TurnedRingModel", "wordOf", "(I)J"⟩, prog_14_method_39_code, 1, (some FieldType.long), 12, 1, 0),
  (⟨"TurnedRingModel", "spelt", "(IIIII)J"⟩, prog_14_method_38_code, 7, (some FieldType.long), 12, 5, 0)]
def pj_ms7 : List (MethodName × ByteArray × Nat × Option FieldType × Nat × Nat × Nat) := [
  (⟨"TurnedRingModel", "readField", "()Z"⟩, prog_14_method_54_code, 2, (some FieldType.boolean), 12, 1, 0),
  (⟨"TurnedRingModel", "bad", "(I)Z"⟩, prog_14_method_42_code, 2, (some FieldType.boolean), 12, 2, 0),
  (⟨"TurnedRingModel", "isPrime", "(II)Z"⟩, prog_14_method_53_code, 6, (some FieldType.boolean), 12, 2, 0),
  (⟨"TurnedRingModel", "readLaw", "(Z)Z"⟩, prog_14_method_55_code, 2, (some FieldType.boolean), 12, 2, 0),
  (⟨"TurnedRingModel", "readNamed", "()Z"⟩, prog_14_method_56_code, 4, (some FieldType.boolean), 12, 1, 0),
  (⟨"TurnedRingModel", "findName", "()I"⟩, prog_14_method_46_code, 2, (some FieldType.int), 12, 1, 0),
  (⟨"TurnedRingModel", "isSign", "(I)Z"⟩, prog_14_method_41_code, 2, (some FieldType.boolean), 12, 2, 0),
  (⟨"TurnedRingModel", "readExpr", "()Z"⟩, prog_14_method_47_code, 1, (some FieldType.boolean), 12, 1, 0),
  (⟨"TurnedRingModel", "readTerm", "()Z"⟩, prog_14_method_48_code, 4, (some FieldType.boolean), 12, 1, 0),
  (⟨"TurnedRingModel", "readPower", "()Z"⟩, prog_14_method_49_code, 4, (some FieldType.boolean), 12, 1, 0),
  (⟨"TurnedRingModel", "readAtom", "()Z"⟩, prog_14_method_50_code, 3, (some FieldType.boolean), 12, 1, 0),
  (⟨"TurnedRingModel", "clear", "([I)V"⟩, prog_14_method_22_code, 2, (none), 12, 1, 0),
  (⟨"TurnedRingModel", "push", "([I)V"⟩, prog_14_method_44_code, 2, (none), 12, 2, 0),
  (⟨"TurnedRingModel", "copy", "([II[II)V"⟩, prog_14_method_21_code, 5, (none), 12, 4, 0),
  (⟨"TurnedRingModel", "readBracket", "(I)Z"⟩, prog_14_method_51_code, 3, (some FieldType.boolean), 12, 2, 0),
  (⟨"TurnedRingModel", "work", "(II)Z"⟩, prog_14_method_52_code, 4, (some FieldType.boolean), 12, 3, 0),
  (⟨"TurnedRingModel", "pop", "([I)V"⟩, prog_14_method_45_code, 2, (none), 12, 2, 0),
  (⟨"TurnedRingModel", "degreeOf", "([I)I"⟩, prog_14_method_20_code, 2, (some FieldType.int), 12, 1, 0),
  (⟨"TurnedRingModel", "badAt", "(II)Z"⟩, prog_14_method_43_code, 3, (some FieldType.boolean), 12, 3, 0),
  (⟨"TurnedRingModel", "divide", "([I[IZ[I[I)V"⟩, prog_14_method_29_code, 11, (none), 12, 6, 0),
  (⟨"TurnedRingModel", "shift", "([I)V"⟩, prog_14_method_24_code, 3, (none), 12, 2, 0),
  (⟨"TurnedRingModel", "inverse", "(I)I"⟩, prog_14_method_13_code, 5, (some FieldType.int), 12, 2, 0),
  (⟨"TurnedRingModel", "scaleRight", "([II)V"⟩, prog_14_method_27_code, 3, (none), 12, 3, 0),
  (⟨"TurnedRingModel", "product", "([I[I[I)V"⟩, prog_14_method_25_code, 7, (none), 12, 4, 0),
  (⟨"TurnedRingModel", "commonOf", "([I[IZ)V"⟩, prog_14_method_31_code, 4, (none), 12, 4, 0),
  (⟨"TurnedRingModel", "step", "([I[IZ)V"⟩, prog_14_method_30_code, 6, (none), 12, 4, 0),
  (⟨"TurnedRingModel", "plus", "([I[I)V"⟩, prog_14_method_23_code, 3, (none), 12, 2, 0),
  (⟨"TurnedRingModel", "makeMonic", "([IZ)V"⟩, prog_14_method_28_code, 4, (none), 12, 3, 0),
  (⟨"TurnedRingModel", "scale", "(I[I)V"⟩, prog_14_method_26_code, 4, (none), 12, 3, 0),
  (⟨"TurnedRingModel", "multipleOf", "(Z)I"⟩, prog_14_method_32_code, 4, (some FieldType.int), 12, 2, 0)]
def pj_ms8 : List (MethodName × ByteArray × Nat × Option FieldType × Nat × Nat × Nat) := [
  (⟨"TurnedRingModel", "fault", "()I"⟩, prog_14_method_59_code, 1, (some FieldType.int), 12, 1, 0),
  (⟨"TurnedRingModel", "degree", "(I)I"⟩, prog_14_method_63_code, 2, (some FieldType.int), 12, 2, 0),
  (⟨"TurnedRingModel", "isName", "(I)Z"⟩, prog_14_method_60_code, 2, (some FieldType.boolean), 12, 2, 0),
  (⟨"TurnedRingModel", "refuse", "()I"⟩, prog_14_method_3_code, 1, (some FieldType.int), 12, 1, 0),
  (⟨"TurnedRingModel", "take", "(I[I)V"⟩, prog_14_method_61_code, 3, (none), 12, 3, 0),
  (⟨"TurnedRingModel", "at", "(II)I"⟩, prog_14_method_64_code, 3, (some FieldType.int), 12, 3, 0),
  (⟨"TurnedRingModel", "makes", "(III)I"⟩, prog_14_method_66_code, 6, (some FieldType.int), 12, 4, 0),
  (⟨"TurnedRingModel", "takeBoth", "(II)Z"⟩, prog_14_method_65_code, 3, (some FieldType.boolean), 12, 3, 0),
  (⟨"TurnedRingModel", "tell", "(I[I)I"⟩, prog_14_method_62_code, 3, (some FieldType.int), 12, 3, 0),
  (⟨"TurnedRingModel", "divides", "(III)I"⟩, prog_14_method_67_code, 4, (some FieldType.int), 12, 4, 0),
  (⟨"TurnedRingModel", "common", "(III)I"⟩, prog_14_method_68_code, 6, (some FieldType.int), 12, 4, 0),
  (⟨"TurnedRingModel", "multiple", "(III)I"⟩, prog_14_method_69_code, 4, (some FieldType.int), 12, 4, 0),
  (⟨"TurnedRingModel", "result", "(II)I"⟩, prog_14_method_70_code, 3, (some FieldType.int), 12, 3, 0),
  (⟨"TurnedRingModel", "resultDegree", "(I)I"⟩, prog_14_method_71_code, 2, (some FieldType.int), 12, 2, 0),
  (⟨"TurnedRingModel", "keep", "(II)Z"⟩, prog_14_method_72_code, 4, (some FieldType.boolean), 12, 3, 0),
  (⟨"TurnedRingModel", "undo", "()I"⟩, prog_14_method_73_code, 2, (some FieldType.int), 12, 1, 0),
  (⟨"TurnedRingModel", "value", "(II)I"⟩, prog_14_method_75_code, 3, (some FieldType.int), 12, 3, 0),
  (⟨"TurnedRingModel", "valueAt", "(I)I"⟩, prog_14_method_74_code, 2, (some FieldType.int), 12, 2, 0),
  (⟨"TurnedRingModel", "applied", "(III)I"⟩, prog_14_method_77_code, 4, (some FieldType.int), 12, 4, 0),
  (⟨"TurnedRingModel", "appliedTo", "([III)I"⟩, prog_14_method_76_code, 7, (some FieldType.int), 12, 4, 0),
  (⟨"TurnedRingModel", "roots", "(II)I"⟩, prog_14_method_78_code, 5, (some FieldType.int), 12, 3, 0),
  (⟨"TurnedRingModel", "kin", "(II)I"⟩, prog_14_method_80_code, 4, (some FieldType.int), 12, 3, 0),
  (⟨"TurnedRingModel", "kinOf", "(II)I"⟩, prog_14_method_79_code, 3, (some FieldType.int), 12, 3, 0),
  (⟨"TurnedRingModel", "classes", "()I"⟩, prog_14_method_81_code, 4, (some FieldType.int), 12, 1, 0),
  (⟨"TurnedRingModel", "least", "()I"⟩, prog_14_method_83_code, 4, (some FieldType.int), 12, 1, 0),
  (⟨"TurnedRingModel", "takeNumbers", "(I[I)I"⟩, prog_14_method_82_code, 5, (some FieldType.int), 12, 3, 0),
  (⟨"TurnedRingModel", "divisors", "(III)I"⟩, prog_14_method_88_code, 6, (some FieldType.int), 12, 4, 0),
  (⟨"TurnedRingModel", "manyOf", "(I)I"⟩, prog_14_method_84_code, 4, (some FieldType.int), 12, 2, 0),
  (⟨"TurnedRingModel", "layNumber", "(IIZ[I)V"⟩, prog_14_method_85_code, 6, (none), 12, 5, 0),
  (⟨"TurnedRingModel", "dividesRight", "([I[I)Z"⟩, prog_14_method_87_code, 3, (some FieldType.boolean), 12, 3, 0)]
def pj_ms9 : List (MethodName × ByteArray × Nat × Option FieldType × Nat × Nat × Nat) := [
  (⟨"TurnedRingModel", "numberOf", "([I)I"⟩, prog_14_method_86_code, 4, (some FieldType.int), 12, 2, 0),
  (⟨"TurnedRingModel", "factorings", "(I)I"⟩, prog_14_method_92_code, 2, (some FieldType.int), 12, 2, 0),
  (⟨"TurnedRingModel", "layFactored", "(I)Z"⟩, prog_14_method_91_code, 3, (some FieldType.boolean), 12, 2, 0),
  (⟨"TurnedRingModel", "factorAt", "(I)I"⟩, prog_14_method_90_code, 6, (some FieldType.int), 12, 2, 0),
  (⟨"TurnedRingModel", "isWhole", "([I)Z"⟩, prog_14_method_89_code, 4, (some FieldType.boolean), 12, 2, 0),
  (⟨"TurnedRingModel", "factor", "(III)I"⟩, prog_14_method_93_code, 4, (some FieldType.int), 12, 4, 0),
  (⟨"TurnedRingModel", "like", "(II)I"⟩, prog_14_method_95_code, 6, (some FieldType.int), 12, 3, 0),
  (⟨"TurnedRingModel", "leavesNothing", "(I)Z"⟩, prog_14_method_94_code, 4, (some FieldType.boolean), 12, 2, 0),
  (⟨"TurnedRingModel", "norm", "(I)I"⟩, prog_14_method_98_code, 6, (some FieldType.int), 12, 2, 0),
  (⟨"TurnedRingModel", "round", "()I"⟩, prog_14_method_16_code, 4, (some FieldType.int), 12, 1, 0),
  (⟨"TurnedRingModel", "layInY", "([I)V"⟩, prog_14_method_96_code, 4, (none), 12, 2, 0),
  (⟨"TurnedRingModel", "plainProduct", "([II[I[I)V"⟩, prog_14_method_97_code, 7, (none), 12, 5, 0),
  (⟨"TurnedRingModel", "rank", "()I"⟩, prog_14_method_100_code, 2, (some FieldType.int), 12, 1, 0),
  (⟨"TurnedRingModel", "rankOf", "([III)I"⟩, prog_14_method_99_code, 8, (some FieldType.int), 12, 4, 0),
  (⟨"TurnedRingModel", "sumRank", "()I"⟩, prog_14_method_101_code, 7, (some FieldType.int), 12, 1, 0),
  (⟨"TurnedRingModel", "weight", "(II)I"⟩, prog_14_method_102_code, 8, (some FieldType.int), 12, 3, 0),
  (⟨"TurnedRingModel", "points", "()I"⟩, prog_14_method_103_code, 3, (some FieldType.int), 12, 1, 0),
  (⟨"TurnedRingModel", "word", "(II)I"⟩, prog_14_method_104_code, 3, (some FieldType.int), 12, 3, 0),
  (⟨"TurnedRingModel", "distance", "(I)I"⟩, prog_14_method_106_code, 5, (some FieldType.int), 12, 2, 0),
  (⟨"TurnedRingModel", "farOf", "([I[I)I"⟩, prog_14_method_105_code, 4, (some FieldType.int), 12, 3, 0),
  (⟨"TurnedRingModel", "mend", "(I)I"⟩, prog_14_method_107_code, 5, (some FieldType.int), 12, 2, 0),
  (⟨"TurnedRingModel", "register", "()I"⟩, prog_14_method_109_code, 4, (some FieldType.int), 12, 1, 0),
  (⟨"TurnedRingModel", "registers", "(II[I)Z"⟩, prog_14_method_108_code, 12, (some FieldType.boolean), 12, 4, 0),
  (⟨"TurnedRingModel", "tap", "(I)I"⟩, prog_14_method_110_code, 2, (some FieldType.int), 12, 2, 0),
  (⟨"TurnedRingModel", "image", "(I)Z"⟩, prog_14_method_111_code, 3, (some FieldType.boolean), 12, 2, 0),
  (⟨"TurnedRingModel", "restore", "(I)Z"⟩, prog_14_method_112_code, 3, (some FieldType.boolean), 12, 2, 0),
  (⟨"TurnedRingModel", "count", "(I)I"⟩, prog_14_method_113_code, 2, (some FieldType.int), 12, 2, 0),
  (⟨"TurnedRingLaw", "law", "([I)Z"⟩, code, 7, (some .boolean), 13, 1, 0)]
def pj_m (y : Nat) : MethodName × ByteArray × Nat × Option FieldType × Nat × Nat × Nat := (match y / 30 with
  | 0 => pj_ms0
  | 1 => pj_ms1
  | 2 => pj_ms2
  | 3 => pj_ms3
  | 4 => pj_ms4
  | 5 => pj_ms5
  | 6 => pj_ms6
  | 7 => pj_ms7
  | 8 => pj_ms8
  | 9 => pj_ms9
  | _ => []).getD (y % 30) (⟨"", "", ""⟩, ByteArray.empty, 0, none, 99, 0, 0)
def pj_selY : List Nat := [16, 17, 18, 26, 27, 30, 33, 36, 37, 38, 39, 42, 43, 46, 47, 48, 50, 51, 52, 53, 55, 56, 57, 62, 66, 70, 74, 76, 77, 78, 110, 120, 122, 124, 125, 126, 127, 132, 141, 144, 145, 146, 150, 151, 153, 162, 163, 165, 170, 171, 172, 173, 174, 175, 187, 190, 191, 192, 193, 196, 198, 200, 201, 205, 206, 207, 210, 211, 213, 214, 215, 216, 217, 218, 219, 220, 222, 224, 225, 226, 228, 229, 230, 231, 232, 233, 234, 235, 237, 238, 239, 242, 243, 244, 247, 248, 257, 259, 262, 265, 267, 268, 269, 270, 272, 273, 274, 277, 279, 280, 281, 283, 289, 292, 5, 14, 15, 19, 20, 21, 22, 23, 24, 25, 32, 35, 44, 45, 49, 54, 58, 59, 60, 61, 63, 64, 65, 67, 68, 69, 71, 72, 73, 75, 79, 80, 81, 82, 83, 84, 85, 86, 87, 88, 89, 90, 91, 92, 94, 95, 96, 97, 98, 99, 100, 101, 102, 103, 104, 105, 106, 107, 108, 109, 111, 112, 113, 114, 115, 117, 118, 119, 121, 123, 129, 130, 131, 133, 134, 135, 136, 137, 139, 140, 142, 143, 147, 149, 152, 154, 155, 156, 157, 158, 159, 160, 161, 164, 166, 167, 168, 169, 176, 177, 178, 179, 180, 181, 182, 183, 185, 186, 188, 189, 194, 197, 199, 240, 241, 245, 246, 249, 250, 251, 252, 253, 254, 255, 256, 258, 260, 261, 263, 264, 266, 271, 275, 276, 278, 282, 284, 285, 286, 287, 288, 290, 291, 293, 294, 295, 296]
def pj_insY : List Nat := [0, 1, 2, 4, 5, 6, 7, 8, 9, 10, 11, 12, 13, 14, 15, 16, 17, 18, 19, 20, 21, 22, 23, 24, 25, 26, 27, 30, 32, 33, 35, 36, 37, 38, 39, 42, 43, 44, 45, 46, 47, 48, 49, 50, 51, 52, 53, 54, 55, 56, 57, 58, 59, 60, 61, 62, 63, 64, 65, 66, 67, 68, 69, 70, 71, 72, 73, 74, 75, 76, 77, 78, 79, 80, 81, 82, 83, 84, 85, 86, 87, 88, 89, 90, 91, 92, 94, 95, 96, 97, 98, 99, 100, 101, 102, 103, 104, 105, 106, 107, 108, 109, 110, 111, 112, 113, 114, 115, 117, 118, 119, 120, 121, 122, 123, 124, 125, 126, 127, 129, 130, 131, 132, 133, 134, 135, 136, 137, 139, 140, 141, 142, 143, 144, 145, 146, 147, 149, 150, 151, 152, 153, 154, 155, 156, 157, 158, 159, 160, 161, 162, 163, 164, 165, 166, 167, 168, 169, 170, 171, 172, 173, 174, 175, 176, 177, 178, 179, 180, 181, 182, 183, 184, 185, 186, 187, 188, 189, 190, 191, 192, 193, 194, 196, 197, 198, 199, 200, 201, 205, 206, 207, 210, 211, 213, 214, 215, 216, 217, 218, 219, 220, 222, 224, 225, 226, 228, 229, 230, 231, 232, 233, 234, 235, 237, 238, 239, 240, 241, 242, 243, 244, 245, 246, 247, 248, 249, 250, 251, 252, 253, 254, 255, 256, 257, 258, 259, 260, 261, 262, 263, 264, 265, 266, 267, 268, 269, 270, 271, 272, 273, 274, 275, 276, 277, 278, 279, 280, 281, 282, 283, 284, 285, 286, 287, 288, 289, 290, 291, 292, 293, 294, 295, 296]
def pj_staY : List Nat := [3, 28, 29, 31, 34, 40, 41, 93, 116, 128, 138, 148, 195, 202, 203, 204, 208, 209, 212, 221, 223, 227, 236]
