/-! the abstract machine: tables, printed by a program out of the words of the Statement -/
abbrev AV : Type := Int ⊕ (Int64 ⊕ Option Nat)
abbrev vI (x : Int) : AV := Sum.inl x
abbrev vJ (x : Int64) : AV := Sum.inr (Sum.inl x)
abbrev vR (r : Option Nat) : AV := Sum.inr (Sum.inr r)
def zcns : List String := ["HatterTunes$Actor", "HatterTunes$Choir", "HatterTunes$House", "HatterTunes$Rows", "HatterTunes$Shop", "HatterTunes$Tape", "HatterTunes$Text", "HatterTunes", "HatterTunesModel", "HatterTunesLaw", "java/lang/String", "java/lang/StringLatin1", "java/lang/Integer", "java/lang/Math", "jdk/internal/util/Preconditions", "java/lang/StringUTF16", "java/lang/Character", "java/lang/Object", "java/lang/System"]
def zcn (o : Nat) : String := zcns.getD o ""
def zfl : List (List (String × String × String × Bool)) := [[("HatterTunes$Actor", "bodies", "[I", true), ("HatterTunes$Actor", "ran", "I", false), ("HatterTunes$Actor", "number", "I", false), ("HatterTunes$Actor", "kind", "I", false), ("HatterTunes$Actor", "v", "I", false)],
  [("HatterTunes$Choir", "shares", "[I", true), ("HatterTunes$Choir", "sounds", "[I", true), ("HatterTunes$Choir", "row", "[I", true), ("HatterTunes$Choir", "best", "[I", true), ("HatterTunes$Choir", "size", "I", false), ("HatterTunes$Choir", "mostShared", "I", false)],
  [("HatterTunes$House", "kinds", "[I", true), ("HatterTunes$House", "vs", "[I", true), ("HatterTunes$House", "ages", "[I", true), ("HatterTunes$House", "bumps", "[I", true), ("HatterTunes$House", "rows", "[I", true), ("HatterTunes$House", "facts", "[I", true), ("HatterTunes$House", "tune", "LHatterTunes$Rows;", true), ("HatterTunes$House", "seen", "LHatterTunes$Rows;", true), ("HatterTunes$House", "plan", "LHatterTunes$Rows;", true), ("HatterTunes$House", "book", "LHatterTunes$Rows;", true), ("HatterTunes$House", "size", "I", false), ("HatterTunes$House", "year", "I", false), ("HatterTunes$House", "shop", "LHatterTunes$Shop;", false)],
  [("HatterTunes$Rows", "cells", "[I", true), ("HatterTunes$Rows", "size", "I", false)],
  [("HatterTunes$Shop", "steps", "[I", true), ("HatterTunes$Shop", "letters", "[I", true), ("HatterTunes$Shop", "numbers", "[I", true), ("HatterTunes$Shop", "length", "I", false), ("HatterTunes$Shop", "growth", "I", false)],
  [("HatterTunes$Tape", "items", "[J", true), ("HatterTunes$Tape", "sort", "I", false), ("HatterTunes$Tape", "length", "I", false)],
  [("HatterTunes$Text", "signs", "[I", true), ("HatterTunes$Text", "length", "I", false), ("HatterTunes$Text", "place", "I", false), ("HatterTunes$Text", "number", "I", false), ("HatterTunes$Text", "shop", "LHatterTunes$Shop;", false)],
  [("HatterTunes", "now", "LHatterTunes$House;", true), ("HatterTunes", "trial", "LHatterTunes$House;", true), ("HatterTunes", "kept", "LHatterTunes$House;", true), ("HatterTunes", "imaged", "Z", false), ("HatterTunes", "text", "LHatterTunes$Text;", true), ("HatterTunes", "shops", "[LHatterTunes$Shop;", true), ("HatterTunes", "shopCount", "I", false), ("HatterTunes", "tapes", "[LHatterTunes$Tape;", true), ("HatterTunes", "actor", "LHatterTunes$Actor;", true), ("HatterTunes", "choir", "LHatterTunes$Choir;", true)],
  [("HatterTunesModel", "heads", "I", false), ("HatterTunesModel", "kind", "[I", true), ("HatterTunesModel", "v", "[I", true), ("HatterTunesModel", "bumps", "[I", true), ("HatterTunesModel", "age", "[I", true), ("HatterTunesModel", "rows", "[I", true), ("HatterTunesModel", "noted", "I", false), ("HatterTunesModel", "tune", "[I", true), ("HatterTunesModel", "year", "I", false), ("HatterTunesModel", "texted", "I", false), ("HatterTunesModel", "text", "[I", true), ("HatterTunesModel", "at", "I", false), ("HatterTunesModel", "value", "I", false), ("HatterTunesModel", "digits", "I", false), ("HatterTunesModel", "open", "I", false), ("HatterTunesModel", "shops", "I", false), ("HatterTunesModel", "holds", "I", false), ("HatterTunesModel", "clauses", "[I", true), ("HatterTunesModel", "word", "[I", true), ("HatterTunesModel", "number", "[I", true), ("HatterTunesModel", "begins", "[I", true), ("HatterTunesModel", "length", "[I", true), ("HatterTunesModel", "code", "[I", true), ("HatterTunesModel", "coded", "I", false), ("HatterTunesModel", "stack", "[Z", true), ("HatterTunesModel", "seen", "I", false), ("HatterTunesModel", "seenOf", "[I", true), ("HatterTunesModel", "seenBump", "[I", true), ("HatterTunesModel", "seenIn", "[I", true), ("HatterTunesModel", "seenNote", "[I", true), ("HatterTunesModel", "inPlan", "I", false), ("HatterTunesModel", "goes", "[I", true), ("HatterTunesModel", "whose", "[I", true), ("HatterTunesModel", "inBook", "I", false), ("HatterTunesModel", "booked", "[I", true), ("HatterTunesModel", "bookAge", "[I", true), ("HatterTunesModel", "traced", "I", false), ("HatterTunesModel", "traces", "[I", true), ("HatterTunesModel", "imaged", "Z", false), ("HatterTunesModel", "image", "[I", true), ("HatterTunesModel", "ahead", "[I", true), ("HatterTunesModel", "sound", "[I", true), ("HatterTunesModel", "other", "[I", true), ("HatterTunesModel", "tried", "[I", true), ("HatterTunesModel", "best", "[I", true), ("HatterTunesModel", "least", "I", false), ("HatterTunesModel", "tapeSort", "[I", true), ("HatterTunesModel", "tapeSize", "[I", true), ("HatterTunesModel", "items", "[J", true)]]
def zT (ci : Nat) : u_T := fun k => (zfl.getD ci []).getD k ("", "", "", false)
def zNs : List Nat := [5, 6, 13, 2, 5, 3, 5, 10, 49, 2]
def zNf (ci : Nat) : Nat := zNs.getD ci 0
def zftT : List (List Nat) := [[2, 0, 0, 0, 0], [2, 2, 2, 2, 0, 0], [2, 2, 2, 2, 2, 2, 2, 2, 2, 2, 0, 0, 2], [2, 0], [2, 2, 2, 0, 0], [2, 0, 0], [2, 0, 0, 0, 2], [2, 2, 2, 1, 2, 2, 0, 2, 2, 2], [0, 2, 2, 2, 2, 2, 0, 2, 0, 0, 2, 0, 0, 0, 0, 0, 0, 2, 2, 2, 2, 2, 2, 0, 2, 0, 2, 2, 2, 2, 0, 2, 2, 0, 2, 2, 0, 2, 1, 2, 2, 2, 2, 2, 2, 0, 2, 2, 2], [2, 0]]
def zft (ci k : Nat) : Nat := (zftT.getD ci []).getD k 0
def zfinT : List (List Bool) := [[true, false, false, false, false], [true, true, true, true, false, false], [true, true, true, true, true, true, true, true, true, true, false, false, false], [true, false], [true, true, true, false, false], [true, false, false], [true, false, false, false, false], [true, true, true, false, true, true, false, true, true, true], [false, true, true, true, true, true, false, true, false, false, true, false, false, false, false, false, false, true, true, true, true, true, true, false, true, false, true, true, true, true, false, true, true, false, true, true, false, true, false, true, true, true, true, true, true, false, true, true, true], []]
def zfin (ci k : Nat) : Bool := (zfinT.getD ci []).getD k false
def zcls9 : List vw_C := [0, 1, 2, 3, 4, 5, 6, 7, 8].map fun ci => (zcn ci, zT ci, zNf ci)
def zfldT : List (List (Nat × Nat × Nat × Nat)) := [[(9, 0, 0, 222), (15, 0, 1, 224), (25, 0, 2, 226), (28, 0, 3, 227), (31, 0, 4, 228)], [(37, 2, 10, 155), (9, 1, 0, 246), (15, 1, 1, 247), (18, 1, 2, 248), (21, 1, 3, 249), (30, 1, 4, 251), (34, 1, 5, 253)], [(114, 3, 1, 105), (90, 4, 4, 124), (9, 2, 0, 137), (15, 2, 1, 139), (18, 2, 2, 141), (21, 2, 3, 143), (24, 2, 4, 144), (27, 2, 5, 146), (35, 2, 6, 147), (39, 2, 7, 149), (42, 2, 8, 151), (45, 2, 9, 153), (65, 2, 10, 157), (69, 2, 11, 158), (51, 2, 12, 160)], [(9, 3, 0, 102), (13, 3, 1, 103)], [(9, 4, 0, 118), (15, 4, 1, 119), (18, 4, 2, 120), (21, 4, 3, 121), (25, 4, 4, 122)], [(9, 5, 0, 273), (15, 5, 1, 275), (19, 5, 2, 277)], [(72, 4, 4, 123), (9, 6, 0, 195), (15, 6, 1, 196), (28, 6, 2, 198), (62, 6, 3, 199), (24, 6, 4, 200)], [(178, 3, 1, 104), (169, 4, 4, 125), (75, 2, 0, 138), (79, 2, 1, 140), (82, 2, 2, 142), (149, 2, 4, 145), (131, 2, 6, 148), (203, 2, 7, 150), (218, 2, 8, 152), (224, 2, 9, 154), (63, 2, 10, 156), (166, 2, 11, 159), (162, 2, 12, 161), (267, 6, 1, 197), (261, 0, 0, 223), (268, 0, 1, 225), (197, 1, 3, 250), (196, 1, 4, 252), (243, 5, 0, 274), (230, 5, 1, 276), (236, 5, 2, 278), (14, 7, 0, 287), (18, 7, 1, 288), (21, 7, 2, 289), (247, 7, 3, 290), (27, 7, 4, 291), (33, 7, 5, 292), (155, 7, 6, 293), (39, 7, 7, 294), (46, 7, 8, 295), (53, 7, 9, 296)], [(114, 8, 0, 825), (9, 8, 1, 826), (15, 8, 2, 827), (18, 8, 3, 828), (21, 8, 4, 829), (24, 8, 5, 830), (154, 8, 6, 831), (27, 8, 7, 832), (235, 8, 8, 833), (157, 8, 9, 834), (30, 8, 10, 835), (160, 8, 11, 836), (163, 8, 12, 837), (166, 8, 13, 838), (201, 8, 14, 839), (229, 8, 15, 840), (110, 8, 16, 841), (33, 8, 17, 842), (36, 8, 18, 843), (39, 8, 19, 844), (42, 8, 20, 845), (45, 8, 21, 846), (48, 8, 22, 847), (185, 8, 23, 848), (51, 8, 24, 849), (286, 8, 25, 850), (55, 8, 26, 851), (58, 8, 27, 852), (61, 8, 28, 853), (64, 8, 29, 854), (307, 8, 30, 855), (67, 8, 31, 856), (70, 8, 32, 857), (310, 8, 33, 858), (73, 8, 34, 859), (76, 8, 35, 860), (317, 8, 36, 861), (79, 8, 37, 862), (313, 8, 38, 863), (82, 8, 39, 864), (85, 8, 40, 865), (88, 8, 41, 866), (91, 8, 42, 867), (94, 8, 43, 868), (97, 8, 44, 869), (279, 8, 45, 870), (100, 8, 46, 871), (103, 8, 47, 872), (106, 8, 48, 873)], [], [(9, 9, 0, 1335), (15, 9, 1, 1336)], [], [], [], [], [], [], [], []]
def zfld (o i : Nat) : Option (Nat × Nat) := ((zfldT.getD (o % 100) []).find? (fun e => e.1 == i)).map (fun e => (e.2.1, e.2.2.1))
def zstats : List (String × String × String × AV) := [("HatterTunes", "POWERS", "[I", vR (some 1)), ("HatterTunes", "ABOVE", "[I", vR (some 2)), ("HatterTunes", "BODIES", "[I", vR (some 3)), ("java/lang/String", "COMPACT_STRINGS", "Z", vI 1), ("jdk/internal/util/Preconditions", "SIOOBE_FORMATTER", "Ljava/util/function/BiFunction;", vR (some 30))]
def zstatT : List (List (Nat × Nat × Bool × Nat)) := [[(52, 2, true, 753), (45, 1, true, 755)], [], [(123, 0, true, 388)], [], [], [], [], [(200, 0, false, 630), (290, 1, false, 777)], [], [], [(38, 3, false, 509), (1053, 4, false, 525)], [], [], [], [], [], [], [], []]
def zstat (o i : Nat) : Option AV := ((zstatT.getD (o % 100) []).find? (fun e => e.1 == i)).map (fun e => (zstats.getD e.2.1 ("", "", "", vI 0)).2.2.2)
def zclT : List (List (Nat × Nat × Nat)) := [[], [], [(30, 3, 96), (48, 4, 112)], [], [], [], [], [(11, 2, 90), (24, 6, 189), (31, 4, 212), (37, 5, 214), (43, 0, 216), (50, 1, 240)], [], [(7, 7, 82), (10, 8, 819)], [], [], [], [], [], [], [], [], []]
def zcl (o i : Nat) : Option Nat := ((zclT.getD (o % 100) []).find? (fun e => e.1 == i)).map (fun e => e.2.1)
def zldcT : List (List (Nat × AV × Nat)) := [[], [], [], [], [], [], [(43, vR (some 4), 496), (52, vR (some 6), 590), (54, vR (some 8), 591)], [], [(219, vR (some 10), 1088), (225, vR (some 12), 1099), (227, vR (some 14), 1100), (188, vR (some 16), 1133), (193, vR (some 18), 1191)], [], [], [], [(265, vI 1431655765, 642), (266, vI 858993459, 643), (267, vI 252645135, 644)], [], [], [(227, vI 65536, 1161)], [(110, vI 55232, 1186), (76, vI 56320, 1190)], [], []]
def zldc (o i : Nat) : Option AV := ((zldcT.getD (o % 100) []).find? (fun e => e.1 == i)).map (fun e => e.2.1)
def zldc2T : List (List (Nat × Int64 × Nat)) := [[], [], [], [], [], [], [], [(206, (-9223372036854775808 : Int64), 672)], [(299, (-9223372036854775808 : Int64), 1237), (301, (60 : Int64), 1238)], [(131, (4294967295 : Int64), 1334)], [], [], [], [], [], [], [], [], []]
def zldc2 (o i : Nat) : Option Int64 := ((zldc2T.getD (o % 100) []).find? (fun e => e.1 == i)).map (fun e => e.2.1)
def zmnT : List MethodName := [⟨"HatterTunes", "<init>", "()V"⟩,
  ⟨"java/lang/Object", "<init>", "()V"⟩,
  ⟨"HatterTunes$House", "<init>", "()V"⟩,
  ⟨"HatterTunes$Rows", "<init>", "(I)V"⟩,
  ⟨"HatterTunes$Shop", "<init>", "()V"⟩,
  ⟨"HatterTunes$Text", "<init>", "()V"⟩,
  ⟨"HatterTunes$Actor", "<init>", "()V"⟩,
  ⟨"HatterTunes$Choir", "<init>", "()V"⟩,
  ⟨"HatterTunes$Tape", "<init>", "()V"⟩,
  ⟨"HatterTunes", "head", "(II)I"⟩,
  ⟨"HatterTunes", "isBelow", "(II)Z"⟩,
  ⟨"HatterTunes$House", "addHead", "(II)I"⟩,
  ⟨"HatterTunes$House", "setAllBumps", "(II)V"⟩,
  ⟨"HatterTunes$House", "setBump", "(III)V"⟩,
  ⟨"HatterTunes", "of", "(II)I"⟩,
  ⟨"HatterTunes", "isHead", "(I)Z"⟩,
  ⟨"HatterTunes$House", "soundOf", "(I)I"⟩,
  ⟨"HatterTunes$House", "noteOf", "(II)I"⟩,
  ⟨"HatterTunes$House", "pitchOf", "(II)I"⟩,
  ⟨"HatterTunes$House", "tellFacts", "(II)V"⟩,
  ⟨"HatterTunes$House", "bumpOf", "(II)I"⟩,
  ⟨"HatterTunes$Shop", "sharpness", "([I)I"⟩,
  ⟨"java/lang/Math", "min", "(II)I"⟩,
  ⟨"java/lang/Math", "floorMod", "(II)I"⟩,
  ⟨"HatterTunes$House", "heardIn", "(I)I"⟩,
  ⟨"HatterTunes$House", "tuneAsNumber", "()I"⟩,
  ⟨"HatterTunes$Rows", "at", "(II)I"⟩,
  ⟨"HatterTunes", "whenHeard", "(I)I"⟩,
  ⟨"HatterTunes$House", "copyFrom", "(LHatterTunes$House;)V"⟩,
  ⟨"HatterTunes$Rows", "copyFrom", "(LHatterTunes$Rows;)V"⟩,
  ⟨"HatterTunes$House", "goYear", "()V"⟩,
  ⟨"HatterTunes$House", "raiseBump", "(II)V"⟩,
  ⟨"HatterTunes", "leastPress", "(I)I"⟩,
  ⟨"HatterTunes", "wouldHear", "(II)Z"⟩,
  ⟨"HatterTunes", "ofBump", "(III)I"⟩,
  ⟨"HatterTunes", "possibleBumps", "(II)I"⟩,
  ⟨"HatterTunes$House", "bearsOutSeen", "(I)Z"⟩,
  ⟨"HatterTunes", "press", "(III)I"⟩,
  ⟨"HatterTunes", "note", "(I)I"⟩,
  ⟨"HatterTunes$Rows", "empty", "()I"⟩,
  ⟨"HatterTunes$Rows", "isFull", "()Z"⟩,
  ⟨"HatterTunes$Rows", "add", "(IIII)I"⟩,
  ⟨"HatterTunes", "row", "(III)I"⟩,
  ⟨"HatterTunes", "feed", "(I)I"⟩,
  ⟨"HatterTunes$Text", "isFull", "()Z"⟩,
  ⟨"HatterTunes$Text", "add", "(I)I"⟩,
  ⟨"HatterTunes", "shop", "()I"⟩,
  ⟨"HatterTunes$Text", "parseInto", "(LHatterTunes$Shop;)I"⟩,
  ⟨"HatterTunes$Shop", "clear", "()V"⟩,
  ⟨"HatterTunes$Text", "isClause", "()Z"⟩,
  ⟨"HatterTunes$Text", "peek", "()I"⟩,
  ⟨"HatterTunes$Text", "isWord", "(Ljava/lang/String;)Z"⟩,
  ⟨"java/lang/String", "length", "()I"⟩,
  ⟨"java/lang/String", "coder", "()B"⟩,
  ⟨"java/lang/String", "charAt", "(I)C"⟩,
  ⟨"java/lang/String", "isLatin1", "()Z"⟩,
  ⟨"java/lang/StringLatin1", "charAt", "([BI)C"⟩,
  ⟨"java/lang/String", "checkIndex", "(II)V"⟩,
  ⟨"jdk/internal/util/Preconditions", "checkIndex", "(IILjava/util/function/BiFunction;)I"⟩,
  ⟨"java/lang/StringUTF16", "charAt", "([BI)C"⟩,
  ⟨"java/lang/StringUTF16", "checkIndex", "(I[B)V"⟩,
  ⟨"java/lang/StringUTF16", "length", "([B)I"⟩,
  ⟨"java/lang/StringUTF16", "getChar", "([BI)C"⟩,
  ⟨"HatterTunes$Text", "take", "(I)Z"⟩,
  ⟨"HatterTunes$Text", "isBend", "(I)Z"⟩,
  ⟨"HatterTunes$Text", "isNumber", "()Z"⟩,
  ⟨"HatterTunes$Text", "isDigit", "(I)Z"⟩,
  ⟨"HatterTunes$Text", "isEither", "(I)Z"⟩,
  ⟨"HatterTunes$Text", "isBoth", "(I)Z"⟩,
  ⟨"HatterTunes$Text", "isFactor", "(I)Z"⟩,
  ⟨"HatterTunes$Shop", "addStep", "(III)V"⟩,
  ⟨"HatterTunes$Text", "isTest", "()Z"⟩,
  ⟨"HatterTunes$Text", "letterNumber", "(I)I"⟩,
  ⟨"HatterTunes$Text", "relationStep", "(I)I"⟩,
  ⟨"HatterTunes$Text", "isGrowth", "()Z"⟩,
  ⟨"HatterTunes", "told", "(I)I"⟩,
  ⟨"HatterTunes$House", "heardBits", "()I"⟩,
  ⟨"HatterTunes$House", "notesTogether", "()I"⟩,
  ⟨"HatterTunes", "pass", "(I)I"⟩,
  ⟨"HatterTunes$House", "goYears", "(I)V"⟩,
  ⟨"HatterTunes", "on", "(III)I"⟩,
  ⟨"HatterTunes", "shared", "(II)I"⟩,
  ⟨"HatterTunes", "sharedNotes", "(II)I"⟩,
  ⟨"HatterTunes", "anthem", "(II)I"⟩,
  ⟨"HatterTunes$Choir", "seek", "(LHatterTunes$House;I)V"⟩,
  ⟨"java/lang/Integer", "bitCount", "(I)I"⟩,
  ⟨"HatterTunes$Choir", "extend", "(III)V"⟩,
  ⟨"HatterTunes$Choir", "keepIfBetter", "(I)V"⟩,
  ⟨"HatterTunes$Choir", "length", "()I"⟩,
  ⟨"HatterTunes", "see", "(IIII)I"⟩,
  ⟨"HatterTunes", "can", "(II)I"⟩,
  ⟨"HatterTunes", "odds", "(II)J"⟩,
  ⟨"HatterTunes", "pressesHeard", "(I)I"⟩,
  ⟨"HatterTunes", "lowestTerm", "(III)J"⟩,
  ⟨"HatterTunes", "commonDivisor", "(II)I"⟩,
  ⟨"HatterTunes", "mean", "(II)J"⟩,
  ⟨"HatterTunes", "plan", "(II)I"⟩,
  ⟨"HatterTunes", "ends", "(I)I"⟩,
  ⟨"HatterTunes$House", "followPlan", "()V"⟩,
  ⟨"HatterTunes$House", "raiseAllBumps", "(I)V"⟩,
  ⟨"HatterTunes", "book", "(II)I"⟩,
  ⟨"HatterTunes", "looked", "()I"⟩,
  ⟨"HatterTunes", "judge", "(II)I"⟩,
  ⟨"HatterTunes$Tape", "holds", "()Z"⟩,
  ⟨"HatterTunes$Tape", "hasPlace", "(I)Z"⟩,
  ⟨"HatterTunes", "image", "()I"⟩,
  ⟨"HatterTunes", "undo", "()I"⟩,
  ⟨"HatterTunes", "act", "(III)I"⟩,
  ⟨"HatterTunes$Actor", "forget", "()V"⟩,
  ⟨"HatterTunes$Actor", "perform", "(IIIII)I"⟩,
  ⟨"HatterTunes$Actor", "does", "(IIII)I"⟩,
  ⟨"HatterTunes$Actor", "bodyFrom", "(II)I"⟩,
  ⟨"HatterTunes$Actor", "keepBody", "(I)V"⟩,
  ⟨"HatterTunes", "trace", "(I)I"⟩,
  ⟨"HatterTunes$Actor", "keptBodies", "()I"⟩,
  ⟨"HatterTunes", "taken", "(II)I"⟩,
  ⟨"HatterTunes", "isUnder", "(II)Z"⟩,
  ⟨"HatterTunes", "count", "(I)I"⟩,
  ⟨"HatterTunes", "tape", "(III)I"⟩,
  ⟨"HatterTunes$Tape", "drop", "()I"⟩,
  ⟨"HatterTunes$Tape", "become", "(II)I"⟩,
  ⟨"HatterTunes", "item", "(IIJ)I"⟩,
  ⟨"HatterTunes$Tape", "set", "(IJ)I"⟩,
  ⟨"HatterTunes$Tape", "cut", "(J)J"⟩,
  ⟨"HatterTunes", "read", "(II)J"⟩,
  ⟨"HatterTunes", "shift", "(IIIII)I"⟩,
  ⟨"HatterTunes$Tape", "hasStretch", "(II)Z"⟩,
  ⟨"HatterTunesModel", "<init>", "()V"⟩,
  ⟨"HatterTunesModel", "head", "(II)I"⟩,
  ⟨"HatterTunesModel", "within", "(III)Z"⟩,
  ⟨"HatterTunesModel", "of", "(II)I"⟩,
  ⟨"HatterTunesModel", "isOne", "(I)Z"⟩,
  ⟨"HatterTunesModel", "isBump", "(I)Z"⟩,
  ⟨"HatterTunesModel", "noteOf", "(II)I"⟩,
  ⟨"HatterTunesModel", "pitch", "(II)I"⟩,
  ⟨"HatterTunesModel", "sum", "(II)I"⟩,
  ⟨"HatterTunesModel", "isTrue", "(III)Z"⟩,
  ⟨"HatterTunesModel", "letterOf", "(III)I"⟩,
  ⟨"HatterTunesModel", "bumpsOf", "(II)I"⟩,
  ⟨"HatterTunesModel", "isSeen", "(I)Z"⟩,
  ⟨"HatterTunesModel", "on", "(III)I"⟩,
  ⟨"HatterTunesModel", "keep", "([I)V"⟩,
  ⟨"HatterTunesModel", "goesYear", "()V"⟩,
  ⟨"HatterTunesModel", "growBy", "()I"⟩,
  ⟨"HatterTunesModel", "soundOf", "(I)I"⟩,
  ⟨"HatterTunesModel", "again", "([I)V"⟩,
  ⟨"HatterTunesModel", "heard", "(I)I"⟩,
  ⟨"HatterTunesModel", "sounds", "(I[I)V"⟩,
  ⟨"HatterTunesModel", "when", "(I)I"⟩,
  ⟨"HatterTunesModel", "presses", "(I)I"⟩,
  ⟨"HatterTunesModel", "press", "(III)I"⟩,
  ⟨"HatterTunesModel", "isNote", "(I)Z"⟩,
  ⟨"HatterTunesModel", "note", "(I)I"⟩,
  ⟨"HatterTunesModel", "row", "(III)I"⟩,
  ⟨"HatterTunesModel", "feed", "(I)I"⟩,
  ⟨"HatterTunesModel", "shop", "()I"⟩,
  ⟨"HatterTunesModel", "isClause", "(I)Z"⟩,
  ⟨"HatterTunesModel", "isAll", "(Ljava/lang/String;)Z"⟩,
  ⟨"HatterTunesModel", "is", "(I)Z"⟩,
  ⟨"HatterTunesModel", "isNumber", "()Z"⟩,
  ⟨"HatterTunesModel", "isDigit", "()Z"⟩,
  ⟨"HatterTunesModel", "isE", "()Z"⟩,
  ⟨"HatterTunesModel", "isT", "()Z"⟩,
  ⟨"HatterTunesModel", "isF", "()Z"⟩,
  ⟨"HatterTunesModel", "isOpened", "(I)Z"⟩,
  ⟨"HatterTunesModel", "codes", "(I)Z"⟩,
  ⟨"HatterTunesModel", "isTest", "()Z"⟩,
  ⟨"java/lang/String", "indexOf", "(I)I"⟩,
  ⟨"java/lang/String", "indexOf", "(II)I"⟩,
  ⟨"java/lang/StringLatin1", "indexOf", "([BIII)I"⟩,
  ⟨"java/lang/StringLatin1", "canEncode", "(I)Z"⟩,
  ⟨"java/lang/Math", "max", "(II)I"⟩,
  ⟨"java/lang/StringLatin1", "indexOfChar", "([BIII)I"⟩,
  ⟨"java/lang/StringUTF16", "indexOf", "([BIII)I"⟩,
  ⟨"java/lang/StringUTF16", "indexOfChar", "([BIII)I"⟩,
  ⟨"java/lang/StringUTF16", "checkBoundsBeginEnd", "(II[B)V"⟩,
  ⟨"java/lang/String", "checkBoundsBeginEnd", "(III)V"⟩,
  ⟨"jdk/internal/util/Preconditions", "checkFromToIndex", "(IIILjava/util/function/BiFunction;)I"⟩,
  ⟨"java/lang/StringUTF16", "indexOfCharUnsafe", "([BIII)I"⟩,
  ⟨"java/lang/StringUTF16", "indexOfSupplementary", "([BIII)I"⟩,
  ⟨"java/lang/Character", "isValidCodePoint", "(I)Z"⟩,
  ⟨"java/lang/Character", "highSurrogate", "(I)C"⟩,
  ⟨"java/lang/Character", "lowSurrogate", "(I)C"⟩,
  ⟨"HatterTunesModel", "told", "(I)I"⟩,
  ⟨"HatterTunesModel", "allHeard", "()I"⟩,
  ⟨"HatterTunesModel", "allNotes", "()I"⟩,
  ⟨"HatterTunesModel", "pass", "(I)I"⟩,
  ⟨"HatterTunesModel", "shared", "(II)I"⟩,
  ⟨"HatterTunesModel", "share", "(II)I"⟩,
  ⟨"HatterTunesModel", "anthem", "(II)I"⟩,
  ⟨"HatterTunesModel", "rowsFrom", "(III)V"⟩,
  ⟨"HatterTunesModel", "see", "(IIII)I"⟩,
  ⟨"HatterTunesModel", "can", "(II)I"⟩,
  ⟨"HatterTunesModel", "odds", "(II)J"⟩,
  ⟨"HatterTunesModel", "part", "(JJI)J"⟩,
  ⟨"java/lang/Math", "abs", "(J)J"⟩,
  ⟨"HatterTunesModel", "mean", "(II)J"⟩,
  ⟨"HatterTunesModel", "plan", "(II)I"⟩,
  ⟨"HatterTunesModel", "ends", "(I)I"⟩,
  ⟨"HatterTunesModel", "book", "(II)I"⟩,
  ⟨"HatterTunesModel", "looked", "()I"⟩,
  ⟨"HatterTunesModel", "judge", "(II)I"⟩,
  ⟨"HatterTunesModel", "image", "()I"⟩,
  ⟨"HatterTunesModel", "undo", "()I"⟩,
  ⟨"HatterTunesModel", "act", "(III)I"⟩,
  ⟨"HatterTunesModel", "hums", "(III)I"⟩,
  ⟨"HatterTunesModel", "ran", "(I)V"⟩,
  ⟨"HatterTunesModel", "above", "(I)I"⟩,
  ⟨"HatterTunesModel", "plays", "(III)I"⟩,
  ⟨"HatterTunesModel", "tells", "(III)I"⟩,
  ⟨"HatterTunesModel", "trace", "(I)I"⟩,
  ⟨"HatterTunesModel", "taken", "(II)I"⟩,
  ⟨"HatterTunesModel", "count", "(I)I"⟩,
  ⟨"HatterTunesModel", "tape", "(III)I"⟩,
  ⟨"HatterTunesModel", "isTape", "(I)Z"⟩,
  ⟨"HatterTunesModel", "item", "(IIJ)I"⟩,
  ⟨"HatterTunesModel", "kept", "(IJ)J"⟩,
  ⟨"HatterTunesModel", "read", "(II)J"⟩,
  ⟨"HatterTunesModel", "shift", "(IIIII)I"⟩]
def zmn (z : Nat) : MethodName := zmnT.getD z ⟨"", "", ""⟩
def zbT : List ByteArray := [prog_1_method_1_code, object_method_1_code, prog_4_method_1_code, prog_5_method_1_code, prog_6_method_1_code, prog_8_method_1_code, prog_2_method_1_code, prog_3_method_1_code, prog_7_method_1_code, prog_1_method_2_code, prog_1_method_43_code, prog_4_method_3_code, prog_4_method_6_code, prog_4_method_5_code, prog_1_method_3_code, prog_1_method_42_code, prog_4_method_14_code, prog_4_method_13_code, prog_4_method_11_code, prog_4_method_12_code, prog_4_method_4_code, prog_6_method_4_code, prog_13_method_69_code, prog_13_method_50_code, prog_4_method_15_code, prog_4_method_16_code, prog_5_method_5_code, prog_1_method_5_code, prog_4_method_2_code, prog_5_method_6_code, prog_4_method_10_code, prog_4_method_7_code, prog_1_method_6_code, prog_1_method_7_code, prog_1_method_4_code, prog_1_method_8_code, prog_4_method_19_code, prog_1_method_9_code, prog_1_method_10_code, prog_5_method_4_code, prog_5_method_2_code, prog_5_method_3_code, prog_1_method_11_code, prog_1_method_12_code, prog_8_method_2_code, prog_8_method_3_code, prog_1_method_13_code, prog_8_method_4_code, prog_6_method_2_code, prog_8_method_5_code, prog_8_method_18_code, prog_8_method_16_code, prog_14_method_54_code, prog_14_method_152_code, prog_14_method_56_code, prog_14_method_154_code, prog_15_method_2_code, prog_14_method_155_code, prog_18_method_11_code, prog_16_method_83_code, prog_16_method_91_code, prog_16_method_6_code, prog_16_method_5_code, prog_8_method_17_code, prog_8_method_6_code, prog_8_method_14_code, prog_8_method_15_code, prog_8_method_8_code, prog_8_method_9_code, prog_8_method_10_code, prog_6_method_3_code, prog_8_method_11_code, prog_8_method_12_code, prog_8_method_13_code, prog_8_method_7_code, prog_1_method_14_code, prog_4_method_17_code, prog_4_method_18_code, prog_1_method_15_code, prog_4_method_9_code, prog_1_method_16_code, prog_1_method_17_code, prog_1_method_19_code, prog_1_method_18_code, prog_3_method_2_code, prog_12_method_49_code, prog_3_method_4_code, prog_3_method_5_code, prog_3_method_3_code, prog_1_method_20_code, prog_1_method_21_code, prog_1_method_22_code, prog_1_method_23_code, prog_1_method_25_code, prog_1_method_26_code, prog_1_method_24_code, prog_1_method_27_code, prog_1_method_28_code, prog_4_method_20_code, prog_4_method_8_code, prog_1_method_29_code, prog_1_method_30_code, prog_1_method_31_code, prog_7_method_2_code, prog_7_method_3_code, prog_1_method_32_code, prog_1_method_33_code, prog_1_method_34_code, prog_2_method_2_code, prog_2_method_4_code, prog_2_method_5_code, prog_2_method_6_code, prog_2_method_7_code, prog_1_method_35_code, prog_2_method_3_code, prog_1_method_36_code, prog_1_method_44_code, prog_1_method_37_code, prog_1_method_38_code, prog_7_method_5_code, prog_7_method_6_code, prog_1_method_39_code, prog_7_method_7_code, prog_7_method_8_code, prog_1_method_40_code, prog_1_method_41_code, prog_7_method_4_code, prog_10_method_1_code, prog_10_method_6_code, prog_10_method_2_code, prog_10_method_7_code, prog_10_method_3_code, prog_10_method_4_code, prog_10_method_29_code, prog_10_method_28_code, prog_10_method_26_code, prog_10_method_25_code, prog_10_method_24_code, prog_10_method_47_code, prog_10_method_46_code, prog_10_method_38_code, prog_10_method_57_code, prog_10_method_35_code, prog_10_method_27_code, prog_10_method_31_code, prog_10_method_58_code, prog_10_method_32_code, prog_10_method_30_code, prog_10_method_39_code, prog_10_method_44_code, prog_10_method_8_code, prog_10_method_5_code, prog_10_method_9_code, prog_10_method_10_code, prog_10_method_11_code, prog_10_method_23_code, prog_10_method_22_code, prog_10_method_15_code, prog_10_method_12_code, prog_10_method_14_code, prog_10_method_13_code, prog_10_method_21_code, prog_10_method_20_code, prog_10_method_19_code, prog_10_method_18_code, prog_10_method_16_code, prog_10_method_17_code, prog_14_method_79_code, prog_14_method_80_code, prog_15_method_22_code, prog_15_method_4_code, prog_13_method_65_code, prog_15_method_23_code, prog_16_method_40_code, prog_16_method_47_code, prog_16_method_93_code, prog_14_method_158_code, prog_18_method_12_code, prog_16_method_48_code, prog_16_method_49_code, prog_11_method_11_code, prog_11_method_28_code, prog_11_method_29_code, prog_10_method_36_code, prog_10_method_33_code, prog_10_method_34_code, prog_10_method_37_code, prog_10_method_41_code, prog_10_method_40_code, prog_10_method_43_code, prog_10_method_42_code, prog_10_method_45_code, prog_10_method_48_code, prog_10_method_50_code, prog_10_method_49_code, prog_13_method_61_code, prog_10_method_51_code, prog_10_method_52_code, prog_10_method_53_code, prog_10_method_54_code, prog_10_method_55_code, prog_10_method_56_code, prog_10_method_59_code, prog_10_method_60_code, prog_10_method_66_code, prog_10_method_63_code, prog_10_method_61_code, prog_10_method_62_code, prog_10_method_64_code, prog_10_method_65_code, prog_10_method_67_code, prog_10_method_68_code, prog_10_method_69_code, prog_10_method_71_code, prog_10_method_70_code, prog_10_method_73_code, prog_10_method_72_code, prog_10_method_74_code, prog_10_method_75_code]
def zb (z : Nat) : ByteArray := zbT.getD z ByteArray.empty
def zmlT : List Nat := [2, 1, 1, 2, 1, 1, 1, 1, 1, 3, 2, 5, 4, 4, 3, 2, 4, 3, 6, 3, 3, 7, 2, 3, 7, 3, 3, 3, 2, 2, 3, 3, 3, 5, 4, 5, 5, 5, 2, 1, 1, 6, 6, 2, 1, 2, 3, 4, 1, 1, 1, 3, 1, 1, 2, 1, 2, 2, 3, 2, 2, 1, 2, 2, 3, 1, 1, 3, 3, 3, 4, 3, 1, 1, 1, 2, 3, 4, 2, 3, 5, 3, 3, 3, 5, 1, 6, 2, 1, 5, 6, 3, 4, 5, 6, 3, 3, 2, 3, 3, 3, 3, 7, 1, 2, 1, 1, 4, 1, 6, 7, 5, 2, 2, 1, 4, 4, 2, 4, 1, 4, 5, 4, 3, 3, 8, 3, 2, 4, 3, 3, 2, 1, 4, 5, 6, 10, 4, 6, 3, 5, 3, 4, 3, 4, 3, 5, 4, 4, 6, 5, 1, 2, 5, 2, 5, 4, 3, 2, 1, 1, 1, 1, 2, 2, 2, 3, 2, 3, 4, 1, 2, 6, 4, 4, 3, 3, 4, 5, 7, 2, 1, 1, 2, 3, 4, 4, 3, 6, 3, 5, 5, 7, 7, 11, 2, 4, 3, 5, 3, 2, 4, 1, 1, 5, 4, 2, 1, 5, 5, 2, 4, 2, 5, 1, 5, 3, 3, 7]
def zml (z : Nat) : Nat := zmlT.getD z 0
def zoT : List Nat := [107, 117, 102, 103, 104, 106, 100, 101, 105, 7, 7, 2, 2, 2, 7, 7, 2, 2, 2, 2, 2, 4, 13, 13, 2, 2, 3, 7, 2, 3, 2, 2, 7, 7, 7, 7, 2, 7, 7, 3, 3, 3, 7, 7, 6, 6, 7, 6, 4, 6, 6, 6, 10, 10, 10, 10, 11, 10, 14, 15, 15, 15, 15, 6, 6, 6, 6, 6, 6, 6, 4, 6, 6, 6, 6, 7, 2, 2, 7, 2, 7, 7, 7, 7, 1, 12, 1, 1, 1, 7, 7, 7, 7, 7, 7, 7, 7, 7, 2, 2, 7, 7, 7, 5, 5, 7, 7, 7, 0, 0, 0, 0, 0, 7, 0, 7, 7, 7, 7, 5, 5, 7, 5, 5, 7, 7, 5, 108, 8, 8, 8, 8, 8, 8, 8, 8, 8, 8, 8, 8, 8, 8, 8, 8, 8, 8, 8, 8, 8, 8, 8, 8, 8, 8, 8, 8, 8, 8, 8, 8, 8, 8, 8, 8, 8, 8, 8, 10, 10, 11, 11, 13, 11, 15, 15, 15, 10, 14, 15, 15, 16, 16, 16, 8, 8, 8, 8, 8, 8, 8, 8, 8, 8, 8, 8, 13, 8, 8, 8, 8, 8, 8, 8, 8, 8, 8, 8, 8, 8, 8, 8, 8, 8, 8, 8, 8, 8, 8, 8]
def zo (z : Nat) : Nat := zoT.getD z 0
def znaT : List Nat := [0, 0, 0, 1, 0, 0, 0, 0, 0, 2, 2, 2, 2, 3, 2, 1, 1, 2, 2, 2, 2, 1, 2, 2, 1, 0, 2, 1, 1, 1, 0, 2, 1, 2, 3, 2, 1, 3, 1, 0, 0, 4, 3, 1, 0, 1, 0, 1, 0, 0, 0, 1, 0, 0, 1, 0, 2, 2, 3, 2, 2, 1, 2, 1, 1, 0, 1, 1, 1, 1, 3, 0, 1, 1, 0, 1, 0, 0, 1, 1, 3, 2, 2, 2, 2, 1, 3, 1, 0, 4, 2, 2, 1, 3, 2, 2, 2, 1, 0, 1, 2, 0, 2, 0, 1, 0, 0, 3, 0, 5, 4, 2, 1, 1, 0, 2, 2, 1, 3, 0, 2, 3, 2, 1, 2, 5, 2, 0, 2, 3, 2, 1, 1, 2, 2, 2, 3, 3, 2, 1, 3, 1, 0, 0, 1, 1, 1, 2, 1, 1, 3, 1, 1, 3, 1, 0, 1, 1, 1, 0, 0, 0, 0, 0, 1, 1, 0, 1, 2, 4, 1, 2, 4, 4, 4, 3, 3, 4, 4, 4, 1, 1, 1, 1, 0, 0, 1, 2, 2, 2, 3, 4, 2, 2, 3, 1, 2, 2, 1, 2, 0, 2, 0, 0, 3, 3, 1, 1, 3, 3, 1, 2, 1, 3, 1, 3, 2, 2, 5]
def zna (z : Nat) : Nat := znaT.getD z 0
def zrtT : List Nat := [0, 0, 0, 0, 0, 0, 0, 0, 0, 1, 2, 1, 0, 0, 1, 2, 1, 1, 1, 0, 1, 1, 1, 1, 1, 1, 1, 1, 0, 0, 0, 0, 1, 2, 1, 1, 2, 1, 1, 1, 2, 1, 1, 1, 2, 1, 1, 1, 0, 2, 1, 2, 1, 5, 3, 2, 3, 0, 1, 3, 0, 1, 3, 2, 2, 2, 2, 2, 2, 2, 0, 2, 1, 1, 2, 1, 1, 1, 1, 0, 1, 1, 1, 1, 0, 1, 0, 0, 1, 1, 1, 4, 1, 4, 1, 4, 1, 1, 0, 0, 1, 1, 1, 2, 2, 1, 1, 1, 0, 1, 1, 1, 0, 1, 1, 1, 2, 1, 1, 1, 1, 1, 1, 4, 4, 1, 2, 0, 1, 2, 1, 2, 2, 1, 1, 1, 2, 1, 1, 2, 1, 0, 0, 1, 1, 0, 1, 0, 1, 1, 1, 2, 1, 1, 1, 1, 2, 2, 2, 2, 2, 2, 2, 2, 2, 2, 2, 1, 1, 1, 2, 1, 1, 1, 1, 0, 0, 1, 1, 1, 2, 3, 3, 1, 1, 1, 1, 1, 1, 1, 0, 1, 1, 4, 4, 4, 4, 1, 1, 1, 1, 1, 1, 1, 1, 1, 0, 1, 1, 1, 1, 1, 1, 1, 2, 1, 4, 4, 1]
def zrt (z : Nat) : Nat := zrtT.getD z 0
def zrcT : List (Nat × Nat) := [(17, 10), (0, 0), (12, 13), (13, 2), (14, 5), (16, 5), (10, 5), (11, 6), (15, 3), (17, 10), (0, 0), (12, 13), (12, 13), (12, 13), (17, 10), (17, 10), (12, 13), (12, 13), (12, 13), (12, 13), (12, 13), (14, 5), (0, 0), (0, 0), (12, 13), (12, 13), (13, 2), (17, 10), (12, 13), (13, 2), (12, 13), (12, 13), (17, 10), (17, 10), (17, 10), (17, 10), (12, 13), (17, 10), (17, 10), (13, 2), (13, 2), (13, 2), (17, 10), (17, 10), (16, 5), (16, 5), (17, 10), (16, 5), (14, 5), (16, 5), (16, 5), (16, 5), (20, 2), (20, 2), (20, 2), (20, 2), (0, 0), (0, 0), (0, 0), (0, 0), (0, 0), (0, 0), (0, 0), (16, 5), (16, 5), (16, 5), (0, 0), (16, 5), (16, 5), (16, 5), (14, 5), (16, 5), (0, 0), (0, 0), (16, 5), (17, 10), (12, 13), (12, 13), (17, 10), (12, 13), (17, 10), (17, 10), (0, 0), (17, 10), (11, 6), (0, 0), (11, 6), (11, 6), (11, 6), (17, 10), (17, 10), (17, 10), (17, 10), (0, 0), (0, 0), (17, 10), (17, 10), (17, 10), (12, 13), (12, 13), (17, 10), (17, 10), (17, 10), (15, 3), (15, 3), (17, 10), (17, 10), (17, 10), (10, 5), (10, 5), (10, 5), (0, 0), (10, 5), (17, 10), (10, 5), (17, 10), (0, 0), (17, 10), (17, 10), (15, 3), (15, 3), (17, 10), (15, 3), (15, 3), (17, 10), (17, 10), (15, 3), (18, 49), (18, 49), (0, 0), (18, 49), (18, 49), (0, 0), (18, 49), (18, 49), (18, 49), (18, 49), (18, 49), (18, 49), (18, 49), (18, 49), (18, 49), (18, 49), (18, 49), (18, 49), (18, 49), (18, 49), (18, 49), (18, 49), (18, 49), (18, 49), (0, 0), (18, 49), (18, 49), (18, 49), (18, 49), (18, 49), (18, 49), (18, 49), (18, 49), (18, 49), (18, 49), (18, 49), (18, 49), (18, 49), (18, 49), (18, 49), (20, 2), (20, 2), (0, 0), (0, 0), (0, 0), (0, 0), (0, 0), (0, 0), (0, 0), (0, 0), (0, 0), (0, 0), (0, 0), (0, 0), (0, 0), (0, 0), (18, 49), (18, 49), (18, 49), (18, 49), (18, 49), (18, 49), (18, 49), (18, 49), (18, 49), (18, 49), (18, 49), (0, 0), (0, 0), (18, 49), (18, 49), (18, 49), (18, 49), (18, 49), (18, 49), (18, 49), (18, 49), (18, 49), (18, 49), (18, 49), (0, 0), (18, 49), (18, 49), (18, 49), (18, 49), (18, 49), (18, 49), (0, 0), (18, 49), (0, 0), (18, 49), (18, 49)]
def zrc (z : Nat) : Nat × Nat := zrcT.getD z (0, 0)
def zretT : Nat → Option FieldType := fun t => match t with | 0 => none | 1 => some .int | 2 => some .boolean | 3 => some .char | 4 => some .long | _ => some .byte
def zmthT : List (List (Nat × Nat × Nat × Nat)) := [[(3, 9, 1, 221), (34, 0, 110, 745), (38, 2, 111, 749), (48, 5, 10, 752), (41, 0, 112, 757), (19, 11, 22, 769)], [(3, 9, 1, 245), (24, 2, 85, 639), (40, 0, 16, 645), (43, 5, 82, 646), (47, 0, 86, 647), (51, 0, 87, 651), (55, 10, 0, 655)], [(3, 9, 1, 95), (32, 1, 3, 98), (50, 4, 4, 114), (72, 0, 12, 329), (76, 0, 13, 333), (111, 0, 17, 349), (105, 0, 18, 353), (98, 0, 19, 357), (80, 0, 20, 361), (101, 0, 21, 365), (93, 11, 22, 369), (108, 14, 23, 372), (115, 0, 25, 379), (126, 0, 26, 383), (119, 0, 16, 387), (55, 10, 0, 398), (61, 0, 29, 401), (84, 0, 31, 411), (87, 0, 30, 439), (129, 0, 24, 605), (132, 0, 99, 699)], [(1, 9, 1, 101), (17, 11, 22, 405), (23, 10, 0, 406)], [(3, 9, 1, 117)], [(3, 9, 1, 272), (22, 5, 10, 723), (26, 0, 123, 802)], [(3, 9, 1, 194), (19, 0, 48, 484), (31, 0, 49, 488), (39, 0, 50, 492), (45, 0, 51, 497), (94, 0, 52, 501), (98, 0, 54, 511), (35, 0, 63, 549), (49, 0, 64, 553), (59, 0, 65, 557), (91, 2, 66, 561), (65, 0, 67, 564), (75, 0, 68, 568), (78, 0, 69, 572), (68, 0, 70, 576), (81, 0, 71, 580), (84, 2, 72, 584), (88, 2, 73, 587), (56, 0, 74, 592)], [(5, 9, 1, 87), (13, 4, 2, 92), (26, 4, 5, 191), (45, 4, 6, 218), (52, 4, 7, 242), (57, 4, 4, 267), (58, 4, 8, 269), (59, 2, 10, 322), (67, 0, 11, 325), (71, 0, 15, 341), (85, 0, 16, 345), (89, 0, 24, 375), (92, 0, 27, 390), (114, 0, 28, 394), (118, 0, 30, 407), (95, 0, 32, 415), (121, 0, 33, 419), (124, 0, 13, 423), (102, 0, 20, 424), (98, 0, 34, 425), (105, 0, 17, 429), (108, 0, 18, 430), (111, 0, 35, 431), (128, 0, 36, 435), (135, 0, 39, 448), (141, 0, 40, 452), (145, 0, 41, 456), (152, 0, 44, 468), (153, 0, 45, 472), (158, 0, 47, 480), (172, 0, 76, 601), (175, 0, 77, 606), (179, 0, 26, 610), (182, 0, 79, 615), (186, 2, 82, 627), (189, 0, 84, 635), (193, 0, 88, 656), (208, 0, 92, 673), (211, 2, 93, 677), (215, 2, 94, 680), (221, 0, 98, 695), (227, 0, 103, 715), (233, 0, 104, 719), (238, 11, 22, 724), (251, 0, 108, 737), (254, 0, 109, 741), (258, 0, 114, 765), (264, 2, 116, 774), (271, 0, 119, 786), (274, 0, 120, 790), (277, 0, 122, 798), (281, 0, 126, 814), (284, 10, 0, 818)], [(3, 9, 1, 824), (117, 2, 129, 978), (121, 0, 131, 985), (125, 2, 132, 989), (128, 0, 133, 992), (132, 0, 134, 996), (245, 0, 135, 1000), (242, 0, 136, 1004), (238, 0, 137, 1008), (248, 11, 22, 1012), (135, 0, 138, 1013), (292, 0, 139, 1017), (289, 0, 140, 1021), (269, 0, 141, 1025), (266, 0, 142, 1029), (257, 0, 143, 1033), (138, 0, 144, 1037), (273, 0, 145, 1041), (142, 0, 146, 1045), (253, 0, 147, 1049), (145, 0, 148, 1053), (148, 0, 149, 1057), (151, 2, 151, 1065), (232, 0, 156, 1084), (221, 0, 157, 1089), (173, 0, 52, 1093), (178, 0, 54, 1094), (182, 0, 158, 1095), (195, 0, 159, 1101), (169, 0, 160, 1105), (210, 0, 161, 1109), (216, 0, 162, 1113), (207, 0, 163, 1117), (204, 0, 164, 1121), (198, 0, 165, 1125), (213, 0, 166, 1129), (190, 0, 167, 1134), (260, 0, 184, 1196), (263, 0, 185, 1200), (276, 0, 188, 1213), (282, 0, 190, 1221), (303, 2, 194, 1239), (295, 13, 195, 1242), (324, 0, 205, 1281), (320, 0, 206, 1285), (327, 2, 207, 1289), (330, 0, 208, 1292), (333, 0, 209, 1296), (336, 2, 214, 1316), (339, 2, 216, 1323)], [(9, 1, 0, 84), (13, 0, 9, 318), (18, 0, 14, 337), (22, 0, 37, 440), (27, 0, 38, 444), (32, 0, 42, 460), (36, 0, 43, 464), (40, 0, 46, 476), (45, 0, 75, 597), (49, 0, 78, 611), (53, 0, 80, 619), (57, 0, 81, 623), (61, 0, 83, 631), (65, 0, 89, 660), (70, 0, 90, 664), (74, 0, 91, 668), (79, 0, 95, 683), (83, 0, 96, 687), (87, 0, 97, 691), (91, 0, 100, 703), (95, 0, 101, 707), (99, 0, 102, 711), (103, 0, 105, 725), (107, 0, 106, 729), (111, 0, 107, 733), (115, 0, 113, 761), (119, 0, 115, 770), (123, 0, 117, 778), (127, 0, 118, 782), (133, 0, 121, 794), (138, 0, 124, 806), (142, 0, 125, 810), (12, 1, 127, 821), (17, 0, 128, 974), (21, 0, 130, 981), (26, 0, 150, 1061), (31, 0, 152, 1068), (35, 0, 153, 1072), (39, 0, 154, 1076), (44, 0, 155, 1080), (48, 0, 183, 1192), (52, 0, 186, 1204), (56, 0, 140, 1208), (60, 0, 187, 1209), (64, 0, 189, 1217), (69, 0, 191, 1225), (73, 0, 192, 1229), (78, 0, 193, 1233), (82, 0, 196, 1245), (86, 0, 197, 1249), (90, 0, 198, 1253), (94, 0, 199, 1257), (98, 0, 200, 1261), (102, 0, 201, 1265), (106, 0, 202, 1269), (110, 0, 203, 1273), (114, 0, 204, 1277), (118, 0, 210, 1300), (122, 0, 211, 1304), (126, 0, 212, 1308), (130, 0, 213, 1312), (137, 0, 215, 1319), (141, 0, 217, 1326), (146, 0, 218, 1330)], [(335, 0, 53, 505), (492, 0, 55, 515), (495, 2, 56, 519), (1059, 2, 58, 527), (498, 2, 59, 530), (633, 0, 168, 1138), (505, 0, 52, 1142), (637, 2, 169, 1143), (640, 2, 173, 1156), (1062, 2, 177, 1171)], [(9, 2, 57, 522), (88, 2, 170, 1146), (92, 12, 171, 1149), (38, 11, 22, 1152), (95, 2, 172, 1153)], [], [], [], [(67, 2, 60, 533), (48, 2, 61, 536), (414, 2, 57, 539), (71, 2, 62, 540), (224, 12, 171, 1159), (183, 11, 22, 1160), (228, 2, 174, 1162), (96, 2, 175, 1165), (241, 2, 176, 1168), (244, 2, 178, 1174), (232, 2, 179, 1177), (164, 2, 180, 1180), (157, 2, 181, 1183), (161, 2, 182, 1187)], [], [], []]
def zmth (o i : Nat) : Option (Nat × Nat) := ((zmthT.getD (o % 100) []).find? (fun e => e.1 == i)).map (fun e => (e.2.1, e.2.2.1))
def zplT : List (Nat × Nat × Nat × Nat) := [(86, 85, 0, 65), (89, 88, 0, 0), (94, 93, 0, 66), (100, 99, 0, 67), (116, 115, 0, 68), (193, 192, 0, 69), (220, 219, 0, 70), (244, 243, 0, 71), (271, 270, 0, 72), (321, 319, 320, 65), (324, 323, 0, 65), (328, 326, 327, 66), (332, 331, 0, 66), (336, 334, 335, 66), (340, 338, 339, 65), (344, 343, 1, 65), (348, 346, 347, 66), (352, 350, 351, 66), (356, 354, 355, 66), (360, 359, 2, 66), (364, 362, 363, 66), (368, 366, 367, 68), (371, 370, 0, 74), (374, 373, 0, 74), (378, 376, 377, 66), (382, 381, 3, 66), (386, 384, 385, 67), (393, 392, 4, 65), (397, 395, 396, 66), (404, 402, 403, 67), (410, 408, 409, 66), (414, 413, 5, 66), (418, 417, 6, 65), (422, 421, 7, 65), (428, 427, 8, 65), (434, 433, 9, 65), (438, 436, 437, 66), (443, 441, 442, 65), (447, 445, 446, 65), (451, 449, 450, 67), (455, 453, 454, 67), (459, 457, 458, 67), (463, 461, 462, 65), (467, 465, 466, 65), (471, 469, 470, 69), (475, 473, 474, 69), (479, 477, 478, 65), (483, 481, 482, 69), (487, 485, 486, 68), (491, 490, 10, 69), (495, 494, 11, 69), (500, 499, 12, 69), (504, 502, 503, 76), (508, 506, 507, 76), (514, 512, 513, 76), (518, 516, 517, 76), (521, 520, 0, 77), (524, 523, 0, 76), (529, 528, 0, 78), (532, 531, 0, 79), (535, 534, 0, 79), (538, 537, 0, 79), (542, 541, 0, 79), (552, 551, 13, 69), (556, 555, 14, 69), (560, 559, 15, 69), (563, 562, 0, 69), (567, 566, 16, 69), (571, 570, 17, 69), (575, 574, 18, 69), (579, 577, 578, 68), (583, 582, 19, 69), (586, 585, 0, 69), (589, 588, 0, 69), (595, 594, 20, 69), (600, 598, 599, 65), (604, 602, 603, 66), (609, 607, 608, 66), (614, 612, 613, 65), (618, 616, 617, 66), (622, 620, 621, 65), (626, 624, 625, 65), (629, 628, 0, 65), (634, 632, 633, 65), (638, 636, 637, 71), (641, 640, 0, 81), (650, 649, 21, 71), (654, 653, 22, 71), (659, 657, 658, 71), (663, 661, 662, 65), (667, 665, 666, 65), (671, 669, 670, 65), (676, 675, 23, 65), (679, 678, 0, 65), (682, 681, 0, 65), (686, 684, 685, 65), (690, 688, 689, 65), (694, 692, 693, 65), (698, 696, 697, 66), (702, 701, 24, 66), (706, 704, 705, 65), (710, 708, 709, 65), (714, 712, 713, 65), (718, 716, 717, 72), (722, 720, 721, 72), (728, 726, 727, 65), (732, 730, 731, 65), (736, 734, 735, 65), (740, 738, 739, 70), (744, 742, 743, 70), (748, 747, 25, 70), (751, 750, 0, 70), (760, 759, 26, 70), (764, 762, 763, 65), (768, 766, 767, 70), (773, 771, 772, 65), (776, 775, 0, 65), (781, 779, 780, 65), (785, 783, 784, 65), (789, 787, 788, 72), (793, 791, 792, 72), (797, 795, 796, 65), (801, 799, 800, 72), (805, 804, 27, 72), (809, 807, 808, 65), (813, 811, 812, 65), (817, 815, 816, 72), (823, 822, 0, 73), (977, 975, 976, 73), (980, 979, 0, 73), (984, 982, 983, 73), (988, 987, 28, 73), (991, 990, 0, 73), (995, 994, 29, 73), (999, 998, 30, 73), (1003, 1002, 31, 73), (1007, 1006, 32, 73), (1011, 1010, 33, 73), (1016, 1015, 34, 73), (1020, 1019, 35, 73), (1024, 1022, 1023, 73), (1028, 1027, 36, 73), (1032, 1031, 37, 73), (1036, 1035, 38, 73), (1040, 1039, 39, 73), (1044, 1043, 40, 73), (1048, 1047, 41, 73), (1052, 1051, 42, 73), (1056, 1055, 43, 73), (1060, 1059, 44, 73), (1064, 1062, 1063, 73), (1067, 1066, 0, 73), (1071, 1069, 1070, 73), (1075, 1073, 1074, 73), (1079, 1077, 1078, 73), (1083, 1081, 1082, 73), (1087, 1086, 45, 73), (1092, 1091, 46, 73), (1098, 1097, 47, 73), (1104, 1103, 48, 73), (1108, 1107, 49, 73), (1112, 1111, 50, 73), (1116, 1115, 51, 73), (1120, 1119, 52, 73), (1124, 1123, 53, 73), (1128, 1127, 54, 73), (1132, 1131, 55, 73), (1137, 1135, 1136, 76), (1141, 1139, 1140, 76), (1145, 1144, 0, 77), (1148, 1147, 0, 77), (1151, 1150, 0, 74), (1155, 1154, 0, 77), (1158, 1157, 0, 79), (1164, 1163, 0, 79), (1167, 1166, 0, 79), (1170, 1169, 0, 76), (1173, 1172, 0, 78), (1176, 1175, 0, 79), (1179, 1178, 0, 79), (1182, 1181, 0, 80), (1185, 1184, 0, 80), (1189, 1188, 0, 80), (1195, 1193, 1194, 73), (1199, 1198, 56, 73), (1203, 1202, 57, 73), (1207, 1205, 1206, 73), (1212, 1210, 1211, 73), (1216, 1215, 58, 73), (1220, 1218, 1219, 73), (1224, 1223, 59, 73), (1228, 1226, 1227, 73), (1232, 1230, 1231, 73), (1236, 1234, 1235, 73), (1241, 1240, 0, 73), (1244, 1243, 0, 74), (1248, 1246, 1247, 73), (1252, 1250, 1251, 73), (1256, 1254, 1255, 73), (1260, 1258, 1259, 73), (1264, 1262, 1263, 73), (1268, 1266, 1267, 73), (1272, 1270, 1271, 73), (1276, 1274, 1275, 73), (1280, 1278, 1279, 73), (1284, 1283, 60, 73), (1288, 1287, 61, 73), (1291, 1290, 0, 73), (1295, 1294, 62, 73), (1299, 1298, 63, 73), (1303, 1301, 1302, 73), (1307, 1305, 1306, 73), (1311, 1309, 1310, 73), (1315, 1313, 1314, 73), (1318, 1317, 0, 73), (1322, 1320, 1321, 73), (1325, 1324, 0, 73), (1329, 1327, 1328, 73), (1333, 1331, 1332, 73)]
def zlayT : List (List Nat) := [[229, 231, 233, 235, 237], [254, 256, 258, 260, 262, 264], [162, 164, 166, 168, 170, 172, 174, 176, 178, 180, 182, 184, 186], [106, 108], [126, 128, 130, 132, 134], [279, 281, 283], [201, 203, 205, 207, 209], [297, 299, 301, 303, 305, 307, 309, 311, 313, 315], [874, 876, 878, 880, 882, 884, 886, 888, 890, 892, 894, 896, 898, 900, 902, 904, 906, 908, 910, 912, 914, 916, 918, 920, 922, 924, 926, 928, 930, 932, 934, 936, 938, 940, 942, 944, 946, 948, 950, 952, 954, 956, 958, 960, 962, 964, 966, 968, 970]]
/-- instantiable, initialized of the own types -/
def zcpT : List (Nat × Nat) := [(217, 70), (241, 71), (91, 66), (97, 67), (113, 68), (268, 72), (190, 69), (83, 65), (820, 73)]
def zarT : List Nat := [111, 973, 286]
def zaoT : List Nat := [213, 215]
/-- arraycopy: native, static, initialized System -/
def zacT : List Nat := [400, 399, 75]
def zbsT : List (Nat × Nat) := [(0, 0), (1, 7), (1, 7), (1, 21), (20, 2), (4, 6), (20, 2), (4, 5), (20, 2), (4, 5), (20, 2), (4, 6), (20, 2), (4, 5), (20, 2), (4, 5), (20, 2), (4, 6), (20, 2), (4, 3)]
def zbvT : List (List Int) := [[], [1, 10, 100, 1000, 10000, 100000, 1000000], [-1, 0, 0, 0, 1, 2, 3], [10, 11, 12, 0, 20, 0, 30, 0, 0, 0, 0, 40, 50, 51, 0, 0, 0, 60, 71, 70, 0], [], [115, 104, 97, 114, 112, 32], [], [102, 108, 97, 116, 32], [], [103, 114, 111, 119, 32], [], [115, 104, 97, 114, 112, 32], [], [102, 108, 97, 116, 32], [], [103, 114, 111, 119, 32], [], [112, 107, 118, 105, 98, 121], [], [60, 61, 62]]
/-- shapes of what was there before: 0 the script, 1 POWERS, 2 ABOVE, 3 BODIES, then a text and its bytes, eight times -/
def zbS (sl : Nat) (a : Nat) : Nat × Nat := if a = 0 then (1, sl) else zbsT.getD a (0, 0)
def zbV (xs : Nat → Int) (a k : Nat) : Int := if a = 0 then xs k else (zbvT.getD a []).getD k 0
def zbP (nl : Option Nat) (a k : Nat) : Option Nat := if a = 30 ∧ k = 0 then nl else if 4 ≤ a ∧ a < 20 ∧ a % 2 = 0 ∧ k = 0 then some (a + 1) else none
/-- laysStatic, initialized of the statics -/
def zlsT : List (Nat × Nat) := [(389, 65), (756, 65), (754, 65), (510, 76), (526, 78)]
/-- stringRef of the texts -/
def zsrT : List Nat := [496, 590, 591, 1088, 1099, 1100, 1133, 1191]
/-! the abstract machine: heap, one step, runs -/
/-- shapes (kind, size); ints; longs; references; how many cells; how many slots. Kinds: 1 int[], 2 boolean[], 3 long[], 4 byte[], 5 Shop[], 6 Tape[], 10 and more an object of an own type, 20 a text -/
def Hp : Type := (Nat → Nat × Nat) × (Nat → Nat → Int) × (Nat → Nat → Int64) × (Nat → Nat → Option Nat) × Nat × Nat
def zS (h : Hp) : Nat → Nat × Nat := h.1
def zV (h : Hp) : Nat → Nat → Int := h.2.1
def zJ (h : Hp) : Nat → Nat → Int64 := h.2.2.1
def zP (h : Hp) : Nat → Nat → Option Nat := h.2.2.2.1
def zN (h : Hp) : Nat := h.2.2.2.2.1
def zM (h : Hp) : Nat := h.2.2.2.2.2
def zsetV (h : Hp) (a k : Nat) (x : Int) : Hp := (zS h, fun b j => if b = a ∧ j = k then x else zV h b j, zJ h, zP h, zN h, zM h)
def zsetJ (h : Hp) (a k : Nat) (x : Int64) : Hp := (zS h, zV h, fun b j => if b = a ∧ j = k then x else zJ h b j, zP h, zN h, zM h)
def zsetP (h : Hp) (a k : Nat) (x : Option Nat) : Hp := (zS h, zV h, zJ h, fun b j => if b = a ∧ j = k then x else zP h b j, zN h, zM h)
def zmk (kd n : Nat) (h : Hp) : Hp := (fun b => if b = 32 + zN h then (kd, n) else zS h b, fun b j => if b = 32 + zN h then 0 else zV h b j, fun b j => if b = 32 + zN h then 0 else zJ h b j, fun b j => if b = 32 + zN h then none else zP h b j, zN h + 1, zM h + n)
def zcpV (h : Hp) (a sp b dp n : Nat) : Hp := (zS h, fun c k => if c = b ∧ dp ≤ k ∧ k < dp + n then zV h a (sp + (k - dp)) else zV h c k, zJ h, zP h, zN h, zM h)
def zcpJ (h : Hp) (a sp b dp n : Nat) : Hp := (zS h, zV h, fun c k => if c = b ∧ dp ≤ k ∧ k < dp + n then zJ h a (sp + (k - dp)) else zJ h c k, zP h, zN h, zM h)
def zw (x : Int) : Int := (x + 2147483648) % 4294967296 - 2147483648
def zr (x : Int) : Prop := -2147483648 ≤ x ∧ x < 2147483648
def ztag (v : AV) : Nat := match v with
  | .inl _ => 0
  | .inr (.inl _) => 1
  | .inr (.inr (some _)) => 2
  | .inr (.inr none) => 3
def zcat (v : AV) : Nat := match v with
  | .inr (.inl _) => 2
  | _ => 1
abbrev LL : Type := List (Option AV)
abbrev ZS : Type := Nat × LL × List AV × Hp
abbrev ZA : Type := Option (ZS ⊕ ((Nat × List AV × List AV) ⊕ Option AV))
def zn (pc : Nat) (L : LL) (st : List AV) (h : Hp) : ZA := some (.inl (pc, L, st, h))
def zget (L : LL) (k t : Nat) : Option AV := match L[k]? with
  | some (some v) => if ztag v = t then some v else none
  | _ => none
def zprev (L : LL) (k : Nat) : Bool := match k with
  | 0 => true
  | j + 1 => match L[j]? with
    | some (some (.inr (.inl _))) => false
    | _ => true
def zld (t k len pc l : Nat) (L : LL) (st : List AV) (h : Hp) : ZA := if l = len then (match zget L k t with
  | some v => zn (pc + len) L (v :: st) h
  | none => none) else none
def zsto (t k len pc l : Nat) (L : LL) (st : List AV) (h : Hp) : ZA := match st with
  | v :: r => if l = len ∧ ztag v = t ∧ zprev L k = true ∧ k < L.length then zn (pc + len) (L.set k (some v)) r h else none
  | [] => none
def zsto2 (k len pc l : Nat) (L : LL) (st : List AV) (h : Hp) : ZA := match st with
  | v :: r => if l = len ∧ ztag v = 1 ∧ zprev L k = true ∧ k + 1 < L.length then zn (pc + len) ((L.set k (some v)).set (k + 1) none) r h else none
  | [] => none
def zc1 (len : Nat) (v : AV) (pc l : Nat) (L : LL) (st : List AV) (h : Hp) : ZA := if l = len then zn (pc + len) L (v :: st) h else none
def zco (len : Nat) (v : Option AV) (pc l : Nat) (L : LL) (st : List AV) (h : Hp) : ZA := match v with
  | some v => zc1 len v pc l L st h
  | none => none
def zi2 (f : Int → Int → Int) (pc l : Nat) (L : LL) (st : List AV) (h : Hp) : ZA := match st with
  | .inl y :: .inl x :: r => if l = 1 then zn (pc + 1) L (vI (f x y) :: r) h else none
  | _ => none
def zi2d (f : Int → Int → Int) (pc l : Nat) (L : LL) (st : List AV) (h : Hp) : ZA := match st with
  | .inl y :: .inl x :: r => if l = 1 ∧ y ≠ 0 then zn (pc + 1) L (vI (f x y) :: r) h else none
  | _ => none
def zi1 (f : Int → AV) (pc l : Nat) (L : LL) (st : List AV) (h : Hp) : ZA := match st with
  | .inl x :: r => if l = 1 then zn (pc + 1) L (f x :: r) h else none
  | _ => none
def zj1 (f : Int64 → AV) (pc l : Nat) (L : LL) (st : List AV) (h : Hp) : ZA := match st with
  | .inr (.inl x) :: r => if l = 1 then zn (pc + 1) L (f x :: r) h else none
  | _ => none
def zj2 (f : Int64 → Int64 → AV) (pc l : Nat) (L : LL) (st : List AV) (h : Hp) : ZA := match st with
  | .inr (.inl y) :: .inr (.inl x) :: r => if l = 1 then zn (pc + 1) L (f x y :: r) h else none
  | _ => none
def zj2d (f : Int64 → Int64 → AV) (pc l : Nat) (L : LL) (st : List AV) (h : Hp) : ZA := match st with
  | .inr (.inl y) :: .inr (.inl x) :: r => if l = 1 ∧ y ≠ 0 then zn (pc + 1) L (f x y :: r) h else none
  | _ => none
def zji (f : Int64 → Int → AV) (pc l : Nat) (L : LL) (st : List AV) (h : Hp) : ZA := match st with
  | .inl y :: .inr (.inl x) :: r => if l = 1 then zn (pc + 1) L (f x y :: r) h else none
  | _ => none
/-- a static that holds a reference or null: its value stands in the heap, at 30 -/
def zstv (h : Hp) (v : AV) : AV := match v with
  | .inr (.inr (some 30)) => vR (zP h 30 0)
  | v => v
def zcond (c : Jvm.ClassFile.Cond) (x y : Int) : Bool := match c with
  | .eq => decide (x = y)
  | .ne => decide (x ≠ y)
  | .lt => decide (x < y)
  | .ge => decide (y ≤ x)
  | .gt => decide (y < x)
  | .le => decide (x ≤ y)
def zjmp (pc : Nat) (off : Int) (L : LL) (st : List AV) (h : Hp) : ZA := if 0 ≤ (pc : Int) + off then zn ((pc : Int) + off).toNat L st h else none
def zi (x : Int) : Int32 := Int32.ofInt x
def zfv (h : Hp) (ci a k : Nat) : AV := if zft ci k = 2 then vR (zP h a k) else vI (zV h a k)
/-- the kind of an object of the type ci; row 9 is String -/
def zkd (ci : Nat) : Nat := if ci = 9 then 20 else 10 + ci
def zgetf (e : Option (Nat × Nat)) (pc l : Nat) (L : LL) (st : List AV) (h : Hp) : ZA := match e, st with
  | some (ci, k), .inr (.inr (some a)) :: r => if l = 3 ∧ zS h a = (zkd ci, zNf ci) ∧ (ci = 9 → a < 32) then zn (pc + 3) L (zfv h ci a k :: r) h else none
  | _, _ => none
def zputf (o : Nat) (e : Option (Nat × Nat)) (pc l : Nat) (L : LL) (st : List AV) (h : Hp) : ZA := match e, st with
  | some (ci, k), .inl x :: .inr (.inr (some a)) :: r => if l = 3 ∧ ci < 9 ∧ zS h a = (10 + ci, zNf ci) ∧ 32 ≤ a ∧ (zft ci k = 0 ∨ (zft ci k = 1 ∧ (x = 0 ∨ x = 1))) ∧ (zfin ci k = true → 100 ≤ o ∧ o % 100 = ci) then zn (pc + 3) L r (zsetV h a k x) else none
  | some (ci, k), .inr (.inr p) :: .inr (.inr (some a)) :: r => if l = 3 ∧ ci < 9 ∧ zS h a = (10 + ci, zNf ci) ∧ 32 ≤ a ∧ zft ci k = 2 ∧ (zfin ci k = true → 100 ≤ o ∧ o % 100 = ci) then zn (pc + 3) L r (zsetP h a k p) else none
  | _, _ => none
def zald (kd : Nat) (f : Nat → Nat → AV) (pc l : Nat) (L : LL) (st : List AV) (h : Hp) : ZA := match st with
  | .inl i :: .inr (.inr (some a)) :: r => if l = 1 ∧ (zS h a).1 = kd ∧ 0 ≤ i ∧ i < ((zS h a).2 : Int) then zn (pc + 1) L (f a i.toNat :: r) h else none
  | _ => none
def ziast (pc l : Nat) (L : LL) (st : List AV) (h : Hp) : ZA := match st with
  | .inl x :: .inl i :: .inr (.inr (some a)) :: r => if l = 1 ∧ (zS h a).1 = 1 ∧ 32 ≤ a ∧ 0 ≤ i ∧ i < ((zS h a).2 : Int) then zn (pc + 1) L r (zsetV h a i.toNat x) else none
  | _ => none
def zbast (pc l : Nat) (L : LL) (st : List AV) (h : Hp) : ZA := match st with
  | .inl x :: .inl i :: .inr (.inr (some a)) :: r => if l = 1 ∧ (zS h a).1 = 2 ∧ 32 ≤ a ∧ 0 ≤ i ∧ i < ((zS h a).2 : Int) ∧ (x = 0 ∨ x = 1) then zn (pc + 1) L r (zsetV h a i.toNat x) else none
  | _ => none
def zlast (pc l : Nat) (L : LL) (st : List AV) (h : Hp) : ZA := match st with
  | .inr (.inl x) :: .inl i :: .inr (.inr (some a)) :: r => if l = 1 ∧ (zS h a).1 = 3 ∧ 32 ≤ a ∧ 0 ≤ i ∧ i < ((zS h a).2 : Int) then zn (pc + 1) L r (zsetJ h a i.toNat x) else none
  | _ => none
def zaast (pc l : Nat) (L : LL) (st : List AV) (h : Hp) : ZA := match st with
  | .inr (.inr (some v)) :: .inl i :: .inr (.inr (some a)) :: r => if l = 1 ∧ 32 ≤ a ∧ 0 ≤ i ∧ i < ((zS h a).2 : Int) ∧ (((zS h a).1 = 5 ∧ zS h v = (14, zNf 4)) ∨ ((zS h a).1 = 6 ∧ zS h v = (15, zNf 5))) then zn (pc + 1) L r (zsetP h a i.toNat (some v)) else none
  | _ => none
def zalen (pc l : Nat) (L : LL) (st : List AV) (h : Hp) : ZA := match st with
  | .inr (.inr (some a)) :: r => if l = 1 ∧ 1 ≤ (zS h a).1 ∧ (zS h a).1 ≤ 6 ∧ (zS h a).2 < 2147483648 ∧ ((zS h a).1 = 4 → a < 32) then zn (pc + 1) L (vI ((zS h a).2 : Int) :: r) h else none
  | _ => none
def znew (e : Option Nat) (pc l : Nat) (L : LL) (st : List AV) (h : Hp) : ZA := match e with
  | some ci => if l = 3 ∧ ci < 9 then zn (pc + 3) L (vR (some (32 + zN h)) :: st) (zmk (10 + ci) (zNf ci) h) else none
  | none => none
def znewa (kd len : Nat) (pc l : Nat) (L : LL) (st : List AV) (h : Hp) : ZA := match st with
  | .inl x :: r => if l = len ∧ 1 ≤ kd ∧ 0 ≤ x ∧ x ≤ 1000000 then zn (pc + len) L (vR (some (32 + zN h)) :: r) (zmk kd x.toNat h) else none
  | _ => none
def zatype (t : ArrayType) : Nat := match t with
  | .int => 1
  | .boolean => 2
  | .long => 3
  | _ => 0
def zwt (r : List AV) : Nat := (r.map zcat).sum
def zcpy (d pc l : Nat) (L : LL) (st : List AV) (h : Hp) : ZA := match st with
  | .inl n :: .inl dp :: .inr (.inr (some b)) :: .inl sp :: .inr (.inr (some a)) :: r => if l = 3 ∧ 1 ≤ d ∧ zwt r ≤ 8 ∧ 32 ≤ a ∧ 32 ≤ b ∧ 0 ≤ n ∧ 0 ≤ sp ∧ 0 ≤ dp ∧ sp + n ≤ ((zS h a).2 : Int) ∧ dp + n ≤ ((zS h b).2 : Int) ∧ (((zS h a).1 = 1 ∧ (zS h b).1 = 1) ∨ ((zS h a).1 = 3 ∧ (zS h b).1 = 3)) then zn (pc + 3) L r (if (zS h a).1 = 1 then zcpV h a sp.toNat b dp.toNat n.toNat else zcpJ h a sp.toNat b dp.toNat n.toNat) else none
  | _ => none
/-- Math.min, max of ints; the others of its own methods that are called -/
def zmm (f : Int → Int → Int) (d pc l : Nat) (L : LL) (st : List AV) (h : Hp) : ZA := match st with
  | .inl y :: .inl x :: r => if l = 3 ∧ 1 ≤ d ∧ zwt r ≤ 8 then zn (pc + 3) L (vI (f x y) :: r) h else none
  | _ => none
def zmab (d pc l : Nat) (L : LL) (st : List AV) (h : Hp) : ZA := match st with
  | .inr (.inl x) :: r => if l = 3 ∧ 1 ≤ d ∧ zwt r ≤ 8 then zn (pc + 3) L (vJ (if 0 < x then x else -x) :: r) h else none
  | _ => none
def zfm32 (a b : Int32) : Int32 := if 0 ≤ a ^^^ b then a - a / b * b else if a - a / b * b = 0 then a - a / b * b else a - a / b * b + b
def zmfm (d pc l : Nat) (L : LL) (st : List AV) (h : Hp) : ZA := match st with
  | .inl y :: .inl x :: r => if l = 3 ∧ 1 ≤ d ∧ zwt r ≤ 8 ∧ y ≠ 0 then zn (pc + 3) L (vI (zfm32 (zi x) (zi y)).toInt :: r) h else none
  | _ => none
def zoinit (d pc l : Nat) (L : LL) (st : List AV) (h : Hp) : ZA := match st with
  | .inr (.inr (some _)) :: r => if l = 3 ∧ 1 ≤ d ∧ zwt r ≤ 8 then zn (pc + 3) L r h else none
  | _ => none
/-- a call: kind 0 virtual, 1 special, 2 static, 4 special of a nest mate, 5 static of a nest mate -/
def zcall (l : Nat) (na z : Nat) (st : List AV) : ZA := if l = 3 ∧ na ≤ st.length ∧ zwt (st.drop na) ≤ 8 then some (.inr (.inl (z, (st.take na).reverse, st.drop na))) else none
def zinv (e : Option (Nat × Nat)) (l : Nat) (st : List AV) (h : Hp) : ZA := match e with
  | some (0, z) => (match st[zna z]? with
    | some (.inr (.inr (some a))) => if zS h a = zrc z ∧ 10 ≤ (zrc z).1 ∧ ((zrc z).1 = 20 → a < 32) then zcall l (zna z + 1) z st else none
    | _ => none)
  | _ => none
def zinvS (e : Option (Nat × Nat)) (l : Nat) (st : List AV) : ZA := match e with
  | some (2, z) => zcall l (zna z) z st
  | some (5, z) => zcall l (zna z) z st
  | _ => none
def zinvI (d : Nat) (e : Option (Nat × Nat)) (pc l : Nat) (L : LL) (st : List AV) (h : Hp) : ZA := match e with
  | some (9, _) => zoinit d pc l L st h
  | some (k, z) => if k = 1 ∨ k = 4 then (match st[zna z]? with
    | some (.inr (.inr (some _))) => zcall l (zna z + 1) z st
    | _ => none) else none
  | _ => none
def zret (v : Option AV) (l : Nat) : ZA := if l = 1 then some (.inr (.inr v)) else none
def zin (d o pc l : Nat) (L : LL) (st : List AV) (h : Hp) (i : Instr) : ZA := match i with
  | .aload_n k => zld 2 k.val 1 pc l L st h
  | .iload_n k => zld 0 k.val 1 pc l L st h
  | .lload_n k => zld 1 k.val 1 pc l L st h
  | .aload k => zld 2 k 2 pc l L st h
  | .iload k => zld 0 k 2 pc l L st h
  | .lload k => zld 1 k 2 pc l L st h
  | .astore_n k => zsto 2 k.val 1 pc l L st h
  | .istore_n k => zsto 0 k.val 1 pc l L st h
  | .lstore_n k => zsto2 k.val 1 pc l L st h
  | .astore k => zsto 2 k 2 pc l L st h
  | .istore k => zsto 0 k 2 pc l L st h
  | .lstore k => zsto2 k 2 pc l L st h
  | .iinc k c => (match zget L k 0 with
    | some (.inl x) => if l = 3 ∧ zprev L k = true then zn (pc + 3) (L.set k (some (vI (zw (x + c))))) st h else none
    | _ => none)
  | .iconst n => zc1 1 (vI (zw n)) pc l L st h
  | .bipush n => zc1 2 (vI (Int8.ofInt n).toInt32.toInt) pc l L st h
  | .sipush n => zc1 3 (vI (Int16.ofInt n).toInt32.toInt) pc l L st h
  | .lconst n => zc1 1 (vJ (Int64.ofNat n.val)) pc l L st h
  | .ldc k => zco 2 (zldc o k) pc l L st h
  | .ldc_w k => (match zldc o k with
    | some (.inl x) => zc1 3 (vI x) pc l L st h
    | _ => none)
  | .ldc2_w k => zco 3 ((zldc2 o k).map vJ) pc l L st h
  | .getstatic k => zco 3 ((zstat o k).map (zstv h)) pc l L st h
  | .getfield k => zgetf (zfld o k) pc l L st h
  | .putfield k => zputf o (zfld o k) pc l L st h
  | .iadd => zi2 (fun x y => zw (x + y)) pc l L st h
  | .isub => zi2 (fun x y => zw (x - y)) pc l L st h
  | .imul => zi2 (fun x y => zw (x * y)) pc l L st h
  | .idiv => zi2d (fun x y => (zi x / zi y).toInt) pc l L st h
  | .irem => zi2d (fun x y => (zi x - zi x / zi y * zi y).toInt) pc l L st h
  | .iand => zi2 (fun x y => (zi x &&& zi y).toInt) pc l L st h
  | .ior => zi2 (fun x y => (zi x ||| zi y).toInt) pc l L st h
  | .ixor => zi2 (fun x y => (zi x ^^^ zi y).toInt) pc l L st h
  | .ishl => zi2 (fun x y => (zi x <<< (zi y &&& 31)).toInt) pc l L st h
  | .ishr => zi2 (fun x y => (zi x >>> (zi y &&& 31)).toInt) pc l L st h
  | .iushr => zi2 (fun x y => ((zi x).toUInt32 >>> ((zi y).toUInt32 &&& Int32.toUInt32 31)).toInt32.toInt) pc l L st h
  | .ineg => zi1 (fun x => vI (zw (-x))) pc l L st h
  | .i2l => zi1 (fun x => vJ (zi x).toInt64) pc l L st h
  | .i2b => zi1 (fun x => vI (zi x).toInt8.toInt32.toInt) pc l L st h
  | .i2s => zi1 (fun x => vI (zi x).toInt16.toInt32.toInt) pc l L st h
  | .i2c => zi1 (fun x => vI ((zi x).toUInt32 % 65536).toInt32.toInt) pc l L st h
  | .l2i => zj1 (fun x => vI x.toInt32.toInt) pc l L st h
  | .lneg => zj1 (fun x => vJ (-x)) pc l L st h
  | .ladd => zj2 (fun x y => vJ (x + y)) pc l L st h
  | .land => zj2 (fun x y => vJ (x &&& y)) pc l L st h
  | .lor => zj2 (fun x y => vJ (x ||| y)) pc l L st h
  | .ldiv => zj2d (fun x y => vJ (x / y)) pc l L st h
  | .lrem => zj2d (fun x y => vJ (x - x / y * y)) pc l L st h
  | .lshl => zji (fun x y => vJ (x <<< ((zi y).toInt64 &&& 63))) pc l L st h
  | .lcmp => zj2 (fun x y => vI (lg_cmp x y).toInt) pc l L st h
  | .dup => (match st with
    | v :: r => if l = 1 ∧ zcat v = 1 then zn (pc + 1) L (v :: v :: r) h else none
    | _ => none)
  | .pop => (match st with
    | v :: r => if l = 1 ∧ zcat v = 1 then zn (pc + 1) L r h else none
    | _ => none)
  | .dup_x1 => (match st with
    | v :: u :: r => if l = 1 ∧ zcat v = 1 ∧ zcat u = 1 then zn (pc + 1) L (v :: u :: v :: r) h else none
    | _ => none)
  | .dup2 => (match st with
    | v :: u :: r => if l = 1 ∧ zcat v = 1 ∧ zcat u = 1 then zn (pc + 1) L (v :: u :: v :: u :: r) h else none
    | _ => none)
  | .goto off => if l = 3 then zjmp pc off L st h else none
  | .ifCond c off => (match st with
    | .inl x :: r => if l = 3 ∧ 0 ≤ (pc : Int) + off then (if zcond c x 0 = true then zn ((pc : Int) + off).toNat L r h else zn (pc + 3) L r h) else none
    | _ => none)
  | .if_icmp c off => (match st with
    | .inl y :: .inl x :: r => if l = 3 ∧ 0 ≤ (pc : Int) + off then (if zcond c x y = true then zn ((pc : Int) + off).toNat L r h else zn (pc + 3) L r h) else none
    | _ => none)
  | .tableswitch dflt lo hi offs => (match st with
    | .inl x :: r => if x < lo ∨ hi < x then zjmp pc dflt L r h else (match offs[(x - lo).toNat]? with
      | some off => zjmp pc off L r h
      | none => none)
    | _ => none)
  | .lookupswitch dflt ps => (match st with
    | .inl x :: r => if (ps.toList.zip (ps.toList.drop 1)).all (fun (a, next) => a.1 < next.1) = true then zjmp pc (Op.lookupswitch.offset ps.toList dflt x) L r h else none
    | _ => none)
  | .iaload => zald 1 (fun a k => vI (zV h a k)) pc l L st h
  | .baload => (match st with
    | .inl _ :: .inr (.inr (some a)) :: _ => if (zS h a).1 = 4 then (if a < 32 then zald 4 (fun a k => vI (zV h a k)) pc l L st h else none) else zald 2 (fun a k => vI (zV h a k)) pc l L st h
    | _ => none)
  | .laload => zald 3 (fun a k => vJ (zJ h a k)) pc l L st h
  | .aaload => (match st with
    | .inl _ :: .inr (.inr (some a)) :: _ => if (zS h a).1 = 6 then zald 6 (fun a k => vR (zP h a k)) pc l L st h else zald 5 (fun a k => vR (zP h a k)) pc l L st h
    | _ => none)
  | .iastore => ziast pc l L st h
  | .bastore => zbast pc l L st h
  | .lastore => zlast pc l L st h
  | .aastore => zaast pc l L st h
  | .arraylength => zalen pc l L st h
  | .new k => znew (zcl o k) pc l L st h
  | .newarray t => znewa (zatype t) 2 pc l L st h
  | .anewarray k => (match zcl o k with
    | some 4 => znewa 5 3 pc l L st h
    | some 5 => znewa 6 3 pc l L st h
    | _ => none)
  | .invokevirtual k => zinv (zmth o k) l st h
  | .invokestatic k => (match zmth o k with
    | some (10, _) => zcpy d pc l L st h
    | some (11, _) => zmm (fun x y => if y < x then y else x) d pc l L st h
    | some (12, _) => zmm (fun x y => if x < y then y else x) d pc l L st h
    | some (13, _) => zmab d pc l L st h
    | some (14, _) => zmfm d pc l L st h
    | e => zinvS e l st)
  | .invokespecial k => zinvI d (zmth o k) pc l L st h
  | .ireturn => (match st with
    | [.inl x] => zret (some (vI x)) l
    | _ => none)
  | .lreturn => (match st with
    | [.inr (.inl x)] => zret (some (vJ x)) l
    | _ => none)
  | .return_ => (match st with
    | [] => zret none l
    | _ => none)
  | _ => none
def zact (d : Nat) (cc : ByteArray) (o pc : Nat) (L : LL) (st : List AV) (h : Hp) : ZA := match decode cc pc with
  | .ok (i, l) => zin d o pc l L st h i
  | .error _ => none
def zenl (as : List AV) : LL := match as with
  | [] => []
  | v :: vs => if zcat v = 2 then some v :: none :: zenl vs else some v :: zenl vs
def zent (n : Nat) (as : List AV) : LL := zenl as ++ List.replicate (n - (zenl as).length) none
def zretok (t : Nat) (v : Option AV) : Bool := match t, v with
  | 0, none => true
  | 1, some (.inl _) => true
  | 2, some (.inl x) => decide (x = 0 ∨ x = 1)
  | 3, some (.inl x) => decide (0 ≤ x ∧ x < 65536)
  | 4, some (.inr (.inl _)) => true
  | 5, some (.inl x) => decide (x = 0)
  | _, _ => false
abbrev ZR : Type := Option (Option AV × Hp)
abbrev ZF : Type := Nat → ByteArray → Nat → Nat → LL → List AV → Hp → ZR
def zstep (ih : ZF) : ZF := fun d cc o pc L st h => match zact d cc o pc L st h with
  | none => none
  | some (.inl (pc', L', st', h')) => ih d cc o pc' L' st' h'
  | some (.inr (.inl (z, as, r))) => (match d with
    | 0 => none
    | d' + 1 => if (zenl as).length ≤ zml z then (match ih d' (zb z) (zo z) 0 (zent (zml z) as) [] h with
      | some (v, h') => if zretok (zrt z) v = true then ih (d' + 1) cc o (pc + 3) L (v.toList ++ r) h' else none
      | none => none) else none)
  | some (.inr (.inr v)) => some (v, h)
def zrun : Nat → ZF := fun n => Nat.rec (fun _ _ _ _ _ _ _ => none) (fun _ ih => zstep ih) n
