/-! the abstract machine: tables, printed by a program out of the words of the Statement -/
abbrev AV : Type := Int ⊕ (Int64 ⊕ Option Nat)
abbrev vI (x : Int) : AV := Sum.inl x
abbrev vJ (x : Int64) : AV := Sum.inr (Sum.inl x)
abbrev vR (r : Option Nat) : AV := Sum.inr (Sum.inr r)
def zcns : List String := ["HatterTunes$Actor", "HatterTunes$Choir", "HatterTunes$House", "HatterTunes$Rows", "HatterTunes$Shop", "HatterTunes$Tape", "HatterTunes$Text", "HatterTunes", "HatterTunesModel", "HatterTunesLaw", "java/lang/String", "java/lang/StringLatin1", "java/lang/Integer", "java/lang/Math", "jdk/internal/util/Preconditions", "java/lang/StringUTF16", "java/lang/Character", "java/lang/Object", "java/lang/System"]
def zcn (o : Nat) : String := zcns.getD o ""
def zfl : List (List (String × String × String × Bool)) := [[("HatterTunes$Actor", "bodies", "[I", true), ("HatterTunes$Actor", "ran", "I", false), ("HatterTunes$Actor", "number", "I", false), ("HatterTunes$Actor", "kind", "I", false), ("HatterTunes$Actor", "v", "I", false)],
  [("HatterTunes$Choir", "shares", "[I", true), ("HatterTunes$Choir", "sounds", "[I", true), ("HatterTunes$Choir", "row", "[I", true), ("HatterTunes$Choir", "best", "[I", true), ("HatterTunes$Choir", "size", "I", false), ("HatterTunes$Choir", "mostShared", "I", false)],
  [("HatterTunes$House", "kinds", "[I", true), ("HatterTunes$House", "vs", "[I", true), ("HatterTunes$House", "ages", "[I", true), ("HatterTunes$House", "bumps", "[I", true), ("HatterTunes$House", "rows", "[I", true), ("HatterTunes$House", "facts", "[I", true), ("HatterTunes$House", "tune", "LHatterTunes$Rows;", true), ("HatterTunes$House", "seen", "LHatterTunes$Rows;", true), ("HatterTunes$House", "plan", "LHatterTunes$Rows;", true), ("HatterTunes$House", "book", "LHatterTunes$Rows;", true), ("HatterTunes$House", "size", "I", false), ("HatterTunes$House", "year", "I", false), ("HatterTunes$House", "shop", "LHatterTunes$Shop;", false)],
  [("HatterTunes$Rows", "cells", "[I", true), ("HatterTunes$Rows", "size", "I", false)],
  [("HatterTunes$Shop", "steps", "[I", true), ("HatterTunes$Shop", "letters", "[I", true), ("HatterTunes$Shop", "numbers", "[I", true), ("HatterTunes$Shop", "length", "I", false), ("HatterTunes$Shop", "growth", "I", false)],
  [("HatterTunes$Tape", "items", "[J", true), ("HatterTunes$Tape", "sort", "I", false), ("HatterTunes$Tape", "length", "I", false)],
  [("HatterTunes$Text", "signs", "[I", true), ("HatterTunes$Text", "length", "I", false), ("HatterTunes$Text", "place", "I", false), ("HatterTunes$Text", "number", "I", false), ("HatterTunes$Text", "shop", "LHatterTunes$Shop;", false)],
  [("HatterTunes", "bare", "LHatterTunes$Shop;", true), ("HatterTunes", "now", "LHatterTunes$House;", true), ("HatterTunes", "trial", "LHatterTunes$House;", true), ("HatterTunes", "kept", "LHatterTunes$House;", true), ("HatterTunes", "imaged", "Z", false), ("HatterTunes", "text", "LHatterTunes$Text;", true), ("HatterTunes", "shops", "[LHatterTunes$Shop;", true), ("HatterTunes", "shopCount", "I", false), ("HatterTunes", "tapes", "[LHatterTunes$Tape;", true), ("HatterTunes", "actor", "LHatterTunes$Actor;", true), ("HatterTunes", "choir", "LHatterTunes$Choir;", true)],
  [("HatterTunesModel", "heads", "I", false), ("HatterTunesModel", "kind", "[I", true), ("HatterTunesModel", "v", "[I", true), ("HatterTunesModel", "bumps", "[I", true), ("HatterTunesModel", "age", "[I", true), ("HatterTunesModel", "rows", "[I", true), ("HatterTunesModel", "noted", "I", false), ("HatterTunesModel", "tune", "[I", true), ("HatterTunesModel", "year", "I", false), ("HatterTunesModel", "texted", "I", false), ("HatterTunesModel", "text", "[I", true), ("HatterTunesModel", "at", "I", false), ("HatterTunesModel", "value", "I", false), ("HatterTunesModel", "digits", "I", false), ("HatterTunesModel", "open", "I", false), ("HatterTunesModel", "shops", "I", false), ("HatterTunesModel", "holds", "I", false), ("HatterTunesModel", "clauses", "[I", true), ("HatterTunesModel", "word", "[I", true), ("HatterTunesModel", "number", "[I", true), ("HatterTunesModel", "begins", "[I", true), ("HatterTunesModel", "length", "[I", true), ("HatterTunesModel", "code", "[I", true), ("HatterTunesModel", "coded", "I", false), ("HatterTunesModel", "stack", "[Z", true), ("HatterTunesModel", "seen", "I", false), ("HatterTunesModel", "seenOf", "[I", true), ("HatterTunesModel", "seenBump", "[I", true), ("HatterTunesModel", "seenIn", "[I", true), ("HatterTunesModel", "seenNote", "[I", true), ("HatterTunesModel", "inPlan", "I", false), ("HatterTunesModel", "goes", "[I", true), ("HatterTunesModel", "whose", "[I", true), ("HatterTunesModel", "inBook", "I", false), ("HatterTunesModel", "booked", "[I", true), ("HatterTunesModel", "bookAge", "[I", true), ("HatterTunesModel", "traced", "I", false), ("HatterTunesModel", "traces", "[I", true), ("HatterTunesModel", "imaged", "Z", false), ("HatterTunesModel", "image", "[I", true), ("HatterTunesModel", "ahead", "[I", true), ("HatterTunesModel", "sound", "[I", true), ("HatterTunesModel", "other", "[I", true), ("HatterTunesModel", "tried", "[I", true), ("HatterTunesModel", "best", "[I", true), ("HatterTunesModel", "least", "I", false), ("HatterTunesModel", "tapeSort", "[I", true), ("HatterTunesModel", "tapeSize", "[I", true), ("HatterTunesModel", "items", "[J", true)]]
def zT (ci : Nat) : u_T := fun k => (zfl.getD ci []).getD k ("", "", "", false)
def zNs : List Nat := [5, 6, 13, 2, 5, 3, 5, 11, 49, 2]
def zNf (ci : Nat) : Nat := zNs.getD ci 0
def zftT : List (List Nat) := [[2, 0, 0, 0, 0], [2, 2, 2, 2, 0, 0], [2, 2, 2, 2, 2, 2, 2, 2, 2, 2, 0, 0, 2], [2, 0], [2, 2, 2, 0, 0], [2, 0, 0], [2, 0, 0, 0, 2], [2, 2, 2, 2, 1, 2, 2, 0, 2, 2, 2], [0, 2, 2, 2, 2, 2, 0, 2, 0, 0, 2, 0, 0, 0, 0, 0, 0, 2, 2, 2, 2, 2, 2, 0, 2, 0, 2, 2, 2, 2, 0, 2, 2, 0, 2, 2, 0, 2, 1, 2, 2, 2, 2, 2, 2, 0, 2, 2, 2], [2, 0]]
def zft (ci k : Nat) : Nat := (zftT.getD ci []).getD k 0
def zfinT : List (List Bool) := [[true, false, false, false, false], [true, true, true, true, false, false], [true, true, true, true, true, true, true, true, true, true, false, false, false], [true, false], [true, true, true, false, false], [true, false, false], [true, false, false, false, false], [true, true, true, true, false, true, true, false, true, true, true], [false, true, true, true, true, true, false, true, false, false, true, false, false, false, false, false, false, true, true, true, true, true, true, false, true, false, true, true, true, true, false, true, true, false, true, true, false, true, false, true, true, true, true, true, true, false, true, true, true], []]
def zfin (ci k : Nat) : Bool := (zfinT.getD ci []).getD k false
def zcls9 : List vw_C := [0, 1, 2, 3, 4, 5, 6, 7, 8].map fun ci => (zcn ci, zT ci, zNf ci)
def zfldT : List (List (Nat × Nat × Nat × Nat)) := [[(9, 0, 0, 221), (15, 0, 1, 223), (25, 0, 2, 225), (28, 0, 3, 226), (31, 0, 4, 227)], [(37, 2, 10, 155), (9, 1, 0, 245), (15, 1, 1, 246), (18, 1, 2, 247), (21, 1, 3, 248), (30, 1, 4, 250), (34, 1, 5, 252)], [(87, 4, 4, 102), (113, 3, 1, 131), (9, 2, 0, 137), (15, 2, 1, 139), (18, 2, 2, 141), (21, 2, 3, 143), (24, 2, 4, 144), (27, 2, 5, 146), (35, 2, 6, 147), (39, 2, 7, 149), (42, 2, 8, 151), (45, 2, 9, 153), (62, 2, 10, 157), (66, 2, 11, 158), (48, 2, 12, 160)], [(9, 3, 0, 128), (13, 3, 1, 129)], [(9, 4, 0, 96), (15, 4, 1, 97), (18, 4, 2, 98), (21, 4, 3, 99), (25, 4, 4, 100)], [(9, 5, 0, 271), (15, 5, 1, 273), (19, 5, 2, 275)], [(72, 4, 4, 101), (9, 6, 0, 195), (15, 6, 1, 196), (28, 6, 2, 198), (62, 6, 3, 199), (24, 6, 4, 200)], [(174, 4, 4, 103), (183, 3, 1, 130), (81, 2, 0, 138), (85, 2, 1, 140), (88, 2, 2, 142), (155, 2, 4, 145), (137, 2, 6, 148), (208, 2, 7, 150), (223, 2, 8, 152), (229, 2, 9, 154), (69, 2, 10, 156), (171, 2, 11, 159), (168, 2, 12, 161), (272, 6, 1, 197), (266, 0, 0, 222), (273, 0, 1, 224), (202, 1, 3, 249), (201, 1, 4, 251), (248, 5, 0, 272), (235, 5, 1, 274), (241, 5, 2, 276), (14, 7, 0, 285), (23, 7, 1, 286), (27, 7, 2, 287), (30, 7, 3, 288), (252, 7, 4, 289), (36, 7, 5, 290), (40, 7, 6, 291), (161, 7, 7, 292), (46, 7, 8, 293), (53, 7, 9, 294), (60, 7, 10, 295)], [(114, 8, 0, 826), (9, 8, 1, 827), (15, 8, 2, 828), (18, 8, 3, 829), (21, 8, 4, 830), (24, 8, 5, 831), (154, 8, 6, 832), (27, 8, 7, 833), (235, 8, 8, 834), (157, 8, 9, 835), (30, 8, 10, 836), (160, 8, 11, 837), (163, 8, 12, 838), (166, 8, 13, 839), (201, 8, 14, 840), (229, 8, 15, 841), (110, 8, 16, 842), (33, 8, 17, 843), (36, 8, 18, 844), (39, 8, 19, 845), (42, 8, 20, 846), (45, 8, 21, 847), (48, 8, 22, 848), (185, 8, 23, 849), (51, 8, 24, 850), (286, 8, 25, 851), (55, 8, 26, 852), (58, 8, 27, 853), (61, 8, 28, 854), (64, 8, 29, 855), (307, 8, 30, 856), (67, 8, 31, 857), (70, 8, 32, 858), (310, 8, 33, 859), (73, 8, 34, 860), (76, 8, 35, 861), (317, 8, 36, 862), (79, 8, 37, 863), (313, 8, 38, 864), (82, 8, 39, 865), (85, 8, 40, 866), (88, 8, 41, 867), (91, 8, 42, 868), (94, 8, 43, 869), (97, 8, 44, 870), (279, 8, 45, 871), (100, 8, 46, 872), (103, 8, 47, 873), (106, 8, 48, 874)], [], [(9, 9, 0, 1336), (15, 9, 1, 1337)], [], [], [], [], [], [], [], []]
def zfld (o i : Nat) : Option (Nat × Nat) := ((zfldT.getD (o % 100) []).find? (fun e => e.1 == i)).map (fun e => (e.2.1, e.2.2.1))
def zstats : List (String × String × String × AV) := [("HatterTunes", "POWERS", "[I", vR (some 1)), ("HatterTunes", "ABOVE", "[I", vR (some 2)), ("HatterTunes", "BODIES", "[I", vR (some 3)), ("java/lang/String", "COMPACT_STRINGS", "Z", vI 1), ("jdk/internal/util/Preconditions", "SIOOBE_FORMATTER", "Ljava/util/function/BiFunction;", vR (some 30))]
def zstatT : List (List (Nat × Nat × Bool × Nat)) := [[(52, 2, true, 754), (45, 1, true, 756)], [], [(122, 0, true, 389)], [], [], [], [], [(205, 0, false, 631), (295, 1, false, 778)], [], [], [(38, 3, false, 510), (1053, 4, false, 526)], [], [], [], [], [], [], [], []]
def zstat (o i : Nat) : Option AV := ((zstatT.getD (o % 100) []).find? (fun e => e.1 == i)).map (fun e => (zstats.getD e.2.1 ("", "", "", vI 0)).2.2.2)
def zclT : List (List (Nat × Nat × Nat)) := [[], [], [(30, 3, 122)], [], [], [], [], [(11, 4, 90), (18, 2, 116), (33, 6, 189), (44, 5, 213), (50, 0, 215), (57, 1, 239)], [], [(7, 7, 82), (10, 8, 820)], [], [], [], [], [], [], [], [], []]
def zcl (o i : Nat) : Option Nat := ((zclT.getD (o % 100) []).find? (fun e => e.1 == i)).map (fun e => e.2.1)
def zldcT : List (List (Nat × AV × Nat)) := [[], [], [], [], [], [], [(43, vR (some 4), 497), (52, vR (some 6), 591), (54, vR (some 8), 592)], [], [(219, vR (some 10), 1089), (225, vR (some 12), 1100), (227, vR (some 14), 1101), (188, vR (some 16), 1134), (193, vR (some 18), 1192)], [], [], [], [(265, vI 1431655765, 643), (266, vI 858993459, 644), (267, vI 252645135, 645)], [], [], [(227, vI 65536, 1162)], [(110, vI 55232, 1187), (76, vI 56320, 1191)], [], []]
def zldc (o i : Nat) : Option AV := ((zldcT.getD (o % 100) []).find? (fun e => e.1 == i)).map (fun e => e.2.1)
def zldc2T : List (List (Nat × Int64 × Nat)) := [[], [], [], [], [], [], [], [(211, (-9223372036854775808 : Int64), 673)], [(299, (-9223372036854775808 : Int64), 1238), (301, (60 : Int64), 1239)], [(131, (4294967295 : Int64), 1335)], [], [], [], [], [], [], [], [], []]
def zldc2 (o i : Nat) : Option Int64 := ((zldc2T.getD (o % 100) []).find? (fun e => e.1 == i)).map (fun e => e.2.1)
def zmnT : List MethodName := [⟨"HatterTunes", "<init>", "()V"⟩,
  ⟨"java/lang/Object", "<init>", "()V"⟩,
  ⟨"HatterTunes$Shop", "<init>", "()V"⟩,
  ⟨"HatterTunes$House", "<init>", "(LHatterTunes$Shop;)V"⟩,
  ⟨"HatterTunes$Rows", "<init>", "(I)V"⟩,
  ⟨"HatterTunes$Text", "<init>", "()V"⟩,
  ⟨"HatterTunes$Actor", "<init>", "()V"⟩,
  ⟨"HatterTunes$Choir", "<init>", "()V"⟩,
  ⟨"HatterTunes$Tape", "<init>", "()V"⟩,
  ⟨"HatterTunes", "head", "(II)I"⟩,
  ⟨"HatterTunes", "isBelow", "(II)Z"⟩,
  ⟨"HatterTunes$House", "addHead", "(II)I"⟩,
  ⟨"HatterTunes$House", "setAllBumps", "(II)V"⟩,
  ⟨"HatterTunes$House", "setBump", "(III)V"⟩,
  ⟨"HatterTunes", "of", "(II)I"⟩,
  ⟨"HatterTunes", "isHead", "(I)Z"⟩,
  ⟨"HatterTunes$House", "soundOf", "(I)I"⟩,
  ⟨"HatterTunes$House", "noteOf", "(II)I"⟩,
  ⟨"HatterTunes$House", "pitchOf", "(II)I"⟩,
  ⟨"HatterTunes$House", "tellFacts", "(II)V"⟩,
  ⟨"HatterTunes$House", "bumpOf", "(II)I"⟩,
  ⟨"HatterTunes$Shop", "sharpness", "([I)I"⟩,
  ⟨"java/lang/Math", "min", "(II)I"⟩,
  ⟨"java/lang/Math", "floorMod", "(II)I"⟩,
  ⟨"HatterTunes$House", "heardIn", "(I)I"⟩,
  ⟨"HatterTunes$House", "tuneAsNumber", "()I"⟩,
  ⟨"HatterTunes$Rows", "at", "(II)I"⟩,
  ⟨"HatterTunes", "whenHeard", "(I)I"⟩,
  ⟨"HatterTunes$House", "copyFrom", "(LHatterTunes$House;)V"⟩,
  ⟨"HatterTunes$Rows", "copyFrom", "(LHatterTunes$Rows;)V"⟩,
  ⟨"HatterTunes$House", "goYear", "()V"⟩,
  ⟨"HatterTunes$House", "raiseBump", "(II)V"⟩,
  ⟨"HatterTunes", "leastPress", "(I)I"⟩,
  ⟨"HatterTunes", "wouldHear", "(II)Z"⟩,
  ⟨"HatterTunes", "ofBump", "(III)I"⟩,
  ⟨"HatterTunes", "possibleBumps", "(II)I"⟩,
  ⟨"HatterTunes$House", "bearsOutSeen", "(I)Z"⟩,
  ⟨"HatterTunes", "press", "(III)I"⟩,
  ⟨"HatterTunes", "note", "(I)I"⟩,
  ⟨"HatterTunes$Rows", "empty", "()I"⟩,
  ⟨"HatterTunes$Rows", "isFull", "()Z"⟩,
  ⟨"HatterTunes$Rows", "add", "(IIII)I"⟩,
  ⟨"HatterTunes", "row", "(III)I"⟩,
  ⟨"HatterTunes", "feed", "(I)I"⟩,
  ⟨"HatterTunes$Text", "isFull", "()Z"⟩,
  ⟨"HatterTunes$Text", "add", "(I)I"⟩,
  ⟨"HatterTunes", "shop", "()I"⟩,
  ⟨"HatterTunes$Text", "parseInto", "(LHatterTunes$Shop;)I"⟩,
  ⟨"HatterTunes$Shop", "clear", "()V"⟩,
  ⟨"HatterTunes$Text", "isClause", "()Z"⟩,
  ⟨"HatterTunes$Text", "peek", "()I"⟩,
  ⟨"HatterTunes$Text", "isWord", "(Ljava/lang/String;)Z"⟩,
  ⟨"java/lang/String", "length", "()I"⟩,
  ⟨"java/lang/String", "coder", "()B"⟩,
  ⟨"java/lang/String", "charAt", "(I)C"⟩,
  ⟨"java/lang/String", "isLatin1", "()Z"⟩,
  ⟨"java/lang/StringLatin1", "charAt", "([BI)C"⟩,
  ⟨"java/lang/String", "checkIndex", "(II)V"⟩,
  ⟨"jdk/internal/util/Preconditions", "checkIndex", "(IILjava/util/function/BiFunction;)I"⟩,
  ⟨"java/lang/StringUTF16", "charAt", "([BI)C"⟩,
  ⟨"java/lang/StringUTF16", "checkIndex", "(I[B)V"⟩,
  ⟨"java/lang/StringUTF16", "length", "([B)I"⟩,
  ⟨"java/lang/StringUTF16", "getChar", "([BI)C"⟩,
  ⟨"HatterTunes$Text", "take", "(I)Z"⟩,
  ⟨"HatterTunes$Text", "isBend", "(I)Z"⟩,
  ⟨"HatterTunes$Text", "isNumber", "()Z"⟩,
  ⟨"HatterTunes$Text", "isDigit", "(I)Z"⟩,
  ⟨"HatterTunes$Text", "isEither", "(I)Z"⟩,
  ⟨"HatterTunes$Text", "isBoth", "(I)Z"⟩,
  ⟨"HatterTunes$Text", "isFactor", "(I)Z"⟩,
  ⟨"HatterTunes$Shop", "addStep", "(III)V"⟩,
  ⟨"HatterTunes$Text", "isTest", "()Z"⟩,
  ⟨"HatterTunes$Text", "letterNumber", "(I)I"⟩,
  ⟨"HatterTunes$Text", "relationStep", "(I)I"⟩,
  ⟨"HatterTunes$Text", "isGrowth", "()Z"⟩,
  ⟨"HatterTunes", "told", "(I)I"⟩,
  ⟨"HatterTunes$House", "heardBits", "()I"⟩,
  ⟨"HatterTunes$House", "notesTogether", "()I"⟩,
  ⟨"HatterTunes", "pass", "(I)I"⟩,
  ⟨"HatterTunes$House", "goYears", "(I)V"⟩,
  ⟨"HatterTunes", "on", "(III)I"⟩,
  ⟨"HatterTunes", "shared", "(II)I"⟩,
  ⟨"HatterTunes", "sharedNotes", "(II)I"⟩,
  ⟨"HatterTunes", "anthem", "(II)I"⟩,
  ⟨"HatterTunes$Choir", "seek", "(LHatterTunes$House;I)V"⟩,
  ⟨"java/lang/Integer", "bitCount", "(I)I"⟩,
  ⟨"HatterTunes$Choir", "extend", "(III)V"⟩,
  ⟨"HatterTunes$Choir", "keepIfBetter", "(I)V"⟩,
  ⟨"HatterTunes$Choir", "length", "()I"⟩,
  ⟨"HatterTunes", "see", "(IIII)I"⟩,
  ⟨"HatterTunes", "can", "(II)I"⟩,
  ⟨"HatterTunes", "odds", "(II)J"⟩,
  ⟨"HatterTunes", "pressesHeard", "(I)I"⟩,
  ⟨"HatterTunes", "lowestTerm", "(III)J"⟩,
  ⟨"HatterTunes", "commonDivisor", "(II)I"⟩,
  ⟨"HatterTunes", "mean", "(II)J"⟩,
  ⟨"HatterTunes", "plan", "(II)I"⟩,
  ⟨"HatterTunes", "ends", "(I)I"⟩,
  ⟨"HatterTunes$House", "followPlan", "()V"⟩,
  ⟨"HatterTunes$House", "raiseAllBumps", "(I)V"⟩,
  ⟨"HatterTunes", "book", "(II)I"⟩,
  ⟨"HatterTunes", "looked", "()I"⟩,
  ⟨"HatterTunes", "judge", "(II)I"⟩,
  ⟨"HatterTunes$Tape", "holds", "()Z"⟩,
  ⟨"HatterTunes$Tape", "hasPlace", "(I)Z"⟩,
  ⟨"HatterTunes", "image", "()I"⟩,
  ⟨"HatterTunes", "undo", "()I"⟩,
  ⟨"HatterTunes", "act", "(III)I"⟩,
  ⟨"HatterTunes$Actor", "forget", "()V"⟩,
  ⟨"HatterTunes$Actor", "perform", "(IIIII)I"⟩,
  ⟨"HatterTunes$Actor", "does", "(IIII)I"⟩,
  ⟨"HatterTunes$Actor", "bodyFrom", "(II)I"⟩,
  ⟨"HatterTunes$Actor", "keepBody", "(I)V"⟩,
  ⟨"HatterTunes", "trace", "(I)I"⟩,
  ⟨"HatterTunes$Actor", "keptBodies", "()I"⟩,
  ⟨"HatterTunes", "taken", "(II)I"⟩,
  ⟨"HatterTunes", "isUnder", "(II)Z"⟩,
  ⟨"HatterTunes", "count", "(I)I"⟩,
  ⟨"HatterTunes", "tape", "(III)I"⟩,
  ⟨"HatterTunes$Tape", "drop", "()I"⟩,
  ⟨"HatterTunes$Tape", "become", "(II)I"⟩,
  ⟨"HatterTunes", "item", "(IIJ)I"⟩,
  ⟨"HatterTunes$Tape", "set", "(IJ)I"⟩,
  ⟨"HatterTunes$Tape", "cut", "(J)J"⟩,
  ⟨"HatterTunes", "read", "(II)J"⟩,
  ⟨"HatterTunes", "shift", "(IIIII)I"⟩,
  ⟨"HatterTunes$Tape", "hasStretch", "(II)Z"⟩,
  ⟨"HatterTunesModel", "<init>", "()V"⟩,
  ⟨"HatterTunesModel", "head", "(II)I"⟩,
  ⟨"HatterTunesModel", "within", "(III)Z"⟩,
  ⟨"HatterTunesModel", "of", "(II)I"⟩,
  ⟨"HatterTunesModel", "isOne", "(I)Z"⟩,
  ⟨"HatterTunesModel", "isBump", "(I)Z"⟩,
  ⟨"HatterTunesModel", "noteOf", "(II)I"⟩,
  ⟨"HatterTunesModel", "pitch", "(II)I"⟩,
  ⟨"HatterTunesModel", "sum", "(II)I"⟩,
  ⟨"HatterTunesModel", "isTrue", "(III)Z"⟩,
  ⟨"HatterTunesModel", "letterOf", "(III)I"⟩,
  ⟨"HatterTunesModel", "bumpsOf", "(II)I"⟩,
  ⟨"HatterTunesModel", "isSeen", "(I)Z"⟩,
  ⟨"HatterTunesModel", "on", "(III)I"⟩,
  ⟨"HatterTunesModel", "keep", "([I)V"⟩,
  ⟨"HatterTunesModel", "goesYear", "()V"⟩,
  ⟨"HatterTunesModel", "growBy", "()I"⟩,
  ⟨"HatterTunesModel", "soundOf", "(I)I"⟩,
  ⟨"HatterTunesModel", "again", "([I)V"⟩,
  ⟨"HatterTunesModel", "heard", "(I)I"⟩,
  ⟨"HatterTunesModel", "sounds", "(I[I)V"⟩,
  ⟨"HatterTunesModel", "when", "(I)I"⟩,
  ⟨"HatterTunesModel", "presses", "(I)I"⟩,
  ⟨"HatterTunesModel", "press", "(III)I"⟩,
  ⟨"HatterTunesModel", "isNote", "(I)Z"⟩,
  ⟨"HatterTunesModel", "note", "(I)I"⟩,
  ⟨"HatterTunesModel", "row", "(III)I"⟩,
  ⟨"HatterTunesModel", "feed", "(I)I"⟩,
  ⟨"HatterTunesModel", "shop", "()I"⟩,
  ⟨"HatterTunesModel", "isClause", "(I)Z"⟩,
  ⟨"HatterTunesModel", "isAll", "(Ljava/lang/String;)Z"⟩,
  ⟨"HatterTunesModel", "is", "(I)Z"⟩,
  ⟨"HatterTunesModel", "isNumber", "()Z"⟩,
  ⟨"HatterTunesModel", "isDigit", "()Z"⟩,
  ⟨"HatterTunesModel", "isE", "()Z"⟩,
  ⟨"HatterTunesModel", "isT", "()Z"⟩,
  ⟨"HatterTunesModel", "isF", "()Z"⟩,
  ⟨"HatterTunesModel", "isOpened", "(I)Z"⟩,
  ⟨"HatterTunesModel", "codes", "(I)Z"⟩,
  ⟨"HatterTunesModel", "isTest", "()Z"⟩,
  ⟨"java/lang/String", "indexOf", "(I)I"⟩,
  ⟨"java/lang/String", "indexOf", "(II)I"⟩,
  ⟨"java/lang/StringLatin1", "indexOf", "([BIII)I"⟩,
  ⟨"java/lang/StringLatin1", "canEncode", "(I)Z"⟩,
  ⟨"java/lang/Math", "max", "(II)I"⟩,
  ⟨"java/lang/StringLatin1", "indexOfChar", "([BIII)I"⟩,
  ⟨"java/lang/StringUTF16", "indexOf", "([BIII)I"⟩,
  ⟨"java/lang/StringUTF16", "indexOfChar", "([BIII)I"⟩,
  ⟨"java/lang/StringUTF16", "checkBoundsBeginEnd", "(II[B)V"⟩,
  ⟨"java/lang/String", "checkBoundsBeginEnd", "(III)V"⟩,
  ⟨"jdk/internal/util/Preconditions", "checkFromToIndex", "(IIILjava/util/function/BiFunction;)I"⟩,
  ⟨"java/lang/StringUTF16", "indexOfCharUnsafe", "([BIII)I"⟩,
  ⟨"java/lang/StringUTF16", "indexOfSupplementary", "([BIII)I"⟩,
  ⟨"java/lang/Character", "isValidCodePoint", "(I)Z"⟩,
  ⟨"java/lang/Character", "highSurrogate", "(I)C"⟩,
  ⟨"java/lang/Character", "lowSurrogate", "(I)C"⟩,
  ⟨"HatterTunesModel", "told", "(I)I"⟩,
  ⟨"HatterTunesModel", "allHeard", "()I"⟩,
  ⟨"HatterTunesModel", "allNotes", "()I"⟩,
  ⟨"HatterTunesModel", "pass", "(I)I"⟩,
  ⟨"HatterTunesModel", "shared", "(II)I"⟩,
  ⟨"HatterTunesModel", "share", "(II)I"⟩,
  ⟨"HatterTunesModel", "anthem", "(II)I"⟩,
  ⟨"HatterTunesModel", "rowsFrom", "(III)V"⟩,
  ⟨"HatterTunesModel", "see", "(IIII)I"⟩,
  ⟨"HatterTunesModel", "can", "(II)I"⟩,
  ⟨"HatterTunesModel", "odds", "(II)J"⟩,
  ⟨"HatterTunesModel", "part", "(JJI)J"⟩,
  ⟨"java/lang/Math", "abs", "(J)J"⟩,
  ⟨"HatterTunesModel", "mean", "(II)J"⟩,
  ⟨"HatterTunesModel", "plan", "(II)I"⟩,
  ⟨"HatterTunesModel", "ends", "(I)I"⟩,
  ⟨"HatterTunesModel", "book", "(II)I"⟩,
  ⟨"HatterTunesModel", "looked", "()I"⟩,
  ⟨"HatterTunesModel", "judge", "(II)I"⟩,
  ⟨"HatterTunesModel", "image", "()I"⟩,
  ⟨"HatterTunesModel", "undo", "()I"⟩,
  ⟨"HatterTunesModel", "act", "(III)I"⟩,
  ⟨"HatterTunesModel", "hums", "(III)I"⟩,
  ⟨"HatterTunesModel", "ran", "(I)V"⟩,
  ⟨"HatterTunesModel", "above", "(I)I"⟩,
  ⟨"HatterTunesModel", "plays", "(III)I"⟩,
  ⟨"HatterTunesModel", "tells", "(III)I"⟩,
  ⟨"HatterTunesModel", "trace", "(I)I"⟩,
  ⟨"HatterTunesModel", "taken", "(II)I"⟩,
  ⟨"HatterTunesModel", "count", "(I)I"⟩,
  ⟨"HatterTunesModel", "tape", "(III)I"⟩,
  ⟨"HatterTunesModel", "isTape", "(I)Z"⟩,
  ⟨"HatterTunesModel", "item", "(IIJ)I"⟩,
  ⟨"HatterTunesModel", "kept", "(IJ)J"⟩,
  ⟨"HatterTunesModel", "read", "(II)J"⟩,
  ⟨"HatterTunesModel", "shift", "(IIIII)I"⟩]
def zmn (z : Nat) : MethodName := zmnT.getD z ⟨"", "", ""⟩
def zbT : List ByteArray := [prog_1_method_1_code, object_method_1_code, prog_6_method_1_code, prog_4_method_1_code, prog_5_method_1_code, prog_8_method_1_code, prog_2_method_1_code, prog_3_method_1_code, prog_7_method_1_code, prog_1_method_2_code, prog_1_method_43_code, prog_4_method_3_code, prog_4_method_6_code, prog_4_method_5_code, prog_1_method_3_code, prog_1_method_42_code, prog_4_method_14_code, prog_4_method_13_code, prog_4_method_11_code, prog_4_method_12_code, prog_4_method_4_code, prog_6_method_4_code, prog_13_method_69_code, prog_13_method_50_code, prog_4_method_15_code, prog_4_method_16_code, prog_5_method_5_code, prog_1_method_5_code, prog_4_method_2_code, prog_5_method_6_code, prog_4_method_10_code, prog_4_method_7_code, prog_1_method_6_code, prog_1_method_7_code, prog_1_method_4_code, prog_1_method_8_code, prog_4_method_19_code, prog_1_method_9_code, prog_1_method_10_code, prog_5_method_4_code, prog_5_method_2_code, prog_5_method_3_code, prog_1_method_11_code, prog_1_method_12_code, prog_8_method_2_code, prog_8_method_3_code, prog_1_method_13_code, prog_8_method_4_code, prog_6_method_2_code, prog_8_method_5_code, prog_8_method_18_code, prog_8_method_16_code, prog_14_method_54_code, prog_14_method_152_code, prog_14_method_56_code, prog_14_method_154_code, prog_15_method_2_code, prog_14_method_155_code, prog_18_method_11_code, prog_16_method_83_code, prog_16_method_91_code, prog_16_method_6_code, prog_16_method_5_code, prog_8_method_17_code, prog_8_method_6_code, prog_8_method_14_code, prog_8_method_15_code, prog_8_method_8_code, prog_8_method_9_code, prog_8_method_10_code, prog_6_method_3_code, prog_8_method_11_code, prog_8_method_12_code, prog_8_method_13_code, prog_8_method_7_code, prog_1_method_14_code, prog_4_method_17_code, prog_4_method_18_code, prog_1_method_15_code, prog_4_method_9_code, prog_1_method_16_code, prog_1_method_17_code, prog_1_method_19_code, prog_1_method_18_code, prog_3_method_2_code, prog_12_method_49_code, prog_3_method_4_code, prog_3_method_5_code, prog_3_method_3_code, prog_1_method_20_code, prog_1_method_21_code, prog_1_method_22_code, prog_1_method_23_code, prog_1_method_25_code, prog_1_method_26_code, prog_1_method_24_code, prog_1_method_27_code, prog_1_method_28_code, prog_4_method_20_code, prog_4_method_8_code, prog_1_method_29_code, prog_1_method_30_code, prog_1_method_31_code, prog_7_method_2_code, prog_7_method_3_code, prog_1_method_32_code, prog_1_method_33_code, prog_1_method_34_code, prog_2_method_2_code, prog_2_method_4_code, prog_2_method_5_code, prog_2_method_6_code, prog_2_method_7_code, prog_1_method_35_code, prog_2_method_3_code, prog_1_method_36_code, prog_1_method_44_code, prog_1_method_37_code, prog_1_method_38_code, prog_7_method_5_code, prog_7_method_6_code, prog_1_method_39_code, prog_7_method_7_code, prog_7_method_8_code, prog_1_method_40_code, prog_1_method_41_code, prog_7_method_4_code, prog_10_method_1_code, prog_10_method_6_code, prog_10_method_2_code, prog_10_method_7_code, prog_10_method_3_code, prog_10_method_4_code, prog_10_method_29_code, prog_10_method_28_code, prog_10_method_26_code, prog_10_method_25_code, prog_10_method_24_code, prog_10_method_47_code, prog_10_method_46_code, prog_10_method_38_code, prog_10_method_57_code, prog_10_method_35_code, prog_10_method_27_code, prog_10_method_31_code, prog_10_method_58_code, prog_10_method_32_code, prog_10_method_30_code, prog_10_method_39_code, prog_10_method_44_code, prog_10_method_8_code, prog_10_method_5_code, prog_10_method_9_code, prog_10_method_10_code, prog_10_method_11_code, prog_10_method_23_code, prog_10_method_22_code, prog_10_method_15_code, prog_10_method_12_code, prog_10_method_14_code, prog_10_method_13_code, prog_10_method_21_code, prog_10_method_20_code, prog_10_method_19_code, prog_10_method_18_code, prog_10_method_16_code, prog_10_method_17_code, prog_14_method_79_code, prog_14_method_80_code, prog_15_method_22_code, prog_15_method_4_code, prog_13_method_65_code, prog_15_method_23_code, prog_16_method_40_code, prog_16_method_47_code, prog_16_method_93_code, prog_14_method_158_code, prog_18_method_12_code, prog_16_method_48_code, prog_16_method_49_code, prog_11_method_11_code, prog_11_method_28_code, prog_11_method_29_code, prog_10_method_36_code, prog_10_method_33_code, prog_10_method_34_code, prog_10_method_37_code, prog_10_method_41_code, prog_10_method_40_code, prog_10_method_43_code, prog_10_method_42_code, prog_10_method_45_code, prog_10_method_48_code, prog_10_method_50_code, prog_10_method_49_code, prog_13_method_61_code, prog_10_method_51_code, prog_10_method_52_code, prog_10_method_53_code, prog_10_method_54_code, prog_10_method_55_code, prog_10_method_56_code, prog_10_method_59_code, prog_10_method_60_code, prog_10_method_66_code, prog_10_method_63_code, prog_10_method_61_code, prog_10_method_62_code, prog_10_method_64_code, prog_10_method_65_code, prog_10_method_67_code, prog_10_method_68_code, prog_10_method_69_code, prog_10_method_71_code, prog_10_method_70_code, prog_10_method_73_code, prog_10_method_72_code, prog_10_method_74_code, prog_10_method_75_code]
def zb (z : Nat) : ByteArray := zbT.getD z ByteArray.empty
def zmlT : List Nat := [2, 1, 1, 2, 2, 1, 1, 1, 1, 3, 2, 5, 4, 4, 3, 2, 4, 3, 6, 3, 3, 7, 2, 3, 7, 3, 3, 3, 2, 2, 3, 3, 3, 5, 4, 5, 5, 5, 2, 1, 1, 6, 6, 2, 1, 2, 3, 4, 1, 1, 1, 3, 1, 1, 2, 1, 2, 2, 3, 2, 2, 1, 2, 2, 3, 1, 1, 3, 3, 3, 4, 3, 1, 1, 1, 2, 3, 4, 2, 3, 5, 3, 3, 3, 5, 1, 6, 2, 1, 5, 6, 3, 4, 5, 6, 3, 3, 2, 3, 3, 3, 3, 7, 1, 2, 1, 1, 4, 1, 6, 7, 5, 2, 2, 1, 4, 4, 2, 4, 1, 4, 5, 4, 3, 3, 8, 3, 2, 4, 3, 3, 2, 1, 4, 5, 6, 10, 4, 6, 3, 5, 3, 4, 3, 4, 3, 5, 4, 4, 6, 5, 1, 2, 5, 2, 5, 4, 3, 2, 1, 1, 1, 1, 2, 2, 2, 3, 2, 3, 4, 1, 2, 6, 4, 4, 3, 3, 4, 5, 7, 2, 1, 1, 2, 3, 4, 4, 3, 6, 3, 5, 5, 7, 7, 11, 2, 4, 3, 5, 3, 2, 4, 1, 1, 5, 4, 2, 1, 5, 5, 2, 4, 2, 5, 1, 5, 3, 3, 7]
def zml (z : Nat) : Nat := zmlT.getD z 0
def zoT : List Nat := [107, 117, 104, 102, 103, 106, 100, 101, 105, 7, 7, 2, 2, 2, 7, 7, 2, 2, 2, 2, 2, 4, 13, 13, 2, 2, 3, 7, 2, 3, 2, 2, 7, 7, 7, 7, 2, 7, 7, 3, 3, 3, 7, 7, 6, 6, 7, 6, 4, 6, 6, 6, 10, 10, 10, 10, 11, 10, 14, 15, 15, 15, 15, 6, 6, 6, 6, 6, 6, 6, 4, 6, 6, 6, 6, 7, 2, 2, 7, 2, 7, 7, 7, 7, 1, 12, 1, 1, 1, 7, 7, 7, 7, 7, 7, 7, 7, 7, 2, 2, 7, 7, 7, 5, 5, 7, 7, 7, 0, 0, 0, 0, 0, 7, 0, 7, 7, 7, 7, 5, 5, 7, 5, 5, 7, 7, 5, 108, 8, 8, 8, 8, 8, 8, 8, 8, 8, 8, 8, 8, 8, 8, 8, 8, 8, 8, 8, 8, 8, 8, 8, 8, 8, 8, 8, 8, 8, 8, 8, 8, 8, 8, 8, 8, 8, 8, 8, 10, 10, 11, 11, 13, 11, 15, 15, 15, 10, 14, 15, 15, 16, 16, 16, 8, 8, 8, 8, 8, 8, 8, 8, 8, 8, 8, 8, 13, 8, 8, 8, 8, 8, 8, 8, 8, 8, 8, 8, 8, 8, 8, 8, 8, 8, 8, 8, 8, 8, 8, 8]
def zo (z : Nat) : Nat := zoT.getD z 0
def znaT : List Nat := [0, 0, 0, 1, 1, 0, 0, 0, 0, 2, 2, 2, 2, 3, 2, 1, 1, 2, 2, 2, 2, 1, 2, 2, 1, 0, 2, 1, 1, 1, 0, 2, 1, 2, 3, 2, 1, 3, 1, 0, 0, 4, 3, 1, 0, 1, 0, 1, 0, 0, 0, 1, 0, 0, 1, 0, 2, 2, 3, 2, 2, 1, 2, 1, 1, 0, 1, 1, 1, 1, 3, 0, 1, 1, 0, 1, 0, 0, 1, 1, 3, 2, 2, 2, 2, 1, 3, 1, 0, 4, 2, 2, 1, 3, 2, 2, 2, 1, 0, 1, 2, 0, 2, 0, 1, 0, 0, 3, 0, 5, 4, 2, 1, 1, 0, 2, 2, 1, 3, 0, 2, 3, 2, 1, 2, 5, 2, 0, 2, 3, 2, 1, 1, 2, 2, 2, 3, 3, 2, 1, 3, 1, 0, 0, 1, 1, 1, 2, 1, 1, 3, 1, 1, 3, 1, 0, 1, 1, 1, 0, 0, 0, 0, 0, 1, 1, 0, 1, 2, 4, 1, 2, 4, 4, 4, 3, 3, 4, 4, 4, 1, 1, 1, 1, 0, 0, 1, 2, 2, 2, 3, 4, 2, 2, 3, 1, 2, 2, 1, 2, 0, 2, 0, 0, 3, 3, 1, 1, 3, 3, 1, 2, 1, 3, 1, 3, 2, 2, 5]
def zna (z : Nat) : Nat := znaT.getD z 0
def zrtT : List Nat := [0, 0, 0, 0, 0, 0, 0, 0, 0, 1, 2, 1, 0, 0, 1, 2, 1, 1, 1, 0, 1, 1, 1, 1, 1, 1, 1, 1, 0, 0, 0, 0, 1, 2, 1, 1, 2, 1, 1, 1, 2, 1, 1, 1, 2, 1, 1, 1, 0, 2, 1, 2, 1, 5, 3, 2, 3, 0, 1, 3, 0, 1, 3, 2, 2, 2, 2, 2, 2, 2, 0, 2, 1, 1, 2, 1, 1, 1, 1, 0, 1, 1, 1, 1, 0, 1, 0, 0, 1, 1, 1, 4, 1, 4, 1, 4, 1, 1, 0, 0, 1, 1, 1, 2, 2, 1, 1, 1, 0, 1, 1, 1, 0, 1, 1, 1, 2, 1, 1, 1, 1, 1, 1, 4, 4, 1, 2, 0, 1, 2, 1, 2, 2, 1, 1, 1, 2, 1, 1, 2, 1, 0, 0, 1, 1, 0, 1, 0, 1, 1, 1, 2, 1, 1, 1, 1, 2, 2, 2, 2, 2, 2, 2, 2, 2, 2, 2, 1, 1, 1, 2, 1, 1, 1, 1, 0, 0, 1, 1, 1, 2, 3, 3, 1, 1, 1, 1, 1, 1, 1, 0, 1, 1, 4, 4, 4, 4, 1, 1, 1, 1, 1, 1, 1, 1, 1, 0, 1, 1, 1, 1, 1, 1, 1, 2, 1, 4, 4, 1]
def zrt (z : Nat) : Nat := zrtT.getD z 0
def zrcT : List (Nat × Nat) := [(17, 11), (0, 0), (14, 5), (12, 13), (13, 2), (16, 5), (10, 5), (11, 6), (15, 3), (17, 11), (0, 0), (12, 13), (12, 13), (12, 13), (17, 11), (17, 11), (12, 13), (12, 13), (12, 13), (12, 13), (12, 13), (14, 5), (0, 0), (0, 0), (12, 13), (12, 13), (13, 2), (17, 11), (12, 13), (13, 2), (12, 13), (12, 13), (17, 11), (17, 11), (17, 11), (17, 11), (12, 13), (17, 11), (17, 11), (13, 2), (13, 2), (13, 2), (17, 11), (17, 11), (16, 5), (16, 5), (17, 11), (16, 5), (14, 5), (16, 5), (16, 5), (16, 5), (20, 2), (20, 2), (20, 2), (20, 2), (0, 0), (0, 0), (0, 0), (0, 0), (0, 0), (0, 0), (0, 0), (16, 5), (16, 5), (16, 5), (0, 0), (16, 5), (16, 5), (16, 5), (14, 5), (16, 5), (0, 0), (0, 0), (16, 5), (17, 11), (12, 13), (12, 13), (17, 11), (12, 13), (17, 11), (17, 11), (0, 0), (17, 11), (11, 6), (0, 0), (11, 6), (11, 6), (11, 6), (17, 11), (17, 11), (17, 11), (17, 11), (0, 0), (0, 0), (17, 11), (17, 11), (17, 11), (12, 13), (12, 13), (17, 11), (17, 11), (17, 11), (15, 3), (15, 3), (17, 11), (17, 11), (17, 11), (10, 5), (10, 5), (10, 5), (0, 0), (10, 5), (17, 11), (10, 5), (17, 11), (0, 0), (17, 11), (17, 11), (15, 3), (15, 3), (17, 11), (15, 3), (15, 3), (17, 11), (17, 11), (15, 3), (18, 49), (18, 49), (0, 0), (18, 49), (18, 49), (0, 0), (18, 49), (18, 49), (18, 49), (18, 49), (18, 49), (18, 49), (18, 49), (18, 49), (18, 49), (18, 49), (18, 49), (18, 49), (18, 49), (18, 49), (18, 49), (18, 49), (18, 49), (18, 49), (0, 0), (18, 49), (18, 49), (18, 49), (18, 49), (18, 49), (18, 49), (18, 49), (18, 49), (18, 49), (18, 49), (18, 49), (18, 49), (18, 49), (18, 49), (18, 49), (20, 2), (20, 2), (0, 0), (0, 0), (0, 0), (0, 0), (0, 0), (0, 0), (0, 0), (0, 0), (0, 0), (0, 0), (0, 0), (0, 0), (0, 0), (0, 0), (18, 49), (18, 49), (18, 49), (18, 49), (18, 49), (18, 49), (18, 49), (18, 49), (18, 49), (18, 49), (18, 49), (0, 0), (0, 0), (18, 49), (18, 49), (18, 49), (18, 49), (18, 49), (18, 49), (18, 49), (18, 49), (18, 49), (18, 49), (18, 49), (0, 0), (18, 49), (18, 49), (18, 49), (18, 49), (18, 49), (18, 49), (0, 0), (18, 49), (0, 0), (18, 49), (18, 49)]
def zrc (z : Nat) : Nat × Nat := zrcT.getD z (0, 0)
def zretT : Nat → Option FieldType := fun t => match t with | 0 => none | 1 => some .int | 2 => some .boolean | 3 => some .char | 4 => some .long | _ => some .byte
def zmthT : List (List (Nat × Nat × Nat × Nat)) := [[(3, 9, 1, 220), (34, 0, 110, 746), (38, 2, 111, 750), (48, 5, 10, 753), (41, 0, 112, 758), (19, 11, 22, 770)], [(3, 9, 1, 244), (24, 2, 85, 640), (40, 0, 16, 646), (43, 5, 82, 647), (47, 0, 86, 648), (51, 0, 87, 652), (55, 10, 0, 656)], [(3, 9, 1, 121), (32, 1, 4, 124), (69, 0, 12, 330), (73, 0, 13, 334), (110, 0, 17, 350), (104, 0, 18, 354), (97, 0, 19, 358), (77, 0, 20, 362), (100, 0, 21, 366), (92, 11, 22, 370), (107, 14, 23, 373), (114, 0, 25, 380), (125, 0, 26, 384), (118, 0, 16, 388), (52, 10, 0, 399), (58, 0, 29, 402), (81, 0, 31, 412), (84, 0, 30, 440), (128, 0, 24, 606), (131, 0, 99, 700)], [(1, 9, 1, 127), (17, 11, 22, 406), (23, 10, 0, 407)], [(3, 9, 1, 95)], [(3, 9, 1, 270), (22, 5, 10, 724), (26, 0, 123, 803)], [(3, 9, 1, 194), (19, 0, 48, 485), (31, 0, 49, 489), (39, 0, 50, 493), (45, 0, 51, 498), (94, 0, 52, 502), (98, 0, 54, 512), (35, 0, 63, 550), (49, 0, 64, 554), (59, 0, 65, 558), (91, 2, 66, 562), (65, 0, 67, 565), (75, 0, 68, 569), (78, 0, 69, 573), (68, 0, 70, 577), (81, 0, 71, 581), (84, 2, 72, 585), (88, 2, 73, 588), (56, 0, 74, 593)], [(5, 9, 1, 87), (13, 4, 2, 92), (20, 1, 3, 118), (35, 4, 5, 191), (52, 4, 6, 217), (59, 4, 7, 241), (64, 4, 8, 267), (65, 2, 10, 323), (73, 0, 11, 326), (77, 0, 15, 342), (91, 0, 16, 346), (95, 0, 24, 376), (98, 0, 27, 391), (120, 0, 28, 395), (124, 0, 30, 408), (101, 0, 32, 416), (127, 0, 33, 420), (130, 0, 13, 424), (108, 0, 20, 425), (104, 0, 34, 426), (111, 0, 17, 430), (114, 0, 18, 431), (117, 0, 35, 432), (134, 0, 36, 436), (141, 0, 39, 449), (147, 0, 40, 453), (151, 0, 41, 457), (158, 0, 44, 469), (159, 0, 45, 473), (164, 0, 47, 481), (177, 0, 76, 602), (180, 0, 77, 607), (184, 0, 26, 611), (187, 0, 79, 616), (191, 2, 82, 628), (194, 0, 84, 636), (198, 0, 88, 657), (213, 0, 92, 674), (216, 2, 93, 678), (220, 2, 94, 681), (226, 0, 98, 696), (232, 0, 103, 716), (238, 0, 104, 720), (243, 11, 22, 725), (256, 0, 108, 738), (259, 0, 109, 742), (263, 0, 114, 766), (269, 2, 116, 775), (276, 0, 119, 787), (279, 0, 120, 791), (282, 0, 122, 799), (286, 0, 126, 815), (289, 10, 0, 819)], [(3, 9, 1, 825), (117, 2, 129, 979), (121, 0, 131, 986), (125, 2, 132, 990), (128, 0, 133, 993), (132, 0, 134, 997), (245, 0, 135, 1001), (242, 0, 136, 1005), (238, 0, 137, 1009), (248, 11, 22, 1013), (135, 0, 138, 1014), (292, 0, 139, 1018), (289, 0, 140, 1022), (269, 0, 141, 1026), (266, 0, 142, 1030), (257, 0, 143, 1034), (138, 0, 144, 1038), (273, 0, 145, 1042), (142, 0, 146, 1046), (253, 0, 147, 1050), (145, 0, 148, 1054), (148, 0, 149, 1058), (151, 2, 151, 1066), (232, 0, 156, 1085), (221, 0, 157, 1090), (173, 0, 52, 1094), (178, 0, 54, 1095), (182, 0, 158, 1096), (195, 0, 159, 1102), (169, 0, 160, 1106), (210, 0, 161, 1110), (216, 0, 162, 1114), (207, 0, 163, 1118), (204, 0, 164, 1122), (198, 0, 165, 1126), (213, 0, 166, 1130), (190, 0, 167, 1135), (260, 0, 184, 1197), (263, 0, 185, 1201), (276, 0, 188, 1214), (282, 0, 190, 1222), (303, 2, 194, 1240), (295, 13, 195, 1243), (324, 0, 205, 1282), (320, 0, 206, 1286), (327, 2, 207, 1290), (330, 0, 208, 1293), (333, 0, 209, 1297), (336, 2, 214, 1317), (339, 2, 216, 1324)], [(9, 1, 0, 84), (13, 0, 9, 319), (18, 0, 14, 338), (22, 0, 37, 441), (27, 0, 38, 445), (32, 0, 42, 461), (36, 0, 43, 465), (40, 0, 46, 477), (45, 0, 75, 598), (49, 0, 78, 612), (53, 0, 80, 620), (57, 0, 81, 624), (61, 0, 83, 632), (65, 0, 89, 661), (70, 0, 90, 665), (74, 0, 91, 669), (79, 0, 95, 684), (83, 0, 96, 688), (87, 0, 97, 692), (91, 0, 100, 704), (95, 0, 101, 708), (99, 0, 102, 712), (103, 0, 105, 726), (107, 0, 106, 730), (111, 0, 107, 734), (115, 0, 113, 762), (119, 0, 115, 771), (123, 0, 117, 779), (127, 0, 118, 783), (133, 0, 121, 795), (138, 0, 124, 807), (142, 0, 125, 811), (12, 1, 127, 822), (17, 0, 128, 975), (21, 0, 130, 982), (26, 0, 150, 1062), (31, 0, 152, 1069), (35, 0, 153, 1073), (39, 0, 154, 1077), (44, 0, 155, 1081), (48, 0, 183, 1193), (52, 0, 186, 1205), (56, 0, 140, 1209), (60, 0, 187, 1210), (64, 0, 189, 1218), (69, 0, 191, 1226), (73, 0, 192, 1230), (78, 0, 193, 1234), (82, 0, 196, 1246), (86, 0, 197, 1250), (90, 0, 198, 1254), (94, 0, 199, 1258), (98, 0, 200, 1262), (102, 0, 201, 1266), (106, 0, 202, 1270), (110, 0, 203, 1274), (114, 0, 204, 1278), (118, 0, 210, 1301), (122, 0, 211, 1305), (126, 0, 212, 1309), (130, 0, 213, 1313), (137, 0, 215, 1320), (141, 0, 217, 1327), (146, 0, 218, 1331)], [(335, 0, 53, 506), (492, 0, 55, 516), (495, 2, 56, 520), (1059, 2, 58, 528), (498, 2, 59, 531), (633, 0, 168, 1139), (505, 0, 52, 1143), (637, 2, 169, 1144), (640, 2, 173, 1157), (1062, 2, 177, 1172)], [(9, 2, 57, 523), (88, 2, 170, 1147), (92, 12, 171, 1150), (38, 11, 22, 1153), (95, 2, 172, 1154)], [], [], [], [(67, 2, 60, 534), (48, 2, 61, 537), (414, 2, 57, 540), (71, 2, 62, 541), (224, 12, 171, 1160), (183, 11, 22, 1161), (228, 2, 174, 1163), (96, 2, 175, 1166), (241, 2, 176, 1169), (244, 2, 178, 1175), (232, 2, 179, 1178), (164, 2, 180, 1181), (157, 2, 181, 1184), (161, 2, 182, 1188)], [], [], []]
def zmth (o i : Nat) : Option (Nat × Nat) := ((zmthT.getD (o % 100) []).find? (fun e => e.1 == i)).map (fun e => (e.2.1, e.2.2.1))
def zplT : List (Nat × Nat × Nat × Nat) := [(86, 85, 0, 65), (89, 88, 0, 0), (94, 93, 0, 66), (120, 119, 0, 67), (126, 125, 0, 68), (193, 192, 0, 69), (219, 218, 0, 70), (243, 242, 0, 71), (269, 268, 0, 72), (322, 320, 321, 65), (325, 324, 0, 65), (329, 327, 328, 67), (333, 332, 0, 67), (337, 335, 336, 67), (341, 339, 340, 65), (345, 344, 1, 65), (349, 347, 348, 67), (353, 351, 352, 67), (357, 355, 356, 67), (361, 360, 2, 67), (365, 363, 364, 67), (369, 367, 368, 66), (372, 371, 0, 74), (375, 374, 0, 74), (379, 377, 378, 67), (383, 382, 3, 67), (387, 385, 386, 68), (394, 393, 4, 65), (398, 396, 397, 67), (405, 403, 404, 68), (411, 409, 410, 67), (415, 414, 5, 67), (419, 418, 6, 65), (423, 422, 7, 65), (429, 428, 8, 65), (435, 434, 9, 65), (439, 437, 438, 67), (444, 442, 443, 65), (448, 446, 447, 65), (452, 450, 451, 68), (456, 454, 455, 68), (460, 458, 459, 68), (464, 462, 463, 65), (468, 466, 467, 65), (472, 470, 471, 69), (476, 474, 475, 69), (480, 478, 479, 65), (484, 482, 483, 69), (488, 486, 487, 66), (492, 491, 10, 69), (496, 495, 11, 69), (501, 500, 12, 69), (505, 503, 504, 76), (509, 507, 508, 76), (515, 513, 514, 76), (519, 517, 518, 76), (522, 521, 0, 77), (525, 524, 0, 76), (530, 529, 0, 78), (533, 532, 0, 79), (536, 535, 0, 79), (539, 538, 0, 79), (543, 542, 0, 79), (553, 552, 13, 69), (557, 556, 14, 69), (561, 560, 15, 69), (564, 563, 0, 69), (568, 567, 16, 69), (572, 571, 17, 69), (576, 575, 18, 69), (580, 578, 579, 66), (584, 583, 19, 69), (587, 586, 0, 69), (590, 589, 0, 69), (596, 595, 20, 69), (601, 599, 600, 65), (605, 603, 604, 67), (610, 608, 609, 67), (615, 613, 614, 65), (619, 617, 618, 67), (623, 621, 622, 65), (627, 625, 626, 65), (630, 629, 0, 65), (635, 633, 634, 65), (639, 637, 638, 71), (642, 641, 0, 81), (651, 650, 21, 71), (655, 654, 22, 71), (660, 658, 659, 71), (664, 662, 663, 65), (668, 666, 667, 65), (672, 670, 671, 65), (677, 676, 23, 65), (680, 679, 0, 65), (683, 682, 0, 65), (687, 685, 686, 65), (691, 689, 690, 65), (695, 693, 694, 65), (699, 697, 698, 67), (703, 702, 24, 67), (707, 705, 706, 65), (711, 709, 710, 65), (715, 713, 714, 65), (719, 717, 718, 72), (723, 721, 722, 72), (729, 727, 728, 65), (733, 731, 732, 65), (737, 735, 736, 65), (741, 739, 740, 70), (745, 743, 744, 70), (749, 748, 25, 70), (752, 751, 0, 70), (761, 760, 26, 70), (765, 763, 764, 65), (769, 767, 768, 70), (774, 772, 773, 65), (777, 776, 0, 65), (782, 780, 781, 65), (786, 784, 785, 65), (790, 788, 789, 72), (794, 792, 793, 72), (798, 796, 797, 65), (802, 800, 801, 72), (806, 805, 27, 72), (810, 808, 809, 65), (814, 812, 813, 65), (818, 816, 817, 72), (824, 823, 0, 73), (978, 976, 977, 73), (981, 980, 0, 73), (985, 983, 984, 73), (989, 988, 28, 73), (992, 991, 0, 73), (996, 995, 29, 73), (1000, 999, 30, 73), (1004, 1003, 31, 73), (1008, 1007, 32, 73), (1012, 1011, 33, 73), (1017, 1016, 34, 73), (1021, 1020, 35, 73), (1025, 1023, 1024, 73), (1029, 1028, 36, 73), (1033, 1032, 37, 73), (1037, 1036, 38, 73), (1041, 1040, 39, 73), (1045, 1044, 40, 73), (1049, 1048, 41, 73), (1053, 1052, 42, 73), (1057, 1056, 43, 73), (1061, 1060, 44, 73), (1065, 1063, 1064, 73), (1068, 1067, 0, 73), (1072, 1070, 1071, 73), (1076, 1074, 1075, 73), (1080, 1078, 1079, 73), (1084, 1082, 1083, 73), (1088, 1087, 45, 73), (1093, 1092, 46, 73), (1099, 1098, 47, 73), (1105, 1104, 48, 73), (1109, 1108, 49, 73), (1113, 1112, 50, 73), (1117, 1116, 51, 73), (1121, 1120, 52, 73), (1125, 1124, 53, 73), (1129, 1128, 54, 73), (1133, 1132, 55, 73), (1138, 1136, 1137, 76), (1142, 1140, 1141, 76), (1146, 1145, 0, 77), (1149, 1148, 0, 77), (1152, 1151, 0, 74), (1156, 1155, 0, 77), (1159, 1158, 0, 79), (1165, 1164, 0, 79), (1168, 1167, 0, 79), (1171, 1170, 0, 76), (1174, 1173, 0, 78), (1177, 1176, 0, 79), (1180, 1179, 0, 79), (1183, 1182, 0, 80), (1186, 1185, 0, 80), (1190, 1189, 0, 80), (1196, 1194, 1195, 73), (1200, 1199, 56, 73), (1204, 1203, 57, 73), (1208, 1206, 1207, 73), (1213, 1211, 1212, 73), (1217, 1216, 58, 73), (1221, 1219, 1220, 73), (1225, 1224, 59, 73), (1229, 1227, 1228, 73), (1233, 1231, 1232, 73), (1237, 1235, 1236, 73), (1242, 1241, 0, 73), (1245, 1244, 0, 74), (1249, 1247, 1248, 73), (1253, 1251, 1252, 73), (1257, 1255, 1256, 73), (1261, 1259, 1260, 73), (1265, 1263, 1264, 73), (1269, 1267, 1268, 73), (1273, 1271, 1272, 73), (1277, 1275, 1276, 73), (1281, 1279, 1280, 73), (1285, 1284, 60, 73), (1289, 1288, 61, 73), (1292, 1291, 0, 73), (1296, 1295, 62, 73), (1300, 1299, 63, 73), (1304, 1302, 1303, 73), (1308, 1306, 1307, 73), (1312, 1310, 1311, 73), (1316, 1314, 1315, 73), (1319, 1318, 0, 73), (1323, 1321, 1322, 73), (1326, 1325, 0, 73), (1330, 1328, 1329, 73), (1334, 1332, 1333, 73)]
def zlayT : List (List Nat) := [[228, 230, 232, 234, 236], [253, 255, 257, 259, 261, 263], [162, 164, 166, 168, 170, 172, 174, 176, 178, 180, 182, 184, 186], [132, 134], [104, 106, 108, 110, 112], [277, 279, 281], [201, 203, 205, 207, 209], [296, 298, 300, 302, 304, 306, 308, 310, 312, 314, 316], [875, 877, 879, 881, 883, 885, 887, 889, 891, 893, 895, 897, 899, 901, 903, 905, 907, 909, 911, 913, 915, 917, 919, 921, 923, 925, 927, 929, 931, 933, 935, 937, 939, 941, 943, 945, 947, 949, 951, 953, 955, 957, 959, 961, 963, 965, 967, 969, 971]]
/-- instantiable, initialized of the own types -/
def zcpT : List (Nat × Nat) := [(216, 70), (240, 71), (117, 67), (123, 68), (91, 66), (266, 72), (190, 69), (83, 65), (821, 73)]
def zarT : List Nat := [115, 974, 284]
def zaoT : List Nat := [212, 214]
/-- arraycopy: native, static, initialized System -/
def zacT : List Nat := [401, 400, 75]
def zbsT : List (Nat × Nat) := [(0, 0), (1, 7), (1, 7), (1, 21), (20, 2), (4, 6), (20, 2), (4, 5), (20, 2), (4, 5), (20, 2), (4, 6), (20, 2), (4, 5), (20, 2), (4, 5), (20, 2), (4, 6), (20, 2), (4, 3)]
def zbvT : List (List Int) := [[], [1, 10, 100, 1000, 10000, 100000, 1000000], [-1, 0, 0, 0, 1, 2, 3], [10, 11, 12, 0, 20, 0, 30, 0, 0, 0, 0, 40, 50, 51, 0, 0, 0, 60, 71, 70, 0], [], [115, 104, 97, 114, 112, 32], [], [102, 108, 97, 116, 32], [], [103, 114, 111, 119, 32], [], [115, 104, 97, 114, 112, 32], [], [102, 108, 97, 116, 32], [], [103, 114, 111, 119, 32], [], [112, 107, 118, 105, 98, 121], [], [60, 61, 62]]
/-- shapes of what was there before: 0 the script, 1 POWERS, 2 ABOVE, 3 BODIES, then a text and its bytes, eight times -/
def zbS (sl : Nat) (a : Nat) : Nat × Nat := if a = 0 then (1, sl) else zbsT.getD a (0, 0)
def zbV (xs : Nat → Int) (a k : Nat) : Int := if a = 0 then xs k else (zbvT.getD a []).getD k 0
def zbP (nl : Option Nat) (a k : Nat) : Option Nat := if a = 30 ∧ k = 0 then nl else if 4 ≤ a ∧ a < 20 ∧ a % 2 = 0 ∧ k = 0 then some (a + 1) else none
/-- laysStatic, initialized of the statics -/
def zlsT : List (Nat × Nat) := [(390, 65), (757, 65), (755, 65), (511, 76), (527, 78)]
/-- stringRef of the texts -/
def zsrT : List Nat := [497, 591, 592, 1089, 1100, 1101, 1134, 1192]
/-! the abstract machine: heap, one step, runs -/
/-- shapes (kind, size); ints; longs; references; how many cells; how many slots. Kinds: 1 int[], 2 boolean[], 3 long[], 4 byte[], 5 Shop[], 6 Tape[], 10 and more an object of an own type, 20 a text -/
def Hp : Type := (Nat → Nat × Nat) × (Nat → Nat → Int) × (Nat → Nat → Int64) × (Nat → Nat → Option Nat) × Nat × Nat
def zS (h : Hp) : Nat → Nat × Nat := h.1
def zV (h : Hp) : Nat → Nat → Int := h.2.1
def zJ (h : Hp) : Nat → Nat → Int64 := h.2.2.1
def zP (h : Hp) : Nat → Nat → Option Nat := h.2.2.2.1
def zN (h : Hp) : Nat := h.2.2.2.2.1
def zM (h : Hp) : Nat := h.2.2.2.2.2
def zsetV (h : Hp) (a k : Nat) (x : Int) : Hp := (zS h, fun b j => if b = a ∧ j = k then x else zV h b j, zJ h, zP h, zN h, zM h)
def zsetJ (h : Hp) (a k : Nat) (x : Int64) : Hp := (zS h, zV h, fun b j => if b = a ∧ j = k then x else zJ h b j, zP h, zN h, zM h)
def zsetP (h : Hp) (a k : Nat) (x : Option Nat) : Hp := (zS h, zV h, zJ h, fun b j => if b = a ∧ j = k then x else zP h b j, zN h, zM h)
def zmk (kd n : Nat) (h : Hp) : Hp := (fun b => if b = 32 + zN h then (kd, n) else zS h b, fun b j => if b = 32 + zN h then 0 else zV h b j, fun b j => if b = 32 + zN h then 0 else zJ h b j, fun b j => if b = 32 + zN h then none else zP h b j, zN h + 1, zM h + n)
def zcpV (h : Hp) (a sp b dp n : Nat) : Hp := (zS h, fun c k => if c = b ∧ dp ≤ k ∧ k < dp + n then zV h a (sp + (k - dp)) else zV h c k, zJ h, zP h, zN h, zM h)
def zcpJ (h : Hp) (a sp b dp n : Nat) : Hp := (zS h, zV h, fun c k => if c = b ∧ dp ≤ k ∧ k < dp + n then zJ h a (sp + (k - dp)) else zJ h c k, zP h, zN h, zM h)
def zw (x : Int) : Int := (x + 2147483648) % 4294967296 - 2147483648
def zr (x : Int) : Prop := -2147483648 ≤ x ∧ x < 2147483648
def ztag (v : AV) : Nat := match v with
  | .inl _ => 0
  | .inr (.inl _) => 1
  | .inr (.inr (some _)) => 2
  | .inr (.inr none) => 3
def zcat (v : AV) : Nat := match v with
  | .inr (.inl _) => 2
  | _ => 1
abbrev LL : Type := List (Option AV)
abbrev ZS : Type := Nat × LL × List AV × Hp
abbrev ZA : Type := Option (ZS ⊕ ((Nat × List AV × List AV) ⊕ Option AV))
def zn (pc : Nat) (L : LL) (st : List AV) (h : Hp) : ZA := some (.inl (pc, L, st, h))
def zget (L : LL) (k t : Nat) : Option AV := match L[k]? with
  | some (some v) => if ztag v = t then some v else none
  | _ => none
def zprev (L : LL) (k : Nat) : Bool := match k with
  | 0 => true
  | j + 1 => match L[j]? with
    | some (some (.inr (.inl _))) => false
    | _ => true
def zld (t k len pc l : Nat) (L : LL) (st : List AV) (h : Hp) : ZA := if l = len then (match zget L k t with
  | some v => zn (pc + len) L (v :: st) h
  | none => none) else none
def zsto (t k len pc l : Nat) (L : LL) (st : List AV) (h : Hp) : ZA := match st with
  | v :: r => if l = len ∧ ztag v = t ∧ zprev L k = true ∧ k < L.length then zn (pc + len) (L.set k (some v)) r h else none
  | [] => none
def zsto2 (k len pc l : Nat) (L : LL) (st : List AV) (h : Hp) : ZA := match st with
  | v :: r => if l = len ∧ ztag v = 1 ∧ zprev L k = true ∧ k + 1 < L.length then zn (pc + len) ((L.set k (some v)).set (k + 1) none) r h else none
  | [] => none
def zc1 (len : Nat) (v : AV) (pc l : Nat) (L : LL) (st : List AV) (h : Hp) : ZA := if l = len then zn (pc + len) L (v :: st) h else none
def zco (len : Nat) (v : Option AV) (pc l : Nat) (L : LL) (st : List AV) (h : Hp) : ZA := match v with
  | some v => zc1 len v pc l L st h
  | none => none
def zi2 (f : Int → Int → Int) (pc l : Nat) (L : LL) (st : List AV) (h : Hp) : ZA := match st with
  | .inl y :: .inl x :: r => if l = 1 then zn (pc + 1) L (vI (f x y) :: r) h else none
  | _ => none
def zi2d (f : Int → Int → Int) (pc l : Nat) (L : LL) (st : List AV) (h : Hp) : ZA := match st with
  | .inl y :: .inl x :: r => if l = 1 ∧ y ≠ 0 then zn (pc + 1) L (vI (f x y) :: r) h else none
  | _ => none
def zi1 (f : Int → AV) (pc l : Nat) (L : LL) (st : List AV) (h : Hp) : ZA := match st with
  | .inl x :: r => if l = 1 then zn (pc + 1) L (f x :: r) h else none
  | _ => none
def zj1 (f : Int64 → AV) (pc l : Nat) (L : LL) (st : List AV) (h : Hp) : ZA := match st with
  | .inr (.inl x) :: r => if l = 1 then zn (pc + 1) L (f x :: r) h else none
  | _ => none
def zj2 (f : Int64 → Int64 → AV) (pc l : Nat) (L : LL) (st : List AV) (h : Hp) : ZA := match st with
  | .inr (.inl y) :: .inr (.inl x) :: r => if l = 1 then zn (pc + 1) L (f x y :: r) h else none
  | _ => none
def zj2d (f : Int64 → Int64 → AV) (pc l : Nat) (L : LL) (st : List AV) (h : Hp) : ZA := match st with
  | .inr (.inl y) :: .inr (.inl x) :: r => if l = 1 ∧ y ≠ 0 then zn (pc + 1) L (f x y :: r) h else none
  | _ => none
def zji (f : Int64 → Int → AV) (pc l : Nat) (L : LL) (st : List AV) (h : Hp) : ZA := match st with
  | .inl y :: .inr (.inl x) :: r => if l = 1 then zn (pc + 1) L (f x y :: r) h else none
  | _ => none
/-- a static that holds a reference or null: its value stands in the heap, at 30 -/
def zstv (h : Hp) (v : AV) : AV := match v with
  | .inr (.inr (some 30)) => vR (zP h 30 0)
  | v => v
def zcond (c : Jvm.ClassFile.Cond) (x y : Int) : Bool := match c with
  | .eq => decide (x = y)
  | .ne => decide (x ≠ y)
  | .lt => decide (x < y)
  | .ge => decide (y ≤ x)
  | .gt => decide (y < x)
  | .le => decide (x ≤ y)
def zjmp (pc : Nat) (off : Int) (L : LL) (st : List AV) (h : Hp) : ZA := if 0 ≤ (pc : Int) + off then zn ((pc : Int) + off).toNat L st h else none
def zi (x : Int) : Int32 := Int32.ofInt x
def zfv (h : Hp) (ci a k : Nat) : AV := if zft ci k = 2 then vR (zP h a k) else vI (zV h a k)
/-- the kind of an object of the type ci; row 9 is String -/
def zkd (ci : Nat) : Nat := if ci = 9 then 20 else 10 + ci
def zgetf (e : Option (Nat × Nat)) (pc l : Nat) (L : LL) (st : List AV) (h : Hp) : ZA := match e, st with
  | some (ci, k), .inr (.inr (some a)) :: r => if l = 3 ∧ zS h a = (zkd ci, zNf ci) ∧ (ci = 9 → a < 32) then zn (pc + 3) L (zfv h ci a k :: r) h else none
  | _, _ => none
def zputf (o : Nat) (e : Option (Nat × Nat)) (pc l : Nat) (L : LL) (st : List AV) (h : Hp) : ZA := match e, st with
  | some (ci, k), .inl x :: .inr (.inr (some a)) :: r => if l = 3 ∧ ci < 9 ∧ zS h a = (10 + ci, zNf ci) ∧ 32 ≤ a ∧ (zft ci k = 0 ∨ (zft ci k = 1 ∧ (x = 0 ∨ x = 1))) ∧ (zfin ci k = true → 100 ≤ o ∧ o % 100 = ci) then zn (pc + 3) L r (zsetV h a k x) else none
  | some (ci, k), .inr (.inr p) :: .inr (.inr (some a)) :: r => if l = 3 ∧ ci < 9 ∧ zS h a = (10 + ci, zNf ci) ∧ 32 ≤ a ∧ zft ci k = 2 ∧ (zfin ci k = true → 100 ≤ o ∧ o % 100 = ci) then zn (pc + 3) L r (zsetP h a k p) else none
  | _, _ => none
def zald (kd : Nat) (f : Nat → Nat → AV) (pc l : Nat) (L : LL) (st : List AV) (h : Hp) : ZA := match st with
  | .inl i :: .inr (.inr (some a)) :: r => if l = 1 ∧ (zS h a).1 = kd ∧ 0 ≤ i ∧ i < ((zS h a).2 : Int) then zn (pc + 1) L (f a i.toNat :: r) h else none
  | _ => none
def ziast (pc l : Nat) (L : LL) (st : List AV) (h : Hp) : ZA := match st with
  | .inl x :: .inl i :: .inr (.inr (some a)) :: r => if l = 1 ∧ (zS h a).1 = 1 ∧ 32 ≤ a ∧ 0 ≤ i ∧ i < ((zS h a).2 : Int) then zn (pc + 1) L r (zsetV h a i.toNat x) else none
  | _ => none
def zbast (pc l : Nat) (L : LL) (st : List AV) (h : Hp) : ZA := match st with
  | .inl x :: .inl i :: .inr (.inr (some a)) :: r => if l = 1 ∧ (zS h a).1 = 2 ∧ 32 ≤ a ∧ 0 ≤ i ∧ i < ((zS h a).2 : Int) ∧ (x = 0 ∨ x = 1) then zn (pc + 1) L r (zsetV h a i.toNat x) else none
  | _ => none
def zlast (pc l : Nat) (L : LL) (st : List AV) (h : Hp) : ZA := match st with
  | .inr (.inl x) :: .inl i :: .inr (.inr (some a)) :: r => if l = 1 ∧ (zS h a).1 = 3 ∧ 32 ≤ a ∧ 0 ≤ i ∧ i < ((zS h a).2 : Int) then zn (pc + 1) L r (zsetJ h a i.toNat x) else none
  | _ => none
def zaast (pc l : Nat) (L : LL) (st : List AV) (h : Hp) : ZA := match st with
  | .inr (.inr (some v)) :: .inl i :: .inr (.inr (some a)) :: r => if l = 1 ∧ 32 ≤ a ∧ 0 ≤ i ∧ i < ((zS h a).2 : Int) ∧ (((zS h a).1 = 5 ∧ zS h v = (14, zNf 4)) ∨ ((zS h a).1 = 6 ∧ zS h v = (15, zNf 5))) then zn (pc + 1) L r (zsetP h a i.toNat (some v)) else none
  | _ => none
def zalen (pc l : Nat) (L : LL) (st : List AV) (h : Hp) : ZA := match st with
  | .inr (.inr (some a)) :: r => if l = 1 ∧ 1 ≤ (zS h a).1 ∧ (zS h a).1 ≤ 6 ∧ (zS h a).2 < 2147483648 ∧ ((zS h a).1 = 4 → a < 32) then zn (pc + 1) L (vI ((zS h a).2 : Int) :: r) h else none
  | _ => none
def znew (e : Option Nat) (pc l : Nat) (L : LL) (st : List AV) (h : Hp) : ZA := match e with
  | some ci => if l = 3 ∧ ci < 9 then zn (pc + 3) L (vR (some (32 + zN h)) :: st) (zmk (10 + ci) (zNf ci) h) else none
  | none => none
def znewa (kd len : Nat) (pc l : Nat) (L : LL) (st : List AV) (h : Hp) : ZA := match st with
  | .inl x :: r => if l = len ∧ 1 ≤ kd ∧ 0 ≤ x ∧ x ≤ 1000000 then zn (pc + len) L (vR (some (32 + zN h)) :: r) (zmk kd x.toNat h) else none
  | _ => none
def zatype (t : ArrayType) : Nat := match t with
  | .int => 1
  | .boolean => 2
  | .long => 3
  | _ => 0
def zwt (r : List AV) : Nat := (r.map zcat).sum
def zcpy (d pc l : Nat) (L : LL) (st : List AV) (h : Hp) : ZA := match st with
  | .inl n :: .inl dp :: .inr (.inr (some b)) :: .inl sp :: .inr (.inr (some a)) :: r => if l = 3 ∧ 1 ≤ d ∧ zwt r ≤ 8 ∧ 32 ≤ a ∧ 32 ≤ b ∧ 0 ≤ n ∧ 0 ≤ sp ∧ 0 ≤ dp ∧ sp + n ≤ ((zS h a).2 : Int) ∧ dp + n ≤ ((zS h b).2 : Int) ∧ (((zS h a).1 = 1 ∧ (zS h b).1 = 1) ∨ ((zS h a).1 = 3 ∧ (zS h b).1 = 3)) then zn (pc + 3) L r (if (zS h a).1 = 1 then zcpV h a sp.toNat b dp.toNat n.toNat else zcpJ h a sp.toNat b dp.toNat n.toNat) else none
  | _ => none
/-- Math.min, max of ints; the others of its own methods that are called -/
def zmm (f : Int → Int → Int) (d pc l : Nat) (L : LL) (st : List AV) (h : Hp) : ZA := match st with
  | .inl y :: .inl x :: r => if l = 3 ∧ 1 ≤ d ∧ zwt r ≤ 8 then zn (pc + 3) L (vI (f x y) :: r) h else none
  | _ => none
def zmab (d pc l : Nat) (L : LL) (st : List AV) (h : Hp) : ZA := match st with
  | .inr (.inl x) :: r => if l = 3 ∧ 1 ≤ d ∧ zwt r ≤ 8 then zn (pc + 3) L (vJ (if 0 < x then x else -x) :: r) h else none
  | _ => none
def zfm32 (a b : Int32) : Int32 := if 0 ≤ a ^^^ b then a - a / b * b else if a - a / b * b = 0 then a - a / b * b else a - a / b * b + b
def zmfm (d pc l : Nat) (L : LL) (st : List AV) (h : Hp) : ZA := match st with
  | .inl y :: .inl x :: r => if l = 3 ∧ 1 ≤ d ∧ zwt r ≤ 8 ∧ y ≠ 0 then zn (pc + 3) L (vI (zfm32 (zi x) (zi y)).toInt :: r) h else none
  | _ => none
def zoinit (d pc l : Nat) (L : LL) (st : List AV) (h : Hp) : ZA := match st with
  | .inr (.inr (some _)) :: r => if l = 3 ∧ 1 ≤ d ∧ zwt r ≤ 8 then zn (pc + 3) L r h else none
  | _ => none
/-- a call: kind 0 virtual, 1 special, 2 static, 4 special of a nest mate, 5 static of a nest mate -/
def zcall (l : Nat) (na z : Nat) (st : List AV) : ZA := if l = 3 ∧ na ≤ st.length ∧ zwt (st.drop na) ≤ 8 then some (.inr (.inl (z, (st.take na).reverse, st.drop na))) else none
def zinv (e : Option (Nat × Nat)) (l : Nat) (st : List AV) (h : Hp) : ZA := match e with
  | some (0, z) => (match st[zna z]? with
    | some (.inr (.inr (some a))) => if zS h a = zrc z ∧ 10 ≤ (zrc z).1 ∧ ((zrc z).1 = 20 → a < 32) then zcall l (zna z + 1) z st else none
    | _ => none)
  | _ => none
def zinvS (e : Option (Nat × Nat)) (l : Nat) (st : List AV) : ZA := match e with
  | some (2, z) => zcall l (zna z) z st
  | some (5, z) => zcall l (zna z) z st
  | _ => none
def zinvI (d : Nat) (e : Option (Nat × Nat)) (pc l : Nat) (L : LL) (st : List AV) (h : Hp) : ZA := match e with
  | some (9, _) => zoinit d pc l L st h
  | some (k, z) => if k = 1 ∨ k = 4 then (match st[zna z]? with
    | some (.inr (.inr (some _))) => zcall l (zna z + 1) z st
    | _ => none) else none
  | _ => none
def zret (v : Option AV) (l : Nat) : ZA := if l = 1 then some (.inr (.inr v)) else none
def zin (d o pc l : Nat) (L : LL) (st : List AV) (h : Hp) (i : Instr) : ZA := match i with
  | .aload_n k => zld 2 k.val 1 pc l L st h
  | .iload_n k => zld 0 k.val 1 pc l L st h
  | .lload_n k => zld 1 k.val 1 pc l L st h
  | .aload k => zld 2 k 2 pc l L st h
  | .iload k => zld 0 k 2 pc l L st h
  | .lload k => zld 1 k 2 pc l L st h
  | .astore_n k => zsto 2 k.val 1 pc l L st h
  | .istore_n k => zsto 0 k.val 1 pc l L st h
  | .lstore_n k => zsto2 k.val 1 pc l L st h
  | .astore k => zsto 2 k 2 pc l L st h
  | .istore k => zsto 0 k 2 pc l L st h
  | .lstore k => zsto2 k 2 pc l L st h
  | .iinc k c => (match zget L k 0 with
    | some (.inl x) => if l = 3 ∧ zprev L k = true then zn (pc + 3) (L.set k (some (vI (zw (x + c))))) st h else none
    | _ => none)
  | .iconst n => zc1 1 (vI (zw n)) pc l L st h
  | .bipush n => zc1 2 (vI (Int8.ofInt n).toInt32.toInt) pc l L st h
  | .sipush n => zc1 3 (vI (Int16.ofInt n).toInt32.toInt) pc l L st h
  | .lconst n => zc1 1 (vJ (Int64.ofNat n.val)) pc l L st h
  | .ldc k => zco 2 (zldc o k) pc l L st h
  | .ldc_w k => (match zldc o k with
    | some (.inl x) => zc1 3 (vI x) pc l L st h
    | _ => none)
  | .ldc2_w k => zco 3 ((zldc2 o k).map vJ) pc l L st h
  | .getstatic k => zco 3 ((zstat o k).map (zstv h)) pc l L st h
  | .getfield k => zgetf (zfld o k) pc l L st h
  | .putfield k => zputf o (zfld o k) pc l L st h
  | .iadd => zi2 (fun x y => zw (x + y)) pc l L st h
  | .isub => zi2 (fun x y => zw (x - y)) pc l L st h
  | .imul => zi2 (fun x y => zw (x * y)) pc l L st h
  | .idiv => zi2d (fun x y => (zi x / zi y).toInt) pc l L st h
  | .irem => zi2d (fun x y => (zi x - zi x / zi y * zi y).toInt) pc l L st h
  | .iand => zi2 (fun x y => (zi x &&& zi y).toInt) pc l L st h
  | .ior => zi2 (fun x y => (zi x ||| zi y).toInt) pc l L st h
  | .ixor => zi2 (fun x y => (zi x ^^^ zi y).toInt) pc l L st h
  | .ishl => zi2 (fun x y => (zi x <<< (zi y &&& 31)).toInt) pc l L st h
  | .ishr => zi2 (fun x y => (zi x >>> (zi y &&& 31)).toInt) pc l L st h
  | .iushr => zi2 (fun x y => ((zi x).toUInt32 >>> ((zi y).toUInt32 &&& Int32.toUInt32 31)).toInt32.toInt) pc l L st h
  | .ineg => zi1 (fun x => vI (zw (-x))) pc l L st h
  | .i2l => zi1 (fun x => vJ (zi x).toInt64) pc l L st h
  | .i2b => zi1 (fun x => vI (zi x).toInt8.toInt32.toInt) pc l L st h
  | .i2s => zi1 (fun x => vI (zi x).toInt16.toInt32.toInt) pc l L st h
  | .i2c => zi1 (fun x => vI ((zi x).toUInt32 % 65536).toInt32.toInt) pc l L st h
  | .l2i => zj1 (fun x => vI x.toInt32.toInt) pc l L st h
  | .lneg => zj1 (fun x => vJ (-x)) pc l L st h
  | .ladd => zj2 (fun x y => vJ (x + y)) pc l L st h
  | .land => zj2 (fun x y => vJ (x &&& y)) pc l L st h
  | .lor => zj2 (fun x y => vJ (x ||| y)) pc l L st h
  | .ldiv => zj2d (fun x y => vJ (x / y)) pc l L st h
  | .lrem => zj2d (fun x y => vJ (x - x / y * y)) pc l L st h
  | .lshl => zji (fun x y => vJ (x <<< ((zi y).toInt64 &&& 63))) pc l L st h
  | .lcmp => zj2 (fun x y => vI (lg_cmp x y).toInt) pc l L st h
  | .dup => (match st with
    | v :: r => if l = 1 ∧ zcat v = 1 then zn (pc + 1) L (v :: v :: r) h else none
    | _ => none)
  | .pop => (match st with
    | v :: r => if l = 1 ∧ zcat v = 1 then zn (pc + 1) L r h else none
    | _ => none)
  | .dup_x1 => (match st with
    | v :: u :: r => if l = 1 ∧ zcat v = 1 ∧ zcat u = 1 then zn (pc + 1) L (v :: u :: v :: r) h else none
    | _ => none)
  | .dup2 => (match st with
    | v :: u :: r => if l = 1 ∧ zcat v = 1 ∧ zcat u = 1 then zn (pc + 1) L (v :: u :: v :: u :: r) h else none
    | _ => none)
  | .goto off => if l = 3 then zjmp pc off L st h else none
  | .ifCond c off => (match st with
    | .inl x :: r => if l = 3 ∧ 0 ≤ (pc : Int) + off then (if zcond c x 0 = true then zn ((pc : Int) + off).toNat L r h else zn (pc + 3) L r h) else none
    | _ => none)
  | .if_icmp c off => (match st with
    | .inl y :: .inl x :: r => if l = 3 ∧ 0 ≤ (pc : Int) + off then (if zcond c x y = true then zn ((pc : Int) + off).toNat L r h else zn (pc + 3) L r h) else none
    | _ => none)
  | .tableswitch dflt lo hi offs => (match st with
    | .inl x :: r => if x < lo ∨ hi < x then zjmp pc dflt L r h else (match offs[(x - lo).toNat]? with
      | some off => zjmp pc off L r h
      | none => none)
    | _ => none)
  | .lookupswitch dflt ps => (match st with
    | .inl x :: r => if (ps.toList.zip (ps.toList.drop 1)).all (fun (a, next) => a.1 < next.1) = true then zjmp pc (Op.lookupswitch.offset ps.toList dflt x) L r h else none
    | _ => none)
  | .iaload => zald 1 (fun a k => vI (zV h a k)) pc l L st h
  | .baload => (match st with
    | .inl _ :: .inr (.inr (some a)) :: _ => if (zS h a).1 = 4 then (if a < 32 then zald 4 (fun a k => vI (zV h a k)) pc l L st h else none) else zald 2 (fun a k => vI (zV h a k)) pc l L st h
    | _ => none)
  | .laload => zald 3 (fun a k => vJ (zJ h a k)) pc l L st h
  | .aaload => (match st with
    | .inl _ :: .inr (.inr (some a)) :: _ => if (zS h a).1 = 6 then zald 6 (fun a k => vR (zP h a k)) pc l L st h else zald 5 (fun a k => vR (zP h a k)) pc l L st h
    | _ => none)
  | .iastore => ziast pc l L st h
  | .bastore => zbast pc l L st h
  | .lastore => zlast pc l L st h
  | .aastore => zaast pc l L st h
  | .arraylength => zalen pc l L st h
  | .new k => znew (zcl o k) pc l L st h
  | .newarray t => znewa (zatype t) 2 pc l L st h
  | .anewarray k => (match zcl o k with
    | some 4 => znewa 5 3 pc l L st h
    | some 5 => znewa 6 3 pc l L st h
    | _ => none)
  | .invokevirtual k => zinv (zmth o k) l st h
  | .invokestatic k => (match zmth o k with
    | some (10, _) => zcpy d pc l L st h
    | some (11, _) => zmm (fun x y => if y < x then y else x) d pc l L st h
    | some (12, _) => zmm (fun x y => if x < y then y else x) d pc l L st h
    | some (13, _) => zmab d pc l L st h
    | some (14, _) => zmfm d pc l L st h
    | e => zinvS e l st)
  | .invokespecial k => zinvI d (zmth o k) pc l L st h
  | .ireturn => (match st with
    | [.inl x] => zret (some (vI x)) l
    | _ => none)
  | .lreturn => (match st with
    | [.inr (.inl x)] => zret (some (vJ x)) l
    | _ => none)
  | .return_ => (match st with
    | [] => zret none l
    | _ => none)
  | _ => none
def zact (d : Nat) (cc : ByteArray) (o pc : Nat) (L : LL) (st : List AV) (h : Hp) : ZA := match decode cc pc with
  | .ok (i, l) => zin d o pc l L st h i
  | .error _ => none
def zenl (as : List AV) : LL := match as with
  | [] => []
  | v :: vs => if zcat v = 2 then some v :: none :: zenl vs else some v :: zenl vs
def zent (n : Nat) (as : List AV) : LL := zenl as ++ List.replicate (n - (zenl as).length) none
def zretok (t : Nat) (v : Option AV) : Bool := match t, v with
  | 0, none => true
  | 1, some (.inl _) => true
  | 2, some (.inl x) => decide (x = 0 ∨ x = 1)
  | 3, some (.inl x) => decide (0 ≤ x ∧ x < 65536)
  | 4, some (.inr (.inl _)) => true
  | 5, some (.inl x) => decide (x = 0)
  | _, _ => false
abbrev ZR : Type := Option (Option AV × Hp)
abbrev ZF : Type := Nat → ByteArray → Nat → Nat → LL → List AV → Hp → ZR
def zstep (ih : ZF) : ZF := fun d cc o pc L st h => match zact d cc o pc L st h with
  | none => none
  | some (.inl (pc', L', st', h')) => ih d cc o pc' L' st' h'
  | some (.inr (.inl (z, as, r))) => (match d with
    | 0 => none
    | d' + 1 => if (zenl as).length ≤ zml z then (match ih d' (zb z) (zo z) 0 (zent (zml z) as) [] h with
      | some (v, h') => if zretok (zrt z) v = true then ih (d' + 1) cc o (pc + 3) L (v.toList ++ r) h' else none
      | none => none) else none)
  | some (.inr (.inr v)) => some (v, h)
def zrun : Nat → ZF := fun n => Nat.rec (fun _ _ _ _ _ _ _ => none) (fun _ ih => zstep ih) n
