section
-- ===== PART A: goes FIRST, ahead of the names: the tables' words, and 'selects' of the private methods out of them =====
/-- a private method of a class that the tables say can be made, by its rows of tables_1 -/
def lw_okq (q : MethodName × Nat) : Prop := (q.1.cls ≠ "java/lang/invoke/MethodHandle" ∧ q.1.cls ≠ "java/lang/invoke/VarHandle") ∧ Cond.instantiable q.1.cls q.2 ∈ tables_1 ∧ Cond.privateMethod q.1 ∈ tables_1 ∧ Cond.instanceMethod q.1 ∈ tables_1
theorem lw_p0 : lw_okq (⟨"HatterTunes$House", "setAllBumps", "(II)V"⟩, 13) := ⟨⟨by decide +kernel, by decide +kernel⟩, List.mem_of_getElem? (i := 53) (by decide +kernel), List.mem_of_getElem? (i := 267) (by decide +kernel), List.mem_of_getElem? (i := 268) (by decide +kernel)⟩
theorem lw_p1 : lw_okq (⟨"HatterTunes", "isHead", "(I)Z"⟩, 11) := ⟨⟨by decide +kernel, by decide +kernel⟩, List.mem_of_getElem? (i := 19) (by decide +kernel), List.mem_of_getElem? (i := 279) (by decide +kernel), List.mem_of_getElem? (i := 280) (by decide +kernel)⟩
theorem lw_p2 : lw_okq (⟨"HatterTunes$House", "tellFacts", "(II)V"⟩, 13) := ⟨⟨by decide +kernel, by decide +kernel⟩, List.mem_of_getElem? (i := 53) (by decide +kernel), List.mem_of_getElem? (i := 295) (by decide +kernel), List.mem_of_getElem? (i := 296) (by decide +kernel)⟩
theorem lw_p3 : lw_okq (⟨"HatterTunes$House", "tuneAsNumber", "()I"⟩, 13) := ⟨⟨by decide +kernel, by decide +kernel⟩, List.mem_of_getElem? (i := 53) (by decide +kernel), List.mem_of_getElem? (i := 317) (by decide +kernel), List.mem_of_getElem? (i := 318) (by decide +kernel)⟩
theorem lw_p4 : lw_okq (⟨"HatterTunes", "whenHeard", "(I)I"⟩, 11) := ⟨⟨by decide +kernel, by decide +kernel⟩, List.mem_of_getElem? (i := 19) (by decide +kernel), List.mem_of_getElem? (i := 328) (by decide +kernel), List.mem_of_getElem? (i := 329) (by decide +kernel)⟩
theorem lw_p5 : lw_okq (⟨"HatterTunes$House", "raiseBump", "(II)V"⟩, 13) := ⟨⟨by decide +kernel, by decide +kernel⟩, List.mem_of_getElem? (i := 53) (by decide +kernel), List.mem_of_getElem? (i := 349) (by decide +kernel), List.mem_of_getElem? (i := 350) (by decide +kernel)⟩
theorem lw_p6 : lw_okq (⟨"HatterTunes", "leastPress", "(I)I"⟩, 11) := ⟨⟨by decide +kernel, by decide +kernel⟩, List.mem_of_getElem? (i := 19) (by decide +kernel), List.mem_of_getElem? (i := 353) (by decide +kernel), List.mem_of_getElem? (i := 354) (by decide +kernel)⟩
theorem lw_p7 : lw_okq (⟨"HatterTunes", "wouldHear", "(II)Z"⟩, 11) := ⟨⟨by decide +kernel, by decide +kernel⟩, List.mem_of_getElem? (i := 19) (by decide +kernel), List.mem_of_getElem? (i := 357) (by decide +kernel), List.mem_of_getElem? (i := 358) (by decide +kernel)⟩
theorem lw_p8 : lw_okq (⟨"HatterTunes", "ofBump", "(III)I"⟩, 11) := ⟨⟨by decide +kernel, by decide +kernel⟩, List.mem_of_getElem? (i := 19) (by decide +kernel), List.mem_of_getElem? (i := 363) (by decide +kernel), List.mem_of_getElem? (i := 364) (by decide +kernel)⟩
theorem lw_p9 : lw_okq (⟨"HatterTunes", "possibleBumps", "(II)I"⟩, 11) := ⟨⟨by decide +kernel, by decide +kernel⟩, List.mem_of_getElem? (i := 19) (by decide +kernel), List.mem_of_getElem? (i := 369) (by decide +kernel), List.mem_of_getElem? (i := 370) (by decide +kernel)⟩
theorem lw_p10 : lw_okq (⟨"HatterTunes$Text", "isClause", "()Z"⟩, 5) := ⟨⟨by decide +kernel, by decide +kernel⟩, List.mem_of_getElem? (i := 126) (by decide +kernel), List.mem_of_getElem? (i := 426) (by decide +kernel), List.mem_of_getElem? (i := 427) (by decide +kernel)⟩
theorem lw_p11 : lw_okq (⟨"HatterTunes$Text", "peek", "()I"⟩, 5) := ⟨⟨by decide +kernel, by decide +kernel⟩, List.mem_of_getElem? (i := 126) (by decide +kernel), List.mem_of_getElem? (i := 430) (by decide +kernel), List.mem_of_getElem? (i := 431) (by decide +kernel)⟩
theorem lw_p12 : lw_okq (⟨"HatterTunes$Text", "isWord", "(Ljava/lang/String;)Z"⟩, 5) := ⟨⟨by decide +kernel, by decide +kernel⟩, List.mem_of_getElem? (i := 126) (by decide +kernel), List.mem_of_getElem? (i := 435) (by decide +kernel), List.mem_of_getElem? (i := 436) (by decide +kernel)⟩
theorem lw_p13 : lw_okq (⟨"HatterTunes$Text", "take", "(I)Z"⟩, 5) := ⟨⟨by decide +kernel, by decide +kernel⟩, List.mem_of_getElem? (i := 126) (by decide +kernel), List.mem_of_getElem? (i := 487) (by decide +kernel), List.mem_of_getElem? (i := 488) (by decide +kernel)⟩
theorem lw_p14 : lw_okq (⟨"HatterTunes$Text", "isBend", "(I)Z"⟩, 5) := ⟨⟨by decide +kernel, by decide +kernel⟩, List.mem_of_getElem? (i := 126) (by decide +kernel), List.mem_of_getElem? (i := 491) (by decide +kernel), List.mem_of_getElem? (i := 492) (by decide +kernel)⟩
theorem lw_p15 : lw_okq (⟨"HatterTunes$Text", "isNumber", "()Z"⟩, 5) := ⟨⟨by decide +kernel, by decide +kernel⟩, List.mem_of_getElem? (i := 126) (by decide +kernel), List.mem_of_getElem? (i := 495) (by decide +kernel), List.mem_of_getElem? (i := 496) (by decide +kernel)⟩
def lw_privs_1 : List (MethodName × Nat) := [(⟨"HatterTunes$House", "setAllBumps", "(II)V"⟩, 13), (⟨"HatterTunes", "isHead", "(I)Z"⟩, 11), (⟨"HatterTunes$House", "tellFacts", "(II)V"⟩, 13), (⟨"HatterTunes$House", "tuneAsNumber", "()I"⟩, 13), (⟨"HatterTunes", "whenHeard", "(I)I"⟩, 11), (⟨"HatterTunes$House", "raiseBump", "(II)V"⟩, 13), (⟨"HatterTunes", "leastPress", "(I)I"⟩, 11), (⟨"HatterTunes", "wouldHear", "(II)Z"⟩, 11), (⟨"HatterTunes", "ofBump", "(III)I"⟩, 11), (⟨"HatterTunes", "possibleBumps", "(II)I"⟩, 11), (⟨"HatterTunes$Text", "isClause", "()Z"⟩, 5), (⟨"HatterTunes$Text", "peek", "()I"⟩, 5), (⟨"HatterTunes$Text", "isWord", "(Ljava/lang/String;)Z"⟩, 5), (⟨"HatterTunes$Text", "take", "(I)Z"⟩, 5), (⟨"HatterTunes$Text", "isBend", "(I)Z"⟩, 5), (⟨"HatterTunes$Text", "isNumber", "()Z"⟩, 5)]
theorem lw_r1 : ∀ q ∈ lw_privs_1, lw_okq q := List.forall_mem_cons.mpr ⟨lw_p0, List.forall_mem_cons.mpr ⟨lw_p1, List.forall_mem_cons.mpr ⟨lw_p2, List.forall_mem_cons.mpr ⟨lw_p3, List.forall_mem_cons.mpr ⟨lw_p4, List.forall_mem_cons.mpr ⟨lw_p5, List.forall_mem_cons.mpr ⟨lw_p6, List.forall_mem_cons.mpr ⟨lw_p7, List.forall_mem_cons.mpr ⟨lw_p8, List.forall_mem_cons.mpr ⟨lw_p9, List.forall_mem_cons.mpr ⟨lw_p10, List.forall_mem_cons.mpr ⟨lw_p11, List.forall_mem_cons.mpr ⟨lw_p12, List.forall_mem_cons.mpr ⟨lw_p13, List.forall_mem_cons.mpr ⟨lw_p14, List.forall_mem_cons.mpr ⟨lw_p15, fun _ h => absurd h List.not_mem_nil⟩⟩⟩⟩⟩⟩⟩⟩⟩⟩⟩⟩⟩⟩⟩⟩
theorem lw_p16 : lw_okq (⟨"HatterTunes$Text", "isEither", "(I)Z"⟩, 5) := ⟨⟨by decide +kernel, by decide +kernel⟩, List.mem_of_getElem? (i := 126) (by decide +kernel), List.mem_of_getElem? (i := 502) (by decide +kernel), List.mem_of_getElem? (i := 503) (by decide +kernel)⟩
theorem lw_p17 : lw_okq (⟨"HatterTunes$Text", "isBoth", "(I)Z"⟩, 5) := ⟨⟨by decide +kernel, by decide +kernel⟩, List.mem_of_getElem? (i := 126) (by decide +kernel), List.mem_of_getElem? (i := 506) (by decide +kernel), List.mem_of_getElem? (i := 507) (by decide +kernel)⟩
theorem lw_p18 : lw_okq (⟨"HatterTunes$Text", "isFactor", "(I)Z"⟩, 5) := ⟨⟨by decide +kernel, by decide +kernel⟩, List.mem_of_getElem? (i := 126) (by decide +kernel), List.mem_of_getElem? (i := 510) (by decide +kernel), List.mem_of_getElem? (i := 511) (by decide +kernel)⟩
theorem lw_p19 : lw_okq (⟨"HatterTunes$Text", "isTest", "()Z"⟩, 5) := ⟨⟨by decide +kernel, by decide +kernel⟩, List.mem_of_getElem? (i := 126) (by decide +kernel), List.mem_of_getElem? (i := 518) (by decide +kernel), List.mem_of_getElem? (i := 519) (by decide +kernel)⟩
theorem lw_p20 : lw_okq (⟨"HatterTunes$Text", "isGrowth", "()Z"⟩, 5) := ⟨⟨by decide +kernel, by decide +kernel⟩, List.mem_of_getElem? (i := 126) (by decide +kernel), List.mem_of_getElem? (i := 530) (by decide +kernel), List.mem_of_getElem? (i := 531) (by decide +kernel)⟩
theorem lw_p21 : lw_okq (⟨"HatterTunes$Choir", "extend", "(III)V"⟩, 6) := ⟨⟨by decide +kernel, by decide +kernel⟩, List.mem_of_getElem? (i := 176) (by decide +kernel), List.mem_of_getElem? (i := 585) (by decide +kernel), List.mem_of_getElem? (i := 586) (by decide +kernel)⟩
theorem lw_p22 : lw_okq (⟨"HatterTunes$Choir", "keepIfBetter", "(I)V"⟩, 6) := ⟨⟨by decide +kernel, by decide +kernel⟩, List.mem_of_getElem? (i := 176) (by decide +kernel), List.mem_of_getElem? (i := 589) (by decide +kernel), List.mem_of_getElem? (i := 590) (by decide +kernel)⟩
theorem lw_p23 : lw_okq (⟨"HatterTunes", "pressesHeard", "(I)I"⟩, 11) := ⟨⟨by decide +kernel, by decide +kernel⟩, List.mem_of_getElem? (i := 19) (by decide +kernel), List.mem_of_getElem? (i := 611) (by decide +kernel), List.mem_of_getElem? (i := 612) (by decide +kernel)⟩
theorem lw_p24 : lw_okq (⟨"HatterTunes$House", "raiseAllBumps", "(I)V"⟩, 13) := ⟨⟨by decide +kernel, by decide +kernel⟩, List.mem_of_getElem? (i := 53) (by decide +kernel), List.mem_of_getElem? (i := 637) (by decide +kernel), List.mem_of_getElem? (i := 638) (by decide +kernel)⟩
theorem lw_p25 : lw_okq (⟨"HatterTunes$Actor", "does", "(IIII)I"⟩, 5) := ⟨⟨by decide +kernel, by decide +kernel⟩, List.mem_of_getElem? (i := 152) (by decide +kernel), List.mem_of_getElem? (i := 683) (by decide +kernel), List.mem_of_getElem? (i := 684) (by decide +kernel)⟩
theorem lw_p26 : lw_okq (⟨"HatterTunes$Actor", "keepBody", "(I)V"⟩, 5) := ⟨⟨by decide +kernel, by decide +kernel⟩, List.mem_of_getElem? (i := 152) (by decide +kernel), List.mem_of_getElem? (i := 695) (by decide +kernel), List.mem_of_getElem? (i := 696) (by decide +kernel)⟩
theorem lw_p27 : lw_okq (⟨"HatterTunes$Tape", "cut", "(J)J"⟩, 3) := ⟨⟨by decide +kernel, by decide +kernel⟩, List.mem_of_getElem? (i := 202) (by decide +kernel), List.mem_of_getElem? (i := 740) (by decide +kernel), List.mem_of_getElem? (i := 741) (by decide +kernel)⟩
theorem lw_p28 : lw_okq (⟨"HatterTunesModel", "isOne", "(I)Z"⟩, 49) := ⟨⟨by decide +kernel, by decide +kernel⟩, List.mem_of_getElem? (i := 757) (by decide +kernel), List.mem_of_getElem? (i := 923) (by decide +kernel), List.mem_of_getElem? (i := 924) (by decide +kernel)⟩
theorem lw_p29 : lw_okq (⟨"HatterTunesModel", "noteOf", "(II)I"⟩, 49) := ⟨⟨by decide +kernel, by decide +kernel⟩, List.mem_of_getElem? (i := 757) (by decide +kernel), List.mem_of_getElem? (i := 930) (by decide +kernel), List.mem_of_getElem? (i := 931) (by decide +kernel)⟩
theorem lw_p30 : lw_okq (⟨"HatterTunesModel", "pitch", "(II)I"⟩, 49) := ⟨⟨by decide +kernel, by decide +kernel⟩, List.mem_of_getElem? (i := 757) (by decide +kernel), List.mem_of_getElem? (i := 934) (by decide +kernel), List.mem_of_getElem? (i := 935) (by decide +kernel)⟩
theorem lw_p31 : lw_okq (⟨"HatterTunesModel", "sum", "(II)I"⟩, 49) := ⟨⟨by decide +kernel, by decide +kernel⟩, List.mem_of_getElem? (i := 757) (by decide +kernel), List.mem_of_getElem? (i := 938) (by decide +kernel), List.mem_of_getElem? (i := 939) (by decide +kernel)⟩
def lw_privs_2 : List (MethodName × Nat) := [(⟨"HatterTunes$Text", "isEither", "(I)Z"⟩, 5), (⟨"HatterTunes$Text", "isBoth", "(I)Z"⟩, 5), (⟨"HatterTunes$Text", "isFactor", "(I)Z"⟩, 5), (⟨"HatterTunes$Text", "isTest", "()Z"⟩, 5), (⟨"HatterTunes$Text", "isGrowth", "()Z"⟩, 5), (⟨"HatterTunes$Choir", "extend", "(III)V"⟩, 6), (⟨"HatterTunes$Choir", "keepIfBetter", "(I)V"⟩, 6), (⟨"HatterTunes", "pressesHeard", "(I)I"⟩, 11), (⟨"HatterTunes$House", "raiseAllBumps", "(I)V"⟩, 13), (⟨"HatterTunes$Actor", "does", "(IIII)I"⟩, 5), (⟨"HatterTunes$Actor", "keepBody", "(I)V"⟩, 5), (⟨"HatterTunes$Tape", "cut", "(J)J"⟩, 3), (⟨"HatterTunesModel", "isOne", "(I)Z"⟩, 49), (⟨"HatterTunesModel", "noteOf", "(II)I"⟩, 49), (⟨"HatterTunesModel", "pitch", "(II)I"⟩, 49), (⟨"HatterTunesModel", "sum", "(II)I"⟩, 49)]
theorem lw_r2 : ∀ q ∈ lw_privs_2, lw_okq q := List.forall_mem_cons.mpr ⟨lw_p16, List.forall_mem_cons.mpr ⟨lw_p17, List.forall_mem_cons.mpr ⟨lw_p18, List.forall_mem_cons.mpr ⟨lw_p19, List.forall_mem_cons.mpr ⟨lw_p20, List.forall_mem_cons.mpr ⟨lw_p21, List.forall_mem_cons.mpr ⟨lw_p22, List.forall_mem_cons.mpr ⟨lw_p23, List.forall_mem_cons.mpr ⟨lw_p24, List.forall_mem_cons.mpr ⟨lw_p25, List.forall_mem_cons.mpr ⟨lw_p26, List.forall_mem_cons.mpr ⟨lw_p27, List.forall_mem_cons.mpr ⟨lw_p28, List.forall_mem_cons.mpr ⟨lw_p29, List.forall_mem_cons.mpr ⟨lw_p30, List.forall_mem_cons.mpr ⟨lw_p31, fun _ h => absurd h List.not_mem_nil⟩⟩⟩⟩⟩⟩⟩⟩⟩⟩⟩⟩⟩⟩⟩⟩
theorem lw_p32 : lw_okq (⟨"HatterTunesModel", "isTrue", "(III)Z"⟩, 49) := ⟨⟨by decide +kernel, by decide +kernel⟩, List.mem_of_getElem? (i := 757) (by decide +kernel), List.mem_of_getElem? (i := 942) (by decide +kernel), List.mem_of_getElem? (i := 943) (by decide +kernel)⟩
theorem lw_p33 : lw_okq (⟨"HatterTunesModel", "letterOf", "(III)I"⟩, 49) := ⟨⟨by decide +kernel, by decide +kernel⟩, List.mem_of_getElem? (i := 757) (by decide +kernel), List.mem_of_getElem? (i := 946) (by decide +kernel), List.mem_of_getElem? (i := 947) (by decide +kernel)⟩
theorem lw_p34 : lw_okq (⟨"HatterTunesModel", "bumpsOf", "(II)I"⟩, 49) := ⟨⟨by decide +kernel, by decide +kernel⟩, List.mem_of_getElem? (i := 757) (by decide +kernel), List.mem_of_getElem? (i := 951) (by decide +kernel), List.mem_of_getElem? (i := 952) (by decide +kernel)⟩
theorem lw_p35 : lw_okq (⟨"HatterTunesModel", "isSeen", "(I)Z"⟩, 49) := ⟨⟨by decide +kernel, by decide +kernel⟩, List.mem_of_getElem? (i := 757) (by decide +kernel), List.mem_of_getElem? (i := 955) (by decide +kernel), List.mem_of_getElem? (i := 956) (by decide +kernel)⟩
theorem lw_p36 : lw_okq (⟨"HatterTunesModel", "keep", "([I)V"⟩, 49) := ⟨⟨by decide +kernel, by decide +kernel⟩, List.mem_of_getElem? (i := 757) (by decide +kernel), List.mem_of_getElem? (i := 963) (by decide +kernel), List.mem_of_getElem? (i := 964) (by decide +kernel)⟩
theorem lw_p37 : lw_okq (⟨"HatterTunesModel", "goesYear", "()V"⟩, 49) := ⟨⟨by decide +kernel, by decide +kernel⟩, List.mem_of_getElem? (i := 757) (by decide +kernel), List.mem_of_getElem? (i := 967) (by decide +kernel), List.mem_of_getElem? (i := 968) (by decide +kernel)⟩
theorem lw_p38 : lw_okq (⟨"HatterTunesModel", "growBy", "()I"⟩, 49) := ⟨⟨by decide +kernel, by decide +kernel⟩, List.mem_of_getElem? (i := 757) (by decide +kernel), List.mem_of_getElem? (i := 971) (by decide +kernel), List.mem_of_getElem? (i := 972) (by decide +kernel)⟩
theorem lw_p39 : lw_okq (⟨"HatterTunesModel", "soundOf", "(I)I"⟩, 49) := ⟨⟨by decide +kernel, by decide +kernel⟩, List.mem_of_getElem? (i := 757) (by decide +kernel), List.mem_of_getElem? (i := 975) (by decide +kernel), List.mem_of_getElem? (i := 976) (by decide +kernel)⟩
theorem lw_p40 : lw_okq (⟨"HatterTunesModel", "again", "([I)V"⟩, 49) := ⟨⟨by decide +kernel, by decide +kernel⟩, List.mem_of_getElem? (i := 757) (by decide +kernel), List.mem_of_getElem? (i := 979) (by decide +kernel), List.mem_of_getElem? (i := 980) (by decide +kernel)⟩
theorem lw_p41 : lw_okq (⟨"HatterTunesModel", "heard", "(I)I"⟩, 49) := ⟨⟨by decide +kernel, by decide +kernel⟩, List.mem_of_getElem? (i := 757) (by decide +kernel), List.mem_of_getElem? (i := 983) (by decide +kernel), List.mem_of_getElem? (i := 984) (by decide +kernel)⟩
theorem lw_p42 : lw_okq (⟨"HatterTunesModel", "sounds", "(I[I)V"⟩, 49) := ⟨⟨by decide +kernel, by decide +kernel⟩, List.mem_of_getElem? (i := 757) (by decide +kernel), List.mem_of_getElem? (i := 987) (by decide +kernel), List.mem_of_getElem? (i := 988) (by decide +kernel)⟩
theorem lw_p43 : lw_okq (⟨"HatterTunesModel", "when", "(I)I"⟩, 49) := ⟨⟨by decide +kernel, by decide +kernel⟩, List.mem_of_getElem? (i := 757) (by decide +kernel), List.mem_of_getElem? (i := 991) (by decide +kernel), List.mem_of_getElem? (i := 992) (by decide +kernel)⟩
theorem lw_p44 : lw_okq (⟨"HatterTunesModel", "presses", "(I)I"⟩, 49) := ⟨⟨by decide +kernel, by decide +kernel⟩, List.mem_of_getElem? (i := 757) (by decide +kernel), List.mem_of_getElem? (i := 995) (by decide +kernel), List.mem_of_getElem? (i := 996) (by decide +kernel)⟩
theorem lw_p45 : lw_okq (⟨"HatterTunesModel", "isClause", "(I)Z"⟩, 49) := ⟨⟨by decide +kernel, by decide +kernel⟩, List.mem_of_getElem? (i := 757) (by decide +kernel), List.mem_of_getElem? (i := 1022) (by decide +kernel), List.mem_of_getElem? (i := 1023) (by decide +kernel)⟩
theorem lw_p46 : lw_okq (⟨"HatterTunesModel", "isAll", "(Ljava/lang/String;)Z"⟩, 49) := ⟨⟨by decide +kernel, by decide +kernel⟩, List.mem_of_getElem? (i := 757) (by decide +kernel), List.mem_of_getElem? (i := 1027) (by decide +kernel), List.mem_of_getElem? (i := 1028) (by decide +kernel)⟩
theorem lw_p47 : lw_okq (⟨"HatterTunesModel", "is", "(I)Z"⟩, 49) := ⟨⟨by decide +kernel, by decide +kernel⟩, List.mem_of_getElem? (i := 757) (by decide +kernel), List.mem_of_getElem? (i := 1033) (by decide +kernel), List.mem_of_getElem? (i := 1034) (by decide +kernel)⟩
def lw_privs_3 : List (MethodName × Nat) := [(⟨"HatterTunesModel", "isTrue", "(III)Z"⟩, 49), (⟨"HatterTunesModel", "letterOf", "(III)I"⟩, 49), (⟨"HatterTunesModel", "bumpsOf", "(II)I"⟩, 49), (⟨"HatterTunesModel", "isSeen", "(I)Z"⟩, 49), (⟨"HatterTunesModel", "keep", "([I)V"⟩, 49), (⟨"HatterTunesModel", "goesYear", "()V"⟩, 49), (⟨"HatterTunesModel", "growBy", "()I"⟩, 49), (⟨"HatterTunesModel", "soundOf", "(I)I"⟩, 49), (⟨"HatterTunesModel", "again", "([I)V"⟩, 49), (⟨"HatterTunesModel", "heard", "(I)I"⟩, 49), (⟨"HatterTunesModel", "sounds", "(I[I)V"⟩, 49), (⟨"HatterTunesModel", "when", "(I)I"⟩, 49), (⟨"HatterTunesModel", "presses", "(I)I"⟩, 49), (⟨"HatterTunesModel", "isClause", "(I)Z"⟩, 49), (⟨"HatterTunesModel", "isAll", "(Ljava/lang/String;)Z"⟩, 49), (⟨"HatterTunesModel", "is", "(I)Z"⟩, 49)]
theorem lw_r3 : ∀ q ∈ lw_privs_3, lw_okq q := List.forall_mem_cons.mpr ⟨lw_p32, List.forall_mem_cons.mpr ⟨lw_p33, List.forall_mem_cons.mpr ⟨lw_p34, List.forall_mem_cons.mpr ⟨lw_p35, List.forall_mem_cons.mpr ⟨lw_p36, List.forall_mem_cons.mpr ⟨lw_p37, List.forall_mem_cons.mpr ⟨lw_p38, List.forall_mem_cons.mpr ⟨lw_p39, List.forall_mem_cons.mpr ⟨lw_p40, List.forall_mem_cons.mpr ⟨lw_p41, List.forall_mem_cons.mpr ⟨lw_p42, List.forall_mem_cons.mpr ⟨lw_p43, List.forall_mem_cons.mpr ⟨lw_p44, List.forall_mem_cons.mpr ⟨lw_p45, List.forall_mem_cons.mpr ⟨lw_p46, List.forall_mem_cons.mpr ⟨lw_p47, fun _ h => absurd h List.not_mem_nil⟩⟩⟩⟩⟩⟩⟩⟩⟩⟩⟩⟩⟩⟩⟩⟩
theorem lw_p48 : lw_okq (⟨"HatterTunesModel", "isNumber", "()Z"⟩, 49) := ⟨⟨by decide +kernel, by decide +kernel⟩, List.mem_of_getElem? (i := 757) (by decide +kernel), List.mem_of_getElem? (i := 1039) (by decide +kernel), List.mem_of_getElem? (i := 1040) (by decide +kernel)⟩
theorem lw_p49 : lw_okq (⟨"HatterTunesModel", "isDigit", "()Z"⟩, 49) := ⟨⟨by decide +kernel, by decide +kernel⟩, List.mem_of_getElem? (i := 757) (by decide +kernel), List.mem_of_getElem? (i := 1043) (by decide +kernel), List.mem_of_getElem? (i := 1044) (by decide +kernel)⟩
theorem lw_p50 : lw_okq (⟨"HatterTunesModel", "isE", "()Z"⟩, 49) := ⟨⟨by decide +kernel, by decide +kernel⟩, List.mem_of_getElem? (i := 757) (by decide +kernel), List.mem_of_getElem? (i := 1047) (by decide +kernel), List.mem_of_getElem? (i := 1048) (by decide +kernel)⟩
theorem lw_p51 : lw_okq (⟨"HatterTunesModel", "isT", "()Z"⟩, 49) := ⟨⟨by decide +kernel, by decide +kernel⟩, List.mem_of_getElem? (i := 757) (by decide +kernel), List.mem_of_getElem? (i := 1051) (by decide +kernel), List.mem_of_getElem? (i := 1052) (by decide +kernel)⟩
theorem lw_p52 : lw_okq (⟨"HatterTunesModel", "isF", "()Z"⟩, 49) := ⟨⟨by decide +kernel, by decide +kernel⟩, List.mem_of_getElem? (i := 757) (by decide +kernel), List.mem_of_getElem? (i := 1055) (by decide +kernel), List.mem_of_getElem? (i := 1056) (by decide +kernel)⟩
theorem lw_p53 : lw_okq (⟨"HatterTunesModel", "isOpened", "(I)Z"⟩, 49) := ⟨⟨by decide +kernel, by decide +kernel⟩, List.mem_of_getElem? (i := 757) (by decide +kernel), List.mem_of_getElem? (i := 1059) (by decide +kernel), List.mem_of_getElem? (i := 1060) (by decide +kernel)⟩
theorem lw_p54 : lw_okq (⟨"HatterTunesModel", "codes", "(I)Z"⟩, 49) := ⟨⟨by decide +kernel, by decide +kernel⟩, List.mem_of_getElem? (i := 757) (by decide +kernel), List.mem_of_getElem? (i := 1063) (by decide +kernel), List.mem_of_getElem? (i := 1064) (by decide +kernel)⟩
theorem lw_p55 : lw_okq (⟨"HatterTunesModel", "isTest", "()Z"⟩, 49) := ⟨⟨by decide +kernel, by decide +kernel⟩, List.mem_of_getElem? (i := 757) (by decide +kernel), List.mem_of_getElem? (i := 1067) (by decide +kernel), List.mem_of_getElem? (i := 1068) (by decide +kernel)⟩
theorem lw_p56 : lw_okq (⟨"HatterTunesModel", "allHeard", "()I"⟩, 49) := ⟨⟨by decide +kernel, by decide +kernel⟩, List.mem_of_getElem? (i := 757) (by decide +kernel), List.mem_of_getElem? (i := 1134) (by decide +kernel), List.mem_of_getElem? (i := 1135) (by decide +kernel)⟩
theorem lw_p57 : lw_okq (⟨"HatterTunesModel", "allNotes", "()I"⟩, 49) := ⟨⟨by decide +kernel, by decide +kernel⟩, List.mem_of_getElem? (i := 757) (by decide +kernel), List.mem_of_getElem? (i := 1138) (by decide +kernel), List.mem_of_getElem? (i := 1139) (by decide +kernel)⟩
theorem lw_p58 : lw_okq (⟨"HatterTunesModel", "share", "(II)I"⟩, 49) := ⟨⟨by decide +kernel, by decide +kernel⟩, List.mem_of_getElem? (i := 757) (by decide +kernel), List.mem_of_getElem? (i := 1151) (by decide +kernel), List.mem_of_getElem? (i := 1152) (by decide +kernel)⟩
theorem lw_p59 : lw_okq (⟨"HatterTunesModel", "rowsFrom", "(III)V"⟩, 49) := ⟨⟨by decide +kernel, by decide +kernel⟩, List.mem_of_getElem? (i := 757) (by decide +kernel), List.mem_of_getElem? (i := 1159) (by decide +kernel), List.mem_of_getElem? (i := 1160) (by decide +kernel)⟩
theorem lw_p60 : lw_okq (⟨"HatterTunesModel", "hums", "(III)I"⟩, 49) := ⟨⟨by decide +kernel, by decide +kernel⟩, List.mem_of_getElem? (i := 757) (by decide +kernel), List.mem_of_getElem? (i := 1219) (by decide +kernel), List.mem_of_getElem? (i := 1220) (by decide +kernel)⟩
theorem lw_p61 : lw_okq (⟨"HatterTunesModel", "ran", "(I)V"⟩, 49) := ⟨⟨by decide +kernel, by decide +kernel⟩, List.mem_of_getElem? (i := 757) (by decide +kernel), List.mem_of_getElem? (i := 1223) (by decide +kernel), List.mem_of_getElem? (i := 1224) (by decide +kernel)⟩
theorem lw_p62 : lw_okq (⟨"HatterTunesModel", "plays", "(III)I"⟩, 49) := ⟨⟨by decide +kernel, by decide +kernel⟩, List.mem_of_getElem? (i := 757) (by decide +kernel), List.mem_of_getElem? (i := 1230) (by decide +kernel), List.mem_of_getElem? (i := 1231) (by decide +kernel)⟩
theorem lw_p63 : lw_okq (⟨"HatterTunesModel", "tells", "(III)I"⟩, 49) := ⟨⟨by decide +kernel, by decide +kernel⟩, List.mem_of_getElem? (i := 757) (by decide +kernel), List.mem_of_getElem? (i := 1234) (by decide +kernel), List.mem_of_getElem? (i := 1235) (by decide +kernel)⟩
def lw_privs_4 : List (MethodName × Nat) := [(⟨"HatterTunesModel", "isNumber", "()Z"⟩, 49), (⟨"HatterTunesModel", "isDigit", "()Z"⟩, 49), (⟨"HatterTunesModel", "isE", "()Z"⟩, 49), (⟨"HatterTunesModel", "isT", "()Z"⟩, 49), (⟨"HatterTunesModel", "isF", "()Z"⟩, 49), (⟨"HatterTunesModel", "isOpened", "(I)Z"⟩, 49), (⟨"HatterTunesModel", "codes", "(I)Z"⟩, 49), (⟨"HatterTunesModel", "isTest", "()Z"⟩, 49), (⟨"HatterTunesModel", "allHeard", "()I"⟩, 49), (⟨"HatterTunesModel", "allNotes", "()I"⟩, 49), (⟨"HatterTunesModel", "share", "(II)I"⟩, 49), (⟨"HatterTunesModel", "rowsFrom", "(III)V"⟩, 49), (⟨"HatterTunesModel", "hums", "(III)I"⟩, 49), (⟨"HatterTunesModel", "ran", "(I)V"⟩, 49), (⟨"HatterTunesModel", "plays", "(III)I"⟩, 49), (⟨"HatterTunesModel", "tells", "(III)I"⟩, 49)]
theorem lw_r4 : ∀ q ∈ lw_privs_4, lw_okq q := List.forall_mem_cons.mpr ⟨lw_p48, List.forall_mem_cons.mpr ⟨lw_p49, List.forall_mem_cons.mpr ⟨lw_p50, List.forall_mem_cons.mpr ⟨lw_p51, List.forall_mem_cons.mpr ⟨lw_p52, List.forall_mem_cons.mpr ⟨lw_p53, List.forall_mem_cons.mpr ⟨lw_p54, List.forall_mem_cons.mpr ⟨lw_p55, List.forall_mem_cons.mpr ⟨lw_p56, List.forall_mem_cons.mpr ⟨lw_p57, List.forall_mem_cons.mpr ⟨lw_p58, List.forall_mem_cons.mpr ⟨lw_p59, List.forall_mem_cons.mpr ⟨lw_p60, List.forall_mem_cons.mpr ⟨lw_p61, List.forall_mem_cons.mpr ⟨lw_p62, List.forall_mem_cons.mpr ⟨lw_p63, fun _ h => absurd h List.not_mem_nil⟩⟩⟩⟩⟩⟩⟩⟩⟩⟩⟩⟩⟩⟩⟩⟩
def lw_privs : List (MethodName × Nat) := lw_privs_1 ++ (lw_privs_2 ++ (lw_privs_3 ++ (lw_privs_4)))
def lw_tbl : List Cond := k2_sels lw_privs ++ tables_1
theorem lw_privs_ok : ∀ q ∈ lw_privs, lw_okq q := by
  show ∀ q ∈ lw_privs_1 ++ (lw_privs_2 ++ (lw_privs_3 ++ (lw_privs_4))), lw_okq q
  exact List.forall_mem_append.mpr ⟨lw_r1, List.forall_mem_append.mpr ⟨lw_r2, List.forall_mem_append.mpr ⟨lw_r3, lw_r4⟩⟩⟩
end
section
/-! the abstract machine: tables, printed by a program out of the words of the Statement -/
abbrev AV : Type := Int ⊕ (Int64 ⊕ Option Nat)
abbrev vI (x : Int) : AV := Sum.inl x
abbrev vJ (x : Int64) : AV := Sum.inr (Sum.inl x)
abbrev vR (r : Option Nat) : AV := Sum.inr (Sum.inr r)
def zcns : List String := ["HatterTunes$Actor", "HatterTunes$Choir", "HatterTunes$House", "HatterTunes$Rows", "HatterTunes$Shop", "HatterTunes$Tape", "HatterTunes$Text", "HatterTunes", "HatterTunesModel", "HatterTunesLaw", "java/lang/String", "java/lang/StringLatin1", "java/lang/Integer", "java/lang/Math", "jdk/internal/util/Preconditions", "java/lang/StringUTF16", "java/lang/Character", "java/lang/Object", "java/lang/System"]
def zcn (o : Nat) : String := zcns.getD o ""
def zfl : List (List (String × String × String × Bool)) := [[("HatterTunes$Actor", "bodies", "[I", true), ("HatterTunes$Actor", "ran", "I", false), ("HatterTunes$Actor", "number", "I", false), ("HatterTunes$Actor", "kind", "I", false), ("HatterTunes$Actor", "v", "I", false)],
  [("HatterTunes$Choir", "shares", "[I", true), ("HatterTunes$Choir", "sounds", "[I", true), ("HatterTunes$Choir", "row", "[I", true), ("HatterTunes$Choir", "best", "[I", true), ("HatterTunes$Choir", "size", "I", false), ("HatterTunes$Choir", "mostShared", "I", false)],
  [("HatterTunes$House", "kinds", "[I", true), ("HatterTunes$House", "vs", "[I", true), ("HatterTunes$House", "ages", "[I", true), ("HatterTunes$House", "bumps", "[I", true), ("HatterTunes$House", "rows", "[I", true), ("HatterTunes$House", "facts", "[I", true), ("HatterTunes$House", "tune", "LHatterTunes$Rows;", true), ("HatterTunes$House", "seen", "LHatterTunes$Rows;", true), ("HatterTunes$House", "plan", "LHatterTunes$Rows;", true), ("HatterTunes$House", "book", "LHatterTunes$Rows;", true), ("HatterTunes$House", "size", "I", false), ("HatterTunes$House", "year", "I", false), ("HatterTunes$House", "shop", "LHatterTunes$Shop;", false)],
  [("HatterTunes$Rows", "cells", "[I", true), ("HatterTunes$Rows", "size", "I", false)],
  [("HatterTunes$Shop", "steps", "[I", true), ("HatterTunes$Shop", "letters", "[I", true), ("HatterTunes$Shop", "numbers", "[I", true), ("HatterTunes$Shop", "length", "I", false), ("HatterTunes$Shop", "growth", "I", false)],
  [("HatterTunes$Tape", "items", "[J", true), ("HatterTunes$Tape", "sort", "I", false), ("HatterTunes$Tape", "length", "I", false)],
  [("HatterTunes$Text", "signs", "[I", true), ("HatterTunes$Text", "length", "I", false), ("HatterTunes$Text", "place", "I", false), ("HatterTunes$Text", "number", "I", false), ("HatterTunes$Text", "shop", "LHatterTunes$Shop;", false)],
  [("HatterTunes", "bare", "LHatterTunes$Shop;", true), ("HatterTunes", "now", "LHatterTunes$House;", true), ("HatterTunes", "trial", "LHatterTunes$House;", true), ("HatterTunes", "kept", "LHatterTunes$House;", true), ("HatterTunes", "imaged", "Z", false), ("HatterTunes", "text", "LHatterTunes$Text;", true), ("HatterTunes", "shops", "[LHatterTunes$Shop;", true), ("HatterTunes", "shopCount", "I", false), ("HatterTunes", "tapes", "[LHatterTunes$Tape;", true), ("HatterTunes", "actor", "LHatterTunes$Actor;", true), ("HatterTunes", "choir", "LHatterTunes$Choir;", true)],
  [("HatterTunesModel", "heads", "I", false), ("HatterTunesModel", "kind", "[I", true), ("HatterTunesModel", "v", "[I", true), ("HatterTunesModel", "bumps", "[I", true), ("HatterTunesModel", "age", "[I", true), ("HatterTunesModel", "rows", "[I", true), ("HatterTunesModel", "noted", "I", false), ("HatterTunesModel", "tune", "[I", true), ("HatterTunesModel", "year", "I", false), ("HatterTunesModel", "texted", "I", false), ("HatterTunesModel", "text", "[I", true), ("HatterTunesModel", "at", "I", false), ("HatterTunesModel", "value", "I", false), ("HatterTunesModel", "digits", "I", false), ("HatterTunesModel", "open", "I", false), ("HatterTunesModel", "shops", "I", false), ("HatterTunesModel", "holds", "I", false), ("HatterTunesModel", "clauses", "[I", true), ("HatterTunesModel", "word", "[I", true), ("HatterTunesModel", "number", "[I", true), ("HatterTunesModel", "begins", "[I", true), ("HatterTunesModel", "length", "[I", true), ("HatterTunesModel", "code", "[I", true), ("HatterTunesModel", "coded", "I", false), ("HatterTunesModel", "stack", "[Z", true), ("HatterTunesModel", "seen", "I", false), ("HatterTunesModel", "seenOf", "[I", true), ("HatterTunesModel", "seenBump", "[I", true), ("HatterTunesModel", "seenIn", "[I", true), ("HatterTunesModel", "seenNote", "[I", true), ("HatterTunesModel", "inPlan", "I", false), ("HatterTunesModel", "goes", "[I", true), ("HatterTunesModel", "whose", "[I", true), ("HatterTunesModel", "inBook", "I", false), ("HatterTunesModel", "booked", "[I", true), ("HatterTunesModel", "bookAge", "[I", true), ("HatterTunesModel", "traced", "I", false), ("HatterTunesModel", "traces", "[I", true), ("HatterTunesModel", "imaged", "Z", false), ("HatterTunesModel", "image", "[I", true), ("HatterTunesModel", "ahead", "[I", true), ("HatterTunesModel", "sound", "[I", true), ("HatterTunesModel", "other", "[I", true), ("HatterTunesModel", "tried", "[I", true), ("HatterTunesModel", "best", "[I", true), ("HatterTunesModel", "least", "I", false), ("HatterTunesModel", "tapeSort", "[I", true), ("HatterTunesModel", "tapeSize", "[I", true), ("HatterTunesModel", "items", "[J", true)]]
def zT (ci : Nat) : u_T := fun k => (zfl.getD ci []).getD k ("", "", "", false)
def zNs : List Nat := [5, 6, 13, 2, 5, 3, 5, 11, 49, 2]
def zNf (ci : Nat) : Nat := zNs.getD ci 0
def zftT : List (List Nat) := [[2, 0, 0, 0, 0], [2, 2, 2, 2, 0, 0], [2, 2, 2, 2, 2, 2, 2, 2, 2, 2, 0, 0, 2], [2, 0], [2, 2, 2, 0, 0], [2, 0, 0], [2, 0, 0, 0, 2], [2, 2, 2, 2, 1, 2, 2, 0, 2, 2, 2], [0, 2, 2, 2, 2, 2, 0, 2, 0, 0, 2, 0, 0, 0, 0, 0, 0, 2, 2, 2, 2, 2, 2, 0, 2, 0, 2, 2, 2, 2, 0, 2, 2, 0, 2, 2, 0, 2, 1, 2, 2, 2, 2, 2, 2, 0, 2, 2, 2], [2, 0]]
def zft (ci k : Nat) : Nat := (zftT.getD ci []).getD k 0
def zfinT : List (List Bool) := [[true, false, false, false, false], [true, true, true, true, false, false], [true, true, true, true, true, true, true, true, true, true, false, false, false], [true, false], [true, true, true, false, false], [true, false, false], [true, false, false, false, false], [true, true, true, true, false, true, true, false, true, true, true], [false, true, true, true, true, true, false, true, false, false, true, false, false, false, false, false, false, true, true, true, true, true, true, false, true, false, true, true, true, true, false, true, true, false, true, true, false, true, false, true, true, true, true, true, true, false, true, true, true], []]
def zfin (ci k : Nat) : Bool := (zfinT.getD ci []).getD k false
def zcls9 : List vw_C := [0, 1, 2, 3, 4, 5, 6, 7, 8].map fun ci => (zcn ci, zT ci, zNf ci)
def zfldT : List (List (Nat × Nat × Nat × Nat)) := [[(9, 0, 0, 221), (15, 0, 1, 223), (25, 0, 2, 225), (28, 0, 3, 226), (31, 0, 4, 227)], [(37, 2, 10, 155), (9, 1, 0, 245), (15, 1, 1, 246), (18, 1, 2, 247), (21, 1, 3, 248), (30, 1, 4, 250), (34, 1, 5, 252)], [(87, 4, 4, 102), (113, 3, 1, 131), (9, 2, 0, 137), (15, 2, 1, 139), (18, 2, 2, 141), (21, 2, 3, 143), (24, 2, 4, 144), (27, 2, 5, 146), (35, 2, 6, 147), (39, 2, 7, 149), (42, 2, 8, 151), (45, 2, 9, 153), (62, 2, 10, 157), (66, 2, 11, 158), (48, 2, 12, 160)], [(9, 3, 0, 128), (13, 3, 1, 129)], [(9, 4, 0, 96), (15, 4, 1, 97), (18, 4, 2, 98), (21, 4, 3, 99), (25, 4, 4, 100)], [(9, 5, 0, 271), (15, 5, 1, 273), (19, 5, 2, 275)], [(72, 4, 4, 101), (9, 6, 0, 195), (15, 6, 1, 196), (28, 6, 2, 198), (62, 6, 3, 199), (24, 6, 4, 200)], [(174, 4, 4, 103), (183, 3, 1, 130), (81, 2, 0, 138), (85, 2, 1, 140), (88, 2, 2, 142), (155, 2, 4, 145), (137, 2, 6, 148), (208, 2, 7, 150), (223, 2, 8, 152), (229, 2, 9, 154), (69, 2, 10, 156), (171, 2, 11, 159), (168, 2, 12, 161), (272, 6, 1, 197), (266, 0, 0, 222), (273, 0, 1, 224), (202, 1, 3, 249), (201, 1, 4, 251), (248, 5, 0, 272), (235, 5, 1, 274), (241, 5, 2, 276), (14, 7, 0, 285), (23, 7, 1, 286), (27, 7, 2, 287), (30, 7, 3, 288), (252, 7, 4, 289), (36, 7, 5, 290), (40, 7, 6, 291), (161, 7, 7, 292), (46, 7, 8, 293), (53, 7, 9, 294), (60, 7, 10, 295)], [(114, 8, 0, 826), (9, 8, 1, 827), (15, 8, 2, 828), (18, 8, 3, 829), (21, 8, 4, 830), (24, 8, 5, 831), (154, 8, 6, 832), (27, 8, 7, 833), (235, 8, 8, 834), (157, 8, 9, 835), (30, 8, 10, 836), (160, 8, 11, 837), (163, 8, 12, 838), (166, 8, 13, 839), (201, 8, 14, 840), (229, 8, 15, 841), (110, 8, 16, 842), (33, 8, 17, 843), (36, 8, 18, 844), (39, 8, 19, 845), (42, 8, 20, 846), (45, 8, 21, 847), (48, 8, 22, 848), (185, 8, 23, 849), (51, 8, 24, 850), (286, 8, 25, 851), (55, 8, 26, 852), (58, 8, 27, 853), (61, 8, 28, 854), (64, 8, 29, 855), (307, 8, 30, 856), (67, 8, 31, 857), (70, 8, 32, 858), (310, 8, 33, 859), (73, 8, 34, 860), (76, 8, 35, 861), (317, 8, 36, 862), (79, 8, 37, 863), (313, 8, 38, 864), (82, 8, 39, 865), (85, 8, 40, 866), (88, 8, 41, 867), (91, 8, 42, 868), (94, 8, 43, 869), (97, 8, 44, 870), (279, 8, 45, 871), (100, 8, 46, 872), (103, 8, 47, 873), (106, 8, 48, 874)], [], [(9, 9, 0, 1336), (15, 9, 1, 1337)], [], [], [], [], [], [], [], []]
def zfld (o i : Nat) : Option (Nat × Nat) := ((zfldT.getD (o % 100) []).find? (fun e => e.1 == i)).map (fun e => (e.2.1, e.2.2.1))
def zstats : List (String × String × String × AV) := [("HatterTunes", "POWERS", "[I", vR (some 1)), ("HatterTunes", "ABOVE", "[I", vR (some 2)), ("HatterTunes", "BODIES", "[I", vR (some 3)), ("java/lang/String", "COMPACT_STRINGS", "Z", vI 1), ("jdk/internal/util/Preconditions", "SIOOBE_FORMATTER", "Ljava/util/function/BiFunction;", vR (some 30))]
def zstatT : List (List (Nat × Nat × Bool × Nat)) := [[(52, 2, true, 754), (45, 1, true, 756)], [], [(122, 0, true, 389)], [], [], [], [], [(205, 0, false, 631), (295, 1, false, 778)], [], [], [(38, 3, false, 510), (1053, 4, false, 526)], [], [], [], [], [], [], [], []]
def zstat (o i : Nat) : Option AV := ((zstatT.getD (o % 100) []).find? (fun e => e.1 == i)).map (fun e => (zstats.getD e.2.1 ("", "", "", vI 0)).2.2.2)
def zclT : List (List (Nat × Nat × Nat)) := [[], [], [(30, 3, 122)], [], [], [], [], [(11, 4, 90), (18, 2, 116), (33, 6, 189), (44, 5, 213), (50, 0, 215), (57, 1, 239)], [], [(7, 7, 82), (10, 8, 820)], [], [], [], [], [], [], [], [], []]
def zcl (o i : Nat) : Option Nat := ((zclT.getD (o % 100) []).find? (fun e => e.1 == i)).map (fun e => e.2.1)
def zldcT : List (List (Nat × AV × Nat)) := [[], [], [], [], [], [], [(43, vR (some 4), 497), (52, vR (some 6), 591), (54, vR (some 8), 592)], [], [(219, vR (some 10), 1089), (225, vR (some 12), 1100), (227, vR (some 14), 1101), (188, vR (some 16), 1134), (193, vR (some 18), 1192)], [], [], [], [(265, vI 1431655765, 643), (266, vI 858993459, 644), (267, vI 252645135, 645)], [], [], [(227, vI 65536, 1162)], [(110, vI 55232, 1187), (76, vI 56320, 1191)], [], []]
def zldc (o i : Nat) : Option AV := ((zldcT.getD (o % 100) []).find? (fun e => e.1 == i)).map (fun e => e.2.1)
def zldc2T : List (List (Nat × Int64 × Nat)) := [[], [], [], [], [], [], [], [(211, (-9223372036854775808 : Int64), 673)], [(299, (-9223372036854775808 : Int64), 1238), (301, (60 : Int64), 1239)], [(131, (4294967295 : Int64), 1335)], [], [], [], [], [], [], [], [], []]
def zldc2 (o i : Nat) : Option Int64 := ((zldc2T.getD (o % 100) []).find? (fun e => e.1 == i)).map (fun e => e.2.1)
def zmnT : List MethodName := [⟨"HatterTunes", "<init>", "()V"⟩,
  ⟨"java/lang/Object", "<init>", "()V"⟩,
  ⟨"HatterTunes$Shop", "<init>", "()V"⟩,
  ⟨"HatterTunes$House", "<init>", "(LHatterTunes$Shop;)V"⟩,
  ⟨"HatterTunes$Rows", "<init>", "(I)V"⟩,
  ⟨"HatterTunes$Text", "<init>", "()V"⟩,
  ⟨"HatterTunes$Actor", "<init>", "()V"⟩,
  ⟨"HatterTunes$Choir", "<init>", "()V"⟩,
  ⟨"HatterTunes$Tape", "<init>", "()V"⟩,
  ⟨"HatterTunes", "head", "(II)I"⟩,
  ⟨"HatterTunes", "isBelow", "(II)Z"⟩,
  ⟨"HatterTunes$House", "addHead", "(II)I"⟩,
  ⟨"HatterTunes$House", "setAllBumps", "(II)V"⟩,
  ⟨"HatterTunes$House", "setBump", "(III)V"⟩,
  ⟨"HatterTunes", "of", "(II)I"⟩,
  ⟨"HatterTunes", "isHead", "(I)Z"⟩,
  ⟨"HatterTunes$House", "soundOf", "(I)I"⟩,
  ⟨"HatterTunes$House", "noteOf", "(II)I"⟩,
  ⟨"HatterTunes$House", "pitchOf", "(II)I"⟩,
  ⟨"HatterTunes$House", "tellFacts", "(II)V"⟩,
  ⟨"HatterTunes$House", "bumpOf", "(II)I"⟩,
  ⟨"HatterTunes$Shop", "sharpness", "([I)I"⟩,
  ⟨"java/lang/Math", "min", "(II)I"⟩,
  ⟨"java/lang/Math", "floorMod", "(II)I"⟩,
  ⟨"HatterTunes$House", "heardIn", "(I)I"⟩,
  ⟨"HatterTunes$House", "tuneAsNumber", "()I"⟩,
  ⟨"HatterTunes$Rows", "at", "(II)I"⟩,
  ⟨"HatterTunes", "whenHeard", "(I)I"⟩,
  ⟨"HatterTunes$House", "copyFrom", "(LHatterTunes$House;)V"⟩,
  ⟨"HatterTunes$Rows", "copyFrom", "(LHatterTunes$Rows;)V"⟩,
  ⟨"HatterTunes$House", "goYear", "()V"⟩,
  ⟨"HatterTunes$House", "raiseBump", "(II)V"⟩,
  ⟨"HatterTunes", "leastPress", "(I)I"⟩,
  ⟨"HatterTunes", "wouldHear", "(II)Z"⟩,
  ⟨"HatterTunes", "ofBump", "(III)I"⟩,
  ⟨"HatterTunes", "possibleBumps", "(II)I"⟩,
  ⟨"HatterTunes$House", "bearsOutSeen", "(I)Z"⟩,
  ⟨"HatterTunes", "press", "(III)I"⟩,
  ⟨"HatterTunes", "note", "(I)I"⟩,
  ⟨"HatterTunes$Rows", "empty", "()I"⟩,
  ⟨"HatterTunes$Rows", "isFull", "()Z"⟩,
  ⟨"HatterTunes$Rows", "add", "(IIII)I"⟩,
  ⟨"HatterTunes", "row", "(III)I"⟩,
  ⟨"HatterTunes", "feed", "(I)I"⟩,
  ⟨"HatterTunes$Text", "isFull", "()Z"⟩,
  ⟨"HatterTunes$Text", "add", "(I)I"⟩,
  ⟨"HatterTunes", "shop", "()I"⟩,
  ⟨"HatterTunes$Text", "parseInto", "(LHatterTunes$Shop;)I"⟩,
  ⟨"HatterTunes$Shop", "clear", "()V"⟩,
  ⟨"HatterTunes$Text", "isClause", "()Z"⟩,
  ⟨"HatterTunes$Text", "peek", "()I"⟩,
  ⟨"HatterTunes$Text", "isWord", "(Ljava/lang/String;)Z"⟩,
  ⟨"java/lang/String", "length", "()I"⟩,
  ⟨"java/lang/String", "coder", "()B"⟩,
  ⟨"java/lang/String", "charAt", "(I)C"⟩,
  ⟨"java/lang/String", "isLatin1", "()Z"⟩,
  ⟨"java/lang/StringLatin1", "charAt", "([BI)C"⟩,
  ⟨"java/lang/String", "checkIndex", "(II)V"⟩,
  ⟨"jdk/internal/util/Preconditions", "checkIndex", "(IILjava/util/function/BiFunction;)I"⟩,
  ⟨"java/lang/StringUTF16", "charAt", "([BI)C"⟩,
  ⟨"java/lang/StringUTF16", "checkIndex", "(I[B)V"⟩,
  ⟨"java/lang/StringUTF16", "length", "([B)I"⟩,
  ⟨"java/lang/StringUTF16", "getChar", "([BI)C"⟩,
  ⟨"HatterTunes$Text", "take", "(I)Z"⟩,
  ⟨"HatterTunes$Text", "isBend", "(I)Z"⟩,
  ⟨"HatterTunes$Text", "isNumber", "()Z"⟩,
  ⟨"HatterTunes$Text", "isDigit", "(I)Z"⟩,
  ⟨"HatterTunes$Text", "isEither", "(I)Z"⟩,
  ⟨"HatterTunes$Text", "isBoth", "(I)Z"⟩,
  ⟨"HatterTunes$Text", "isFactor", "(I)Z"⟩,
  ⟨"HatterTunes$Shop", "addStep", "(III)V"⟩,
  ⟨"HatterTunes$Text", "isTest", "()Z"⟩,
  ⟨"HatterTunes$Text", "letterNumber", "(I)I"⟩,
  ⟨"HatterTunes$Text", "relationStep", "(I)I"⟩,
  ⟨"HatterTunes$Text", "isGrowth", "()Z"⟩,
  ⟨"HatterTunes", "told", "(I)I"⟩,
  ⟨"HatterTunes$House", "heardBits", "()I"⟩,
  ⟨"HatterTunes$House", "notesTogether", "()I"⟩,
  ⟨"HatterTunes", "pass", "(I)I"⟩,
  ⟨"HatterTunes$House", "goYears", "(I)V"⟩,
  ⟨"HatterTunes", "on", "(III)I"⟩,
  ⟨"HatterTunes", "shared", "(II)I"⟩,
  ⟨"HatterTunes", "sharedNotes", "(II)I"⟩,
  ⟨"HatterTunes", "anthem", "(II)I"⟩,
  ⟨"HatterTunes$Choir", "seek", "(LHatterTunes$House;I)V"⟩,
  ⟨"java/lang/Integer", "bitCount", "(I)I"⟩,
  ⟨"HatterTunes$Choir", "extend", "(III)V"⟩,
  ⟨"HatterTunes$Choir", "keepIfBetter", "(I)V"⟩,
  ⟨"HatterTunes$Choir", "length", "()I"⟩,
  ⟨"HatterTunes", "see", "(IIII)I"⟩,
  ⟨"HatterTunes", "can", "(II)I"⟩,
  ⟨"HatterTunes", "odds", "(II)J"⟩,
  ⟨"HatterTunes", "pressesHeard", "(I)I"⟩,
  ⟨"HatterTunes", "lowestTerm", "(III)J"⟩,
  ⟨"HatterTunes", "commonDivisor", "(II)I"⟩,
  ⟨"HatterTunes", "mean", "(II)J"⟩,
  ⟨"HatterTunes", "plan", "(II)I"⟩,
  ⟨"HatterTunes", "ends", "(I)I"⟩,
  ⟨"HatterTunes$House", "followPlan", "()V"⟩,
  ⟨"HatterTunes$House", "raiseAllBumps", "(I)V"⟩,
  ⟨"HatterTunes", "book", "(II)I"⟩,
  ⟨"HatterTunes", "looked", "()I"⟩,
  ⟨"HatterTunes", "judge", "(II)I"⟩,
  ⟨"HatterTunes$Tape", "holds", "()Z"⟩,
  ⟨"HatterTunes$Tape", "hasPlace", "(I)Z"⟩,
  ⟨"HatterTunes", "image", "()I"⟩,
  ⟨"HatterTunes", "undo", "()I"⟩,
  ⟨"HatterTunes", "act", "(III)I"⟩,
  ⟨"HatterTunes$Actor", "forget", "()V"⟩,
  ⟨"HatterTunes$Actor", "perform", "(IIIII)I"⟩,
  ⟨"HatterTunes$Actor", "does", "(IIII)I"⟩,
  ⟨"HatterTunes$Actor", "bodyFrom", "(II)I"⟩,
  ⟨"HatterTunes$Actor", "keepBody", "(I)V"⟩,
  ⟨"HatterTunes", "trace", "(I)I"⟩,
  ⟨"HatterTunes$Actor", "keptBodies", "()I"⟩,
  ⟨"HatterTunes", "taken", "(II)I"⟩,
  ⟨"HatterTunes", "isUnder", "(II)Z"⟩,
  ⟨"HatterTunes", "count", "(I)I"⟩,
  ⟨"HatterTunes", "tape", "(III)I"⟩,
  ⟨"HatterTunes$Tape", "drop", "()I"⟩,
  ⟨"HatterTunes$Tape", "become", "(II)I"⟩,
  ⟨"HatterTunes", "item", "(IIJ)I"⟩,
  ⟨"HatterTunes$Tape", "set", "(IJ)I"⟩,
  ⟨"HatterTunes$Tape", "cut", "(J)J"⟩,
  ⟨"HatterTunes", "read", "(II)J"⟩,
  ⟨"HatterTunes", "shift", "(IIIII)I"⟩,
  ⟨"HatterTunes$Tape", "hasStretch", "(II)Z"⟩,
  ⟨"HatterTunesModel", "<init>", "()V"⟩,
  ⟨"HatterTunesModel", "head", "(II)I"⟩,
  ⟨"HatterTunesModel", "within", "(III)Z"⟩,
  ⟨"HatterTunesModel", "of", "(II)I"⟩,
  ⟨"HatterTunesModel", "isOne", "(I)Z"⟩,
  ⟨"HatterTunesModel", "isBump", "(I)Z"⟩,
  ⟨"HatterTunesModel", "noteOf", "(II)I"⟩,
  ⟨"HatterTunesModel", "pitch", "(II)I"⟩,
  ⟨"HatterTunesModel", "sum", "(II)I"⟩,
  ⟨"HatterTunesModel", "isTrue", "(III)Z"⟩,
  ⟨"HatterTunesModel", "letterOf", "(III)I"⟩,
  ⟨"HatterTunesModel", "bumpsOf", "(II)I"⟩,
  ⟨"HatterTunesModel", "isSeen", "(I)Z"⟩,
  ⟨"HatterTunesModel", "on", "(III)I"⟩,
  ⟨"HatterTunesModel", "keep", "([I)V"⟩,
  ⟨"HatterTunesModel", "goesYear", "()V"⟩,
  ⟨"HatterTunesModel", "growBy", "()I"⟩,
  ⟨"HatterTunesModel", "soundOf", "(I)I"⟩,
  ⟨"HatterTunesModel", "again", "([I)V"⟩,
  ⟨"HatterTunesModel", "heard", "(I)I"⟩,
  ⟨"HatterTunesModel", "sounds", "(I[I)V"⟩,
  ⟨"HatterTunesModel", "when", "(I)I"⟩,
  ⟨"HatterTunesModel", "presses", "(I)I"⟩,
  ⟨"HatterTunesModel", "press", "(III)I"⟩,
  ⟨"HatterTunesModel", "isNote", "(I)Z"⟩,
  ⟨"HatterTunesModel", "note", "(I)I"⟩,
  ⟨"HatterTunesModel", "row", "(III)I"⟩,
  ⟨"HatterTunesModel", "feed", "(I)I"⟩,
  ⟨"HatterTunesModel", "shop", "()I"⟩,
  ⟨"HatterTunesModel", "isClause", "(I)Z"⟩,
  ⟨"HatterTunesModel", "isAll", "(Ljava/lang/String;)Z"⟩,
  ⟨"HatterTunesModel", "is", "(I)Z"⟩,
  ⟨"HatterTunesModel", "isNumber", "()Z"⟩,
  ⟨"HatterTunesModel", "isDigit", "()Z"⟩,
  ⟨"HatterTunesModel", "isE", "()Z"⟩,
  ⟨"HatterTunesModel", "isT", "()Z"⟩,
  ⟨"HatterTunesModel", "isF", "()Z"⟩,
  ⟨"HatterTunesModel", "isOpened", "(I)Z"⟩,
  ⟨"HatterTunesModel", "codes", "(I)Z"⟩,
  ⟨"HatterTunesModel", "isTest", "()Z"⟩,
  ⟨"java/lang/String", "indexOf", "(I)I"⟩,
  ⟨"java/lang/String", "indexOf", "(II)I"⟩,
  ⟨"java/lang/StringLatin1", "indexOf", "([BIII)I"⟩,
  ⟨"java/lang/StringLatin1", "canEncode", "(I)Z"⟩,
  ⟨"java/lang/Math", "max", "(II)I"⟩,
  ⟨"java/lang/StringLatin1", "indexOfChar", "([BIII)I"⟩,
  ⟨"java/lang/StringUTF16", "indexOf", "([BIII)I"⟩,
  ⟨"java/lang/StringUTF16", "indexOfChar", "([BIII)I"⟩,
  ⟨"java/lang/StringUTF16", "checkBoundsBeginEnd", "(II[B)V"⟩,
  ⟨"java/lang/String", "checkBoundsBeginEnd", "(III)V"⟩,
  ⟨"jdk/internal/util/Preconditions", "checkFromToIndex", "(IIILjava/util/function/BiFunction;)I"⟩,
  ⟨"java/lang/StringUTF16", "indexOfCharUnsafe", "([BIII)I"⟩,
  ⟨"java/lang/StringUTF16", "indexOfSupplementary", "([BIII)I"⟩,
  ⟨"java/lang/Character", "isValidCodePoint", "(I)Z"⟩,
  ⟨"java/lang/Character", "highSurrogate", "(I)C"⟩,
  ⟨"java/lang/Character", "lowSurrogate", "(I)C"⟩,
  ⟨"HatterTunesModel", "told", "(I)I"⟩,
  ⟨"HatterTunesModel", "allHeard", "()I"⟩,
  ⟨"HatterTunesModel", "allNotes", "()I"⟩,
  ⟨"HatterTunesModel", "pass", "(I)I"⟩,
  ⟨"HatterTunesModel", "shared", "(II)I"⟩,
  ⟨"HatterTunesModel", "share", "(II)I"⟩,
  ⟨"HatterTunesModel", "anthem", "(II)I"⟩,
  ⟨"HatterTunesModel", "rowsFrom", "(III)V"⟩,
  ⟨"HatterTunesModel", "see", "(IIII)I"⟩,
  ⟨"HatterTunesModel", "can", "(II)I"⟩,
  ⟨"HatterTunesModel", "odds", "(II)J"⟩,
  ⟨"HatterTunesModel", "part", "(JJI)J"⟩,
  ⟨"java/lang/Math", "abs", "(J)J"⟩,
  ⟨"HatterTunesModel", "mean", "(II)J"⟩,
  ⟨"HatterTunesModel", "plan", "(II)I"⟩,
  ⟨"HatterTunesModel", "ends", "(I)I"⟩,
  ⟨"HatterTunesModel", "book", "(II)I"⟩,
  ⟨"HatterTunesModel", "looked", "()I"⟩,
  ⟨"HatterTunesModel", "judge", "(II)I"⟩,
  ⟨"HatterTunesModel", "image", "()I"⟩,
  ⟨"HatterTunesModel", "undo", "()I"⟩,
  ⟨"HatterTunesModel", "act", "(III)I"⟩,
  ⟨"HatterTunesModel", "hums", "(III)I"⟩,
  ⟨"HatterTunesModel", "ran", "(I)V"⟩,
  ⟨"HatterTunesModel", "above", "(I)I"⟩,
  ⟨"HatterTunesModel", "plays", "(III)I"⟩,
  ⟨"HatterTunesModel", "tells", "(III)I"⟩,
  ⟨"HatterTunesModel", "trace", "(I)I"⟩,
  ⟨"HatterTunesModel", "taken", "(II)I"⟩,
  ⟨"HatterTunesModel", "count", "(I)I"⟩,
  ⟨"HatterTunesModel", "tape", "(III)I"⟩,
  ⟨"HatterTunesModel", "isTape", "(I)Z"⟩,
  ⟨"HatterTunesModel", "item", "(IIJ)I"⟩,
  ⟨"HatterTunesModel", "kept", "(IJ)J"⟩,
  ⟨"HatterTunesModel", "read", "(II)J"⟩,
  ⟨"HatterTunesModel", "shift", "(IIIII)I"⟩]
def zmn (z : Nat) : MethodName := zmnT.getD z ⟨"", "", ""⟩
def zbT : List ByteArray := [prog_1_method_1_code, object_method_1_code, prog_6_method_1_code, prog_4_method_1_code, prog_5_method_1_code, prog_8_method_1_code, prog_2_method_1_code, prog_3_method_1_code, prog_7_method_1_code, prog_1_method_2_code, prog_1_method_43_code, prog_4_method_3_code, prog_4_method_6_code, prog_4_method_5_code, prog_1_method_3_code, prog_1_method_42_code, prog_4_method_14_code, prog_4_method_13_code, prog_4_method_11_code, prog_4_method_12_code, prog_4_method_4_code, prog_6_method_4_code, prog_13_method_69_code, prog_13_method_50_code, prog_4_method_15_code, prog_4_method_16_code, prog_5_method_5_code, prog_1_method_5_code, prog_4_method_2_code, prog_5_method_6_code, prog_4_method_10_code, prog_4_method_7_code, prog_1_method_6_code, prog_1_method_7_code, prog_1_method_4_code, prog_1_method_8_code, prog_4_method_19_code, prog_1_method_9_code, prog_1_method_10_code, prog_5_method_4_code, prog_5_method_2_code, prog_5_method_3_code, prog_1_method_11_code, prog_1_method_12_code, prog_8_method_2_code, prog_8_method_3_code, prog_1_method_13_code, prog_8_method_4_code, prog_6_method_2_code, prog_8_method_5_code, prog_8_method_18_code, prog_8_method_16_code, prog_14_method_54_code, prog_14_method_152_code, prog_14_method_56_code, prog_14_method_154_code, prog_15_method_2_code, prog_14_method_155_code, prog_18_method_11_code, prog_16_method_83_code, prog_16_method_91_code, prog_16_method_6_code, prog_16_method_5_code, prog_8_method_17_code, prog_8_method_6_code, prog_8_method_14_code, prog_8_method_15_code, prog_8_method_8_code, prog_8_method_9_code, prog_8_method_10_code, prog_6_method_3_code, prog_8_method_11_code, prog_8_method_12_code, prog_8_method_13_code, prog_8_method_7_code, prog_1_method_14_code, prog_4_method_17_code, prog_4_method_18_code, prog_1_method_15_code, prog_4_method_9_code, prog_1_method_16_code, prog_1_method_17_code, prog_1_method_19_code, prog_1_method_18_code, prog_3_method_2_code, prog_12_method_49_code, prog_3_method_4_code, prog_3_method_5_code, prog_3_method_3_code, prog_1_method_20_code, prog_1_method_21_code, prog_1_method_22_code, prog_1_method_23_code, prog_1_method_25_code, prog_1_method_26_code, prog_1_method_24_code, prog_1_method_27_code, prog_1_method_28_code, prog_4_method_20_code, prog_4_method_8_code, prog_1_method_29_code, prog_1_method_30_code, prog_1_method_31_code, prog_7_method_2_code, prog_7_method_3_code, prog_1_method_32_code, prog_1_method_33_code, prog_1_method_34_code, prog_2_method_2_code, prog_2_method_4_code, prog_2_method_5_code, prog_2_method_6_code, prog_2_method_7_code, prog_1_method_35_code, prog_2_method_3_code, prog_1_method_36_code, prog_1_method_44_code, prog_1_method_37_code, prog_1_method_38_code, prog_7_method_5_code, prog_7_method_6_code, prog_1_method_39_code, prog_7_method_7_code, prog_7_method_8_code, prog_1_method_40_code, prog_1_method_41_code, prog_7_method_4_code, prog_10_method_1_code, prog_10_method_6_code, prog_10_method_2_code, prog_10_method_7_code, prog_10_method_3_code, prog_10_method_4_code, prog_10_method_29_code, prog_10_method_28_code, prog_10_method_26_code, prog_10_method_25_code, prog_10_method_24_code, prog_10_method_47_code, prog_10_method_46_code, prog_10_method_38_code, prog_10_method_57_code, prog_10_method_35_code, prog_10_method_27_code, prog_10_method_31_code, prog_10_method_58_code, prog_10_method_32_code, prog_10_method_30_code, prog_10_method_39_code, prog_10_method_44_code, prog_10_method_8_code, prog_10_method_5_code, prog_10_method_9_code, prog_10_method_10_code, prog_10_method_11_code, prog_10_method_23_code, prog_10_method_22_code, prog_10_method_15_code, prog_10_method_12_code, prog_10_method_14_code, prog_10_method_13_code, prog_10_method_21_code, prog_10_method_20_code, prog_10_method_19_code, prog_10_method_18_code, prog_10_method_16_code, prog_10_method_17_code, prog_14_method_79_code, prog_14_method_80_code, prog_15_method_22_code, prog_15_method_4_code, prog_13_method_65_code, prog_15_method_23_code, prog_16_method_40_code, prog_16_method_47_code, prog_16_method_93_code, prog_14_method_158_code, prog_18_method_12_code, prog_16_method_48_code, prog_16_method_49_code, prog_11_method_11_code, prog_11_method_28_code, prog_11_method_29_code, prog_10_method_36_code, prog_10_method_33_code, prog_10_method_34_code, prog_10_method_37_code, prog_10_method_41_code, prog_10_method_40_code, prog_10_method_43_code, prog_10_method_42_code, prog_10_method_45_code, prog_10_method_48_code, prog_10_method_50_code, prog_10_method_49_code, prog_13_method_61_code, prog_10_method_51_code, prog_10_method_52_code, prog_10_method_53_code, prog_10_method_54_code, prog_10_method_55_code, prog_10_method_56_code, prog_10_method_59_code, prog_10_method_60_code, prog_10_method_66_code, prog_10_method_63_code, prog_10_method_61_code, prog_10_method_62_code, prog_10_method_64_code, prog_10_method_65_code, prog_10_method_67_code, prog_10_method_68_code, prog_10_method_69_code, prog_10_method_71_code, prog_10_method_70_code, prog_10_method_73_code, prog_10_method_72_code, prog_10_method_74_code, prog_10_method_75_code]
def zb (z : Nat) : ByteArray := zbT.getD z ByteArray.empty
def zmlT : List Nat := [2, 1, 1, 2, 2, 1, 1, 1, 1, 3, 2, 5, 4, 4, 3, 2, 4, 3, 6, 3, 3, 7, 2, 3, 7, 3, 3, 3, 2, 2, 3, 3, 3, 5, 4, 5, 5, 5, 2, 1, 1, 6, 6, 2, 1, 2, 3, 4, 1, 1, 1, 3, 1, 1, 2, 1, 2, 2, 3, 2, 2, 1, 2, 2, 3, 1, 1, 3, 3, 3, 4, 3, 1, 1, 1, 2, 3, 4, 2, 3, 5, 3, 3, 3, 5, 1, 6, 2, 1, 5, 6, 3, 4, 5, 6, 3, 3, 2, 3, 3, 3, 3, 7, 1, 2, 1, 1, 4, 1, 6, 7, 5, 2, 2, 1, 4, 4, 2, 4, 1, 4, 5, 4, 3, 3, 8, 3, 2, 4, 3, 3, 2, 1, 4, 5, 6, 10, 4, 6, 3, 5, 3, 4, 3, 4, 3, 5, 4, 4, 6, 5, 1, 2, 5, 2, 5, 4, 3, 2, 1, 1, 1, 1, 2, 2, 2, 3, 2, 3, 4, 1, 2, 6, 4, 4, 3, 3, 4, 5, 7, 2, 1, 1, 2, 3, 4, 4, 3, 6, 3, 5, 5, 7, 7, 11, 2, 4, 3, 5, 3, 2, 4, 1, 1, 5, 4, 2, 1, 5, 5, 2, 4, 2, 5, 1, 5, 3, 3, 7]
def zml (z : Nat) : Nat := zmlT.getD z 0
def zoT : List Nat := [107, 117, 104, 102, 103, 106, 100, 101, 105, 7, 7, 2, 2, 2, 7, 7, 2, 2, 2, 2, 2, 4, 13, 13, 2, 2, 3, 7, 2, 3, 2, 2, 7, 7, 7, 7, 2, 7, 7, 3, 3, 3, 7, 7, 6, 6, 7, 6, 4, 6, 6, 6, 10, 10, 10, 10, 11, 10, 14, 15, 15, 15, 15, 6, 6, 6, 6, 6, 6, 6, 4, 6, 6, 6, 6, 7, 2, 2, 7, 2, 7, 7, 7, 7, 1, 12, 1, 1, 1, 7, 7, 7, 7, 7, 7, 7, 7, 7, 2, 2, 7, 7, 7, 5, 5, 7, 7, 7, 0, 0, 0, 0, 0, 7, 0, 7, 7, 7, 7, 5, 5, 7, 5, 5, 7, 7, 5, 108, 8, 8, 8, 8, 8, 8, 8, 8, 8, 8, 8, 8, 8, 8, 8, 8, 8, 8, 8, 8, 8, 8, 8, 8, 8, 8, 8, 8, 8, 8, 8, 8, 8, 8, 8, 8, 8, 8, 8, 10, 10, 11, 11, 13, 11, 15, 15, 15, 10, 14, 15, 15, 16, 16, 16, 8, 8, 8, 8, 8, 8, 8, 8, 8, 8, 8, 8, 13, 8, 8, 8, 8, 8, 8, 8, 8, 8, 8, 8, 8, 8, 8, 8, 8, 8, 8, 8, 8, 8, 8, 8]
def zo (z : Nat) : Nat := zoT.getD z 0
def znaT : List Nat := [0, 0, 0, 1, 1, 0, 0, 0, 0, 2, 2, 2, 2, 3, 2, 1, 1, 2, 2, 2, 2, 1, 2, 2, 1, 0, 2, 1, 1, 1, 0, 2, 1, 2, 3, 2, 1, 3, 1, 0, 0, 4, 3, 1, 0, 1, 0, 1, 0, 0, 0, 1, 0, 0, 1, 0, 2, 2, 3, 2, 2, 1, 2, 1, 1, 0, 1, 1, 1, 1, 3, 0, 1, 1, 0, 1, 0, 0, 1, 1, 3, 2, 2, 2, 2, 1, 3, 1, 0, 4, 2, 2, 1, 3, 2, 2, 2, 1, 0, 1, 2, 0, 2, 0, 1, 0, 0, 3, 0, 5, 4, 2, 1, 1, 0, 2, 2, 1, 3, 0, 2, 3, 2, 1, 2, 5, 2, 0, 2, 3, 2, 1, 1, 2, 2, 2, 3, 3, 2, 1, 3, 1, 0, 0, 1, 1, 1, 2, 1, 1, 3, 1, 1, 3, 1, 0, 1, 1, 1, 0, 0, 0, 0, 0, 1, 1, 0, 1, 2, 4, 1, 2, 4, 4, 4, 3, 3, 4, 4, 4, 1, 1, 1, 1, 0, 0, 1, 2, 2, 2, 3, 4, 2, 2, 3, 1, 2, 2, 1, 2, 0, 2, 0, 0, 3, 3, 1, 1, 3, 3, 1, 2, 1, 3, 1, 3, 2, 2, 5]
def zna (z : Nat) : Nat := znaT.getD z 0
def zrtT : List Nat := [0, 0, 0, 0, 0, 0, 0, 0, 0, 1, 2, 1, 0, 0, 1, 2, 1, 1, 1, 0, 1, 1, 1, 1, 1, 1, 1, 1, 0, 0, 0, 0, 1, 2, 1, 1, 2, 1, 1, 1, 2, 1, 1, 1, 2, 1, 1, 1, 0, 2, 1, 2, 1, 5, 3, 2, 3, 0, 1, 3, 0, 1, 3, 2, 2, 2, 2, 2, 2, 2, 0, 2, 1, 1, 2, 1, 1, 1, 1, 0, 1, 1, 1, 1, 0, 1, 0, 0, 1, 1, 1, 4, 1, 4, 1, 4, 1, 1, 0, 0, 1, 1, 1, 2, 2, 1, 1, 1, 0, 1, 1, 1, 0, 1, 1, 1, 2, 1, 1, 1, 1, 1, 1, 4, 4, 1, 2, 0, 1, 2, 1, 2, 2, 1, 1, 1, 2, 1, 1, 2, 1, 0, 0, 1, 1, 0, 1, 0, 1, 1, 1, 2, 1, 1, 1, 1, 2, 2, 2, 2, 2, 2, 2, 2, 2, 2, 2, 1, 1, 1, 2, 1, 1, 1, 1, 0, 0, 1, 1, 1, 2, 3, 3, 1, 1, 1, 1, 1, 1, 1, 0, 1, 1, 4, 4, 4, 4, 1, 1, 1, 1, 1, 1, 1, 1, 1, 0, 1, 1, 1, 1, 1, 1, 1, 2, 1, 4, 4, 1]
def zrt (z : Nat) : Nat := zrtT.getD z 0
def zrcT : List (Nat × Nat) := [(17, 11), (0, 0), (14, 5), (12, 13), (13, 2), (16, 5), (10, 5), (11, 6), (15, 3), (17, 11), (0, 0), (12, 13), (12, 13), (12, 13), (17, 11), (17, 11), (12, 13), (12, 13), (12, 13), (12, 13), (12, 13), (14, 5), (0, 0), (0, 0), (12, 13), (12, 13), (13, 2), (17, 11), (12, 13), (13, 2), (12, 13), (12, 13), (17, 11), (17, 11), (17, 11), (17, 11), (12, 13), (17, 11), (17, 11), (13, 2), (13, 2), (13, 2), (17, 11), (17, 11), (16, 5), (16, 5), (17, 11), (16, 5), (14, 5), (16, 5), (16, 5), (16, 5), (20, 2), (20, 2), (20, 2), (20, 2), (0, 0), (0, 0), (0, 0), (0, 0), (0, 0), (0, 0), (0, 0), (16, 5), (16, 5), (16, 5), (0, 0), (16, 5), (16, 5), (16, 5), (14, 5), (16, 5), (0, 0), (0, 0), (16, 5), (17, 11), (12, 13), (12, 13), (17, 11), (12, 13), (17, 11), (17, 11), (0, 0), (17, 11), (11, 6), (0, 0), (11, 6), (11, 6), (11, 6), (17, 11), (17, 11), (17, 11), (17, 11), (0, 0), (0, 0), (17, 11), (17, 11), (17, 11), (12, 13), (12, 13), (17, 11), (17, 11), (17, 11), (15, 3), (15, 3), (17, 11), (17, 11), (17, 11), (10, 5), (10, 5), (10, 5), (0, 0), (10, 5), (17, 11), (10, 5), (17, 11), (0, 0), (17, 11), (17, 11), (15, 3), (15, 3), (17, 11), (15, 3), (15, 3), (17, 11), (17, 11), (15, 3), (18, 49), (18, 49), (0, 0), (18, 49), (18, 49), (0, 0), (18, 49), (18, 49), (18, 49), (18, 49), (18, 49), (18, 49), (18, 49), (18, 49), (18, 49), (18, 49), (18, 49), (18, 49), (18, 49), (18, 49), (18, 49), (18, 49), (18, 49), (18, 49), (0, 0), (18, 49), (18, 49), (18, 49), (18, 49), (18, 49), (18, 49), (18, 49), (18, 49), (18, 49), (18, 49), (18, 49), (18, 49), (18, 49), (18, 49), (18, 49), (20, 2), (20, 2), (0, 0), (0, 0), (0, 0), (0, 0), (0, 0), (0, 0), (0, 0), (0, 0), (0, 0), (0, 0), (0, 0), (0, 0), (0, 0), (0, 0), (18, 49), (18, 49), (18, 49), (18, 49), (18, 49), (18, 49), (18, 49), (18, 49), (18, 49), (18, 49), (18, 49), (0, 0), (0, 0), (18, 49), (18, 49), (18, 49), (18, 49), (18, 49), (18, 49), (18, 49), (18, 49), (18, 49), (18, 49), (18, 49), (0, 0), (18, 49), (18, 49), (18, 49), (18, 49), (18, 49), (18, 49), (0, 0), (18, 49), (0, 0), (18, 49), (18, 49)]
def zrc (z : Nat) : Nat × Nat := zrcT.getD z (0, 0)
def zretT : Nat → Option FieldType := fun t => match t with | 0 => none | 1 => some .int | 2 => some .boolean | 3 => some .char | 4 => some .long | _ => some .byte
def zmthT : List (List (Nat × Nat × Nat × Nat)) := [[(3, 9, 1, 220), (34, 0, 110, 746), (38, 2, 111, 750), (48, 5, 10, 753), (41, 0, 112, 758), (19, 11, 22, 770)], [(3, 9, 1, 244), (24, 2, 85, 640), (40, 0, 16, 646), (43, 5, 82, 647), (47, 0, 86, 648), (51, 0, 87, 652), (55, 10, 0, 656)], [(3, 9, 1, 121), (32, 1, 4, 124), (69, 0, 12, 330), (73, 0, 13, 334), (110, 0, 17, 350), (104, 0, 18, 354), (97, 0, 19, 358), (77, 0, 20, 362), (100, 0, 21, 366), (92, 11, 22, 370), (107, 14, 23, 373), (114, 0, 25, 380), (125, 0, 26, 384), (118, 0, 16, 388), (52, 10, 0, 399), (58, 0, 29, 402), (81, 0, 31, 412), (84, 0, 30, 440), (128, 0, 24, 606), (131, 0, 99, 700)], [(1, 9, 1, 127), (17, 11, 22, 406), (23, 10, 0, 407)], [(3, 9, 1, 95)], [(3, 9, 1, 270), (22, 5, 10, 724), (26, 0, 123, 803)], [(3, 9, 1, 194), (19, 0, 48, 485), (31, 0, 49, 489), (39, 0, 50, 493), (45, 0, 51, 498), (94, 0, 52, 502), (98, 0, 54, 512), (35, 0, 63, 550), (49, 0, 64, 554), (59, 0, 65, 558), (91, 2, 66, 562), (65, 0, 67, 565), (75, 0, 68, 569), (78, 0, 69, 573), (68, 0, 70, 577), (81, 0, 71, 581), (84, 2, 72, 585), (88, 2, 73, 588), (56, 0, 74, 593)], [(5, 9, 1, 87), (13, 4, 2, 92), (20, 1, 3, 118), (35, 4, 5, 191), (52, 4, 6, 217), (59, 4, 7, 241), (64, 4, 8, 267), (65, 2, 10, 323), (73, 0, 11, 326), (77, 0, 15, 342), (91, 0, 16, 346), (95, 0, 24, 376), (98, 0, 27, 391), (120, 0, 28, 395), (124, 0, 30, 408), (101, 0, 32, 416), (127, 0, 33, 420), (130, 0, 13, 424), (108, 0, 20, 425), (104, 0, 34, 426), (111, 0, 17, 430), (114, 0, 18, 431), (117, 0, 35, 432), (134, 0, 36, 436), (141, 0, 39, 449), (147, 0, 40, 453), (151, 0, 41, 457), (158, 0, 44, 469), (159, 0, 45, 473), (164, 0, 47, 481), (177, 0, 76, 602), (180, 0, 77, 607), (184, 0, 26, 611), (187, 0, 79, 616), (191, 2, 82, 628), (194, 0, 84, 636), (198, 0, 88, 657), (213, 0, 92, 674), (216, 2, 93, 678), (220, 2, 94, 681), (226, 0, 98, 696), (232, 0, 103, 716), (238, 0, 104, 720), (243, 11, 22, 725), (256, 0, 108, 738), (259, 0, 109, 742), (263, 0, 114, 766), (269, 2, 116, 775), (276, 0, 119, 787), (279, 0, 120, 791), (282, 0, 122, 799), (286, 0, 126, 815), (289, 10, 0, 819)], [(3, 9, 1, 825), (117, 2, 129, 979), (121, 0, 131, 986), (125, 2, 132, 990), (128, 0, 133, 993), (132, 0, 134, 997), (245, 0, 135, 1001), (242, 0, 136, 1005), (238, 0, 137, 1009), (248, 11, 22, 1013), (135, 0, 138, 1014), (292, 0, 139, 1018), (289, 0, 140, 1022), (269, 0, 141, 1026), (266, 0, 142, 1030), (257, 0, 143, 1034), (138, 0, 144, 1038), (273, 0, 145, 1042), (142, 0, 146, 1046), (253, 0, 147, 1050), (145, 0, 148, 1054), (148, 0, 149, 1058), (151, 2, 151, 1066), (232, 0, 156, 1085), (221, 0, 157, 1090), (173, 0, 52, 1094), (178, 0, 54, 1095), (182, 0, 158, 1096), (195, 0, 159, 1102), (169, 0, 160, 1106), (210, 0, 161, 1110), (216, 0, 162, 1114), (207, 0, 163, 1118), (204, 0, 164, 1122), (198, 0, 165, 1126), (213, 0, 166, 1130), (190, 0, 167, 1135), (260, 0, 184, 1197), (263, 0, 185, 1201), (276, 0, 188, 1214), (282, 0, 190, 1222), (303, 2, 194, 1240), (295, 13, 195, 1243), (324, 0, 205, 1282), (320, 0, 206, 1286), (327, 2, 207, 1290), (330, 0, 208, 1293), (333, 0, 209, 1297), (336, 2, 214, 1317), (339, 2, 216, 1324)], [(9, 1, 0, 84), (13, 0, 9, 319), (18, 0, 14, 338), (22, 0, 37, 441), (27, 0, 38, 445), (32, 0, 42, 461), (36, 0, 43, 465), (40, 0, 46, 477), (45, 0, 75, 598), (49, 0, 78, 612), (53, 0, 80, 620), (57, 0, 81, 624), (61, 0, 83, 632), (65, 0, 89, 661), (70, 0, 90, 665), (74, 0, 91, 669), (79, 0, 95, 684), (83, 0, 96, 688), (87, 0, 97, 692), (91, 0, 100, 704), (95, 0, 101, 708), (99, 0, 102, 712), (103, 0, 105, 726), (107, 0, 106, 730), (111, 0, 107, 734), (115, 0, 113, 762), (119, 0, 115, 771), (123, 0, 117, 779), (127, 0, 118, 783), (133, 0, 121, 795), (138, 0, 124, 807), (142, 0, 125, 811), (12, 1, 127, 822), (17, 0, 128, 975), (21, 0, 130, 982), (26, 0, 150, 1062), (31, 0, 152, 1069), (35, 0, 153, 1073), (39, 0, 154, 1077), (44, 0, 155, 1081), (48, 0, 183, 1193), (52, 0, 186, 1205), (56, 0, 140, 1209), (60, 0, 187, 1210), (64, 0, 189, 1218), (69, 0, 191, 1226), (73, 0, 192, 1230), (78, 0, 193, 1234), (82, 0, 196, 1246), (86, 0, 197, 1250), (90, 0, 198, 1254), (94, 0, 199, 1258), (98, 0, 200, 1262), (102, 0, 201, 1266), (106, 0, 202, 1270), (110, 0, 203, 1274), (114, 0, 204, 1278), (118, 0, 210, 1301), (122, 0, 211, 1305), (126, 0, 212, 1309), (130, 0, 213, 1313), (137, 0, 215, 1320), (141, 0, 217, 1327), (146, 0, 218, 1331)], [(335, 0, 53, 506), (492, 0, 55, 516), (495, 2, 56, 520), (1059, 2, 58, 528), (498, 2, 59, 531), (633, 0, 168, 1139), (505, 0, 52, 1143), (637, 2, 169, 1144), (640, 2, 173, 1157), (1062, 2, 177, 1172)], [(9, 2, 57, 523), (88, 2, 170, 1147), (92, 12, 171, 1150), (38, 11, 22, 1153), (95, 2, 172, 1154)], [], [], [], [(67, 2, 60, 534), (48, 2, 61, 537), (414, 2, 57, 540), (71, 2, 62, 541), (224, 12, 171, 1160), (183, 11, 22, 1161), (228, 2, 174, 1163), (96, 2, 175, 1166), (241, 2, 176, 1169), (244, 2, 178, 1175), (232, 2, 179, 1178), (164, 2, 180, 1181), (157, 2, 181, 1184), (161, 2, 182, 1188)], [], [], []]
def zmth (o i : Nat) : Option (Nat × Nat) := ((zmthT.getD (o % 100) []).find? (fun e => e.1 == i)).map (fun e => (e.2.1, e.2.2.1))
def zplT : List (Nat × Nat × Nat × Nat) := [(86, 85, 0, 65), (89, 88, 0, 0), (94, 93, 0, 66), (120, 119, 0, 67), (126, 125, 0, 68), (193, 192, 0, 69), (219, 218, 0, 70), (243, 242, 0, 71), (269, 268, 0, 72), (322, 320, 321, 65), (325, 324, 0, 65), (329, 327, 328, 67), (333, 332, 0, 67), (337, 335, 336, 67), (341, 339, 340, 65), (345, 344, 1, 65), (349, 347, 348, 67), (353, 351, 352, 67), (357, 355, 356, 67), (361, 360, 2, 67), (365, 363, 364, 67), (369, 367, 368, 66), (372, 371, 0, 74), (375, 374, 0, 74), (379, 377, 378, 67), (383, 382, 3, 67), (387, 385, 386, 68), (394, 393, 4, 65), (398, 396, 397, 67), (405, 403, 404, 68), (411, 409, 410, 67), (415, 414, 5, 67), (419, 418, 6, 65), (423, 422, 7, 65), (429, 428, 8, 65), (435, 434, 9, 65), (439, 437, 438, 67), (444, 442, 443, 65), (448, 446, 447, 65), (452, 450, 451, 68), (456, 454, 455, 68), (460, 458, 459, 68), (464, 462, 463, 65), (468, 466, 467, 65), (472, 470, 471, 69), (476, 474, 475, 69), (480, 478, 479, 65), (484, 482, 483, 69), (488, 486, 487, 66), (492, 491, 10, 69), (496, 495, 11, 69), (501, 500, 12, 69), (505, 503, 504, 76), (509, 507, 508, 76), (515, 513, 514, 76), (519, 517, 518, 76), (522, 521, 0, 77), (525, 524, 0, 76), (530, 529, 0, 78), (533, 532, 0, 79), (536, 535, 0, 79), (539, 538, 0, 79), (543, 542, 0, 79), (553, 552, 13, 69), (557, 556, 14, 69), (561, 560, 15, 69), (564, 563, 0, 69), (568, 567, 16, 69), (572, 571, 17, 69), (576, 575, 18, 69), (580, 578, 579, 66), (584, 583, 19, 69), (587, 586, 0, 69), (590, 589, 0, 69), (596, 595, 20, 69), (601, 599, 600, 65), (605, 603, 604, 67), (610, 608, 609, 67), (615, 613, 614, 65), (619, 617, 618, 67), (623, 621, 622, 65), (627, 625, 626, 65), (630, 629, 0, 65), (635, 633, 634, 65), (639, 637, 638, 71), (642, 641, 0, 81), (651, 650, 21, 71), (655, 654, 22, 71), (660, 658, 659, 71), (664, 662, 663, 65), (668, 666, 667, 65), (672, 670, 671, 65), (677, 676, 23, 65), (680, 679, 0, 65), (683, 682, 0, 65), (687, 685, 686, 65), (691, 689, 690, 65), (695, 693, 694, 65), (699, 697, 698, 67), (703, 702, 24, 67), (707, 705, 706, 65), (711, 709, 710, 65), (715, 713, 714, 65), (719, 717, 718, 72), (723, 721, 722, 72), (729, 727, 728, 65), (733, 731, 732, 65), (737, 735, 736, 65), (741, 739, 740, 70), (745, 743, 744, 70), (749, 748, 25, 70), (752, 751, 0, 70), (761, 760, 26, 70), (765, 763, 764, 65), (769, 767, 768, 70), (774, 772, 773, 65), (777, 776, 0, 65), (782, 780, 781, 65), (786, 784, 785, 65), (790, 788, 789, 72), (794, 792, 793, 72), (798, 796, 797, 65), (802, 800, 801, 72), (806, 805, 27, 72), (810, 808, 809, 65), (814, 812, 813, 65), (818, 816, 817, 72), (824, 823, 0, 73), (978, 976, 977, 73), (981, 980, 0, 73), (985, 983, 984, 73), (989, 988, 28, 73), (992, 991, 0, 73), (996, 995, 29, 73), (1000, 999, 30, 73), (1004, 1003, 31, 73), (1008, 1007, 32, 73), (1012, 1011, 33, 73), (1017, 1016, 34, 73), (1021, 1020, 35, 73), (1025, 1023, 1024, 73), (1029, 1028, 36, 73), (1033, 1032, 37, 73), (1037, 1036, 38, 73), (1041, 1040, 39, 73), (1045, 1044, 40, 73), (1049, 1048, 41, 73), (1053, 1052, 42, 73), (1057, 1056, 43, 73), (1061, 1060, 44, 73), (1065, 1063, 1064, 73), (1068, 1067, 0, 73), (1072, 1070, 1071, 73), (1076, 1074, 1075, 73), (1080, 1078, 1079, 73), (1084, 1082, 1083, 73), (1088, 1087, 45, 73), (1093, 1092, 46, 73), (1099, 1098, 47, 73), (1105, 1104, 48, 73), (1109, 1108, 49, 73), (1113, 1112, 50, 73), (1117, 1116, 51, 73), (1121, 1120, 52, 73), (1125, 1124, 53, 73), (1129, 1128, 54, 73), (1133, 1132, 55, 73), (1138, 1136, 1137, 76), (1142, 1140, 1141, 76), (1146, 1145, 0, 77), (1149, 1148, 0, 77), (1152, 1151, 0, 74), (1156, 1155, 0, 77), (1159, 1158, 0, 79), (1165, 1164, 0, 79), (1168, 1167, 0, 79), (1171, 1170, 0, 76), (1174, 1173, 0, 78), (1177, 1176, 0, 79), (1180, 1179, 0, 79), (1183, 1182, 0, 80), (1186, 1185, 0, 80), (1190, 1189, 0, 80), (1196, 1194, 1195, 73), (1200, 1199, 56, 73), (1204, 1203, 57, 73), (1208, 1206, 1207, 73), (1213, 1211, 1212, 73), (1217, 1216, 58, 73), (1221, 1219, 1220, 73), (1225, 1224, 59, 73), (1229, 1227, 1228, 73), (1233, 1231, 1232, 73), (1237, 1235, 1236, 73), (1242, 1241, 0, 73), (1245, 1244, 0, 74), (1249, 1247, 1248, 73), (1253, 1251, 1252, 73), (1257, 1255, 1256, 73), (1261, 1259, 1260, 73), (1265, 1263, 1264, 73), (1269, 1267, 1268, 73), (1273, 1271, 1272, 73), (1277, 1275, 1276, 73), (1281, 1279, 1280, 73), (1285, 1284, 60, 73), (1289, 1288, 61, 73), (1292, 1291, 0, 73), (1296, 1295, 62, 73), (1300, 1299, 63, 73), (1304, 1302, 1303, 73), (1308, 1306, 1307, 73), (1312, 1310, 1311, 73), (1316, 1314, 1315, 73), (1319, 1318, 0, 73), (1323, 1321, 1322, 73), (1326, 1325, 0, 73), (1330, 1328, 1329, 73), (1334, 1332, 1333, 73)]
def zlayT : List (List Nat) := [[228, 230, 232, 234, 236], [253, 255, 257, 259, 261, 263], [162, 164, 166, 168, 170, 172, 174, 176, 178, 180, 182, 184, 186], [132, 134], [104, 106, 108, 110, 112], [277, 279, 281], [201, 203, 205, 207, 209], [296, 298, 300, 302, 304, 306, 308, 310, 312, 314, 316], [875, 877, 879, 881, 883, 885, 887, 889, 891, 893, 895, 897, 899, 901, 903, 905, 907, 909, 911, 913, 915, 917, 919, 921, 923, 925, 927, 929, 931, 933, 935, 937, 939, 941, 943, 945, 947, 949, 951, 953, 955, 957, 959, 961, 963, 965, 967, 969, 971]]
/-- instantiable, initialized of the own types -/
def zcpT : List (Nat × Nat) := [(216, 70), (240, 71), (117, 67), (123, 68), (91, 66), (266, 72), (190, 69), (83, 65), (821, 73)]
def zarT : List Nat := [115, 974, 284]
def zaoT : List Nat := [212, 214]
/-- arraycopy: native, static, initialized System -/
def zacT : List Nat := [401, 400, 75]
def zbsT : List (Nat × Nat) := [(0, 0), (1, 7), (1, 7), (1, 21), (20, 2), (4, 6), (20, 2), (4, 5), (20, 2), (4, 5), (20, 2), (4, 6), (20, 2), (4, 5), (20, 2), (4, 5), (20, 2), (4, 6), (20, 2), (4, 3)]
def zbvT : List (List Int) := [[], [1, 10, 100, 1000, 10000, 100000, 1000000], [-1, 0, 0, 0, 1, 2, 3], [10, 11, 12, 0, 20, 0, 30, 0, 0, 0, 0, 40, 50, 51, 0, 0, 0, 60, 71, 70, 0], [], [115, 104, 97, 114, 112, 32], [], [102, 108, 97, 116, 32], [], [103, 114, 111, 119, 32], [], [115, 104, 97, 114, 112, 32], [], [102, 108, 97, 116, 32], [], [103, 114, 111, 119, 32], [], [112, 107, 118, 105, 98, 121], [], [60, 61, 62]]
/-- shapes of what was there before: 0 the script, 1 POWERS, 2 ABOVE, 3 BODIES, then a text and its bytes, eight times -/
def zbS (sl : Nat) (a : Nat) : Nat × Nat := if a = 0 then (1, sl) else zbsT.getD a (0, 0)
def zbV (xs : Nat → Int) (a k : Nat) : Int := if a = 0 then xs k else (zbvT.getD a []).getD k 0
def zbP (nl : Option Nat) (a k : Nat) : Option Nat := if a = 30 ∧ k = 0 then nl else if 4 ≤ a ∧ a < 20 ∧ a % 2 = 0 ∧ k = 0 then some (a + 1) else none
/-- laysStatic, initialized of the statics -/
def zlsT : List (Nat × Nat) := [(390, 65), (757, 65), (755, 65), (511, 76), (527, 78)]
/-- stringRef of the texts -/
def zsrT : List Nat := [497, 591, 592, 1089, 1100, 1101, 1134, 1192]
/-! the abstract machine: heap, one step, runs -/
/-- shapes (kind, size); ints; longs; references; how many cells; how many slots. Kinds: 1 int[], 2 boolean[], 3 long[], 4 byte[], 5 Shop[], 6 Tape[], 10 and more an object of an own type, 20 a text -/
def Hp : Type := (Nat → Nat × Nat) × (Nat → Nat → Int) × (Nat → Nat → Int64) × (Nat → Nat → Option Nat) × Nat × Nat
def zS (h : Hp) : Nat → Nat × Nat := h.1
def zV (h : Hp) : Nat → Nat → Int := h.2.1
def zJ (h : Hp) : Nat → Nat → Int64 := h.2.2.1
def zP (h : Hp) : Nat → Nat → Option Nat := h.2.2.2.1
def zN (h : Hp) : Nat := h.2.2.2.2.1
def zM (h : Hp) : Nat := h.2.2.2.2.2
def zsetV (h : Hp) (a k : Nat) (x : Int) : Hp := (zS h, fun b j => if b = a ∧ j = k then x else zV h b j, zJ h, zP h, zN h, zM h)
def zsetJ (h : Hp) (a k : Nat) (x : Int64) : Hp := (zS h, zV h, fun b j => if b = a ∧ j = k then x else zJ h b j, zP h, zN h, zM h)
def zsetP (h : Hp) (a k : Nat) (x : Option Nat) : Hp := (zS h, zV h, zJ h, fun b j => if b = a ∧ j = k then x else zP h b j, zN h, zM h)
def zmk (kd n : Nat) (h : Hp) : Hp := (fun b => if b = 32 + zN h then (kd, n) else zS h b, fun b j => if b = 32 + zN h then 0 else zV h b j, fun b j => if b = 32 + zN h then 0 else zJ h b j, fun b j => if b = 32 + zN h then none else zP h b j, zN h + 1, zM h + n)
def zcpV (h : Hp) (a sp b dp n : Nat) : Hp := (zS h, fun c k => if c = b ∧ dp ≤ k ∧ k < dp + n then zV h a (sp + (k - dp)) else zV h c k, zJ h, zP h, zN h, zM h)
def zcpJ (h : Hp) (a sp b dp n : Nat) : Hp := (zS h, zV h, fun c k => if c = b ∧ dp ≤ k ∧ k < dp + n then zJ h a (sp + (k - dp)) else zJ h c k, zP h, zN h, zM h)
def zw (x : Int) : Int := (x + 2147483648) % 4294967296 - 2147483648
def zr (x : Int) : Prop := -2147483648 ≤ x ∧ x < 2147483648
def ztag (v : AV) : Nat := match v with
  | .inl _ => 0
  | .inr (.inl _) => 1
  | .inr (.inr (some _)) => 2
  | .inr (.inr none) => 3
def zcat (v : AV) : Nat := match v with
  | .inr (.inl _) => 2
  | _ => 1
abbrev LL : Type := List (Option AV)
abbrev ZS : Type := Nat × LL × List AV × Hp
abbrev ZA : Type := Option (ZS ⊕ ((Nat × List AV × List AV) ⊕ Option AV))
def zn (pc : Nat) (L : LL) (st : List AV) (h : Hp) : ZA := some (.inl (pc, L, st, h))
def zget (L : LL) (k t : Nat) : Option AV := match L[k]? with
  | some (some v) => if ztag v = t then some v else none
  | _ => none
def zprev (L : LL) (k : Nat) : Bool := match k with
  | 0 => true
  | j + 1 => match L[j]? with
    | some (some (.inr (.inl _))) => false
    | _ => true
def zld (t k len pc l : Nat) (L : LL) (st : List AV) (h : Hp) : ZA := if l = len then (match zget L k t with
  | some v => zn (pc + len) L (v :: st) h
  | none => none) else none
def zsto (t k len pc l : Nat) (L : LL) (st : List AV) (h : Hp) : ZA := match st with
  | v :: r => if l = len ∧ ztag v = t ∧ zprev L k = true ∧ k < L.length then zn (pc + len) (L.set k (some v)) r h else none
  | [] => none
def zsto2 (k len pc l : Nat) (L : LL) (st : List AV) (h : Hp) : ZA := match st with
  | v :: r => if l = len ∧ ztag v = 1 ∧ zprev L k = true ∧ k + 1 < L.length then zn (pc + len) ((L.set k (some v)).set (k + 1) none) r h else none
  | [] => none
def zc1 (len : Nat) (v : AV) (pc l : Nat) (L : LL) (st : List AV) (h : Hp) : ZA := if l = len then zn (pc + len) L (v :: st) h else none
def zco (len : Nat) (v : Option AV) (pc l : Nat) (L : LL) (st : List AV) (h : Hp) : ZA := match v with
  | some v => zc1 len v pc l L st h
  | none => none
def zi2 (f : Int → Int → Int) (pc l : Nat) (L : LL) (st : List AV) (h : Hp) : ZA := match st with
  | .inl y :: .inl x :: r => if l = 1 then zn (pc + 1) L (vI (f x y) :: r) h else none
  | _ => none
def zi2d (f : Int → Int → Int) (pc l : Nat) (L : LL) (st : List AV) (h : Hp) : ZA := match st with
  | .inl y :: .inl x :: r => if l = 1 ∧ y ≠ 0 then zn (pc + 1) L (vI (f x y) :: r) h else none
  | _ => none
def zi1 (f : Int → AV) (pc l : Nat) (L : LL) (st : List AV) (h : Hp) : ZA := match st with
  | .inl x :: r => if l = 1 then zn (pc + 1) L (f x :: r) h else none
  | _ => none
def zj1 (f : Int64 → AV) (pc l : Nat) (L : LL) (st : List AV) (h : Hp) : ZA := match st with
  | .inr (.inl x) :: r => if l = 1 then zn (pc + 1) L (f x :: r) h else none
  | _ => none
def zj2 (f : Int64 → Int64 → AV) (pc l : Nat) (L : LL) (st : List AV) (h : Hp) : ZA := match st with
  | .inr (.inl y) :: .inr (.inl x) :: r => if l = 1 then zn (pc + 1) L (f x y :: r) h else none
  | _ => none
def zj2d (f : Int64 → Int64 → AV) (pc l : Nat) (L : LL) (st : List AV) (h : Hp) : ZA := match st with
  | .inr (.inl y) :: .inr (.inl x) :: r => if l = 1 ∧ y ≠ 0 then zn (pc + 1) L (f x y :: r) h else none
  | _ => none
def zji (f : Int64 → Int → AV) (pc l : Nat) (L : LL) (st : List AV) (h : Hp) : ZA := match st with
  | .inl y :: .inr (.inl x) :: r => if l = 1 then zn (pc + 1) L (f x y :: r) h else none
  | _ => none
/-- a static that holds a reference or null: its value stands in the heap, at 30 -/
def zstv (h : Hp) (v : AV) : AV := match v with
  | .inr (.inr (some 30)) => vR (zP h 30 0)
  | v => v
def zcond (c : Jvm.ClassFile.Cond) (x y : Int) : Bool := match c with
  | .eq => decide (x = y)
  | .ne => decide (x ≠ y)
  | .lt => decide (x < y)
  | .ge => decide (y ≤ x)
  | .gt => decide (y < x)
  | .le => decide (x ≤ y)
def zjmp (pc : Nat) (off : Int) (L : LL) (st : List AV) (h : Hp) : ZA := if 0 ≤ (pc : Int) + off then zn ((pc : Int) + off).toNat L st h else none
def zi (x : Int) : Int32 := Int32.ofInt x
def zfv (h : Hp) (ci a k : Nat) : AV := if zft ci k = 2 then vR (zP h a k) else vI (zV h a k)
/-- the kind of an object of the type ci; row 9 is String -/
def zkd (ci : Nat) : Nat := if ci = 9 then 20 else 10 + ci
def zgetf (e : Option (Nat × Nat)) (pc l : Nat) (L : LL) (st : List AV) (h : Hp) : ZA := match e, st with
  | some (ci, k), .inr (.inr (some a)) :: r => if l = 3 ∧ zS h a = (zkd ci, zNf ci) ∧ (ci = 9 → a < 32) then zn (pc + 3) L (zfv h ci a k :: r) h else none
  | _, _ => none
def zputf (o : Nat) (e : Option (Nat × Nat)) (pc l : Nat) (L : LL) (st : List AV) (h : Hp) : ZA := match e, st with
  | some (ci, k), .inl x :: .inr (.inr (some a)) :: r => if l = 3 ∧ ci < 9 ∧ zS h a = (10 + ci, zNf ci) ∧ 32 ≤ a ∧ (zft ci k = 0 ∨ (zft ci k = 1 ∧ (x = 0 ∨ x = 1))) ∧ (zfin ci k = true → 100 ≤ o ∧ o % 100 = ci) then zn (pc + 3) L r (zsetV h a k x) else none
  | some (ci, k), .inr (.inr p) :: .inr (.inr (some a)) :: r => if l = 3 ∧ ci < 9 ∧ zS h a = (10 + ci, zNf ci) ∧ 32 ≤ a ∧ zft ci k = 2 ∧ (zfin ci k = true → 100 ≤ o ∧ o % 100 = ci) then zn (pc + 3) L r (zsetP h a k p) else none
  | _, _ => none
def zald (kd : Nat) (f : Nat → Nat → AV) (pc l : Nat) (L : LL) (st : List AV) (h : Hp) : ZA := match st with
  | .inl i :: .inr (.inr (some a)) :: r => if l = 1 ∧ (zS h a).1 = kd ∧ 0 ≤ i ∧ i < ((zS h a).2 : Int) then zn (pc + 1) L (f a i.toNat :: r) h else none
  | _ => none
def ziast (pc l : Nat) (L : LL) (st : List AV) (h : Hp) : ZA := match st with
  | .inl x :: .inl i :: .inr (.inr (some a)) :: r => if l = 1 ∧ (zS h a).1 = 1 ∧ 32 ≤ a ∧ 0 ≤ i ∧ i < ((zS h a).2 : Int) then zn (pc + 1) L r (zsetV h a i.toNat x) else none
  | _ => none
def zbast (pc l : Nat) (L : LL) (st : List AV) (h : Hp) : ZA := match st with
  | .inl x :: .inl i :: .inr (.inr (some a)) :: r => if l = 1 ∧ (zS h a).1 = 2 ∧ 32 ≤ a ∧ 0 ≤ i ∧ i < ((zS h a).2 : Int) ∧ (x = 0 ∨ x = 1) then zn (pc + 1) L r (zsetV h a i.toNat x) else none
  | _ => none
def zlast (pc l : Nat) (L : LL) (st : List AV) (h : Hp) : ZA := match st with
  | .inr (.inl x) :: .inl i :: .inr (.inr (some a)) :: r => if l = 1 ∧ (zS h a).1 = 3 ∧ 32 ≤ a ∧ 0 ≤ i ∧ i < ((zS h a).2 : Int) then zn (pc + 1) L r (zsetJ h a i.toNat x) else none
  | _ => none
def zaast (pc l : Nat) (L : LL) (st : List AV) (h : Hp) : ZA := match st with
  | .inr (.inr (some v)) :: .inl i :: .inr (.inr (some a)) :: r => if l = 1 ∧ 32 ≤ a ∧ 0 ≤ i ∧ i < ((zS h a).2 : Int) ∧ (((zS h a).1 = 5 ∧ zS h v = (14, zNf 4)) ∨ ((zS h a).1 = 6 ∧ zS h v = (15, zNf 5))) then zn (pc + 1) L r (zsetP h a i.toNat (some v)) else none
  | _ => none
def zalen (pc l : Nat) (L : LL) (st : List AV) (h : Hp) : ZA := match st with
  | .inr (.inr (some a)) :: r => if l = 1 ∧ 1 ≤ (zS h a).1 ∧ (zS h a).1 ≤ 6 ∧ (zS h a).2 < 2147483648 ∧ ((zS h a).1 = 4 → a < 32) then zn (pc + 1) L (vI ((zS h a).2 : Int) :: r) h else none
  | _ => none
def znew (e : Option Nat) (pc l : Nat) (L : LL) (st : List AV) (h : Hp) : ZA := match e with
  | some ci => if l = 3 ∧ ci < 9 then zn (pc + 3) L (vR (some (32 + zN h)) :: st) (zmk (10 + ci) (zNf ci) h) else none
  | none => none
def znewa (kd len : Nat) (pc l : Nat) (L : LL) (st : List AV) (h : Hp) : ZA := match st with
  | .inl x :: r => if l = len ∧ 1 ≤ kd ∧ 0 ≤ x ∧ x ≤ 1000000 then zn (pc + len) L (vR (some (32 + zN h)) :: r) (zmk kd x.toNat h) else none
  | _ => none
def zatype (t : ArrayType) : Nat := match t with
  | .int => 1
  | .boolean => 2
  | .long => 3
  | _ => 0
def zwt (r : List AV) : Nat := (r.map zcat).sum
def zcpy (d pc l : Nat) (L : LL) (st : List AV) (h : Hp) : ZA := match st with
  | .inl n :: .inl dp :: .inr (.inr (some b)) :: .inl sp :: .inr (.inr (some a)) :: r => if l = 3 ∧ 1 ≤ d ∧ zwt r ≤ 8 ∧ 32 ≤ a ∧ 32 ≤ b ∧ 0 ≤ n ∧ 0 ≤ sp ∧ 0 ≤ dp ∧ sp + n ≤ ((zS h a).2 : Int) ∧ dp + n ≤ ((zS h b).2 : Int) ∧ (((zS h a).1 = 1 ∧ (zS h b).1 = 1) ∨ ((zS h a).1 = 3 ∧ (zS h b).1 = 3)) then zn (pc + 3) L r (if (zS h a).1 = 1 then zcpV h a sp.toNat b dp.toNat n.toNat else zcpJ h a sp.toNat b dp.toNat n.toNat) else none
  | _ => none
/-- Math.min, max of ints; the others of its own methods that are called -/
def zmm (f : Int → Int → Int) (d pc l : Nat) (L : LL) (st : List AV) (h : Hp) : ZA := match st with
  | .inl y :: .inl x :: r => if l = 3 ∧ 1 ≤ d ∧ zwt r ≤ 8 then zn (pc + 3) L (vI (f x y) :: r) h else none
  | _ => none
def zmab (d pc l : Nat) (L : LL) (st : List AV) (h : Hp) : ZA := match st with
  | .inr (.inl x) :: r => if l = 3 ∧ 1 ≤ d ∧ zwt r ≤ 8 then zn (pc + 3) L (vJ (if 0 < x then x else -x) :: r) h else none
  | _ => none
def zfm32 (a b : Int32) : Int32 := if 0 ≤ a ^^^ b then a - a / b * b else if a - a / b * b = 0 then a - a / b * b else a - a / b * b + b
def zmfm (d pc l : Nat) (L : LL) (st : List AV) (h : Hp) : ZA := match st with
  | .inl y :: .inl x :: r => if l = 3 ∧ 1 ≤ d ∧ zwt r ≤ 8 ∧ y ≠ 0 then zn (pc + 3) L (vI (zfm32 (zi x) (zi y)).toInt :: r) h else none
  | _ => none
def zoinit (d pc l : Nat) (L : LL) (st : List AV) (h : Hp) : ZA := match st with
  | .inr (.inr (some _)) :: r => if l = 3 ∧ 1 ≤ d ∧ zwt r ≤ 8 then zn (pc + 3) L r h else none
  | _ => none
/-- a call: kind 0 virtual, 1 special, 2 static, 4 special of a nest mate, 5 static of a nest mate -/
def zcall (l : Nat) (na z : Nat) (st : List AV) : ZA := if l = 3 ∧ na ≤ st.length ∧ zwt (st.drop na) ≤ 8 then some (.inr (.inl (z, (st.take na).reverse, st.drop na))) else none
def zinv (e : Option (Nat × Nat)) (l : Nat) (st : List AV) (h : Hp) : ZA := match e with
  | some (0, z) => (match st[zna z]? with
    | some (.inr (.inr (some a))) => if zS h a = zrc z ∧ 10 ≤ (zrc z).1 ∧ ((zrc z).1 = 20 → a < 32) then zcall l (zna z + 1) z st else none
    | _ => none)
  | _ => none
def zinvS (e : Option (Nat × Nat)) (l : Nat) (st : List AV) : ZA := match e with
  | some (2, z) => zcall l (zna z) z st
  | some (5, z) => zcall l (zna z) z st
  | _ => none
def zinvI (d : Nat) (e : Option (Nat × Nat)) (pc l : Nat) (L : LL) (st : List AV) (h : Hp) : ZA := match e with
  | some (9, _) => zoinit d pc l L st h
  | some (k, z) => if k = 1 ∨ k = 4 then (match st[zna z]? with
    | some (.inr (.inr (some _))) => zcall l (zna z + 1) z st
    | _ => none) else none
  | _ => none
def zret (v : Option AV) (l : Nat) : ZA := if l = 1 then some (.inr (.inr v)) else none
def zin (d o pc l : Nat) (L : LL) (st : List AV) (h : Hp) (i : Instr) : ZA := match i with
  | .aload_n k => zld 2 k.val 1 pc l L st h
  | .iload_n k => zld 0 k.val 1 pc l L st h
  | .lload_n k => zld 1 k.val 1 pc l L st h
  | .aload k => zld 2 k 2 pc l L st h
  | .iload k => zld 0 k 2 pc l L st h
  | .lload k => zld 1 k 2 pc l L st h
  | .astore_n k => zsto 2 k.val 1 pc l L st h
  | .istore_n k => zsto 0 k.val 1 pc l L st h
  | .lstore_n k => zsto2 k.val 1 pc l L st h
  | .astore k => zsto 2 k 2 pc l L st h
  | .istore k => zsto 0 k 2 pc l L st h
  | .lstore k => zsto2 k 2 pc l L st h
  | .iinc k c => (match zget L k 0 with
    | some (.inl x) => if l = 3 ∧ zprev L k = true then zn (pc + 3) (L.set k (some (vI (zw (x + c))))) st h else none
    | _ => none)
  | .iconst n => zc1 1 (vI (zw n)) pc l L st h
  | .bipush n => zc1 2 (vI (Int8.ofInt n).toInt32.toInt) pc l L st h
  | .sipush n => zc1 3 (vI (Int16.ofInt n).toInt32.toInt) pc l L st h
  | .lconst n => zc1 1 (vJ (Int64.ofNat n.val)) pc l L st h
  | .ldc k => zco 2 (zldc o k) pc l L st h
  | .ldc_w k => (match zldc o k with
    | some (.inl x) => zc1 3 (vI x) pc l L st h
    | _ => none)
  | .ldc2_w k => zco 3 ((zldc2 o k).map vJ) pc l L st h
  | .getstatic k => zco 3 ((zstat o k).map (zstv h)) pc l L st h
  | .getfield k => zgetf (zfld o k) pc l L st h
  | .putfield k => zputf o (zfld o k) pc l L st h
  | .iadd => zi2 (fun x y => zw (x + y)) pc l L st h
  | .isub => zi2 (fun x y => zw (x - y)) pc l L st h
  | .imul => zi2 (fun x y => zw (x * y)) pc l L st h
  | .idiv => zi2d (fun x y => (zi x / zi y).toInt) pc l L st h
  | .irem => zi2d (fun x y => (zi x - zi x / zi y * zi y).toInt) pc l L st h
  | .iand => zi2 (fun x y => (zi x &&& zi y).toInt) pc l L st h
  | .ior => zi2 (fun x y => (zi x ||| zi y).toInt) pc l L st h
  | .ixor => zi2 (fun x y => (zi x ^^^ zi y).toInt) pc l L st h
  | .ishl => zi2 (fun x y => (zi x <<< (zi y &&& 31)).toInt) pc l L st h
  | .ishr => zi2 (fun x y => (zi x >>> (zi y &&& 31)).toInt) pc l L st h
  | .iushr => zi2 (fun x y => ((zi x).toUInt32 >>> ((zi y).toUInt32 &&& Int32.toUInt32 31)).toInt32.toInt) pc l L st h
  | .ineg => zi1 (fun x => vI (zw (-x))) pc l L st h
  | .i2l => zi1 (fun x => vJ (zi x).toInt64) pc l L st h
  | .i2b => zi1 (fun x => vI (zi x).toInt8.toInt32.toInt) pc l L st h
  | .i2s => zi1 (fun x => vI (zi x).toInt16.toInt32.toInt) pc l L st h
  | .i2c => zi1 (fun x => vI ((zi x).toUInt32 % 65536).toInt32.toInt) pc l L st h
  | .l2i => zj1 (fun x => vI x.toInt32.toInt) pc l L st h
  | .lneg => zj1 (fun x => vJ (-x)) pc l L st h
  | .ladd => zj2 (fun x y => vJ (x + y)) pc l L st h
  | .land => zj2 (fun x y => vJ (x &&& y)) pc l L st h
  | .lor => zj2 (fun x y => vJ (x ||| y)) pc l L st h
  | .ldiv => zj2d (fun x y => vJ (x / y)) pc l L st h
  | .lrem => zj2d (fun x y => vJ (x - x / y * y)) pc l L st h
  | .lshl => zji (fun x y => vJ (x <<< ((zi y).toInt64 &&& 63))) pc l L st h
  | .lcmp => zj2 (fun x y => vI (lg_cmp x y).toInt) pc l L st h
  | .dup => (match st with
    | v :: r => if l = 1 ∧ zcat v = 1 then zn (pc + 1) L (v :: v :: r) h else none
    | _ => none)
  | .pop => (match st with
    | v :: r => if l = 1 ∧ zcat v = 1 then zn (pc + 1) L r h else none
    | _ => none)
  | .dup_x1 => (match st with
    | v :: u :: r => if l = 1 ∧ zcat v = 1 ∧ zcat u = 1 then zn (pc + 1) L (v :: u :: v :: r) h else none
    | _ => none)
  | .dup2 => (match st with
    | v :: u :: r => if l = 1 ∧ zcat v = 1 ∧ zcat u = 1 then zn (pc + 1) L (v :: u :: v :: u :: r) h else none
    | _ => none)
  | .goto off => if l = 3 then zjmp pc off L st h else none
  | .ifCond c off => (match st with
    | .inl x :: r => if l = 3 ∧ 0 ≤ (pc : Int) + off then (if zcond c x 0 = true then zn ((pc : Int) + off).toNat L r h else zn (pc + 3) L r h) else none
    | _ => none)
  | .if_icmp c off => (match st with
    | .inl y :: .inl x :: r => if l = 3 ∧ 0 ≤ (pc : Int) + off then (if zcond c x y = true then zn ((pc : Int) + off).toNat L r h else zn (pc + 3) L r h) else none
    | _ => none)
  | .tableswitch dflt lo hi offs => (match st with
    | .inl x :: r => if x < lo ∨ hi < x then zjmp pc dflt L r h else (match offs[(x - lo).toNat]? with
      | some off => zjmp pc off L r h
      | none => none)
    | _ => none)
  | .lookupswitch dflt ps => (match st with
    | .inl x :: r => if (ps.toList.zip (ps.toList.drop 1)).all (fun (a, next) => a.1 < next.1) = true then zjmp pc (Op.lookupswitch.offset ps.toList dflt x) L r h else none
    | _ => none)
  | .iaload => zald 1 (fun a k => vI (zV h a k)) pc l L st h
  | .baload => (match st with
    | .inl _ :: .inr (.inr (some a)) :: _ => if (zS h a).1 = 4 then (if a < 32 then zald 4 (fun a k => vI (zV h a k)) pc l L st h else none) else zald 2 (fun a k => vI (zV h a k)) pc l L st h
    | _ => none)
  | .laload => zald 3 (fun a k => vJ (zJ h a k)) pc l L st h
  | .aaload => (match st with
    | .inl _ :: .inr (.inr (some a)) :: _ => if (zS h a).1 = 6 then zald 6 (fun a k => vR (zP h a k)) pc l L st h else zald 5 (fun a k => vR (zP h a k)) pc l L st h
    | _ => none)
  | .iastore => ziast pc l L st h
  | .bastore => zbast pc l L st h
  | .lastore => zlast pc l L st h
  | .aastore => zaast pc l L st h
  | .arraylength => zalen pc l L st h
  | .new k => znew (zcl o k) pc l L st h
  | .newarray t => znewa (zatype t) 2 pc l L st h
  | .anewarray k => (match zcl o k with
    | some 4 => znewa 5 3 pc l L st h
    | some 5 => znewa 6 3 pc l L st h
    | _ => none)
  | .invokevirtual k => zinv (zmth o k) l st h
  | .invokestatic k => (match zmth o k with
    | some (10, _) => zcpy d pc l L st h
    | some (11, _) => zmm (fun x y => if y < x then y else x) d pc l L st h
    | some (12, _) => zmm (fun x y => if x < y then y else x) d pc l L st h
    | some (13, _) => zmab d pc l L st h
    | some (14, _) => zmfm d pc l L st h
    | e => zinvS e l st)
  | .invokespecial k => zinvI d (zmth o k) pc l L st h
  | .ireturn => (match st with
    | [.inl x] => zret (some (vI x)) l
    | _ => none)
  | .lreturn => (match st with
    | [.inr (.inl x)] => zret (some (vJ x)) l
    | _ => none)
  | .return_ => (match st with
    | [] => zret none l
    | _ => none)
  | _ => none
def zact (d : Nat) (cc : ByteArray) (o pc : Nat) (L : LL) (st : List AV) (h : Hp) : ZA := match decode cc pc with
  | .ok (i, l) => zin d o pc l L st h i
  | .error _ => none
def zenl (as : List AV) : LL := match as with
  | [] => []
  | v :: vs => if zcat v = 2 then some v :: none :: zenl vs else some v :: zenl vs
def zent (n : Nat) (as : List AV) : LL := zenl as ++ List.replicate (n - (zenl as).length) none
def zretok (t : Nat) (v : Option AV) : Bool := match t, v with
  | 0, none => true
  | 1, some (.inl _) => true
  | 2, some (.inl x) => decide (x = 0 ∨ x = 1)
  | 3, some (.inl x) => decide (0 ≤ x ∧ x < 65536)
  | 4, some (.inr (.inl _)) => true
  | 5, some (.inl x) => decide (x = 0)
  | _, _ => false
abbrev ZR : Type := Option (Option AV × Hp)
abbrev ZF : Type := Nat → ByteArray → Nat → Nat → LL → List AV → Hp → ZR
def zstep (ih : ZF) : ZF := fun d cc o pc L st h => match zact d cc o pc L st h with
  | none => none
  | some (.inl (pc', L', st', h')) => ih d cc o pc' L' st' h'
  | some (.inr (.inl (z, as, r))) => (match d with
    | 0 => none
    | d' + 1 => if (zenl as).length ≤ zml z then (match ih d' (zb z) (zo z) 0 (zent (zml z) as) [] h with
      | some (v, h') => if zretok (zrt z) v = true then ih (d' + 1) cc o (pc + 3) L (v.toList ++ r) h' else none
      | none => none) else none)
  | some (.inr (.inr v)) => some (v, h)
def zrun : Nat → ZF := fun n => Nat.rec (fun _ _ _ _ _ _ _ => none) (fun _ ih => zstep ih) n
end
section
/-! SOUNDNESS 1: numbers, locals, the picture of a heap -/
theorem zi_toInt {x : Int} (h : zr x) : (zi x).toInt = x := by
  obtain ⟨h1, h2⟩ := h
  unfold zi
  rw [Int32.toInt_ofInt, show Int32.size = 4294967296 from rfl, Int.bmod_def]
  split <;> omega
theorem zr_toInt (x : Int32) : zr x.toInt := by
  have h1 := Int32.le_toInt x
  have h2 := Int32.toInt_lt x
  unfold zr
  omega
theorem zi_of (x : Int32) : zi x.toInt = x := by unfold zi; exact Int32.ofInt_toInt x
theorem zr_zw (x : Int) : zr (zw x) := by unfold zr zw; omega
theorem zi_inj {x y : Int} (hx : zr x) (hy : zr y) (h : zi x = zi y) : x = y := by
  rw [← zi_toInt hx, ← zi_toInt hy, h]
theorem zi_zw (x : Int) : zi (zw x) = zi x := by
  have e : zw x = x + 4294967296 * (-((x + 2147483648) / 4294967296)) := by unfold zw; omega
  unfold zi
  apply Int32.toInt_inj.mp
  rw [Int32.toInt_ofInt, Int32.toInt_ofInt, e, show Int32.size = 4294967296 from rfl]
  generalize -((x + 2147483648) / 4294967296) = k
  have e2 : (x + 4294967296 * k) % ((4294967296 : Nat) : Int) = x % ((4294967296 : Nat) : Int) := by omega
  rw [Int.bmod_def, Int.bmod_def, e2]
theorem zi_add (x y : Int) : zi (zw (x + y)) = zi x + zi y := by rw [zi_zw]; unfold zi; exact Int32.ofInt_add x y
theorem zi_sub (x y : Int) : zi (zw (x - y)) = zi x - zi y := by rw [zi_zw]; unfold zi; exact Int32.ofInt_sub x y
theorem zi_mul (x y : Int) : zi (zw (x * y)) = zi x * zi y := by rw [zi_zw]; unfold zi; exact Int32.ofInt_mul x y
theorem zi_neg (x : Int) : zi (zw (-x)) = -zi x := by rw [zi_zw]; unfold zi; exact Int32.ofInt_neg x
theorem zi_0 : zi 0 = 0 := by decide +kernel
theorem zi_lt {x y : Int} (hx : zr x) (hy : zr y) : zi x < zi y ↔ x < y := by rw [Int32.lt_iff_toInt_lt, zi_toInt hx, zi_toInt hy]
theorem zi_le {x y : Int} (hx : zr x) (hy : zr y) : zi x ≤ zi y ↔ x ≤ y := by rw [Int32.le_iff_toInt_le, zi_toInt hx, zi_toInt hy]
theorem zi_eq {x y : Int} (hx : zr x) (hy : zr y) : zi x = zi y ↔ x = y := ⟨zi_inj hx hy, fun h => by rw [h]⟩
theorem zr_0 : zr 0 := by unfold zr; omega
theorem zi_nat (n : Nat) : zi (n : Int) = Int32.ofNat n := by
  unfold zi
  apply Int32.toInt_inj.mp
  rw [Int32.toInt_ofInt, Int32.toInt_ofNat']
theorem zi_clamp {x : Int} (hx : zr x) : (zi x).toNatClampNeg = x.toNat := by
  rw [← Int32.toNat_toInt, zi_toInt hx]
theorem zi_in {x : Int} (hx : zr x) {n : Nat} (h0 : 0 ≤ x) (h1 : x < (n : Int)) : vp_in (zi x) n := by
  rw [vp_in_iff, zi_toInt hx]
  exact ⟨h0, h1⟩
/-- the environment: addresses of what was there; where our cells begin; class numbers; slots; array classes; the script's length; the script -/
abbrev ZE : Type := (Nat → Nat) × Nat × (Nat → ClassId) × (Nat → Nat → Nat) × (Nat → ClassId) × Nat × (Nat → Int) × Option Nat
def eA (E : ZE) : Nat → Nat := E.1
def eB (E : ZE) : Nat := E.2.1
def eC (E : ZE) : Nat → ClassId := E.2.2.1
def eI (E : ZE) : Nat → Nat → Nat := E.2.2.2.1
def eR (E : ZE) : Nat → ClassId := E.2.2.2.2.1
def eL (E : ZE) : Nat := E.2.2.2.2.2.1
def eX (E : ZE) : Nat → Int := E.2.2.2.2.2.2.1
def eN (E : ZE) : Option Nat := E.2.2.2.2.2.2.2
def zad (E : ZE) (a : Nat) : Nat := if a < 32 then eA E a else eB E + (a - 32)
def cv (E : ZE) (v : AV) : Value := match v with
  | .inl x => .int (zi x)
  | .inr (.inl x) => .long x
  | .inr (.inr none) => .null
  | .inr (.inr (some a)) => .ref (zad E a)
def okv (v : AV) : Prop := match v with
  | .inl x => zr x
  | _ => True
def okst (st : List AV) : Prop := ∀ v ∈ st, okv v
def okL (L : LL) : Prop := ∀ (i : Nat) (v : AV), L[i]? = some (some v) → okv v
theorem cv_cat (E : ZE) (v : AV) : (cv E v).category = zcat v := by
  rcases v with x | x | x
  · rfl
  · rfl
  · cases x <;> rfl
def LRel (E : ZE) (ls : Array Slot) (nL : Nat) (L : LL) : Prop := ls.size = nL ∧ lv_wf ls ∧ L.length = nL ∧ ∀ (i : Nat) (v : AV), L[i]? = some (some v) → ls[i]? = some (.val (cv E v))
def zlv (E : ZE) (L : LL) : List (Nat × Value) := (List.range L.length).filterMap fun i => match L[i]? with
  | some (some v) => some (i, cv E v)
  | _ => none
theorem zlv_mem {E : ZE} {L : LL} {i : Nat} {v : AV} (h : L[i]? = some (some v)) : (i, cv E v) ∈ zlv E L := by
  refine List.mem_filterMap.mpr ⟨i, List.mem_range.mpr (List.getElem?_eq_some_iff.mp h).1, ?_⟩
  rw [h]
theorem zlv_mem' {E : ZE} {L : LL} {q : Nat × Value} (h : q ∈ zlv E L) : ∃ v, L[q.1]? = some (some v) ∧ q.2 = cv E v := by
  obtain ⟨i, -, hi⟩ := List.mem_filterMap.mp h
  split at hi
  · next v hv => cases hi; exact ⟨v, hv, rfl⟩
  · cases hi
theorem LRel.has {E : ZE} {ls : Array Slot} {nL : Nat} {L : LL} (h : LRel E ls nL L) : lv_has ls nL (zlv E L) := by
  refine ⟨h.1, h.2.1, fun q hq => ?_⟩
  obtain ⟨v, h1, h2⟩ := zlv_mem' hq
  rw [h2]
  exact h.2.2.2 q.1 v h1
theorem zget_some {L : LL} {k t : Nat} {v : AV} (h : zget L k t = some v) : L[k]? = some (some v) ∧ ztag v = t := by
  unfold zget at h
  split at h
  · next w hw =>
    split at h
    · next ht => cases h; exact ⟨hw, ht⟩
    · cases h
  · cases h
theorem zprev_ok {E : ZE} {L : LL} {k : Nat} (h : zprev L k = true) {i : Nat} {v : AV} (hi : i + 1 = k) (hv : L[i]? = some (some v)) : ¬ (cv E v).category = 2 := by
  subst hi
  unfold zprev at h
  rw [cv_cat]
  intro hc
  rcases v with x | x | x
  · simp [zcat] at hc
  · simp only [hv] at h
    cases h
  · simp [zcat] at hc
theorem LRel.set1 {E : ZE} {ls : Array Slot} {nL : Nat} {L : LL} (h : LRel E ls nL L) {k : Nat} {v : AV} (hk : k < L.length) (hp : zprev L k = true) {ls' : Array Slot} (h' : lv_has ls' nL ((k, cv E v) :: (zlv E L).filter (fun q => !(q.1 == k) && !(q.1 + 1 == k && q.2.category == 2)))) : LRel E ls' nL (L.set k (some v)) := by
  refine ⟨h'.1, h'.2.1, by rw [List.length_set]; exact h.2.2.1, fun i w hw => ?_⟩
  rw [List.getElem?_set] at hw
  by_cases e : k = i
  · subst e
    rw [if_pos rfl, if_pos hk] at hw
    cases hw
    exact h'.2.2 (k, cv E v) List.mem_cons_self
  · rw [if_neg e] at hw
    refine h'.2.2 (i, cv E w) (List.mem_cons_of_mem _ (List.mem_filter.mpr ⟨zlv_mem hw, ?_⟩))
    have e' : ¬ i = k := fun z => e z.symm
    by_cases e2 : i + 1 = k
    · have := zprev_ok (E := E) hp e2 hw
      simp [e', this]
    · simp [e', e2]
theorem LRel.set2 {E : ZE} {ls : Array Slot} {nL : Nat} {L : LL} (h : LRel E ls nL L) {k : Nat} {v : AV} (hk : k + 1 < L.length) (hp : zprev L k = true) {ls' : Array Slot} (h' : lv_has ls' nL ((k, cv E v) :: (zlv E L).filter (fun q => !(q.1 == k) && (!(q.1 == k + 1) && !(q.1 + 1 == k && q.2.category == 2))))) : LRel E ls' nL ((L.set k (some v)).set (k + 1) none) := by
  refine ⟨h'.1, h'.2.1, by rw [List.length_set, List.length_set]; exact h.2.2.1, fun i w hw => ?_⟩
  rw [List.getElem?_set, List.getElem?_set] at hw
  by_cases e : k + 1 = i
  · rw [if_pos e] at hw
    split at hw <;> cases hw
  · rw [if_neg e] at hw
    by_cases e1 : k = i
    · subst e1
      rw [if_pos rfl, if_pos (by omega)] at hw
      cases hw
      exact h'.2.2 (k, cv E v) List.mem_cons_self
    · rw [if_neg e1] at hw
      refine h'.2.2 (i, cv E w) (List.mem_cons_of_mem _ (List.mem_filter.mpr ⟨zlv_mem hw, ?_⟩))
      have e' : ¬ i = k := fun z => e1 z.symm
      have e'' : ¬ i = k + 1 := fun z => e z.symm
      by_cases e2 : i + 1 = k
      · have := zprev_ok (E := E) hp e2 hw
        simp [e', e'', this]
      · simp [e', e'', e2]
theorem okL.set {L : LL} {k : Nat} {v : AV} (h : okL L) (hv : okv v) : okL (L.set k (some v)) := by
  intro i w hw
  rw [List.getElem?_set] at hw
  split at hw
  · split at hw
    · cases hw; exact hv
    · cases hw
  · exact h i w hw
theorem okL.setN {L : LL} {k : Nat} (h : okL L) : okL (L.set k none) := by
  intro i w hw
  rw [List.getElem?_set] at hw
  split at hw
  · split at hw <;> cases hw
  · exact h i w hw
theorem zenl_args (E : ZE) (as : List AV) : ∀ (j i : Nat) (v : AV), (zenl as)[i]? = some (some v) → (j + i, cv E v) ∈ lv_args j (as.map (cv E)) := by
  induction as with
  | nil => intro j i v h; simp [zenl] at h
  | cons a as ih =>
    intro j i v h
    unfold zenl at h
    simp only [List.map_cons, lv_args, cv_cat]
    split at h
    · next hc =>
      rw [if_pos hc]
      match i, h with
      | 0, h => simp at h; subst h; exact List.mem_cons_self
      | 1, h => simp at h
      | i + 2, h =>
        have := ih (j + 2) i v (by simpa using h)
        refine List.mem_cons_of_mem _ ?_
        rw [show j + (i + 2) = j + 2 + i by omega]
        exact this
    · next hc =>
      rw [if_neg hc]
      match i, h with
      | 0, h => simp at h; subst h; exact List.mem_cons_self
      | i + 1, h =>
        have := ih (j + 1) i v (by simpa using h)
        refine List.mem_cons_of_mem _ ?_
        rw [show j + (i + 1) = j + 1 + i by omega]
        exact this
theorem zenl_len (E : ZE) (as : List AV) : (lg_sl (as.map (cv E))).length = (zenl as).length := by
  induction as with
  | nil => rfl
  | cons a as ih =>
    have e : lg_sl ((a :: as).map (cv E)) = (if (cv E a).category = 2 then [Slot.val (cv E a), Slot.second] else [Slot.val (cv E a)]) ++ lg_sl (as.map (cv E)) := by simp [lg_sl]
    rw [e, cv_cat]
    unfold zenl
    split <;> simp [ih]
theorem zenl_ok {as : List AV} (h : okst as) : okL (zenl as) := by
  induction as with
  | nil => intro i v hv; simp [zenl] at hv
  | cons a as ih =>
    have ih := ih (fun v hv => h v (List.mem_cons_of_mem _ hv))
    intro i v hv
    unfold zenl at hv
    split at hv
    · match i, hv with
      | 0, hv => simp at hv; subst hv; exact h _ List.mem_cons_self
      | 1, hv => simp at hv
      | i + 2, hv => exact ih i v (by simpa using hv)
    · match i, hv with
      | 0, hv => simp at hv; subst hv; exact h _ List.mem_cons_self
      | i + 1, hv => exact ih i v (by simpa using hv)
theorem LRel.entry (E : ZE) {as : List AV} {n : Nat} (h : (zenl as).length ≤ n) : LRel E ((lg_sl (as.map (cv E)) ++ List.replicate (n - (lg_sl (as.map (cv E))).length) Slot.unset).toArray) n (zent n as) := by
  obtain ⟨h1, h2, h3⟩ := lv_entry (as.map (cv E)) (n := n) (by rw [zenl_len]; exact h)
  refine ⟨h1, h2, by unfold zent; rw [List.length_append, List.length_replicate]; omega, fun i v hv => ?_⟩
  unfold zent at hv
  by_cases hi : i < (zenl as).length
  · rw [List.getElem?_append_left hi] at hv
    have := zenl_args E as 0 i v hv
    rw [Nat.zero_add] at this
    exact h3 _ this
  · rw [List.getElem?_append_right (by omega)] at hv
    have := List.eq_of_mem_replicate (List.mem_of_getElem? hv)
    cases this
theorem okL.entry {as : List AV} {n : Nat} (h : okst as) : okL (zent n as) := by
  intro i v hv
  unfold zent at hv
  by_cases hi : i < (zenl as).length
  · rw [List.getElem?_append_left hi] at hv
    exact zenl_ok h i v hv
  · rw [List.getElem?_append_right (by omega)] at hv
    have := List.eq_of_mem_replicate (List.mem_of_getElem? hv)
    cases this
end
section
/-! SOUNDNESS 2: the picture of a heap; steps that leave the heap as it is -/
def zfs (E : ZE) (h : Hp) (ci a n : Nat) : List Value := (List.range n).map fun k => cv E (zfv h ci a k)
def zcell (E : ZE) (h : Hp) (a : Nat) : va_E :=
  if (zS h a).1 = 1 then .inl (eR E 1, ((zS h a).2, .inl (fun k => zi (zV h a k))))
  else if (zS h a).1 = 2 then .inl (eR E 2, ((zS h a).2, .inl (fun k => zi (zV h a k))))
  else if (zS h a).1 = 3 then .inl (eR E 3, ((zS h a).2, .inr (.inl (zJ h a))))
  else if (zS h a).1 = 5 then .inl (eR E 5, ((zS h a).2, .inr (.inr (.inr (.inr (fun k => (zP h a k).map (zad E)))))))
  else if (zS h a).1 = 6 then .inl (eR E 6, ((zS h a).2, .inr (.inr (.inr (.inr (fun k => (zP h a k).map (zad E)))))))
  else .inr ((zS h a).1 - 10, zfs E h ((zS h a).1 - 10) a (zS h a).2)
def zws (E : ZE) (h : Hp) : va_W := (List.range (zN h)).map fun j => (eB E + j, zcell E h (32 + j))
def zty (E : ZE) : List (ClassId × FieldType) := [(eR E 1, .int), (eR E 2, .boolean), (eR E 3, .long), (eR E 5, .object "HatterTunes$Shop"), (eR E 6, .object "HatterTunes$Tape")]
def ZI (E : ZE) (H : Heap) (h : Hp) : Prop := va_P (eC E, eI E) zcls9 (zws E h) H ∧ H.size = eB E + zN h ∧ (∀ a k : Nat, zr (zV h a k)) ∧ (∀ a : Nat, a < 32 → zS h a = zbS (eL E) a) ∧ (∀ a k : Nat, a < 32 → zV h a k = zbV (eX E) a k) ∧ (∀ a k : Nat, a < 32 → zP h a k = zbP (eN E) a k) ∧ (∀ a : Nat, 32 + zN h ≤ a → zS h a = (0, 0))
def zA (E : ZE) : Nat → Prop := fun q => eB E ≤ q
def zTG : List Cond := lw_tbl.filter goodWord
def znst (w : Cond) : Bool := match w with
  | .methodLinkNest _ _ _ _ => true
  | .fieldLinkNest _ _ _ _ _ _ => true
  | _ => false
def znest : List Cond := lw_tbl.filter znst
def zstrs : List (String × Nat × String × Nat) := [("HatterTunes$Text", 43, "sharp ", 4), ("HatterTunes$Text", 52, "flat ", 6), ("HatterTunes$Text", 54, "grow ", 8), ("HatterTunesModel", 219, "sharp ", 10), ("HatterTunesModel", 225, "flat ", 12), ("HatterTunesModel", 227, "grow ", 14), ("HatterTunesModel", 188, "pkviby", 16), ("HatterTunesModel", 193, "<=>", 18)]
def zstE (E : ZE) (v : AV) : AV := match v with
  | .inr (.inr (some 30)) => vR (eN E)
  | v => v
/-- what holds of the tables and of what was there before -/
def ZT (E : ZE) (U : State) : Prop := va_K (eC E, eI E) zcls9 (zty E) U ∧ eB E ≤ U.heap.size ∧ (∀ w ∈ znest, va_Nw w U) ∧
  (∀ q ∈ zstats, va_Z q.1 q.2.1 q.2.2.1 (cv E (zstE E q.2.2.2)) (zA E) U U.heap) ∧
  (∀ b n : Nat, b < 32 → zbS (eL E) b = (1, n) → n < 2147483648 ∧ va_T .int (eA E b) n (fun j => .int (zi (zbV (eX E) b j))) (zA E) U U.heap) ∧
  (∀ b n : Nat, b < 32 → zbS (eL E) b = (4, n) → n < 2147483648 ∧ va_T .byte (eA E b) n (fun j => .int (zi (zbV (eX E) b j))) (zA E) U U.heap) ∧
  (∀ b : Nat, b < 32 → zbS (eL E) b = (20, 2) → va_O "java/lang/String" (eA E b) (zA E) U U.heap ∧ va_OF "java/lang/String" "value" "[B" (cv E (vR (zbP (eN E) b 0))) (eA E b) (zA E) U U.heap ∧ va_OF "java/lang/String" "coder" "B" (cv E (vI (zbV (eX E) b 1))) (eA E b) (zA E) U U.heap) ∧
  (∀ q ∈ zstrs, vk_R q.1 q.2.1 q.2.2.1 (eA E q.2.2.2) U) ∧ va_AO "HatterTunes$Shop" U ∧ va_AO "HatterTunes$Tape" U
/-- the method in which we stand -/
def ZX (E : ZE) (p : Program) (R : Room) (s : State) (m : MethodId) (args : Array Value) (meth : Method) (c : Code) (cc : ByteArray) (o nL d : Nat) : Prop :=
  p.tables.exec = Jvm.exec ∧ c.code = cc ∧ c.maxLocals = nL ∧ s.vm.findClass (zcn (o % 100)) = some m.cls ∧ (∀ w ∈ zTG, w.before args s = true) ∧ ZT E s ∧ (100 ≤ o → meth.name = "<init>") ∧ d ≤ R.frames ∧ 60 * d ≤ R.locals
/-- what has changed since the method began; how many cells are new -/
def ZV (E : ZE) (s : State) (H : Heap) (locs : List Loc) (cells : Nat) : Prop := va_S (zA E) s.heap H locs ∧ H.size = s.heap.size + cells
def ZPt (E : ZE) (p : Program) (l : Launch) (e : Env) (R : Room) (s : State) (m : MethodId) (args : Array Value) (below : List Frame) (meth : Method) (c : Code) (nL : Nat) (Q : State → Prop) (cells slots pc : Nat) (L : LL) (st : List AV) (h : Hp) : Prop :=
  ∀ (H : Heap) (locs : List Loc) (ls : Array Slot), ZI E H h → ZV E s H locs cells → LRel E ls nL L → W p l e R s m args below meth c H locs cells slots Q (F0 m pc ls (st.map (cv E)))
theorem okst_c {v : AV} {r : List AV} (h : okst (v :: r)) : okv v ∧ okst r := ⟨h v List.mem_cons_self, fun w hw => h w (List.mem_cons_of_mem _ hw)⟩
theorem okst_m {v : AV} {r : List AV} (h : okv v) (hr : okst r) : okst (v :: r) := fun w hw => by
  rcases List.mem_cons.mp hw with rfl | hw
  · exact h
  · exact hr w hw
section ZPU
variable {p : Program} {l0 : Launch} {e : Env} {R : Room} {s : State} {m : MethodId} {args : Array Value} {below : List Frame} {meth : Method} {c : Code} {Q : State → Prop} {E : ZE} {cc : ByteArray} {o pc nL d l cells slots : Nat} {L : LL} {st : List AV} {h : Hp} {pc' : Nat} {L' : LL} {st' : List AV} {h' : Hp}
/-- what a step that leaves the heap as it is comes to -/
def ZOk (E : ZE) (p : Program) (l : Launch) (e : Env) (R : Room) (s : State) (m : MethodId) (args : Array Value) (below : List Frame) (meth : Method) (c : Code) (nL : Nat) (Q : State → Prop) (cells slots pc : Nat) (L : LL) (st : List AV) (h : Hp) (pc' : Nat) (L' : LL) (st' : List AV) (h' : Hp) : Prop :=
  h' = h ∧ okL L' ∧ okst st' ∧ (ZPt E p l e R s m args below meth c nL Q cells slots pc' L' st' h → ZPt E p l e R s m args below meth c nL Q cells slots pc L st h)
theorem zg_i2 {f : Int → Int → Int} (hz : zi2 f pc l L st h = some (.inl (pc', L', st', h'))) (hf : ∀ x y, zr (f x y)) (hL : okL L) (hok : okst st) (hrow : l = 1 → ∀ (H : Heap) (locs : List Loc) (ls : Array Slot) (x y : Int) (rest : List Value), W p l0 e R s m args below meth c H locs cells slots Q (F0 m (pc + 1) ls (.int (zi (f x y)) :: rest)) → W p l0 e R s m args below meth c H locs cells slots Q (F0 m pc ls (.int (zi y) :: .int (zi x) :: rest))) : ZOk E p l0 e R s m args below meth c nL Q cells slots pc L st h pc' L' st' h' := by
  unfold zi2 at hz
  split at hz
  · next y x r =>
    split at hz
    · next hl =>
      unfold zn at hz; cases hz
      exact ⟨rfl, hL, okst_m (hf x y) (okst_c (okst_c hok).2).2, fun k H locs ls hI hS hR => hrow hl H locs ls x y _ (k H locs ls hI hS hR)⟩
    · cases hz
  · cases hz
theorem zg_i2d {f : Int → Int → Int} (hz : zi2d f pc l L st h = some (.inl (pc', L', st', h'))) (hf : ∀ x y, zr (f x y)) (hL : okL L) (hok : okst st) (hrow : l = 1 → ∀ (H : Heap) (locs : List Loc) (ls : Array Slot) (x y : Int) (rest : List Value), ¬ zi y = 0 → W p l0 e R s m args below meth c H locs cells slots Q (F0 m (pc + 1) ls (.int (zi (f x y)) :: rest)) → W p l0 e R s m args below meth c H locs cells slots Q (F0 m pc ls (.int (zi y) :: .int (zi x) :: rest))) : ZOk E p l0 e R s m args below meth c nL Q cells slots pc L st h pc' L' st' h' := by
  unfold zi2d at hz
  split at hz
  · next y x r =>
    split at hz
    · next hl =>
      unfold zn at hz; cases hz
      have hy : zr y := (okst_c hok).1
      exact ⟨rfl, hL, okst_m (hf x y) (okst_c (okst_c hok).2).2, fun k H locs ls hI hS hR => hrow hl.1 H locs ls x y _ (fun z => hl.2 (zi_inj hy zr_0 (by rw [z, zi_0]))) (k H locs ls hI hS hR)⟩
    · cases hz
  · cases hz
theorem zg_i1 {f : Int → AV} (hz : zi1 f pc l L st h = some (.inl (pc', L', st', h'))) (hf : ∀ x, okv (f x)) (hL : okL L) (hok : okst st) (hrow : l = 1 → ∀ (H : Heap) (locs : List Loc) (ls : Array Slot) (x : Int) (rest : List Value), W p l0 e R s m args below meth c H locs cells slots Q (F0 m (pc + 1) ls (cv E (f x) :: rest)) → W p l0 e R s m args below meth c H locs cells slots Q (F0 m pc ls (.int (zi x) :: rest))) : ZOk E p l0 e R s m args below meth c nL Q cells slots pc L st h pc' L' st' h' := by
  unfold zi1 at hz
  split at hz
  · next x r =>
    split at hz
    · next hl =>
      unfold zn at hz; cases hz
      exact ⟨rfl, hL, okst_m (hf x) (okst_c hok).2, fun k H locs ls hI hS hR => hrow hl H locs ls x _ (k H locs ls hI hS hR)⟩
    · cases hz
  · cases hz
theorem zg_j1 {f : Int64 → AV} (hz : zj1 f pc l L st h = some (.inl (pc', L', st', h'))) (hf : ∀ x, okv (f x)) (hL : okL L) (hok : okst st) (hrow : l = 1 → ∀ (H : Heap) (locs : List Loc) (ls : Array Slot) (x : Int64) (rest : List Value), W p l0 e R s m args below meth c H locs cells slots Q (F0 m (pc + 1) ls (cv E (f x) :: rest)) → W p l0 e R s m args below meth c H locs cells slots Q (F0 m pc ls (.long x :: rest))) : ZOk E p l0 e R s m args below meth c nL Q cells slots pc L st h pc' L' st' h' := by
  unfold zj1 at hz
  split at hz
  · next x r =>
    split at hz
    · next hl =>
      unfold zn at hz; cases hz
      exact ⟨rfl, hL, okst_m (hf x) (okst_c hok).2, fun k H locs ls hI hS hR => hrow hl H locs ls x _ (k H locs ls hI hS hR)⟩
    · cases hz
  · cases hz
theorem zg_j2 {f : Int64 → Int64 → AV} (hz : zj2 f pc l L st h = some (.inl (pc', L', st', h'))) (hf : ∀ x y, okv (f x y)) (hL : okL L) (hok : okst st) (hrow : l = 1 → ∀ (H : Heap) (locs : List Loc) (ls : Array Slot) (x y : Int64) (rest : List Value), W p l0 e R s m args below meth c H locs cells slots Q (F0 m (pc + 1) ls (cv E (f x y) :: rest)) → W p l0 e R s m args below meth c H locs cells slots Q (F0 m pc ls (.long y :: .long x :: rest))) : ZOk E p l0 e R s m args below meth c nL Q cells slots pc L st h pc' L' st' h' := by
  unfold zj2 at hz
  split at hz
  · next y x r =>
    split at hz
    · next hl =>
      unfold zn at hz; cases hz
      exact ⟨rfl, hL, okst_m (hf x y) (okst_c (okst_c hok).2).2, fun k H locs ls hI hS hR => hrow hl H locs ls x y _ (k H locs ls hI hS hR)⟩
    · cases hz
  · cases hz
theorem zg_j2d {f : Int64 → Int64 → AV} (hz : zj2d f pc l L st h = some (.inl (pc', L', st', h'))) (hf : ∀ x y, okv (f x y)) (hL : okL L) (hok : okst st) (hrow : l = 1 → ∀ (H : Heap) (locs : List Loc) (ls : Array Slot) (x y : Int64) (rest : List Value), ¬ y = 0 → W p l0 e R s m args below meth c H locs cells slots Q (F0 m (pc + 1) ls (cv E (f x y) :: rest)) → W p l0 e R s m args below meth c H locs cells slots Q (F0 m pc ls (.long y :: .long x :: rest))) : ZOk E p l0 e R s m args below meth c nL Q cells slots pc L st h pc' L' st' h' := by
  unfold zj2d at hz
  split at hz
  · next y x r =>
    split at hz
    · next hl =>
      unfold zn at hz; cases hz
      exact ⟨rfl, hL, okst_m (hf x y) (okst_c (okst_c hok).2).2, fun k H locs ls hI hS hR => hrow hl.1 H locs ls x y _ hl.2 (k H locs ls hI hS hR)⟩
    · cases hz
  · cases hz
theorem zg_ji {f : Int64 → Int → AV} (hz : zji f pc l L st h = some (.inl (pc', L', st', h'))) (hf : ∀ x y, okv (f x y)) (hL : okL L) (hok : okst st) (hrow : l = 1 → ∀ (H : Heap) (locs : List Loc) (ls : Array Slot) (x : Int64) (y : Int) (rest : List Value), W p l0 e R s m args below meth c H locs cells slots Q (F0 m (pc + 1) ls (cv E (f x y) :: rest)) → W p l0 e R s m args below meth c H locs cells slots Q (F0 m pc ls (.int (zi y) :: .long x :: rest))) : ZOk E p l0 e R s m args below meth c nL Q cells slots pc L st h pc' L' st' h' := by
  unfold zji at hz
  split at hz
  · next y x r =>
    split at hz
    · next hl =>
      unfold zn at hz; cases hz
      exact ⟨rfl, hL, okst_m (hf x y) (okst_c (okst_c hok).2).2, fun k H locs ls hI hS hR => hrow hl H locs ls x y _ (k H locs ls hI hS hR)⟩
    · cases hz
  · cases hz
theorem zg_c1 {len : Nat} {v : AV} (hz : zc1 len v pc l L st h = some (.inl (pc', L', st', h'))) (hf : okv v) (hL : okL L) (hok : okst st) (hrow : l = len → ∀ (H : Heap) (locs : List Loc) (ls : Array Slot) (rest : List Value), va_S (zA E) s.heap H locs → W p l0 e R s m args below meth c H locs cells slots Q (F0 m (pc + len) ls (cv E v :: rest)) → W p l0 e R s m args below meth c H locs cells slots Q (F0 m pc ls rest)) : ZOk E p l0 e R s m args below meth c nL Q cells slots pc L st h pc' L' st' h' := by
  unfold zc1 at hz
  split at hz
  · next hl =>
    unfold zn at hz; cases hz
    exact ⟨rfl, hL, okst_m hf hok, fun k H locs ls hI hS hR => hrow hl H locs ls _ hS.1 (k H locs ls hI hS hR)⟩
  · cases hz
theorem zg_ld {t k len : Nat} (hz : zld t k len pc l L st h = some (.inl (pc', L', st', h'))) (hL : okL L) (hok : okst st) (hrow : l = len → ∀ (H : Heap) (locs : List Loc) (ls : Array Slot) (v : AV) (rest : List Value), ztag v = t → ls[k]? = some (.val (cv E v)) → W p l0 e R s m args below meth c H locs cells slots Q (F0 m (pc + len) ls (cv E v :: rest)) → W p l0 e R s m args below meth c H locs cells slots Q (F0 m pc ls rest)) : ZOk E p l0 e R s m args below meth c nL Q cells slots pc L st h pc' L' st' h' := by
  unfold zld at hz
  split at hz
  · next hl =>
    split at hz
    · next v hv =>
      obtain ⟨h1, h2⟩ := zget_some hv
      unfold zn at hz; cases hz
      exact ⟨rfl, hL, okst_m (hL k v h1) hok, fun z H locs ls hI hS hR => hrow hl H locs ls v _ h2 (hR.2.2.2 k v h1) (z H locs ls hI hS hR)⟩
    · cases hz
  · cases hz
theorem zg_sto {t k len : Nat} (hz : zsto t k len pc l L st h = some (.inl (pc', L', st', h'))) (hL : okL L) (hok : okst st) (hrow : l = len → ∀ (H : Heap) (locs : List Loc) (ls : Array Slot) (v : AV) (rest : List Value) (lv : List (Nat × Value)), ztag v = t → lv_has ls nL lv → k < nL → (∀ ls', lv_has ls' nL ((k, cv E v) :: lv.filter (fun q => !(q.1 == k) && !(q.1 + 1 == k && q.2.category == 2))) → W p l0 e R s m args below meth c H locs cells slots Q (F0 m (pc + len) ls' rest)) → W p l0 e R s m args below meth c H locs cells slots Q (F0 m pc ls (cv E v :: rest))) : ZOk E p l0 e R s m args below meth c nL Q cells slots pc L st h pc' L' st' h' := by
  unfold zsto at hz
  split at hz
  · next v r =>
    split at hz
    · next hl =>
      obtain ⟨hl, ht, hp, hk⟩ := hl
      unfold zn at hz; cases hz
      obtain ⟨hv, hr⟩ := okst_c hok
      exact ⟨rfl, hL.set hv, hr, fun z H locs ls hI hS hR => hrow hl H locs ls v _ (zlv E L) ht hR.has (by rw [← hR.2.2.1]; exact hk) (fun ls' h' => z H locs ls' hI hS (hR.set1 hk hp h'))⟩
    · cases hz
  · cases hz
theorem zg_sto2 {k len : Nat} (hz : zsto2 k len pc l L st h = some (.inl (pc', L', st', h'))) (hL : okL L) (hok : okst st) (hrow : l = len → ∀ (H : Heap) (locs : List Loc) (ls : Array Slot) (x : Int64) (rest : List Value) (lv : List (Nat × Value)), lv_has ls nL lv → k + 1 < nL → (∀ ls', lv_has ls' nL ((k, .long x) :: lv.filter (fun q => !(q.1 == k) && (!(q.1 == k + 1) && !(q.1 + 1 == k && q.2.category == 2)))) → W p l0 e R s m args below meth c H locs cells slots Q (F0 m (pc + len) ls' rest)) → W p l0 e R s m args below meth c H locs cells slots Q (F0 m pc ls (.long x :: rest))) : ZOk E p l0 e R s m args below meth c nL Q cells slots pc L st h pc' L' st' h' := by
  unfold zsto2 at hz
  split at hz
  · next v r =>
    split at hz
    · next hl =>
      obtain ⟨hl, ht, hp, hk⟩ := hl
      unfold zn at hz; cases hz
      obtain ⟨hv, hr⟩ := okst_c hok
      rcases v with x | x | x
      · simp [ztag] at ht
      · exact ⟨rfl, (hL.set hv).setN, hr, fun z H locs ls hI hS hR => hrow hl H locs ls x _ (zlv E L) hR.has (by rw [← hR.2.2.1]; exact hk) (fun ls' h' => z H locs ls' hI hS (hR.set2 hk hp h'))⟩
      · cases x <;> simp [ztag] at ht
    · cases hz
  · cases hz
end ZPU
end
section
/-! SOUNDNESS 3: the instructions that leave the heap as it is -/
section ZPV
variable {p : Program} {l0 : Launch} {e : Env} {R : Room} {s : State} {m : MethodId} {args : Array Value} {below : List Frame} {meth : Method} {c : Code} {Q : State → Prop} {E : ZE} {cc : ByteArray} {o pc nL d l cells slots : Nat} {L : LL} {st : List AV} {h : Hp} {pc' : Nat} {L' : LL} {st' : List AV} {h' : Hp}
theorem zs_iadd  (X : ZX E p R s m args meth c cc o nL d) (hL : okL L) (hok : okst st) (hd : decode cc pc = .ok (.iadd, l)) (hz : zin d o pc l L st h (.iadd) = some (.inl (pc', L', st', h'))) : ZOk E p l0 e R s m args below meth c nL Q cells slots pc L st h pc' L' st' h' := by
  obtain ⟨hx, hb, hml, hown, hts, hT, hini, hfr, hlo⟩ := X
  exact zg_i2 hz (fun _ _ => zr_zw _) hL hok fun hl H locs ls x y rest k => lv_iadd hx hb (hl ▸ hd) (by simpa only [zi_add] using k)
theorem zs_isub  (X : ZX E p R s m args meth c cc o nL d) (hL : okL L) (hok : okst st) (hd : decode cc pc = .ok (.isub, l)) (hz : zin d o pc l L st h (.isub) = some (.inl (pc', L', st', h'))) : ZOk E p l0 e R s m args below meth c nL Q cells slots pc L st h pc' L' st' h' := by
  obtain ⟨hx, hb, hml, hown, hts, hT, hini, hfr, hlo⟩ := X
  exact zg_i2 hz (fun _ _ => zr_zw _) hL hok fun hl H locs ls x y rest k => lv_isub hx hb (hl ▸ hd) (by simpa only [zi_sub] using k)
theorem zs_imul  (X : ZX E p R s m args meth c cc o nL d) (hL : okL L) (hok : okst st) (hd : decode cc pc = .ok (.imul, l)) (hz : zin d o pc l L st h (.imul) = some (.inl (pc', L', st', h'))) : ZOk E p l0 e R s m args below meth c nL Q cells slots pc L st h pc' L' st' h' := by
  obtain ⟨hx, hb, hml, hown, hts, hT, hini, hfr, hlo⟩ := X
  exact zg_i2 hz (fun _ _ => zr_zw _) hL hok fun hl H locs ls x y rest k => lv_imul hx hb (hl ▸ hd) (by simpa only [zi_mul] using k)
theorem zs_iand  (X : ZX E p R s m args meth c cc o nL d) (hL : okL L) (hok : okst st) (hd : decode cc pc = .ok (.iand, l)) (hz : zin d o pc l L st h (.iand) = some (.inl (pc', L', st', h'))) : ZOk E p l0 e R s m args below meth c nL Q cells slots pc L st h pc' L' st' h' := by
  obtain ⟨hx, hb, hml, hown, hts, hT, hini, hfr, hlo⟩ := X
  exact zg_i2 hz (fun _ _ => zr_toInt _) hL hok fun hl H locs ls x y rest k => lv_iand hx hb (hl ▸ hd) (by simpa only [zi_of] using k)
theorem zs_ior  (X : ZX E p R s m args meth c cc o nL d) (hL : okL L) (hok : okst st) (hd : decode cc pc = .ok (.ior, l)) (hz : zin d o pc l L st h (.ior) = some (.inl (pc', L', st', h'))) : ZOk E p l0 e R s m args below meth c nL Q cells slots pc L st h pc' L' st' h' := by
  obtain ⟨hx, hb, hml, hown, hts, hT, hini, hfr, hlo⟩ := X
  exact zg_i2 hz (fun _ _ => zr_toInt _) hL hok fun hl H locs ls x y rest k => lv_ior hx hb (hl ▸ hd) (by simpa only [zi_of] using k)
theorem zs_ixor  (X : ZX E p R s m args meth c cc o nL d) (hL : okL L) (hok : okst st) (hd : decode cc pc = .ok (.ixor, l)) (hz : zin d o pc l L st h (.ixor) = some (.inl (pc', L', st', h'))) : ZOk E p l0 e R s m args below meth c nL Q cells slots pc L st h pc' L' st' h' := by
  obtain ⟨hx, hb, hml, hown, hts, hT, hini, hfr, hlo⟩ := X
  exact zg_i2 hz (fun _ _ => zr_toInt _) hL hok fun hl H locs ls x y rest k => lv_ixor hx hb (hl ▸ hd) (by simpa only [zi_of] using k)
theorem zs_ishl  (X : ZX E p R s m args meth c cc o nL d) (hL : okL L) (hok : okst st) (hd : decode cc pc = .ok (.ishl, l)) (hz : zin d o pc l L st h (.ishl) = some (.inl (pc', L', st', h'))) : ZOk E p l0 e R s m args below meth c nL Q cells slots pc L st h pc' L' st' h' := by
  obtain ⟨hx, hb, hml, hown, hts, hT, hini, hfr, hlo⟩ := X
  exact zg_i2 hz (fun _ _ => zr_toInt _) hL hok fun hl H locs ls x y rest k => lv_ishl hx hb (hl ▸ hd) (by simpa only [zi_of] using k)
theorem zs_ishr  (X : ZX E p R s m args meth c cc o nL d) (hL : okL L) (hok : okst st) (hd : decode cc pc = .ok (.ishr, l)) (hz : zin d o pc l L st h (.ishr) = some (.inl (pc', L', st', h'))) : ZOk E p l0 e R s m args below meth c nL Q cells slots pc L st h pc' L' st' h' := by
  obtain ⟨hx, hb, hml, hown, hts, hT, hini, hfr, hlo⟩ := X
  exact zg_i2 hz (fun _ _ => zr_toInt _) hL hok fun hl H locs ls x y rest k => lv_ishr hx hb (hl ▸ hd) (by simpa only [zi_of] using k)
theorem zs_iushr  (X : ZX E p R s m args meth c cc o nL d) (hL : okL L) (hok : okst st) (hd : decode cc pc = .ok (.iushr, l)) (hz : zin d o pc l L st h (.iushr) = some (.inl (pc', L', st', h'))) : ZOk E p l0 e R s m args below meth c nL Q cells slots pc L st h pc' L' st' h' := by
  obtain ⟨hx, hb, hml, hown, hts, hT, hini, hfr, hlo⟩ := X
  exact zg_i2 hz (fun _ _ => zr_toInt _) hL hok fun hl H locs ls x y rest k => lv_iushr hx hb (hl ▸ hd) rfl (by simpa only [zi_of] using k)
theorem zs_idiv  (X : ZX E p R s m args meth c cc o nL d) (hL : okL L) (hok : okst st) (hd : decode cc pc = .ok (.idiv, l)) (hz : zin d o pc l L st h (.idiv) = some (.inl (pc', L', st', h'))) : ZOk E p l0 e R s m args below meth c nL Q cells slots pc L st h pc' L' st' h' := by
  obtain ⟨hx, hb, hml, hown, hts, hT, hini, hfr, hlo⟩ := X
  exact zg_i2d hz (fun _ _ => zr_toInt _) hL hok fun hl H locs ls x y rest hy k => lv_idiv hx hb (hl ▸ hd) hy (by simpa only [zi_of] using k)
theorem zs_irem  (X : ZX E p R s m args meth c cc o nL d) (hL : okL L) (hok : okst st) (hd : decode cc pc = .ok (.irem, l)) (hz : zin d o pc l L st h (.irem) = some (.inl (pc', L', st', h'))) : ZOk E p l0 e R s m args below meth c nL Q cells slots pc L st h pc' L' st' h' := by
  obtain ⟨hx, hb, hml, hown, hts, hT, hini, hfr, hlo⟩ := X
  exact zg_i2d hz (fun _ _ => zr_toInt _) hL hok fun hl H locs ls x y rest hy k => lv_irem hx hb (hl ▸ hd) hy (by simpa only [zi_of] using k)
theorem zs_ineg  (X : ZX E p R s m args meth c cc o nL d) (hL : okL L) (hok : okst st) (hd : decode cc pc = .ok (.ineg, l)) (hz : zin d o pc l L st h (.ineg) = some (.inl (pc', L', st', h'))) : ZOk E p l0 e R s m args below meth c nL Q cells slots pc L st h pc' L' st' h' := by
  obtain ⟨hx, hb, hml, hown, hts, hT, hini, hfr, hlo⟩ := X
  exact zg_i1 hz (fun _ => zr_zw _) hL hok fun hl H locs ls x rest k => lv_ineg hx hb (hl ▸ hd) (by simpa only [cv, zi_neg] using k)
theorem zs_i2l  (X : ZX E p R s m args meth c cc o nL d) (hL : okL L) (hok : okst st) (hd : decode cc pc = .ok (.i2l, l)) (hz : zin d o pc l L st h (.i2l) = some (.inl (pc', L', st', h'))) : ZOk E p l0 e R s m args below meth c nL Q cells slots pc L st h pc' L' st' h' := by
  obtain ⟨hx, hb, hml, hown, hts, hT, hini, hfr, hlo⟩ := X
  exact zg_i1 hz (fun _ => trivial) hL hok fun hl H locs ls x rest k => lv_i2l hx hb (hl ▸ hd) rfl (by simpa only [cv] using k)
theorem zs_i2b  (X : ZX E p R s m args meth c cc o nL d) (hL : okL L) (hok : okst st) (hd : decode cc pc = .ok (.i2b, l)) (hz : zin d o pc l L st h (.i2b) = some (.inl (pc', L', st', h'))) : ZOk E p l0 e R s m args below meth c nL Q cells slots pc L st h pc' L' st' h' := by
  obtain ⟨hx, hb, hml, hown, hts, hT, hini, hfr, hlo⟩ := X
  exact zg_i1 hz (fun _ => zr_toInt _) hL hok fun hl H locs ls x rest k => lv_i2b hx hb (hl ▸ hd) rfl (by simpa only [cv, zi_of] using k)
theorem zs_i2s  (X : ZX E p R s m args meth c cc o nL d) (hL : okL L) (hok : okst st) (hd : decode cc pc = .ok (.i2s, l)) (hz : zin d o pc l L st h (.i2s) = some (.inl (pc', L', st', h'))) : ZOk E p l0 e R s m args below meth c nL Q cells slots pc L st h pc' L' st' h' := by
  obtain ⟨hx, hb, hml, hown, hts, hT, hini, hfr, hlo⟩ := X
  exact zg_i1 hz (fun _ => zr_toInt _) hL hok fun hl H locs ls x rest k => lv_i2s hx hb (hl ▸ hd) rfl (by simpa only [cv, zi_of] using k)
theorem zs_i2c  (X : ZX E p R s m args meth c cc o nL d) (hL : okL L) (hok : okst st) (hd : decode cc pc = .ok (.i2c, l)) (hz : zin d o pc l L st h (.i2c) = some (.inl (pc', L', st', h'))) : ZOk E p l0 e R s m args below meth c nL Q cells slots pc L st h pc' L' st' h' := by
  obtain ⟨hx, hb, hml, hown, hts, hT, hini, hfr, hlo⟩ := X
  exact zg_i1 hz (fun _ => zr_toInt _) hL hok fun hl H locs ls x rest k => lv_i2c hx hb (hl ▸ hd) rfl (by simpa only [cv, zi_of] using k)
theorem zs_l2i  (X : ZX E p R s m args meth c cc o nL d) (hL : okL L) (hok : okst st) (hd : decode cc pc = .ok (.l2i, l)) (hz : zin d o pc l L st h (.l2i) = some (.inl (pc', L', st', h'))) : ZOk E p l0 e R s m args below meth c nL Q cells slots pc L st h pc' L' st' h' := by
  obtain ⟨hx, hb, hml, hown, hts, hT, hini, hfr, hlo⟩ := X
  exact zg_j1 hz (fun _ => zr_toInt _) hL hok fun hl H locs ls x rest k => lv_l2i hx hb (hl ▸ hd) rfl (by simpa only [cv, zi_of] using k)
theorem zs_lneg  (X : ZX E p R s m args meth c cc o nL d) (hL : okL L) (hok : okst st) (hd : decode cc pc = .ok (.lneg, l)) (hz : zin d o pc l L st h (.lneg) = some (.inl (pc', L', st', h'))) : ZOk E p l0 e R s m args below meth c nL Q cells slots pc L st h pc' L' st' h' := by
  obtain ⟨hx, hb, hml, hown, hts, hT, hini, hfr, hlo⟩ := X
  exact zg_j1 hz (fun _ => trivial) hL hok fun hl H locs ls x rest k => lv_lneg hx hb (hl ▸ hd) (by simpa only [cv] using k)
theorem zs_ladd  (X : ZX E p R s m args meth c cc o nL d) (hL : okL L) (hok : okst st) (hd : decode cc pc = .ok (.ladd, l)) (hz : zin d o pc l L st h (.ladd) = some (.inl (pc', L', st', h'))) : ZOk E p l0 e R s m args below meth c nL Q cells slots pc L st h pc' L' st' h' := by
  obtain ⟨hx, hb, hml, hown, hts, hT, hini, hfr, hlo⟩ := X
  exact zg_j2 hz (fun _ _ => trivial) hL hok fun hl H locs ls x y rest k => lv_ladd hx hb (hl ▸ hd) (by simpa only [cv] using k)
theorem zs_land  (X : ZX E p R s m args meth c cc o nL d) (hL : okL L) (hok : okst st) (hd : decode cc pc = .ok (.land, l)) (hz : zin d o pc l L st h (.land) = some (.inl (pc', L', st', h'))) : ZOk E p l0 e R s m args below meth c nL Q cells slots pc L st h pc' L' st' h' := by
  obtain ⟨hx, hb, hml, hown, hts, hT, hini, hfr, hlo⟩ := X
  exact zg_j2 hz (fun _ _ => trivial) hL hok fun hl H locs ls x y rest k => lv_land hx hb (hl ▸ hd) (by simpa only [cv] using k)
theorem zs_lor  (X : ZX E p R s m args meth c cc o nL d) (hL : okL L) (hok : okst st) (hd : decode cc pc = .ok (.lor, l)) (hz : zin d o pc l L st h (.lor) = some (.inl (pc', L', st', h'))) : ZOk E p l0 e R s m args below meth c nL Q cells slots pc L st h pc' L' st' h' := by
  obtain ⟨hx, hb, hml, hown, hts, hT, hini, hfr, hlo⟩ := X
  exact zg_j2 hz (fun _ _ => trivial) hL hok fun hl H locs ls x y rest k => lv_lor hx hb (hl ▸ hd) (by simpa only [cv] using k)
theorem zs_ldiv  (X : ZX E p R s m args meth c cc o nL d) (hL : okL L) (hok : okst st) (hd : decode cc pc = .ok (.ldiv, l)) (hz : zin d o pc l L st h (.ldiv) = some (.inl (pc', L', st', h'))) : ZOk E p l0 e R s m args below meth c nL Q cells slots pc L st h pc' L' st' h' := by
  obtain ⟨hx, hb, hml, hown, hts, hT, hini, hfr, hlo⟩ := X
  exact zg_j2d hz (fun _ _ => trivial) hL hok fun hl H locs ls x y rest hy k => lv_ldiv hx hb (hl ▸ hd) hy (by simpa only [cv] using k)
theorem zs_lrem  (X : ZX E p R s m args meth c cc o nL d) (hL : okL L) (hok : okst st) (hd : decode cc pc = .ok (.lrem, l)) (hz : zin d o pc l L st h (.lrem) = some (.inl (pc', L', st', h'))) : ZOk E p l0 e R s m args below meth c nL Q cells slots pc L st h pc' L' st' h' := by
  obtain ⟨hx, hb, hml, hown, hts, hT, hini, hfr, hlo⟩ := X
  exact zg_j2d hz (fun _ _ => trivial) hL hok fun hl H locs ls x y rest hy k => lv_lrem hx hb (hl ▸ hd) hy (by simpa only [cv] using k)
theorem zs_lcmp  (X : ZX E p R s m args meth c cc o nL d) (hL : okL L) (hok : okst st) (hd : decode cc pc = .ok (.lcmp, l)) (hz : zin d o pc l L st h (.lcmp) = some (.inl (pc', L', st', h'))) : ZOk E p l0 e R s m args below meth c nL Q cells slots pc L st h pc' L' st' h' := by
  obtain ⟨hx, hb, hml, hown, hts, hT, hini, hfr, hlo⟩ := X
  exact zg_j2 hz (fun _ _ => zr_toInt _) hL hok fun hl H locs ls x y rest k => W.lcmp hx hb (hl ▸ hd) (by simpa only [cv, zi_of] using k)
theorem zs_lshl  (X : ZX E p R s m args meth c cc o nL d) (hL : okL L) (hok : okst st) (hd : decode cc pc = .ok (.lshl, l)) (hz : zin d o pc l L st h (.lshl) = some (.inl (pc', L', st', h'))) : ZOk E p l0 e R s m args below meth c nL Q cells slots pc L st h pc' L' st' h' := by
  obtain ⟨hx, hb, hml, hown, hts, hT, hini, hfr, hlo⟩ := X
  exact zg_ji hz (fun _ _ => trivial) hL hok fun hl H locs ls x y rest k => lv_lshl hx hb (hl ▸ hd) rfl (by simpa only [cv] using k)
theorem zs_iconst {n : Int} (X : ZX E p R s m args meth c cc o nL d) (hL : okL L) (hok : okst st) (hd : decode cc pc = .ok (.iconst n, l)) (hz : zin d o pc l L st h (.iconst n) = some (.inl (pc', L', st', h'))) : ZOk E p l0 e R s m args below meth c nL Q cells slots pc L st h pc' L' st' h' := by
  obtain ⟨hx, hb, hml, hown, hts, hT, hini, hfr, hlo⟩ := X
  exact zg_c1 hz (zr_zw _) hL hok fun hl H locs ls rest _ k => lv_iconst hx hb (hl ▸ hd) rfl (by rw [show cv E (vI (zw n)) = .int (Int32.ofInt n) from congrArg Value.int (zi_zw n)] at k; exact k)
theorem zs_bipush {n : Int} (X : ZX E p R s m args meth c cc o nL d) (hL : okL L) (hok : okst st) (hd : decode cc pc = .ok (.bipush n, l)) (hz : zin d o pc l L st h (.bipush n) = some (.inl (pc', L', st', h'))) : ZOk E p l0 e R s m args below meth c nL Q cells slots pc L st h pc' L' st' h' := by
  obtain ⟨hx, hb, hml, hown, hts, hT, hini, hfr, hlo⟩ := X
  exact zg_c1 hz (zr_toInt _) hL hok fun hl H locs ls rest _ k => lv_bipush hx hb (hl ▸ hd) rfl (by simpa only [cv, zi_of] using k)
theorem zs_sipush {n : Int} (X : ZX E p R s m args meth c cc o nL d) (hL : okL L) (hok : okst st) (hd : decode cc pc = .ok (.sipush n, l)) (hz : zin d o pc l L st h (.sipush n) = some (.inl (pc', L', st', h'))) : ZOk E p l0 e R s m args below meth c nL Q cells slots pc L st h pc' L' st' h' := by
  obtain ⟨hx, hb, hml, hown, hts, hT, hini, hfr, hlo⟩ := X
  exact zg_c1 hz (zr_toInt _) hL hok fun hl H locs ls rest _ k => lv_sipush hx hb (hl ▸ hd) rfl (by simpa only [cv, zi_of] using k)
theorem zs_lconst {n : Fin 2} (X : ZX E p R s m args meth c cc o nL d) (hL : okL L) (hok : okst st) (hd : decode cc pc = .ok (.lconst n, l)) (hz : zin d o pc l L st h (.lconst n) = some (.inl (pc', L', st', h'))) : ZOk E p l0 e R s m args below meth c nL Q cells slots pc L st h pc' L' st' h' := by
  obtain ⟨hx, hb, hml, hown, hts, hT, hini, hfr, hlo⟩ := X
  exact zg_c1 hz trivial hL hok fun hl H locs ls rest _ k => lv_lconst hx hb (hl ▸ hd) rfl (by simpa only [cv] using k)
theorem zs_iload_n {k : Fin 4} (X : ZX E p R s m args meth c cc o nL d) (hL : okL L) (hok : okst st) (hd : decode cc pc = .ok (.iload_n k, l)) (hz : zin d o pc l L st h (.iload_n k) = some (.inl (pc', L', st', h'))) : ZOk E p l0 e R s m args below meth c nL Q cells slots pc L st h pc' L' st' h' := by
  obtain ⟨hx, hb, hml, hown, hts, hT, hini, hfr, hlo⟩ := X
  refine zg_ld hz hL hok fun hl H locs ls v rest ht hv k => ?_
  rcases v with x | x | x
  · exact lv_iload_n hx hb (hl ▸ hd) rfl hv k
  · simp [ztag] at ht
  · cases x <;> simp [ztag] at ht
theorem zs_iload {k : Nat} (X : ZX E p R s m args meth c cc o nL d) (hL : okL L) (hok : okst st) (hd : decode cc pc = .ok (.iload k, l)) (hz : zin d o pc l L st h (.iload k) = some (.inl (pc', L', st', h'))) : ZOk E p l0 e R s m args below meth c nL Q cells slots pc L st h pc' L' st' h' := by
  obtain ⟨hx, hb, hml, hown, hts, hT, hini, hfr, hlo⟩ := X
  refine zg_ld hz hL hok fun hl H locs ls v rest ht hv k => ?_
  rcases v with x | x | x
  · exact lv_iload hx hb (hl ▸ hd) hv k
  · simp [ztag] at ht
  · cases x <;> simp [ztag] at ht
theorem zs_lload_n {k : Fin 4} (X : ZX E p R s m args meth c cc o nL d) (hL : okL L) (hok : okst st) (hd : decode cc pc = .ok (.lload_n k, l)) (hz : zin d o pc l L st h (.lload_n k) = some (.inl (pc', L', st', h'))) : ZOk E p l0 e R s m args below meth c nL Q cells slots pc L st h pc' L' st' h' := by
  obtain ⟨hx, hb, hml, hown, hts, hT, hini, hfr, hlo⟩ := X
  refine zg_ld hz hL hok fun hl H locs ls v rest ht hv k => ?_
  rcases v with x | x | x
  · simp [ztag] at ht
  · exact lv_lload_n hx hb (hl ▸ hd) rfl hv k
  · cases x <;> simp [ztag] at ht
theorem zs_lload {k : Nat} (X : ZX E p R s m args meth c cc o nL d) (hL : okL L) (hok : okst st) (hd : decode cc pc = .ok (.lload k, l)) (hz : zin d o pc l L st h (.lload k) = some (.inl (pc', L', st', h'))) : ZOk E p l0 e R s m args below meth c nL Q cells slots pc L st h pc' L' st' h' := by
  obtain ⟨hx, hb, hml, hown, hts, hT, hini, hfr, hlo⟩ := X
  refine zg_ld hz hL hok fun hl H locs ls v rest ht hv k => ?_
  rcases v with x | x | x
  · simp [ztag] at ht
  · exact lv_lload hx hb (hl ▸ hd) hv k
  · cases x <;> simp [ztag] at ht
theorem zs_aload_n {k : Fin 4} (X : ZX E p R s m args meth c cc o nL d) (hL : okL L) (hok : okst st) (hd : decode cc pc = .ok (.aload_n k, l)) (hz : zin d o pc l L st h (.aload_n k) = some (.inl (pc', L', st', h'))) : ZOk E p l0 e R s m args below meth c nL Q cells slots pc L st h pc' L' st' h' := by
  obtain ⟨hx, hb, hml, hown, hts, hT, hini, hfr, hlo⟩ := X
  refine zg_ld hz hL hok fun hl H locs ls v rest ht hv k => ?_
  rcases v with x | x | x
  · simp [ztag] at ht
  · simp [ztag] at ht
  · cases x with
    | none => simp [ztag] at ht
    | some a => exact lv_aload_n hx hb (hl ▸ hd) rfl hv k
theorem zs_aload {k : Nat} (X : ZX E p R s m args meth c cc o nL d) (hL : okL L) (hok : okst st) (hd : decode cc pc = .ok (.aload k, l)) (hz : zin d o pc l L st h (.aload k) = some (.inl (pc', L', st', h'))) : ZOk E p l0 e R s m args below meth c nL Q cells slots pc L st h pc' L' st' h' := by
  obtain ⟨hx, hb, hml, hown, hts, hT, hini, hfr, hlo⟩ := X
  refine zg_ld hz hL hok fun hl H locs ls v rest ht hv k => ?_
  rcases v with x | x | x
  · simp [ztag] at ht
  · simp [ztag] at ht
  · cases x with
    | none => simp [ztag] at ht
    | some a => exact lv_aload hx hb (hl ▸ hd) hv k
theorem zs_istore_n {k : Fin 4} (X : ZX E p R s m args meth c cc o nL d) (hL : okL L) (hok : okst st) (hd : decode cc pc = .ok (.istore_n k, l)) (hz : zin d o pc l L st h (.istore_n k) = some (.inl (pc', L', st', h'))) : ZOk E p l0 e R s m args below meth c nL Q cells slots pc L st h pc' L' st' h' := by
  obtain ⟨hx, hb, hml, hown, hts, hT, hini, hfr, hlo⟩ := X
  refine zg_sto hz hL hok fun hl H locs ls v rest lv ht hv hk k => ?_
  rcases v with x | x | x
  · exact lv_istore_n hx hb (hl ▸ hd) rfl hv hk rfl k
  · simp [ztag] at ht
  · cases x <;> simp [ztag] at ht
theorem zs_istore {k : Nat} (X : ZX E p R s m args meth c cc o nL d) (hL : okL L) (hok : okst st) (hd : decode cc pc = .ok (.istore k, l)) (hz : zin d o pc l L st h (.istore k) = some (.inl (pc', L', st', h'))) : ZOk E p l0 e R s m args below meth c nL Q cells slots pc L st h pc' L' st' h' := by
  obtain ⟨hx, hb, hml, hown, hts, hT, hini, hfr, hlo⟩ := X
  refine zg_sto hz hL hok fun hl H locs ls v rest lv ht hv hk k => ?_
  rcases v with x | x | x
  · exact lv_istore hx hb (hl ▸ hd) hv hk rfl k
  · simp [ztag] at ht
  · cases x <;> simp [ztag] at ht
theorem zs_astore_n {k : Fin 4} (X : ZX E p R s m args meth c cc o nL d) (hL : okL L) (hok : okst st) (hd : decode cc pc = .ok (.astore_n k, l)) (hz : zin d o pc l L st h (.astore_n k) = some (.inl (pc', L', st', h'))) : ZOk E p l0 e R s m args below meth c nL Q cells slots pc L st h pc' L' st' h' := by
  obtain ⟨hx, hb, hml, hown, hts, hT, hini, hfr, hlo⟩ := X
  refine zg_sto hz hL hok fun hl H locs ls v rest lv ht hv hk k => ?_
  rcases v with x | x | x
  · simp [ztag] at ht
  · simp [ztag] at ht
  · cases x with
    | none => simp [ztag] at ht
    | some a => exact lv_astore_n hx hb (hl ▸ hd) rfl hv hk rfl k
theorem zs_astore {k : Nat} (X : ZX E p R s m args meth c cc o nL d) (hL : okL L) (hok : okst st) (hd : decode cc pc = .ok (.astore k, l)) (hz : zin d o pc l L st h (.astore k) = some (.inl (pc', L', st', h'))) : ZOk E p l0 e R s m args below meth c nL Q cells slots pc L st h pc' L' st' h' := by
  obtain ⟨hx, hb, hml, hown, hts, hT, hini, hfr, hlo⟩ := X
  refine zg_sto hz hL hok fun hl H locs ls v rest lv ht hv hk k => ?_
  rcases v with x | x | x
  · simp [ztag] at ht
  · simp [ztag] at ht
  · cases x with
    | none => simp [ztag] at ht
    | some a => exact lv_astore hx hb (hl ▸ hd) hv hk rfl k
theorem zs_lstore_n {k : Fin 4} (X : ZX E p R s m args meth c cc o nL d) (hL : okL L) (hok : okst st) (hd : decode cc pc = .ok (.lstore_n k, l)) (hz : zin d o pc l L st h (.lstore_n k) = some (.inl (pc', L', st', h'))) : ZOk E p l0 e R s m args below meth c nL Q cells slots pc L st h pc' L' st' h' := by
  obtain ⟨hx, hb, hml, hown, hts, hT, hini, hfr, hlo⟩ := X
  exact zg_sto2 hz hL hok fun hl H locs ls x rest lv hv hk k => lv_lstore_n hx hb (hl ▸ hd) rfl hv hk rfl k
theorem zs_lstore {k : Nat} (X : ZX E p R s m args meth c cc o nL d) (hL : okL L) (hok : okst st) (hd : decode cc pc = .ok (.lstore k, l)) (hz : zin d o pc l L st h (.lstore k) = some (.inl (pc', L', st', h'))) : ZOk E p l0 e R s m args below meth c nL Q cells slots pc L st h pc' L' st' h' := by
  obtain ⟨hx, hb, hml, hown, hts, hT, hini, hfr, hlo⟩ := X
  exact zg_sto2 hz hL hok fun hl H locs ls x rest lv hv hk k => lv_lstore hx hb (hl ▸ hd) hv hk rfl k
theorem zs_iinc {k : Nat} {n : Int} (X : ZX E p R s m args meth c cc o nL d) (hL : okL L) (hok : okst st) (hd : decode cc pc = .ok (.iinc k n, l)) (hz : zin d o pc l L st h (.iinc k n) = some (.inl (pc', L', st', h'))) : ZOk E p l0 e R s m args below meth c nL Q cells slots pc L st h pc' L' st' h' := by
  obtain ⟨hx, hb, hml, hown, hts, hT, hini, hfr, hlo⟩ := X
  simp only [zin] at hz
  split at hz
  · next x hv =>
    split at hz
    · next hl =>
      obtain ⟨h1, h2⟩ := zget_some hv
      obtain ⟨hl, hp⟩ := hl
      have hk : k < L.length := (List.getElem?_eq_some_iff.mp h1).1
      unfold zn at hz; cases hz
      refine ⟨rfl, hL.set (zr_zw _), hok, fun z H locs ls hI hS hR => ?_⟩
      obtain ⟨j, hj⟩ := List.getElem?_of_mem (zlv_mem (E := E) h1)
      exact lv_iinc hx hb (hl ▸ hd) hR.has (k := j) hj rfl (by rw [← hR.2.2.1]; exact hk) rfl (fun ls' h' => z H locs ls' hI hS (hR.set1 hk hp (by rw [show cv E (vI (zw (x + n))) = Value.int (Int32.ofInt x + Int32.ofInt n) from congrArg Value.int (zi_add x n)]; exact h')))
    · cases hz
  · cases hz
theorem zs_dup  (X : ZX E p R s m args meth c cc o nL d) (hL : okL L) (hok : okst st) (hd : decode cc pc = .ok (.dup, l)) (hz : zin d o pc l L st h (.dup) = some (.inl (pc', L', st', h'))) : ZOk E p l0 e R s m args below meth c nL Q cells slots pc L st h pc' L' st' h' := by
  obtain ⟨hx, hb, hml, hown, hts, hT, hini, hfr, hlo⟩ := X
  simp only [zin] at hz
  split at hz
  · next v r =>
    split at hz
    · next hl =>
      unfold zn at hz; cases hz
      obtain ⟨hv, hr⟩ := okst_c hok
      exact ⟨rfl, hL, okst_m hv (okst_m hv hr), fun z H locs ls hI hS hR => lv_dup hx hb (hl.1 ▸ hd) (by rw [cv_cat]; exact hl.2) (z H locs ls hI hS hR)⟩
    · cases hz
  · cases hz
theorem zs_pop  (X : ZX E p R s m args meth c cc o nL d) (hL : okL L) (hok : okst st) (hd : decode cc pc = .ok (.pop, l)) (hz : zin d o pc l L st h (.pop) = some (.inl (pc', L', st', h'))) : ZOk E p l0 e R s m args below meth c nL Q cells slots pc L st h pc' L' st' h' := by
  obtain ⟨hx, hb, hml, hown, hts, hT, hini, hfr, hlo⟩ := X
  simp only [zin] at hz
  split at hz
  · next v r =>
    split at hz
    · next hl =>
      unfold zn at hz; cases hz
      obtain ⟨hv, hr⟩ := okst_c hok
      exact ⟨rfl, hL, hr, fun z H locs ls hI hS hR => lv_pop hx hb (hl.1 ▸ hd) (by rw [cv_cat]; exact hl.2) (z H locs ls hI hS hR)⟩
    · cases hz
  · cases hz
theorem zs_dup_x1  (X : ZX E p R s m args meth c cc o nL d) (hL : okL L) (hok : okst st) (hd : decode cc pc = .ok (.dup_x1, l)) (hz : zin d o pc l L st h (.dup_x1) = some (.inl (pc', L', st', h'))) : ZOk E p l0 e R s m args below meth c nL Q cells slots pc L st h pc' L' st' h' := by
  obtain ⟨hx, hb, hml, hown, hts, hT, hini, hfr, hlo⟩ := X
  simp only [zin] at hz
  split at hz
  · next v u r =>
    split at hz
    · next hl =>
      unfold zn at hz; cases hz
      obtain ⟨hv, hr⟩ := okst_c hok
      obtain ⟨hu, hr⟩ := okst_c hr
      exact ⟨rfl, hL, okst_m hv (okst_m hu (okst_m hv hr)), fun z H locs ls hI hS hR => lv_dup_x1 hx hb (hl.1 ▸ hd) (by rw [cv_cat]; exact hl.2.1) (by rw [cv_cat]; exact hl.2.2) (z H locs ls hI hS hR)⟩
    · cases hz
  · cases hz
theorem zs_dup2  (X : ZX E p R s m args meth c cc o nL d) (hL : okL L) (hok : okst st) (hd : decode cc pc = .ok (.dup2, l)) (hz : zin d o pc l L st h (.dup2) = some (.inl (pc', L', st', h'))) : ZOk E p l0 e R s m args below meth c nL Q cells slots pc L st h pc' L' st' h' := by
  obtain ⟨hx, hb, hml, hown, hts, hT, hini, hfr, hlo⟩ := X
  simp only [zin] at hz
  split at hz
  · next v u r =>
    split at hz
    · next hl =>
      unfold zn at hz; cases hz
      obtain ⟨hv, hr⟩ := okst_c hok
      obtain ⟨hu, hr⟩ := okst_c hr
      exact ⟨rfl, hL, okst_m hv (okst_m hu (okst_m hv (okst_m hu hr))), fun z H locs ls hI hS hR => lv_dup2_11 hx hb (hl.1 ▸ hd) (by rw [cv_cat]; exact hl.2.1) (by rw [cv_cat]; exact hl.2.2) (z H locs ls hI hS hR)⟩
    · cases hz
  · cases hz
theorem zs_goto {off : Int} (X : ZX E p R s m args meth c cc o nL d) (hL : okL L) (hok : okst st) (hd : decode cc pc = .ok (.goto off, l)) (hz : zin d o pc l L st h (.goto off) = some (.inl (pc', L', st', h'))) : ZOk E p l0 e R s m args below meth c nL Q cells slots pc L st h pc' L' st' h' := by
  obtain ⟨hx, hb, hml, hown, hts, hT, hini, hfr, hlo⟩ := X
  simp only [zin] at hz
  split at hz
  · next hl =>
    unfold zjmp at hz
    split at hz
    · next hj =>
      unfold zn at hz; cases hz
      exact ⟨rfl, hL, hok, fun z H locs ls hI hS hR => lv_goto (tgt := ((pc : Int) + off).toNat) hx hb (hl ▸ hd) (by omega) (z H locs ls hI hS hR)⟩
    · cases hz
  · cases hz
theorem zs_ifCond {cd : Jvm.ClassFile.Cond} {off : Int} (X : ZX E p R s m args meth c cc o nL d) (hL : okL L) (hok : okst st) (hd : decode cc pc = .ok (.ifCond cd off, l)) (hz : zin d o pc l L st h (.ifCond cd off) = some (.inl (pc', L', st', h'))) : ZOk E p l0 e R s m args below meth c nL Q cells slots pc L st h pc' L' st' h' := by
  obtain ⟨hx, hb, hml, hown, hts, hT, hini, hfr, hlo⟩ := X
  simp only [zin] at hz
  split at hz
  · next x r =>
    split at hz
    · next hl =>
      obtain ⟨hl, hj⟩ := hl
      obtain ⟨hX, hr⟩ := okst_c hok
      have hY : zr 0 := zr_0
      split at hz
      · next hc =>
        unfold zn at hz; cases hz
        refine ⟨rfl, hL, hr, fun z H locs ls hI hS hR => ?_⟩
        have ht : (pc : Int) + off = (((pc : Int) + off).toNat : Int) := by omega
        cases cd
        · exact lv_if_eq hx hb (hl ▸ hd) ht (fun _ => z H locs ls hI hS hR) (fun q => absurd (show x = 0 from by simpa [zcond] using hc) (fun w => q (by first | exact (by simpa only [zi_0] using (zi_eq hX hY).mpr w) | exact (by simpa only [zi_0] using fun u => w ((zi_eq hX hY).mp (by simpa only [zi_0] using u))))))
        · exact lv_if_ne hx hb (hl ▸ hd) ht (fun _ => z H locs ls hI hS hR) (fun q => absurd ((zi_eq hX hY).mp (by simpa only [zi_0] using q)) (show ¬ x = 0 from by simpa [zcond] using hc))
        · exact lv_if_lt hx hb (hl ▸ hd) ht (fun _ => z H locs ls hI hS hR) (fun q => absurd (show x < 0 from by simpa [zcond] using hc) (fun w => q (by first | exact (by simpa only [zi_0] using (zi_lt hX hY).mpr w) | exact (by simpa only [zi_0] using fun u => w ((zi_lt hX hY).mp (by simpa only [zi_0] using u))))))
        · exact lv_if_ge hx hb (hl ▸ hd) ht (fun _ => z H locs ls hI hS hR) (fun q => absurd (show 0 ≤ x from by simpa [zcond] using hc) (fun w => q (by first | exact (by simpa only [zi_0] using (zi_le hY hX).mpr w) | exact (by simpa only [zi_0] using fun u => w ((zi_le hY hX).mp (by simpa only [zi_0] using u))))))
        · exact lv_if_gt hx hb (hl ▸ hd) ht (fun _ => z H locs ls hI hS hR) (fun q => absurd (show 0 < x from by simpa [zcond] using hc) (fun w => q (by first | exact (by simpa only [zi_0] using (zi_lt hY hX).mpr w) | exact (by simpa only [zi_0] using fun u => w ((zi_lt hY hX).mp (by simpa only [zi_0] using u))))))
        · exact lv_if_le hx hb (hl ▸ hd) ht (fun _ => z H locs ls hI hS hR) (fun q => absurd (show x ≤ 0 from by simpa [zcond] using hc) (fun w => q (by first | exact (by simpa only [zi_0] using (zi_le hX hY).mpr w) | exact (by simpa only [zi_0] using fun u => w ((zi_le hX hY).mp (by simpa only [zi_0] using u))))))
      · next hc =>
        unfold zn at hz; cases hz
        refine ⟨rfl, hL, hr, fun z H locs ls hI hS hR => ?_⟩
        have ht : (pc : Int) + off = (((pc : Int) + off).toNat : Int) := by omega
        cases cd
        · exact lv_if_eq hx hb (hl ▸ hd) ht (fun q => absurd (show ¬ (x = 0) from by simpa [zcond] using hc) (fun w => w (by first | exact (zi_eq hX hY).mp (by simpa only [zi_0] using q) | exact fun u => q (by simpa only [zi_0] using (zi_eq hX hY).mpr u)))) (fun _ => z H locs ls hI hS hR)
        · exact lv_if_ne hx hb (hl ▸ hd) ht (fun q => absurd (show ¬ (¬ x = 0) from by simpa [zcond] using hc) (fun w => w (by first | exact (zi_eq hX hY).mp (by simpa only [zi_0] using q) | exact fun u => q (by simpa only [zi_0] using (zi_eq hX hY).mpr u)))) (fun _ => z H locs ls hI hS hR)
        · exact lv_if_lt hx hb (hl ▸ hd) ht (fun q => absurd (show ¬ (x < 0) from by simpa [zcond] using hc) (fun w => w (by first | exact (zi_lt hX hY).mp (by simpa only [zi_0] using q) | exact fun u => q (by simpa only [zi_0] using (zi_lt hX hY).mpr u)))) (fun _ => z H locs ls hI hS hR)
        · exact lv_if_ge hx hb (hl ▸ hd) ht (fun q => absurd (show ¬ (0 ≤ x) from by simpa [zcond] using hc) (fun w => w (by first | exact (zi_le hY hX).mp (by simpa only [zi_0] using q) | exact fun u => q (by simpa only [zi_0] using (zi_le hY hX).mpr u)))) (fun _ => z H locs ls hI hS hR)
        · exact lv_if_gt hx hb (hl ▸ hd) ht (fun q => absurd (show ¬ (0 < x) from by simpa [zcond] using hc) (fun w => w (by first | exact (zi_lt hY hX).mp (by simpa only [zi_0] using q) | exact fun u => q (by simpa only [zi_0] using (zi_lt hY hX).mpr u)))) (fun _ => z H locs ls hI hS hR)
        · exact lv_if_le hx hb (hl ▸ hd) ht (fun q => absurd (show ¬ (x ≤ 0) from by simpa [zcond] using hc) (fun w => w (by first | exact (zi_le hX hY).mp (by simpa only [zi_0] using q) | exact fun u => q (by simpa only [zi_0] using (zi_le hX hY).mpr u)))) (fun _ => z H locs ls hI hS hR)
    · cases hz
  · cases hz
theorem zs_if_icmp {cd : Jvm.ClassFile.Cond} {off : Int} (X : ZX E p R s m args meth c cc o nL d) (hL : okL L) (hok : okst st) (hd : decode cc pc = .ok (.if_icmp cd off, l)) (hz : zin d o pc l L st h (.if_icmp cd off) = some (.inl (pc', L', st', h'))) : ZOk E p l0 e R s m args below meth c nL Q cells slots pc L st h pc' L' st' h' := by
  obtain ⟨hx, hb, hml, hown, hts, hT, hini, hfr, hlo⟩ := X
  simp only [zin] at hz
  split at hz
  · next y x r =>
    split at hz
    · next hl =>
      obtain ⟨hl, hj⟩ := hl
      obtain ⟨hY, hr⟩ := okst_c hok
      obtain ⟨hX, hr⟩ := okst_c hr
      split at hz
      · next hc =>
        unfold zn at hz; cases hz
        refine ⟨rfl, hL, hr, fun z H locs ls hI hS hR => ?_⟩
        have ht : (pc : Int) + off = (((pc : Int) + off).toNat : Int) := by omega
        cases cd
        · exact lv_icmp_eq hx hb (hl ▸ hd) ht (fun _ => z H locs ls hI hS hR) (fun q => absurd (show x = y from by simpa [zcond] using hc) (fun w => q (by first | exact (by simpa only [zi_0] using (zi_eq hX hY).mpr w) | exact (by simpa only [zi_0] using fun u => w ((zi_eq hX hY).mp (by simpa only [zi_0] using u))))))
        · exact lv_icmp_ne hx hb (hl ▸ hd) ht (fun _ => z H locs ls hI hS hR) (fun q => absurd ((zi_eq hX hY).mp (by simpa only [zi_0] using q)) (show ¬ x = y from by simpa [zcond] using hc))
        · exact lv_icmp_lt hx hb (hl ▸ hd) ht (fun _ => z H locs ls hI hS hR) (fun q => absurd (show x < y from by simpa [zcond] using hc) (fun w => q (by first | exact (by simpa only [zi_0] using (zi_lt hX hY).mpr w) | exact (by simpa only [zi_0] using fun u => w ((zi_lt hX hY).mp (by simpa only [zi_0] using u))))))
        · exact lv_icmp_ge hx hb (hl ▸ hd) ht (fun _ => z H locs ls hI hS hR) (fun q => absurd (show y ≤ x from by simpa [zcond] using hc) (fun w => q (by first | exact (by simpa only [zi_0] using (zi_le hY hX).mpr w) | exact (by simpa only [zi_0] using fun u => w ((zi_le hY hX).mp (by simpa only [zi_0] using u))))))
        · exact lv_icmp_gt hx hb (hl ▸ hd) ht (fun _ => z H locs ls hI hS hR) (fun q => absurd (show y < x from by simpa [zcond] using hc) (fun w => q (by first | exact (by simpa only [zi_0] using (zi_lt hY hX).mpr w) | exact (by simpa only [zi_0] using fun u => w ((zi_lt hY hX).mp (by simpa only [zi_0] using u))))))
        · exact lv_icmp_le hx hb (hl ▸ hd) ht (fun _ => z H locs ls hI hS hR) (fun q => absurd (show x ≤ y from by simpa [zcond] using hc) (fun w => q (by first | exact (by simpa only [zi_0] using (zi_le hX hY).mpr w) | exact (by simpa only [zi_0] using fun u => w ((zi_le hX hY).mp (by simpa only [zi_0] using u))))))
      · next hc =>
        unfold zn at hz; cases hz
        refine ⟨rfl, hL, hr, fun z H locs ls hI hS hR => ?_⟩
        have ht : (pc : Int) + off = (((pc : Int) + off).toNat : Int) := by omega
        cases cd
        · exact lv_icmp_eq hx hb (hl ▸ hd) ht (fun q => absurd (show ¬ (x = y) from by simpa [zcond] using hc) (fun w => w (by first | exact (zi_eq hX hY).mp (by simpa only [zi_0] using q) | exact fun u => q (by simpa only [zi_0] using (zi_eq hX hY).mpr u)))) (fun _ => z H locs ls hI hS hR)
        · exact lv_icmp_ne hx hb (hl ▸ hd) ht (fun q => absurd (show ¬ (¬ x = y) from by simpa [zcond] using hc) (fun w => w (by first | exact (zi_eq hX hY).mp (by simpa only [zi_0] using q) | exact fun u => q (by simpa only [zi_0] using (zi_eq hX hY).mpr u)))) (fun _ => z H locs ls hI hS hR)
        · exact lv_icmp_lt hx hb (hl ▸ hd) ht (fun q => absurd (show ¬ (x < y) from by simpa [zcond] using hc) (fun w => w (by first | exact (zi_lt hX hY).mp (by simpa only [zi_0] using q) | exact fun u => q (by simpa only [zi_0] using (zi_lt hX hY).mpr u)))) (fun _ => z H locs ls hI hS hR)
        · exact lv_icmp_ge hx hb (hl ▸ hd) ht (fun q => absurd (show ¬ (y ≤ x) from by simpa [zcond] using hc) (fun w => w (by first | exact (zi_le hY hX).mp (by simpa only [zi_0] using q) | exact fun u => q (by simpa only [zi_0] using (zi_le hY hX).mpr u)))) (fun _ => z H locs ls hI hS hR)
        · exact lv_icmp_gt hx hb (hl ▸ hd) ht (fun q => absurd (show ¬ (y < x) from by simpa [zcond] using hc) (fun w => w (by first | exact (zi_lt hY hX).mp (by simpa only [zi_0] using q) | exact fun u => q (by simpa only [zi_0] using (zi_lt hY hX).mpr u)))) (fun _ => z H locs ls hI hS hR)
        · exact lv_icmp_le hx hb (hl ▸ hd) ht (fun q => absurd (show ¬ (x ≤ y) from by simpa [zcond] using hc) (fun w => w (by first | exact (zi_le hX hY).mp (by simpa only [zi_0] using q) | exact fun u => q (by simpa only [zi_0] using (zi_le hX hY).mpr u)))) (fun _ => z H locs ls hI hS hR)
    · cases hz
  · cases hz
theorem zs_tableswitch {dflt lo hi : Int} {offs : Array Int} (X : ZX E p R s m args meth c cc o nL d) (hL : okL L) (hok : okst st) (hd : decode cc pc = .ok (.tableswitch dflt lo hi offs, l)) (hz : zin d o pc l L st h (.tableswitch dflt lo hi offs) = some (.inl (pc', L', st', h'))) : ZOk E p l0 e R s m args below meth c nL Q cells slots pc L st h pc' L' st' h' := by
  obtain ⟨hx, hb, hml, hown, hts, hT, hini, hfr, hlo⟩ := X
  simp only [zin] at hz
  split at hz
  · next x r =>
    obtain ⟨hX, hr⟩ := okst_c hok
    have hX' : (zi x).toInt = x := zi_toInt hX
    split at hz
    · next ho =>
      unfold zjmp at hz
      split at hz
      · next hj =>
        unfold zn at hz; cases hz
        exact ⟨rfl, hL, hr, fun z H locs ls hI hS hR => lv_tableOut (tgt := ((pc : Int) + dflt).toNat) hx hb hd (by rw [hX']; exact ho) (by omega) (z H locs ls hI hS hR)⟩
      · cases hz
    · next ho =>
      split at hz
      · next off hoff =>
        unfold zjmp at hz
        split at hz
        · next hj =>
          unfold zn at hz; cases hz
          exact ⟨rfl, hL, hr, fun z H locs ls hI hS hR => lv_tableIn (tgt := ((pc : Int) + off).toNat) hx hb hd (by rw [hX']; exact fun q => ho (Or.inl q)) (by rw [hX']; exact fun q => ho (Or.inr q)) (by rw [hX']; exact hoff) (by omega) (z H locs ls hI hS hR)⟩
        · cases hz
      · cases hz
  · cases hz
theorem zs_lookupswitch {dflt : Int} {ps : Array (Int × Int)} (X : ZX E p R s m args meth c cc o nL d) (hL : okL L) (hok : okst st) (hd : decode cc pc = .ok (.lookupswitch dflt ps, l)) (hz : zin d o pc l L st h (.lookupswitch dflt ps) = some (.inl (pc', L', st', h'))) : ZOk E p l0 e R s m args below meth c nL Q cells slots pc L st h pc' L' st' h' := by
  obtain ⟨hx, hb, hml, hown, hts, hT, hini, hfr, hlo⟩ := X
  simp only [zin] at hz
  split at hz
  · next x r =>
    obtain ⟨hX, hr⟩ := okst_c hok
    have hX' : (zi x).toInt = x := zi_toInt hX
    split at hz
    · next hp =>
      unfold zjmp at hz
      split at hz
      · next hj =>
        unfold zn at hz; cases hz
        exact ⟨rfl, hL, hr, fun z H locs ls hI hS hR => lv_lookup (tgt := ((pc : Int) + Op.lookupswitch.offset ps.toList dflt x).toNat) hx hb hd hp (by rw [hX']) (by omega) (z H locs ls hI hS hR)⟩
      · cases hz
    · cases hz
  · cases hz
end ZPV
end
section
/-! SOUNDNESS 4: the tables say what the Statement's words say -/
def zck (pl : Nat) (w : Cond) : Bool := decide (lw_tbl[pl]? = some w) && goodWord w
def zckN (pl : Nat) (w : Cond) : Bool := decide (lw_tbl[pl]? = some w) && znst w
theorem zck_mem {pl : Nat} {w : Cond} (h : zck pl w = true) : w ∈ zTG := by
  unfold zck at h
  simp only [Bool.and_eq_true, decide_eq_true_eq] at h
  exact List.mem_filter.mpr ⟨List.mem_of_getElem? h.1, h.2⟩
theorem zckN_mem {pl : Nat} {w : Cond} (h : zckN pl w = true) : w ∈ znest := by
  unfold zckN at h
  simp only [Bool.and_eq_true, decide_eq_true_eq] at h
  exact List.mem_filter.mpr ⟨List.mem_of_getElem? h.1, h.2⟩
theorem zfind {α β : Type} {l : List (Nat × α)} {i : Nat} {f : α → β} {v : β} (h : (l.find? (fun e => e.1 == i)).map (fun e => f e.2) = some v) : ∃ a, (i, a) ∈ l ∧ f a = v := by
  cases hf : l.find? (fun e => e.1 == i) with
  | none => rw [hf] at h; cases h
  | some x =>
    rw [hf] at h
    cases h
    have h1 := List.find?_some hf
    have h2 := List.mem_of_find?_eq_some hf
    obtain ⟨a, b⟩ := x
    have h3 : a = i := by simpa using h1
    subst h3
    exact ⟨b, h2, rfl⟩
def zall {α : Type} (T : List (List α)) (c : Nat → α → Bool) : Bool := (List.range T.length).all fun k => (T.getD k []).all (c k)
theorem zall_of {α : Type} {T : List (List α)} {c : Nat → α → Bool} (h : zall T c = true) {k : Nat} {e : α} (he : e ∈ T.getD k []) : c k e = true := by
  by_cases hk : k < T.length
  · exact List.all_eq_true.mp (List.all_eq_true.mp h k (List.mem_range.mpr hk)) e he
  · rw [List.getD_eq_getElem?_getD, List.getElem?_eq_none (by omega)] at he
    cases he
def zcF (o : Nat) (e : Nat × Nat × Nat × Nat) : Bool := (decide (e.2.1 < 9) && (decide (e.2.2.1 < zNf e.2.1) && zck e.2.2.2 (.fieldLink (zcn o) e.1 (zT e.2.1 e.2.2.1).1 (zT e.2.1 e.2.2.1).2.1 (zT e.2.1 e.2.2.1).2.2.1))) || (decide (e.2.1 = 9) && ((decide (e.2.2.1 = 0) && zck e.2.2.2 (.fieldLink (zcn o) e.1 "java/lang/String" "value" "[B")) || (decide (e.2.2.1 = 1) && zck e.2.2.2 (.fieldLink (zcn o) e.1 "java/lang/String" "coder" "B"))))
theorem zcF_ok : zall zfldT zcF = true := by decide +kernel
def zstq (j : Nat) : String × String × String × AV := zstats.getD j ("", "", "", vI 0)
def zcS (o : Nat) (e : Nat × Nat × Bool × Nat) : Bool := decide (e.2.1 < 5) && (if e.2.2.1 = true then zckN e.2.2.2 (.fieldLinkNest (zcn o) e.1 (zstq e.2.1).1 (zstq e.2.1).2.1 (zstq e.2.1).2.2.1 "HatterTunes") else zck e.2.2.2 (.fieldLink (zcn o) e.1 (zstq e.2.1).1 (zstq e.2.1).2.1 (zstq e.2.1).2.2.1))
theorem zcS_ok : zall zstatT zcS = true := by decide +kernel
def zcC (o : Nat) (e : Nat × Nat × Nat) : Bool := decide (e.2.1 < 9) && zck e.2.2 (.classLink (zcn o) e.1 (zcn e.2.1))
theorem zcC_ok : zall zclT zcC = true := by decide +kernel
def zcL (o : Nat) (e : Nat × AV × Nat) : Bool := match e.2.1 with
  | .inl x => decide (-2147483648 ≤ x ∧ x < 2147483648) && zck e.2.2 (.constant (zcn o) e.1 (zi x))
  | .inr (.inr (some b)) => decide (b < 32) && zstrs.any (fun q => q.1 == zcn o && q.2.1 == e.1 && q.2.2.2 == b)
  | _ => false
theorem zcL_ok : zall zldcT zcL = true := by decide +kernel
def zcL2 (o : Nat) (e : Nat × Int64 × Nat) : Bool := zck e.2.2 (.constantLong (zcn o) e.1 e.2.1)
theorem zcL2_ok : zall zldc2T zcL2 = true := by decide +kernel
def zpl (z : Nat) : Nat × Nat × Nat × Nat := zplT.getD z (0, 0, 0, 0)
def zcM (o : Nat) (e : Nat × Nat × Nat × Nat) : Bool :=
  (decide (e.2.1 = 0) && decide (e.2.2.1 < 219) && decide (e.2.2.1 ≠ 1) && _root_.Jvm.plainName (zmn e.2.2.1).cls && zck e.2.2.2 (.methodLink (zcn o) e.1 (zmn e.2.2.1)) && zck (zpl e.2.2.1).2.1 (.instanceMethod (zmn e.2.2.1)) && zck (zpl e.2.2.1).2.2.1 (.selects (zmn e.2.2.1).cls (zmn e.2.2.1) (zmn e.2.2.1)))
  || (decide (e.2.1 = 1) && decide (e.2.2.1 < 219) && decide (e.2.2.1 ≠ 1) && _root_.Jvm.plainName (zmn e.2.2.1).cls && zck e.2.2.2 (.methodLink (zcn o) e.1 (zmn e.2.2.1)) && zck (zpl e.2.2.1).2.1 (.instanceMethod (zmn e.2.2.1)) && decide ((zmn e.2.2.1).name = "<init>") && decide (zrt e.2.2.1 = 0))
  || (decide (e.2.1 = 2) && decide (e.2.2.1 < 219) && decide (e.2.2.1 ≠ 1) && _root_.Jvm.plainName (zmn e.2.2.1).cls && zck e.2.2.2 (.methodLink (zcn o) e.1 (zmn e.2.2.1)) && zck (zpl e.2.2.1).2.1 (.static (zmn e.2.2.1)))
  || (decide (e.2.1 = 4) && decide (e.2.2.1 < 219) && decide (e.2.2.1 ≠ 1) && _root_.Jvm.plainName (zmn e.2.2.1).cls && zckN e.2.2.2 (.methodLinkNest (zcn o) e.1 (zmn e.2.2.1) "HatterTunes") && zck (zpl e.2.2.1).2.1 (.instanceMethod (zmn e.2.2.1)) && decide ((zmn e.2.2.1).name = "<init>") && decide (zrt e.2.2.1 = 0))
  || (decide (e.2.1 = 5) && decide (e.2.2.1 < 219) && decide (e.2.2.1 ≠ 1) && _root_.Jvm.plainName (zmn e.2.2.1).cls && zckN e.2.2.2 (.methodLinkNest (zcn o) e.1 (zmn e.2.2.1) "HatterTunes") && zck (zpl e.2.2.1).2.1 (.static (zmn e.2.2.1)))
  || (decide (e.2.1 = 9) && zck e.2.2.2 (.methodLink (zcn o) e.1 Lib.objectInit))
  || (decide (e.2.1 = 10) && zck e.2.2.2 (.methodLink (zcn o) e.1 arraycopyName))
  || (decide (e.2.1 = 11) && zck e.2.2.2 (.methodLink (zcn o) e.1 Lib.Math.min.name))
  || (decide (e.2.1 = 12) && zck e.2.2.2 (.methodLink (zcn o) e.1 Lib.Math.max.name))
  || (decide (e.2.1 = 13) && zck e.2.2.2 (.methodLink (zcn o) e.1 Lib.MathLoose.abs_long.x))
  || (decide (e.2.1 = 14) && zck e.2.2.2 (.methodLink (zcn o) e.1 ⟨"java/lang/Math", "floorMod", "(II)I"⟩))
theorem zcM_ok : zall zmthT zcM = true := by decide +kernel
def zcZ (z : Nat) : Bool := decide (z = 1) || (zck (zpl z).2.2.2 (.initialized (zmn z).cls) && decide ((zmn z).cls ≠ "java/lang/invoke/MethodHandle") && decide ((zmn z).cls ≠ "java/lang/invoke/VarHandle") && decide ((parseMethodDescriptor (zmn z).desc).map (fun d => d.parameters.length) = some (zna z)) && decide (zcn (zo z % 100) = (zmn z).cls) && decide (100 ≤ zo z → (zmn z).name = "<init>") && decide (zml z ≤ 20) && decide (zrt z ≤ 5))
set_option maxRecDepth 100000 in
theorem zcode_ok : (List.range 219).map (fun z => Cond.code (zmn z) (zb z) (zml z) (zretT (zrt z))) = ((List.range 219).map (fun z => (zpl z).1)).filterMap (fun i => lw_tbl[i]?) := by rfl
theorem zcode_mem {z : Nat} (h : z < 219) : Cond.code (zmn z) (zb z) (zml z) (zretT (zrt z)) ∈ zTG := by
  have h1 : Cond.code (zmn z) (zb z) (zml z) (zretT (zrt z)) ∈ (List.range 219).map (fun z => Cond.code (zmn z) (zb z) (zml z) (zretT (zrt z))) := List.mem_map.mpr ⟨z, List.mem_range.mpr h, rfl⟩
  rw [zcode_ok] at h1
  obtain ⟨i, -, hi⟩ := List.mem_filterMap.mp h1
  exact List.mem_filter.mpr ⟨List.mem_of_getElem? hi, rfl⟩
theorem zcZ_ok : (List.range 219).all zcZ = true := by decide +kernel
def zcT (ci : Nat) : Bool := zck (zcpT.getD ci (0, 0)).1 (.instantiable (zcn ci) (zNf ci)) && zck (zcpT.getD ci (0, 0)).2 (.initialized (zcn ci))
theorem zcT_ok : (List.range 9).all zcT = true := by decide +kernel
def zlayok (ci : Nat) : Bool := decide (u_ws (zcn ci) (zT ci) (zNf ci) = (zlayT.getD ci []).filterMap (fun i => lw_tbl[i]?)) && (u_ws (zcn ci) (zT ci) (zNf ci)).all goodWord
theorem zlay_ok : (List.range 9).all zlayok = true := by decide +kernel
theorem zlay_in {ci : Nat} (h : ci < 9) : ∀ w ∈ u_ws (zcn ci) (zT ci) (zNf ci), w ∈ zTG := by
  intro w hw
  have h1 := List.all_eq_true.mp zlay_ok ci (List.mem_range.mpr h)
  unfold zlayok at h1
  simp only [Bool.and_eq_true, decide_eq_true_eq] at h1
  have h2 := List.all_eq_true.mp h1.2 w hw
  rw [h1.1] at hw
  obtain ⟨i, -, hi⟩ := List.mem_filterMap.mp hw
  exact List.mem_filter.mpr ⟨List.mem_of_getElem? hi, h2⟩
theorem zar_ok : zck (zarT.getD 0 0) (.arrayClass .int) = true ∧ zck (zarT.getD 1 0) (.arrayClass .boolean) = true ∧ zck (zarT.getD 2 0) (.arrayClass .long) = true := by decide +kernel
theorem zac_ok : zck (zacT.getD 0 0) (.native arraycopyName) = true ∧ zck (zacT.getD 1 0) (.static arraycopyName) = true ∧ zck (zacT.getD 2 0) (.initialized "java/lang/System") = true := by decide +kernel
theorem zoi_ok : zck (zpl 1).1 (.code Lib.objectInit ⟨#[0xb1]⟩ 1 none) = true ∧ zck (zpl 1).2.1 (.instanceMethod Lib.objectInit) = true := by decide +kernel
def zpfd (ci k : Nat) : FieldType := (parseFieldDescriptor (zT ci k).2.2.1).getD .int
def zfok (ci k : Nat) : Bool := decide (parseFieldDescriptor (zT ci k).2.2.1 = some (zpfd ci k)) && decide ((zT ci k).1 = zcn ci) && decide ((zT ci k).2.2.2 = zfin ci k) && (match zpfd ci k with
  | .int => decide (zft ci k = 0)
  | .boolean => decide (zft ci k = 1)
  | .object _ => decide (zft ci k = 2)
  | .array _ => decide (zft ci k = 2)
  | _ => false) && (List.range (zNf ci)).all (fun j => decide (j = k) || decide ((zT ci k).2.1 ≠ (zT ci j).2.1))
theorem zfok_ok : (List.range 9).all (fun ci => (List.range (zNf ci)).all (zfok ci)) = true := by decide +kernel
theorem zcls9_get {ci : Nat} (h : ci < 9) : zcls9[ci]? = some (zcn ci, zT ci, zNf ci) := by
  unfold zcls9
  rw [List.getElem?_map]
  match ci, h with
  | 0, _ | 1, _ | 2, _ | 3, _ | 4, _ | 5, _ | 6, _ | 7, _ | 8, _ => rfl
end
section
/-! SOUNDNESS 5: the heap's picture under stores and makings -/
theorem zws_get {E : ZE} {h : Hp} {a : Nat} (h1 : 32 ≤ a) (h2 : a < 32 + zN h) : (zws E h)[a - 32]? = some (zad E a, zcell E h a) := by
  unfold zws
  rw [List.getElem?_map, List.getElem?_range (by omega)]
  simp only [Option.map_some, zad]
  rw [if_neg (by omega), show 32 + (a - 32) = a by omega]
theorem zalloc {E : ZE} {H : Heap} {h : Hp} (hI : ZI E H h) {a : Nat} (hk : (zS h a).1 ≠ 0) : a < 32 + zN h := by
  apply Nat.lt_of_not_le
  intro hle
  exact hk (by rw [hI.2.2.2.2.2.2 a hle])
theorem zws_D (E : ZE) (h : Hp) : va_D (zA E) (zws E h) := by
  have key : ∀ (i : Nat) (q : Nat × va_E), (zws E h)[i]? = some q → q.1 = eB E + i := by
    intro i q hq
    unfold zws at hq
    rw [List.getElem?_map] at hq
    by_cases hi : i < zN h
    · rw [List.getElem?_range hi] at hq
      cases hq; rfl
    · rw [List.getElem?_eq_none (by simpa using hi)] at hq
      cases hq
  refine ⟨fun i j p q hp hq e => ?_, fun k q hq => ?_⟩
  · rw [key i p hp, key j q hq] at e
    omega
  · unfold zA
    rw [key k q hq]
    omega
theorem zcell_congr {E : ZE} {h h' : Hp} {a : Nat} (hS : zS h' a = zS h a) (hV : ∀ k, zV h' a k = zV h a k) (hJ : ∀ k, zJ h' a k = zJ h a k) (hP : ∀ k, zP h' a k = zP h a k) : zcell E h' a = zcell E h a := by
  have hJ' : zJ h' a = zJ h a := funext hJ
  have hf : ∀ ci n, zfs E h' ci a n = zfs E h ci a n := by
    intro ci n
    unfold zfs
    refine List.map_congr_left fun k _ => ?_
    unfold zfv
    rw [hV, hP]
  unfold zcell
  rw [hS]
  simp only [hV, hJ', hP, hf]
theorem zws_set {E : ZE} {h h' : Hp} {a : Nat} {x : va_E} (hN : zN h' = zN h) (ho : ∀ b, b ≠ a → zcell E h' b = zcell E h b) (ha : zcell E h' a = x) (h32 : 32 ≤ a) : (zws E h).set (a - 32) (zad E a, x) = zws E h' := by
  apply List.ext_getElem?
  intro i
  unfold zws
  rw [List.getElem?_set, hN]
  simp only [List.length_map, List.length_range, List.getElem?_map]
  by_cases hi : i < zN h
  · rw [List.getElem?_range hi]
    simp only [Option.map_some]
    by_cases e : a - 32 = i
    · rw [if_pos e, if_pos (by omega)]
      simp only [zad]
      rw [if_neg (by omega), e, show 32 + i = a by omega, ha]
    · rw [if_neg e, ho (32 + i) (by omega)]
  · rw [List.getElem?_eq_none (by simpa using hi)]
    simp only [Option.map_none]
    split
    · rw [if_neg (by omega)]
    · rfl
theorem zws_push {E : ZE} {h h' : Hp} {x : va_E} (hN : zN h' = zN h + 1) (ho : ∀ b, b < 32 + zN h → zcell E h' b = zcell E h b) (ha : zcell E h' (32 + zN h) = x) : zws E h' = zws E h ++ [(eB E + zN h, x)] := by
  unfold zws
  rw [hN, List.range_succ, List.map_append, List.map_cons, List.map_nil, ha]
  congr 1
  refine List.map_congr_left fun j hj => ?_
  rw [ho (32 + j) (by have := List.mem_range.mp hj; omega)]
def okH (h : Hp) : Prop := ∀ a k : Nat, zr (zV h a k)
theorem va_S.two {A : Nat → Prop} {H0 H H1 : Heap} {locs locs1 : List Loc} (h1 : va_S A H0 H locs) (h2 : va_S A H H1 locs1) : va_S A H0 H1 locs1 :=
  ⟨Nat.le_trans h1.1 h2.1, fun q a b => by rw [h2.2.1 q (Nat.lt_of_lt_of_le a h1.1) b]; exact h1.2.1 q a b, h2.2.2⟩
theorem va_S.here {A : Nat → Prop} {H0 H : Heap} {locs : List Loc} (h1 : va_S A H0 H locs) : va_S A H H locs := ⟨Nat.le_refl _, fun _ _ _ => rfl, h1.2.2⟩
section ZPM
variable {p : Program} {l0 : Launch} {e : Env} {R : Room} {s : State} {m : MethodId} {args : Array Value} {below : List Frame} {meth : Method} {c : Code} {Q : State → Prop} {E : ZE} {cc : ByteArray} {o pc nL d l cells slots : Nat} {L : LL} {st : List AV} {h : Hp} {pc' : Nat} {L' : LL} {st' : List AV} {h' : Hp} {H H1 : Heap} {locs locs1 : List Loc} {g : JFrame}
theorem zsz (k : H1.size ≤ s.heap.size + cells → W p l0 e R s m args below meth c H1 locs cells slots Q g) : W p l0 e R s m args below meth c H1 locs cells slots Q g := fun T hT X => k (by rw [← hT]; exact X.heapSize) T hT X
/-- what a step comes to -/
def ZOkH (E : ZE) (p : Program) (l : Launch) (e : Env) (R : Room) (s : State) (m : MethodId) (args : Array Value) (below : List Frame) (meth : Method) (c : Code) (nL : Nat) (Q : State → Prop) (cells slots pc : Nat) (L : LL) (st : List AV) (h : Hp) (pc' : Nat) (L' : LL) (st' : List AV) (h' : Hp) : Prop :=
  zN h ≤ zN h' ∧ zM h ≤ zM h' ∧ okH h' ∧ okL L' ∧ okst st' ∧ (cells + (zN h' - zN h) ≤ R.cells → slots + (zM h' - zM h) ≤ R.slots → ZPt E p l e R s m args below meth c nL Q (cells + (zN h' - zN h)) (slots + (zM h' - zM h)) pc' L' st' h' → ZPt E p l e R s m args below meth c nL Q cells slots pc L st h)
theorem ZOk.toH (hH : okH h) (k : ZOk E p l0 e R s m args below meth c nL Q cells slots pc L st h pc' L' st' h') : ZOkH E p l0 e R s m args below meth c nL Q cells slots pc L st h pc' L' st' h' := by
  obtain ⟨rfl, hL, hs, k⟩ := k
  refine ⟨Nat.le_refl _, Nat.le_refl _, hH, hL, hs, fun _ _ z => k ?_⟩
  simpa using z
/-- a store that makes nothing: from the new picture of the cells to the new picture of the heap -/
theorem ZI.store {a : Nat} {x : va_E} (hI : ZI E H h) (hV : ZV E s H locs cells) (hN : zN h' = zN h) (ho : ∀ b, b ≠ a → zcell E h' b = zcell E h b) (ha : zcell E h' a = x) (h32 : 32 ≤ a) (hok : okH h') (hS : ∀ b, zS h' b = zS h b) (hVb : ∀ b k, b < 32 → zV h' b k = zV h b k) (hPb : ∀ b k, b < 32 → zP h' b k = zP h b k)
    (hP1 : va_P (eC E, eI E) zcls9 ((zws E h).set (a - 32) (zad E a, x)) H1) (hS1 : va_S (zA E) H H1 locs1) (hz : H1.size ≤ s.heap.size + cells) : ZI E H1 h' ∧ ZV E s H1 locs1 cells := by
  rw [zws_set hN ho ha h32] at hP1
  have hz1 : H.size ≤ H1.size := hS1.1
  have hz2 := hV.2
  have hz3 := hI.2.1
  refine ⟨⟨hP1, by rw [hN]; omega, hok, fun b hb => by rw [hS]; exact hI.2.2.2.1 b hb, fun b k hb => by rw [hVb b k hb]; exact hI.2.2.2.2.1 b k hb, fun b k hb => by rw [hPb b k hb]; exact hI.2.2.2.2.2.1 b k hb, fun b hb => by rw [hS]; exact hI.2.2.2.2.2.2 b (by omega)⟩, hV.1.two hS1, by omega⟩
theorem zcell_1 {a : Nat} (h1 : (zS h a).1 = 1) : zcell E h a = .inl (eR E 1, ((zS h a).2, .inl (fun k => zi (zV h a k)))) := by unfold zcell; rw [if_pos h1]
theorem zcell_2 {a : Nat} (h1 : (zS h a).1 = 2) : zcell E h a = .inl (eR E 2, ((zS h a).2, .inl (fun k => zi (zV h a k)))) := by unfold zcell; rw [if_neg (by omega), if_pos h1]
theorem zcell_3 {a : Nat} (h1 : (zS h a).1 = 3) : zcell E h a = .inl (eR E 3, ((zS h a).2, .inr (.inl (zJ h a)))) := by unfold zcell; rw [if_neg (by omega), if_neg (by omega), if_pos h1]
theorem zcell_5 {a : Nat} (h1 : (zS h a).1 = 5) : zcell E h a = .inl (eR E 5, ((zS h a).2, .inr (.inr (.inr (.inr (fun k => (zP h a k).map (zad E))))))) := by unfold zcell; rw [if_neg (by omega), if_neg (by omega), if_neg (by omega), if_pos h1]
theorem zcell_6 {a : Nat} (h1 : (zS h a).1 = 6) : zcell E h a = .inl (eR E 6, ((zS h a).2, .inr (.inr (.inr (.inr (fun k => (zP h a k).map (zad E))))))) := by unfold zcell; rw [if_neg (by omega), if_neg (by omega), if_neg (by omega), if_neg (by omega), if_pos h1]
theorem zcell_o {a ci : Nat} (h1 : zS h a = (10 + ci, zNf ci)) : zcell E h a = .inr (ci, zfs E h ci a (zNf ci)) := by
  unfold zcell
  rw [h1]
  rw [if_neg (by omega), if_neg (by omega), if_neg (by omega), if_neg (by omega), if_neg (by omega), show 10 + ci - 10 = ci by omega]
theorem zV_set (a k : Nat) (x : Int) (b j : Nat) : zV (zsetV h a k x) b j = if b = a ∧ j = k then x else zV h b j := rfl
theorem zJ_set (a k : Nat) (x : Int64) (b j : Nat) : zJ (zsetJ h a k x) b j = if b = a ∧ j = k then x else zJ h b j := rfl
theorem zP_set (a k : Nat) (x : Option Nat) (b j : Nat) : zP (zsetP h a k x) b j = if b = a ∧ j = k then x else zP h b j := rfl
theorem okH.setV {a k : Nat} {x : Int} (hH : okH h) (hx : zr x) : okH (zsetV h a k x) := by
  intro b j
  rw [zV_set]
  split
  · exact hx
  · exact hH b j
theorem zcell_setV {a k b : Nat} {x : Int} (hb : b ≠ a) : zcell E (zsetV h a k x) b = zcell E h b := zcell_congr rfl (fun j => by rw [zV_set, if_neg (fun q => hb q.1)]) (fun _ => rfl) (fun _ => rfl)
theorem zcell_setJ {a k b : Nat} {x : Int64} (hb : b ≠ a) : zcell E (zsetJ h a k x) b = zcell E h b := zcell_congr rfl (fun _ => rfl) (fun j => by rw [zJ_set, if_neg (fun q => hb q.1)]) (fun _ => rfl)
theorem zcell_setP {a k b : Nat} {x : Option Nat} (hb : b ≠ a) : zcell E (zsetP h a k x) b = zcell E h b := zcell_congr rfl (fun _ => rfl) (fun _ => rfl) (fun j => by rw [zP_set, if_neg (fun q => hb q.1)])
end ZPM
end
section
/-! SOUNDNESS 6: constants, statics, fields -/
theorem zbS_kind (sl : Nat) : ∀ a, a < 32 → (zbS sl a).1 = 0 ∨ (zbS sl a).1 = 1 ∨ (zbS sl a).1 = 4 ∨ (zbS sl a).1 = 20 := by
  intro a ha
  by_cases h0 : a = 0
  · subst h0; exact Or.inr (Or.inl rfl)
  · have : ∀ a, a < 32 → a ≠ 0 → (zbsT.getD a (0, 0)).1 = 0 ∨ (zbsT.getD a (0, 0)).1 = 1 ∨ (zbsT.getD a (0, 0)).1 = 4 ∨ (zbsT.getD a (0, 0)).1 = 20 := by decide +kernel
    unfold zbS
    rw [if_neg h0]
    exact this a ha h0
theorem zstq_mem {j : Nat} (h : j < 5) : zstq j ∈ zstats := by
  match j, h with
  | 0, _ | 1, _ | 2, _ | 3, _ | 4, _ => simp [zstq, zstats]
theorem zstq_ok : ∀ q ∈ zstats, okv q.2.2.2 := by
  intro q hq
  simp only [zstats, List.mem_cons, List.not_mem_nil, or_false] at hq
  rcases hq with rfl | rfl | rfl | rfl | rfl
  · exact trivial
  · exact trivial
  · exact trivial
  · show zr 1
    unfold zr; omega
  · exact trivial
section ZPC
variable {p : Program} {l0 : Launch} {e : Env} {R : Room} {s : State} {m : MethodId} {args : Array Value} {below : List Frame} {meth : Method} {c : Code} {Q : State → Prop} {E : ZE} {cc : ByteArray} {o pc nL d l cells slots : Nat} {L : LL} {st : List AV} {h : Hp} {pc' : Nat} {L' : LL} {st' : List AV} {h' : Hp}
theorem zstv_ok {v : AV} (hv : okv v) : okv (zstv h v) := by
  unfold zstv
  split
  · exact trivial
  · exact hv
theorem zstv_E {v : AV} {H : Heap} (hI : ZI E H h) : cv E (zstv h v) = cv E (zstE E v) := by
  unfold zstv zstE
  split
  · rw [hI.2.2.2.2.2.1 30 0 (by omega)]; rfl
  · next hx =>
    split
    · exact (hx rfl).elim
    · rfl
theorem zs_getstatic {k : Nat} (X : ZX E p R s m args meth c cc o nL d) (hL : okL L) (hok : okst st) (hd : decode cc pc = .ok (.getstatic k, l)) (hz : zin d o pc l L st h (.getstatic k) = some (.inl (pc', L', st', h'))) : ZOk E p l0 e R s m args below meth c nL Q cells slots pc L st h pc' L' st' h' := by
  obtain ⟨hx, hb, hml, hown, hts, hT, hini, hfr, hlo⟩ := X
  simp only [zin, zco] at hz
  split at hz
  · next w hw =>
    cases hv : zstat o k with
    | none => rw [hv] at hw; cases hw
    | some v =>
      rw [hv] at hw
      cases hw
      unfold zstat at hv
      obtain ⟨⟨j, nst, pl⟩, h1, h2⟩ := zfind (f := fun a : Nat × Bool × Nat => (zstats.getD a.1 ("", "", "", vI 0)).2.2.2) hv
      have h3 := zall_of zcS_ok h1
      unfold zcS at h3
      simp only [Bool.and_eq_true, decide_eq_true_eq] at h3
      obtain ⟨hj, h3⟩ := h3
      have hq := zstq_mem hj
      have hv : (zstq j).2.2.2 = v := h2
      have hZ := hT.2.2.2.1 _ hq
      have hvo := zstq_ok _ hq
      rw [hv] at hZ hvo
      unfold zc1 zn at hz
      split at hz
      · next hl =>
        cases hz
        refine ⟨rfl, hL, okst_m (zstv_ok hvo) hok, fun z H locs ls hI hS hR => ?_⟩
        have k := z H locs ls hI hS hR
        rw [List.map_cons, zstv_E hI] at k
        split at h3
        · exact va_getsN hx hb hZ hS.1 hown (va_Nw.use rfl (hT.2.2.1 _ (zckN_mem h3))) (fun _ q => q) (hl ▸ hd) k
        · exact va_gets hx hb hZ hS.1 hown (hts _ (zck_mem h3)) (fun _ q => q) (hl ▸ hd) k
      · cases hz
  · cases hz
theorem zs_ldc {k : Nat} (X : ZX E p R s m args meth c cc o nL d) (hL : okL L) (hok : okst st) (hd : decode cc pc = .ok (.ldc k, l)) (hz : zin d o pc l L st h (.ldc k) = some (.inl (pc', L', st', h'))) : ZOk E p l0 e R s m args below meth c nL Q cells slots pc L st h pc' L' st' h' := by
  obtain ⟨hx, hb, hml, hown, hts, hT, hini, hfr, hlo⟩ := X
  simp only [zin, zco] at hz
  split at hz
  · next v hv =>
    unfold zldc at hv
    obtain ⟨⟨w, pl⟩, h1, h2⟩ := zfind (f := fun a : AV × Nat => a.1) hv
    subst h2
    have h3 := zall_of zcL_ok h1
    unfold zcL at h3
    rcases w with x | x | x
    · simp only [Bool.and_eq_true, decide_eq_true_eq] at h3
      refine zg_c1 hz h3.1 hL hok fun hl H locs ls rest hS k => ?_
      exact lv_ldc hx hb hown (hts _ (zck_mem h3.2)) (hl ▸ hd) k
    · cases h3
    · cases x with
      | none => cases h3
      | some b =>
        simp only [Bool.and_eq_true, decide_eq_true_eq, List.any_eq_true, beq_iff_eq] at h3
        obtain ⟨hb32, q, hq, ⟨q1, q2⟩, q3⟩ := h3
        refine zg_c1 hz trivial hL hok fun hl H locs ls rest hS k => ?_
        have hZ := hT.2.2.2.2.2.2.2.1 q hq
        rw [q1, q2, q3] at hZ
        have e1 : cv E (vR (some b)) = .ref (eA E b) := by simp [cv, zad, hb32]
        exact va_ldcS hx hb hown hZ (hl ▸ hd) (by rw [← e1]; exact k)
  · cases hz
theorem zs_ldc_w {k : Nat} (X : ZX E p R s m args meth c cc o nL d) (hL : okL L) (hok : okst st) (hd : decode cc pc = .ok (.ldc_w k, l)) (hz : zin d o pc l L st h (.ldc_w k) = some (.inl (pc', L', st', h'))) : ZOk E p l0 e R s m args below meth c nL Q cells slots pc L st h pc' L' st' h' := by
  obtain ⟨hx, hb, hml, hown, hts, hT, hini, hfr, hlo⟩ := X
  simp only [zin] at hz
  split at hz
  · next x hv =>
    unfold zldc at hv
    obtain ⟨⟨w, pl⟩, h1, h2⟩ := zfind (f := fun a : AV × Nat => a.1) hv
    have h2 : w = Sum.inl x := h2
    subst h2
    have h3 := zall_of zcL_ok h1
    unfold zcL at h3
    simp only [Bool.and_eq_true, decide_eq_true_eq] at h3
    refine zg_c1 hz h3.1 hL hok fun hl H locs ls rest hS k => ?_
    exact lv_ldcw hx hb hown (hts _ (zck_mem h3.2)) (hl ▸ hd) k
  · cases hz
theorem zs_ldc2_w {k : Nat} (X : ZX E p R s m args meth c cc o nL d) (hL : okL L) (hok : okst st) (hd : decode cc pc = .ok (.ldc2_w k, l)) (hz : zin d o pc l L st h (.ldc2_w k) = some (.inl (pc', L', st', h'))) : ZOk E p l0 e R s m args below meth c nL Q cells slots pc L st h pc' L' st' h' := by
  obtain ⟨hx, hb, hml, hown, hts, hT, hini, hfr, hlo⟩ := X
  simp only [zin, zco] at hz
  split at hz
  · next v hv =>
    cases hw : zldc2 o k with
    | none => rw [hw] at hv; cases hv
    | some x =>
      rw [hw] at hv
      cases hv
      unfold zldc2 at hw
      obtain ⟨⟨w, pl⟩, h1, h2⟩ := zfind (f := fun a : Int64 × Nat => a.1) hw
      have h2 : w = x := h2
      subst h2
      have h3 := zall_of zcL2_ok h1
      unfold zcL2 at h3
      refine zg_c1 hz trivial hL hok fun hl H locs ls rest hS k => ?_
      exact lv_ldc2 hx hb hown (hts _ (zck_mem h3)) (hl ▸ hd) k
  · cases hz
theorem zfs_get {ci a k n : Nat} (hk : k < n) : (zfs E h ci a n)[k]? = some (cv E (zfv h ci a k)) := by
  unfold zfs
  rw [List.getElem?_map, List.getElem?_range hk]
  rfl
theorem okv_zfv {ci a k : Nat} (hH : okH h) : okv (zfv h ci a k) := by
  unfold zfv
  split
  · exact trivial
  · exact hH a k
theorem zs_getfield {k : Nat} (X : ZX E p R s m args meth c cc o nL d) (hH : okH h) (hL : okL L) (hok : okst st) (hd : decode cc pc = .ok (.getfield k, l)) (hz : zin d o pc l L st h (.getfield k) = some (.inl (pc', L', st', h'))) : ZOk E p l0 e R s m args below meth c nL Q cells slots pc L st h pc' L' st' h' := by
  obtain ⟨hx, hb, hml, hown, hts, hT, hini, hfr, hlo⟩ := X
  simp only [zin, zgetf] at hz
  split at hz
  · next ci kk a r hv =>
    split at hz
    · next hc =>
      obtain ⟨hl, hS0, h9⟩ := hc
      unfold zfld at hv
      obtain ⟨⟨ci', kk', pl⟩, h1, h2⟩ := zfind (f := fun a : Nat × Nat × Nat => (a.1, a.2.1)) hv
      have e1 : ci = ci' := (congrArg Prod.fst h2).symm
      have e2 : kk = kk' := (congrArg Prod.snd h2).symm
      subst e1; subst e2
      have h3 := zall_of zcF_ok h1
      unfold zcF at h3
      simp only [Bool.or_eq_true, Bool.and_eq_true, decide_eq_true_eq] at h3
      unfold zn at hz; cases hz
      refine ⟨rfl, hL, okst_m (okv_zfv hH) (okst_c hok).2, fun z H locs ls hI hS hR => ?_⟩
      rcases h3 with ⟨hci, hk, hw⟩ | ⟨hci, hw⟩
      · have hS1 : zS h a = (10 + ci, zNf ci) := by rw [hS0]; unfold zkd; rw [if_neg (by omega)]
        have h32 : 32 ≤ a := by
          apply Nat.le_of_not_lt
          intro hlt
          have q := zbS_kind (eL E) a hlt
          rw [← hI.2.2.2.1 a hlt, hS1] at q
          simp only at q
          omega
        have hN := zalloc hI (a := a) (by rw [hS1]; simp only; omega)
        have he := zws_get (E := E) h32 hN
        rw [zcell_o hS1] at he
        exact va_get hx hb hts (zlay_in hci) hown hT.1 hI.1 (a - 32) he (zcls9_get hci) kk hk (hts _ (zck_mem hw)) (fun _ q => q) (zfs_get hk) (hl ▸ hd) (z H locs ls hI hS hR)
      · subst hci
        have ha := h9 rfl
        have hS1 : zS h a = (20, 2) := hS0
        rw [hI.2.2.2.1 a ha] at hS1
        obtain ⟨hO, hF0, hF1⟩ := hT.2.2.2.2.2.2.1 a ha hS1
        have ea : cv E (vR (some a)) = .ref (eA E a) := by simp [cv, zad, ha]
        have k1 := z H locs ls hI hS hR
        show W p l0 e R s m args below meth c H locs cells slots Q (F0 m pc ls (cv E (vR (some a)) :: r.map (cv E)))
        rw [ea]
        rcases hw with ⟨hk, hw⟩ | ⟨hk, hw⟩
        · subst hk
          refine vk_getf hx hb hF0 hS.1 hown (hts _ (zck_mem hw)) (fun _ q => q) (hl ▸ hd) ?_
          rw [← hI.2.2.2.2.2.1 a 0 ha]
          exact k1
        · subst hk
          refine vk_getf hx hb hF1 hS.1 hown (hts _ (zck_mem hw)) (fun _ q => q) (hl ▸ hd) ?_
          rw [← hI.2.2.2.2.1 a 1 ha]
          exact k1
    · cases hz
  · cases hz
end ZPC
end
section
/-! SOUNDNESS 7: arrays -/
section ZPA
variable {p : Program} {l0 : Launch} {e : Env} {R : Room} {s : State} {m : MethodId} {args : Array Value} {below : List Frame} {meth : Method} {c : Code} {Q : State → Prop} {E : ZE} {cc : ByteArray} {o pc nL d l cells slots : Nat} {L : LL} {st : List AV} {h : Hp} {pc' : Nat} {L' : LL} {st' : List AV} {h' : Hp} {H : Heap}
theorem zown (hI : ZI E H h) {a : Nat} (h1 : (zS h a).1 ≠ 0) (h2 : (zS h a).1 ≠ 1) (h3 : (zS h a).1 ≠ 4) (h4 : (zS h a).1 ≠ 20) : 32 ≤ a := by
  apply Nat.le_of_not_lt
  intro hlt
  have q := zbS_kind (eL E) a hlt
  rw [← hI.2.2.2.1 a hlt] at q
  omega
theorem zs_iaload (X : ZX E p R s m args meth c cc o nL d) (hH : okH h) (hL : okL L) (hok : okst st) (hd : decode cc pc = .ok (.iaload, l)) (hz : zin d o pc l L st h .iaload = some (.inl (pc', L', st', h'))) : ZOk E p l0 e R s m args below meth c nL Q cells slots pc L st h pc' L' st' h' := by
  obtain ⟨hx, hb, hml, hown, hts, hT, hini, hfr, hlo⟩ := X
  simp only [zin, zald] at hz
  split at hz
  · next i a r =>
    split at hz
    · next hc =>
      obtain ⟨hl, hk, h0, h1⟩ := hc
      unfold zn at hz; cases hz
      obtain ⟨hi, hr⟩ := okst_c hok
      refine ⟨rfl, hL, okst_m (hH a _) (okst_c hr).2, fun z H locs ls hI hS hR => ?_⟩
      have k1 := z H locs ls hI hS hR
      show W p l0 e R s m args below meth c H locs cells slots Q (F0 m pc ls (.int (zi i) :: cv E (vR (some a)) :: r.map (cv E)))
      by_cases ha : a < 32
      · have ea : cv E (vR (some a)) = .ref (eA E a) := by simp [cv, zad, ha]
        have hb1 : zbS (eL E) a = (1, (zS h a).2) := by rw [← hI.2.2.2.1 a ha]; exact Prod.ext hk rfl
        obtain ⟨-, hZ⟩ := hT.2.2.2.2.1 a _ ha hb1
        rw [ea]
        refine va_ti hx hb hZ hS.1 (zi_in hi h0 h1) (v := .int (zi (zV h a i.toNat))) ?_ (hl ▸ hd) k1
        simp only [zi_clamp hi]
        rw [hI.2.2.2.2.1 a _ ha]
      · have h32 : 32 ≤ a := by omega
        have he := zws_get (E := E) h32 (zalloc hI (a := a) (by omega))
        rw [zcell_1 hk] at he
        exact va_iald hx hb hT.1 hI.1 (a - 32) 0 he rfl (zi_in hi h0 h1) (hl ▸ hd) (by rw [zi_clamp hi]; exact k1)
    · cases hz
  · cases hz
theorem zs_baload (X : ZX E p R s m args meth c cc o nL d) (hH : okH h) (hL : okL L) (hok : okst st) (hd : decode cc pc = .ok (.baload, l)) (hz : zin d o pc l L st h .baload = some (.inl (pc', L', st', h'))) : ZOk E p l0 e R s m args below meth c nL Q cells slots pc L st h pc' L' st' h' := by
  obtain ⟨hx, hb, hml, hown, hts, hT, hini, hfr, hlo⟩ := X
  simp only [zin] at hz
  split at hz
  · next i a r =>
    obtain ⟨hi, hr⟩ := okst_c hok
    split at hz
    · next h4 =>
      split at hz
      · next ha =>
        simp only [zald] at hz
        split at hz
        · next hc =>
          obtain ⟨hl, -, h0, h1⟩ := hc
          unfold zn at hz; cases hz
          refine ⟨rfl, hL, okst_m (hH a _) (okst_c hr).2, fun z H locs ls hI hS hR => ?_⟩
          have k1 := z H locs ls hI hS hR
          show W p l0 e R s m args below meth c H locs cells slots Q (F0 m pc ls (.int (zi i) :: cv E (vR (some a)) :: r.map (cv E)))
          have ea : cv E (vR (some a)) = .ref (eA E a) := by simp [cv, zad, ha]
          have hb1 : zbS (eL E) a = (4, (zS h a).2) := by rw [← hI.2.2.2.1 a ha]; exact Prod.ext h4 rfl
          obtain ⟨-, hZ⟩ := hT.2.2.2.2.2.1 a _ ha hb1
          rw [ea]
          refine va_tb hx hb hZ hS.1 (zi_in hi h0 h1) (v := .int (zi (zV h a i.toNat))) ?_ (hl ▸ hd) k1
          simp only [zi_clamp hi]
          rw [hI.2.2.2.2.1 a _ ha]
        · cases hz
      · cases hz
    · next h4 =>
      simp only [zald] at hz
      split at hz
      · next hc =>
        obtain ⟨hl, hk, h0, h1⟩ := hc
        unfold zn at hz; cases hz
        refine ⟨rfl, hL, okst_m (hH a _) (okst_c hr).2, fun z H locs ls hI hS hR => ?_⟩
        have k1 := z H locs ls hI hS hR
        have h32 : 32 ≤ a := zown hI (by omega) (by omega) (by omega) (by omega)
        have he := zws_get (E := E) h32 (zalloc hI (a := a) (by omega))
        rw [zcell_2 hk] at he
        exact va_zald hx hb hT.1 hI.1 (a - 32) 1 he rfl (zi_in hi h0 h1) (hl ▸ hd) (by rw [zi_clamp hi]; exact k1)
      · cases hz
  · cases hz
theorem zs_laload (X : ZX E p R s m args meth c cc o nL d) (hH : okH h) (hL : okL L) (hok : okst st) (hd : decode cc pc = .ok (.laload, l)) (hz : zin d o pc l L st h .laload = some (.inl (pc', L', st', h'))) : ZOk E p l0 e R s m args below meth c nL Q cells slots pc L st h pc' L' st' h' := by
  obtain ⟨hx, hb, hml, hown, hts, hT, hini, hfr, hlo⟩ := X
  simp only [zin, zald] at hz
  split at hz
  · next i a r =>
    split at hz
    · next hc =>
      obtain ⟨hl, hk, h0, h1⟩ := hc
      unfold zn at hz; cases hz
      obtain ⟨hi, hr⟩ := okst_c hok
      refine ⟨rfl, hL, okst_m trivial (okst_c hr).2, fun z H locs ls hI hS hR => ?_⟩
      have k1 := z H locs ls hI hS hR
      have h32 : 32 ≤ a := zown hI (by omega) (by omega) (by omega) (by omega)
      have he := zws_get (E := E) h32 (zalloc hI (a := a) (by omega))
      rw [zcell_3 hk] at he
      exact va_lald hx hb hT.1 hI.1 (a - 32) 2 he rfl (zi_in hi h0 h1) (hl ▸ hd) (by rw [zi_clamp hi]; exact k1)
    · cases hz
  · cases hz
theorem zs_aaload (X : ZX E p R s m args meth c cc o nL d) (hH : okH h) (hL : okL L) (hok : okst st) (hd : decode cc pc = .ok (.aaload, l)) (hz : zin d o pc l L st h .aaload = some (.inl (pc', L', st', h'))) : ZOk E p l0 e R s m args below meth c nL Q cells slots pc L st h pc' L' st' h' := by
  obtain ⟨hx, hb, hml, hown, hts, hT, hini, hfr, hlo⟩ := X
  simp only [zin] at hz
  split at hz
  · next i a r =>
    obtain ⟨hi, hr⟩ := okst_c hok
    split at hz
    · next h6 =>
      simp only [zald] at hz
      split at hz
      · next hc =>
        obtain ⟨hl, hk, h0, h1⟩ := hc
        unfold zn at hz; cases hz
        refine ⟨rfl, hL, okst_m trivial (okst_c hr).2, fun z H locs ls hI hS hR => ?_⟩
        have k1 := z H locs ls hI hS hR
        have e1 : cv E (vR (zP h a i.toNat)) = va_rf ((zP h a i.toNat).map (zad E)) := by
          cases zP h a i.toNat <;> rfl
        have k2 : W p l0 e R s m args below meth c H locs cells slots Q (F0 m (pc + 1) ls (cv E (vR (zP h a i.toNat)) :: r.map (cv E))) := k1
        rw [e1] at k2
        have h32 : 32 ≤ a := zown hI (by omega) (by omega) (by omega) (by omega)
        have he := zws_get (E := E) h32 (zalloc hI (a := a) (by omega))
        rw [zcell_6 hk] at he
        exact va_aldq hx hb hT.1 hI.1 (a - 32) 4 he rfl (zi_in hi h0 h1) (hl ▸ hd) (by rw [zi_clamp hi]; exact k2)
      · cases hz
    · next h6 =>
      simp only [zald] at hz
      split at hz
      · next hc =>
        obtain ⟨hl, hk, h0, h1⟩ := hc
        unfold zn at hz; cases hz
        refine ⟨rfl, hL, okst_m trivial (okst_c hr).2, fun z H locs ls hI hS hR => ?_⟩
        have k1 := z H locs ls hI hS hR
        have e1 : cv E (vR (zP h a i.toNat)) = va_rf ((zP h a i.toNat).map (zad E)) := by
          cases zP h a i.toNat <;> rfl
        have k2 : W p l0 e R s m args below meth c H locs cells slots Q (F0 m (pc + 1) ls (cv E (vR (zP h a i.toNat)) :: r.map (cv E))) := k1
        rw [e1] at k2
        have h32 : 32 ≤ a := zown hI (by omega) (by omega) (by omega) (by omega)
        have he := zws_get (E := E) h32 (zalloc hI (a := a) (by omega))
        rw [zcell_5 hk] at he
        exact va_aldq hx hb hT.1 hI.1 (a - 32) 3 he rfl (zi_in hi h0 h1) (hl ▸ hd) (by rw [zi_clamp hi]; exact k2)
      · cases hz
  · cases hz
theorem zs_arraylength (X : ZX E p R s m args meth c cc o nL d) (hL : okL L) (hok : okst st) (hd : decode cc pc = .ok (.arraylength, l)) (hz : zin d o pc l L st h .arraylength = some (.inl (pc', L', st', h'))) : ZOk E p l0 e R s m args below meth c nL Q cells slots pc L st h pc' L' st' h' := by
  obtain ⟨hx, hb, hml, hown, hts, hT, hini, hfr, hlo⟩ := X
  simp only [zin, zalen] at hz
  split at hz
  · next a r =>
    split at hz
    · next hc =>
      obtain ⟨hl, hk1, hk6, hlt, hk4⟩ := hc
      unfold zn at hz; cases hz
      refine ⟨rfl, hL, okst_m (show zr _ by unfold zr; omega) (okst_c hok).2, fun z H locs ls hI hS hR => ?_⟩
      have k1 := z H locs ls hI hS hR
      show W p l0 e R s m args below meth c H locs cells slots Q (F0 m pc ls (cv E (vR (some a)) :: r.map (cv E)))
      have hv : Int32.ofNat (zS h a).2 = zi ((zS h a).2 : Int) := (zi_nat _).symm
      by_cases ha : a < 32
      · have ea : cv E (vR (some a)) = .ref (eA E a) := by simp [cv, zad, ha]
        rw [ea]
        have q := zbS_kind (eL E) a ha
        rw [← hI.2.2.2.1 a ha] at q
        rcases q with q | q | q | q
        · omega
        · have hb1 : zbS (eL E) a = (1, (zS h a).2) := by rw [← hI.2.2.2.1 a ha]; exact Prod.ext q rfl
          obtain ⟨-, hZ⟩ := hT.2.2.2.2.1 a _ ha hb1
          exact va_tlen hx hb hZ hS.1 hv (hl ▸ hd) k1
        · have hb1 : zbS (eL E) a = (4, (zS h a).2) := by rw [← hI.2.2.2.1 a ha]; exact Prod.ext q rfl
          obtain ⟨-, hZ⟩ := hT.2.2.2.2.2.1 a _ ha hb1
          exact va_tlen hx hb hZ hS.1 hv (hl ▸ hd) k1
        · omega
      · have h32 : 32 ≤ a := by omega
        have he := zws_get (E := E) h32 (zalloc hI (a := a) (by omega))
        by_cases q1 : (zS h a).1 = 1
        · rw [zcell_1 q1] at he
          exact va_alen hx hb hT.1 hI.1 (a - 32) 0 he rfl hv (hl ▸ hd) k1
        by_cases q2 : (zS h a).1 = 2
        · rw [zcell_2 q2] at he
          exact va_alen hx hb hT.1 hI.1 (a - 32) 1 he rfl hv (hl ▸ hd) k1
        by_cases q3 : (zS h a).1 = 3
        · rw [zcell_3 q3] at he
          exact va_alen hx hb hT.1 hI.1 (a - 32) 2 he rfl hv (hl ▸ hd) k1
        by_cases q5 : (zS h a).1 = 5
        · rw [zcell_5 q5] at he
          exact va_alen hx hb hT.1 hI.1 (a - 32) 3 he rfl hv (hl ▸ hd) k1
        by_cases q6 : (zS h a).1 = 6
        · rw [zcell_6 q6] at he
          exact va_alen hx hb hT.1 hI.1 (a - 32) 4 he rfl hv (hl ▸ hd) k1
        exact absurd (hk4 (by omega)) ha
    · cases hz
  · cases hz
end ZPA
end
section
/-! SOUNDNESS 8: stores -/
theorem zf_spec {ci k : Nat} (hci : ci < 9) (hk : k < zNf ci) : parseFieldDescriptor (zT ci k).2.2.1 = some (zpfd ci k) ∧ (zT ci k).1 = zcn ci ∧ (zT ci k).2.2.2 = zfin ci k ∧ ((zpfd ci k = .int ∧ zft ci k = 0) ∨ (zpfd ci k = .boolean ∧ zft ci k = 1) ∨ (((∃ n, zpfd ci k = .object n) ∨ ∃ t, zpfd ci k = .array t) ∧ zft ci k = 2)) ∧ ∀ j, j < zNf ci → j = k ∨ (zT ci k).2.1 ≠ (zT ci j).2.1 := by
  have h1 := List.all_eq_true.mp (List.all_eq_true.mp zfok_ok ci (List.mem_range.mpr hci)) k (List.mem_range.mpr hk)
  unfold zfok at h1
  simp only [Bool.and_eq_true, decide_eq_true_eq] at h1
  obtain ⟨⟨⟨⟨a1, a2⟩, a3⟩, a4⟩, a5⟩ := h1
  refine ⟨a1, a2, a3, ?_, fun j hj => ?_⟩
  · split at a4
    · next q => exact Or.inl ⟨q, of_decide_eq_true a4⟩
    · next q => exact Or.inr (Or.inl ⟨q, of_decide_eq_true a4⟩)
    · next n q => exact Or.inr (Or.inr ⟨Or.inl ⟨_, q⟩, of_decide_eq_true a4⟩)
    · next n q => exact Or.inr (Or.inr ⟨Or.inr ⟨_, q⟩, of_decide_eq_true a4⟩)
    · cases a4
  · have := List.all_eq_true.mp a5 j (List.mem_range.mpr hj)
    simpa using this
section ZPS
variable {p : Program} {l0 : Launch} {e : Env} {R : Room} {s : State} {m : MethodId} {args : Array Value} {below : List Frame} {meth : Method} {c : Code} {Q : State → Prop} {E : ZE} {cc : ByteArray} {o pc nL d l cells slots : Nat} {L : LL} {st : List AV} {h : Hp} {pc' : Nat} {L' : LL} {st' : List AV} {h' : Hp} {H : Heap}
theorem zsame (z : ZPt E p l0 e R s m args below meth c nL Q (cells + (zN h' - zN h)) (slots + (zM h' - zM h)) pc' L' st' h') (hN : zN h' = zN h) (hM : zM h' = zM h) : ZPt E p l0 e R s m args below meth c nL Q cells slots pc' L' st' h' := by
  rw [hN, hM, Nat.sub_self, Nat.sub_self, Nat.add_zero, Nat.add_zero] at z
  exact z
theorem zs_iastore (X : ZX E p R s m args meth c cc o nL d) (hH : okH h) (hL : okL L) (hok : okst st) (hd : decode cc pc = .ok (.iastore, l)) (hz : zin d o pc l L st h .iastore = some (.inl (pc', L', st', h'))) : ZOkH E p l0 e R s m args below meth c nL Q cells slots pc L st h pc' L' st' h' := by
  obtain ⟨hx, hb, hml, hown, hts, hT, hini, hfr, hlo⟩ := X
  simp only [zin, ziast] at hz
  split at hz
  · next x i a r =>
    split at hz
    · next hc =>
      obtain ⟨hl, hk, h32, h0, h1⟩ := hc
      unfold zn at hz; cases hz
      obtain ⟨hxx, hr⟩ := okst_c hok
      obtain ⟨hi, hr⟩ := okst_c hr
      have hH' : okH (zsetV h a i.toNat x) := hH.setV hxx
      refine ⟨Nat.le_refl _, Nat.le_refl _, hH', hL, (okst_c hr).2, fun _ _ z H locs ls hI hS hR => ?_⟩
      have z := zsame z rfl rfl
      have he := zws_get (E := E) h32 (zalloc hI (a := a) (by omega))
      rw [zcell_1 hk] at he
      refine va_iast hx hb hT.1 hI.1 (zws_D E h) hS.1.here (a - 32) 0 he rfl (zi_in hi h0 h1) (hl ▸ hd) fun H1 locs1 hP1 _ hS1 => zsz fun hz1 => ?_
      obtain ⟨hI1, hV1⟩ := ZI.store (h' := zsetV h a i.toNat x) hI hS rfl (fun b hb => zcell_setV hb) (by
        rw [zcell_1 (h := zsetV h a i.toNat x) hk]
        refine congrArg Sum.inl (congrArg (Prod.mk _) (congrArg (Prod.mk _) (congrArg Sum.inl ?_)))
        funext k
        simp only [zV_set, upd, zi_clamp hi]
        by_cases q : k = i.toNat
        · simp [q]
        · simp [q]) h32 hH' (fun _ => rfl) (fun b k hb => by rw [zV_set, if_neg (by omega)]) (fun _ _ _ => rfl) hP1 hS1 hz1
      exact z H1 locs1 ls hI1 hV1 hR
    · cases hz
  · cases hz
theorem zs_bastore (X : ZX E p R s m args meth c cc o nL d) (hH : okH h) (hL : okL L) (hok : okst st) (hd : decode cc pc = .ok (.bastore, l)) (hz : zin d o pc l L st h .bastore = some (.inl (pc', L', st', h'))) : ZOkH E p l0 e R s m args below meth c nL Q cells slots pc L st h pc' L' st' h' := by
  obtain ⟨hx, hb, hml, hown, hts, hT, hini, hfr, hlo⟩ := X
  simp only [zin, zbast] at hz
  split at hz
  · next x i a r =>
    split at hz
    · next hc =>
      obtain ⟨hl, hk, h32, h0, h1, hx01⟩ := hc
      unfold zn at hz; cases hz
      obtain ⟨hxx, hr⟩ := okst_c hok
      obtain ⟨hi, hr⟩ := okst_c hr
      have hH' : okH (zsetV h a i.toNat x) := hH.setV hxx
      refine ⟨Nat.le_refl _, Nat.le_refl _, hH', hL, (okst_c hr).2, fun _ _ z H locs ls hI hS hR => ?_⟩
      have z := zsame z rfl rfl
      have he := zws_get (E := E) h32 (zalloc hI (a := a) (by omega))
      rw [zcell_2 hk] at he
      refine va_zast hx hb hT.1 hI.1 (zws_D E h) hS.1.here (a - 32) 1 he rfl (zi_in hi h0 h1) (hl ▸ hd) fun H1 locs1 hP1 _ hS1 => zsz fun hz1 => ?_
      have en : vp_nar .boolean (zi x) = zi x := by
        rcases hx01 with rfl | rfl
        · decide +kernel
        · decide +kernel
      obtain ⟨hI1, hV1⟩ := ZI.store (h' := zsetV h a i.toNat x) hI hS rfl (fun b hb => zcell_setV hb) (by
        rw [zcell_2 (h := zsetV h a i.toNat x) hk, en]
        refine congrArg Sum.inl (congrArg (Prod.mk _) (congrArg (Prod.mk _) (congrArg Sum.inl ?_)))
        funext k
        simp only [zV_set, upd, zi_clamp hi]
        by_cases q : k = i.toNat
        · simp [q]
        · simp [q]) h32 hH' (fun _ => rfl) (fun b k hb => by rw [zV_set, if_neg (by omega)]) (fun _ _ _ => rfl) hP1 hS1 hz1
      exact z H1 locs1 ls hI1 hV1 hR
    · cases hz
  · cases hz
theorem zs_lastore (X : ZX E p R s m args meth c cc o nL d) (hH : okH h) (hL : okL L) (hok : okst st) (hd : decode cc pc = .ok (.lastore, l)) (hz : zin d o pc l L st h .lastore = some (.inl (pc', L', st', h'))) : ZOkH E p l0 e R s m args below meth c nL Q cells slots pc L st h pc' L' st' h' := by
  obtain ⟨hx, hb, hml, hown, hts, hT, hini, hfr, hlo⟩ := X
  simp only [zin, zlast] at hz
  split at hz
  · next x i a r =>
    split at hz
    · next hc =>
      obtain ⟨hl, hk, h32, h0, h1⟩ := hc
      unfold zn at hz; cases hz
      obtain ⟨hxx, hr⟩ := okst_c hok
      obtain ⟨hi, hr⟩ := okst_c hr
      have hH' : okH (zsetJ h a i.toNat x) := hH
      refine ⟨Nat.le_refl _, Nat.le_refl _, hH', hL, (okst_c hr).2, fun _ _ z H locs ls hI hS hR => ?_⟩
      have z := zsame z rfl rfl
      have he := zws_get (E := E) h32 (zalloc hI (a := a) (by omega))
      rw [zcell_3 hk] at he
      refine va_last hx hb hT.1 hI.1 (zws_D E h) hS.1.here (a - 32) 2 he rfl (zi_in hi h0 h1) (hl ▸ hd) fun H1 locs1 hP1 _ hS1 => zsz fun hz1 => ?_
      obtain ⟨hI1, hV1⟩ := ZI.store (h' := zsetJ h a i.toNat x) hI hS rfl (fun b hb => zcell_setJ hb) (by
        rw [zcell_3 (h := zsetJ h a i.toNat x) hk]
        refine congrArg Sum.inl (congrArg (Prod.mk _) (congrArg (Prod.mk _) (congrArg Sum.inr (congrArg Sum.inl ?_))))
        funext k
        simp only [zJ_set, vp_updL, zi_clamp hi]
        by_cases q : k = i.toNat
        · simp [q]
        · simp [q]) h32 hH' (fun _ => rfl) (fun _ _ _ => rfl) (fun _ _ _ => rfl) hP1 hS1 hz1
      exact z H1 locs1 ls hI1 hV1 hR
    · cases hz
  · cases hz
theorem zs_aastore (X : ZX E p R s m args meth c cc o nL d) (hH : okH h) (hL : okL L) (hok : okst st) (hd : decode cc pc = .ok (.aastore, l)) (hz : zin d o pc l L st h .aastore = some (.inl (pc', L', st', h'))) : ZOkH E p l0 e R s m args below meth c nL Q cells slots pc L st h pc' L' st' h' := by
  obtain ⟨hx, hb, hml, hown, hts, hT, hini, hfr, hlo⟩ := X
  simp only [zin, zaast] at hz
  split at hz
  · next v i a r =>
    split at hz
    · next hc =>
      obtain ⟨hl, h32, h0, h1, hk⟩ := hc
      unfold zn at hz; cases hz
      obtain ⟨hxx, hr⟩ := okst_c hok
      obtain ⟨hi, hr⟩ := okst_c hr
      have hH' : okH (zsetP h a i.toNat (some v)) := hH
      refine ⟨Nat.le_refl _, Nat.le_refl _, hH', hL, (okst_c hr).2, fun _ _ z H locs ls hI hS hR => ?_⟩
      have z := zsame z rfl rfl
      have he := zws_get (E := E) h32 (zalloc hI (a := a) (by omega))
      have hfn : (fun k => (zP (zsetP h a i.toNat (some v)) a k).map (zad E)) = va_up (fun k => (zP h a k).map (zad E)) (zi i).toNatClampNeg (some (zad E v)) := by
        funext k
        simp only [zP_set, va_up, zi_clamp hi]
        by_cases q : k = i.toNat
        · simp [q]
        · simp [q]
      rcases hk with ⟨hk, hv⟩ | ⟨hk, hv⟩
      · rw [zcell_5 hk] at he
        have hv32 : 32 ≤ v := zown hI (by rw [hv]; decide) (by rw [hv]; decide) (by rw [hv]; decide) (by rw [hv]; decide)
        have hev := zws_get (E := E) hv32 (zalloc hI (a := v) (by rw [hv]; decide))
        rw [zcell_o (ci := 4) hv] at hev
        refine va_astq hx hb hT.1 hI.1 (zws_D E h) hS.1.here (a - 32) 3 (v - 32) 4 (r := (zcn 4, zT 4, zNf 4)) he rfl hev (zcls9_get (by omega)) (zi_in hi h0 h1) (hl ▸ hd) fun H1 locs1 hP1 _ hS1 => zsz fun hz1 => ?_
        obtain ⟨hI1, hV1⟩ := ZI.store (h' := zsetP h a i.toNat (some v)) hI hS rfl (fun b hb => zcell_setP hb) (by
          rw [zcell_5 (h := zsetP h a i.toNat (some v)) hk, hfn]
          rfl) h32 hH' (fun _ => rfl) (fun _ _ _ => rfl) (fun b k hb => by rw [zP_set, if_neg (by omega)]) hP1 hS1 hz1
        exact z H1 locs1 ls hI1 hV1 hR
      · rw [zcell_6 hk] at he
        have hv32 : 32 ≤ v := zown hI (by rw [hv]; decide) (by rw [hv]; decide) (by rw [hv]; decide) (by rw [hv]; decide)
        have hev := zws_get (E := E) hv32 (zalloc hI (a := v) (by rw [hv]; decide))
        rw [zcell_o (ci := 5) hv] at hev
        refine va_astq hx hb hT.1 hI.1 (zws_D E h) hS.1.here (a - 32) 4 (v - 32) 5 (r := (zcn 5, zT 5, zNf 5)) he rfl hev (zcls9_get (by omega)) (zi_in hi h0 h1) (hl ▸ hd) fun H1 locs1 hP1 _ hS1 => zsz fun hz1 => ?_
        obtain ⟨hI1, hV1⟩ := ZI.store (h' := zsetP h a i.toNat (some v)) hI hS rfl (fun b hb => zcell_setP hb) (by
          rw [zcell_6 (h := zsetP h a i.toNat (some v)) hk, hfn]
          rfl) h32 hH' (fun _ => rfl) (fun _ _ _ => rfl) (fun b k hb => by rw [zP_set, if_neg (by omega)]) hP1 hS1 hz1
        exact z H1 locs1 ls hI1 hV1 hR
    · cases hz
  · cases hz
theorem zfs_set {ci a k n : Nat} {w : AV} (hk : zfv h' ci a k = w) (ho : ∀ j, j ≠ k → zfv h' ci a j = zfv h ci a j) : (zfs E h ci a n).set k (cv E w) = zfs E h' ci a n := by
  apply List.ext_getElem?
  intro i
  unfold zfs
  rw [List.getElem?_set]
  simp only [List.length_map, List.length_range, List.getElem?_map]
  by_cases hi : i < n
  · rw [List.getElem?_range hi]
    simp only [Option.map_some]
    by_cases q : k = i
    · subst q
      rw [if_pos rfl, if_pos hi, hk]
    · rw [if_neg q, ho i (fun z => q z.symm)]
  · rw [List.getElem?_eq_none (by simpa using hi)]
    simp only [Option.map_none]
    split
    · rw [if_neg (by omega)]
    · rfl
theorem zs_putfield {k : Nat} (X : ZX E p R s m args meth c cc o nL d) (hH : okH h) (hL : okL L) (hok : okst st) (hd : decode cc pc = .ok (.putfield k, l)) (hz : zin d o pc l L st h (.putfield k) = some (.inl (pc', L', st', h'))) : ZOkH E p l0 e R s m args below meth c nL Q cells slots pc L st h pc' L' st' h' := by
  obtain ⟨hx, hb, hml, hown, hts, hT, hini, hfr, hlo⟩ := X
  have fin : ∀ (ci kk a : Nat) (w : AV) (r : List AV) (hk : Hp), l = 3 → ci < 9 → zfld o k = some (ci, kk) → zS h a = (10 + ci, zNf ci) → 32 ≤ a → (zfin ci kk = true → 100 ≤ o ∧ o % 100 = ci) → (∀ ty, parseFieldDescriptor (zT ci kk).2.2.1 = some ty → narrow ty (cv E w) = cv E w ∧ fits ty (cv E w) = true) →
      zN hk = zN h → zM hk = zM h → okH hk → (∀ b, b ≠ a → zcell E hk b = zcell E h b) → (∀ b, zS hk b = zS h b) → (∀ b k, b < 32 → zV hk b k = zV h b k) → (∀ b k, b < 32 → zP hk b k = zP h b k) → (zfv hk ci a kk = w) → (∀ j, j ≠ kk → zfv hk ci a j = zfv h ci a j) →
      ZPt E p l0 e R s m args below meth c nL Q cells slots (pc + 3) L r hk → ZPt E p l0 e R s m args below meth c nL Q cells slots pc L (w :: vR (some a) :: r) h := by
    intro ci kk a w r hk hl hci hv hS0 h32 hfin hty hN hM hH' hco hSS hVb hPb hf1 hf2 z H locs ls hI hS hR
    unfold zfld at hv
    obtain ⟨⟨ci', kk', pl⟩, h1, h2⟩ := zfind (f := fun a : Nat × Nat × Nat => (a.1, a.2.1)) hv
    have e1 : ci = ci' := (congrArg Prod.fst h2).symm
    have e2 : kk = kk' := (congrArg Prod.snd h2).symm
    subst e1; subst e2
    have h3 := zall_of zcF_ok h1
    unfold zcF at h3
    simp only [Bool.or_eq_true, Bool.and_eq_true, decide_eq_true_eq] at h3
    rcases h3 with ⟨-, hkk, hw⟩ | ⟨h9, -⟩
    · obtain ⟨a1, a2, a3, -, -⟩ := zf_spec hci hkk
      obtain ⟨hn, hft⟩ := hty _ a1
      have he := zws_get (E := E) h32 (zalloc hI (a := a) (by rw [hS0]; simp only; omega))
      rw [zcell_o hS0] at he
      have hnm : ∀ x, x < zNf ci → ∀ y, y < zNf ci → x ≠ y → (zT ci x).2.1 ≠ (zT ci y).2.1 := fun x hx y hy hne => ((zf_spec hci hx).2.2.2.2 y hy).resolve_left (fun q => hne q.symm)
      have hty0 : ∀ x, x < zNf ci → parseFieldDescriptor (zT ci x).2.2.1 = some (zpfd ci x) := fun x hx => (zf_spec hci hx).1
      have hlen : kk < (zfs E h ci a (zNf ci)).length := by unfold zfs; simpa using hkk
      have last : ∀ (H1 : Heap) (locs1 : List Loc), va_P (eC E, eI E) zcls9 ((zws E h).set (a - 32) (zad E a, .inr (ci, (zfs E h ci a (zNf ci)).set kk (cv E w)))) H1 → va_S (zA E) H H1 locs1 → W p l0 e R s m args below meth c H1 locs1 cells slots Q (F0 m (pc + 3) ls (r.map (cv E))) := by
        intro H1 locs1 hP1 hS1
        refine zsz fun hz1 => ?_
        rw [zfs_set hf1 hf2] at hP1
        obtain ⟨hI1, hV1⟩ := ZI.store (h' := hk) hI hS hN hco (by rw [zcell_o (h := hk) (ci := ci) (by rw [hSS]; exact hS0)]) h32 hH' hSS hVb hPb hP1 hS1 hz1
        exact z H1 locs1 ls hI1 hV1 hR
      show W p l0 e R s m args below meth c H locs cells slots Q (F0 m pc ls (cv E w :: .ref (zad E a) :: r.map (cv E)))
      cases hf : zfin ci kk with
      | false => exact va_put hx hb hts (zlay_in hci) (zpfd ci) hty0 hnm hown hT.1 hI.1 (zws_D E h) hS.1.here (a - 32) he (zcls9_get hci) kk hkk (hts _ (zck_mem hw)) (fun _ q => q) (by rw [a3, hf]) a1 hn hft hlen (hl ▸ hd) fun H1 locs1 hP1 _ hS1 => last H1 locs1 hP1 hS1
      | true =>
        obtain ⟨f1, f2⟩ := hfin hf
        exact va_putF hx hb hts (zlay_in hci) (zpfd ci) hty0 hnm hown hT.1 hI.1 (zws_D E h) hS.1.here (a - 32) he (zcls9_get hci) kk hkk (hts _ (zck_mem hw)) (fun _ q => q) (by rw [a3, hf]) (hini f1) (by rw [a2, f2]) a1 hn hft hlen (hl ▸ hd) fun H1 locs1 hP1 _ hS1 => last H1 locs1 hP1 hS1
    · omega
  simp only [zin, zputf] at hz
  split at hz
  · next ci kk x a r hv =>
    split at hz
    · next hc =>
      obtain ⟨hl, hci, hS0, h32, hft, hfin⟩ := hc
      unfold zn at hz; cases hz
      obtain ⟨hxx, hr⟩ := okst_c hok
      have hH' : okH (zsetV h a kk x) := hH.setV hxx
      have hne : zft ci kk ≠ 2 := by omega
      refine ⟨Nat.le_refl _, Nat.le_refl _, hH', hL, (okst_c hr).2, fun _ _ z => ?_⟩
      have z := zsame z rfl rfl
      refine fin ci kk a (vI x) _ (zsetV h a kk x) hl hci hv hS0 h32 hfin ?_ rfl rfl hH' (fun b hb => zcell_setV hb) (fun _ => rfl) (fun b k hb => by rw [zV_set, if_neg (by omega)]) (fun _ _ _ => rfl) ?_ ?_ z
      · intro ty hty
        have hkk : kk < zNf ci := by
          unfold zfld at hv
          obtain ⟨⟨ci', kk', pl⟩, h1, h2⟩ := zfind (f := fun a : Nat × Nat × Nat => (a.1, a.2.1)) hv
          have e1 : ci = ci' := (congrArg Prod.fst h2).symm
          have e2 : kk = kk' := (congrArg Prod.snd h2).symm
          subst e1; subst e2
          have h3 := zall_of zcF_ok h1
          unfold zcF at h3
          simp only [Bool.or_eq_true, Bool.and_eq_true, decide_eq_true_eq] at h3
          rcases h3 with ⟨-, hkk, hw⟩ | ⟨h9, -⟩
          · exact hkk
          · omega
        obtain ⟨a1, -, -, a4, -⟩ := zf_spec hci hkk
        rw [a1] at hty
        cases hty
        rcases a4 with ⟨q, -⟩ | ⟨q, q1⟩ | ⟨-, q⟩
        · rw [q]; exact ⟨rfl, rfl⟩
        · rw [q]
          rcases hft with hft | ⟨-, hft⟩
          · omega
          · rcases hft with rfl | rfl
            · exact ⟨show narrow .boolean (.int (zi 0)) = .int (zi 0) by decide +kernel, show fits .boolean (.int (zi 0)) = true by decide +kernel⟩
            · exact ⟨show narrow .boolean (.int (zi 1)) = .int (zi 1) by decide +kernel, show fits .boolean (.int (zi 1)) = true by decide +kernel⟩
        · omega
      · unfold zfv
        rw [if_neg hne, zV_set, if_pos ⟨rfl, rfl⟩]
      · intro j hj
        have e1 : zV (zsetV h a kk x) a j = zV h a j := by rw [zV_set, if_neg (fun q => hj q.2)]
        unfold zfv
        rw [e1]
        rfl
    · cases hz
  · next ci kk pr a r hv =>
    split at hz
    · next hc =>
      obtain ⟨hl, hci, hS0, h32, hft, hfin⟩ := hc
      unfold zn at hz; cases hz
      obtain ⟨hxx, hr⟩ := okst_c hok
      have hH' : okH (zsetP h a kk pr) := hH
      refine ⟨Nat.le_refl _, Nat.le_refl _, hH', hL, (okst_c hr).2, fun _ _ z => ?_⟩
      have z := zsame z rfl rfl
      refine fin ci kk a (vR pr) _ (zsetP h a kk pr) hl hci hv hS0 h32 hfin ?_ rfl rfl hH' (fun b hb => zcell_setP hb) (fun _ => rfl) (fun _ _ _ => rfl) (fun b k hb => by rw [zP_set, if_neg (by omega)]) ?_ ?_ z
      · intro ty hty
        have hkk : kk < zNf ci := by
          unfold zfld at hv
          obtain ⟨⟨ci', kk', pl⟩, h1, h2⟩ := zfind (f := fun a : Nat × Nat × Nat => (a.1, a.2.1)) hv
          have e1 : ci = ci' := (congrArg Prod.fst h2).symm
          have e2 : kk = kk' := (congrArg Prod.snd h2).symm
          subst e1; subst e2
          have h3 := zall_of zcF_ok h1
          unfold zcF at h3
          simp only [Bool.or_eq_true, Bool.and_eq_true, decide_eq_true_eq] at h3
          rcases h3 with ⟨-, hkk, hw⟩ | ⟨h9, -⟩
          · exact hkk
          · omega
        obtain ⟨a1, -, -, a4, -⟩ := zf_spec hci hkk
        rw [a1] at hty
        cases hty
        rcases a4 with ⟨-, q⟩ | ⟨-, q⟩ | ⟨q, -⟩
        · omega
        · omega
        · rcases q with ⟨n, q⟩ | ⟨t, q⟩ <;> rw [q] <;> cases pr <;> exact ⟨rfl, rfl⟩
      · unfold zfv
        rw [if_pos hft, zP_set, if_pos ⟨rfl, rfl⟩]
      · intro j hj
        have e1 : zP (zsetP h a kk pr) a j = zP h a j := by rw [zP_set, if_neg (fun q => hj q.2)]
        unfold zfv
        rw [e1]
        rfl
    · cases hz
  · cases hz
end ZPS
end
section
/-! SOUNDNESS 9: makings; arraycopy; Object's own <init> -/
section ZPK
variable {p : Program} {l0 : Launch} {e : Env} {R : Room} {s : State} {m : MethodId} {args : Array Value} {below : List Frame} {meth : Method} {c : Code} {Q : State → Prop} {E : ZE} {cc : ByteArray} {o pc nL d l cells slots : Nat} {L : LL} {st : List AV} {h : Hp} {pc' : Nat} {L' : LL} {st' : List AV} {h' : Hp} {H H1 : Heap} {locs : List Loc}
theorem zS_mk (kd n b : Nat) : zS (zmk kd n h) b = if b = 32 + zN h then (kd, n) else zS h b := rfl
theorem zV_mk (kd n b j : Nat) : zV (zmk kd n h) b j = if b = 32 + zN h then 0 else zV h b j := rfl
theorem zJ_mk (kd n b j : Nat) : zJ (zmk kd n h) b j = if b = 32 + zN h then 0 else zJ h b j := rfl
theorem zP_mk (kd n b j : Nat) : zP (zmk kd n h) b j = if b = 32 + zN h then none else zP h b j := rfl
theorem okH.mk {kd n : Nat} (hH : okH h) : okH (zmk kd n h) := by
  intro b j
  rw [zV_mk]
  split
  · exact zr_0
  · exact hH b j
theorem ZI.push {kd n : Nat} {x : va_E} (hI : ZI E H h) (hV : ZV E s H locs cells) (hz : H1.size = H.size + 1) (o1 : ∀ q : Nat, q < H.size → H1[q]? = H[q]?) (hx : va_at (eC E, eI E) zcls9 (H.size, x) H1) (ha : zcell E (zmk kd n h) (32 + zN h) = x) : ZI E H1 (zmk kd n h) ∧ ZV E s H1 locs (cells + 1) := by
  have hs := hI.2.1
  have hk : ∀ (k : Nat) (q : Nat × va_E), (zws E h)[k]? = some q → H1[q.1]? = H[q.1]? := fun k q hq => o1 q.1 ((hI.1 k q hq).lt)
  have hco : ∀ b, b < 32 + zN h → zcell E (zmk kd n h) b = zcell E h b := fun b hb => zcell_congr (by rw [zS_mk, if_neg (by omega)]) (fun j => by rw [zV_mk, if_neg (by omega)]) (fun j => by rw [zJ_mk, if_neg (by omega)]) (fun j => by rw [zP_mk, if_neg (by omega)])
  have hw := zws_push (E := E) (h := h) (h' := zmk kd n h) (x := x) rfl hco ha
  refine ⟨⟨?_, ?_, hI.2.2.1 |> okH.mk, fun a ha => ?_, fun a k ha => ?_, fun a k ha => ?_, fun a ha => ?_⟩, ⟨?_, fun q h1 h2 => ?_, hV.1.2.2⟩, ?_⟩
  · rw [hw]
    refine (hI.1.kept hk).app (fun k q hq => ?_)
    have hz : k < 1 := (List.getElem?_eq_some_iff.mp hq).1
    rw [show k = 0 by omega] at hq
    cases hq
    rw [← hs]
    exact hx
  · show H1.size = eB E + (zN h + 1)
    omega
  · rw [zS_mk, if_neg (by omega)]; exact hI.2.2.2.1 a ha
  · rw [zV_mk, if_neg (by omega)]; exact hI.2.2.2.2.1 a k ha
  · rw [zP_mk, if_neg (by omega)]; exact hI.2.2.2.2.2.1 a k ha
  · have ha' : 32 + (zN h + 1) ≤ a := ha
    rw [zS_mk, if_neg (by omega)]; exact hI.2.2.2.2.2.2 a (by omega)
  · exact Nat.le_trans hV.1.1 (by omega)
  · rw [o1 q (Nat.lt_of_lt_of_le h1 hV.1.1)]
    exact hV.1.2.1 q h1 h2
  · rw [hz, hV.2]; omega
theorem zmade {kd n : Nat} (z : ZPt E p l0 e R s m args below meth c nL Q (cells + (zN (zmk kd n h) - zN h)) (slots + (zM (zmk kd n h) - zM h)) pc' L' st' (zmk kd n h)) : ZPt E p l0 e R s m args below meth c nL Q (cells + 1) (slots + n) pc' L' st' (zmk kd n h) := by
  have e1 : zN (zmk kd n h) - zN h = 1 := by show zN h + 1 - zN h = 1; omega
  have e2 : zM (zmk kd n h) - zM h = n := by show zM h + n - zM h = n; omega
  rw [e1, e2] at z
  exact z
theorem zcell_mko {ci : Nat} (hci : ci < 9) : zcell E (zmk (10 + ci) (zNf ci) h) (32 + zN h) = .inr (ci, zfs E (zmk (10 + ci) (zNf ci) h) ci (32 + zN h) (zNf ci)) := zcell_o (by rw [zS_mk, if_pos rfl])
theorem zs_new {k : Nat} (X : ZX E p R s m args meth c cc o nL d) (hH : okH h) (hL : okL L) (hok : okst st) (hd : decode cc pc = .ok (.new k, l)) (hz : zin d o pc l L st h (.new k) = some (.inl (pc', L', st', h'))) : ZOkH E p l0 e R s m args below meth c nL Q cells slots pc L st h pc' L' st' h' := by
  obtain ⟨hx, hb, hml, hown, hts, hT, hini, hfr, hlo⟩ := X
  simp only [zin, znew] at hz
  split at hz
  · next ci hv =>
    split at hz
    · next hc =>
      obtain ⟨hl, hci⟩ := hc
      unfold zn at hz; cases hz
      unfold zcl at hv
      obtain ⟨⟨ci', pl⟩, h1, h2⟩ := zfind (f := fun a : Nat × Nat => a.1) hv
      have e1 : ci = ci' := h2.symm
      subst e1
      have h3 := zall_of zcC_ok h1
      unfold zcC at h3
      simp only [Bool.and_eq_true, decide_eq_true_eq] at h3
      have h4 := List.all_eq_true.mp zcT_ok ci (List.mem_range.mpr hci)
      unfold zcT at h4
      simp only [Bool.and_eq_true] at h4
      refine ⟨Nat.le_succ _, Nat.le_add_right _ _, hH.mk, hL, okst_m trivial hok, fun hr1 hr2 z H locs ls hI hS hR => ?_⟩
      have z := zmade z
      have hKn := hT.1.1 ci _ (zcls9_get hci)
      have q1 : zN (zmk (10 + ci) (zNf ci) h) - zN h = 1 := by show zN h + 1 - zN h = 1; omega
      have q2 : zM (zmk (10 + ci) (zNf ci) h) - zM h = zNf ci := by show zM h + zNf ci - zM h = zNf ci; omega
      rw [q1] at hr1; rw [q2] at hr2
      refine W.newcK hx hb hown (hts _ (zck_mem h3.2)) (hts _ (zck_mem h4.1)) (hts _ (zck_mem h4.2)) rfl (hl ▸ hd) hr1 hr2 hKn.2.1 rfl fun H1 kC hkC e1 z1 o1 => ?_
      have hb' := u_born (zpfd ci) hts (zlay_in hci) hKn hkC e1 (fun x hx => (zf_spec hci hx).1)
      obtain ⟨hI1, hV1⟩ := ZI.push (kd := 10 + ci) (n := zNf ci) hI hS z1 o1 (x := .inr (ci, zfs E (zmk (10 + ci) (zNf ci) h) ci (32 + zN h) (zNf ci))) ⟨_, zcls9_get hci, hb'.to (fun j hj => by
        have hg := zfs_get (E := E) (h := zmk (10 + ci) (zNf ci) h) (ci := ci) (a := 32 + zN h) hj
        show defaultValue (zpfd ci j) = vp_V (zfs E (zmk (10 + ci) (zNf ci) h) ci (32 + zN h) (zNf ci)) j
        unfold vp_V
        rw [List.getD_eq_getElem?_getD, hg]
        have hj' := (zf_spec hci hj).2.2.2.1
        unfold zfv
        rw [zV_mk, if_pos rfl, zP_mk, if_pos rfl]
        rcases hj' with ⟨t1, t2⟩ | ⟨t1, t2⟩ | ⟨t1, t2⟩
        · rw [t1, if_neg (by omega)]
          simp only [Option.getD_some, cv, zi_0]
          rfl
        · rw [t1, if_neg (by omega)]
          simp only [Option.getD_some, cv, zi_0]
          rfl
        · rw [if_pos t2]
          rcases t1 with ⟨n, t1⟩ | ⟨n, t1⟩ <;> rw [t1] <;> rfl)⟩ (zcell_mko hci)
      have e2 : Value.ref H.size = cv E (vR (some (32 + zN h))) := by
        have e3 : zad E (32 + zN h) = H.size := by
          unfold zad
          rw [if_neg (by omega), hI.2.1]
          omega
        show Value.ref H.size = Value.ref (zad E (32 + zN h))
        rw [e3]
      have := z H1 locs ls hI1 hV1 hR
      rw [List.map_cons, ← e2] at this
      exact this
    · cases hz
  · cases hz
theorem zs_newarr {kd len : Nat} (hL : okL L) (hH : okH h) (hok : okst st) (hz : znewa kd len pc l L st h = some (.inl (pc', L', st', h'))) (x0 : Nat → va_E) (hx0 : ∀ n : Nat, zcell E (zmk kd n h) (32 + zN h) = x0 n)
    (hrow : l = len → ∀ (H : Heap) (locs : List Loc) (ls : Array Slot) (n : Int) (rest : List Value), zr n → 0 ≤ n → n ≤ 1000000 → cells + 1 ≤ R.cells → slots + n.toNat ≤ R.slots → (∀ H1 : Heap, H1.size = H.size + 1 → (∀ q : Nat, q < H.size → H1[q]? = H[q]?) → va_at (eC E, eI E) zcls9 (H.size, x0 n.toNat) H1 → W p l0 e R s m args below meth c H1 locs (cells + 1) (slots + n.toNat) Q (F0 m (pc + len) ls (.ref H.size :: rest))) → W p l0 e R s m args below meth c H locs cells slots Q (F0 m pc ls (.int (zi n) :: rest))) : ZOkH E p l0 e R s m args below meth c nL Q cells slots pc L st h pc' L' st' h' := by
  unfold znewa at hz
  split at hz
  · next x r =>
    split at hz
    · next hc =>
      obtain ⟨hl, hkd, h0, h1⟩ := hc
      unfold zn at hz; cases hz
      obtain ⟨hxx, hr⟩ := okst_c hok
      refine ⟨Nat.le_succ _, Nat.le_add_right _ _, hH.mk, hL, okst_m trivial hr, fun hr1 hr2 z H locs ls hI hS hR => ?_⟩
      have z := zmade z
      have q1 : zN (zmk kd x.toNat h) - zN h = 1 := by show zN h + 1 - zN h = 1; omega
      have q2 : zM (zmk kd x.toNat h) - zM h = x.toNat := by show zM h + x.toNat - zM h = x.toNat; omega
      rw [q1] at hr1; rw [q2] at hr2
      refine hrow hl H locs ls x _ hxx h0 h1 hr1 hr2 fun H1 z1 o1 hat => ?_
      obtain ⟨hI1, hV1⟩ := ZI.push (kd := kd) (n := x.toNat) hI hS z1 o1 hat (hx0 _)
      have e2 : Value.ref H.size = cv E (vR (some (32 + zN h))) := by
        have e3 : zad E (32 + zN h) = H.size := by
          unfold zad
          rw [if_neg (by omega), hI.2.1]
          omega
        show Value.ref H.size = Value.ref (zad E (32 + zN h))
        rw [e3]
      have := z H1 locs ls hI1 hV1 hR
      rw [List.map_cons, ← e2] at this
      exact this
    · cases hz
  · cases hz
theorem zar_id (hT : ZT E s) {cA : ClassId} : (s.vm.findClass ("[" ++ (FieldType.int).toString) = some cA → cA = eR E 1) ∧ (s.vm.findClass ("[" ++ (FieldType.boolean).toString) = some cA → cA = eR E 2) ∧ (s.vm.findClass ("[" ++ (FieldType.long).toString) = some cA → cA = eR E 3) ∧ (s.vm.findClass ("[" ++ (FieldType.object "HatterTunes$Shop").toString) = some cA → cA = eR E 5) ∧ (s.vm.findClass ("[" ++ (FieldType.object "HatterTunes$Tape").toString) = some cA → cA = eR E 6) := by
  have h0 := (hT.1.2 0 (eR E 1, .int) rfl).2
  have h1 := (hT.1.2 1 (eR E 2, .boolean) rfl).2
  have h2 := (hT.1.2 2 (eR E 3, .long) rfl).2
  obtain ⟨_, _, _, _, _, h3⟩ := (hT.1.2 3 (eR E 5, .object "HatterTunes$Shop") rfl).2
  obtain ⟨_, _, _, _, _, h4⟩ := (hT.1.2 4 (eR E 6, .object "HatterTunes$Tape") rfl).2
  exact ⟨fun q => Option.some.inj (q.symm.trans h0), fun q => Option.some.inj (q.symm.trans h1), fun q => Option.some.inj (q.symm.trans h2), fun q => Option.some.inj (q.symm.trans h3), fun q => Option.some.inj (q.symm.trans h4)⟩
theorem znewa0 {len : Nat} : znewa 0 len pc l L st h = none := by
  unfold znewa
  split
  · next x r =>
    split
    · next hc => exact absurd hc.2.1 (by decide)
    · rfl
  · rfl
theorem zcb (t : ArrayType) {n : Nat} (h : n ≤ 1000000) : n * componentBytes (newarray.typeOf t) ≤ 536870912 := by
  have h8 : componentBytes (newarray.typeOf t) ≤ 8 := by cases t <;> decide +kernel
  exact Nat.le_trans (Nat.mul_le_mul h h8) (by decide)
theorem zs_newarray {t : ArrayType} (X : ZX E p R s m args meth c cc o nL d) (hH : okH h) (hL : okL L) (hok : okst st) (hd : decode cc pc = .ok (.newarray t, l)) (hz : zin d o pc l L st h (.newarray t) = some (.inl (pc', L', st', h'))) : ZOkH E p l0 e R s m args below meth c nL Q cells slots pc L st h pc' L' st' h' := by
  obtain ⟨hx, hb, hml, hown, hts, hT, hini, hfr, hlo⟩ := X
  have h0 : ∀ b j, zV (zmk b j h) (32 + zN h) = fun _ => 0 := fun b j => by funext k; rw [zV_mk, if_pos rfl]
  cases t with
  | int =>
    refine zs_newarr (x0 := fun n => .inl (eR E 1, (n, .inl (fun _ => 0)))) hL hH hok hz (fun n => by rw [zcell_1 (by rw [zS_mk, if_pos rfl]; rfl), h0, zS_mk, if_pos rfl]; simp only [zi_0]) fun hl H locs ls n rest hn1 hn2 hn3 hr1 hr2 k => ?_
    refine va_newaK (atype := .int) hx hb (hts _ (zck_mem zar_ok.1)) rfl (hl ▸ hd) rfl (fun q => absurd ((zi_lt hn1 zr_0).mp (by rw [zi_0]; exact q)) (by omega)) (zi_clamp hn1) (zcb .int (by omega)) hr1 hr2 rfl fun H1 cA e1 z1 o1 _ hNm => ?_
    have hcA := (zar_id hT).1 hNm
    subst hcA
    exact k H1 z1 o1 e1
  | boolean =>
    refine zs_newarr (x0 := fun n => .inl (eR E 2, (n, .inl (fun _ => 0)))) hL hH hok hz (fun n => by rw [zcell_2 (by rw [zS_mk, if_pos rfl]; rfl), h0, zS_mk, if_pos rfl]; simp only [zi_0]) fun hl H locs ls n rest hn1 hn2 hn3 hr1 hr2 k => ?_
    refine va_newaK (atype := .boolean) hx hb (hts _ (zck_mem zar_ok.2.1)) rfl (hl ▸ hd) rfl (fun q => absurd ((zi_lt hn1 zr_0).mp (by rw [zi_0]; exact q)) (by omega)) (zi_clamp hn1) (zcb .boolean (by omega)) hr1 hr2 rfl fun H1 cA e1 z1 o1 _ hNm => ?_
    have hcA := (zar_id hT).2.1 hNm
    subst hcA
    exact k H1 z1 o1 e1
  | long =>
    refine zs_newarr (x0 := fun n => .inl (eR E 3, (n, .inr (.inl (fun _ => 0))))) hL hH hok hz (fun n => by
      rw [zcell_3 (by rw [zS_mk, if_pos rfl]; rfl), zS_mk, if_pos rfl]
      refine congrArg Sum.inl (congrArg (Prod.mk _) (congrArg (Prod.mk _) (congrArg Sum.inr (congrArg Sum.inl ?_))))
      funext k
      rw [zJ_mk, if_pos rfl]) fun hl H locs ls n rest hn1 hn2 hn3 hr1 hr2 k => ?_
    refine va_newaK (atype := .long) hx hb (hts _ (zck_mem zar_ok.2.2)) rfl (hl ▸ hd) rfl (fun q => absurd ((zi_lt hn1 zr_0).mp (by rw [zi_0]; exact q)) (by omega)) (zi_clamp hn1) (zcb .long (by omega)) hr1 hr2 rfl fun H1 cA e1 z1 o1 _ hNm => ?_
    have hcA := (zar_id hT).2.2.1 hNm
    subst hcA
    exact k H1 z1 o1 e1
  | _ => exact absurd hz (by
    show ¬ znewa 0 2 pc l L st h = _
    rw [znewa0]
    exact fun q => by cases q)
theorem zs_anewarray {k : Nat} (X : ZX E p R s m args meth c cc o nL d) (hH : okH h) (hL : okL L) (hok : okst st) (hd : decode cc pc = .ok (.anewarray k, l)) (hz : zin d o pc l L st h (.anewarray k) = some (.inl (pc', L', st', h'))) : ZOkH E p l0 e R s m args below meth c nL Q cells slots pc L st h pc' L' st' h' := by
  obtain ⟨hx, hb, hml, hown, hts, hT, hini, hfr, hlo⟩ := X
  have hw : ∀ ci, zcl o k = some ci → Cond.classLink (zcn (o % 100)) k (zcn ci) ∈ zTG := by
    intro ci hv
    unfold zcl at hv
    obtain ⟨⟨ci', pl⟩, h1, h2⟩ := zfind (f := fun a : Nat × Nat => a.1) hv
    have e1 : ci = ci' := h2.symm
    subst e1
    have h3 := zall_of zcC_ok h1
    unfold zcC at h3
    simp only [Bool.and_eq_true, decide_eq_true_eq] at h3
    exact zck_mem h3.2
  have h0 : ∀ b j k, zP (zmk b j h) (32 + zN h) k = none := fun b j k => by rw [zP_mk, if_pos rfl]
  simp only [zin] at hz
  split at hz
  · next hv =>
    refine zs_newarr (x0 := fun n => .inl (eR E 5, (n, .inr (.inr (.inr (.inr (fun _ => none))))))) hL hH hok hz (fun n => by
      rw [zcell_5 (by rw [zS_mk, if_pos rfl]), zS_mk, if_pos rfl]
      simp only [h0]; rfl) fun hl H locs ls n rest hn1 hn2 hn3 hr1 hr2 k => ?_
    refine W.anew hx hb hown (hts _ (hw 4 hv)) (va_AO.use (show va_AO "HatterTunes$Shop" s from hT.2.2.2.2.2.2.2.2.1)) rfl (hl ▸ hd) rfl (fun q => absurd ((zi_lt hn1 zr_0).mp (by rw [zi_0]; exact q)) (by omega)) (by rw [zi_clamp hn1]; omega) hr1 (by rw [zi_clamp hn1]; exact hr2) fun cA kA comp f1 f2 f3 f4 => ?_
    have hcA := (zar_id hT).2.2.2.1 f1
    subst hcA
    rw [zi_clamp hn1]
    refine k _ (by rw [Array.size_push]) (fun q hq => by rw [Array.getElem?_push, if_neg (Nat.ne_of_lt hq)]) ?_
    show (H.push _)[H.size]? = some (vp_cell _ _)
    rw [Array.getElem?_push_size, vp_cell_q, arrV_new]
    rfl
  · next hv =>
    refine zs_newarr (x0 := fun n => .inl (eR E 6, (n, .inr (.inr (.inr (.inr (fun _ => none))))))) hL hH hok hz (fun n => by
      rw [zcell_6 (by rw [zS_mk, if_pos rfl]), zS_mk, if_pos rfl]
      simp only [h0]; rfl) fun hl H locs ls n rest hn1 hn2 hn3 hr1 hr2 k => ?_
    refine W.anew hx hb hown (hts _ (hw 5 hv)) (va_AO.use (show va_AO "HatterTunes$Tape" s from hT.2.2.2.2.2.2.2.2.2)) rfl (hl ▸ hd) rfl (fun q => absurd ((zi_lt hn1 zr_0).mp (by rw [zi_0]; exact q)) (by omega)) (by rw [zi_clamp hn1]; omega) hr1 (by rw [zi_clamp hn1]; exact hr2) fun cA kA comp f1 f2 f3 f4 => ?_
    have hcA := (zar_id hT).2.2.2.2 f1
    subst hcA
    rw [zi_clamp hn1]
    refine k _ (by rw [Array.size_push]) (fun q hq => by rw [Array.getElem?_push, if_neg (Nat.ne_of_lt hq)]) ?_
    show (H.push _)[H.size]? = some (vp_cell _ _)
    rw [Array.getElem?_push_size, vp_cell_q, arrV_new]
    rfl
  · cases hz
end ZPK
end
section
/-! Math.floorMod(II)I: its class is one of those whose bodies an entry may run instead; no entry has this one -/
def fm_x : MethodName := ⟨"java/lang/Math", "floorMod", "(II)I"⟩
def fm_c : ByteArray := ⟨#[0x1a, 0x1b, 0x70, 0x3d, 0x1a, 0x1b, 0x82, 0x9c, 0x00, 0x0b, 0x1c, 0x99, 0x00, 0x07, 0x1c, 0x1b, 0x60, 0xac, 0x1c, 0xac]⟩
theorem fm_0 : decode fm_c 0 = .ok (.iload_n 0, 1) := by decide +kernel
theorem fm_1 : decode fm_c 1 = .ok (.iload_n 1, 1) := by decide +kernel
theorem fm_2 : decode fm_c 2 = .ok (.irem, 1) := by decide +kernel
theorem fm_3 : decode fm_c 3 = .ok (.istore_n 2, 1) := by decide +kernel
theorem fm_4 : decode fm_c 4 = .ok (.iload_n 0, 1) := by decide +kernel
theorem fm_5 : decode fm_c 5 = .ok (.iload_n 1, 1) := by decide +kernel
theorem fm_6 : decode fm_c 6 = .ok (.ixor, 1) := by decide +kernel
theorem fm_7 : decode fm_c 7 = .ok (.ifCond .ge 11, 3) := by decide +kernel
theorem fm_10 : decode fm_c 10 = .ok (.iload_n 2, 1) := by decide +kernel
theorem fm_11 : decode fm_c 11 = .ok (.ifCond .eq 7, 3) := by decide +kernel
theorem fm_14 : decode fm_c 14 = .ok (.iload_n 2, 1) := by decide +kernel
theorem fm_15 : decode fm_c 15 = .ok (.iload_n 1, 1) := by decide +kernel
theorem fm_16 : decode fm_c 16 = .ok (.iadd, 1) := by decide +kernel
theorem fm_17 : decode fm_c 17 = .ok (.ireturn, 1) := by decide +kernel
theorem fm_18 : decode fm_c 18 = .ok (.iload_n 2, 1) := by decide +kernel
theorem fm_19 : decode fm_c 19 = .ok (.ireturn, 1) := by decide +kernel
theorem fm_noRow0 : (NativeRow.find? natives fm_x.cls fm_x.name fm_x.desc).isNone = true := by decide +kernel
theorem fm_noRow (p : Program) : NativeRow.find? p.tables.natives fm_x.cls fm_x.name fm_x.desc = none := by
  cases p <;> exact Option.isNone_iff_eq_none.mp fm_noRow0
def fm_spec (a b : Int32) : Spec where
  pre := .and (.code fm_x fm_c 3 (some .int)) (.and (.count 2) (.and (.isInt (.arg 0)) (.and (.isInt (.arg 1)) (.and (.eq (.arg 0) (.int a)) (.eq (.arg 1) (.int b))))))
  post := .and .returned (.eq .result (.int (zfm32 a b)))
  changes := some []
theorem fm_meets (l : Launch) (a b : Int32) (hne : ¬ b = 0) : MeetsLoose l fm_x (fm_spec a b) := by
  refine MeetsLoose.of_body_ov (code := fm_c) (maxLocals := 3) (ret := some .int) fm_noRow ?_ ?_
  · intro args s h
    simp only [fm_spec, Cond.before_and, Bool.and_eq_true] at h
    exact h.1
  · intro p e s m args below meth c s₁ B
    have hpre := B.pre
    simp only [fm_spec, Cond.before_and, Bool.and_eq_true] at hpre
    obtain ⟨a', b', rfl⟩ := Cond.two_ints hpre.2.1 hpre.2.2.1 hpre.2.2.2.1
    have ha : a' = a := by
      have := hpre.2.2.2.2.1
      simpa [Cond.before, Cond.holds, Cond.value, Term.eval] using this
    have hb : b' = b := by
      have := hpre.2.2.2.2.2
      simpa [Cond.before, Cond.holds, Cond.value, Term.eval] using this
    subst ha; subst hb
    have hloc : argsToLocals #[.int a', .int b'] 3 = #[.val (.int a'), .val (.int b'), .unset] := rfl
    have fin : ∀ r : Int32, r = zfm32 a' b' → (∀ fs, Steps p.tables e below (s₁.setTop (entryFrame m #[.int a', .int b'] 3)) (s₁.setFrames fs) ∨ handOver s₁ (some (.int r)) below ≠ some fs) →
        ∃ s₂ o, Steps p.tables e below (s₁.setTop (entryFrame m #[.int a', .int b'] 3)) s₂ ∧ s₂.status = .running ∧ Ended s₂ below o ∧
          (fm_spec a' b').ensures #[.int a', .int b'] s o s₂ := by
      intro r hr hwalk
      obtain ⟨fs, hfs⟩ := handOver_isSome (s := s₁) (some (.int r)) B.hears₁
      refine ⟨s₁.setFrames fs, .returned (some (.int r)), (hwalk fs).resolve_right (fun h => h hfs), B.here.running, B.ended hfs (by intro h; cases h), ?_, State.sameBut_nil.mpr ?_⟩
      · simp [fm_spec, Cond.after, Cond.holds, Cond.value, Term.eval, hr]
      · rw [State.frames_setFrames _ B.cur₁, B.back]
    by_cases h1 : 0 ≤ a' ^^^ b'
    · refine fin (a' - a' / b' * b') (by unfold zfm32; rw [if_pos h1]) (fun fs => ?_)
      by_cases hfs : handOver s₁ (some (.int (a' - a' / b' * b'))) below = some fs
      · left
        unfold entryFrame; rw [hloc]
        refine Steps.instrAtOv (c := _) (by simpa using B.here) ?_
        simp [jvm, wpRun, exec, B.here.top, B.exec, B.bytes, fm_0]
        refine Steps.instrAtOv (c := _) (by simpa using B.here) ?_
        simp [jvm, wpRun, exec, B.here.top, B.exec, B.bytes, fm_1]
        refine Steps.instrAtOv (c := _) (by simpa using B.here) ?_
        simp [jvm, wpRun, exec, B.here.top, B.exec, B.bytes, fm_2, hne]
        refine Steps.instrAtOv (c := _) (by simpa using B.here) ?_
        simp [jvm, wpRun, exec, B.here.top, B.exec, B.bytes, fm_3, storeLocals, storeSelf, setAt, Value.category]
        refine Steps.instrAtOv (c := _) (by simpa using B.here) ?_
        simp [jvm, wpRun, exec, B.here.top, B.exec, B.bytes, fm_4]
        refine Steps.instrAtOv (c := _) (by simpa using B.here) ?_
        simp [jvm, wpRun, exec, B.here.top, B.exec, B.bytes, fm_5]
        refine Steps.instrAtOv (c := _) (by simpa using B.here) ?_
        simp [jvm, wpRun, exec, B.here.top, B.exec, B.bytes, fm_6]
        refine Steps.instrAtOv (c := _) (by simpa using B.here) ?_
        simp [jvm, wpRun, exec, B.here.top, B.exec, B.bytes, fm_7, ifCond.holds, h1]
        refine Steps.instrAtOv (c := _) (by simpa using B.here) ?_
        simp [jvm, wpRun, exec, B.here.top, B.exec, B.bytes, fm_18]
        refine Steps.instrAtOv (c := _) (by simpa using B.here) ?_
        simp [jvm, wpRun, exec, B.here.top, B.exec, B.bytes, fm_19, B.method₁, B.returns, narrow]
        intro acts
        rw [ret_to B.frames₁ B.method₁ B.notSynchronized rfl rfl hfs]
        exact Steps.refl _
      · exact Or.inr hfs
    · by_cases h2 : a' - a' / b' * b' = 0
      · refine fin 0 (by unfold zfm32; rw [if_neg h1, if_pos h2, h2]) (fun fs => ?_)
        by_cases hfs : handOver s₁ (some (.int 0)) below = some fs
        · left
          unfold entryFrame; rw [hloc]
          refine Steps.instrAtOv (c := _) (by simpa using B.here) ?_
          simp [jvm, wpRun, exec, B.here.top, B.exec, B.bytes, fm_0]
          refine Steps.instrAtOv (c := _) (by simpa using B.here) ?_
          simp [jvm, wpRun, exec, B.here.top, B.exec, B.bytes, fm_1]
          refine Steps.instrAtOv (c := _) (by simpa using B.here) ?_
          simp [jvm, wpRun, exec, B.here.top, B.exec, B.bytes, fm_2, hne]
          refine Steps.instrAtOv (c := _) (by simpa using B.here) ?_
          simp [jvm, wpRun, exec, B.here.top, B.exec, B.bytes, fm_3, storeLocals, storeSelf, setAt, Value.category]
          refine Steps.instrAtOv (c := _) (by simpa using B.here) ?_
          simp [jvm, wpRun, exec, B.here.top, B.exec, B.bytes, fm_4]
          refine Steps.instrAtOv (c := _) (by simpa using B.here) ?_
          simp [jvm, wpRun, exec, B.here.top, B.exec, B.bytes, fm_5]
          refine Steps.instrAtOv (c := _) (by simpa using B.here) ?_
          simp [jvm, wpRun, exec, B.here.top, B.exec, B.bytes, fm_6]
          refine Steps.instrAtOv (c := _) (by simpa using B.here) ?_
          simp [jvm, wpRun, exec, B.here.top, B.exec, B.bytes, fm_7, ifCond.holds, h1]
          refine Steps.instrAtOv (c := _) (by simpa using B.here) ?_
          simp [jvm, wpRun, exec, B.here.top, B.exec, B.bytes, fm_10]
          refine Steps.instrAtOv (c := _) (by simpa using B.here) ?_
          simp [jvm, wpRun, exec, B.here.top, B.exec, B.bytes, fm_11, ifCond.holds, h2]
          refine Steps.instrAtOv (c := _) (by simpa using B.here) ?_
          simp [jvm, wpRun, exec, B.here.top, B.exec, B.bytes, fm_18, h2]
          refine Steps.instrAtOv (c := _) (by simpa using B.here) ?_
          simp [jvm, wpRun, exec, B.here.top, B.exec, B.bytes, fm_19, B.method₁, B.returns, narrow]
          intro acts
          rw [ret_to B.frames₁ B.method₁ B.notSynchronized rfl rfl hfs]
          exact Steps.refl _
        · exact Or.inr hfs
      · refine fin (a' - a' / b' * b' + b') (by unfold zfm32; rw [if_neg h1, if_neg h2]) (fun fs => ?_)
        by_cases hfs : handOver s₁ (some (.int (a' - a' / b' * b' + b'))) below = some fs
        · left
          unfold entryFrame; rw [hloc]
          refine Steps.instrAtOv (c := _) (by simpa using B.here) ?_
          simp [jvm, wpRun, exec, B.here.top, B.exec, B.bytes, fm_0]
          refine Steps.instrAtOv (c := _) (by simpa using B.here) ?_
          simp [jvm, wpRun, exec, B.here.top, B.exec, B.bytes, fm_1]
          refine Steps.instrAtOv (c := _) (by simpa using B.here) ?_
          simp [jvm, wpRun, exec, B.here.top, B.exec, B.bytes, fm_2, hne]
          refine Steps.instrAtOv (c := _) (by simpa using B.here) ?_
          simp [jvm, wpRun, exec, B.here.top, B.exec, B.bytes, fm_3, storeLocals, storeSelf, setAt, Value.category]
          refine Steps.instrAtOv (c := _) (by simpa using B.here) ?_
          simp [jvm, wpRun, exec, B.here.top, B.exec, B.bytes, fm_4]
          refine Steps.instrAtOv (c := _) (by simpa using B.here) ?_
          simp [jvm, wpRun, exec, B.here.top, B.exec, B.bytes, fm_5]
          refine Steps.instrAtOv (c := _) (by simpa using B.here) ?_
          simp [jvm, wpRun, exec, B.here.top, B.exec, B.bytes, fm_6]
          refine Steps.instrAtOv (c := _) (by simpa using B.here) ?_
          simp [jvm, wpRun, exec, B.here.top, B.exec, B.bytes, fm_7, ifCond.holds, h1]
          refine Steps.instrAtOv (c := _) (by simpa using B.here) ?_
          simp [jvm, wpRun, exec, B.here.top, B.exec, B.bytes, fm_10]
          refine Steps.instrAtOv (c := _) (by simpa using B.here) ?_
          simp [jvm, wpRun, exec, B.here.top, B.exec, B.bytes, fm_11, ifCond.holds, h2]
          refine Steps.instrAtOv (c := _) (by simpa using B.here) ?_
          simp [jvm, wpRun, exec, B.here.top, B.exec, B.bytes, fm_14]
          refine Steps.instrAtOv (c := _) (by simpa using B.here) ?_
          simp [jvm, wpRun, exec, B.here.top, B.exec, B.bytes, fm_15]
          refine Steps.instrAtOv (c := _) (by simpa using B.here) ?_
          simp [jvm, wpRun, exec, B.here.top, B.exec, B.bytes, fm_16]
          refine Steps.instrAtOv (c := _) (by simpa using B.here) ?_
          simp [jvm, wpRun, exec, B.here.top, B.exec, B.bytes, fm_17, B.method₁, B.returns, narrow]
          intro acts
          rw [ret_to B.frames₁ B.method₁ B.notSynchronized rfl rfl hfs]
          exact Steps.refl _
        · exact Or.inr hfs
end
section
/-! SOUNDNESS 10: Math's methods, arraycopy, Object's own <init> -/
theorem zma_ok : (zck (zpl 22).1 (.code Lib.Math.min.name Lib.Math.min.code 2 (some .int)) = true ∧ zck (zpl 22).2.1 (.static Lib.Math.min.name) = true) ∧ (zck (zpl 171).1 (.code Lib.Math.max.name Lib.Math.max.code 2 (some .int)) = true ∧ zck (zpl 171).2.1 (.static Lib.Math.max.name) = true) ∧ (zck (zpl 195).1 (.code Lib.MathLoose.abs_long.x Lib.MathLoose.abs_long.code 2 (some .long)) = true ∧ zck (zpl 195).2.1 (.static Lib.MathLoose.abs_long.x) = true) ∧ (zck (zpl 23).1 (.code fm_x fm_c 3 (some .int)) = true ∧ zck (zpl 23).2.1 (.static fm_x) = true) ∧ zck (zpl 22).2.2.2 (.initialized "java/lang/Math") = true := by decide +kernel
section ZPN
variable {p : Program} {l0 : Launch} {e : Env} {R : Room} {s : State} {m : MethodId} {args : Array Value} {below : List Frame} {meth : Method} {c : Code} {Q : State → Prop} {E : ZE} {cc : ByteArray} {o pc nL d l cells slots : Nat} {L : LL} {st : List AV} {h : Hp} {pc' : Nat} {L' : LL} {st' : List AV} {h' : Hp} {H : Heap} {locs : List Loc} {ls : Array Slot} {rest : List Value}
theorem fm_row (hexec : p.tables.exec = Jvm.exec) (hb : c.code = cc) (hml : c.maxLocals = ls.size) {own : String} {index : Nat} (hown : s.vm.findClass own = some m.cls) (hlink : (Cond.methodLink own index fm_x).before args s = true) (hstat : (Cond.static fm_x).before args s = true) (hinit : (Cond.initialized "java/lang/Math").before args s = true) (hcode : (Cond.code fm_x fm_c 3 (some .int)).before args s = true)
    (hframes : 1 ≤ R.frames) (hlocals : (rest.map fun v => v.category).sum + 14 ≤ R.locals) (hcells : cells ≤ R.cells) (hslots : slots ≤ R.slots) {a b : Int32} (hne : ¬ b = 0) (hdg : decode cc pc = .ok (.invokestatic index, 3))
    (kk : W p l0 e R s m args below meth c H locs cells slots Q (F0 m (pc + 3) ls (.int (zfm32 a b) :: rest))) : W p l0 e R s m args below meth c H locs cells slots Q (F0 m pc ls (.int b :: .int a :: rest)) := by
  intro T hT X
  obtain ⟨v, T', X', ⟨first, t, hpost⟩, hstep⟩ := X.staticByContractV hexec hown hlink hstat hinit hcode (by decide)
    (fm_meets l0 a b hne)
    rfl rfl rfl rfl
    (fun args' first o s₂ h => by
      cases o with
      | returned r => exact ⟨r, rfl⟩
      | threw y =>
        have hz : (fm_spec a b).post.value args' first (some (.threw y)) s₂ [] = some true := by simpa [Cond.after, Cond.holds] using h
        exact absurd hz va_nvRet)
    (g := F0 m pc ls (.int b :: .int a :: rest)) rfl (by rw [hml]) (argsL := [.int a, .int b]) (rest := rest)
    (fun sig hs => by
      have h : parseMethodDescriptor "(II)I" = some { parameters := [.int, .int], returnType := some .int } := by decide +kernel
      rw [show fm_x.desc = "(II)I" from rfl, h] at hs
      rw [← Option.some.inj hs]; rfl)
    rfl (by rw [hb]; exact hdg)
    (fun vm' hW => by
      simp only [fm_spec, Cond.before_and, Bool.and_eq_true]
      refine ⟨?_, rfl, rfl, rfl, ?_, ?_⟩
      · have q := hcode
        rw [← Cond.code_setVm hW.alike] at q
        simp only [Cond.before, Cond.holds, Cond.value, State.methodNamed?, State.vm_setVm] at q ⊢
        exact q
      · simp [Cond.before, Cond.holds, Cond.value, Term.eval]
      · simp [Cond.before, Cond.holds, Cond.value, Term.eval])
    (by show 0 + 1 ≤ R.frames; omega) (by show 2 * 0 + (rest.map fun v => v.category).sum + (3 + 11) + 0 ≤ R.locals; omega) (by show cells + 0 ≤ R.cells; omega) (by show slots + 0 ≤ R.slots; omega)
  obtain rfl : v = some (.int (zfm32 a b)) := by
    rcases v with _ | w
    · simp [fm_spec, Cond.after, Cond.holds, Cond.value, Term.eval] at hpost
    · cases w <;> simp [fm_spec, Cond.after, Cond.holds, Cond.value, Term.eval] at hpost
      first | (simp [hpost]; done) | (rename_i r; by_cases hr : r = zfm32 a b <;> simp [hr] at hpost ⊢)
  obtain ⟨t2, a1, b1⟩ := kk (T.setVm T') hT X'
  exact ⟨t2, hstep t2 a1, b1⟩
theorem zwt_cat (r : List AV) : ((r.map (cv E)).map fun v => v.category).sum = zwt r := by
  unfold zwt
  rw [List.map_map]
  congr 1
  refine List.map_congr_left fun v _ => ?_
  exact cv_cat E v
theorem zs_oinit {k : Nat} (X : ZX E p R s m args meth c cc o nL d) (hk : zck (zpl 1).1 (.code Lib.objectInit ⟨#[0xb1]⟩ 1 none) = true) (hL : okL L) (hok : okst st) (hd : decode cc pc = .ok (.invokespecial k, l)) (hw : Cond.methodLink (zcn (o % 100)) k Lib.objectInit ∈ zTG) (hz : zoinit d pc l L st h = some (.inl (pc', L', st', h'))) : ZOk E p l0 e R s m args below meth c nL Q cells slots pc L st h pc' L' st' h' := by
  obtain ⟨hx, hb, hml, hown, hts, hT, hini, hfr, hlo⟩ := X
  unfold zoinit at hz
  split at hz
  · next a r =>
    split at hz
    · next hc =>
      obtain ⟨hl, hd1, hw8⟩ := hc
      unfold zn at hz; cases hz
      refine ⟨rfl, hL, (okst_c hok).2, fun z H locs ls hI hS hR => ?_⟩
      exact W.objInit hx hb hown (hts _ hw) (hts _ (zck_mem zoi_ok.2)) (hts _ (zck_mem zoi_ok.1)) rfl (by rw [hml]; exact hR.1) (a := zad E a) (rest := _) rfl (hl ▸ hd) (by omega) (by
        show 2 * 0 + _ + 12 ≤ R.locals
        rw [zwt_cat]
        omega) (z H locs ls hI hS hR)
    · cases hz
  · cases hz
/-- the calls that are done here as one step -/
theorem zs_invokestatic {k : Nat} (X : ZX E p R s m args meth c cc o nL d) (hc0 : cells ≤ R.cells) (hs0 : slots ≤ R.slots) (hH : okH h) (hL : okL L) (hok : okst st) (hd : decode cc pc = .ok (.invokestatic k, l)) (hz : zin d o pc l L st h (.invokestatic k) = some (.inl (pc', L', st', h'))) : ZOkH E p l0 e R s m args below meth c nL Q cells slots pc L st h pc' L' st' h' := by
  have X0 := X
  obtain ⟨hx, hb, hml, hown, hts, hT, hini, hfr, hlo⟩ := X
  have key : ∀ kd z, zmth o k = some (kd, z) → ∃ pl, zcM (o % 100) (k, kd, z, pl) = true := by
    intro kd z hv
    unfold zmth at hv
    obtain ⟨⟨kd', z', pl⟩, h1, h2⟩ := zfind (f := fun a : Nat × Nat × Nat => (a.1, a.2.1)) hv
    have e1 : kd = kd' := (congrArg Prod.fst h2).symm
    have e2 : z = z' := (congrArg Prod.snd h2).symm
    subst e1; subst e2
    exact ⟨pl, zall_of zcM_ok h1⟩
  simp only [zin] at hz
  split at hz
  · next z hv =>
    obtain ⟨pl, h3⟩ := key _ _ hv
    simp [zcM] at h3
    have hw := zck_mem h3
    unfold zcpy at hz
    split at hz
    · next n dp b sp a r =>
      split at hz
      · next hc =>
        obtain ⟨hl, hd1, hw8, ha32, hb32, hn0, hsp0, hdp0, hs1, hs2, hkk⟩ := hc
        unfold zn at hz; cases hz
        obtain ⟨qn, hr⟩ := okst_c hok
        obtain ⟨qdp, hr⟩ := okst_c hr
        obtain ⟨-, hr⟩ := okst_c hr
        obtain ⟨qsp, hr⟩ := okst_c hr
        obtain ⟨-, hr⟩ := okst_c hr
        have cn : (zi n).toNatClampNeg = n.toNat := zi_clamp qn
        have cd : (zi dp).toNatClampNeg = dp.toNat := zi_clamp qdp
        have cs : (zi sp).toNatClampNeg = sp.toNat := zi_clamp qsp
        have nn : ∀ x : Int, zr x → 0 ≤ x → ¬ zi x < 0 := fun x hx hx0 q => absurd ((zi_lt hx zr_0).mp (by rw [zi_0]; exact q)) (by omega)
        have hnw : nativeFrameWords "java/lang/System" "arraycopy" 5 ≤ 7 := by decide +kernel
        rcases hkk with ⟨k1, k2⟩ | ⟨k1, k2⟩
        · rw [if_pos k1]
          have hH' : okH (zcpV h a sp.toNat b dp.toNat n.toNat) := by
            intro x y
            show zr (if x = b ∧ dp.toNat ≤ y ∧ y < dp.toNat + n.toNat then zV h a (sp.toNat + (y - dp.toNat)) else zV h x y)
            split
            · exact hH _ _
            · exact hH _ _
          refine ⟨Nat.le_refl _, Nat.le_refl _, hH', hL, hr, fun _ _ z H locs ls hI hS hR => ?_⟩
          have z := zsame z rfl rfl
          have he := zws_get (E := E) ha32 (zalloc hI (a := a) (by omega))
          rw [zcell_1 k1] at he
          have he2 := zws_get (E := E) hb32 (zalloc hI (a := b) (by omega))
          rw [zcell_1 k2] at he2
          refine va_copyi hx hb (by rw [hml]; exact hR.1.symm) hown (hts _ hw) (hts _ (zck_mem zac_ok.1)) (hts _ (zck_mem zac_ok.2.1)) (hts _ (zck_mem zac_ok.2.2)) hT.1 hI.1 (zws_D E h) hS.1.here (a - 32) (b - 32) 0 0 he he2 rfl rfl rfl (nn _ qsp hsp0) (nn _ qdp hdp0) (nn _ qn hn0) (by rw [cs, cn]; omega) (by rw [cd, cn]; omega) (fun _ _ => rfl) (by omega) (by rw [zwt_cat]; omega) (hl ▸ hd) fun H1 locs1 hP1 _ hS1 => zsz fun hz1 => ?_
          obtain ⟨hI1, hV1⟩ := ZI.store (h' := zcpV h a sp.toNat b dp.toNat n.toNat) hI hS rfl (fun x hx => zcell_congr rfl (fun y => by
            show (if x = b ∧ dp.toNat ≤ y ∧ y < dp.toNat + n.toNat then zV h a (sp.toNat + (y - dp.toNat)) else zV h x y) = zV h x y
            rw [if_neg (fun q => hx q.1)]) (fun _ => rfl) (fun _ => rfl)) (by
            rw [zcell_1 (h := zcpV h a sp.toNat b dp.toNat n.toNat) k2, cn, cd, cs]
            refine congrArg Sum.inl (congrArg (Prod.mk _) (congrArg (Prod.mk _) (congrArg Sum.inl ?_)))
            funext y
            show zi (if b = b ∧ dp.toNat ≤ y ∧ y < dp.toNat + n.toNat then zV h a (sp.toNat + (y - dp.toNat)) else zV h b y) = va_cpy (fun k => zi (zV h a k)) (fun k => zi (zV h b k)) sp.toNat dp.toNat n.toNat y
            unfold va_cpy
            by_cases q : dp.toNat ≤ y ∧ y < dp.toNat + n.toNat
            · rw [if_pos ⟨rfl, q⟩, if_pos q]
            · rw [if_neg (fun w => q w.2), if_neg q]) hb32 hH' (fun _ => rfl) (fun x y hx => by
            show (if x = b ∧ dp.toNat ≤ y ∧ y < dp.toNat + n.toNat then zV h a (sp.toNat + (y - dp.toNat)) else zV h x y) = zV h x y
            rw [if_neg (fun q => by omega)]) (fun _ _ _ => rfl) hP1 hS1 hz1
          exact z H1 locs1 ls hI1 hV1 hR
        · rw [if_neg (by omega)]
          have hH' : okH (zcpJ h a sp.toNat b dp.toNat n.toNat) := hH
          refine ⟨Nat.le_refl _, Nat.le_refl _, hH', hL, hr, fun _ _ z H locs ls hI hS hR => ?_⟩
          have z := zsame z rfl rfl
          have he := zws_get (E := E) ha32 (zalloc hI (a := a) (by omega))
          rw [zcell_3 k1] at he
          have he2 := zws_get (E := E) hb32 (zalloc hI (a := b) (by omega))
          rw [zcell_3 k2] at he2
          refine va_copyl hx hb (by rw [hml]; exact hR.1.symm) hown (hts _ hw) (hts _ (zck_mem zac_ok.1)) (hts _ (zck_mem zac_ok.2.1)) (hts _ (zck_mem zac_ok.2.2)) hT.1 hI.1 (zws_D E h) hS.1.here (a - 32) (b - 32) 2 2 he he2 rfl rfl rfl (nn _ qsp hsp0) (nn _ qdp hdp0) (nn _ qn hn0) (by rw [cs, cn]; omega) (by rw [cd, cn]; omega) (fun _ _ => rfl) (by omega) (by rw [zwt_cat]; omega) (hl ▸ hd) fun H1 locs1 hP1 _ hS1 => zsz fun hz1 => ?_
          obtain ⟨hI1, hV1⟩ := ZI.store (h' := zcpJ h a sp.toNat b dp.toNat n.toNat) hI hS rfl (fun x hx => zcell_congr rfl (fun _ => rfl) (fun y => by
            show (if x = b ∧ dp.toNat ≤ y ∧ y < dp.toNat + n.toNat then zJ h a (sp.toNat + (y - dp.toNat)) else zJ h x y) = zJ h x y
            rw [if_neg (fun q => hx q.1)]) (fun _ => rfl)) (by
            rw [zcell_3 (h := zcpJ h a sp.toNat b dp.toNat n.toNat) k2, cn, cd, cs]
            refine congrArg Sum.inl (congrArg (Prod.mk _) (congrArg (Prod.mk _) (congrArg Sum.inr (congrArg Sum.inl ?_))))
            funext y
            show (if b = b ∧ dp.toNat ≤ y ∧ y < dp.toNat + n.toNat then zJ h a (sp.toNat + (y - dp.toNat)) else zJ h b y) = va_cpy (zJ h a) (zJ h b) sp.toNat dp.toNat n.toNat y
            unfold va_cpy
            by_cases q : dp.toNat ≤ y ∧ y < dp.toNat + n.toNat
            · rw [if_pos ⟨rfl, q⟩, if_pos q]
            · rw [if_neg (fun w => q w.2), if_neg q]) hb32 hH' (fun _ => rfl) (fun _ _ _ => rfl) (fun _ _ _ => rfl) hP1 hS1 hz1
          exact z H1 locs1 ls hI1 hV1 hR
      · cases hz
    · cases hz
  · next z hv =>
    obtain ⟨pl, h3⟩ := key _ _ hv
    simp [zcM] at h3
    have hw := zck_mem h3
    unfold zmm at hz
    split at hz
    · next y x r =>
      split at hz
      · next hc =>
        obtain ⟨hl, hd1, hw8⟩ := hc
        unfold zn at hz; cases hz
        obtain ⟨qy, hr⟩ := okst_c hok
        obtain ⟨qx, hr⟩ := okst_c hr
        refine ZOk.toH hH ⟨rfl, hL, okst_m (by
          show zr (if y < x then y else x)
          split
          · exact qy
          · exact qx) hr, fun z H locs ls hI hS hR => ?_⟩
        refine va_mmin hx hb (by rw [hml]; exact hR.1.symm) hown (hts _ hw) (hts _ (zck_mem zma_ok.1.2)) (hts _ (zck_mem zma_ok.2.2.2.2)) (hts _ (zck_mem zma_ok.1.1)) (by omega) (by rw [zwt_cat]; omega) hc0 hs0 (hl ▸ hd) ?_
        have k1 := z H locs ls hI hS hR
        have e1 : (if zi y < zi x then zi y else zi x) = zi (if y < x then y else x) := by
          by_cases q : y < x
          · rw [if_pos q, if_pos ((zi_lt qy qx).mpr q)]
          · rw [if_neg q, if_neg (fun w => q ((zi_lt qy qx).mp w))]
        rw [e1]
        exact k1
      · cases hz
    · cases hz
  · next z hv =>
    obtain ⟨pl, h3⟩ := key _ _ hv
    simp [zcM] at h3
    have hw := zck_mem h3
    unfold zmm at hz
    split at hz
    · next y x r =>
      split at hz
      · next hc =>
        obtain ⟨hl, hd1, hw8⟩ := hc
        unfold zn at hz; cases hz
        obtain ⟨qy, hr⟩ := okst_c hok
        obtain ⟨qx, hr⟩ := okst_c hr
        refine ZOk.toH hH ⟨rfl, hL, okst_m (by
          show zr (if x < y then y else x)
          split
          · exact qy
          · exact qx) hr, fun z H locs ls hI hS hR => ?_⟩
        refine va_mmax hx hb (by rw [hml]; exact hR.1.symm) hown (hts _ hw) (hts _ (zck_mem zma_ok.2.1.2)) (hts _ (zck_mem zma_ok.2.2.2.2)) (hts _ (zck_mem zma_ok.2.1.1)) (by omega) (by rw [zwt_cat]; omega) hc0 hs0 (hl ▸ hd) ?_
        have k1 := z H locs ls hI hS hR
        have e1 : (if zi x < zi y then zi y else zi x) = zi (if x < y then y else x) := by
          by_cases q : x < y
          · rw [if_pos q, if_pos ((zi_lt qx qy).mpr q)]
          · rw [if_neg q, if_neg (fun w => q ((zi_lt qx qy).mp w))]
        rw [e1]
        exact k1
      · cases hz
    · cases hz
  · next z hv =>
    obtain ⟨pl, h3⟩ := key _ _ hv
    simp [zcM] at h3
    have hw := zck_mem h3
    unfold zmab at hz
    split at hz
    · next x r =>
      split at hz
      · next hc =>
        obtain ⟨hl, hd1, hw8⟩ := hc
        unfold zn at hz; cases hz
        obtain ⟨qx, hr⟩ := okst_c hok
        refine ZOk.toH hH ⟨rfl, hL, okst_m trivial hr, fun z H locs ls hI hS hR => ?_⟩
        exact va_mabs_long hx hb (by rw [hml]; exact hR.1.symm) hown (hts _ hw) (hts _ (zck_mem zma_ok.2.2.1.2)) (hts _ (zck_mem zma_ok.2.2.2.2)) (hts _ (zck_mem zma_ok.2.2.1.1)) (by omega) (by rw [zwt_cat]; omega) hc0 hs0 (hl ▸ hd) (z H locs ls hI hS hR)
      · cases hz
    · cases hz
  · next z hv =>
    obtain ⟨pl, h3⟩ := key _ _ hv
    simp [zcM] at h3
    have hw := zck_mem h3
    unfold zmfm at hz
    split at hz
    · next y x r =>
      split at hz
      · next hc =>
        obtain ⟨hl, hd1, hw8, hy0⟩ := hc
        unfold zn at hz; cases hz
        obtain ⟨qy, hr⟩ := okst_c hok
        obtain ⟨qx, hr⟩ := okst_c hr
        refine ZOk.toH hH ⟨rfl, hL, okst_m (zr_toInt _) hr, fun z H locs ls hI hS hR => ?_⟩
        refine fm_row hx hb (by rw [hml]; exact hR.1.symm) hown (hts _ hw) (hts _ (zck_mem zma_ok.2.2.2.1.2)) (hts _ (zck_mem zma_ok.2.2.2.2)) (hts _ (zck_mem zma_ok.2.2.2.1.1)) (by omega) (by rw [zwt_cat]; omega) hc0 hs0 (fun q => hy0 (zi_inj qy zr_0 (by rw [q, zi_0]))) (hl ▸ hd) ?_
        have k1 := z H locs ls hI hS hR
        have e1 : cv E (vI (zfm32 (zi x) (zi y)).toInt) = .int (zfm32 (zi x) (zi y)) := congrArg Value.int (zi_of _)
        rw [List.map_cons, e1] at k1
        exact k1
      · cases hz
    · cases hz
  · next e he =>
    unfold zinvS at hz
    split at hz
    · unfold zcall at hz
      split at hz <;> cases hz
    · unfold zcall at hz
      split at hz <;> cases hz
    · cases hz
end ZPN
end
section
/-! SOUNDNESS 11: one step; what holds of the tables stays -/
theorem ZT.moved {E : ZE} {s U : State} {H : Heap} {locs : List Loc} (h : ZT E s) (hU : U.heap = H) (hS : va_S (zA E) s.heap H locs) (hW : s.WarmedH U.vm) : ZT E U := by
  obtain ⟨h1, h2, h3, h4, h5, h6, h7, h8, h9, h10⟩ := h
  have hk : ∀ a : Nat, a < s.heap.size → ¬ zA E a → U.heap[a]? = s.heap[a]? := fun a q1 q2 => by rw [hU]; exact hS.2.1 a q1 q2
  refine ⟨va_K.moved hW.alike h1, by rw [hU]; exact Nat.le_trans h2 hS.1, fun w hw => ?_, fun q hq => (va_Z.moved hW.alike (h4 q hq)).kept hk, fun b n hb hbn => ⟨(h5 b n hb hbn).1, (va_T.moved hW.alike (h5 b n hb hbn).2).kept hk⟩, fun b n hb hbn => ⟨(h6 b n hb hbn).1, (va_T.moved hW.alike (h6 b n hb hbn).2).kept hk⟩, fun b hb hbn => ?_, fun q hq => vk_R.warm hW (h8 q hq), va_AO.moved hW.alike h9, va_AO.moved hW.alike h10⟩
  · have hw' := h3 w hw
    have hn : znst w = true := (List.mem_filter.mp hw).2
    unfold znst at hn
    split at hn
    · exact va_Nw.warmM hW hw'
    · exact va_Nw.warmF hW hw'
    · cases hn
  · obtain ⟨a1, a2, a3⟩ := h7 b hb hbn
    exact ⟨(va_O.moved hW.alike a1).kept hk, (va_OF.moved hW.alike a2).kept hk, (va_OF.moved hW.alike a3).kept hk⟩
theorem ZT.blind {E : ZE} {U : State} (h : ZT E U) (g : JFrame) (mk : MethodId) (a : Array Value) : ZT E (U.calling g mk a) := by
  obtain ⟨h1, h2, h3, h4, h5, h6, h7, h8, h9, h10⟩ := h
  have hA : U.vm.Alike (U.calling g mk a).vm := Vm.Alike.refl U.vm
  refine ⟨va_K.moved hA h1, h2, fun w hw => ?_, fun q hq => va_Z.moved hA (h4 q hq), fun b n hb hbn => ⟨(h5 b n hb hbn).1, va_T.moved hA (h5 b n hb hbn).2⟩, fun b n hb hbn => ⟨(h6 b n hb hbn).1, va_T.moved hA (h6 b n hb hbn).2⟩, fun b hb hbn => ?_, fun q hq => vk_R.same rfl (h8 q hq), va_AO.moved hA h9, va_AO.moved hA h10⟩
  · have hw' := h3 w hw
    have hn : znst w = true := (List.mem_filter.mp hw).2
    unfold znst at hn
    split at hn
    · exact va_Nw.same rfl rfl hw'
    · exact va_Nw.same rfl rfl hw'
    · cases hn
  · obtain ⟨a1, a2, a3⟩ := h7 b hb hbn
    exact ⟨va_O.moved hA a1, va_OF.moved hA a2, va_OF.moved hA a3⟩
section ZPQ
variable {p : Program} {l0 : Launch} {e : Env} {R : Room} {s : State} {m : MethodId} {args : Array Value} {below : List Frame} {meth : Method} {c : Code} {Q : State → Prop} {E : ZE} {cc : ByteArray} {o pc nL d l cells slots : Nat} {L : LL} {st : List AV} {h : Hp} {pc' : Nat} {L' : LL} {st' : List AV} {h' : Hp} {H : Heap} {locs : List Loc} {ls : Array Slot} {rest : List Value}
theorem zs_invokespecial {k : Nat} (X : ZX E p R s m args meth c cc o nL d) (hH : okH h) (hL : okL L) (hok : okst st) (hd : decode cc pc = .ok (.invokespecial k, l)) (hz : zin d o pc l L st h (.invokespecial k) = some (.inl (pc', L', st', h'))) : ZOk E p l0 e R s m args below meth c nL Q cells slots pc L st h pc' L' st' h' := by
  simp only [zin, zinvI] at hz
  split at hz
  · next z hv =>
    unfold zmth at hv
    obtain ⟨⟨kd', z', pl⟩, h1, h2⟩ := zfind (f := fun a : Nat × Nat × Nat => (a.1, a.2.1)) hv
    have e1 : 9 = kd' := (congrArg Prod.fst h2).symm
    subst e1
    have h3 := zall_of zcM_ok h1
    simp [zcM] at h3
    exact zs_oinit X zoi_ok.1 hL hok hd (zck_mem h3) hz
  · split at hz
    · split at hz
      · unfold zcall at hz
        split at hz <;> cases hz
      · cases hz
    · cases hz
  · cases hz
theorem zs_step (X : ZX E p R s m args meth c cc o nL d) (hc0 : cells ≤ R.cells) (hs0 : slots ≤ R.slots) (hH : okH h) (hL : okL L) (hok : okst st) (hz : zact d cc o pc L st h = some (.inl (pc', L', st', h'))) : ZOkH E p l0 e R s m args below meth c nL Q cells slots pc L st h pc' L' st' h' := by
  unfold zact at hz
  split at hz
  · next i l hd =>
    cases i with
    | aload_n k => exact (zs_aload_n X hL hok hd hz).toH hH
    | iload_n k => exact (zs_iload_n X hL hok hd hz).toH hH
    | lload_n k => exact (zs_lload_n X hL hok hd hz).toH hH
    | aload k => exact (zs_aload X hL hok hd hz).toH hH
    | iload k => exact (zs_iload X hL hok hd hz).toH hH
    | lload k => exact (zs_lload X hL hok hd hz).toH hH
    | astore_n k => exact (zs_astore_n X hL hok hd hz).toH hH
    | istore_n k => exact (zs_istore_n X hL hok hd hz).toH hH
    | lstore_n k => exact (zs_lstore_n X hL hok hd hz).toH hH
    | astore k => exact (zs_astore X hL hok hd hz).toH hH
    | istore k => exact (zs_istore X hL hok hd hz).toH hH
    | lstore k => exact (zs_lstore X hL hok hd hz).toH hH
    | iinc k n => exact (zs_iinc X hL hok hd hz).toH hH
    | iconst n => exact (zs_iconst X hL hok hd hz).toH hH
    | bipush n => exact (zs_bipush X hL hok hd hz).toH hH
    | sipush n => exact (zs_sipush X hL hok hd hz).toH hH
    | lconst n => exact (zs_lconst X hL hok hd hz).toH hH
    | ldc k => exact (zs_ldc X hL hok hd hz).toH hH
    | ldc_w k => exact (zs_ldc_w X hL hok hd hz).toH hH
    | ldc2_w k => exact (zs_ldc2_w X hL hok hd hz).toH hH
    | getstatic k => exact (zs_getstatic X hL hok hd hz).toH hH
    | getfield k => exact (zs_getfield X hH hL hok hd hz).toH hH
    | putfield k => exact zs_putfield X hH hL hok hd hz
    | iadd => exact (zs_iadd X hL hok hd hz).toH hH
    | isub => exact (zs_isub X hL hok hd hz).toH hH
    | imul => exact (zs_imul X hL hok hd hz).toH hH
    | idiv => exact (zs_idiv X hL hok hd hz).toH hH
    | irem => exact (zs_irem X hL hok hd hz).toH hH
    | iand => exact (zs_iand X hL hok hd hz).toH hH
    | ior => exact (zs_ior X hL hok hd hz).toH hH
    | ixor => exact (zs_ixor X hL hok hd hz).toH hH
    | ishl => exact (zs_ishl X hL hok hd hz).toH hH
    | ishr => exact (zs_ishr X hL hok hd hz).toH hH
    | iushr => exact (zs_iushr X hL hok hd hz).toH hH
    | ineg => exact (zs_ineg X hL hok hd hz).toH hH
    | i2l => exact (zs_i2l X hL hok hd hz).toH hH
    | i2b => exact (zs_i2b X hL hok hd hz).toH hH
    | i2s => exact (zs_i2s X hL hok hd hz).toH hH
    | i2c => exact (zs_i2c X hL hok hd hz).toH hH
    | l2i => exact (zs_l2i X hL hok hd hz).toH hH
    | lneg => exact (zs_lneg X hL hok hd hz).toH hH
    | ladd => exact (zs_ladd X hL hok hd hz).toH hH
    | land => exact (zs_land X hL hok hd hz).toH hH
    | lor => exact (zs_lor X hL hok hd hz).toH hH
    | ldiv => exact (zs_ldiv X hL hok hd hz).toH hH
    | lrem => exact (zs_lrem X hL hok hd hz).toH hH
    | lshl => exact (zs_lshl X hL hok hd hz).toH hH
    | lcmp => exact (zs_lcmp X hL hok hd hz).toH hH
    | dup => exact (zs_dup X hL hok hd hz).toH hH
    | pop => exact (zs_pop X hL hok hd hz).toH hH
    | dup_x1 => exact (zs_dup_x1 X hL hok hd hz).toH hH
    | dup2 => exact (zs_dup2 X hL hok hd hz).toH hH
    | goto off => exact (zs_goto X hL hok hd hz).toH hH
    | ifCond cd off => exact (zs_ifCond X hL hok hd hz).toH hH
    | if_icmp cd off => exact (zs_if_icmp X hL hok hd hz).toH hH
    | tableswitch dflt lo hi offs => exact (zs_tableswitch X hL hok hd hz).toH hH
    | lookupswitch dflt ps => exact (zs_lookupswitch X hL hok hd hz).toH hH
    | iaload => exact (zs_iaload X hH hL hok hd hz).toH hH
    | baload => exact (zs_baload X hH hL hok hd hz).toH hH
    | laload => exact (zs_laload X hH hL hok hd hz).toH hH
    | aaload => exact (zs_aaload X hH hL hok hd hz).toH hH
    | iastore => exact zs_iastore X hH hL hok hd hz
    | bastore => exact zs_bastore X hH hL hok hd hz
    | lastore => exact zs_lastore X hH hL hok hd hz
    | aastore => exact zs_aastore X hH hL hok hd hz
    | arraylength => exact (zs_arraylength X hL hok hd hz).toH hH
    | new k => exact zs_new X hH hL hok hd hz
    | newarray t => exact zs_newarray X hH hL hok hd hz
    | anewarray k => exact zs_anewarray X hH hL hok hd hz
    | invokestatic k => exact zs_invokestatic X hc0 hs0 hH hL hok hd hz
    | invokespecial k => exact (zs_invokespecial X hH hL hok hd hz).toH hH
    | invokevirtual k =>
      simp only [zin, zinv] at hz
      split at hz
      · split at hz
        · split at hz
          · unfold zcall at hz
            split at hz <;> cases hz
          · cases hz
        · cases hz
      · cases hz
    | ireturn =>
      simp only [zin] at hz
      split at hz
      · unfold zret at hz
        split at hz <;> cases hz
      · cases hz
    | lreturn =>
      simp only [zin] at hz
      split at hz
      · unfold zret at hz
        split at hz <;> cases hz
      · cases hz
    | return_ =>
      simp only [zin] at hz
      split at hz
      · unfold zret at hz
        split at hz <;> cases hz
      · cases hz
    | _ => cases hz
  · cases hz
end ZPQ
end
section
/-! SOUNDNESS 12: calls -/
def zcR (z : Nat) : Bool := decide (zrc z = (0, 0)) || (decide (zrc z = (20, 2)) && decide ((zmn z).cls = "java/lang/String")) || (decide (10 ≤ (zrc z).1 ∧ (zrc z).1 < 19) && decide ((zmn z).cls = zcn ((zrc z).1 - 10)) && decide ((zrc z).2 = zNf ((zrc z).1 - 10)))
theorem zcR_ok : (List.range 219).all zcR = true := by decide +kernel
def zwz (z : Nat) : List Cond := Cond.code (zmn z) (zb z) (zml z) (zretT (zrt z)) :: zTG
def zrm (d : Nat) (h h' : Hp) : Room := { frames := d, cells := zN h' - zN h, slots := zM h' - zM h, locals := 60 * d }
def ZPc (E : ZE) (as : List AV) (h : Hp) : Array Value → State → Prop := fun a U => a = (as.map (cv E)).toArray ∧ ZT E U ∧ ZI E U.heap h
def ZQc (E : ZE) (v : Option AV) (h' : Hp) : Array Value → State → Outcome → State → Prop := fun _ st oc t => oc = .returned (v.map (cv E)) ∧ ZI E t.heap h' ∧ va_F (zA E) st t
theorem zwz_good {z : Nat} (h : z < 219) : GoodIn zTG (zwz z) := by
  intro w hw
  have hm : w ∈ zTG := by
    rcases List.mem_cons.mp hw with rfl | hw
    · exact zcode_mem h
    · exact hw
  exact ⟨hm, good_of_word (List.mem_filter.mp hm).2⟩
theorem ZPc.blind {E : ZE} {as : List AV} {h : Hp} : FrameBlind (ZPc E as h) := fun a U g mk q => ⟨q.1, q.2.1.blind g mk a, q.2.2⟩
def zisret (cc : ByteArray) (pc : Nat) (v : Option AV) : Prop := match v with
  | none => decode cc pc = .ok (.return_, 1)
  | some (.inl _) => decode cc pc = .ok (.ireturn, 1)
  | some (.inr (.inl _)) => decode cc pc = .ok (.lreturn, 1)
  | _ => False
theorem zcall_spec {l na z : Nat} {st : List AV} {q : (Nat × List AV × List AV) ⊕ Option AV} (hz : zcall l na z st = some (.inr q)) : l = 3 ∧ na ≤ st.length ∧ zwt (st.drop na) ≤ 8 ∧ q = .inl (z, (st.take na).reverse, st.drop na) := by
  unfold zcall at hz
  split at hz
  · next hc =>
    cases hz
    exact ⟨hc.1, hc.2.1, hc.2.2, rfl⟩
  · cases hz
section ZPX
variable {p : Program} {l0 : Launch} {e : Env} {R : Room} {s : State} {m : MethodId} {args : Array Value} {below : List Frame} {meth : Method} {c : Code} {Q : State → Prop} {E : ZE} {cc : ByteArray} {o pc nL d l cells slots : Nat} {L : LL} {st : List AV} {h : Hp} {h1 : Hp} {H : Heap} {locs : List Loc} {ls : Array Slot} {rest : List Value} {z : Nat} {as r : List AV} {v : Option AV}
theorem zno {L' : LL} {pc' : Nat} {st' : List AV} {h' : Hp} {q : (Nat × List AV × List AV) ⊕ Option AV} (hz : zn pc' L' st' h' = some (.inr q)) : False := by
  unfold zn at hz; cases hz
/-- a call's and a return's act come out of these instructions alone -/
theorem zin_inr {i : Instr} {q : (Nat × List AV × List AV) ⊕ Option AV} (hz : zin d o pc l L st h i = some (.inr q)) : (∃ k, i = .invokevirtual k) ∨ (∃ k, i = .invokestatic k) ∨ (∃ k, i = .invokespecial k) ∨ i = .ireturn ∨ i = .lreturn ∨ i = .return_ := by
  cases i with
  | invokevirtual k => exact Or.inl ⟨k, rfl⟩
  | invokestatic k => exact Or.inr (Or.inl ⟨k, rfl⟩)
  | invokespecial k => exact Or.inr (Or.inr (Or.inl ⟨k, rfl⟩))
  | ireturn => exact Or.inr (Or.inr (Or.inr (Or.inl rfl)))
  | lreturn => exact Or.inr (Or.inr (Or.inr (Or.inr (Or.inl rfl))))
  | return_ => exact Or.inr (Or.inr (Or.inr (Or.inr (Or.inr rfl))))
  | _ =>
    exfalso
    simp only [zin, zld, zsto, zsto2, zc1, zco, zi2, zi2d, zi1, zj1, zj2, zj2d, zji, zjmp, zgetf, zputf, zald, ziast, zbast, zlast, zaast, zalen, znew, znewa, zn] at hz
    repeat' split at hz
    all_goals cases hz
theorem zs_ret (hz : zact d cc o pc L st h = some (.inr (.inr v))) : st = v.toList ∧ zisret cc pc v := by
  unfold zact at hz
  split at hz
  · next i l hd =>
    rcases zin_inr hz with ⟨k, rfl⟩ | ⟨k, rfl⟩ | ⟨k, rfl⟩ | rfl | rfl | rfl
    · simp only [zin, zinv] at hz
      split at hz
      · split at hz
        · split at hz
          · exact absurd (zcall_spec hz).2.2.2 (fun q => by cases q)
          · cases hz
        · cases hz
      · cases hz
    · simp only [zin] at hz
      split at hz
      · unfold zcpy at hz
        split at hz
        · split at hz
          · exact (zno hz).elim
          · cases hz
        · cases hz
      · unfold zmm at hz
        split at hz
        · split at hz
          · exact (zno hz).elim
          · cases hz
        · cases hz
      · unfold zmm at hz
        split at hz
        · split at hz
          · exact (zno hz).elim
          · cases hz
        · cases hz
      · unfold zmab at hz
        split at hz
        · split at hz
          · exact (zno hz).elim
          · cases hz
        · cases hz
      · unfold zmfm at hz
        split at hz
        · split at hz
          · exact (zno hz).elim
          · cases hz
        · cases hz
      · unfold zinvS at hz
        split at hz
        · exact absurd (zcall_spec hz).2.2.2 (fun q => by cases q)
        · exact absurd (zcall_spec hz).2.2.2 (fun q => by cases q)
        · cases hz
    · simp only [zin, zinvI] at hz
      split at hz
      · unfold zoinit at hz
        split at hz
        · split at hz
          · exact (zno hz).elim
          · cases hz
        · cases hz
      · split at hz
        · split at hz
          · exact absurd (zcall_spec hz).2.2.2 (fun q => by cases q)
          · cases hz
        · cases hz
      · cases hz
    · simp only [zin] at hz
      split at hz
      · unfold zret at hz
        split at hz
        · next hl => cases hz; subst hl; exact ⟨rfl, hd⟩
        · cases hz
      · cases hz
    · simp only [zin] at hz
      split at hz
      · unfold zret at hz
        split at hz
        · next hl => cases hz; subst hl; exact ⟨rfl, hd⟩
        · cases hz
      · cases hz
    · simp only [zin] at hz
      split at hz
      · unfold zret at hz
        split at hz
        · next hl => cases hz; subst hl; exact ⟨rfl, hd⟩
        · cases hz
      · cases hz
  · cases hz
theorem zcallW {st0 : List Value} {mc ms : Nat} {aa : Array Value} (hr : va_Run p l0 e R s m args below meth c H locs cells slots mc ms (F0 m pc ls st0) rest (ZQc E v h1 aa) (zA E)) (hS : va_S (zA E) s.heap H locs)
    (kk : ∀ (H1 : Heap) (locs1 : List Loc), ZI E H1 h1 → va_S (zA E) s.heap H1 locs1 → W p l0 e R s m args below meth c H1 locs1 (cells + mc) (slots + ms) Q (F0 m (pc + 3) ls ((v.map (cv E)).toList ++ rest))) : W p l0 e R s m args below meth c H locs cells slots Q (F0 m pc ls st0) := by
  intro T hT X
  obtain ⟨v', st₀, t, T', L, h0, X', hL, e1, e2, ⟨hv, hI1, hz, hk⟩, st⟩ := hr T hT X
  have hv := Outcome.returned.inj hv
  subst hv
  rw [h0] at hz hk
  obtain ⟨t2, a1, b1⟩ := kk T'.heap (locs ++ L) (by rw [e1]; exact hI1) ⟨Nat.le_trans hS.1 (by rw [e1]; exact hz), fun q q1 q2 => by rw [e1, hk q (Nat.lt_of_lt_of_le q1 hS.1) q2]; exact hS.2.1 q q1 q2, fun q hq => by
      rcases List.mem_append.mp hq with hq | hq
      · exact hS.2.2 q hq
      · exact hL q hq⟩ T' rfl X'
  exact ⟨t2, st t2 a1, b1⟩
end ZPX
end
section
/-! SOUNDNESS 13: whole runs -/
section ZPY
variable {p : Program} {l0 : Launch} {e : Env} {R : Room} {s : State} {m : MethodId} {args : Array Value} {below : List Frame} {meth : Method} {c : Code} {Q : State → Prop} {E : ZE} {cc : ByteArray} {o pc nL d l cells slots : Nat} {L : LL} {st : List AV} {h : Hp} {h1 : Hp} {H : Heap} {locs : List Loc} {ls : Array Slot} {rest : List Value} {z : Nat} {as r : List AV} {v : Option AV}
theorem zcZ_of {z : Nat} (hz : z < 219) (h1 : z ≠ 1) : Cond.initialized (zmn z).cls ∈ zTG ∧ (zmn z).cls ≠ "java/lang/invoke/MethodHandle" ∧ (zmn z).cls ≠ "java/lang/invoke/VarHandle" ∧ (parseMethodDescriptor (zmn z).desc).map (fun d => d.parameters.length) = some (zna z) ∧ zcn (zo z % 100) = (zmn z).cls ∧ (100 ≤ zo z → (zmn z).name = "<init>") ∧ zml z ≤ 20 ∧ zrt z ≤ 5 := by
  have q := List.all_eq_true.mp zcZ_ok z (List.mem_range.mpr hz)
  unfold zcZ at q
  simp only [Bool.or_eq_true, Bool.and_eq_true, decide_eq_true_eq] at q
  rcases q with q | ⟨⟨⟨⟨⟨⟨⟨q1, q2⟩, q3⟩, q4⟩, q5⟩, q6⟩, q7⟩, q8⟩
  · exact absurd q h1
  · exact ⟨zck_mem q1, q2, q3, q4, q5, q6, q7, q8⟩
theorem ztake {st : List AV} {n : Nat} {x : AV} (hx : st[n]? = some x) : (st.take (n + 1)).reverse = x :: (st.take n).reverse := by
  rw [List.take_add_one, hx]
  simp
/-- how a call is made, by its kind -/
theorem zs_call (X : ZX E p R s m args meth c cc o nL (d + 1)) (hM : Met l0 (zmn z) (zwz z) (zrm d h h1) (ZPc E as h) (ZQc E v h1) (zN h1 - zN h) (zM h1 - zM h) (zA E)) (hz : zact (d + 1) cc o pc L st h = some (.inr (.inl (z, as, r)))) (hN : zN h ≤ zN h1) (hr1 : cells + (zN h1 - zN h) ≤ R.cells) (hr2 : slots + (zM h1 - zM h) ≤ R.slots)
    (k : ZPt E p l0 e R s m args below meth c nL Q (cells + (zN h1 - zN h)) (slots + (zM h1 - zM h)) (pc + 3) L (v.toList ++ r) h1) : ZPt E p l0 e R s m args below meth c nL Q cells slots pc L st h := by
  obtain ⟨hx, hb, hml, hown, hts, hT, hini, hfr, hlo⟩ := X
  have key : ∀ i kd z, zmth o i = some (kd, z) → ∃ pl, zcM (o % 100) (i, kd, z, pl) = true := by
    intro i kd z hv
    unfold zmth at hv
    obtain ⟨⟨kd', z', pl⟩, h1, h2⟩ := zfind (f := fun a : Nat × Nat × Nat => (a.1, a.2.1)) hv
    have e1 : kd = kd' := (congrArg Prod.fst h2).symm
    have e2 : z = z' := (congrArg Prod.snd h2).symm
    subst e1; subst e2
    exact ⟨pl, zall_of zcM_ok h1⟩
  unfold zact at hz
  split at hz
  · next i l hd =>
    intro H locs ls hI hS hR
    have fixd : CallFix p m c cc nL s args zTG (zcn (o % 100)) := ⟨hx, hb, hml, hown, hts⟩
    have after : ∀ (H1 : Heap) (locs1 : List Loc), ZI E H1 h1 → va_S (zA E) s.heap H1 locs1 → W p l0 e R s m args below meth c H1 locs1 (cells + (zN h1 - zN h)) (slots + (zM h1 - zM h)) Q (F0 m (pc + 3) ls ((v.map (cv E)).toList ++ r.map (cv E))) := by
      intro H1 locs1 hI1 hS1
      have hz1 := hI1.2.1
      have hz0 := hI.2.1
      have hz2 := hS.2
      have q := k H1 locs1 ls hI1 ⟨hS1, by omega⟩ hR
      rw [show (v.toList ++ r).map (cv E) = (v.map (cv E)).toList ++ r.map (cv E) by cases v <;> simp] at q
      exact q
    have hPc : ∀ U : State, U.heap = H → s.WarmedH U.vm → ∀ a, a = (as.map (cv E)).toArray → ZPc E as h a U := fun U hU hW a ha => ⟨ha, hT.moved hU hS.1 hW, by rw [hU]; exact hI⟩
    have room : z < 219 → z ≠ 1 → (zrm d h h1).frames + 1 ≤ R.frames ∧ 8 + (zml z + 11) + (zrm d h h1).locals ≤ R.locals := by
      intro q1 q2
      have q3 := (zcZ_of q1 q2).2.2.2.2.2.2.1
      refine ⟨hfr, ?_⟩
      show 8 + (zml z + 11) + 60 * d ≤ R.locals
      omega
    rcases zin_inr hz with ⟨i, rfl⟩ | ⟨i, rfl⟩ | ⟨i, rfl⟩ | rfl | rfl | rfl
    · simp only [zin, zinv] at hz
      split at hz
      · next z0 hv =>
        split at hz
        · next a ha =>
          split at hz
          · next hc =>
            obtain ⟨hl, hlen, hw8, hq⟩ := zcall_spec hz
            have hq := Sum.inl.inj hq
            have e1 : z = z0 := congrArg Prod.fst hq
            subst e1
            have e2 : as = (st.take (zna z + 1)).reverse := congrArg (fun x => x.2.1) hq
            have e3 : r = st.drop (zna z + 1) := congrArg (fun x => x.2.2) hq
            obtain ⟨pl, h3⟩ := key _ _ _ hv
            simp [zcM] at h3
            obtain ⟨⟨⟨⟨⟨f1, f2⟩, f3⟩, f4⟩, f5⟩, f6⟩ := h3
            obtain ⟨w1, w2, w3, w4, w5, w6, w7, w8⟩ := zcZ_of f1 f2
            rw [ztake ha] at e2
            have recv : ∃ cellB : Cell, H[zad E a]? = some cellB ∧ cellB.vm.isStatics = false ∧ s.vm.findClass (zmn z).cls = some cellB.cls := by
              have q := List.all_eq_true.mp zcR_ok z (List.mem_range.mpr f1)
              unfold zcR at q
              simp only [Bool.or_eq_true, Bool.and_eq_true, decide_eq_true_eq] at q
              rcases q with (q | ⟨q, q'⟩) | ⟨⟨q, q'⟩, q''⟩
              · rw [q] at hc
                exact absurd hc.2.1 (by decide)
              · have ha32 : a < 32 := hc.2.2 (by rw [q])
                have hS0 := hc.1
                rw [q, hI.2.2.2.1 a ha32] at hS0
                obtain ⟨⟨cell, c1, c2, c3, c4⟩, -, -⟩ := hT.2.2.2.2.2.2.1 a ha32 hS0
                have c1' : H[eA E a]? = some cell := by
                  rw [hS.1.2.1 (eA E a) (Array.getElem?_eq_some_iff.mp c1).1 c4]
                  exact c1
                refine ⟨cell, ?_, c2, by rw [q']; exact c3⟩
                unfold zad
                rw [if_pos ha32]
                exact c1'
              · have hci : (zrc z).1 - 10 < 9 := by omega
                have hS0 : zS h a = (10 + ((zrc z).1 - 10), zNf ((zrc z).1 - 10)) := by
                  rw [hc.1]
                  exact Prod.ext (by simp only; omega) (by simp only; exact q'')
                have h32 : 32 ≤ a := zown hI (by rw [hS0]; simp only; omega) (by rw [hS0]; simp only; omega) (by rw [hS0]; simp only; omega) (by rw [hS0]; simp only; omega)
                have he := zws_get (E := E) h32 (zalloc hI (a := a) (by rw [hS0]; simp only; omega))
                rw [zcell_o hS0] at he
                obtain ⟨rr, g1, cell, g2, g3, g4, -⟩ := hI.1 _ _ he
                have hKn := hT.1.1 _ _ (zcls9_get hci)
                refine ⟨cell, g2, by rw [g4]; rfl, ?_⟩
                rw [q', g3]
                exact hKn.2.1
            have stk : st.map (cv E) = (((st.take (zna z)).reverse).map (cv E)).reverse ++ .ref (zad E a) :: r.map (cv E) := by
              have t2 : st.take (zna z + 1) = st.take (zna z) ++ [vR (some a)] := by
                rw [List.take_add_one, ha]; rfl
              have t3 : st = st.take (zna z) ++ (vR (some a) :: st.drop (zna z + 1)) := by
                have t4 := (List.take_append_drop (zna z + 1) st).symm
                rw [t2, List.append_assoc] at t4
                exact t4
              rw [e3, List.map_reverse, List.reverse_reverse]
              have t5 := congrArg (List.map (cv E)) t3
              rw [List.map_append, List.map_cons] at t5
              exact t5
            refine zcallW (rest := r.map (cv E)) (va_runV (C := (zmn z).cls) (b := zad E a) (As := ((st.take (zna z)).reverse).map (cv E)) fixd hM (n := zna z) ⟨callB_of (zna z) hts (zwz_good f1) rfl rfl rfl (hts _ w1) (hts _ (zck_mem f4)) ⟨w2, w3, w4⟩ (room f1 f2), hts _ (zck_mem f5), hts _ (zck_mem f6)⟩ ⟨ZPc.blind, recv, fun U hU hW => hPc U hU hW _ (by rw [e2]; rfl)⟩ rfl (by simp; omega) hR.1 stk (by
              show 2 * 0 + _ ≤ 8
              rw [zwt_cat, e3]; omega) (hl ▸ hd) ⟨hr1, hr2⟩) hS.1 after
          · cases hz
        · cases hz
      · cases hz
    · simp only [zin] at hz
      have stat : ∀ kd z0 pl, zcM (o % 100) (i, kd, z0, pl) = true → (kd = 2 ∨ kd = 5) → zcall l (zna z0) z0 st = some (.inr (.inl (z, as, r))) → W p l0 e R s m args below meth c H locs cells slots Q (F0 m pc ls (st.map (cv E))) := by
        intro kd z0 pl h3 hkd hz
        obtain ⟨hl, hlen, hw8, hq⟩ := zcall_spec hz
        have hq := Sum.inl.inj hq
        have e1 : z = z0 := congrArg Prod.fst hq
        subst e1
        have e2 : as = (st.take (zna z)).reverse := congrArg (fun x => x.2.1) hq
        have e3 : r = st.drop (zna z) := congrArg (fun x => x.2.2) hq
        have stk : st.map (cv E) = (as.map (cv E)).reverse ++ r.map (cv E) := by
          rw [e2, e3, List.map_reverse, List.reverse_reverse, ← List.map_append, List.take_append_drop]
        rcases hkd with rfl | rfl
        · simp [zcM] at h3
          obtain ⟨⟨⟨⟨f1, f2⟩, f3⟩, f4⟩, f5⟩ := h3
          obtain ⟨w1, w2, w3, w4, w5, w6, w7, w8⟩ := zcZ_of f1 f2
          exact zcallW (rest := r.map (cv E)) (va_runS (As := as.map (cv E)) fixd hM (n := zna z) ⟨callB_of (zna z) hts (zwz_good f1) rfl rfl rfl (hts _ w1) (hts _ (zck_mem f4)) ⟨w2, w3, w4⟩ (room f1 f2), hts _ (zck_mem f5)⟩ ⟨ZPc.blind, fun U hU hW => hPc U hU hW _ rfl⟩ rfl (by rw [e2]; simp; omega) hR.1 stk (by
              show 2 * 0 + _ ≤ 8
              rw [zwt_cat, e3]; omega) (hl ▸ hd) ⟨hr1, hr2⟩) hS.1 after
        · simp [zcM] at h3
          obtain ⟨⟨⟨⟨f1, f2⟩, f3⟩, f4⟩, f5⟩ := h3
          obtain ⟨w1, w2, w3, w4, w5, w6, w7, w8⟩ := zcZ_of f1 f2
          exact zcallW (rest := r.map (cv E)) (va_runSN (As := as.map (cv E)) fixd hM (n := zna z) ⟨va_cnB (zna z) hts (zwz_good f1) rfl rfl rfl (hT.2.2.1 _ (zckN_mem f4)) (hts _ w1) ⟨w2, w3, w4⟩ (room f1 f2), hts _ (zck_mem f5), trivial⟩ ⟨ZPc.blind, fun U hU hW => hPc U hU hW _ rfl⟩ rfl (by rw [e2]; simp; omega) hR.1 stk (by
              show 2 * 0 + _ ≤ 8
              rw [zwt_cat, e3]; omega) (hl ▸ hd) ⟨hr1, hr2⟩) hS.1 after
      split at hz
      · unfold zcpy at hz
        split at hz
        · split at hz
          · exact (zno hz).elim
          · cases hz
        · cases hz
      · unfold zmm at hz
        split at hz
        · split at hz
          · exact (zno hz).elim
          · cases hz
        · cases hz
      · unfold zmm at hz
        split at hz
        · split at hz
          · exact (zno hz).elim
          · cases hz
        · cases hz
      · unfold zmab at hz
        split at hz
        · split at hz
          · exact (zno hz).elim
          · cases hz
        · cases hz
      · unfold zmfm at hz
        split at hz
        · split at hz
          · exact (zno hz).elim
          · cases hz
        · cases hz
      · unfold zinvS at hz
        split at hz
        · next z0 hv =>
          obtain ⟨pl, h3⟩ := key _ _ _ hv
          exact stat 2 z0 pl h3 (Or.inl rfl) hz
        · next z0 hv =>
          obtain ⟨pl, h3⟩ := key _ _ _ hv
          exact stat 5 z0 pl h3 (Or.inr rfl) hz
        · cases hz
    · simp only [zin, zinvI] at hz
      split at hz
      · unfold zoinit at hz
        split at hz
        · split at hz
          · exact (zno hz).elim
          · cases hz
        · cases hz
      · next kd z0 hnot hv =>
        split at hz
        · next hkd =>
          split at hz
          · next a ha =>
            obtain ⟨hl, hlen, hw8, hq⟩ := zcall_spec hz
            have hq := Sum.inl.inj hq
            have e1 : z = z0 := congrArg Prod.fst hq
            subst e1
            have e2 : as = (st.take (zna z + 1)).reverse := congrArg (fun x => x.2.1) hq
            have e3 : r = st.drop (zna z + 1) := congrArg (fun x => x.2.2) hq
            obtain ⟨pl, h3⟩ := key _ _ _ hv
            rw [ztake ha] at e2
            have stk : st.map (cv E) = (((st.take (zna z)).reverse).map (cv E)).reverse ++ .ref (zad E a) :: r.map (cv E) := by
              have t2 : st.take (zna z + 1) = st.take (zna z) ++ [vR (some a)] := by
                rw [List.take_add_one, ha]; rfl
              have t3 : st = st.take (zna z) ++ (vR (some a) :: st.drop (zna z + 1)) := by
                have t4 := (List.take_append_drop (zna z + 1) st).symm
                rw [t2, List.append_assoc] at t4
                exact t4
              rw [e3, List.map_reverse, List.reverse_reverse]
              have t5 := congrArg (List.map (cv E)) t3
              rw [List.map_append, List.map_cons] at t5
              exact t5
            rcases hkd with rfl | rfl
            · simp [zcM] at h3
              obtain ⟨⟨⟨⟨⟨⟨f1, f2⟩, f3⟩, f4⟩, f5⟩, f6⟩, f7⟩ := h3
              obtain ⟨w1, w2, w3, w4, w5, w6, w7, w8⟩ := zcZ_of f1 f2
              have hwz : zwz z = Cond.code (zmn z) (zb z) (zml z) none :: zTG := by unfold zwz; rw [f7]; rfl
              exact zcallW (rest := r.map (cv E)) (va_runI (b := zad E a) (As := ((st.take (zna z)).reverse).map (cv E)) fixd hM (n := zna z) ⟨callB_of (zna z) hts (zwz_good f1) hwz rfl rfl (hts _ w1) (hts _ (zck_mem f4)) ⟨w2, w3, w4⟩ (room f1 f2), f6, hts _ (zck_mem f5)⟩ ⟨ZPc.blind, fun U hU hW => hPc U hU hW _ (by rw [e2]; rfl)⟩ rfl (by simp; omega) hR.1 stk (by
                show 2 * 0 + _ ≤ 8
                rw [zwt_cat, e3]; omega) (hl ▸ hd) ⟨hr1, hr2⟩) hS.1 after
            · simp [zcM] at h3
              obtain ⟨⟨⟨⟨⟨⟨f1, f2⟩, f3⟩, f4⟩, f5⟩, f6⟩, f7⟩ := h3
              obtain ⟨w1, w2, w3, w4, w5, w6, w7, w8⟩ := zcZ_of f1 f2
              have hwz : zwz z = Cond.code (zmn z) (zb z) (zml z) none :: zTG := by unfold zwz; rw [f7]; rfl
              exact zcallW (rest := r.map (cv E)) (va_runIN (b := zad E a) (As := ((st.take (zna z)).reverse).map (cv E)) fixd hM (n := zna z) ⟨va_cnB (zna z) hts (zwz_good f1) hwz rfl rfl (hT.2.2.1 _ (zckN_mem f4)) (hts _ w1) ⟨w2, w3, w4⟩ (room f1 f2), f6, hts _ (zck_mem f5)⟩ ⟨ZPc.blind, fun U hU hW => hPc U hU hW _ (by rw [e2]; rfl)⟩ rfl (by simp; omega) hR.1 stk (by
                show 2 * 0 + _ ≤ 8
                rw [zwt_cat, e3]; omega) (hl ▸ hd) ⟨hr1, hr2⟩) hS.1 after
          · cases hz
        · cases hz
      · cases hz
    · simp only [zin] at hz
      split at hz
      · unfold zret at hz
        split at hz <;> cases hz
      · cases hz
    · simp only [zin] at hz
      split at hz
      · unfold zret at hz
        split at hz <;> cases hz
      · cases hz
    · simp only [zin] at hz
      split at hz
      · unfold zret at hz
        split at hz <;> cases hz
      · cases hz
  · cases hz
end ZPY
end
section
/-! SOUNDNESS 14: what a step leaves in order, without a machine -/
section ZPO
variable {cc : ByteArray} {d o pc l : Nat} {L : LL} {st : List AV} {h : Hp} {pc' : Nat} {L' : LL} {st' : List AV} {h' : Hp}
def ZK (h : Hp) (h' : Hp) (L' : LL) (st' : List AV) : Prop := zN h ≤ zN h' ∧ zM h ≤ zM h' ∧ okH h' ∧ okL L' ∧ okst st'
theorem zok_cp {a sp b dp n : Nat} (hH : okH h) : okH (zcpV h a sp b dp n) := by
  intro x y
  show zr (if x = b ∧ dp ≤ y ∧ y < dp + n then zV h a (sp + (y - dp)) else zV h x y)
  split
  · exact hH _ _
  · exact hH _ _
theorem zstat_ok {k : Nat} {v : AV} (hv : zstat o k = some v) : okv v := by
  unfold zstat at hv
  obtain ⟨⟨j, nst, pl⟩, h1, h2⟩ := zfind (f := fun a : Nat × Bool × Nat => (zstats.getD a.1 ("", "", "", vI 0)).2.2.2) hv
  have h3 := zall_of zcS_ok h1
  unfold zcS at h3
  simp only [Bool.and_eq_true, decide_eq_true_eq] at h3
  have hv : (zstq j).2.2.2 = v := h2
  rw [← hv]
  exact zstq_ok _ (zstq_mem h3.1)
theorem zldc_ok {k : Nat} {v : AV} (hv : zldc o k = some v) : okv v := by
  unfold zldc at hv
  obtain ⟨⟨w, pl⟩, h1, h2⟩ := zfind (f := fun a : AV × Nat => a.1) hv
  subst h2
  have h3 := zall_of zcL_ok h1
  unfold zcL at h3
  rcases w with x | x | x
  · simp only [Bool.and_eq_true, decide_eq_true_eq] at h3
    exact h3.1
  · exact trivial
  · exact trivial
theorem zin_ok {i : Instr} (hH : okH h) (hL : okL L) (hok : okst st) (hz : zin d o pc l L st h i = some (.inl (pc', L', st', h'))) : ZK h h' L' st' := by
  unfold ZK
  cases i
  case ldc k =>
    simp only [zin, zco] at hz
    split at hz
    · next v hv =>
      unfold zc1 zn at hz
      split at hz
      · cases hz
        exact ⟨Nat.le_refl _, Nat.le_refl _, hH, hL, okst_m (zldc_ok hv) hok⟩
      · cases hz
    · cases hz
  case ldc_w k =>
    simp only [zin] at hz
    split at hz
    · next v hv =>
      unfold zc1 zn at hz
      split at hz
      · cases hz
        exact ⟨Nat.le_refl _, Nat.le_refl _, hH, hL, okst_m (zldc_ok hv) hok⟩
      · cases hz
    · cases hz
  case ldc2_w k =>
    simp only [zin, zco] at hz
    split at hz
    · next v hv =>
      unfold zc1 zn at hz
      split at hz
      · cases hz
        cases hw : zldc2 o k with
        | none => rw [hw] at hv; cases hv
        | some x => rw [hw] at hv; cases hv; exact ⟨Nat.le_refl _, Nat.le_refl _, hH, hL, okst_m trivial hok⟩
      · cases hz
    · cases hz
  case getstatic k =>
    simp only [zin, zco] at hz
    split at hz
    · next w hw =>
      cases hv : zstat o k with
      | none => rw [hv] at hw; cases hw
      | some v =>
        rw [hv] at hw
        cases hw
        unfold zc1 zn at hz
        split at hz
        · cases hz
          exact ⟨Nat.le_refl _, Nat.le_refl _, hH, hL, okst_m (zstv_ok (zstat_ok hv)) hok⟩
        · cases hz
    · cases hz
  case aload_n k =>
    simp only [zin, zld] at hz
    split at hz
    · split at hz
      · next v hv => unfold zn at hz; cases hz; exact ⟨Nat.le_refl _, Nat.le_refl _, hH, hL, okst_m (hL _ v (zget_some hv).1) hok⟩
      · cases hz
    · cases hz
  case iload_n k =>
    simp only [zin, zld] at hz
    split at hz
    · split at hz
      · next v hv => unfold zn at hz; cases hz; exact ⟨Nat.le_refl _, Nat.le_refl _, hH, hL, okst_m (hL _ v (zget_some hv).1) hok⟩
      · cases hz
    · cases hz
  case lload_n k =>
    simp only [zin, zld] at hz
    split at hz
    · split at hz
      · next v hv => unfold zn at hz; cases hz; exact ⟨Nat.le_refl _, Nat.le_refl _, hH, hL, okst_m (hL _ v (zget_some hv).1) hok⟩
      · cases hz
    · cases hz
  case aload k =>
    simp only [zin, zld] at hz
    split at hz
    · split at hz
      · next v hv => unfold zn at hz; cases hz; exact ⟨Nat.le_refl _, Nat.le_refl _, hH, hL, okst_m (hL _ v (zget_some hv).1) hok⟩
      · cases hz
    · cases hz
  case iload k =>
    simp only [zin, zld] at hz
    split at hz
    · split at hz
      · next v hv => unfold zn at hz; cases hz; exact ⟨Nat.le_refl _, Nat.le_refl _, hH, hL, okst_m (hL _ v (zget_some hv).1) hok⟩
      · cases hz
    · cases hz
  case lload k =>
    simp only [zin, zld] at hz
    split at hz
    · split at hz
      · next v hv => unfold zn at hz; cases hz; exact ⟨Nat.le_refl _, Nat.le_refl _, hH, hL, okst_m (hL _ v (zget_some hv).1) hok⟩
      · cases hz
    · cases hz
  all_goals
    simp only [zin, zsto, zsto2, zc1, zi2, zi2d, zi1, zj1, zj2, zj2d, zji, zjmp, zgetf, zputf, zald, ziast, zbast, zlast, zaast, zalen, znew, znewa, zinv, zinvS, zinvI, zcall, zoinit, zcpy, zmm, zmab, zmfm, zret] at hz
    repeat' split at hz
  all_goals (first | (cases hz; done) | skip)
  all_goals (unfold zn at hz; cases hz)
  all_goals refine ⟨?_, ?_, ?_, ?_, ?_⟩
  all_goals (first
    | exact Nat.le_refl _
    | exact Nat.le_succ _
    | exact Nat.le_add_right _ _
    | exact hH
    | exact hL
    | exact hok
    | exact hH.mk
    | exact hH.setV (okst_c hok).1
    | exact zok_cp hH
    | exact (okst_c hok).2
    | exact (okst_c (okst_c hok).2).2
    | exact (okst_c (okst_c (okst_c hok).2).2).2
    | exact (okst_c (okst_c (okst_c (okst_c (okst_c hok).2).2).2).2).2
    | exact hL.set (okst_c hok).1
    | exact (hL.set (okst_c hok).1).setN
    | exact hL.set (zr_zw _)
    | exact okst_m (zr_zw _) hok
    | exact okst_m (zr_toInt _) hok
    | exact okst_m trivial hok
    | exact okst_m trivial (okst_c hok).2
    | exact okst_m (zr_zw _) (okst_c hok).2
    | exact okst_m (zr_toInt _) (okst_c hok).2
    | exact okst_m trivial (okst_c (okst_c hok).2).2
    | exact okst_m (zr_zw _) (okst_c (okst_c hok).2).2
    | exact okst_m (zr_toInt _) (okst_c (okst_c hok).2).2
    | exact okst_m (hH _ _) (okst_c (okst_c hok).2).2
    | exact okst_m (okv_zfv hH) (okst_c hok).2
    | exact okst_m (okst_c hok).1 hok
    | exact okst_m (okst_c hok).1 (okst_m (okst_c (okst_c hok).2).1 (okst_m (okst_c hok).1 (okst_c (okst_c hok).2).2))
    | exact okst_m (okst_c hok).1 (okst_m (okst_c (okst_c hok).2).1 hok)
    | exact okst_m (okst_c hok).1 (okst_c (okst_c hok).2).2
    | exact okst_m (okst_c (okst_c hok).2).1 (okst_c (okst_c hok).2).2
    | exact okst_m (show zr _ by unfold zr; omega) (okst_c hok).2
    | (rename_i heq hcond
       rw [heq] at hok
       first
         | exact okst_m trivial (okst_c (okst_c hok).2).2
         | exact okst_m (hH _ _) (okst_c (okst_c hok).2).2))
end ZPO
end
section
/-! SOUNDNESS 15: THE THEOREM: what the abstract machine answers, the machine does -/
theorem zact_ok {d : Nat} {cc : ByteArray} {o pc : Nat} {L : LL} {st : List AV} {h : Hp} {pc' : Nat} {L' : LL} {st' : List AV} {h' : Hp} (hH : okH h) (hL : okL L) (hok : okst st) (hz : zact d cc o pc L st h = some (.inl (pc', L', st', h'))) : ZK h h' L' st' := by
  unfold zact at hz
  split at hz
  · exact zin_ok hH hL hok hz
  · cases hz
theorem zcall_ok {d : Nat} {cc : ByteArray} {o pc : Nat} {L : LL} {st : List AV} {h : Hp} {z : Nat} {as r : List AV} (hok : okst st) (hz : zact d cc o pc L st h = some (.inr (.inl (z, as, r)))) : z < 219 ∧ z ≠ 1 ∧ _root_.Jvm.plainName (zmn z).cls = true ∧ okst as ∧ okst r := by
  have key : ∀ i kd z, zmth o i = some (kd, z) → ∃ pl, zcM (o % 100) (i, kd, z, pl) = true := by
    intro i kd z hv
    unfold zmth at hv
    obtain ⟨⟨kd', z', pl⟩, h1, h2⟩ := zfind (f := fun a : Nat × Nat × Nat => (a.1, a.2.1)) hv
    have e1 : kd = kd' := (congrArg Prod.fst h2).symm
    have e2 : z = z' := (congrArg Prod.snd h2).symm
    subst e1; subst e2
    exact ⟨pl, zall_of zcM_ok h1⟩
  have fin : ∀ l na z0, zcall l na z0 st = some (.inr (.inl (z, as, r))) → z = z0 ∧ okst as ∧ okst r := by
    intro l na z0 hz
    obtain ⟨-, -, -, hq⟩ := zcall_spec hz
    have hq := Sum.inl.inj hq
    have e2 : as = (st.take na).reverse := congrArg (fun x => x.2.1) hq
    have e3 : r = st.drop na := congrArg (fun x => x.2.2) hq
    refine ⟨congrArg Prod.fst hq, fun v hv => ?_, fun v hv => ?_⟩
    · rw [e2] at hv
      exact hok v (List.mem_of_mem_take (List.mem_reverse.mp hv))
    · rw [e3] at hv
      exact hok v (List.mem_of_mem_drop hv)
  unfold zact at hz
  split at hz
  · next i l hd =>
    rcases zin_inr hz with ⟨i, rfl⟩ | ⟨i, rfl⟩ | ⟨i, rfl⟩ | rfl | rfl | rfl
    · simp only [zin, zinv] at hz
      split at hz
      · next z0 hv =>
        split at hz
        · split at hz
          · obtain ⟨e1, q1, q2⟩ := fin _ _ _ hz
            subst e1
            obtain ⟨pl, h3⟩ := key _ _ _ hv
            simp [zcM] at h3
            exact ⟨h3.1.1.1.1.1, h3.1.1.1.1.2, h3.1.1.1.2, q1, q2⟩
          · cases hz
        · cases hz
      · cases hz
    · simp only [zin] at hz
      split at hz
      · unfold zcpy at hz
        split at hz
        · split at hz
          · exact (zno hz).elim
          · cases hz
        · cases hz
      · unfold zmm at hz
        split at hz
        · split at hz
          · exact (zno hz).elim
          · cases hz
        · cases hz
      · unfold zmm at hz
        split at hz
        · split at hz
          · exact (zno hz).elim
          · cases hz
        · cases hz
      · unfold zmab at hz
        split at hz
        · split at hz
          · exact (zno hz).elim
          · cases hz
        · cases hz
      · unfold zmfm at hz
        split at hz
        · split at hz
          · exact (zno hz).elim
          · cases hz
        · cases hz
      · unfold zinvS at hz
        split at hz
        · next z0 hv =>
          obtain ⟨e1, q1, q2⟩ := fin _ _ _ hz
          subst e1
          obtain ⟨pl, h3⟩ := key _ _ _ hv
          simp [zcM] at h3
          exact ⟨h3.1.1.1.1, h3.1.1.1.2, h3.1.1.2, q1, q2⟩
        · next z0 hv =>
          obtain ⟨e1, q1, q2⟩ := fin _ _ _ hz
          subst e1
          obtain ⟨pl, h3⟩ := key _ _ _ hv
          simp [zcM] at h3
          exact ⟨h3.1.1.1.1, h3.1.1.1.2, h3.1.1.2, q1, q2⟩
        · cases hz
    · simp only [zin, zinvI] at hz
      split at hz
      · unfold zoinit at hz
        split at hz
        · split at hz
          · exact (zno hz).elim
          · cases hz
        · cases hz
      · next kd z0 hnot hv =>
        split at hz
        · next hkd =>
          split at hz
          · obtain ⟨e1, q1, q2⟩ := fin _ _ _ hz
            subst e1
            obtain ⟨pl, h3⟩ := key _ _ _ hv
            rcases hkd with rfl | rfl
            · simp [zcM] at h3
              exact ⟨h3.1.1.1.1.1.1, h3.1.1.1.1.1.2, h3.1.1.1.1.2, q1, q2⟩
            · simp [zcM] at h3
              exact ⟨h3.1.1.1.1.1.1, h3.1.1.1.1.1.2, h3.1.1.1.1.2, q1, q2⟩
          · cases hz
        · cases hz
      · cases hz
    · simp only [zin] at hz
      split at hz
      · unfold zret at hz
        split at hz <;> cases hz
      · cases hz
    · simp only [zin] at hz
      split at hz
      · unfold zret at hz
        split at hz <;> cases hz
      · cases hz
    · simp only [zin] at hz
      split at hz
      · unfold zret at hz
        split at hz <;> cases hz
      · cases hz
  · cases hz
theorem zrun_succ (n : Nat) : zrun (n + 1) = zstep (zrun n) := rfl
/-- a run keeps order -/
theorem zrun_ok : ∀ (n d : Nat) (cc : ByteArray) (o pc : Nat) (L : LL) (st : List AV) (h : Hp) (v : Option AV) (h' : Hp), zrun n d cc o pc L st h = some (v, h') → okH h → okL L → okst st → zN h ≤ zN h' ∧ zM h ≤ zM h' ∧ okH h' ∧ okst v.toList := by
  intro n
  induction n with
  | zero => intro d cc o pc L st h v h' hr; cases hr
  | succ n ih =>
    intro d cc o pc L st h v h' hr hH hL hok
    rw [zrun_succ] at hr
    unfold zstep at hr
    split at hr
    · cases hr
    · next pc1 L1 st1 h1 hz =>
      obtain ⟨a1, a2, a3, a4, a5⟩ := zact_ok hH hL hok hz
      obtain ⟨b1, b2, b3, b4⟩ := ih d cc o pc1 L1 st1 h1 v h' hr a3 a4 a5
      exact ⟨Nat.le_trans a1 b1, Nat.le_trans a2 b2, b3, b4⟩
    · next z as r hz =>
      obtain ⟨-, -, -, ha, hr'⟩ := zcall_ok hok hz
      split at hr
      · cases hr
      · split at hr
        · split at hr
          · next d' hlen v1 h1 hr1 =>
            split at hr
            · obtain ⟨a1, a2, a3, a4⟩ := ih _ _ _ _ _ _ _ _ _ hr1 hH (okL.entry ha) (fun _ q => by cases q)
              obtain ⟨b1, b2, b3, b4⟩ := ih _ _ _ _ _ _ _ _ _ hr a3 hL (fun w hw => by
                rcases List.mem_append.mp hw with hw | hw
                · exact a4 w hw
                · exact hr' w hw)
              exact ⟨Nat.le_trans a1 b1, Nat.le_trans a2 b2, b3, b4⟩
            · cases hr
          · cases hr
        · cases hr
    · next v1 hz =>
      cases hr
      exact ⟨Nat.le_refl _, Nat.le_refl _, hH, by rw [← (zs_ret hz).1]; exact hok⟩
end
section
theorem zretok_cases {t : Nat} {v : Option AV} (h : zretok t v = true) : (t = 0 ∧ v = none) ∨ (t = 1 ∧ ∃ x, v = some (.inl x)) ∨ (t = 2 ∧ (v = some (.inl 0) ∨ v = some (.inl 1))) ∨ (t = 3 ∧ ∃ x : Nat, x < 65536 ∧ v = some (.inl (x : Int))) ∨ (t = 4 ∧ ∃ x, v = some (.inr (.inl x))) ∨ (t = 5 ∧ v = some (.inl 0)) := by
  unfold zretok at h
  split at h
  · exact Or.inl ⟨rfl, rfl⟩
  · exact Or.inr (Or.inl ⟨rfl, _, rfl⟩)
  · rcases of_decide_eq_true h with rfl | rfl
    · exact Or.inr (Or.inr (Or.inl ⟨rfl, Or.inl rfl⟩))
    · exact Or.inr (Or.inr (Or.inl ⟨rfl, Or.inr rfl⟩))
  · next x =>
    obtain ⟨q1, q2⟩ := of_decide_eq_true h
    exact Or.inr (Or.inr (Or.inr (Or.inl ⟨rfl, x.toNat, by omega, by rw [Int.toNat_of_nonneg q1]⟩)))
  · exact Or.inr (Or.inr (Or.inr (Or.inr (Or.inl ⟨rfl, _, rfl⟩))))
  · have := of_decide_eq_true h
    subst this
    exact Or.inr (Or.inr (Or.inr (Or.inr (Or.inr ⟨rfl, rfl⟩))))
  · cases h
/-- the end of a method -/
theorem zend {E : ZE} {p : Program} {l : Launch} {e : Env} {R : Room} {s : State} {m : MethodId} {args : Array Value} {below : List Frame} {meth : Method} {c : Code} {cc : ByteArray} {cells slots pc t : Nat} {v : Option AV} {h' : Hp} {H : Heap} {locs : List Loc} {ls : Array Slot}
    (hx : p.tables.exec = Jvm.exec) (hb : c.code = cc) (hr : meth.sig.returnType = zretT t) (hlocks : meth.locks = false) (hv : zretok t v = true) (hd : zisret cc pc v) (hI : ZI E H h') (hS : va_S (zA E) s.heap H locs) : W p l e R s m args below meth c H locs cells slots (MQ below (ZQc E v h') args s cells slots (zA E)) (F0 m pc ls (v.toList.map (cv E))) := by
  have hq : ∀ u : State, u.heap = H → s.WarmedH u.vm → ZQc E v h' args s (.returned (v.map (cv E))) u := fun u hu _ => ⟨rfl, by rw [hu]; exact hI, hS.F hu⟩
  rcases zretok_cases hv with ⟨rfl, rfl⟩ | ⟨rfl, x, rfl⟩ | ⟨rfl, rfl | rfl⟩ | ⟨rfl, x, hx2, rfl⟩ | ⟨rfl, x, rfl⟩ | ⟨rfl, rfl⟩
  · exact W.vret hx hb hr hq hS.2.2 hd hlocks
  · exact W.iret hx hb hr hq hS.2.2 hd hlocks
  · exact W.zret hx hb hr (by decide +kernel) hq hS.2.2 hd hlocks
  · exact W.zret hx hb hr (by decide +kernel) hq hS.2.2 hd hlocks
  · refine W.zret hx hb hr ?_ hq hS.2.2 hd hlocks
    rw [zi_nat]
    exact (pk_charN hx2).1
  · exact W.lret hx hb hr hq hS.2.2 hd hlocks
  · exact W.zret hx hb hr (by decide +kernel) hq hS.2.2 hd hlocks
/-- **THE SIMULATION** -/
theorem zsim {E : ZE} {l : Launch} : ∀ (n d : Nat) (cc : ByteArray) (o pc : Nat) (L : LL) (st : List AV) (h : Hp) (v : Option AV) (h' : Hp), zrun n d cc o pc L st h = some (v, h') → okH h → okL L → okst st →
    ∀ {p : Program} {e : Env} {R : Room} {s : State} {m : MethodId} {args : Array Value} {below : List Frame} {meth : Method} {c : Code} {Q : State → Prop} {nL cells slots : Nat}, ZX E p R s m args meth c cc o nL d → cells + (zN h' - zN h) ≤ R.cells → slots + (zM h' - zM h) ≤ R.slots →
    (∀ (pcr : Nat) (Lr : LL), zisret cc pcr v → ZPt E p l e R s m args below meth c nL Q (cells + (zN h' - zN h)) (slots + (zM h' - zM h)) pcr Lr v.toList h') → ZPt E p l e R s m args below meth c nL Q cells slots pc L st h := by
  intro n
  induction n with
  | zero => intro d cc o pc L st h v h' hr; cases hr
  | succ n ih =>
    intro d cc o pc L st h v h' hr hH hL hok p e R s m args below meth c Q nL cells slots X hr1 hr2 K
    rw [zrun_succ] at hr
    unfold zstep at hr
    split at hr
    · cases hr
    · next pc1 L1 st1 h1 hz =>
      obtain ⟨a1, a2, a3, a4, a5⟩ := zact_ok hH hL hok hz
      obtain ⟨b1, b2, b3, b4⟩ := zrun_ok n d cc o pc1 L1 st1 h1 v h' hr a3 a4 a5
      obtain ⟨-, -, -, -, -, k⟩ := zs_step (l0 := l) (e := e) (below := below) (Q := Q) (nL := nL) (cells := cells) (slots := slots) X (by omega) (by omega) hH hL hok hz
      refine k (by omega) (by omega) (ih d cc o pc1 L1 st1 h1 v h' hr a3 a4 a5 X (by omega) (by omega) fun pcr Lr hd => ?_)
      have q := K pcr Lr hd
      rw [show cells + (zN h1 - zN h) + (zN h' - zN h1) = cells + (zN h' - zN h) by omega, show slots + (zM h1 - zM h) + (zM h' - zM h1) = slots + (zM h' - zM h) by omega]
      exact q
    · next z as r hz =>
      obtain ⟨hz219, hz1, hpl, ha, hr'⟩ := zcall_ok hok hz
      split at hr
      · cases hr
      · rename_i d'
        split at hr
        · next hlen =>
          split at hr
          · next v1 h1 hc1 =>
            split at hr
            · next hret =>
              obtain ⟨a1, a2, a3, a4⟩ := zrun_ok _ _ _ _ _ _ _ _ _ _ hc1 hH (okL.entry ha) (fun _ q => by cases q)
              have hokr : okst (v1.toList ++ r) := fun w hw => by
                rcases List.mem_append.mp hw with hw | hw
                · exact a4 w hw
                · exact hr' w hw
              obtain ⟨b1, b2, b3, b4⟩ := zrun_ok _ _ _ _ _ _ _ _ _ _ hr a3 hL hokr
              obtain ⟨w1, w2, w3, w4, w5, w6, w7, w8⟩ := zcZ_of hz219 hz1
              have hM : Met l (zmn z) (zwz z) (zrm d' h h1) (ZPc E as h) (ZQc E v1 h1) (zN h1 - zN h) (zM h1 - zM h) (zA E) := by
                refine Met.ofW (cc := zb z) (maxL := zml z) (ret := zretT (zrt z)) hpl rfl ?_
                intro p2 e2 s2 m2 args2 below2 meth2 c2 s3 B hml hv
                obtain ⟨rfl, hT2, hI2⟩ := hv
                have X2 : ZX E p2 (headSpec (zwz z) (zrm d' h h1)).room s2 m2 (as.map (cv E)).toArray meth2 c2 (zb z) (zo z) (zml z) d' :=
                  ⟨B.exec, B.bytes, hml, by rw [w5]; exact findClass_of_methodNamed B.named, fun w hw => atoms_spec (ws := zwz z) B.pre w (List.mem_cons_of_mem _ hw), hT2, fun hq => by rw [(name_of_methodNamed B.named B.method).1]; exact w6 hq, Nat.le_refl _, Nat.le_refl _⟩
                rw [lg_entry_eq]
                have q := ih d' (zb z) (zo z) 0 (zent (zml z) as) [] h v1 h1 hc1 hH (okL.entry ha) (fun _ q => by cases q) (Q := MQ below2 (ZQc E v1 h1) (as.map (cv E)).toArray s2 (zN h1 - zN h) (zM h1 - zM h) (zA E)) (below := below2) (e := e2) (cells := 0) (slots := 0) X2 (by rw [Nat.zero_add]; exact Nat.le_refl _) (by rw [Nat.zero_add]; exact Nat.le_refl _) (fun pcr Lr hd => by
                  intro H locs ls hI hS hR
                  rw [Nat.zero_add, Nat.zero_add]
                  exact zend B.exec B.bytes B.returns B.notSynchronized hret hd hI hS.1)
                exact q s2.heap [] _ hI2 ⟨va_S.rf, rfl⟩ (LRel.entry E hlen)
              refine zs_call X hM hz a1 (by omega) (by omega) (ih _ _ _ _ _ _ _ _ _ hr a3 hL hokr X (by omega) (by omega) fun pcr Lr hd => ?_)
              have q := K pcr Lr hd
              rw [show cells + (zN h1 - zN h) + (zN h' - zN h1) = cells + (zN h' - zN h) by omega, show slots + (zM h1 - zM h) + (zM h' - zM h1) = slots + (zM h' - zM h) by omega]
              exact q
            · cases hr
          · cases hr
        · cases hr
    · next v1 hz =>
      cases hr
      obtain ⟨e1, hd⟩ := zs_ret hz
      have q := K pc L hd
      rw [Nat.sub_self, Nat.sub_self, Nat.add_zero, Nat.add_zero, ← e1] at q
      exact q
end
section
/-! THE CLAIM OUT OF ONE WALK OF THE LAW'S BODY. Your part is whole_start (and what it stands on); all else here is the same for every law, but numbers. -/
def R_law : String := "HatterTunesLaw"
def lw_P (b : Addr) (xs : List Int32) (args : Array Value) (s : State) : Prop := args = #[.ref b] ∧ s.IntsAt b xs ∧ xs.length ≤ 3072 ∧ (Jvm.Cond.and given_1 narrow_1).before args s = true
def lw_Q (_ : Array Value) (s : State) (o : Outcome) (t : State) : Prop := o = .returned (some (.int 1)) ∧ Framed s o t [] 600000 7302249
def lw_Z (below : List Frame) (a : Array Value) (s : State) : State → Prop := fun t => ∃ o, t.status = .running ∧ Ended t below o ∧ lw_Q a s o t
/-- the law's own end, with 1 on the stack, nothing written that was there before, its room as the claim has it -/
theorem lw_ret {p : Program} {l : Launch} {e : Env} {s : State} {m : MethodId} {below : List Frame} {meth : Method} {c : Code} {b : Nat} (hx : p.tables.exec = Jvm.exec) (hb : c.code = code) (hr : meth.sig.returnType = ret) (hlocks : meth.locks = false) {pc : Nat} {H : Heap} {ls : Array Slot} (hdg : decode code pc = .ok (.ireturn, 1)) : W p l e room_1 s m #[Value.ref b] below meth c H [] 600000 7302249 (lw_Z below #[Value.ref b] s) (F0 m pc ls [.int 1]) := by
  intro T hT X
  obtain ⟨fs, hret, hrun, hended, hW, hframe⟩ := X.leave (v := some (.int 1)) (hlocks := hlocks) (fun h => by rw [hr] at h; cases h)
  have hmeth' : T.vm.method? m = some meth := X.method'
  refine ⟨T.setFrames fs, ?_, .returned (some (.int 1)), hrun, hended, rfl, ⟨_, rfl⟩, hW, hframe⟩
  jvm_step X.here [X.here.top, hx, hb, hdg, hmeth', hr, ret, narrow_b1]
  (try refine ⟨rfl, ?_⟩); (try refine ⟨rfl, ?_⟩)
  first | (intro acts; rw [hret _ acts rfl rfl rfl]) | rw [hret _ _ rfl rfl rfl]
  exact Steps.refl _
/-- what holds at the law's entry: the machine, the code, the tables' words (any of lw_tbl by 'hts w (by decide +kernel)'), the script of L ints xs at the cell b, what the Statement gives of the start (any of its parts by flat_of_before) -/
def lw_At (p : Program) (s : State) (m : MethodId) (meth : Method) (c : Code) (b L : Nat) (xs : Nat → Int32) : Prop :=
  p.tables.exec = Jvm.exec ∧ c.code = code ∧ meth.sig.returnType = ret ∧ c.maxLocals = 4 ∧ s.vm.findClass R_law = some m.cls ∧ (∀ w ∈ lw_tbl, w.before #[Value.ref b] s = true) ∧ va_X b L xs s s.heap ∧ b < s.heap.size ∧ meth.locks = false ∧ (Jvm.Cond.and given_1 narrow_1).before #[Value.ref b] s = true
/-! THE START: the statement's premises give an environment -/
def zh0 (L : Nat) (xs : Nat → Int) (nl : Option Nat) : Hp := (zbS L, zbV xs, fun _ _ => 0, zbP nl, 0, 0)
def znar : List Cond := flatC (Jvm.Cond.and given_1 narrow_1)
def ztS (c n d : String) : Term := .static c n d
/-- the three arrays: a static's name, the ref, the size -/
def zarrs : List (String × Nat × Nat) := [("POWERS", 1, 7), ("ABOVE", 2, 7), ("BODIES", 3, 21)]
def zarr_c (q : String × Nat × Nat) : List Cond := [.arrayOf (ztS "HatterTunes" q.1 "[I") .int, .eq (.length (ztS "HatterTunes" q.1 "[I")) (.int (Int32.ofNat q.2.2))] ++ (List.range q.2.2).map (fun j => .eq (.elem (ztS "HatterTunes" q.1 "[I") (.int (Int32.ofNat j))) (.int (zi ((zbvT.getD q.2.1 []).getD j 0))))
theorem zarr_ok : (zarrs.all fun q => (zarr_c q).all fun c => decide (c ∈ znar)) = true := by decide +kernel
def zstr_t (q : String × Nat × String × Nat) : Term := .string q.1 q.2.1
def zstr_n (q : String × Nat × String × Nat) : Nat := (zbvT.getD (q.2.2.2 + 1) []).length
def zstr_c (q : String × Nat × String × Nat) : List Cond := [.exactly (zstr_t q) "java/lang/String", .eq (.field (zstr_t q) "java/lang/String" "coder" "B") (.int 0), .arrayOf (.field (zstr_t q) "java/lang/String" "value" "[B") .byte, .eq (.length (.field (zstr_t q) "java/lang/String" "value" "[B")) (.int (Int32.ofNat (zstr_n q)))] ++ (List.range (zstr_n q)).map (fun j => .eq (.elem (.field (zstr_t q) "java/lang/String" "value" "[B") (.int (Int32.ofNat j))) (.int (zi ((zbvT.getD (q.2.2.2 + 1) []).getD j 0))))
theorem zstr_ok : (zstrs.all fun q => (zstr_c q).all fun c => decide (c ∈ znar)) = true := by decide +kernel
theorem zoth_ok : (Cond.eq (ztS "java/lang/String" "COMPACT_STRINGS" "Z") (.int 1)) ∈ znar ∧ (Cond.isRef (ztS "jdk/internal/util/Preconditions" "SIOOBE_FORMATTER" "Ljava/util/function/BiFunction;")) ∈ znar := by decide +kernel
def zls (j : Nat) : Bool := decide (lw_tbl[(zlsT.getD j (0, 0)).1]? = some (.laysStatic (zstq j).1 (zstq j).2.1 (zstq j).2.2.1)) && decide (lw_tbl[(zlsT.getD j (0, 0)).2]? = some (.initialized (zstq j).1))
theorem zls_ok : (List.range 5).all zls = true := by decide +kernel
theorem zsr_ok : ((List.range 8).all fun i => decide (lw_tbl[zsrT.getD i 0]? = some (.stringRef (zstrs.getD i ("", 0, "", 0)).1 (zstrs.getD i ("", 0, "", 0)).2.1 (zstrs.getD i ("", 0, "", 0)).2.2.1)) && decide ((zstrs.getD i ("", 0, "", 0)).2.2.2 = 4 + 2 * i)) = true := by decide +kernel
theorem zao2_ok : lw_tbl[zaoT.getD 0 0]? = some (.arrayOver (.object "HatterTunes$Shop")) ∧ lw_tbl[zaoT.getD 1 0]? = some (.arrayOver (.object "HatterTunes$Tape")) := by decide +kernel
theorem zTG_lw : ∀ w ∈ zTG, w ∈ lw_tbl := fun w hw => (List.mem_filter.mp hw).1
theorem zbS_1 (L : Nat) : ∀ b, b < 32 → (zbS L b).1 = 1 → b = 0 ∨ (b = 1 ∧ zbS L b = (1, 7)) ∨ (b = 2 ∧ zbS L b = (1, 7)) ∨ (b = 3 ∧ zbS L b = (1, 21)) := by
  intro b hb h
  by_cases h0 : b = 0
  · exact Or.inl h0
  · have q : ∀ b, b < 32 → (decide (b = 0) || (decide ((zbsT.getD b (0, 0)).1 ≠ 1) || ((decide (b = 1) && decide (zbsT.getD b (0, 0) = (1, 7))) || ((decide (b = 2) && decide (zbsT.getD b (0, 0) = (1, 7))) || (decide (b = 3) && decide (zbsT.getD b (0, 0) = (1, 21))))))) = true := by decide +kernel
    unfold zbS at h ⊢
    rw [if_neg h0] at h ⊢
    have q1 := q b hb
    simp only [Bool.or_eq_true, Bool.and_eq_true, decide_eq_true_eq] at q1
    rcases q1 with q1 | q1 | q1 | q1 | q1
    · exact absurd q1 h0
    · exact absurd h q1
    · exact Or.inr (Or.inl q1)
    · exact Or.inr (Or.inr (Or.inl q1))
    · exact Or.inr (Or.inr (Or.inr q1))
theorem zbS_4 (L : Nat) : ∀ b, b < 32 → (zbS L b).1 = 4 → ∃ i, i < 8 ∧ b = 5 + 2 * i ∧ zbS L b = (4, zstr_n (zstrs.getD i ("", 0, "", 0))) := by
  intro b hb h
  by_cases h0 : b = 0
  · subst h0; exact absurd h (by show ¬ (1 = 4); decide)
  · have q : ∀ b, b < 32 → b ≠ 0 → (zbsT.getD b (0, 0)).1 = 4 → ∃ i, i < 8 ∧ b = 5 + 2 * i ∧ zbsT.getD b (0, 0) = (4, zstr_n (zstrs.getD i ("", 0, "", 0))) := by decide +kernel
    unfold zbS at h ⊢
    rw [if_neg h0] at h ⊢
    exact q b hb h0 h
theorem zbS_20 (L : Nat) : ∀ b, b < 32 → (zbS L b).1 = 20 → ∃ i, i < 8 ∧ b = 4 + 2 * i := by
  intro b hb h
  by_cases h0 : b = 0
  · subst h0; exact absurd h (by show ¬ (1 = 20); decide)
  · have q : ∀ b, b < 32 → b ≠ 0 → (zbsT.getD b (0, 0)).1 = 20 → ∃ i, i < 8 ∧ b = 4 + 2 * i := by decide +kernel
    unfold zbS at h
    rw [if_neg h0] at h
    exact q b hb h0 h
theorem zstr_mem {i : Nat} (h : i < 8) : zstrs.getD i ("", 0, "", 0) ∈ zstrs := by
  match i, h with
  | 0, _ | 1, _ | 2, _ | 3, _ | 4, _ | 5, _ | 6, _ | 7, _ => simp [zstrs]
theorem zbV_ok {xs : Nat → Int} (hx : ∀ j, zr (xs j)) (a k : Nat) : zr (zbV xs a k) := by
  unfold zbV
  split
  · exact hx k
  · have q : (zbvT.all fun r => r.all fun x => decide (-2147483648 ≤ x ∧ x < 2147483648)) = true := by decide +kernel
    by_cases ha : a < zbvT.length
    · have q1 : zbvT.getD a [] ∈ zbvT := by
        rw [List.getD_eq_getElem?_getD, List.getElem?_eq_getElem ha]
        exact List.getElem_mem ha
      have q2 := List.all_eq_true.mp q _ q1
      by_cases hk : k < (zbvT.getD a []).length
      · have q3 : (zbvT.getD a []).getD k 0 ∈ zbvT.getD a [] := by
          rw [List.getD_eq_getElem?_getD (l := zbvT.getD a []), List.getElem?_eq_getElem hk]
          exact List.getElem_mem hk
        exact of_decide_eq_true (p := -2147483648 ≤ (zbvT.getD a []).getD k 0 ∧ (zbvT.getD a []).getD k 0 < 2147483648) (List.all_eq_true.mp q2 _ q3)
      · rw [List.getD_eq_getElem?_getD (l := zbvT.getD a []), List.getElem?_eq_none (by omega)]
        exact zr_0
    · rw [List.getD_eq_getElem?_getD (l := zbvT), List.getElem?_eq_none (by omega)]
      exact zr_0
/-- what holds at the law's start, as our environment -/
theorem zenv {p : Program} {s : State} {m : MethodId} {meth : Method} {c : Code} {b L : Nat} {xs : Nat → Int32} (hL : L ≤ 3072) (C0 : lw_At p s m meth c b L xs) : ∃ E : ZE, eA E 0 = b ∧ eB E = s.heap.size ∧ eL E = L ∧ eX E = (fun j => (xs j).toInt) ∧ ZT E s := by
  obtain ⟨hx, hb, hr, hml, hown, hts, hX, hbl, hlocks, hgv⟩ := C0
  have hA : ∀ a : Nat, a < s.heap.size → ¬ s.heap.size ≤ a := fun a h => by omega
  have hflat : ∀ w ∈ znar, w.before #[Value.ref b] s = true := fun w hw => flat_of_before _ hgv w hw
  -- classes
  have hcls : ∀ ci : Nat, ∃ q : ClassId × (Nat → Nat), ci < 9 → u_Kn s (zcn ci) (zT ci) (zNf ci) q.1 q.2 := by
    intro ci
    by_cases hci : ci < 9
    · have h4 := List.all_eq_true.mp zcT_ok ci (List.mem_range.mpr hci)
      unfold zcT at h4
      simp only [Bool.and_eq_true] at h4
      obtain ⟨cC, iS, h⟩ := u_known (ws := lw_tbl) hts (fun w hw => zTG_lw w (zlay_in hci w hw)) (hts _ (zTG_lw _ (zck_mem h4.1)))
      exact ⟨(cC, iS), fun _ => h⟩
    · exact ⟨(0, fun _ => 0), fun h => absurd h hci⟩
  obtain ⟨kf, hkf⟩ := Classical.axiomOfChoice hcls
  -- array classes
  obtain ⟨c1, k1, m1, a1, a2, a3⟩ := Cond.arrayClass_spec (hts _ (zTG_lw _ (zck_mem zar_ok.1)))
  obtain ⟨c2, k2, m2, b1, b2, b3⟩ := Cond.arrayClass_spec (hts _ (zTG_lw _ (zck_mem zar_ok.2.1)))
  obtain ⟨c3, k3, m3, d1, d2, d3⟩ := Cond.arrayClass_spec (hts _ (zTG_lw _ (zck_mem zar_ok.2.2)))
  have hao1 := hts _ (List.mem_of_getElem? zao2_ok.1)
  have hao2 := hts _ (List.mem_of_getElem? zao2_ok.2)
  obtain ⟨m5, c5, k5, f1, -, f3, f4, f5⟩ := Cond.arrayOver_spec hao1
  obtain ⟨m6, c6, k6, g1, -, g3, g4, g5⟩ := Cond.arrayOver_spec hao2
  have hArr : ∀ (c0 : ClassId) (k0 : Class) (m0 : ClassId) (ty : FieldType), s.vm.classes[c0]? = some k0 → k0.kind = .array m0 ty → ArrOfT s c0 ty := fun c0 k0 m0 ty h1 h2 n z => ⟨fun k h => (by cases h), k0, h1, m0, h2⟩
  -- arrays of the class
  have harr : ∀ q ∈ zarrs, ∃ t : Nat, (ztS "HatterTunes" q.1 "[I").eval #[Value.ref b] s none [] s = some (.ref t) ∧ va_T .int t q.2.2 (fun j => .int (zi ((zbvT.getD q.2.1 []).getD j 0))) (fun a => s.heap.size ≤ a) s s.heap := by
    intro q hq
    have h1 := List.all_eq_true.mp zarr_ok q hq
    have h2 : ∀ w ∈ zarr_c q, w.before #[Value.ref b] s = true := fun w hw => hflat w (of_decide_eq_true (List.all_eq_true.mp h1 w hw))
    have hn : q.2.2 < 2 ^ 31 := by
      simp only [zarrs, List.mem_cons, List.not_mem_nil, or_false] at hq
      rcases hq with rfl | rfl | rfl <;> decide
    exact va_Tof hn (h2 _ (by simp [zarr_c])) (va_eqt (h2 _ (by simp [zarr_c]))) (fun j hj => va_eqt (h2 _ (by
      refine List.mem_append_right _ (List.mem_map.mpr ⟨j, List.mem_range.mpr hj, rfl⟩)))) hA
  obtain ⟨tP, tP1, tP2⟩ := harr ("POWERS", 1, 7) (by simp [zarrs])
  obtain ⟨tA, tA1, tA2⟩ := harr ("ABOVE", 2, 7) (by simp [zarrs])
  obtain ⟨tB, tB1, tB2⟩ := harr ("BODIES", 3, 21) (by simp [zarrs])
  -- texts
  have hstr : ∀ i : Nat, ∃ q : Nat × Nat, i < 8 → (zstr_t (zstrs.getD i ("", 0, "", 0))).eval #[Value.ref b] s none [] s = some (.ref q.1) ∧ va_O "java/lang/String" q.1 (fun a => s.heap.size ≤ a) s s.heap ∧ va_OF "java/lang/String" "coder" "B" (.int 0) q.1 (fun a => s.heap.size ≤ a) s s.heap ∧ va_OF "java/lang/String" "value" "[B" (.ref q.2) q.1 (fun a => s.heap.size ≤ a) s s.heap ∧ va_T .byte q.2 (zstr_n (zstrs.getD i ("", 0, "", 0))) (fun j => .int (zi ((zbvT.getD (5 + 2 * i) []).getD j 0))) (fun a => s.heap.size ≤ a) s s.heap := by
    intro i
    by_cases hi : i < 8
    · generalize hq : zstrs.getD i ("", 0, "", 0) = q
      have hqm : q ∈ zstrs := by rw [← hq]; exact zstr_mem hi
      have hq4 : q.2.2.2 = 4 + 2 * i := by
        have := List.all_eq_true.mp zsr_ok i (List.mem_range.mpr hi)
        simp only [Bool.and_eq_true, decide_eq_true_eq] at this
        rw [← hq]; exact this.2
      have h1 := List.all_eq_true.mp zstr_ok q hqm
      have h2 : ∀ w ∈ zstr_c q, w.before #[Value.ref b] s = true := fun w hw => hflat w (of_decide_eq_true (List.all_eq_true.mp h1 w hw))
      have hn : zstr_n q < 2 ^ 31 := by
        have : ∀ q ∈ zstrs, zstr_n q < 100 := by decide +kernel
        exact Nat.lt_trans (this q hqm) (by decide)
      obtain ⟨aK, aV, hV, hE⟩ := vk_Sof (N := 1) (tm := fun _ => zstr_t q) (len := [zstr_n q]) (byt := [(List.range (zstr_n q)).map (fun j => zi ((zbvT.getD (q.2.2.2 + 1) []).getD j 0))]) (A := fun a => s.heap.size ≤ a) (args := #[Value.ref b]) (s := s)
        (fun i hi => by rw [show i = 0 by omega]; exact hn) (fun _ _ => h2 _ (by simp [zstr_c])) (fun _ _ => h2 _ (by simp [zstr_c])) (fun _ _ => h2 _ (by simp [zstr_c])) (fun i hi => by rw [show i = 0 by omega]; exact h2 _ (by simp [zstr_c]))
        (fun i hi j hj => by
          rw [show i = 0 by omega] at hj ⊢
          have hj : j < zstr_n q := hj
          refine h2 _ (List.mem_append_right _ (List.mem_map.mpr ⟨j, List.mem_range.mpr hj, ?_⟩))
          simp [hj]) (fun i j hi hj hne => absurd (show i = j by omega) hne) hA
      obtain ⟨o1, o2, o3, o4⟩ := hV.1 0 (by omega)
      refine ⟨(aK 0, aV 0), fun _ => ⟨hE 0 (by omega), o1, o2, o3, ?_⟩⟩
      obtain ⟨cell, y1, y2, y3, y4, y5, y6, y7⟩ := o4
      refine ⟨cell, y1, y2, y3, y4, y5, fun j hj => ?_, y7⟩
      rw [y6 j hj]
      have hj : j < zstr_n q := hj
      simp [hj, hq4, show 4 + 2 * i + 1 = 5 + 2 * i by omega]
    · exact ⟨(0, 0), fun h => absurd h hi⟩
  obtain ⟨sf, hsf⟩ := Classical.axiomOfChoice hstr
  -- statics
  have hst : ∀ j, j < 5 → (Cond.laysStatic (zstq j).1 (zstq j).2.1 (zstq j).2.2.1).before #[Value.ref b] s = true ∧ (Cond.initialized (zstq j).1).before #[Value.ref b] s = true := by
    intro j hj
    have := List.all_eq_true.mp zls_ok j (List.mem_range.mpr hj)
    unfold zls at this
    simp only [Bool.and_eq_true, decide_eq_true_eq] at this
    exact ⟨hts _ (List.mem_of_getElem? this.1), hts _ (List.mem_of_getElem? this.2)⟩
  have hS0 := va_Zof (A := fun a => s.heap.size ≤ a) (hst 0 (by omega)).1 (hst 0 (by omega)).2 tP1 hA
  have hS1 := va_Zof (A := fun a => s.heap.size ≤ a) (hst 1 (by omega)).1 (hst 1 (by omega)).2 tA1 hA
  have hS2 := va_Zof (A := fun a => s.heap.size ≤ a) (hst 2 (by omega)).1 (hst 2 (by omega)).2 tB1 hA
  have hS3 := va_Zof (A := fun a => s.heap.size ≤ a) (hst 3 (by omega)).1 (hst 3 (by omega)).2 (va_eqt (hflat _ zoth_ok.1)) hA
  have hS4 : ∃ (nl : Option Nat) (t : Nat), (nl = none ∨ nl = some 31) ∧ va_Z (zstq 4).1 (zstq 4).2.1 (zstq 4).2.2.1 (va_rf (nl.map fun _ => t)) (fun a => s.heap.size ≤ a) s s.heap := by
    rcases va_Zqof (A := fun a => s.heap.size ≤ a) (hst 4 (by omega)).1 (hst 4 (by omega)).2 (hflat _ zoth_ok.2) hA with h | ⟨t, h⟩
    · exact ⟨none, 0, Or.inl rfl, h⟩
    · exact ⟨some 31, t, Or.inr rfl, h⟩
  obtain ⟨nl, tS, hnl, hS4⟩ := hS4
  let ad : Nat → Nat := fun a => if a = 0 then b else if a = 1 then tP else if a = 2 then tA else if a = 3 then tB else if a = 31 then tS else if a % 2 = 0 then (sf ((a - 4) / 2)).1 else (sf ((a - 4) / 2)).2
  let E : ZE := (ad, s.heap.size, fun k => (kf k).1, fun k => (kf k).2, fun k => if k = 1 then c1 else if k = 2 then c2 else if k = 3 then c3 else if k = 5 then c5 else c6, L, fun j => (xs j).toInt, nl)
  have eK : ∀ i, i < 8 → eA E (4 + 2 * i) = (sf i).1 := by
    intro i hi
    show ad (4 + 2 * i) = _
    simp only [ad]
    rw [if_neg (by omega), if_neg (by omega), if_neg (by omega), if_neg (by omega), if_neg (by omega), if_pos (by omega), show (4 + 2 * i - 4) / 2 = i by omega]
  have eV : ∀ i, i < 8 → eA E (5 + 2 * i) = (sf i).2 := by
    intro i hi
    show ad (5 + 2 * i) = _
    simp only [ad]
    rw [if_neg (by omega), if_neg (by omega), if_neg (by omega), if_neg (by omega), if_neg (by omega), if_neg (by omega), show (5 + 2 * i - 4) / 2 = i by omega]
  refine ⟨E, rfl, rfl, rfl, rfl, ⟨fun k q hq => ?_, fun k q hq => ?_⟩, Nat.le_refl _, fun w hw => ?_, fun q hq => ?_, fun b' n hb' hbn => ?_, fun b' n hb' hbn => ?_, fun b' hb' hbn => ?_, fun q hq => ?_, va_AO.of hao1, va_AO.of hao2⟩
  · have hk : k < 9 := (List.getElem?_eq_some_iff.mp hq).1
    rw [zcls9_get hk] at hq
    cases hq
    exact hkf k hk
  · have hk : k < 5 := (List.getElem?_eq_some_iff.mp hq).1
    match k, hk, hq with
    | 0, _, hq => cases hq; exact ⟨hArr _ _ _ _ a2 a3, a1⟩
    | 1, _, hq => cases hq; exact ⟨hArr _ _ _ _ b2 b3, b1⟩
    | 2, _, hq => cases hq; exact ⟨hArr _ _ _ _ d2 d3, d1⟩
    | 3, _, hq => cases hq; exact ⟨hArr _ _ _ _ f3 f4, k5, m5, f3, f4, f1, f5⟩
    | 4, _, hq => cases hq; exact ⟨hArr _ _ _ _ g3 g4, k6, m6, g3, g4, g1, g5⟩
  · have hn : znst w = true := (List.mem_filter.mp hw).2
    have hw' := hts w (List.mem_filter.mp hw).1
    unfold znst at hn
    split at hn
    · exact va_Nw.of rfl hw'
    · exact va_Nw.of rfl hw'
    · cases hn
  · simp only [zstats, List.mem_cons, List.not_mem_nil, or_false] at hq
    rcases hq with rfl | rfl | rfl | rfl | rfl
    · exact hS0
    · exact hS1
    · exact hS2
    · exact hS3
    · rcases hnl with h | h
      · have e1 : cv E (zstE E (vR (some 30))) = .null := by
          show cv E (vR nl) = _
          rw [h]; rfl
        rw [h] at hS4
        show va_Z _ _ _ (cv E (zstE E (vR (some 30)))) _ _ _
        rw [e1]
        exact hS4
      · have e1 : cv E (zstE E (vR (some 30))) = .ref tS := by
          show cv E (vR nl) = _
          rw [h]; rfl
        rw [h] at hS4
        show va_Z _ _ _ (cv E (zstE E (vR (some 30)))) _ _ _
        rw [e1]
        exact hS4
  · rcases zbS_1 L b' hb' (by rw [show zbS L b' = (1, n) from hbn]) with rfl | ⟨rfl, h⟩ | ⟨rfl, h⟩ | ⟨rfl, h⟩
    · have : n = L := (congrArg Prod.snd hbn).symm
      subst this
      refine ⟨by omega, ?_⟩
      obtain ⟨scr, x1, x2, x3, x4, x5⟩ := hX
      refine ⟨scr, x1, x2, x3, by omega, by rw [x4], fun j hj => ?_, hA b hbl⟩
      rw [x5 j hj]
      show some (Value.int (xs j)) = some (.int (zi (xs j).toInt))
      rw [zi_of]
    · have : n = 7 := (congrArg Prod.snd ((show zbS L 1 = (1, n) from hbn).symm.trans h))
      subst this
      exact ⟨by omega, tP2⟩
    · have : n = 7 := (congrArg Prod.snd ((show zbS L 2 = (1, n) from hbn).symm.trans h))
      subst this
      exact ⟨by omega, tA2⟩
    · have : n = 21 := (congrArg Prod.snd ((show zbS L 3 = (1, n) from hbn).symm.trans h))
      subst this
      exact ⟨by omega, tB2⟩
  · obtain ⟨i, hi, rfl, h⟩ := zbS_4 L b' hb' (by rw [show zbS L b' = (4, n) from hbn])
    have hn : n = zstr_n (zstrs.getD i ("", 0, "", 0)) := (congrArg Prod.snd ((show zbS L (5 + 2 * i) = (4, n) from hbn).symm.trans h))
    subst hn
    have hlt : ∀ q ∈ zstrs, zstr_n q < 100 := by decide +kernel
    refine ⟨Nat.lt_trans (hlt _ (zstr_mem hi)) (by decide), ?_⟩
    rw [eV i hi]
    have := (hsf i hi).2.2.2.2
    have e1 : (fun j => Value.int (zi (zbV (eX E) (5 + 2 * i) j))) = fun j => .int (zi ((zbvT.getD (5 + 2 * i) []).getD j 0)) := by
      funext j
      unfold zbV
      rw [if_neg (by omega)]
    rw [e1]
    exact this
  · obtain ⟨i, hi, rfl⟩ := zbS_20 L b' hb' (by rw [show zbS L b' = (20, 2) from hbn])
    obtain ⟨-, o1, o2, o3, -⟩ := hsf i hi
    rw [eK i hi]
    refine ⟨o1, ?_, ?_⟩
    · have e1 : cv E (vR (zbP (eN E) (4 + 2 * i) 0)) = .ref (sf i).2 := by
        unfold zbP
        rw [if_neg (by omega), if_pos (by omega)]
        show Value.ref (zad E (4 + 2 * i + 1)) = _
        unfold zad
        rw [if_pos (by omega), show 4 + 2 * i + 1 = 5 + 2 * i by omega, eV i hi]
      rw [e1]
      exact o3
    · have e1 : cv E (vI (zbV (eX E) (4 + 2 * i) 1)) = .int 0 := by
        have : ∀ i, i < 8 → (zbvT.getD (4 + 2 * i) []).getD 1 0 = 0 := by decide +kernel
        unfold zbV
        rw [if_neg (by omega), this i hi]
        show Value.int (zi 0) = _
        rw [zi_0]
      rw [e1]
      exact o2
  · obtain ⟨i, hi, hqi⟩ : ∃ i, i < 8 ∧ q = zstrs.getD i ("", 0, "", 0) := by
      obtain ⟨i, hi⟩ := List.getElem?_of_mem hq
      have hl := (List.getElem?_eq_some_iff.mp hi).1
      exact ⟨i, hl, by rw [List.getD_eq_getElem?_getD, hi]; rfl⟩
    have h1 := List.all_eq_true.mp zsr_ok i (List.mem_range.mpr hi)
    simp only [Bool.and_eq_true, decide_eq_true_eq] at h1
    rw [← hqi] at h1
    rw [h1.2, eK i hi]
    have h2 := (hsf i hi).1
    rw [← hqi] at h2
    exact vk_R.of (hts _ (List.mem_of_getElem? h1.1)) h2
end
section
/-! WHAT IS LEFT: a run of the abstract machine -/
def zpure : Prop := ∀ (xs : Nat → Int) (L : Nat) (nl : Option Nat), L ≤ 3072 → (∀ j, zr (xs j)) → ∃ (n : Nat) (h' : Hp), zrun n 40 code 9 0 [some (vR (some 0)), none, none, none] [] (zh0 L xs nl) = some (some (vI 1), h') ∧ zN h' ≤ 600000 ∧ zM h' ≤ 7302249
theorem zwhole (hpure : zpure) {p : Program} {e : Env} {s : State} {m : MethodId} {below : List Frame} {meth : Method} {c : Code} (l : Launch) {b L : Nat} {xs : Nat → Int32} (hL : L ≤ 3072) (C0 : lw_At p s m meth c b L xs) : W p l e room_1 s m #[Value.ref b] below meth c s.heap [] 0 0 (lw_Z below #[Value.ref b] s) (entryFrame m ([Value.ref b] : List Value).toArray 4) := by
  obtain ⟨E, e1, e2, e3, e4, hT⟩ := zenv hL C0
  obtain ⟨hx, hb, hr, hml, hown, hts, hX, hbl, hlocks, hgv⟩ := C0
  obtain ⟨n, h', hrun, hN, hM⟩ := hpure (eX E) L (eN E) hL (fun j => by rw [e4]; exact zr_toInt _)
  have hH : okH (zh0 L (eX E) (eN E)) := fun a k => zbV_ok (fun j => by rw [e4]; exact zr_toInt _) a k
  have X : ZX E p room_1 s m #[Value.ref b] meth c code 9 4 40 := ⟨hx, hb, hml, hown, fun w hw => hts w (zTG_lw w hw), hT, fun q => absurd q (by decide), by decide, by decide⟩
  have hI : ZI E s.heap (zh0 L (eX E) (eN E)) := by
    refine ⟨fun k q hq => ?_, ?_, hH, fun a ha => by rw [e3]; rfl, fun _ _ _ => rfl, fun _ _ _ => rfl, fun a ha => ?_⟩
    · have h0 : zws E (zh0 L (eX E) (eN E)) = [] := rfl
      rw [h0] at hq
      cases hq
    · show s.heap.size = eB E + 0
      omega
    · show zbS L a = (0, 0)
      have ha : 32 ≤ a := ha
      unfold zbS
      rw [if_neg (by omega), List.getD_eq_getElem?_getD, List.getElem?_eq_none (by show 20 ≤ a; omega)]
      rfl
  have hst : okst ([] : List AV) := fun _ q => by cases q
  have hLL : okL [some (vR (some 0)), none, none, none] := by
    intro i v hv
    match i, hv with
    | 0, hv => cases hv; exact trivial
    | 1, hv => cases hv
    | 2, hv => cases hv
    | 3, hv => cases hv
    | i + 4, hv => simp at hv
  have q0 : zN (zh0 L (eX E) (eN E)) = 0 := rfl
  have q1 : zM (zh0 L (eX E) (eN E)) = 0 := rfl
  have hK := zsim (E := E) (l := l) n 40 code 9 0 _ [] _ _ _ hrun hH hLL hst (Q := lw_Z below #[Value.ref b] s) (below := below) (e := e) (cells := 0) (slots := 0) X (by rw [q0]; show 0 + (zN h' - 0) ≤ 600000; omega) (by rw [q1]; show 0 + (zM h' - 0) ≤ 7302249; omega) (fun pcr Lr hd => by
    intro H locs ls hI1 hS1 hR1
    refine va_forget (fun q hq => ?_) ?_
    · have := hS1.1.2.2 q hq
      rw [← e2]
      exact this
    · refine W.widen (k := 600000) (n := 7302249) (by rw [q0]; omega) (by rw [q1]; omega) ?_
      have h1 : zi 1 = 1 := by decide +kernel
      show W p l e room_1 s m #[Value.ref b] below meth c H [] 600000 7302249 (lw_Z below #[Value.ref b] s) (F0 m pcr ls [.int (zi 1)])
      rw [h1]
      exact lw_ret hx hb hr hlocks hd)
  rw [lg_entry_eq]
  have hle := LRel.entry E (as := [vR (some 0)]) (n := 4) (by decide)
  have h0 : cv E (vR (some 0)) = .ref b := by
    show Value.ref (zad E 0) = _
    unfold zad
    rw [if_pos (by omega), e1]
  have h00 : [vR (some 0)].map (cv E) = [Value.ref b] := by rw [List.map_cons, h0]; rfl
  rw [h00] at hle
  exact hK s.heap [] _ hI ⟨va_S.rf, rfl⟩ hle
end
section
/-! RUNS AS RULES: ZW: from here on the run ends so that Q -/
def ZW (d : Nat) (cc : ByteArray) (o pc : Nat) (L : LL) (st : List AV) (h : Hp) (Q : Option AV → Hp → Prop) : Prop := ∃ (n : Nat) (v : Option AV) (h' : Hp), zrun n d cc o pc L st h = some (v, h') ∧ Q v h'
def ZM (d z : Nat) (as : List AV) (h : Hp) (K : Option AV → Hp → Prop) : Prop := (zenl as).length ≤ zml z ∧ ZW d (zb z) (zo z) 0 (zent (zml z) as) [] h (fun v h' => zretok (zrt z) v = true ∧ K v h')
theorem zstep_mono {f g : ZF} (hfg : ∀ d cc o pc L st h r, f d cc o pc L st h = some r → g d cc o pc L st h = some r) {d : Nat} {cc : ByteArray} {o pc : Nat} {L : LL} {st : List AV} {h : Hp} {r : Option AV × Hp} (hr : zstep f d cc o pc L st h = some r) : zstep g d cc o pc L st h = some r := by
  unfold zstep at hr ⊢
  split at hr
  · cases hr
  · exact hfg _ _ _ _ _ _ _ _ hr
  · split at hr
    · cases hr
    · split at hr
      · next hlen =>
        simp only [hlen, if_true]
        split at hr
        · next hc =>
          rw [hfg _ _ _ _ _ _ _ _ hc]
          simp only
          split at hr
          · next hret =>
            rw [if_pos hret]
            exact hfg _ _ _ _ _ _ _ _ hr
          · cases hr
        · cases hr
      · cases hr
  · exact hr
theorem zrun_mono : ∀ (n : Nat) {d : Nat} {cc : ByteArray} {o pc : Nat} {L : LL} {st : List AV} {h : Hp} {r : Option AV × Hp}, zrun n d cc o pc L st h = some r → zrun (n + 1) d cc o pc L st h = some r := by
  intro n
  induction n with
  | zero => intro d cc o pc L st h r hr; cases hr
  | succ n ih =>
    intro d cc o pc L st h r hr
    rw [zrun_succ] at hr ⊢
    exact zstep_mono (fun d cc o pc L st h r q => ih q) hr
theorem zrun_le {n k : Nat} (hnk : n ≤ k) {d : Nat} {cc : ByteArray} {o pc : Nat} {L : LL} {st : List AV} {h : Hp} {r : Option AV × Hp} (hr : zrun n d cc o pc L st h = some r) : zrun k d cc o pc L st h = some r := by
  induction hnk with
  | refl => exact hr
  | step _ ih => exact zrun_mono _ ih
section ZRU
variable {d : Nat} {cc : ByteArray} {o pc : Nat} {L : LL} {st : List AV} {h : Hp} {Q : Option AV → Hp → Prop} {pc' : Nat} {L' : LL} {st' : List AV} {h' : Hp} {X Y : Prop}
theorem ZW.mono {K : Option AV → Hp → Prop} (hw : ZW d cc o pc L st h Q) (hQ : ∀ v h', Q v h' → K v h') : ZW d cc o pc L st h K := by
  obtain ⟨n, v, h', h1, h2⟩ := hw
  exact ⟨n, v, h', h1, hQ v h' h2⟩
theorem ZM.mono {z : Nat} {as : List AV} {K K' : Option AV → Hp → Prop} (hw : ZM d z as h K) (hQ : ∀ v h', K v h' → K' v h') : ZM d z as h K' := ⟨hw.1, hw.2.mono fun v h' q => ⟨q.1, hQ v h' q.2⟩⟩
theorem ZW_next (hz : zact d cc o pc L st h = some (.inl (pc', L', st', h'))) : ZW d cc o pc L st h Q = ZW d cc o pc' L' st' h' Q := by
  have e : ∀ n, zrun (n + 1) d cc o pc L st h = zrun n d cc o pc' L' st' h' := by
    intro n
    rw [zrun_succ]
    unfold zstep
    rw [hz]
  refine propext ⟨fun ⟨n, v, k, h1, h2⟩ => ?_, fun ⟨n, v, k, h1, h2⟩ => ⟨n + 1, v, k, by rw [e]; exact h1, h2⟩⟩
  cases n with
  | zero => cases h1
  | succ n => exact ⟨n, v, k, by rw [← e]; exact h1, h2⟩
theorem ZW_none (hz : zact d cc o pc L st h = none) : ZW d cc o pc L st h Q = False := by
  refine propext ⟨fun ⟨n, v, k, h1, h2⟩ => ?_, False.elim⟩
  cases n with
  | zero => cases h1
  | succ n =>
    rw [zrun_succ] at h1
    unfold zstep at h1
    rw [hz] at h1
    cases h1
theorem ZW_ret {v : Option AV} (hz : zact d cc o pc L st h = some (.inr (.inr v))) : ZW d cc o pc L st h Q = Q v h := by
  have e : ∀ n, zrun (n + 1) d cc o pc L st h = some (v, h) := by
    intro n
    rw [zrun_succ]
    unfold zstep
    rw [hz]
  refine propext ⟨fun ⟨n, w, k, h1, h2⟩ => ?_, fun q => ⟨1, v, h, e 0, q⟩⟩
  cases n with
  | zero => cases h1
  | succ n =>
    rw [e] at h1
    cases h1
    exact h2
theorem ZW_call {z : Nat} {as r : List AV} (hz : zact (d + 1) cc o pc L st h = some (.inr (.inl (z, as, r)))) : ZW (d + 1) cc o pc L st h Q = ZM d z as h (fun v h' => ZW (d + 1) cc o (pc + 3) L (v.toList ++ r) h' Q) := by
  refine propext ⟨fun ⟨n, v, k, h1, h2⟩ => ?_, fun ⟨hlen, n, v, k, h1, hret, n2, v2, k2, h3, h4⟩ => ?_⟩
  · cases n with
    | zero => cases h1
    | succ n =>
      rw [zrun_succ] at h1
      unfold zstep at h1
      rw [hz] at h1
      simp only at h1
      split at h1
      · next hlen =>
        split at h1
        · next v1 h1' hc =>
          split at h1
          · next hret => exact ⟨hlen, n, v1, h1', hc, hret, n, v, k, h1, h2⟩
          · cases h1
        · cases h1
      · cases h1
  · refine ⟨n + n2 + 1, v2, k2, ?_, h4⟩
    rw [zrun_succ]
    unfold zstep
    rw [hz]
    simp only
    rw [if_pos hlen, zrun_le (Nat.le_add_right n n2) h1]
    simp only
    rw [if_pos hret]
    exact zrun_le (Nat.le_add_left n2 n) h3
/-- rules in the order of a walk: from the run behind to the run ahead -/
theorem rn (hz : zact d cc o pc L st h = some (.inl (pc', L', st', h'))) (k : ZW d cc o pc' L' st' h' Q = X) : ZW d cc o pc L st h Q = X := (ZW_next hz).trans k
theorem rc {c : Prop} {hc : Decidable c} (hz : zact d cc o pc L st h = @ite _ c hc (some (.inl (pc', L', st', h'))) none) (k : ZW d cc o pc' L' st' h' Q = X) : ZW d cc o pc L st h Q = (c ∧ X) := by
  by_cases q : c
  · rw [if_pos q] at hz
    rw [ZW_next hz, k]
    exact propext ⟨fun x => ⟨q, x⟩, fun x => x.2⟩
  · rw [if_neg q] at hz
    rw [ZW_none hz]
    exact propext ⟨False.elim, fun x => q x.1⟩
theorem rb {c : Prop} {hc : Decidable c} {pc2 : Nat} {L2 : LL} {st2 : List AV} {h2 : Hp} (hz : zact d cc o pc L st h = @ite _ c hc (some (.inl (pc', L', st', h'))) (some (.inl (pc2, L2, st2, h2)))) (k : ZW d cc o pc' L' st' h' Q = X) (k2 : ZW d cc o pc2 L2 st2 h2 Q = Y) : ZW d cc o pc L st h Q = ((c ∧ X) ∨ (¬ c ∧ Y)) := by
  by_cases q : c
  · rw [if_pos q] at hz
    rw [ZW_next hz, k]
    exact propext ⟨fun x => Or.inl ⟨q, x⟩, fun x => x.elim (fun y => y.2) (fun y => absurd q y.1)⟩
  · rw [if_neg q] at hz
    rw [ZW_next hz, k2]
    exact propext ⟨fun x => Or.inr ⟨q, x⟩, fun x => x.elim (fun y => absurd y.1 q) (fun y => y.2)⟩
end ZRU
end
section
/-! RULES, the other way about: what is enough ahead -/
section YR
variable {d : Nat} {cc : ByteArray} {o pc pc' : Nat} {L : LL} {st r : List AV} {h : Hp} {Q : Option AV → Hp → Prop}
theorem y_s {i : Instr} {l : Nat} {L' : LL} {st' : List AV} {h' : Hp} (e : decode cc pc = .ok (i, l)) (hz : zin d o pc l L st h i = some (.inl (pc', L', st', h'))) (k : ZW d cc o pc' L' st' h' Q) : ZW d cc o pc L st h Q := by
  have q : zact d cc o pc L st h = some (.inl (pc', L', st', h')) := by
    unfold zact
    rw [e]
    exact hz
  rw [ZW_next q]
  exact k
theorem y_go {off : Int} (e : decode cc pc = .ok (.goto off, 3)) (hp : ((pc : Int) + off == (pc' : Int)) = true) (k : ZW d cc o pc' L st h Q) : ZW d cc o pc L st h Q := by
  have hp := eq_of_beq hp
  refine y_s e ?_ k
  show (if 3 = 3 then (if 0 ≤ (pc : Int) + off then zn ((pc : Int) + off).toNat L st h else none) else none) = _
  rw [if_pos rfl, hp, if_pos (by omega)]
  rfl
theorem y_if {c : Jvm.ClassFile.Cond} {off x : Int} {pcT : Nat} {P : Prop} {i : Decidable P} (e : decode cc pc = .ok (.ifCond c off, 3)) (hp : ((pc : Int) + off == (pcT : Int)) = true) (hq : pc + 3 = pc') (hP : zcond c x 0 = @decide P i) (k1 : P → ZW d cc o pcT L r h Q) (k2 : ¬ P → ZW d cc o pc' L r h Q) : ZW d cc o pc L (vI x :: r) h Q := by
  have hp := eq_of_beq hp
  have hz : zin d o pc 3 L (vI x :: r) h (.ifCond c off) = if zcond c x 0 = true then zn pcT L r h else zn pc' L r h := by
    show (if 3 = 3 ∧ 0 ≤ (pc : Int) + off then _ else _) = _
    rw [hp, if_pos ⟨rfl, by omega⟩, hq]
    rfl
  by_cases q : P
  · exact y_s e (by rw [hz, hP, if_pos (decide_eq_true q)]; rfl) (k1 q)
  · exact y_s e (by rw [hz, hP, if_neg (by simpa using q)]; rfl) (k2 q)
theorem y_ic {c : Jvm.ClassFile.Cond} {off x y : Int} {pcT : Nat} {P : Prop} {i : Decidable P} (e : decode cc pc = .ok (.if_icmp c off, 3)) (hp : ((pc : Int) + off == (pcT : Int)) = true) (hq : pc + 3 = pc') (hP : zcond c x y = @decide P i) (k1 : P → ZW d cc o pcT L r h Q) (k2 : ¬ P → ZW d cc o pc' L r h Q) : ZW d cc o pc L (vI y :: vI x :: r) h Q := by
  have hp := eq_of_beq hp
  have hz : zin d o pc 3 L (vI y :: vI x :: r) h (.if_icmp c off) = if zcond c x y = true then zn pcT L r h else zn pc' L r h := by
    show (if 3 = 3 ∧ 0 ≤ (pc : Int) + off then _ else _) = _
    rw [hp, if_pos ⟨rfl, by omega⟩, hq]
    rfl
  by_cases q : P
  · exact y_s e (by rw [hz, hP, if_pos (decide_eq_true q)]; rfl) (k1 q)
  · exact y_s e (by rw [hz, hP, if_neg (by simpa using q)]; rfl) (k2 q)
theorem y_ift {c : Jvm.ClassFile.Cond} {off x : Int} {pcT : Nat} (e : decode cc pc = .ok (.ifCond c off, 3)) (hp : ((pc : Int) + off == (pcT : Int)) = true) (hP : zcond c x 0 = true) (k : ZW d cc o pcT L r h Q) : ZW d cc o pc L (vI x :: r) h Q :=
  y_if (P := zcond c x 0 = true) (i := inferInstance) e hp rfl (by simp [hP]) (fun _ => k) (fun q => absurd hP q)
theorem y_iff {c : Jvm.ClassFile.Cond} {off x : Int} {pcT : Nat} (e : decode cc pc = .ok (.ifCond c off, 3)) (hp : ((pc : Int) + off == (pcT : Int)) = true) (hq : pc + 3 = pc') (hP : zcond c x 0 = false) (k : ZW d cc o pc' L r h Q) : ZW d cc o pc L (vI x :: r) h Q :=
  y_if (P := zcond c x 0 = true) (i := inferInstance) e hp hq (by simp [hP]) (fun q => by rw [hP] at q; cases q) (fun _ => k)
theorem y_tc {dflt lo hi : Int} {offs : Array Int} {x v off : Int} {l : Nat} (e : decode cc pc = .ok (.tableswitch dflt lo hi offs, l)) (hx : x = v) (hv : (decide (lo ≤ v) && decide (v ≤ hi)) = true) (ho : offs[(v - lo).toNat]? = some off) (hp : ((pc : Int) + off == (pc' : Int)) = true) (k : ZW d cc o pc' L r h Q) : ZW d cc o pc L (vI x :: r) h Q := by
  have hp := eq_of_beq hp
  simp at hv
  subst hx
  refine y_s e ?_ k
  show (if x < lo ∨ hi < x then _ else _) = _
  rw [if_neg (by omega)]
  simp only [ho]
  unfold zjmp
  rw [hp, if_pos (by omega)]
  rfl
theorem y_td {dflt lo hi : Int} {offs : Array Int} {x : Int} {l : Nat} (e : decode cc pc = .ok (.tableswitch dflt lo hi offs, l)) (hx : x < lo ∨ hi < x) (hp : ((pc : Int) + dflt == (pc' : Int)) = true) (k : ZW d cc o pc' L r h Q) : ZW d cc o pc L (vI x :: r) h Q := by
  have hp := eq_of_beq hp
  refine y_s e ?_ k
  show (if x < lo ∨ hi < x then _ else _) = _
  rw [if_pos hx]
  unfold zjmp
  rw [hp, if_pos (by omega)]
  rfl
theorem y_ls {dflt : Int} {ps : Array (Int × Int)} {x off : Int} {l : Nat} (e : decode cc pc = .ok (.lookupswitch dflt ps, l)) (hs : (ps.toList.zip (ps.toList.drop 1)).all (fun (a, next) => a.1 < next.1) = true) (ho : Op.lookupswitch.offset ps.toList dflt x = off) (hp : ((pc : Int) + off == (pc' : Int)) = true) (k : ZW d cc o pc' L r h Q) : ZW d cc o pc L (vI x :: r) h Q := by
  have hp := eq_of_beq hp
  refine y_s e ?_ k
  show (if _ then _ else _) = _
  rw [if_pos hs, ho]
  unfold zjmp
  rw [hp, if_pos (by omega)]
  rfl
theorem y_gi {k ci f a : Nat} (e : decode cc pc = .ok (.getfield k, 3)) (hf : zfld o k = some (ci, f)) (ht : (zft ci f == 2) = false) (hc : Nat.ble 9 ci = false) (hs : zS h a = (zkd ci, zNf ci)) (hp : pc + 3 = pc') (w : ZW d cc o pc' L (vI (zV h a f) :: r) h Q) : ZW d cc o pc L (vR (some a) :: r) h Q := by
  have hc : ¬ 9 ≤ ci := fun q => by rw [Nat.ble_eq_true_of_le q] at hc; cases hc
  refine y_s e ?_ w
  show zgetf (zfld o k) pc 3 L (vR (some a) :: r) h = _
  rw [hf]
  show (if 3 = 3 ∧ zS h a = (zkd ci, zNf ci) ∧ (ci = 9 → a < 32) then zn (pc + 3) L (zfv h ci a f :: r) h else none) = _
  rw [if_pos ⟨rfl, hs, fun q => absurd q (by omega)⟩, hp]
  unfold zfv
  rw [if_neg (by simpa using ht)]
  rfl
theorem y_gr {k ci f a : Nat} {q : Option Nat} (e : decode cc pc = .ok (.getfield k, 3)) (hf : zfld o k = some (ci, f)) (ht : (zft ci f == 2) = true) (hc : Nat.ble 9 ci = false) (hs : zS h a = (zkd ci, zNf ci)) (hb : zP h a f = q) (hp : pc + 3 = pc') (w : ZW d cc o pc' L (vR q :: r) h Q) : ZW d cc o pc L (vR (some a) :: r) h Q := by
  have hc : ¬ 9 ≤ ci := fun q => by rw [Nat.ble_eq_true_of_le q] at hc; cases hc
  refine y_s e ?_ w
  show zgetf (zfld o k) pc 3 L (vR (some a) :: r) h = _
  rw [hf]
  show (if 3 = 3 ∧ zS h a = (zkd ci, zNf ci) ∧ (ci = 9 → a < 32) then zn (pc + 3) L (zfv h ci a f :: r) h else none) = _
  rw [if_pos ⟨rfl, hs, fun q => absurd q (by omega)⟩, hp]
  unfold zfv
  rw [if_pos (by simpa using ht), hb]
  rfl
theorem y_pi {k ci f a : Nat} {x : Int} (e : decode cc pc = .ok (.putfield k, 3)) (hf : zfld o k = some (ci, f)) (hc : Nat.ble 9 ci = false) (hn : zfin ci f = false) (hs : zS h a = (10 + ci, zNf ci)) (ha : 32 ≤ a) (ht : zft ci f = 0 ∨ (zft ci f = 1 ∧ (x = 0 ∨ x = 1))) (hp : pc + 3 = pc') (w : ZW d cc o pc' L r (zsetV h a f x) Q) : ZW d cc o pc L (vI x :: vR (some a) :: r) h Q := by
  have hc : ¬ 9 ≤ ci := fun q => by rw [Nat.ble_eq_true_of_le q] at hc; cases hc
  refine y_s e ?_ w
  show zputf o (zfld o k) pc 3 L (vI x :: vR (some a) :: r) h = _
  rw [hf]
  show (if 3 = 3 ∧ ci < 9 ∧ zS h a = (10 + ci, zNf ci) ∧ 32 ≤ a ∧ (zft ci f = 0 ∨ (zft ci f = 1 ∧ (x = 0 ∨ x = 1))) ∧ (zfin ci f = true → 100 ≤ o ∧ o % 100 = ci) then zn (pc + 3) L r (zsetV h a f x) else none) = _
  rw [if_pos ⟨rfl, by omega, hs, ha, ht, fun q => by rw [hn] at q; cases q⟩, hp]
  rfl
theorem y_pr {k ci f a : Nat} {q : Option Nat} (e : decode cc pc = .ok (.putfield k, 3)) (hf : zfld o k = some (ci, f)) (hc : Nat.ble 9 ci = false) (hn : zfin ci f = false) (hs : zS h a = (10 + ci, zNf ci)) (ha : 32 ≤ a) (ht : zft ci f = 2) (hp : pc + 3 = pc') (w : ZW d cc o pc' L r (zsetP h a f q) Q) : ZW d cc o pc L (vR q :: vR (some a) :: r) h Q := by
  have hc : ¬ 9 ≤ ci := fun q => by rw [Nat.ble_eq_true_of_le q] at hc; cases hc
  refine y_s e ?_ w
  show zputf o (zfld o k) pc 3 L (vR q :: vR (some a) :: r) h = _
  rw [hf]
  show (if 3 = 3 ∧ ci < 9 ∧ zS h a = (10 + ci, zNf ci) ∧ 32 ≤ a ∧ zft ci f = 2 ∧ (zfin ci f = true → 100 ≤ o ∧ o % 100 = ci) then zn (pc + 3) L r (zsetP h a f q) else none) = _
  rw [if_pos ⟨rfl, by omega, hs, ha, ht, fun q => by rw [hn] at q; cases q⟩, hp]
  rfl
theorem y_ia {a n : Nat} {i : Int} (e : decode cc pc = .ok (.iaload, 1)) (hs : zS h a = (1, n)) (hi : 0 ≤ i ∧ i < (n : Int)) {x : Int} (hx : zV h a i.toNat = x) (hp : pc + 1 = pc') (w : ZW d cc o pc' L (vI x :: r) h Q) : ZW d cc o pc L (vI i :: vR (some a) :: r) h Q := by
  subst hx
  refine y_s e ?_ w
  show (if 1 = 1 ∧ (zS h a).1 = 1 ∧ 0 ≤ i ∧ i < ((zS h a).2 : Int) then _ else _) = _
  rw [if_pos (by rw [hs]; exact ⟨rfl, rfl, hi⟩), hp]
  rfl
theorem y_ba {a n : Nat} {i : Int} (e : decode cc pc = .ok (.baload, 1)) (hs : zS h a = (2, n)) (hi : 0 ≤ i ∧ i < (n : Int)) {x : Int} (hx : zV h a i.toNat = x) (hp : pc + 1 = pc') (w : ZW d cc o pc' L (vI x :: r) h Q) : ZW d cc o pc L (vI i :: vR (some a) :: r) h Q := by
  subst hx
  refine y_s e ?_ w
  show (if (zS h a).1 = 4 then _ else _) = _
  rw [if_neg (by rw [hs]; simp)]
  show (if 1 = 1 ∧ (zS h a).1 = 2 ∧ 0 ≤ i ∧ i < ((zS h a).2 : Int) then _ else _) = _
  rw [if_pos (by rw [hs]; exact ⟨rfl, rfl, hi⟩), hp]
  rfl
theorem y_by {a n : Nat} {i : Int} (e : decode cc pc = .ok (.baload, 1)) (hs : zS h a = (4, n)) (ha : a < 32) (hi : 0 ≤ i ∧ i < (n : Int)) (hp : pc + 1 = pc') (w : ZW d cc o pc' L (vI (zV h a i.toNat) :: r) h Q) : ZW d cc o pc L (vI i :: vR (some a) :: r) h Q := by
  refine y_s e ?_ w
  show (if (zS h a).1 = 4 then _ else _) = _
  rw [if_pos (by rw [hs]), if_pos ha]
  show (if 1 = 1 ∧ (zS h a).1 = 4 ∧ 0 ≤ i ∧ i < ((zS h a).2 : Int) then _ else _) = _
  rw [if_pos (by rw [hs]; exact ⟨rfl, rfl, hi⟩), hp]
  rfl
theorem y_ja {a n : Nat} {i : Int} (e : decode cc pc = .ok (.laload, 1)) (hs : zS h a = (3, n)) (hi : 0 ≤ i ∧ i < (n : Int)) {x : Int64} (hx : zJ h a i.toNat = x) (hp : pc + 1 = pc') (w : ZW d cc o pc' L (vJ x :: r) h Q) : ZW d cc o pc L (vI i :: vR (some a) :: r) h Q := by
  subst hx
  refine y_s e ?_ w
  show (if 1 = 1 ∧ (zS h a).1 = 3 ∧ 0 ≤ i ∧ i < ((zS h a).2 : Int) then _ else _) = _
  rw [if_pos (by rw [hs]; exact ⟨rfl, rfl, hi⟩), hp]
  rfl
theorem y_aa {a n kd : Nat} {i : Int} {q : Option Nat} (e : decode cc pc = .ok (.aaload, 1)) (hk : kd = 5 ∨ kd = 6) (hs : zS h a = (kd, n)) (hi : 0 ≤ i ∧ i < (n : Int)) (hq : zP h a i.toNat = q) (hp : pc + 1 = pc') (w : ZW d cc o pc' L (vR q :: r) h Q) : ZW d cc o pc L (vI i :: vR (some a) :: r) h Q := by
  refine y_s e ?_ w
  show (if (zS h a).1 = 6 then _ else _) = _
  rcases hk with rfl | rfl
  · rw [if_neg (by rw [hs]; simp)]
    show (if 1 = 1 ∧ (zS h a).1 = 5 ∧ 0 ≤ i ∧ i < ((zS h a).2 : Int) then _ else _) = _
    rw [if_pos (by rw [hs]; exact ⟨rfl, rfl, hi⟩), hp]
    show zn pc' L (vR (zP h a i.toNat) :: r) h = _
    rw [hq]
    rfl
  · rw [if_pos (by rw [hs])]
    show (if 1 = 1 ∧ (zS h a).1 = 6 ∧ 0 ≤ i ∧ i < ((zS h a).2 : Int) then _ else _) = _
    rw [if_pos (by rw [hs]; exact ⟨rfl, rfl, hi⟩), hp]
    show zn pc' L (vR (zP h a i.toNat) :: r) h = _
    rw [hq]
    rfl
theorem y_is {a n : Nat} {i x : Int} (e : decode cc pc = .ok (.iastore, 1)) (hs : zS h a = (1, n)) (ha : 32 ≤ a) (hi : 0 ≤ i ∧ i < (n : Int)) {h' : Hp} (hh : zsetV h a i.toNat x = h') (hp : pc + 1 = pc') (w : ZW d cc o pc' L r h' Q) : ZW d cc o pc L (vI x :: vI i :: vR (some a) :: r) h Q := by
  subst hh
  refine y_s e ?_ w
  show (if 1 = 1 ∧ (zS h a).1 = 1 ∧ 32 ≤ a ∧ 0 ≤ i ∧ i < ((zS h a).2 : Int) then _ else _) = _
  rw [if_pos (by rw [hs]; exact ⟨rfl, rfl, ha, hi⟩), hp]
  rfl
theorem y_bs {a n : Nat} {i x : Int} (e : decode cc pc = .ok (.bastore, 1)) (hs : zS h a = (2, n)) (ha : 32 ≤ a) (hi : 0 ≤ i ∧ i < (n : Int)) (hx : x = 0 ∨ x = 1) {h' : Hp} (hh : zsetV h a i.toNat x = h') (hp : pc + 1 = pc') (w : ZW d cc o pc' L r h' Q) : ZW d cc o pc L (vI x :: vI i :: vR (some a) :: r) h Q := by
  subst hh
  refine y_s e ?_ w
  show (if 1 = 1 ∧ (zS h a).1 = 2 ∧ 32 ≤ a ∧ 0 ≤ i ∧ i < ((zS h a).2 : Int) ∧ (x = 0 ∨ x = 1) then _ else _) = _
  rw [if_pos (by rw [hs]; exact ⟨rfl, rfl, ha, hi.1, hi.2, hx⟩), hp]
  rfl
theorem y_js {a n : Nat} {i : Int} {x : Int64} (e : decode cc pc = .ok (.lastore, 1)) (hs : zS h a = (3, n)) (ha : 32 ≤ a) (hi : 0 ≤ i ∧ i < (n : Int)) {h' : Hp} (hh : zsetJ h a i.toNat x = h') (hp : pc + 1 = pc') (w : ZW d cc o pc' L r h' Q) : ZW d cc o pc L (vJ x :: vI i :: vR (some a) :: r) h Q := by
  subst hh
  refine y_s e ?_ w
  show (if 1 = 1 ∧ (zS h a).1 = 3 ∧ 32 ≤ a ∧ 0 ≤ i ∧ i < ((zS h a).2 : Int) then _ else _) = _
  rw [if_pos (by rw [hs]; exact ⟨rfl, rfl, ha, hi⟩), hp]
  rfl
theorem y_al {a n kd : Nat} (e : decode cc pc = .ok (.arraylength, 1)) (hs : zS h a = (kd, n)) (hk : (decide (1 ≤ kd) && decide (kd ≤ 3)) = true) (hn : n < 2147483648) (hp : pc + 1 = pc') (w : ZW d cc o pc' L (vI (n : Int) :: r) h Q) : ZW d cc o pc L (vR (some a) :: r) h Q := by
  simp at hk
  refine y_s e ?_ w
  show (if 1 = 1 ∧ 1 ≤ (zS h a).1 ∧ (zS h a).1 ≤ 6 ∧ (zS h a).2 < 2147483648 ∧ ((zS h a).1 = 4 → a < 32) then _ else _) = _
  rw [if_pos (by rw [hs]; exact ⟨rfl, hk.1, by show kd ≤ 6; omega, hn, fun q => by have q : kd = 4 := q; omega⟩), hp, hs]
  rfl
def zdiv (x y : Int) : Int := (zi x / zi y).toInt
def zrem (x y : Int) : Int := (zi x - zi x / zi y * zi y).toInt
def zand (x y : Int) : Int := (zi x &&& zi y).toInt
def zor (x y : Int) : Int := (zi x ||| zi y).toInt
def zxor (x y : Int) : Int := (zi x ^^^ zi y).toInt
def zshl (x y : Int) : Int := (zi x <<< (zi y &&& 31)).toInt
def zshr (x y : Int) : Int := (zi x >>> (zi y &&& 31)).toInt
theorem y_dv {x y : Int} (e : decode cc pc = .ok (.idiv, 1)) (hy : y ≠ 0) (hp : pc + 1 = pc') (w : ZW d cc o pc' L (vI (zdiv x y) :: r) h Q) : ZW d cc o pc L (vI y :: vI x :: r) h Q := by
  refine y_s e ?_ w
  show (if 1 = 1 ∧ y ≠ 0 then _ else _) = _
  rw [if_pos ⟨rfl, hy⟩, hp]
  rfl
theorem y_rm {x y : Int} (e : decode cc pc = .ok (.irem, 1)) (hy : y ≠ 0) (hp : pc + 1 = pc') (w : ZW d cc o pc' L (vI (zrem x y) :: r) h Q) : ZW d cc o pc L (vI y :: vI x :: r) h Q := by
  refine y_s e ?_ w
  show (if 1 = 1 ∧ y ≠ 0 then _ else _) = _
  rw [if_pos ⟨rfl, hy⟩, hp]
  rfl
theorem y_jd {x y : Int64} (e : decode cc pc = .ok (.ldiv, 1)) (hy : y ≠ 0) (hp : pc + 1 = pc') (w : ZW d cc o pc' L (vJ (x / y) :: r) h Q) : ZW d cc o pc L (vJ y :: vJ x :: r) h Q := by
  refine y_s e ?_ w
  show (if 1 = 1 ∧ y ≠ 0 then _ else _) = _
  rw [if_pos ⟨rfl, hy⟩, hp]
  rfl
theorem y_jr {x y : Int64} (e : decode cc pc = .ok (.lrem, 1)) (hy : y ≠ 0) (hp : pc + 1 = pc') (w : ZW d cc o pc' L (vJ (x - x / y * y) :: r) h Q) : ZW d cc o pc L (vJ y :: vJ x :: r) h Q := by
  refine y_s e ?_ w
  show (if 1 = 1 ∧ y ≠ 0 then _ else _) = _
  rw [if_pos ⟨rfl, hy⟩, hp]
  rfl
/-- what a call gives, by type -/
def yqI (K : Int → Hp → Prop) (v : Option AV) (h : Hp) : Prop := match v with
  | some (.inl x) => K x h
  | _ => False
def yqJ (K : Int64 → Hp → Prop) (v : Option AV) (h : Hp) : Prop := match v with
  | some (.inr (.inl x)) => K x h
  | _ => False
def yqU (K : Hp → Prop) (v : Option AV) (h : Hp) : Prop := match v with
  | none => K h
  | _ => False
def yq (t : Nat) (K : Option AV → Hp → Prop) (v : Option AV) (h : Hp) : Prop := zretok t v = true ∧ K v h
def yI (d z : Nat) (as : List AV) (h : Hp) (K : Int → Hp → Prop) : Prop := ZM d z as h (yqI K)
def yJ (d z : Nat) (as : List AV) (h : Hp) (K : Int64 → Hp → Prop) : Prop := ZM d z as h (yqJ K)
def yU (d z : Nat) (as : List AV) (h : Hp) (K : Hp → Prop) : Prop := ZM d z as h (yqU K)
theorem y_en {z : Nat} {as : List AV} {K : Option AV → Hp → Prop} (hl : Nat.ble (zenl as).length (zml z) = true) (hE : zent (zml z) as = L) (k : ZW d (zb z) (zo z) 0 L [] h (yq (zrt z) K)) : ZM d z as h K := by
  refine ⟨Nat.le_of_ble_eq_true hl, ?_⟩
  rw [hE]
  exact k
theorem yI.mono {z : Nat} {as : List AV} {K K' : Int → Hp → Prop} (w : yI d z as h K) (k : ∀ x h', K x h' → K' x h') : yI d z as h K' := ZM.mono w fun v h' q => match v, q with
  | some (.inl x), q => k x h' q
theorem yJ.mono {z : Nat} {as : List AV} {K K' : Int64 → Hp → Prop} (w : yJ d z as h K) (k : ∀ x h', K x h' → K' x h') : yJ d z as h K' := ZM.mono w fun v h' q => match v, q with
  | some (.inr (.inl x)), q => k x h' q
theorem yU.mono {z : Nat} {as : List AV} {K K' : Hp → Prop} (w : yU d z as h K) (k : ∀ h', K h' → K' h') : yU d z as h K' := ZM.mono w fun v h' q => match v, q with
  | none, q => k h' q
theorem y_cl {i : Instr} {l z : Nat} {as : List AV} (e : decode cc pc = .ok (i, l)) (hz : zin d o pc l L st h i = some (.inr (.inl (z, as, r)))) (hd : 1 ≤ d) (hp : pc + 3 = pc') (k : ZM (d - 1) z as h (fun v h' => ZW d cc o pc' L (v.toList ++ r) h' Q)) : ZW d cc o pc L st h Q := by
  obtain ⟨d, rfl⟩ : ∃ d', d = d' + 1 := ⟨d - 1, by omega⟩
  have q : zact (d + 1) cc o pc L st h = some (.inr (.inl (z, as, r))) := by
    unfold zact
    rw [e]
    exact hz
  rw [ZW_call q, hp]
  exact k
theorem y_cI {i : Instr} {l z : Nat} {as : List AV} (e : decode cc pc = .ok (i, l)) (hz : zin d o pc l L st h i = some (.inr (.inl (z, as, r)))) (hd : 1 ≤ d) (hp : pc + 3 = pc') (k : yI (d - 1) z as h (fun x h' => ZW d cc o pc' L (vI x :: r) h' Q)) : ZW d cc o pc L st h Q :=
  y_cl e hz hd hp (ZM.mono k fun v h' q => match v, q with
    | some (.inl x), q => q)
theorem y_cJ {i : Instr} {l z : Nat} {as : List AV} (e : decode cc pc = .ok (i, l)) (hz : zin d o pc l L st h i = some (.inr (.inl (z, as, r)))) (hd : 1 ≤ d) (hp : pc + 3 = pc') (k : yJ (d - 1) z as h (fun x h' => ZW d cc o pc' L (vJ x :: r) h' Q)) : ZW d cc o pc L st h Q :=
  y_cl e hz hd hp (ZM.mono k fun v h' q => match v, q with
    | some (.inr (.inl x)), q => q)
theorem y_cU {i : Instr} {l z : Nat} {as : List AV} (e : decode cc pc = .ok (i, l)) (hz : zin d o pc l L st h i = some (.inr (.inl (z, as, r)))) (hd : 1 ≤ d) (hp : pc + 3 = pc') (k : yU (d - 1) z as h (fun h' => ZW d cc o pc' L r h' Q)) : ZW d cc o pc L st h Q :=
  y_cl e hz hd hp (ZM.mono k fun v h' q => match v, q with
    | none, q => q)
/-- the target of a virtual call -/
theorem yzv {k z a : Nat} {as : List AV} (hm : zmth o k = some (0, z)) (hn : st[zna z]? = some (vR (some a))) (hs : zS h a = zrc z) (h10 : (Nat.ble 10 (zrc z).1 && Nat.blt (zrc z).1 20) = true) (hc : zcall 3 (zna z + 1) z st = some (.inr (.inl (z, as, r)))) : zin d o pc 3 L st h (.invokevirtual k) = some (.inr (.inl (z, as, r))) := by
  simp [Nat.blt] at h10
  show zinv (zmth o k) 3 st h = _
  rw [hm]
  show (match st[zna z]? with
    | some (.inr (.inr (some a))) => if zS h a = zrc z ∧ 10 ≤ (zrc z).1 ∧ ((zrc z).1 = 20 → a < 32) then zcall 3 (zna z + 1) z st else none
    | _ => none) = _
  rw [hn]
  show (if zS h a = zrc z ∧ 10 ≤ (zrc z).1 ∧ ((zrc z).1 = 20 → a < 32) then zcall 3 (zna z + 1) z st else none) = _
  rw [if_pos ⟨hs, by omega, fun q => by omega⟩]
  exact hc
end YR
end
section
/-! THE LAYOUT of the cells once both objects stand (printed by wip/whole/gen_wf.py) -/
def yTb : List (Nat × Nat) := [(17, 11), (14, 5), (1, 100), (1, 100), (1, 100), (12, 13), (1, 6), (1, 6), (1, 6), (1, 36), (1, 24), (1, 6), (13, 2), (1, 32), (13, 2), (1, 20), (13, 2), (1, 40), (13, 2), (1, 32), (12, 13), (1, 6), (1, 6), (1, 6), (1, 36), (1, 24), (1, 6), (13, 2), (1, 32), (13, 2), (1, 20), (13, 2), (1, 40), (13, 2), (1, 32), (12, 13), (1, 6), (1, 6), (1, 6), (1, 36), (1, 24), (1, 6), (13, 2), (1, 32), (13, 2), (1, 20), (13, 2), (1, 40), (13, 2), (1, 32), (16, 5), (1, 100), (5, 6), (6, 6), (10, 5), (1, 20), (11, 6), (1, 36), (1, 6), (1, 6), (1, 6), (14, 5), (1, 100), (1, 100), (1, 100), (14, 5), (1, 100), (1, 100), (1, 100), (14, 5), (1, 100), (1, 100), (1, 100), (14, 5), (1, 100), (1, 100), (1, 100), (14, 5), (1, 100), (1, 100), (1, 100), (14, 5), (1, 100), (1, 100), (1, 100), (15, 3), (3, 60), (15, 3), (3, 60), (15, 3), (3, 60), (15, 3), (3, 60), (15, 3), (3, 60), (15, 3), (3, 60), (18, 49), (1, 6), (1, 6), (1, 36), (1, 6), (1, 24), (1, 8), (1, 100), (1, 6), (1, 61), (1, 61), (1, 61), (1, 61), (1, 800), (2, 110), (1, 5), (1, 5), (1, 5), (1, 5), (1, 10), (1, 10), (1, 8), (1, 8), (1, 20), (1, 152), (1, 152), (1, 6), (1, 6), (1, 6), (1, 6), (1, 6), (1, 6), (3, 360)]
def yPb : List (List (Option Nat)) := [[some 33, some 37, some 52, some 67, none, some 82, some 84, none, some 85, some 86, some 88], [some 34, some 35, some 36], [], [], [], [some 38, some 39, some 40, some 41, some 42, some 43, some 44, some 46, some 48, some 50, none, none, some 33], [], [], [], [], [], [], [some 45], [], [some 47], [], [some 49], [], [some 51], [], [some 53, some 54, some 55, some 56, some 57, some 58, some 59, some 61, some 63, some 65, none, none, some 33], [], [], [], [], [], [], [some 60], [], [some 62], [], [some 64], [], [some 66], [], [some 68, some 69, some 70, some 71, some 72, some 73, some 74, some 76, some 78, some 80, none, none, some 33], [], [], [], [], [], [], [some 75], [], [some 77], [], [some 79], [], [some 81], [], [some 83], [], [some 93, some 97, some 101, some 105, some 109, some 113], [some 117, some 119, some 121, some 123, some 125, some 127], [some 87], [], [some 89, some 90, some 91, some 92], [], [], [], [], [some 94, some 95, some 96], [], [], [], [some 98, some 99, some 100], [], [], [], [some 102, some 103, some 104], [], [], [], [some 106, some 107, some 108], [], [], [], [some 110, some 111, some 112], [], [], [], [some 114, some 115, some 116], [], [], [], [some 118], [], [some 120], [], [some 122], [], [some 124], [], [some 126], [], [some 128], [], [none, some 130, some 131, some 132, some 133, some 134, none, some 135, none, none, some 136, none, none, none, none, none, none, some 137, some 138, some 139, some 140, some 141, some 142, none, some 143, none, some 144, some 145, some 146, some 147, none, some 148, some 149, none, some 150, some 151, none, some 152, none, some 153, some 154, some 155, some 156, some 157, some 158, none, some 159, some 160, some 161], [], [], [], [], [], [], [], [], [], [], [], [], [], [], [], [], [], [], [], [], [], [], [], [], [], [], [], [], [], [], [], []]
def yTS (zl b : Nat) : Nat × Nat := if b < 32 then zbS zl b else yTb.getD (b - 32) (0, 0)
def yTP (nl : Option Nat) (a k : Nat) : Option Nat := if a < 32 then zbP nl a k else (yPb.getD (a - 32) []).getD k none
def yMu (a k : Nat) : Bool := (k == 12 && (a == 37 || a == 52 || a == 67)) || (a == 82 && k == 4)
def yHs (a : Nat) : Prop := a = 37 ∨ a = 52 ∨ a = 67
def ySh (s : Nat) : Prop := s = 33 ∨ s = 93 ∨ s = 97 ∨ s = 101 ∨ s = 105 ∨ s = 109 ∨ s = 113
def yTp (t : Nat) : Prop := t = 117 ∨ t = 119 ∨ t = 121 ∨ t = 123 ∨ t = 125 ∨ t = 127
def yRs (r n : Nat) : Prop := ∃ a, yHs a ∧ ((r = a + 7 ∧ n = 32) ∨ (r = a + 9 ∧ n = 20) ∨ (r = a + 11 ∧ n = 40) ∨ (r = a + 13 ∧ n = 32))
/-- the cells stand as laid out -/
def yWF (zl : Nat) (nl : Option Nat) (h : Hp) : Prop := zS h = yTS zl ∧ (∀ a k, yMu a k = false → zP h a k = yTP nl a k) ∧ (∀ a, yHs a → ∃ s, zP h a 12 = some s ∧ ySh s) ∧ zN h = 130 ∧ zM h = 5584
section YWF
variable {zl : Nat} {nl : Option Nat} {h : Hp} {a r n s t : Nat}
theorem ys32 (w : yWF zl nl h) : zS h 32 = (17, 11) := congrFun w.1 32
theorem ys33 (w : yWF zl nl h) : zS h 33 = (14, 5) := congrFun w.1 33
theorem ys34 (w : yWF zl nl h) : zS h 34 = (1, 100) := congrFun w.1 34
theorem ys35 (w : yWF zl nl h) : zS h 35 = (1, 100) := congrFun w.1 35
theorem ys36 (w : yWF zl nl h) : zS h 36 = (1, 100) := congrFun w.1 36
theorem ys37 (w : yWF zl nl h) : zS h 37 = (12, 13) := congrFun w.1 37
theorem ys38 (w : yWF zl nl h) : zS h 38 = (1, 6) := congrFun w.1 38
theorem ys39 (w : yWF zl nl h) : zS h 39 = (1, 6) := congrFun w.1 39
theorem ys40 (w : yWF zl nl h) : zS h 40 = (1, 6) := congrFun w.1 40
theorem ys41 (w : yWF zl nl h) : zS h 41 = (1, 36) := congrFun w.1 41
theorem ys42 (w : yWF zl nl h) : zS h 42 = (1, 24) := congrFun w.1 42
theorem ys43 (w : yWF zl nl h) : zS h 43 = (1, 6) := congrFun w.1 43
theorem ys44 (w : yWF zl nl h) : zS h 44 = (13, 2) := congrFun w.1 44
theorem ys45 (w : yWF zl nl h) : zS h 45 = (1, 32) := congrFun w.1 45
theorem ys46 (w : yWF zl nl h) : zS h 46 = (13, 2) := congrFun w.1 46
theorem ys47 (w : yWF zl nl h) : zS h 47 = (1, 20) := congrFun w.1 47
theorem ys48 (w : yWF zl nl h) : zS h 48 = (13, 2) := congrFun w.1 48
theorem ys49 (w : yWF zl nl h) : zS h 49 = (1, 40) := congrFun w.1 49
theorem ys50 (w : yWF zl nl h) : zS h 50 = (13, 2) := congrFun w.1 50
theorem ys51 (w : yWF zl nl h) : zS h 51 = (1, 32) := congrFun w.1 51
theorem ys52 (w : yWF zl nl h) : zS h 52 = (12, 13) := congrFun w.1 52
theorem ys53 (w : yWF zl nl h) : zS h 53 = (1, 6) := congrFun w.1 53
theorem ys54 (w : yWF zl nl h) : zS h 54 = (1, 6) := congrFun w.1 54
theorem ys55 (w : yWF zl nl h) : zS h 55 = (1, 6) := congrFun w.1 55
theorem ys56 (w : yWF zl nl h) : zS h 56 = (1, 36) := congrFun w.1 56
theorem ys57 (w : yWF zl nl h) : zS h 57 = (1, 24) := congrFun w.1 57
theorem ys58 (w : yWF zl nl h) : zS h 58 = (1, 6) := congrFun w.1 58
theorem ys59 (w : yWF zl nl h) : zS h 59 = (13, 2) := congrFun w.1 59
theorem ys60 (w : yWF zl nl h) : zS h 60 = (1, 32) := congrFun w.1 60
theorem ys61 (w : yWF zl nl h) : zS h 61 = (13, 2) := congrFun w.1 61
theorem ys62 (w : yWF zl nl h) : zS h 62 = (1, 20) := congrFun w.1 62
theorem ys63 (w : yWF zl nl h) : zS h 63 = (13, 2) := congrFun w.1 63
theorem ys64 (w : yWF zl nl h) : zS h 64 = (1, 40) := congrFun w.1 64
theorem ys65 (w : yWF zl nl h) : zS h 65 = (13, 2) := congrFun w.1 65
theorem ys66 (w : yWF zl nl h) : zS h 66 = (1, 32) := congrFun w.1 66
theorem ys67 (w : yWF zl nl h) : zS h 67 = (12, 13) := congrFun w.1 67
theorem ys68 (w : yWF zl nl h) : zS h 68 = (1, 6) := congrFun w.1 68
theorem ys69 (w : yWF zl nl h) : zS h 69 = (1, 6) := congrFun w.1 69
theorem ys70 (w : yWF zl nl h) : zS h 70 = (1, 6) := congrFun w.1 70
theorem ys71 (w : yWF zl nl h) : zS h 71 = (1, 36) := congrFun w.1 71
theorem ys72 (w : yWF zl nl h) : zS h 72 = (1, 24) := congrFun w.1 72
theorem ys73 (w : yWF zl nl h) : zS h 73 = (1, 6) := congrFun w.1 73
theorem ys74 (w : yWF zl nl h) : zS h 74 = (13, 2) := congrFun w.1 74
theorem ys75 (w : yWF zl nl h) : zS h 75 = (1, 32) := congrFun w.1 75
theorem ys76 (w : yWF zl nl h) : zS h 76 = (13, 2) := congrFun w.1 76
theorem ys77 (w : yWF zl nl h) : zS h 77 = (1, 20) := congrFun w.1 77
theorem ys78 (w : yWF zl nl h) : zS h 78 = (13, 2) := congrFun w.1 78
theorem ys79 (w : yWF zl nl h) : zS h 79 = (1, 40) := congrFun w.1 79
theorem ys80 (w : yWF zl nl h) : zS h 80 = (13, 2) := congrFun w.1 80
theorem ys81 (w : yWF zl nl h) : zS h 81 = (1, 32) := congrFun w.1 81
theorem ys82 (w : yWF zl nl h) : zS h 82 = (16, 5) := congrFun w.1 82
theorem ys83 (w : yWF zl nl h) : zS h 83 = (1, 100) := congrFun w.1 83
theorem ys84 (w : yWF zl nl h) : zS h 84 = (5, 6) := congrFun w.1 84
theorem ys85 (w : yWF zl nl h) : zS h 85 = (6, 6) := congrFun w.1 85
theorem ys86 (w : yWF zl nl h) : zS h 86 = (10, 5) := congrFun w.1 86
theorem ys87 (w : yWF zl nl h) : zS h 87 = (1, 20) := congrFun w.1 87
theorem ys88 (w : yWF zl nl h) : zS h 88 = (11, 6) := congrFun w.1 88
theorem ys89 (w : yWF zl nl h) : zS h 89 = (1, 36) := congrFun w.1 89
theorem ys90 (w : yWF zl nl h) : zS h 90 = (1, 6) := congrFun w.1 90
theorem ys91 (w : yWF zl nl h) : zS h 91 = (1, 6) := congrFun w.1 91
theorem ys92 (w : yWF zl nl h) : zS h 92 = (1, 6) := congrFun w.1 92
theorem ys93 (w : yWF zl nl h) : zS h 93 = (14, 5) := congrFun w.1 93
theorem ys94 (w : yWF zl nl h) : zS h 94 = (1, 100) := congrFun w.1 94
theorem ys95 (w : yWF zl nl h) : zS h 95 = (1, 100) := congrFun w.1 95
theorem ys96 (w : yWF zl nl h) : zS h 96 = (1, 100) := congrFun w.1 96
theorem ys97 (w : yWF zl nl h) : zS h 97 = (14, 5) := congrFun w.1 97
theorem ys98 (w : yWF zl nl h) : zS h 98 = (1, 100) := congrFun w.1 98
theorem ys99 (w : yWF zl nl h) : zS h 99 = (1, 100) := congrFun w.1 99
theorem ys100 (w : yWF zl nl h) : zS h 100 = (1, 100) := congrFun w.1 100
theorem ys101 (w : yWF zl nl h) : zS h 101 = (14, 5) := congrFun w.1 101
theorem ys102 (w : yWF zl nl h) : zS h 102 = (1, 100) := congrFun w.1 102
theorem ys103 (w : yWF zl nl h) : zS h 103 = (1, 100) := congrFun w.1 103
theorem ys104 (w : yWF zl nl h) : zS h 104 = (1, 100) := congrFun w.1 104
theorem ys105 (w : yWF zl nl h) : zS h 105 = (14, 5) := congrFun w.1 105
theorem ys106 (w : yWF zl nl h) : zS h 106 = (1, 100) := congrFun w.1 106
theorem ys107 (w : yWF zl nl h) : zS h 107 = (1, 100) := congrFun w.1 107
theorem ys108 (w : yWF zl nl h) : zS h 108 = (1, 100) := congrFun w.1 108
theorem ys109 (w : yWF zl nl h) : zS h 109 = (14, 5) := congrFun w.1 109
theorem ys110 (w : yWF zl nl h) : zS h 110 = (1, 100) := congrFun w.1 110
theorem ys111 (w : yWF zl nl h) : zS h 111 = (1, 100) := congrFun w.1 111
theorem ys112 (w : yWF zl nl h) : zS h 112 = (1, 100) := congrFun w.1 112
theorem ys113 (w : yWF zl nl h) : zS h 113 = (14, 5) := congrFun w.1 113
theorem ys114 (w : yWF zl nl h) : zS h 114 = (1, 100) := congrFun w.1 114
theorem ys115 (w : yWF zl nl h) : zS h 115 = (1, 100) := congrFun w.1 115
theorem ys116 (w : yWF zl nl h) : zS h 116 = (1, 100) := congrFun w.1 116
theorem ys117 (w : yWF zl nl h) : zS h 117 = (15, 3) := congrFun w.1 117
theorem ys118 (w : yWF zl nl h) : zS h 118 = (3, 60) := congrFun w.1 118
theorem ys119 (w : yWF zl nl h) : zS h 119 = (15, 3) := congrFun w.1 119
theorem ys120 (w : yWF zl nl h) : zS h 120 = (3, 60) := congrFun w.1 120
theorem ys121 (w : yWF zl nl h) : zS h 121 = (15, 3) := congrFun w.1 121
theorem ys122 (w : yWF zl nl h) : zS h 122 = (3, 60) := congrFun w.1 122
theorem ys123 (w : yWF zl nl h) : zS h 123 = (15, 3) := congrFun w.1 123
theorem ys124 (w : yWF zl nl h) : zS h 124 = (3, 60) := congrFun w.1 124
theorem ys125 (w : yWF zl nl h) : zS h 125 = (15, 3) := congrFun w.1 125
theorem ys126 (w : yWF zl nl h) : zS h 126 = (3, 60) := congrFun w.1 126
theorem ys127 (w : yWF zl nl h) : zS h 127 = (15, 3) := congrFun w.1 127
theorem ys128 (w : yWF zl nl h) : zS h 128 = (3, 60) := congrFun w.1 128
theorem ys129 (w : yWF zl nl h) : zS h 129 = (18, 49) := congrFun w.1 129
theorem ys130 (w : yWF zl nl h) : zS h 130 = (1, 6) := congrFun w.1 130
theorem ys131 (w : yWF zl nl h) : zS h 131 = (1, 6) := congrFun w.1 131
theorem ys132 (w : yWF zl nl h) : zS h 132 = (1, 36) := congrFun w.1 132
theorem ys133 (w : yWF zl nl h) : zS h 133 = (1, 6) := congrFun w.1 133
theorem ys134 (w : yWF zl nl h) : zS h 134 = (1, 24) := congrFun w.1 134
theorem ys135 (w : yWF zl nl h) : zS h 135 = (1, 8) := congrFun w.1 135
theorem ys136 (w : yWF zl nl h) : zS h 136 = (1, 100) := congrFun w.1 136
theorem ys137 (w : yWF zl nl h) : zS h 137 = (1, 6) := congrFun w.1 137
theorem ys138 (w : yWF zl nl h) : zS h 138 = (1, 61) := congrFun w.1 138
theorem ys139 (w : yWF zl nl h) : zS h 139 = (1, 61) := congrFun w.1 139
theorem ys140 (w : yWF zl nl h) : zS h 140 = (1, 61) := congrFun w.1 140
theorem ys141 (w : yWF zl nl h) : zS h 141 = (1, 61) := congrFun w.1 141
theorem ys142 (w : yWF zl nl h) : zS h 142 = (1, 800) := congrFun w.1 142
theorem ys143 (w : yWF zl nl h) : zS h 143 = (2, 110) := congrFun w.1 143
theorem ys144 (w : yWF zl nl h) : zS h 144 = (1, 5) := congrFun w.1 144
theorem ys145 (w : yWF zl nl h) : zS h 145 = (1, 5) := congrFun w.1 145
theorem ys146 (w : yWF zl nl h) : zS h 146 = (1, 5) := congrFun w.1 146
theorem ys147 (w : yWF zl nl h) : zS h 147 = (1, 5) := congrFun w.1 147
theorem ys148 (w : yWF zl nl h) : zS h 148 = (1, 10) := congrFun w.1 148
theorem ys149 (w : yWF zl nl h) : zS h 149 = (1, 10) := congrFun w.1 149
theorem ys150 (w : yWF zl nl h) : zS h 150 = (1, 8) := congrFun w.1 150
theorem ys151 (w : yWF zl nl h) : zS h 151 = (1, 8) := congrFun w.1 151
theorem ys152 (w : yWF zl nl h) : zS h 152 = (1, 20) := congrFun w.1 152
theorem ys153 (w : yWF zl nl h) : zS h 153 = (1, 152) := congrFun w.1 153
theorem ys154 (w : yWF zl nl h) : zS h 154 = (1, 152) := congrFun w.1 154
theorem ys155 (w : yWF zl nl h) : zS h 155 = (1, 6) := congrFun w.1 155
theorem ys156 (w : yWF zl nl h) : zS h 156 = (1, 6) := congrFun w.1 156
theorem ys157 (w : yWF zl nl h) : zS h 157 = (1, 6) := congrFun w.1 157
theorem ys158 (w : yWF zl nl h) : zS h 158 = (1, 6) := congrFun w.1 158
theorem ys159 (w : yWF zl nl h) : zS h 159 = (1, 6) := congrFun w.1 159
theorem ys160 (w : yWF zl nl h) : zS h 160 = (1, 6) := congrFun w.1 160
theorem ys161 (w : yWF zl nl h) : zS h 161 = (3, 360) := congrFun w.1 161
theorem yp32_0 (w : yWF zl nl h) : zP h 32 0 = some 33 := w.2.1 32 0 rfl
theorem yp32_1 (w : yWF zl nl h) : zP h 32 1 = some 37 := w.2.1 32 1 rfl
theorem yp32_2 (w : yWF zl nl h) : zP h 32 2 = some 52 := w.2.1 32 2 rfl
theorem yp32_3 (w : yWF zl nl h) : zP h 32 3 = some 67 := w.2.1 32 3 rfl
theorem yp32_5 (w : yWF zl nl h) : zP h 32 5 = some 82 := w.2.1 32 5 rfl
theorem yp32_6 (w : yWF zl nl h) : zP h 32 6 = some 84 := w.2.1 32 6 rfl
theorem yp32_8 (w : yWF zl nl h) : zP h 32 8 = some 85 := w.2.1 32 8 rfl
theorem yp32_9 (w : yWF zl nl h) : zP h 32 9 = some 86 := w.2.1 32 9 rfl
theorem yp32_10 (w : yWF zl nl h) : zP h 32 10 = some 88 := w.2.1 32 10 rfl
theorem yp33_0 (w : yWF zl nl h) : zP h 33 0 = some 34 := w.2.1 33 0 rfl
theorem yp33_1 (w : yWF zl nl h) : zP h 33 1 = some 35 := w.2.1 33 1 rfl
theorem yp33_2 (w : yWF zl nl h) : zP h 33 2 = some 36 := w.2.1 33 2 rfl
theorem yp37_0 (w : yWF zl nl h) : zP h 37 0 = some 38 := w.2.1 37 0 rfl
theorem yp37_1 (w : yWF zl nl h) : zP h 37 1 = some 39 := w.2.1 37 1 rfl
theorem yp37_2 (w : yWF zl nl h) : zP h 37 2 = some 40 := w.2.1 37 2 rfl
theorem yp37_3 (w : yWF zl nl h) : zP h 37 3 = some 41 := w.2.1 37 3 rfl
theorem yp37_4 (w : yWF zl nl h) : zP h 37 4 = some 42 := w.2.1 37 4 rfl
theorem yp37_5 (w : yWF zl nl h) : zP h 37 5 = some 43 := w.2.1 37 5 rfl
theorem yp37_6 (w : yWF zl nl h) : zP h 37 6 = some 44 := w.2.1 37 6 rfl
theorem yp37_7 (w : yWF zl nl h) : zP h 37 7 = some 46 := w.2.1 37 7 rfl
theorem yp37_8 (w : yWF zl nl h) : zP h 37 8 = some 48 := w.2.1 37 8 rfl
theorem yp37_9 (w : yWF zl nl h) : zP h 37 9 = some 50 := w.2.1 37 9 rfl
theorem yp44_0 (w : yWF zl nl h) : zP h 44 0 = some 45 := w.2.1 44 0 rfl
theorem yp46_0 (w : yWF zl nl h) : zP h 46 0 = some 47 := w.2.1 46 0 rfl
theorem yp48_0 (w : yWF zl nl h) : zP h 48 0 = some 49 := w.2.1 48 0 rfl
theorem yp50_0 (w : yWF zl nl h) : zP h 50 0 = some 51 := w.2.1 50 0 rfl
theorem yp52_0 (w : yWF zl nl h) : zP h 52 0 = some 53 := w.2.1 52 0 rfl
theorem yp52_1 (w : yWF zl nl h) : zP h 52 1 = some 54 := w.2.1 52 1 rfl
theorem yp52_2 (w : yWF zl nl h) : zP h 52 2 = some 55 := w.2.1 52 2 rfl
theorem yp52_3 (w : yWF zl nl h) : zP h 52 3 = some 56 := w.2.1 52 3 rfl
theorem yp52_4 (w : yWF zl nl h) : zP h 52 4 = some 57 := w.2.1 52 4 rfl
theorem yp52_5 (w : yWF zl nl h) : zP h 52 5 = some 58 := w.2.1 52 5 rfl
theorem yp52_6 (w : yWF zl nl h) : zP h 52 6 = some 59 := w.2.1 52 6 rfl
theorem yp52_7 (w : yWF zl nl h) : zP h 52 7 = some 61 := w.2.1 52 7 rfl
theorem yp52_8 (w : yWF zl nl h) : zP h 52 8 = some 63 := w.2.1 52 8 rfl
theorem yp52_9 (w : yWF zl nl h) : zP h 52 9 = some 65 := w.2.1 52 9 rfl
theorem yp59_0 (w : yWF zl nl h) : zP h 59 0 = some 60 := w.2.1 59 0 rfl
theorem yp61_0 (w : yWF zl nl h) : zP h 61 0 = some 62 := w.2.1 61 0 rfl
theorem yp63_0 (w : yWF zl nl h) : zP h 63 0 = some 64 := w.2.1 63 0 rfl
theorem yp65_0 (w : yWF zl nl h) : zP h 65 0 = some 66 := w.2.1 65 0 rfl
theorem yp67_0 (w : yWF zl nl h) : zP h 67 0 = some 68 := w.2.1 67 0 rfl
theorem yp67_1 (w : yWF zl nl h) : zP h 67 1 = some 69 := w.2.1 67 1 rfl
theorem yp67_2 (w : yWF zl nl h) : zP h 67 2 = some 70 := w.2.1 67 2 rfl
theorem yp67_3 (w : yWF zl nl h) : zP h 67 3 = some 71 := w.2.1 67 3 rfl
theorem yp67_4 (w : yWF zl nl h) : zP h 67 4 = some 72 := w.2.1 67 4 rfl
theorem yp67_5 (w : yWF zl nl h) : zP h 67 5 = some 73 := w.2.1 67 5 rfl
theorem yp67_6 (w : yWF zl nl h) : zP h 67 6 = some 74 := w.2.1 67 6 rfl
theorem yp67_7 (w : yWF zl nl h) : zP h 67 7 = some 76 := w.2.1 67 7 rfl
theorem yp67_8 (w : yWF zl nl h) : zP h 67 8 = some 78 := w.2.1 67 8 rfl
theorem yp67_9 (w : yWF zl nl h) : zP h 67 9 = some 80 := w.2.1 67 9 rfl
theorem yp74_0 (w : yWF zl nl h) : zP h 74 0 = some 75 := w.2.1 74 0 rfl
theorem yp76_0 (w : yWF zl nl h) : zP h 76 0 = some 77 := w.2.1 76 0 rfl
theorem yp78_0 (w : yWF zl nl h) : zP h 78 0 = some 79 := w.2.1 78 0 rfl
theorem yp80_0 (w : yWF zl nl h) : zP h 80 0 = some 81 := w.2.1 80 0 rfl
theorem yp82_0 (w : yWF zl nl h) : zP h 82 0 = some 83 := w.2.1 82 0 rfl
theorem yp84_0 (w : yWF zl nl h) : zP h 84 0 = some 93 := w.2.1 84 0 rfl
theorem yp84_1 (w : yWF zl nl h) : zP h 84 1 = some 97 := w.2.1 84 1 rfl
theorem yp84_2 (w : yWF zl nl h) : zP h 84 2 = some 101 := w.2.1 84 2 rfl
theorem yp84_3 (w : yWF zl nl h) : zP h 84 3 = some 105 := w.2.1 84 3 rfl
theorem yp84_4 (w : yWF zl nl h) : zP h 84 4 = some 109 := w.2.1 84 4 rfl
theorem yp84_5 (w : yWF zl nl h) : zP h 84 5 = some 113 := w.2.1 84 5 rfl
theorem yp85_0 (w : yWF zl nl h) : zP h 85 0 = some 117 := w.2.1 85 0 rfl
theorem yp85_1 (w : yWF zl nl h) : zP h 85 1 = some 119 := w.2.1 85 1 rfl
theorem yp85_2 (w : yWF zl nl h) : zP h 85 2 = some 121 := w.2.1 85 2 rfl
theorem yp85_3 (w : yWF zl nl h) : zP h 85 3 = some 123 := w.2.1 85 3 rfl
theorem yp85_4 (w : yWF zl nl h) : zP h 85 4 = some 125 := w.2.1 85 4 rfl
theorem yp85_5 (w : yWF zl nl h) : zP h 85 5 = some 127 := w.2.1 85 5 rfl
theorem yp86_0 (w : yWF zl nl h) : zP h 86 0 = some 87 := w.2.1 86 0 rfl
theorem yp88_0 (w : yWF zl nl h) : zP h 88 0 = some 89 := w.2.1 88 0 rfl
theorem yp88_1 (w : yWF zl nl h) : zP h 88 1 = some 90 := w.2.1 88 1 rfl
theorem yp88_2 (w : yWF zl nl h) : zP h 88 2 = some 91 := w.2.1 88 2 rfl
theorem yp88_3 (w : yWF zl nl h) : zP h 88 3 = some 92 := w.2.1 88 3 rfl
theorem yp93_0 (w : yWF zl nl h) : zP h 93 0 = some 94 := w.2.1 93 0 rfl
theorem yp93_1 (w : yWF zl nl h) : zP h 93 1 = some 95 := w.2.1 93 1 rfl
theorem yp93_2 (w : yWF zl nl h) : zP h 93 2 = some 96 := w.2.1 93 2 rfl
theorem yp97_0 (w : yWF zl nl h) : zP h 97 0 = some 98 := w.2.1 97 0 rfl
theorem yp97_1 (w : yWF zl nl h) : zP h 97 1 = some 99 := w.2.1 97 1 rfl
theorem yp97_2 (w : yWF zl nl h) : zP h 97 2 = some 100 := w.2.1 97 2 rfl
theorem yp101_0 (w : yWF zl nl h) : zP h 101 0 = some 102 := w.2.1 101 0 rfl
theorem yp101_1 (w : yWF zl nl h) : zP h 101 1 = some 103 := w.2.1 101 1 rfl
theorem yp101_2 (w : yWF zl nl h) : zP h 101 2 = some 104 := w.2.1 101 2 rfl
theorem yp105_0 (w : yWF zl nl h) : zP h 105 0 = some 106 := w.2.1 105 0 rfl
theorem yp105_1 (w : yWF zl nl h) : zP h 105 1 = some 107 := w.2.1 105 1 rfl
theorem yp105_2 (w : yWF zl nl h) : zP h 105 2 = some 108 := w.2.1 105 2 rfl
theorem yp109_0 (w : yWF zl nl h) : zP h 109 0 = some 110 := w.2.1 109 0 rfl
theorem yp109_1 (w : yWF zl nl h) : zP h 109 1 = some 111 := w.2.1 109 1 rfl
theorem yp109_2 (w : yWF zl nl h) : zP h 109 2 = some 112 := w.2.1 109 2 rfl
theorem yp113_0 (w : yWF zl nl h) : zP h 113 0 = some 114 := w.2.1 113 0 rfl
theorem yp113_1 (w : yWF zl nl h) : zP h 113 1 = some 115 := w.2.1 113 1 rfl
theorem yp113_2 (w : yWF zl nl h) : zP h 113 2 = some 116 := w.2.1 113 2 rfl
theorem yp117_0 (w : yWF zl nl h) : zP h 117 0 = some 118 := w.2.1 117 0 rfl
theorem yp119_0 (w : yWF zl nl h) : zP h 119 0 = some 120 := w.2.1 119 0 rfl
theorem yp121_0 (w : yWF zl nl h) : zP h 121 0 = some 122 := w.2.1 121 0 rfl
theorem yp123_0 (w : yWF zl nl h) : zP h 123 0 = some 124 := w.2.1 123 0 rfl
theorem yp125_0 (w : yWF zl nl h) : zP h 125 0 = some 126 := w.2.1 125 0 rfl
theorem yp127_0 (w : yWF zl nl h) : zP h 127 0 = some 128 := w.2.1 127 0 rfl
theorem yp129_1 (w : yWF zl nl h) : zP h 129 1 = some 130 := w.2.1 129 1 rfl
theorem yp129_2 (w : yWF zl nl h) : zP h 129 2 = some 131 := w.2.1 129 2 rfl
theorem yp129_3 (w : yWF zl nl h) : zP h 129 3 = some 132 := w.2.1 129 3 rfl
theorem yp129_4 (w : yWF zl nl h) : zP h 129 4 = some 133 := w.2.1 129 4 rfl
theorem yp129_5 (w : yWF zl nl h) : zP h 129 5 = some 134 := w.2.1 129 5 rfl
theorem yp129_7 (w : yWF zl nl h) : zP h 129 7 = some 135 := w.2.1 129 7 rfl
theorem yp129_10 (w : yWF zl nl h) : zP h 129 10 = some 136 := w.2.1 129 10 rfl
theorem yp129_17 (w : yWF zl nl h) : zP h 129 17 = some 137 := w.2.1 129 17 rfl
theorem yp129_18 (w : yWF zl nl h) : zP h 129 18 = some 138 := w.2.1 129 18 rfl
theorem yp129_19 (w : yWF zl nl h) : zP h 129 19 = some 139 := w.2.1 129 19 rfl
theorem yp129_20 (w : yWF zl nl h) : zP h 129 20 = some 140 := w.2.1 129 20 rfl
theorem yp129_21 (w : yWF zl nl h) : zP h 129 21 = some 141 := w.2.1 129 21 rfl
theorem yp129_22 (w : yWF zl nl h) : zP h 129 22 = some 142 := w.2.1 129 22 rfl
theorem yp129_24 (w : yWF zl nl h) : zP h 129 24 = some 143 := w.2.1 129 24 rfl
theorem yp129_26 (w : yWF zl nl h) : zP h 129 26 = some 144 := w.2.1 129 26 rfl
theorem yp129_27 (w : yWF zl nl h) : zP h 129 27 = some 145 := w.2.1 129 27 rfl
theorem yp129_28 (w : yWF zl nl h) : zP h 129 28 = some 146 := w.2.1 129 28 rfl
theorem yp129_29 (w : yWF zl nl h) : zP h 129 29 = some 147 := w.2.1 129 29 rfl
theorem yp129_31 (w : yWF zl nl h) : zP h 129 31 = some 148 := w.2.1 129 31 rfl
theorem yp129_32 (w : yWF zl nl h) : zP h 129 32 = some 149 := w.2.1 129 32 rfl
theorem yp129_34 (w : yWF zl nl h) : zP h 129 34 = some 150 := w.2.1 129 34 rfl
theorem yp129_35 (w : yWF zl nl h) : zP h 129 35 = some 151 := w.2.1 129 35 rfl
theorem yp129_37 (w : yWF zl nl h) : zP h 129 37 = some 152 := w.2.1 129 37 rfl
theorem yp129_39 (w : yWF zl nl h) : zP h 129 39 = some 153 := w.2.1 129 39 rfl
theorem yp129_40 (w : yWF zl nl h) : zP h 129 40 = some 154 := w.2.1 129 40 rfl
theorem yp129_41 (w : yWF zl nl h) : zP h 129 41 = some 155 := w.2.1 129 41 rfl
theorem yp129_42 (w : yWF zl nl h) : zP h 129 42 = some 156 := w.2.1 129 42 rfl
theorem yp129_43 (w : yWF zl nl h) : zP h 129 43 = some 157 := w.2.1 129 43 rfl
theorem yp129_44 (w : yWF zl nl h) : zP h 129 44 = some 158 := w.2.1 129 44 rfl
theorem yp129_46 (w : yWF zl nl h) : zP h 129 46 = some 159 := w.2.1 129 46 rfl
theorem yp129_47 (w : yWF zl nl h) : zP h 129 47 = some 160 := w.2.1 129 47 rfl
theorem yp129_48 (w : yWF zl nl h) : zP h 129 48 = some 161 := w.2.1 129 48 rfl
theorem ysH0 (w : yWF zl nl h) (ha : yHs a) : zS h (a) = (12, 13) := by rcases ha with rfl | rfl | rfl; exact ys37 w; exact ys52 w; exact ys67 w
theorem ysH1 (w : yWF zl nl h) (ha : yHs a) : zS h (a + 1) = (1, 6) := by rcases ha with rfl | rfl | rfl; exact ys38 w; exact ys53 w; exact ys68 w
theorem ysH2 (w : yWF zl nl h) (ha : yHs a) : zS h (a + 2) = (1, 6) := by rcases ha with rfl | rfl | rfl; exact ys39 w; exact ys54 w; exact ys69 w
theorem ysH3 (w : yWF zl nl h) (ha : yHs a) : zS h (a + 3) = (1, 6) := by rcases ha with rfl | rfl | rfl; exact ys40 w; exact ys55 w; exact ys70 w
theorem ysH4 (w : yWF zl nl h) (ha : yHs a) : zS h (a + 4) = (1, 36) := by rcases ha with rfl | rfl | rfl; exact ys41 w; exact ys56 w; exact ys71 w
theorem ysH5 (w : yWF zl nl h) (ha : yHs a) : zS h (a + 5) = (1, 24) := by rcases ha with rfl | rfl | rfl; exact ys42 w; exact ys57 w; exact ys72 w
theorem ysH6 (w : yWF zl nl h) (ha : yHs a) : zS h (a + 6) = (1, 6) := by rcases ha with rfl | rfl | rfl; exact ys43 w; exact ys58 w; exact ys73 w
theorem ysH7 (w : yWF zl nl h) (ha : yHs a) : zS h (a + 7) = (13, 2) := by rcases ha with rfl | rfl | rfl; exact ys44 w; exact ys59 w; exact ys74 w
theorem ysH8 (w : yWF zl nl h) (ha : yHs a) : zS h (a + 8) = (1, 32) := by rcases ha with rfl | rfl | rfl; exact ys45 w; exact ys60 w; exact ys75 w
theorem ysH9 (w : yWF zl nl h) (ha : yHs a) : zS h (a + 9) = (13, 2) := by rcases ha with rfl | rfl | rfl; exact ys46 w; exact ys61 w; exact ys76 w
theorem ysH10 (w : yWF zl nl h) (ha : yHs a) : zS h (a + 10) = (1, 20) := by rcases ha with rfl | rfl | rfl; exact ys47 w; exact ys62 w; exact ys77 w
theorem ysH11 (w : yWF zl nl h) (ha : yHs a) : zS h (a + 11) = (13, 2) := by rcases ha with rfl | rfl | rfl; exact ys48 w; exact ys63 w; exact ys78 w
theorem ysH12 (w : yWF zl nl h) (ha : yHs a) : zS h (a + 12) = (1, 40) := by rcases ha with rfl | rfl | rfl; exact ys49 w; exact ys64 w; exact ys79 w
theorem ysH13 (w : yWF zl nl h) (ha : yHs a) : zS h (a + 13) = (13, 2) := by rcases ha with rfl | rfl | rfl; exact ys50 w; exact ys65 w; exact ys80 w
theorem ysH14 (w : yWF zl nl h) (ha : yHs a) : zS h (a + 14) = (1, 32) := by rcases ha with rfl | rfl | rfl; exact ys51 w; exact ys66 w; exact ys81 w
theorem ypH0 (w : yWF zl nl h) (ha : yHs a) : zP h a 0 = some (a + 1) := by rcases ha with rfl | rfl | rfl; exact yp37_0 w; exact yp52_0 w; exact yp67_0 w
theorem ypH1 (w : yWF zl nl h) (ha : yHs a) : zP h a 1 = some (a + 2) := by rcases ha with rfl | rfl | rfl; exact yp37_1 w; exact yp52_1 w; exact yp67_1 w
theorem ypH2 (w : yWF zl nl h) (ha : yHs a) : zP h a 2 = some (a + 3) := by rcases ha with rfl | rfl | rfl; exact yp37_2 w; exact yp52_2 w; exact yp67_2 w
theorem ypH3 (w : yWF zl nl h) (ha : yHs a) : zP h a 3 = some (a + 4) := by rcases ha with rfl | rfl | rfl; exact yp37_3 w; exact yp52_3 w; exact yp67_3 w
theorem ypH4 (w : yWF zl nl h) (ha : yHs a) : zP h a 4 = some (a + 5) := by rcases ha with rfl | rfl | rfl; exact yp37_4 w; exact yp52_4 w; exact yp67_4 w
theorem ypH5 (w : yWF zl nl h) (ha : yHs a) : zP h a 5 = some (a + 6) := by rcases ha with rfl | rfl | rfl; exact yp37_5 w; exact yp52_5 w; exact yp67_5 w
theorem ypH6 (w : yWF zl nl h) (ha : yHs a) : zP h a 6 = some (a + 7) := by rcases ha with rfl | rfl | rfl; exact yp37_6 w; exact yp52_6 w; exact yp67_6 w
theorem ypH7 (w : yWF zl nl h) (ha : yHs a) : zP h a 7 = some (a + 9) := by rcases ha with rfl | rfl | rfl; exact yp37_7 w; exact yp52_7 w; exact yp67_7 w
theorem ypH8 (w : yWF zl nl h) (ha : yHs a) : zP h a 8 = some (a + 11) := by rcases ha with rfl | rfl | rfl; exact yp37_8 w; exact yp52_8 w; exact yp67_8 w
theorem ypH9 (w : yWF zl nl h) (ha : yHs a) : zP h a 9 = some (a + 13) := by rcases ha with rfl | rfl | rfl; exact yp37_9 w; exact yp52_9 w; exact yp67_9 w
theorem ypH12 (w : yWF zl nl h) (ha : yHs a) : ∃ s, zP h a 12 = some s ∧ ySh s := w.2.2.1 a ha
theorem yR7 (ha : yHs a) : yRs (a + 7) 32 := ⟨a, ha, Or.inl ⟨rfl, rfl⟩⟩
theorem yR9 (ha : yHs a) : yRs (a + 9) 20 := ⟨a, ha, Or.inr (Or.inl ⟨rfl, rfl⟩)⟩
theorem yR11 (ha : yHs a) : yRs (a + 11) 40 := ⟨a, ha, Or.inr (Or.inr (Or.inl ⟨rfl, rfl⟩))⟩
theorem yR13 (ha : yHs a) : yRs (a + 13) 32 := ⟨a, ha, Or.inr (Or.inr (Or.inr ⟨rfl, rfl⟩))⟩
theorem ysR0 (w : yWF zl nl h) (hr : yRs r n) : zS h r = (13, 2) := by
  obtain ⟨a, ha, ⟨rfl, rfl⟩ | ⟨rfl, rfl⟩ | ⟨rfl, rfl⟩ | ⟨rfl, rfl⟩⟩ := hr
  · exact ysH7 w ha
  · exact ysH9 w ha
  · exact ysH11 w ha
  · exact ysH13 w ha
theorem ysR1 (w : yWF zl nl h) (hr : yRs r n) : zS h (r + 1) = (1, n) := by
  obtain ⟨a, ha, ⟨rfl, rfl⟩ | ⟨rfl, rfl⟩ | ⟨rfl, rfl⟩ | ⟨rfl, rfl⟩⟩ := hr
  · exact ysH8 w ha
  · exact ysH10 w ha
  · exact ysH12 w ha
  · exact ysH14 w ha
theorem ypR0 (w : yWF zl nl h) (hr : yRs r n) : zP h r 0 = some (r + 1) := by
  obtain ⟨a, rfl | rfl | rfl, ⟨rfl, rfl⟩ | ⟨rfl, rfl⟩ | ⟨rfl, rfl⟩ | ⟨rfl, rfl⟩⟩ := hr
  · exact yp44_0 w
  · exact yp46_0 w
  · exact yp48_0 w
  · exact yp50_0 w
  · exact yp59_0 w
  · exact yp61_0 w
  · exact yp63_0 w
  · exact yp65_0 w
  · exact yp74_0 w
  · exact yp76_0 w
  · exact yp78_0 w
  · exact yp80_0 w
theorem yR_32 (hr : yRs r n) : 32 ≤ r := by obtain ⟨a, rfl | rfl | rfl, ⟨rfl, rfl⟩ | ⟨rfl, rfl⟩ | ⟨rfl, rfl⟩ | ⟨rfl, rfl⟩⟩ := hr <;> omega
theorem yR_n (hr : yRs r n) : n ≤ 40 := by obtain ⟨a, ha, ⟨rfl, rfl⟩ | ⟨rfl, rfl⟩ | ⟨rfl, rfl⟩ | ⟨rfl, rfl⟩⟩ := hr <;> omega
theorem yH_32 (ha : yHs a) : 32 ≤ a := by rcases ha with rfl | rfl | rfl <;> omega
theorem ysS0 (w : yWF zl nl h) (hs : ySh s) : zS h (s) = (14, 5) := by rcases hs with rfl | rfl | rfl | rfl | rfl | rfl | rfl; exact ys33 w; exact ys93 w; exact ys97 w; exact ys101 w; exact ys105 w; exact ys109 w; exact ys113 w
theorem ysS1 (w : yWF zl nl h) (hs : ySh s) : zS h (s + 1) = (1, 100) := by rcases hs with rfl | rfl | rfl | rfl | rfl | rfl | rfl; exact ys34 w; exact ys94 w; exact ys98 w; exact ys102 w; exact ys106 w; exact ys110 w; exact ys114 w
theorem ysS2 (w : yWF zl nl h) (hs : ySh s) : zS h (s + 2) = (1, 100) := by rcases hs with rfl | rfl | rfl | rfl | rfl | rfl | rfl; exact ys35 w; exact ys95 w; exact ys99 w; exact ys103 w; exact ys107 w; exact ys111 w; exact ys115 w
theorem ysS3 (w : yWF zl nl h) (hs : ySh s) : zS h (s + 3) = (1, 100) := by rcases hs with rfl | rfl | rfl | rfl | rfl | rfl | rfl; exact ys36 w; exact ys96 w; exact ys100 w; exact ys104 w; exact ys108 w; exact ys112 w; exact ys116 w
theorem ypS0 (w : yWF zl nl h) (hs : ySh s) : zP h s 0 = some (s + 1) := by rcases hs with rfl | rfl | rfl | rfl | rfl | rfl | rfl; exact yp33_0 w; exact yp93_0 w; exact yp97_0 w; exact yp101_0 w; exact yp105_0 w; exact yp109_0 w; exact yp113_0 w
theorem ypS1 (w : yWF zl nl h) (hs : ySh s) : zP h s 1 = some (s + 2) := by rcases hs with rfl | rfl | rfl | rfl | rfl | rfl | rfl; exact yp33_1 w; exact yp93_1 w; exact yp97_1 w; exact yp101_1 w; exact yp105_1 w; exact yp109_1 w; exact yp113_1 w
theorem ypS2 (w : yWF zl nl h) (hs : ySh s) : zP h s 2 = some (s + 3) := by rcases hs with rfl | rfl | rfl | rfl | rfl | rfl | rfl; exact yp33_2 w; exact yp93_2 w; exact yp97_2 w; exact yp101_2 w; exact yp105_2 w; exact yp109_2 w; exact yp113_2 w
theorem yS_32 (hs : ySh s) : 32 ≤ s := by rcases hs with rfl | rfl | rfl | rfl | rfl | rfl | rfl <;> omega
theorem ysT0 (w : yWF zl nl h) (ht : yTp t) : zS h (t) = (15, 3) := by rcases ht with rfl | rfl | rfl | rfl | rfl | rfl; exact ys117 w; exact ys119 w; exact ys121 w; exact ys123 w; exact ys125 w; exact ys127 w
theorem ysT1 (w : yWF zl nl h) (ht : yTp t) : zS h (t + 1) = (3, 60) := by rcases ht with rfl | rfl | rfl | rfl | rfl | rfl; exact ys118 w; exact ys120 w; exact ys122 w; exact ys124 w; exact ys126 w; exact ys128 w
theorem ypT0 (w : yWF zl nl h) (ht : yTp t) : zP h t 0 = some (t + 1) := by rcases ht with rfl | rfl | rfl | rfl | rfl | rfl; exact yp117_0 w; exact yp119_0 w; exact yp121_0 w; exact yp123_0 w; exact yp125_0 w; exact yp127_0 w
theorem yT_32 (ht : yTp t) : 32 ≤ t := by rcases ht with rfl | rfl | rfl | rfl | rfl | rfl <;> omega
theorem yp84 (w : yWF zl nl h) {i : Int} (hi : 0 ≤ i ∧ i < 6) : zP h 84 i.toNat = some (93 + 4 * i.toNat) := by
  obtain ⟨j, rfl⟩ := Int.eq_ofNat_of_zero_le hi.1
  show zP h 84 j = some (93 + 4 * j)
  match j, hi with
  | 0, _ => exact yp84_0 w
  | 1, _ => exact yp84_1 w
  | 2, _ => exact yp84_2 w
  | 3, _ => exact yp84_3 w
  | 4, _ => exact yp84_4 w
  | 5, _ => exact yp84_5 w
  | j + 6, hi => omega
theorem yp84' {i : Int} (hi : 0 ≤ i ∧ i < 6) : ySh (93 + 4 * i.toNat) := by
  obtain ⟨j, rfl⟩ := Int.eq_ofNat_of_zero_le hi.1
  show ySh (93 + 4 * j)
  unfold ySh
  omega
theorem yp85 (w : yWF zl nl h) {i : Int} (hi : 0 ≤ i ∧ i < 6) : zP h 85 i.toNat = some (117 + 2 * i.toNat) := by
  obtain ⟨j, rfl⟩ := Int.eq_ofNat_of_zero_le hi.1
  show zP h 85 j = some (117 + 2 * j)
  match j, hi with
  | 0, _ => exact yp85_0 w
  | 1, _ => exact yp85_1 w
  | 2, _ => exact yp85_2 w
  | 3, _ => exact yp85_3 w
  | 4, _ => exact yp85_4 w
  | 5, _ => exact yp85_5 w
  | j + 6, hi => omega
theorem yp85' {i : Int} (hi : 0 ≤ i ∧ i < 6) : yTp (117 + 2 * i.toNat) := by
  obtain ⟨j, rfl⟩ := Int.eq_ofNat_of_zero_le hi.1
  show yTp (117 + 2 * j)
  unfold yTp
  omega
theorem yWFV {k : Nat} {x : Int} (w : yWF zl nl h) : yWF zl nl (zsetV h a k x) := w
theorem yWFJ {k : Nat} {x : Int64} (w : yWF zl nl h) : yWF zl nl (zsetJ h a k x) := w
end YWF
section YMA
variable {d : Nat} {cc : ByteArray} {o pc pc' : Nat} {L : LL} {st r : List AV} {h : Hp} {Q : Option AV → Hp → Prop}
def ymin (x y : Int) : Int := if y < x then y else x
def ymax (x y : Int) : Int := if x < y then y else x
def yfm (x y : Int) : Int := (zfm32 (zi x) (zi y)).toInt
def yabs (x : Int64) : Int64 := if 0 < x then x else -x
theorem y_mn {k z : Nat} {x y : Int} (e : decode cc pc = .ok (.invokestatic k, 3)) (hm : zmth o k = some (11, z)) (hd : 1 ≤ d) (hw : Nat.ble (zwt r) 8 = true) (hp : pc + 3 = pc') (w : ZW d cc o pc' L (vI (ymin x y) :: r) h Q) : ZW d cc o pc L (vI y :: vI x :: r) h Q := by
  refine y_s e ?_ w
  show (match zmth o k with | some (10, _) => _ | some (11, _) => _ | some (12, _) => _ | some (13, _) => _ | some (14, _) => _ | e => _) = _
  rw [hm]
  show (if 3 = 3 ∧ 1 ≤ d ∧ zwt r ≤ 8 then _ else _) = _
  rw [if_pos ⟨rfl, hd, Nat.le_of_ble_eq_true hw⟩, hp]
  rfl
theorem y_mx {k z : Nat} {x y : Int} (e : decode cc pc = .ok (.invokestatic k, 3)) (hm : zmth o k = some (12, z)) (hd : 1 ≤ d) (hw : Nat.ble (zwt r) 8 = true) (hp : pc + 3 = pc') (w : ZW d cc o pc' L (vI (ymax x y) :: r) h Q) : ZW d cc o pc L (vI y :: vI x :: r) h Q := by
  refine y_s e ?_ w
  show (match zmth o k with | some (10, _) => _ | some (11, _) => _ | some (12, _) => _ | some (13, _) => _ | some (14, _) => _ | e => _) = _
  rw [hm]
  show (if 3 = 3 ∧ 1 ≤ d ∧ zwt r ≤ 8 then _ else _) = _
  rw [if_pos ⟨rfl, hd, Nat.le_of_ble_eq_true hw⟩, hp]
  rfl
theorem y_ab {k z : Nat} {x : Int64} (e : decode cc pc = .ok (.invokestatic k, 3)) (hm : zmth o k = some (13, z)) (hd : 1 ≤ d) (hw : Nat.ble (zwt r) 8 = true) (hp : pc + 3 = pc') (w : ZW d cc o pc' L (vJ (yabs x) :: r) h Q) : ZW d cc o pc L (vJ x :: r) h Q := by
  refine y_s e ?_ w
  show (match zmth o k with | some (10, _) => _ | some (11, _) => _ | some (12, _) => _ | some (13, _) => _ | some (14, _) => _ | e => _) = _
  rw [hm]
  show (if 3 = 3 ∧ 1 ≤ d ∧ zwt r ≤ 8 then _ else _) = _
  rw [if_pos ⟨rfl, hd, Nat.le_of_ble_eq_true hw⟩, hp]
  rfl
theorem y_fm {k z : Nat} {x y : Int} (e : decode cc pc = .ok (.invokestatic k, 3)) (hm : zmth o k = some (14, z)) (hd : 1 ≤ d) (hy : y ≠ 0) (hw : Nat.ble (zwt r) 8 = true) (hp : pc + 3 = pc') (w : ZW d cc o pc' L (vI (yfm x y) :: r) h Q) : ZW d cc o pc L (vI y :: vI x :: r) h Q := by
  refine y_s e ?_ w
  show (match zmth o k with | some (10, _) => _ | some (11, _) => _ | some (12, _) => _ | some (13, _) => _ | some (14, _) => _ | e => _) = _
  rw [hm]
  show (if 3 = 3 ∧ 1 ≤ d ∧ zwt r ≤ 8 ∧ y ≠ 0 then _ else _) = _
  rw [if_pos ⟨rfl, hd, Nat.le_of_ble_eq_true hw, hy⟩, hp]
  rfl
theorem y_cp {k z a b na nb : Nat} {sp dp n : Int} (e : decode cc pc = .ok (.invokestatic k, 3)) (hm : zmth o k = some (10, z)) (hd : 1 ≤ d) (hw : Nat.ble (zwt r) 8 = true) (sa : zS h a = (1, na)) (sb : zS h b = (1, nb)) (ha : 32 ≤ a) (hb : 32 ≤ b) (hi : 0 ≤ n ∧ 0 ≤ sp ∧ 0 ≤ dp ∧ sp + n ≤ (na : Int) ∧ dp + n ≤ (nb : Int)) {h' : Hp} (hh : zcpV h a sp.toNat b dp.toNat n.toNat = h') (hp : pc + 3 = pc') (w : ZW d cc o pc' L r h' Q) : ZW d cc o pc L (vI n :: vI dp :: vR (some b) :: vI sp :: vR (some a) :: r) h Q := by
  subst hh
  refine y_s e ?_ w
  show (match zmth o k with | some (10, _) => _ | some (11, _) => _ | some (12, _) => _ | some (13, _) => _ | some (14, _) => _ | e => _) = _
  rw [hm]
  show (if 3 = 3 ∧ 1 ≤ d ∧ zwt r ≤ 8 ∧ 32 ≤ a ∧ 32 ≤ b ∧ 0 ≤ n ∧ 0 ≤ sp ∧ 0 ≤ dp ∧ sp + n ≤ ((zS h a).2 : Int) ∧ dp + n ≤ ((zS h b).2 : Int) ∧ (((zS h a).1 = 1 ∧ (zS h b).1 = 1) ∨ ((zS h a).1 = 3 ∧ (zS h b).1 = 3)) then zn (pc + 3) L r (if (zS h a).1 = 1 then zcpV h a sp.toNat b dp.toNat n.toNat else zcpJ h a sp.toNat b dp.toNat n.toNat) else none) = _
  rw [if_pos ⟨rfl, hd, Nat.le_of_ble_eq_true hw, ha, hb, hi.1, hi.2.1, hi.2.2.1, by rw [sa]; exact hi.2.2.2.1, by rw [sb]; exact hi.2.2.2.2, Or.inl ⟨by rw [sa], by rw [sb]⟩⟩, hp, if_pos (by rw [sa])]
  rfl
theorem y_cj {k z a b na nb : Nat} {sp dp n : Int} (e : decode cc pc = .ok (.invokestatic k, 3)) (hm : zmth o k = some (10, z)) (hd : 1 ≤ d) (hw : Nat.ble (zwt r) 8 = true) (sa : zS h a = (3, na)) (sb : zS h b = (3, nb)) (ha : 32 ≤ a) (hb : 32 ≤ b) (hi : 0 ≤ n ∧ 0 ≤ sp ∧ 0 ≤ dp ∧ sp + n ≤ (na : Int) ∧ dp + n ≤ (nb : Int)) {h' : Hp} (hh : zcpJ h a sp.toNat b dp.toNat n.toNat = h') (hp : pc + 3 = pc') (w : ZW d cc o pc' L r h' Q) : ZW d cc o pc L (vI n :: vI dp :: vR (some b) :: vI sp :: vR (some a) :: r) h Q := by
  subst hh
  refine y_s e ?_ w
  show (match zmth o k with | some (10, _) => _ | some (11, _) => _ | some (12, _) => _ | some (13, _) => _ | some (14, _) => _ | e => _) = _
  rw [hm]
  show (if 3 = 3 ∧ 1 ≤ d ∧ zwt r ≤ 8 ∧ 32 ≤ a ∧ 32 ≤ b ∧ 0 ≤ n ∧ 0 ≤ sp ∧ 0 ≤ dp ∧ sp + n ≤ ((zS h a).2 : Int) ∧ dp + n ≤ ((zS h b).2 : Int) ∧ (((zS h a).1 = 1 ∧ (zS h b).1 = 1) ∨ ((zS h a).1 = 3 ∧ (zS h b).1 = 3)) then zn (pc + 3) L r (if (zS h a).1 = 1 then zcpV h a sp.toNat b dp.toNat n.toNat else zcpJ h a sp.toNat b dp.toNat n.toNat) else none) = _
  rw [if_pos ⟨rfl, hd, Nat.le_of_ble_eq_true hw, ha, hb, hi.1, hi.2.1, hi.2.2.1, by rw [sa]; exact hi.2.2.2.1, by rw [sb]; exact hi.2.2.2.2, Or.inr ⟨by rw [sa], by rw [sb]⟩⟩, hp, if_neg (by rw [sa]; simp)]
  rfl
theorem y_ri {x : Int} (e : decode cc pc = .ok (.ireturn, 1)) (k : Q (some (vI x)) h) : ZW d cc o pc L [vI x] h Q := by
  have q : zact d cc o pc L [vI x] h = some (.inr (.inr (some (vI x)))) := by
    unfold zact
    rw [e]
    rfl
  rw [ZW_ret q]
  exact k
theorem y_rj {x : Int64} (e : decode cc pc = .ok (.lreturn, 1)) (k : Q (some (vJ x)) h) : ZW d cc o pc L [vJ x] h Q := by
  have q : zact d cc o pc L [vJ x] h = some (.inr (.inr (some (vJ x)))) := by
    unfold zact
    rw [e]
    rfl
  rw [ZW_ret q]
  exact k
theorem y_ru (e : decode cc pc = .ok (.return_, 1)) (k : Q none h) : ZW d cc o pc L [] h Q := by
  have q : zact d cc o pc L [] h = some (.inr (.inr none)) := by
    unfold zact
    rw [e]
    rfl
  rw [ZW_ret q]
  exact k
end YMA
end
section
/-! RULES: stores to locals, the rest -/
def yo (q : Option Int) : Option AV := match q with
  | none => none
  | some x => some (vI x)
def yoj (q : Option Int64) : Option AV := match q with
  | none => none
  | some x => some (vJ x)
theorem yzp (q : Option Int) : (match some (yo q) with
    | some (some (.inr (.inl _))) => false
    | _ => true) = true := by cases q <;> rfl
section YR2
variable {d : Nat} {cc : ByteArray} {o pc pc' : Nat} {L L' : LL} {st r : List AV} {h : Hp} {Q : Option AV → Hp → Prop}
theorem y_sto {i : Instr} {l t k : Nat} {v : AV} (e : decode cc pc = .ok (i, l)) (hz : zin d o pc l L (v :: r) h i = zsto t k l pc l L (v :: r) h) (ht : ztag v = t) (hv : zprev L k = true) (hk : Nat.blt k L.length = true) (hL : L.set k (some v) = L') (hp : pc + l = pc') (w : ZW d cc o pc' L' r h Q) : ZW d cc o pc L (v :: r) h Q := by
  refine y_s e ?_ w
  rw [hz]
  show (if l = l ∧ ztag v = t ∧ zprev L k = true ∧ k < L.length then zn (pc + l) (L.set k (some v)) r h else none) = _
  rw [if_pos ⟨rfl, ht, hv, Nat.lt_of_succ_le (Nat.le_of_ble_eq_true hk)⟩, hL, hp]
  rfl
theorem y_inc {k : Nat} {c x : Int} (e : decode cc pc = .ok (.iinc k c, 3)) (hg : zget L k 0 = some (vI x)) (hv : zprev L k = true) (hL : L.set k (some (vI (zw (x + c)))) = L') (hp : pc + 3 = pc') (w : ZW d cc o pc' L' st h Q) : ZW d cc o pc L st h Q := by
  refine y_s e ?_ w
  show (match zget L k 0 with
    | some (.inl x) => if 3 = 3 ∧ zprev L k = true then zn (pc + 3) (L.set k (some (vI (zw (x + c))))) st h else none
    | _ => none) = _
  rw [hg]
  show (if 3 = 3 ∧ zprev L k = true then zn (pc + 3) (L.set k (some (vI (zw (x + c))))) st h else none) = _
  rw [if_pos ⟨rfl, hv⟩, hL, hp]
  rfl
end YR2
section YBS
variable {zl : Nat} {nl : Option Nat} {h : Hp}
theorem ysb0 (w : yWF zl nl h) : zS h 0 = yTS zl 0 := congrFun w.1 0
theorem ysb1 (w : yWF zl nl h) : zS h 1 = (1, 7) := congrFun w.1 1
theorem ysb2 (w : yWF zl nl h) : zS h 2 = (1, 7) := congrFun w.1 2
theorem ysb3 (w : yWF zl nl h) : zS h 3 = (1, 21) := congrFun w.1 3
end YBS
end
section
/-! SEGMENTS A (printed by wip/whole/gen_dec.py) -/
theorem yf_0_15 : zfld 0 15 = some (0, 1) := rfl
theorem yf_1_30 : zfld 1 30 = some (1, 4) := rfl
theorem yf_1_34 : zfld 1 34 = some (1, 5) := rfl
theorem yf_2_21 : zfld 2 21 = some (2, 3) := rfl
theorem yf_3_9 : zfld 3 9 = some (3, 0) := rfl
theorem yf_3_13 : zfld 3 13 = some (3, 1) := rfl
theorem yf_4_9 : zfld 4 9 = some (4, 0) := rfl
theorem yf_4_15 : zfld 4 15 = some (4, 1) := rfl
theorem yf_4_18 : zfld 4 18 = some (4, 2) := rfl
theorem yf_4_21 : zfld 4 21 = some (4, 3) := rfl
theorem yf_4_25 : zfld 4 25 = some (4, 4) := rfl
theorem yf_5_15 : zfld 5 15 = some (5, 1) := rfl
theorem yf_5_19 : zfld 5 19 = some (5, 2) := rfl
theorem yf_6_9 : zfld 6 9 = some (6, 0) := rfl
theorem yf_6_15 : zfld 6 15 = some (6, 1) := rfl
theorem yf_6_28 : zfld 6 28 = some (6, 2) := rfl
theorem ym_2_73 : zmth 2 73 = some (0, 13) := rfl
theorem f10_0 : decode prog_1_method_43_code 0 = .ok (.iload_n 0, 1) := by decide +kernel
theorem f10_1 : decode prog_1_method_43_code 1 = .ok (.ifCond .lt 12, 3) := by decide +kernel
theorem f10_4 : decode prog_1_method_43_code 4 = .ok (.iload_n 0, 1) := by decide +kernel
theorem f10_5 : decode prog_1_method_43_code 5 = .ok (.iload_n 1, 1) := by decide +kernel
theorem f10_6 : decode prog_1_method_43_code 6 = .ok (.if_icmp .ge 7, 3) := by decide +kernel
theorem f10_9 : decode prog_1_method_43_code 9 = .ok (.iconst 1, 1) := by decide +kernel
theorem f10_10 : decode prog_1_method_43_code 10 = .ok (.goto 4, 3) := by decide +kernel
theorem f10_13 : decode prog_1_method_43_code 13 = .ok (.iconst 0, 1) := by decide +kernel
theorem f10_14 : decode prog_1_method_43_code 14 = .ok (.ireturn, 1) := by decide +kernel
theorem f12_0 : decode prog_4_method_6_code 0 = .ok (.iconst 0, 1) := by decide +kernel
theorem f12_1 : decode prog_4_method_6_code 1 = .ok (.istore_n 3, 1) := by decide +kernel
theorem f12_2 : decode prog_4_method_6_code 2 = .ok (.iload_n 3, 1) := by decide +kernel
theorem f12_3 : decode prog_4_method_6_code 3 = .ok (.bipush 6, 2) := by decide +kernel
theorem f12_5 : decode prog_4_method_6_code 5 = .ok (.if_icmp .ge 16, 3) := by decide +kernel
theorem f12_8 : decode prog_4_method_6_code 8 = .ok (.aload_n 0, 1) := by decide +kernel
theorem f12_9 : decode prog_4_method_6_code 9 = .ok (.iload_n 1, 1) := by decide +kernel
theorem f12_10 : decode prog_4_method_6_code 10 = .ok (.iload_n 3, 1) := by decide +kernel
theorem f12_11 : decode prog_4_method_6_code 11 = .ok (.iload_n 2, 1) := by decide +kernel
theorem f12_12 : decode prog_4_method_6_code 12 = .ok (.invokevirtual 73, 3) := by decide +kernel
theorem f12_15 : decode prog_4_method_6_code 15 = .ok (.iinc 3 1, 3) := by decide +kernel
theorem f12_18 : decode prog_4_method_6_code 18 = .ok (.goto (-16), 3) := by decide +kernel
theorem f12_21 : decode prog_4_method_6_code 21 = .ok (.return_, 1) := by decide +kernel
theorem f13_0 : decode prog_4_method_5_code 0 = .ok (.aload_n 0, 1) := by decide +kernel
theorem f13_1 : decode prog_4_method_5_code 1 = .ok (.getfield 21, 3) := by decide +kernel
theorem f13_4 : decode prog_4_method_5_code 4 = .ok (.iload_n 1, 1) := by decide +kernel
theorem f13_5 : decode prog_4_method_5_code 5 = .ok (.bipush 6, 2) := by decide +kernel
theorem f13_7 : decode prog_4_method_5_code 7 = .ok (.imul, 1) := by decide +kernel
theorem f13_8 : decode prog_4_method_5_code 8 = .ok (.iload_n 2, 1) := by decide +kernel
theorem f13_9 : decode prog_4_method_5_code 9 = .ok (.iadd, 1) := by decide +kernel
theorem f13_10 : decode prog_4_method_5_code 10 = .ok (.iload_n 3, 1) := by decide +kernel
theorem f13_11 : decode prog_4_method_5_code 11 = .ok (.iastore, 1) := by decide +kernel
theorem f13_12 : decode prog_4_method_5_code 12 = .ok (.return_, 1) := by decide +kernel
theorem f20_0 : decode prog_4_method_4_code 0 = .ok (.aload_n 0, 1) := by decide +kernel
theorem f20_1 : decode prog_4_method_4_code 1 = .ok (.getfield 21, 3) := by decide +kernel
theorem f20_4 : decode prog_4_method_4_code 4 = .ok (.iload_n 1, 1) := by decide +kernel
theorem f20_5 : decode prog_4_method_4_code 5 = .ok (.bipush 6, 2) := by decide +kernel
theorem f20_7 : decode prog_4_method_4_code 7 = .ok (.imul, 1) := by decide +kernel
theorem f20_8 : decode prog_4_method_4_code 8 = .ok (.iload_n 2, 1) := by decide +kernel
theorem f20_9 : decode prog_4_method_4_code 9 = .ok (.iadd, 1) := by decide +kernel
theorem f20_10 : decode prog_4_method_4_code 10 = .ok (.iaload, 1) := by decide +kernel
theorem f20_11 : decode prog_4_method_4_code 11 = .ok (.ireturn, 1) := by decide +kernel
theorem f26_0 : decode prog_5_method_5_code 0 = .ok (.aload_n 0, 1) := by decide +kernel
theorem f26_1 : decode prog_5_method_5_code 1 = .ok (.getfield 9, 3) := by decide +kernel
theorem f26_4 : decode prog_5_method_5_code 4 = .ok (.iload_n 1, 1) := by decide +kernel
theorem f26_5 : decode prog_5_method_5_code 5 = .ok (.iconst 4, 1) := by decide +kernel
theorem f26_6 : decode prog_5_method_5_code 6 = .ok (.imul, 1) := by decide +kernel
theorem f26_7 : decode prog_5_method_5_code 7 = .ok (.iload_n 2, 1) := by decide +kernel
theorem f26_8 : decode prog_5_method_5_code 8 = .ok (.iadd, 1) := by decide +kernel
theorem f26_9 : decode prog_5_method_5_code 9 = .ok (.iaload, 1) := by decide +kernel
theorem f26_10 : decode prog_5_method_5_code 10 = .ok (.ireturn, 1) := by decide +kernel
theorem f39_0 : decode prog_5_method_4_code 0 = .ok (.aload_n 0, 1) := by decide +kernel
theorem f39_1 : decode prog_5_method_4_code 1 = .ok (.iconst 0, 1) := by decide +kernel
theorem f39_2 : decode prog_5_method_4_code 2 = .ok (.putfield 13, 3) := by decide +kernel
theorem f39_5 : decode prog_5_method_4_code 5 = .ok (.iconst 0, 1) := by decide +kernel
theorem f39_6 : decode prog_5_method_4_code 6 = .ok (.ireturn, 1) := by decide +kernel
theorem f40_0 : decode prog_5_method_2_code 0 = .ok (.aload_n 0, 1) := by decide +kernel
theorem f40_1 : decode prog_5_method_2_code 1 = .ok (.getfield 13, 3) := by decide +kernel
theorem f40_4 : decode prog_5_method_2_code 4 = .ok (.iconst 4, 1) := by decide +kernel
theorem f40_5 : decode prog_5_method_2_code 5 = .ok (.imul, 1) := by decide +kernel
theorem f40_6 : decode prog_5_method_2_code 6 = .ok (.aload_n 0, 1) := by decide +kernel
theorem f40_7 : decode prog_5_method_2_code 7 = .ok (.getfield 9, 3) := by decide +kernel
theorem f40_10 : decode prog_5_method_2_code 10 = .ok (.arraylength, 1) := by decide +kernel
theorem f40_11 : decode prog_5_method_2_code 11 = .ok (.if_icmp .lt 7, 3) := by decide +kernel
theorem f40_14 : decode prog_5_method_2_code 14 = .ok (.iconst 1, 1) := by decide +kernel
theorem f40_15 : decode prog_5_method_2_code 15 = .ok (.goto 4, 3) := by decide +kernel
theorem f40_18 : decode prog_5_method_2_code 18 = .ok (.iconst 0, 1) := by decide +kernel
theorem f40_19 : decode prog_5_method_2_code 19 = .ok (.ireturn, 1) := by decide +kernel
theorem f41_0 : decode prog_5_method_3_code 0 = .ok (.aload_n 0, 1) := by decide +kernel
theorem f41_1 : decode prog_5_method_3_code 1 = .ok (.getfield 13, 3) := by decide +kernel
theorem f41_4 : decode prog_5_method_3_code 4 = .ok (.iconst 4, 1) := by decide +kernel
theorem f41_5 : decode prog_5_method_3_code 5 = .ok (.imul, 1) := by decide +kernel
theorem f41_6 : decode prog_5_method_3_code 6 = .ok (.istore 5, 2) := by decide +kernel
theorem f41_8 : decode prog_5_method_3_code 8 = .ok (.aload_n 0, 1) := by decide +kernel
theorem f41_9 : decode prog_5_method_3_code 9 = .ok (.getfield 9, 3) := by decide +kernel
theorem f41_12 : decode prog_5_method_3_code 12 = .ok (.iload 5, 2) := by decide +kernel
theorem f41_14 : decode prog_5_method_3_code 14 = .ok (.iload_n 1, 1) := by decide +kernel
theorem f41_15 : decode prog_5_method_3_code 15 = .ok (.iastore, 1) := by decide +kernel
theorem f41_16 : decode prog_5_method_3_code 16 = .ok (.aload_n 0, 1) := by decide +kernel
theorem f41_17 : decode prog_5_method_3_code 17 = .ok (.getfield 9, 3) := by decide +kernel
theorem f41_20 : decode prog_5_method_3_code 20 = .ok (.iload 5, 2) := by decide +kernel
theorem f41_22 : decode prog_5_method_3_code 22 = .ok (.iconst 1, 1) := by decide +kernel
theorem f41_23 : decode prog_5_method_3_code 23 = .ok (.iadd, 1) := by decide +kernel
theorem f41_24 : decode prog_5_method_3_code 24 = .ok (.iload_n 2, 1) := by decide +kernel
theorem f41_25 : decode prog_5_method_3_code 25 = .ok (.iastore, 1) := by decide +kernel
theorem f41_26 : decode prog_5_method_3_code 26 = .ok (.aload_n 0, 1) := by decide +kernel
theorem f41_27 : decode prog_5_method_3_code 27 = .ok (.getfield 9, 3) := by decide +kernel
theorem f41_30 : decode prog_5_method_3_code 30 = .ok (.iload 5, 2) := by decide +kernel
theorem f41_32 : decode prog_5_method_3_code 32 = .ok (.iconst 2, 1) := by decide +kernel
theorem f41_33 : decode prog_5_method_3_code 33 = .ok (.iadd, 1) := by decide +kernel
theorem f41_34 : decode prog_5_method_3_code 34 = .ok (.iload_n 3, 1) := by decide +kernel
theorem f41_35 : decode prog_5_method_3_code 35 = .ok (.iastore, 1) := by decide +kernel
theorem f41_36 : decode prog_5_method_3_code 36 = .ok (.aload_n 0, 1) := by decide +kernel
theorem f41_37 : decode prog_5_method_3_code 37 = .ok (.getfield 9, 3) := by decide +kernel
theorem f41_40 : decode prog_5_method_3_code 40 = .ok (.iload 5, 2) := by decide +kernel
theorem f41_42 : decode prog_5_method_3_code 42 = .ok (.iconst 3, 1) := by decide +kernel
theorem f41_43 : decode prog_5_method_3_code 43 = .ok (.iadd, 1) := by decide +kernel
theorem f41_44 : decode prog_5_method_3_code 44 = .ok (.iload 4, 2) := by decide +kernel
theorem f41_46 : decode prog_5_method_3_code 46 = .ok (.iastore, 1) := by decide +kernel
theorem f41_47 : decode prog_5_method_3_code 47 = .ok (.aload_n 0, 1) := by decide +kernel
theorem f41_48 : decode prog_5_method_3_code 48 = .ok (.dup, 1) := by decide +kernel
theorem f41_49 : decode prog_5_method_3_code 49 = .ok (.getfield 13, 3) := by decide +kernel
theorem f41_52 : decode prog_5_method_3_code 52 = .ok (.iconst 1, 1) := by decide +kernel
theorem f41_53 : decode prog_5_method_3_code 53 = .ok (.iadd, 1) := by decide +kernel
theorem f41_54 : decode prog_5_method_3_code 54 = .ok (.putfield 13, 3) := by decide +kernel
theorem f41_57 : decode prog_5_method_3_code 57 = .ok (.aload_n 0, 1) := by decide +kernel
theorem f41_58 : decode prog_5_method_3_code 58 = .ok (.getfield 13, 3) := by decide +kernel
theorem f41_61 : decode prog_5_method_3_code 61 = .ok (.ireturn, 1) := by decide +kernel
theorem f44_0 : decode prog_8_method_2_code 0 = .ok (.aload_n 0, 1) := by decide +kernel
theorem f44_1 : decode prog_8_method_2_code 1 = .ok (.getfield 15, 3) := by decide +kernel
theorem f44_4 : decode prog_8_method_2_code 4 = .ok (.bipush 100, 2) := by decide +kernel
theorem f44_6 : decode prog_8_method_2_code 6 = .ok (.if_icmp .lt 7, 3) := by decide +kernel
theorem f44_9 : decode prog_8_method_2_code 9 = .ok (.iconst 1, 1) := by decide +kernel
theorem f44_10 : decode prog_8_method_2_code 10 = .ok (.goto 4, 3) := by decide +kernel
theorem f44_13 : decode prog_8_method_2_code 13 = .ok (.iconst 0, 1) := by decide +kernel
theorem f44_14 : decode prog_8_method_2_code 14 = .ok (.ireturn, 1) := by decide +kernel
theorem f45_0 : decode prog_8_method_3_code 0 = .ok (.aload_n 0, 1) := by decide +kernel
theorem f45_1 : decode prog_8_method_3_code 1 = .ok (.getfield 9, 3) := by decide +kernel
theorem f45_4 : decode prog_8_method_3_code 4 = .ok (.aload_n 0, 1) := by decide +kernel
theorem f45_5 : decode prog_8_method_3_code 5 = .ok (.getfield 15, 3) := by decide +kernel
theorem f45_8 : decode prog_8_method_3_code 8 = .ok (.iload_n 1, 1) := by decide +kernel
theorem f45_9 : decode prog_8_method_3_code 9 = .ok (.iastore, 1) := by decide +kernel
theorem f45_10 : decode prog_8_method_3_code 10 = .ok (.aload_n 0, 1) := by decide +kernel
theorem f45_11 : decode prog_8_method_3_code 11 = .ok (.dup, 1) := by decide +kernel
theorem f45_12 : decode prog_8_method_3_code 12 = .ok (.getfield 15, 3) := by decide +kernel
theorem f45_15 : decode prog_8_method_3_code 15 = .ok (.iconst 1, 1) := by decide +kernel
theorem f45_16 : decode prog_8_method_3_code 16 = .ok (.iadd, 1) := by decide +kernel
theorem f45_17 : decode prog_8_method_3_code 17 = .ok (.putfield 15, 3) := by decide +kernel
theorem f45_20 : decode prog_8_method_3_code 20 = .ok (.aload_n 0, 1) := by decide +kernel
theorem f45_21 : decode prog_8_method_3_code 21 = .ok (.getfield 15, 3) := by decide +kernel
theorem f45_24 : decode prog_8_method_3_code 24 = .ok (.ireturn, 1) := by decide +kernel
theorem f48_0 : decode prog_6_method_2_code 0 = .ok (.aload_n 0, 1) := by decide +kernel
theorem f48_1 : decode prog_6_method_2_code 1 = .ok (.iconst 0, 1) := by decide +kernel
theorem f48_2 : decode prog_6_method_2_code 2 = .ok (.putfield 21, 3) := by decide +kernel
theorem f48_5 : decode prog_6_method_2_code 5 = .ok (.aload_n 0, 1) := by decide +kernel
theorem f48_6 : decode prog_6_method_2_code 6 = .ok (.iconst 0, 1) := by decide +kernel
theorem f48_7 : decode prog_6_method_2_code 7 = .ok (.putfield 25, 3) := by decide +kernel
theorem f48_10 : decode prog_6_method_2_code 10 = .ok (.return_, 1) := by decide +kernel
theorem f50_0 : decode prog_8_method_18_code 0 = .ok (.aload_n 0, 1) := by decide +kernel
theorem f50_1 : decode prog_8_method_18_code 1 = .ok (.getfield 28, 3) := by decide +kernel
theorem f50_4 : decode prog_8_method_18_code 4 = .ok (.ifCond .lt 26, 3) := by decide +kernel
theorem f50_7 : decode prog_8_method_18_code 7 = .ok (.aload_n 0, 1) := by decide +kernel
theorem f50_8 : decode prog_8_method_18_code 8 = .ok (.getfield 28, 3) := by decide +kernel
theorem f50_11 : decode prog_8_method_18_code 11 = .ok (.aload_n 0, 1) := by decide +kernel
theorem f50_12 : decode prog_8_method_18_code 12 = .ok (.getfield 15, 3) := by decide +kernel
theorem f50_15 : decode prog_8_method_18_code 15 = .ok (.if_icmp .ge 15, 3) := by decide +kernel
theorem f50_18 : decode prog_8_method_18_code 18 = .ok (.aload_n 0, 1) := by decide +kernel
theorem f50_19 : decode prog_8_method_18_code 19 = .ok (.getfield 9, 3) := by decide +kernel
theorem f50_22 : decode prog_8_method_18_code 22 = .ok (.aload_n 0, 1) := by decide +kernel
theorem f50_23 : decode prog_8_method_18_code 23 = .ok (.getfield 28, 3) := by decide +kernel
theorem f50_26 : decode prog_8_method_18_code 26 = .ok (.iaload, 1) := by decide +kernel
theorem f50_27 : decode prog_8_method_18_code 27 = .ok (.goto 4, 3) := by decide +kernel
theorem f50_30 : decode prog_8_method_18_code 30 = .ok (.iconst (-1), 1) := by decide +kernel
theorem f50_31 : decode prog_8_method_18_code 31 = .ok (.ireturn, 1) := by decide +kernel
theorem f66_0 : decode prog_8_method_15_code 0 = .ok (.iload_n 0, 1) := by decide +kernel
theorem f66_1 : decode prog_8_method_15_code 1 = .ok (.bipush 48, 2) := by decide +kernel
theorem f66_3 : decode prog_8_method_15_code 3 = .ok (.if_icmp .lt 13, 3) := by decide +kernel
theorem f66_6 : decode prog_8_method_15_code 6 = .ok (.iload_n 0, 1) := by decide +kernel
theorem f66_7 : decode prog_8_method_15_code 7 = .ok (.bipush 57, 2) := by decide +kernel
theorem f66_9 : decode prog_8_method_15_code 9 = .ok (.if_icmp .gt 7, 3) := by decide +kernel
theorem f66_12 : decode prog_8_method_15_code 12 = .ok (.iconst 1, 1) := by decide +kernel
theorem f66_13 : decode prog_8_method_15_code 13 = .ok (.goto 4, 3) := by decide +kernel
theorem f66_16 : decode prog_8_method_15_code 16 = .ok (.iconst 0, 1) := by decide +kernel
theorem f66_17 : decode prog_8_method_15_code 17 = .ok (.ireturn, 1) := by decide +kernel
theorem f70_0 : decode prog_6_method_3_code 0 = .ok (.aload_n 0, 1) := by decide +kernel
theorem f70_1 : decode prog_6_method_3_code 1 = .ok (.getfield 21, 3) := by decide +kernel
theorem f70_4 : decode prog_6_method_3_code 4 = .ok (.bipush 100, 2) := by decide +kernel
theorem f70_6 : decode prog_6_method_3_code 6 = .ok (.if_icmp .ge 43, 3) := by decide +kernel
theorem f70_9 : decode prog_6_method_3_code 9 = .ok (.aload_n 0, 1) := by decide +kernel
theorem f70_10 : decode prog_6_method_3_code 10 = .ok (.getfield 9, 3) := by decide +kernel
theorem f70_13 : decode prog_6_method_3_code 13 = .ok (.aload_n 0, 1) := by decide +kernel
theorem f70_14 : decode prog_6_method_3_code 14 = .ok (.getfield 21, 3) := by decide +kernel
theorem f70_17 : decode prog_6_method_3_code 17 = .ok (.iload_n 1, 1) := by decide +kernel
theorem f70_18 : decode prog_6_method_3_code 18 = .ok (.iastore, 1) := by decide +kernel
theorem f70_19 : decode prog_6_method_3_code 19 = .ok (.aload_n 0, 1) := by decide +kernel
theorem f70_20 : decode prog_6_method_3_code 20 = .ok (.getfield 15, 3) := by decide +kernel
theorem f70_23 : decode prog_6_method_3_code 23 = .ok (.aload_n 0, 1) := by decide +kernel
theorem f70_24 : decode prog_6_method_3_code 24 = .ok (.getfield 21, 3) := by decide +kernel
theorem f70_27 : decode prog_6_method_3_code 27 = .ok (.iload_n 2, 1) := by decide +kernel
theorem f70_28 : decode prog_6_method_3_code 28 = .ok (.iastore, 1) := by decide +kernel
theorem f70_29 : decode prog_6_method_3_code 29 = .ok (.aload_n 0, 1) := by decide +kernel
theorem f70_30 : decode prog_6_method_3_code 30 = .ok (.getfield 18, 3) := by decide +kernel
theorem f70_33 : decode prog_6_method_3_code 33 = .ok (.aload_n 0, 1) := by decide +kernel
theorem f70_34 : decode prog_6_method_3_code 34 = .ok (.getfield 21, 3) := by decide +kernel
theorem f70_37 : decode prog_6_method_3_code 37 = .ok (.iload_n 3, 1) := by decide +kernel
theorem f70_38 : decode prog_6_method_3_code 38 = .ok (.iastore, 1) := by decide +kernel
theorem f70_39 : decode prog_6_method_3_code 39 = .ok (.aload_n 0, 1) := by decide +kernel
theorem f70_40 : decode prog_6_method_3_code 40 = .ok (.dup, 1) := by decide +kernel
theorem f70_41 : decode prog_6_method_3_code 41 = .ok (.getfield 21, 3) := by decide +kernel
theorem f70_44 : decode prog_6_method_3_code 44 = .ok (.iconst 1, 1) := by decide +kernel
theorem f70_45 : decode prog_6_method_3_code 45 = .ok (.iadd, 1) := by decide +kernel
theorem f70_46 : decode prog_6_method_3_code 46 = .ok (.putfield 21, 3) := by decide +kernel
theorem f70_49 : decode prog_6_method_3_code 49 = .ok (.return_, 1) := by decide +kernel
theorem f72_0 : decode prog_8_method_12_code 0 = .ok (.iload_n 0, 1) := by decide +kernel
theorem f72_1 : decode prog_8_method_12_code 1 = .ok (.lookupswitch 71 #[(98, 67), (105, 65), (107, 61), (112, 59), (118, 63), (121, 69)], 59) := by decide +kernel
theorem f72_60 : decode prog_8_method_12_code 60 = .ok (.iconst 0, 1) := by decide +kernel
theorem f72_61 : decode prog_8_method_12_code 61 = .ok (.ireturn, 1) := by decide +kernel
theorem f72_62 : decode prog_8_method_12_code 62 = .ok (.iconst 1, 1) := by decide +kernel
theorem f72_63 : decode prog_8_method_12_code 63 = .ok (.ireturn, 1) := by decide +kernel
theorem f72_64 : decode prog_8_method_12_code 64 = .ok (.iconst 2, 1) := by decide +kernel
theorem f72_65 : decode prog_8_method_12_code 65 = .ok (.ireturn, 1) := by decide +kernel
theorem f72_66 : decode prog_8_method_12_code 66 = .ok (.iconst 3, 1) := by decide +kernel
theorem f72_67 : decode prog_8_method_12_code 67 = .ok (.ireturn, 1) := by decide +kernel
theorem f72_68 : decode prog_8_method_12_code 68 = .ok (.iconst 4, 1) := by decide +kernel
theorem f72_69 : decode prog_8_method_12_code 69 = .ok (.ireturn, 1) := by decide +kernel
theorem f72_70 : decode prog_8_method_12_code 70 = .ok (.iconst 5, 1) := by decide +kernel
theorem f72_71 : decode prog_8_method_12_code 71 = .ok (.ireturn, 1) := by decide +kernel
theorem f72_72 : decode prog_8_method_12_code 72 = .ok (.iconst (-1), 1) := by decide +kernel
theorem f72_73 : decode prog_8_method_12_code 73 = .ok (.ireturn, 1) := by decide +kernel
theorem f73_0 : decode prog_8_method_13_code 0 = .ok (.iload_n 0, 1) := by decide +kernel
theorem f73_1 : decode prog_8_method_13_code 1 = .ok (.tableswitch 33 60 62 #[27, 29, 31], 27) := by decide +kernel
theorem f73_28 : decode prog_8_method_13_code 28 = .ok (.iconst 1, 1) := by decide +kernel
theorem f73_29 : decode prog_8_method_13_code 29 = .ok (.ireturn, 1) := by decide +kernel
theorem f73_30 : decode prog_8_method_13_code 30 = .ok (.iconst 2, 1) := by decide +kernel
theorem f73_31 : decode prog_8_method_13_code 31 = .ok (.ireturn, 1) := by decide +kernel
theorem f73_32 : decode prog_8_method_13_code 32 = .ok (.iconst 3, 1) := by decide +kernel
theorem f73_33 : decode prog_8_method_13_code 33 = .ok (.ireturn, 1) := by decide +kernel
theorem f73_34 : decode prog_8_method_13_code 34 = .ok (.iconst (-1), 1) := by decide +kernel
theorem f73_35 : decode prog_8_method_13_code 35 = .ok (.ireturn, 1) := by decide +kernel
theorem f82_0 : decode prog_1_method_19_code 0 = .ok (.bipush 6, 2) := by decide +kernel
theorem f82_2 : decode prog_1_method_19_code 2 = .ok (.istore_n 2, 1) := by decide +kernel
theorem f82_3 : decode prog_1_method_19_code 3 = .ok (.iload_n 2, 1) := by decide +kernel
theorem f82_4 : decode prog_1_method_19_code 4 = .ok (.ifCond .le 31, 3) := by decide +kernel
theorem f82_7 : decode prog_1_method_19_code 7 = .ok (.iload_n 0, 1) := by decide +kernel
theorem f82_8 : decode prog_1_method_19_code 8 = .ok (.getstatic 205, 3) := by decide +kernel
theorem f82_11 : decode prog_1_method_19_code 11 = .ok (.iload_n 2, 1) := by decide +kernel
theorem f82_12 : decode prog_1_method_19_code 12 = .ok (.iaload, 1) := by decide +kernel
theorem f82_13 : decode prog_1_method_19_code 13 = .ok (.irem, 1) := by decide +kernel
theorem f82_14 : decode prog_1_method_19_code 14 = .ok (.iload_n 1, 1) := by decide +kernel
theorem f82_15 : decode prog_1_method_19_code 15 = .ok (.getstatic 205, 3) := by decide +kernel
theorem f82_18 : decode prog_1_method_19_code 18 = .ok (.bipush 6, 2) := by decide +kernel
theorem f82_20 : decode prog_1_method_19_code 20 = .ok (.iload_n 2, 1) := by decide +kernel
theorem f82_21 : decode prog_1_method_19_code 21 = .ok (.isub, 1) := by decide +kernel
theorem f82_22 : decode prog_1_method_19_code 22 = .ok (.iaload, 1) := by decide +kernel
theorem f82_23 : decode prog_1_method_19_code 23 = .ok (.idiv, 1) := by decide +kernel
theorem f82_24 : decode prog_1_method_19_code 24 = .ok (.if_icmp .ne 5, 3) := by decide +kernel
theorem f82_27 : decode prog_1_method_19_code 27 = .ok (.iload_n 2, 1) := by decide +kernel
theorem f82_28 : decode prog_1_method_19_code 28 = .ok (.ireturn, 1) := by decide +kernel
theorem f82_29 : decode prog_1_method_19_code 29 = .ok (.iinc 2 (-1), 3) := by decide +kernel
theorem f82_32 : decode prog_1_method_19_code 32 = .ok (.goto (-29), 3) := by decide +kernel
theorem f82_35 : decode prog_1_method_19_code 35 = .ok (.iconst 0, 1) := by decide +kernel
theorem f82_36 : decode prog_1_method_19_code 36 = .ok (.ireturn, 1) := by decide +kernel
theorem f88_0 : decode prog_3_method_3_code 0 = .ok (.bipush 6, 2) := by decide +kernel
theorem f88_2 : decode prog_3_method_3_code 2 = .ok (.aload_n 0, 1) := by decide +kernel
theorem f88_3 : decode prog_3_method_3_code 3 = .ok (.getfield 30, 3) := by decide +kernel
theorem f88_6 : decode prog_3_method_3_code 6 = .ok (.imul, 1) := by decide +kernel
theorem f88_7 : decode prog_3_method_3_code 7 = .ok (.aload_n 0, 1) := by decide +kernel
theorem f88_8 : decode prog_3_method_3_code 8 = .ok (.getfield 34, 3) := by decide +kernel
theorem f88_11 : decode prog_3_method_3_code 11 = .ok (.isub, 1) := by decide +kernel
theorem f88_12 : decode prog_3_method_3_code 12 = .ok (.ireturn, 1) := by decide +kernel
theorem f94_0 : decode prog_1_method_26_code 0 = .ok (.iload_n 0, 1) := by decide +kernel
theorem f94_1 : decode prog_1_method_26_code 1 = .ok (.istore_n 2, 1) := by decide +kernel
theorem f94_2 : decode prog_1_method_26_code 2 = .ok (.iload_n 1, 1) := by decide +kernel
theorem f94_3 : decode prog_1_method_26_code 3 = .ok (.istore_n 3, 1) := by decide +kernel
theorem f94_4 : decode prog_1_method_26_code 4 = .ok (.iconst 0, 1) := by decide +kernel
theorem f94_5 : decode prog_1_method_26_code 5 = .ok (.istore 4, 2) := by decide +kernel
theorem f94_7 : decode prog_1_method_26_code 7 = .ok (.iload 4, 2) := by decide +kernel
theorem f94_9 : decode prog_1_method_26_code 9 = .ok (.bipush 64, 2) := by decide +kernel
theorem f94_11 : decode prog_1_method_26_code 11 = .ok (.if_icmp .ge 23, 3) := by decide +kernel
theorem f94_14 : decode prog_1_method_26_code 14 = .ok (.iload_n 3, 1) := by decide +kernel
theorem f94_15 : decode prog_1_method_26_code 15 = .ok (.ifCond .eq 19, 3) := by decide +kernel
theorem f94_18 : decode prog_1_method_26_code 18 = .ok (.iload_n 2, 1) := by decide +kernel
theorem f94_19 : decode prog_1_method_26_code 19 = .ok (.iload_n 3, 1) := by decide +kernel
theorem f94_20 : decode prog_1_method_26_code 20 = .ok (.irem, 1) := by decide +kernel
theorem f94_21 : decode prog_1_method_26_code 21 = .ok (.istore 5, 2) := by decide +kernel
theorem f94_23 : decode prog_1_method_26_code 23 = .ok (.iload_n 3, 1) := by decide +kernel
theorem f94_24 : decode prog_1_method_26_code 24 = .ok (.istore_n 2, 1) := by decide +kernel
theorem f94_25 : decode prog_1_method_26_code 25 = .ok (.iload 5, 2) := by decide +kernel
theorem f94_27 : decode prog_1_method_26_code 27 = .ok (.istore_n 3, 1) := by decide +kernel
theorem f94_28 : decode prog_1_method_26_code 28 = .ok (.iinc 4 1, 3) := by decide +kernel
theorem f94_31 : decode prog_1_method_26_code 31 = .ok (.goto (-24), 3) := by decide +kernel
theorem f94_34 : decode prog_1_method_26_code 34 = .ok (.iload_n 2, 1) := by decide +kernel
theorem f94_35 : decode prog_1_method_26_code 35 = .ok (.ireturn, 1) := by decide +kernel
theorem f103_0 : decode prog_7_method_2_code 0 = .ok (.aload_n 0, 1) := by decide +kernel
theorem f103_1 : decode prog_7_method_2_code 1 = .ok (.getfield 15, 3) := by decide +kernel
theorem f103_4 : decode prog_7_method_2_code 4 = .ok (.iconst (-1), 1) := by decide +kernel
theorem f103_5 : decode prog_7_method_2_code 5 = .ok (.if_icmp .eq 7, 3) := by decide +kernel
theorem f103_8 : decode prog_7_method_2_code 8 = .ok (.iconst 1, 1) := by decide +kernel
theorem f103_9 : decode prog_7_method_2_code 9 = .ok (.goto 4, 3) := by decide +kernel
theorem f103_12 : decode prog_7_method_2_code 12 = .ok (.iconst 0, 1) := by decide +kernel
theorem f103_13 : decode prog_7_method_2_code 13 = .ok (.ireturn, 1) := by decide +kernel
theorem f108_0 : decode prog_2_method_2_code 0 = .ok (.aload_n 0, 1) := by decide +kernel
theorem f108_1 : decode prog_2_method_2_code 1 = .ok (.iconst 0, 1) := by decide +kernel
theorem f108_2 : decode prog_2_method_2_code 2 = .ok (.putfield 15, 3) := by decide +kernel
theorem f108_5 : decode prog_2_method_2_code 5 = .ok (.return_, 1) := by decide +kernel
theorem f126_0 : decode prog_7_method_4_code 0 = .ok (.iload_n 1, 1) := by decide +kernel
theorem f126_1 : decode prog_7_method_4_code 1 = .ok (.ifCond .lt 29, 3) := by decide +kernel
theorem f126_4 : decode prog_7_method_4_code 4 = .ok (.iload_n 2, 1) := by decide +kernel
theorem f126_5 : decode prog_7_method_4_code 5 = .ok (.ifCond .lt 25, 3) := by decide +kernel
theorem f126_8 : decode prog_7_method_4_code 8 = .ok (.iload_n 2, 1) := by decide +kernel
theorem f126_9 : decode prog_7_method_4_code 9 = .ok (.aload_n 0, 1) := by decide +kernel
theorem f126_10 : decode prog_7_method_4_code 10 = .ok (.getfield 19, 3) := by decide +kernel
theorem f126_13 : decode prog_7_method_4_code 13 = .ok (.if_icmp .gt 17, 3) := by decide +kernel
theorem f126_16 : decode prog_7_method_4_code 16 = .ok (.iload_n 1, 1) := by decide +kernel
theorem f126_17 : decode prog_7_method_4_code 17 = .ok (.aload_n 0, 1) := by decide +kernel
theorem f126_18 : decode prog_7_method_4_code 18 = .ok (.getfield 19, 3) := by decide +kernel
theorem f126_21 : decode prog_7_method_4_code 21 = .ok (.iload_n 2, 1) := by decide +kernel
theorem f126_22 : decode prog_7_method_4_code 22 = .ok (.isub, 1) := by decide +kernel
theorem f126_23 : decode prog_7_method_4_code 23 = .ok (.if_icmp .gt 7, 3) := by decide +kernel
theorem f126_26 : decode prog_7_method_4_code 26 = .ok (.iconst 1, 1) := by decide +kernel
theorem f126_27 : decode prog_7_method_4_code 27 = .ok (.goto 4, 3) := by decide +kernel
theorem f126_30 : decode prog_7_method_4_code 30 = .ok (.iconst 0, 1) := by decide +kernel
theorem f126_31 : decode prog_7_method_4_code 31 = .ok (.ireturn, 1) := by decide +kernel
theorem f129_0 : decode prog_10_method_2_code 0 = .ok (.iload_n 0, 1) := by decide +kernel
theorem f129_1 : decode prog_10_method_2_code 1 = .ok (.iload_n 1, 1) := by decide +kernel
theorem f129_2 : decode prog_10_method_2_code 2 = .ok (.if_icmp .lt 12, 3) := by decide +kernel
theorem f129_5 : decode prog_10_method_2_code 5 = .ok (.iload_n 0, 1) := by decide +kernel
theorem f129_6 : decode prog_10_method_2_code 6 = .ok (.iload_n 2, 1) := by decide +kernel
theorem f129_7 : decode prog_10_method_2_code 7 = .ok (.if_icmp .gt 7, 3) := by decide +kernel
theorem f129_10 : decode prog_10_method_2_code 10 = .ok (.iconst 1, 1) := by decide +kernel
theorem f129_11 : decode prog_10_method_2_code 11 = .ok (.goto 4, 3) := by decide +kernel
theorem f129_14 : decode prog_10_method_2_code 14 = .ok (.iconst 0, 1) := by decide +kernel
theorem f129_15 : decode prog_10_method_2_code 15 = .ok (.ireturn, 1) := by decide +kernel
section YD
variable {zl : Nat} {nl : Option Nat} {h : Hp}
/-- HatterTunes.isBelow(II)Z -/
theorem E10 {d : Nat} {K : Int → Hp → Prop} (w : yWF zl nl h) {x0 : Int} {x1 : Int} (k : ((x0 < 0 → K 0 h) ∧ (¬ (x0 < 0) → ((x1 ≤ x0 → K 0 h) ∧ (¬ (x1 ≤ x0) → K 1 h))))) : yI d 10 [vI x0, vI x1] h K := by
  refine y_en (L := [some (vI x0), some (vI x1)]) rfl rfl ?_
  refine y_s (pc' := 1) (L' := [some (vI x0), some (vI x1)]) (st' := [vI x0]) (h' := h) f10_0 rfl ?_
  refine y_if (pcT := 13) (pc' := 4) (P := x0 < 0) f10_1 rfl rfl rfl (fun c => ?_) (fun c => ?_)
  · replace k := k.1 c
    refine y_s (pc' := 14) (L' := [some (vI x0), some (vI x1)]) (st' := [vI 0]) (h' := h) f10_13 rfl ?_
    exact y_ri f10_14 ⟨rfl, k⟩
  · replace k := k.2 c
    refine y_s (pc' := 5) (L' := [some (vI x0), some (vI x1)]) (st' := [vI x0]) (h' := h) f10_4 rfl ?_
    refine y_s (pc' := 6) (L' := [some (vI x0), some (vI x1)]) (st' := [vI x1, vI x0]) (h' := h) f10_5 rfl ?_
    refine y_ic (pcT := 13) (pc' := 9) (P := x1 ≤ x0) f10_6 rfl rfl rfl (fun c => ?_) (fun c => ?_)
    · replace k := k.1 c
      refine y_s (pc' := 14) (L' := [some (vI x0), some (vI x1)]) (st' := [vI 0]) (h' := h) f10_13 rfl ?_
      exact y_ri f10_14 ⟨rfl, k⟩
    · replace k := k.2 c
      refine y_s (pc' := 10) (L' := [some (vI x0), some (vI x1)]) (st' := [vI 1]) (h' := h) f10_9 rfl ?_
      refine y_go (pc' := 14) f10_10 rfl ?_
      exact y_ri f10_14 ⟨rfl, k⟩
/-- HatterTunes$Rows.at(II)I -/
theorem E26 {d : Nat} {K : Int → Hp → Prop} (w : yWF zl nl h) {a na : Nat} (ha : yRs a na) {x0 : Int} {x1 : Int} (k : ((0 ≤ (zw ((zw (x0 * 4)) + x1)) ∧ (zw ((zw (x0 * 4)) + x1)) < (na : Int)) ∧ K (zV h (a + 1) ((zw ((zw (x0 * 4)) + x1))).toNat) h)) : yI d 26 [vR (some a), vI x0, vI x1] h K := by
  refine y_en (L := [some (vR (some a)), some (vI x0), some (vI x1)]) rfl rfl ?_
  refine y_s (pc' := 1) (L' := [some (vR (some a)), some (vI x0), some (vI x1)]) (st' := [vR (some a)]) (h' := h) f26_0 rfl ?_
  refine y_gr (pc' := 4) f26_1 yf_3_9 rfl rfl (ysR0 w ha) (ypR0 w ha) rfl ?_
  refine y_s (pc' := 5) (L' := [some (vR (some a)), some (vI x0), some (vI x1)]) (st' := [vI x0, vR (some (a + 1))]) (h' := h) f26_4 rfl ?_
  refine y_s (pc' := 6) (L' := [some (vR (some a)), some (vI x0), some (vI x1)]) (st' := [vI 4, vI x0, vR (some (a + 1))]) (h' := h) f26_5 rfl ?_
  refine y_s (pc' := 7) (L' := [some (vR (some a)), some (vI x0), some (vI x1)]) (st' := [vI (zw (x0 * 4)), vR (some (a + 1))]) (h' := h) f26_6 rfl ?_
  refine y_s (pc' := 8) (L' := [some (vR (some a)), some (vI x0), some (vI x1)]) (st' := [vI x1, vI (zw (x0 * 4)), vR (some (a + 1))]) (h' := h) f26_7 rfl ?_
  refine y_s (pc' := 9) (L' := [some (vR (some a)), some (vI x0), some (vI x1)]) (st' := [vI (zw ((zw (x0 * 4)) + x1)), vR (some (a + 1))]) (h' := h) f26_8 rfl ?_
  refine y_ia (pc' := 10) (x := (zV h (a + 1) ((zw ((zw (x0 * 4)) + x1))).toNat)) f26_9 (ysR1 w ha) k.1 rfl rfl ?_
  replace k := k.2
  exact y_ri f26_10 ⟨rfl, k⟩
/-- HatterTunes$House.bumpOf(II)I -/
theorem E20 {d : Nat} {K : Int → Hp → Prop} (w : yWF zl nl h) {a : Nat} (ha : yHs a) {x0 : Int} {x1 : Int} (k : ((0 ≤ (zw ((zw (x0 * 6)) + x1)) ∧ (zw ((zw (x0 * 6)) + x1)) < 36) ∧ K (zV h (a + 4) ((zw ((zw (x0 * 6)) + x1))).toNat) h)) : yI d 20 [vR (some a), vI x0, vI x1] h K := by
  refine y_en (L := [some (vR (some a)), some (vI x0), some (vI x1)]) rfl rfl ?_
  refine y_s (pc' := 1) (L' := [some (vR (some a)), some (vI x0), some (vI x1)]) (st' := [vR (some a)]) (h' := h) f20_0 rfl ?_
  refine y_gr (pc' := 4) f20_1 yf_2_21 rfl rfl (ysH0 w ha) (ypH3 w ha) rfl ?_
  refine y_s (pc' := 5) (L' := [some (vR (some a)), some (vI x0), some (vI x1)]) (st' := [vI x0, vR (some (a + 4))]) (h' := h) f20_4 rfl ?_
  refine y_s (pc' := 7) (L' := [some (vR (some a)), some (vI x0), some (vI x1)]) (st' := [vI 6, vI x0, vR (some (a + 4))]) (h' := h) f20_5 rfl ?_
  refine y_s (pc' := 8) (L' := [some (vR (some a)), some (vI x0), some (vI x1)]) (st' := [vI (zw (x0 * 6)), vR (some (a + 4))]) (h' := h) f20_7 rfl ?_
  refine y_s (pc' := 9) (L' := [some (vR (some a)), some (vI x0), some (vI x1)]) (st' := [vI x1, vI (zw (x0 * 6)), vR (some (a + 4))]) (h' := h) f20_8 rfl ?_
  refine y_s (pc' := 10) (L' := [some (vR (some a)), some (vI x0), some (vI x1)]) (st' := [vI (zw ((zw (x0 * 6)) + x1)), vR (some (a + 4))]) (h' := h) f20_9 rfl ?_
  refine y_ia (pc' := 11) (x := (zV h (a + 4) ((zw ((zw (x0 * 6)) + x1))).toNat)) f20_10 (ysH4 w ha) k.1 rfl rfl ?_
  replace k := k.2
  exact y_ri f20_11 ⟨rfl, k⟩
/-- HatterTunes$House.setBump(III)V -/
theorem E13 {d : Nat} {K : Hp → Prop} (w : yWF zl nl h) {a : Nat} (ha : yHs a) {x0 : Int} {x1 : Int} {x2 : Int} (k : ((0 ≤ (zw ((zw (x0 * 6)) + x1)) ∧ (zw ((zw (x0 * 6)) + x1)) < 36) ∧ K (zsetV h (a + 4) ((zw ((zw (x0 * 6)) + x1))).toNat x2))) : yU d 13 [vR (some a), vI x0, vI x1, vI x2] h K := by
  refine y_en (L := [some (vR (some a)), some (vI x0), some (vI x1), some (vI x2)]) rfl rfl ?_
  refine y_s (pc' := 1) (L' := [some (vR (some a)), some (vI x0), some (vI x1), some (vI x2)]) (st' := [vR (some a)]) (h' := h) f13_0 rfl ?_
  refine y_gr (pc' := 4) f13_1 yf_2_21 rfl rfl (ysH0 w ha) (ypH3 w ha) rfl ?_
  refine y_s (pc' := 5) (L' := [some (vR (some a)), some (vI x0), some (vI x1), some (vI x2)]) (st' := [vI x0, vR (some (a + 4))]) (h' := h) f13_4 rfl ?_
  refine y_s (pc' := 7) (L' := [some (vR (some a)), some (vI x0), some (vI x1), some (vI x2)]) (st' := [vI 6, vI x0, vR (some (a + 4))]) (h' := h) f13_5 rfl ?_
  refine y_s (pc' := 8) (L' := [some (vR (some a)), some (vI x0), some (vI x1), some (vI x2)]) (st' := [vI (zw (x0 * 6)), vR (some (a + 4))]) (h' := h) f13_7 rfl ?_
  refine y_s (pc' := 9) (L' := [some (vR (some a)), some (vI x0), some (vI x1), some (vI x2)]) (st' := [vI x1, vI (zw (x0 * 6)), vR (some (a + 4))]) (h' := h) f13_8 rfl ?_
  refine y_s (pc' := 10) (L' := [some (vR (some a)), some (vI x0), some (vI x1), some (vI x2)]) (st' := [vI (zw ((zw (x0 * 6)) + x1)), vR (some (a + 4))]) (h' := h) f13_9 rfl ?_
  refine y_s (pc' := 11) (L' := [some (vR (some a)), some (vI x0), some (vI x1), some (vI x2)]) (st' := [vI x2, vI (zw ((zw (x0 * 6)) + x1)), vR (some (a + 4))]) (h' := h) f13_10 rfl ?_
  refine y_is (pc' := 12) (h' := (zsetV h (a + 4) ((zw ((zw (x0 * 6)) + x1))).toNat x2)) f13_11 (ysH4 w ha) (Nat.le_add_right_of_le (yH_32 ha)) k.1 rfl rfl ?_
  replace k := k.2
  exact y_ru f13_12 ⟨rfl, k⟩
/-- HatterTunes$Rows.empty()I -/
theorem E39 {d : Nat} {K : Int → Hp → Prop} (w : yWF zl nl h) {a na : Nat} (ha : yRs a na) (k : K 0 (zsetV h a 1 0)) : yI d 39 [vR (some a)] h K := by
  refine y_en (L := [some (vR (some a))]) rfl rfl ?_
  refine y_s (pc' := 1) (L' := [some (vR (some a))]) (st' := [vR (some a)]) (h' := h) f39_0 rfl ?_
  refine y_s (pc' := 2) (L' := [some (vR (some a))]) (st' := [vI 0, vR (some a)]) (h' := h) f39_1 rfl ?_
  refine y_pi (pc' := 5) f39_2 yf_3_13 rfl rfl (ysR0 w ha) (yR_32 ha) (Or.inl rfl) rfl ?_
  refine y_s (pc' := 6) (L' := [some (vR (some a))]) (st' := [vI 0]) (h' := (zsetV h a 1 0)) f39_5 rfl ?_
  exact y_ri f39_6 ⟨rfl, k⟩
/-- HatterTunes$Rows.isFull()Z -/
theorem E40 {d : Nat} {K : Int → Hp → Prop} (w : yWF zl nl h) {a na : Nat} (ha : yRs a na) (k : (((zw ((zV h a 1) * 4)) < (na : Int) → K 0 h) ∧ (¬ ((zw ((zV h a 1) * 4)) < (na : Int)) → K 1 h))) : yI d 40 [vR (some a)] h K := by
  refine y_en (L := [some (vR (some a))]) rfl rfl ?_
  refine y_s (pc' := 1) (L' := [some (vR (some a))]) (st' := [vR (some a)]) (h' := h) f40_0 rfl ?_
  refine y_gi (pc' := 4) f40_1 yf_3_13 rfl rfl (ysR0 w ha) rfl ?_
  refine y_s (pc' := 5) (L' := [some (vR (some a))]) (st' := [vI 4, vI (zV h a 1)]) (h' := h) f40_4 rfl ?_
  refine y_s (pc' := 6) (L' := [some (vR (some a))]) (st' := [vI (zw ((zV h a 1) * 4))]) (h' := h) f40_5 rfl ?_
  refine y_s (pc' := 7) (L' := [some (vR (some a))]) (st' := [vR (some a), vI (zw ((zV h a 1) * 4))]) (h' := h) f40_6 rfl ?_
  refine y_gr (pc' := 10) f40_7 yf_3_9 rfl rfl (ysR0 w ha) (ypR0 w ha) rfl ?_
  refine y_al (pc' := 11) f40_10 (ysR1 w ha) rfl (by have := yR_n ha; omega) rfl ?_
  refine y_ic (pcT := 18) (pc' := 14) (P := (zw ((zV h a 1) * 4)) < (na : Int)) f40_11 rfl rfl rfl (fun c => ?_) (fun c => ?_)
  · replace k := k.1 c
    refine y_s (pc' := 19) (L' := [some (vR (some a))]) (st' := [vI 0]) (h' := h) f40_18 rfl ?_
    exact y_ri f40_19 ⟨rfl, k⟩
  · replace k := k.2 c
    refine y_s (pc' := 15) (L' := [some (vR (some a))]) (st' := [vI 1]) (h' := h) f40_14 rfl ?_
    refine y_go (pc' := 19) f40_15 rfl ?_
    exact y_ri f40_19 ⟨rfl, k⟩
/-- HatterTunes$Rows.add(IIII)I -/
theorem E41 {d : Nat} {K : Int → Hp → Prop} (w : yWF zl nl h) {a na : Nat} (ha : yRs a na) {x0 : Int} {x1 : Int} {x2 : Int} {x3 : Int} (k : ((0 ≤ (zw ((zV h a 1) * 4)) ∧ (zw ((zV h a 1) * 4)) < (na : Int)) ∧ ((0 ≤ (zw ((zw ((zV h a 1) * 4)) + 1)) ∧ (zw ((zw ((zV h a 1) * 4)) + 1)) < (na : Int)) ∧ (∀ h_26, (zsetV (zsetV h (a + 1) ((zw ((zV h a 1) * 4))).toNat x0) (a + 1) ((zw ((zw ((zV h a 1) * 4)) + 1))).toNat x1) = h_26 → ((0 ≤ (zw ((zw ((zV h a 1) * 4)) + 2)) ∧ (zw ((zw ((zV h a 1) * 4)) + 2)) < (na : Int)) ∧ ((0 ≤ (zw ((zw ((zV h a 1) * 4)) + 3)) ∧ (zw ((zw ((zV h a 1) * 4)) + 3)) < (na : Int)) ∧ (∀ h_47, (zsetV (zsetV h_26 (a + 1) ((zw ((zw ((zV h a 1) * 4)) + 2))).toNat x2) (a + 1) ((zw ((zw ((zV h a 1) * 4)) + 3))).toNat x3) = h_47 → K (zV (zsetV h_47 a 1 (zw ((zV h_47 a 1) + 1))) a 1) (zsetV h_47 a 1 (zw ((zV h_47 a 1) + 1)))))))))) : yI d 41 [vR (some a), vI x0, vI x1, vI x2, vI x3] h K := by
  refine y_en (L := [some (vR (some a)), some (vI x0), some (vI x1), some (vI x2), some (vI x3), none]) rfl rfl ?_
  refine y_s (pc' := 1) (L' := [some (vR (some a)), some (vI x0), some (vI x1), some (vI x2), some (vI x3), none]) (st' := [vR (some a)]) (h' := h) f41_0 rfl ?_
  refine y_gi (pc' := 4) f41_1 yf_3_13 rfl rfl (ysR0 w ha) rfl ?_
  refine y_s (pc' := 5) (L' := [some (vR (some a)), some (vI x0), some (vI x1), some (vI x2), some (vI x3), none]) (st' := [vI 4, vI (zV h a 1)]) (h' := h) f41_4 rfl ?_
  refine y_s (pc' := 6) (L' := [some (vR (some a)), some (vI x0), some (vI x1), some (vI x2), some (vI x3), none]) (st' := [vI (zw ((zV h a 1) * 4))]) (h' := h) f41_5 rfl ?_
  refine y_sto (pc' := 8) (k := 5) (L' := [some (vR (some a)), some (vI x0), some (vI x1), some (vI x2), some (vI x3), some (vI (zw ((zV h a 1) * 4)))]) f41_6 rfl rfl rfl rfl rfl rfl ?_
  refine y_s (pc' := 9) (L' := [some (vR (some a)), some (vI x0), some (vI x1), some (vI x2), some (vI x3), some (vI (zw ((zV h a 1) * 4)))]) (st' := [vR (some a)]) (h' := h) f41_8 rfl ?_
  refine y_gr (pc' := 12) f41_9 yf_3_9 rfl rfl (ysR0 w ha) (ypR0 w ha) rfl ?_
  refine y_s (pc' := 14) (L' := [some (vR (some a)), some (vI x0), some (vI x1), some (vI x2), some (vI x3), some (vI (zw ((zV h a 1) * 4)))]) (st' := [vI (zw ((zV h a 1) * 4)), vR (some (a + 1))]) (h' := h) f41_12 rfl ?_
  refine y_s (pc' := 15) (L' := [some (vR (some a)), some (vI x0), some (vI x1), some (vI x2), some (vI x3), some (vI (zw ((zV h a 1) * 4)))]) (st' := [vI x0, vI (zw ((zV h a 1) * 4)), vR (some (a + 1))]) (h' := h) f41_14 rfl ?_
  refine y_is (pc' := 16) (h' := (zsetV h (a + 1) ((zw ((zV h a 1) * 4))).toNat x0)) f41_15 (ysR1 w ha) (Nat.le_add_right_of_le (yR_32 ha)) k.1 rfl rfl ?_
  replace k := k.2
  refine y_s (pc' := 17) (L' := [some (vR (some a)), some (vI x0), some (vI x1), some (vI x2), some (vI x3), some (vI (zw ((zV h a 1) * 4)))]) (st' := [vR (some a)]) (h' := (zsetV h (a + 1) ((zw ((zV h a 1) * 4))).toNat x0)) f41_16 rfl ?_
  refine y_gr (pc' := 20) f41_17 yf_3_9 rfl rfl (ysR0 w ha) (ypR0 w ha) rfl ?_
  refine y_s (pc' := 22) (L' := [some (vR (some a)), some (vI x0), some (vI x1), some (vI x2), some (vI x3), some (vI (zw ((zV h a 1) * 4)))]) (st' := [vI (zw ((zV h a 1) * 4)), vR (some (a + 1))]) (h' := (zsetV h (a + 1) ((zw ((zV h a 1) * 4))).toNat x0)) f41_20 rfl ?_
  refine y_s (pc' := 23) (L' := [some (vR (some a)), some (vI x0), some (vI x1), some (vI x2), some (vI x3), some (vI (zw ((zV h a 1) * 4)))]) (st' := [vI 1, vI (zw ((zV h a 1) * 4)), vR (some (a + 1))]) (h' := (zsetV h (a + 1) ((zw ((zV h a 1) * 4))).toNat x0)) f41_22 rfl ?_
  refine y_s (pc' := 24) (L' := [some (vR (some a)), some (vI x0), some (vI x1), some (vI x2), some (vI x3), some (vI (zw ((zV h a 1) * 4)))]) (st' := [vI (zw ((zw ((zV h a 1) * 4)) + 1)), vR (some (a + 1))]) (h' := (zsetV h (a + 1) ((zw ((zV h a 1) * 4))).toNat x0)) f41_23 rfl ?_
  refine y_s (pc' := 25) (L' := [some (vR (some a)), some (vI x0), some (vI x1), some (vI x2), some (vI x3), some (vI (zw ((zV h a 1) * 4)))]) (st' := [vI x1, vI (zw ((zw ((zV h a 1) * 4)) + 1)), vR (some (a + 1))]) (h' := (zsetV h (a + 1) ((zw ((zV h a 1) * 4))).toNat x0)) f41_24 rfl ?_
  refine y_is (pc' := 26) (h' := (zsetV (zsetV h (a + 1) ((zw ((zV h a 1) * 4))).toNat x0) (a + 1) ((zw ((zw ((zV h a 1) * 4)) + 1))).toNat x1)) f41_25 (ysR1 w ha) (Nat.le_add_right_of_le (yR_32 ha)) k.1 rfl rfl ?_
  replace k := k.2
  generalize e_26 : (zsetV (zsetV h (a + 1) ((zw ((zV h a 1) * 4))).toNat x0) (a + 1) ((zw ((zw ((zV h a 1) * 4)) + 1))).toNat x1) = h_26
  replace k := k _ e_26
  have w : yWF zl nl h_26 := by rw [← e_26]; exact w
  refine y_s (pc' := 27) (L' := [some (vR (some a)), some (vI x0), some (vI x1), some (vI x2), some (vI x3), some (vI (zw ((zV h a 1) * 4)))]) (st' := [vR (some a)]) (h' := h_26) f41_26 rfl ?_
  refine y_gr (pc' := 30) f41_27 yf_3_9 rfl rfl (ysR0 w ha) (ypR0 w ha) rfl ?_
  refine y_s (pc' := 32) (L' := [some (vR (some a)), some (vI x0), some (vI x1), some (vI x2), some (vI x3), some (vI (zw ((zV h a 1) * 4)))]) (st' := [vI (zw ((zV h a 1) * 4)), vR (some (a + 1))]) (h' := h_26) f41_30 rfl ?_
  refine y_s (pc' := 33) (L' := [some (vR (some a)), some (vI x0), some (vI x1), some (vI x2), some (vI x3), some (vI (zw ((zV h a 1) * 4)))]) (st' := [vI 2, vI (zw ((zV h a 1) * 4)), vR (some (a + 1))]) (h' := h_26) f41_32 rfl ?_
  refine y_s (pc' := 34) (L' := [some (vR (some a)), some (vI x0), some (vI x1), some (vI x2), some (vI x3), some (vI (zw ((zV h a 1) * 4)))]) (st' := [vI (zw ((zw ((zV h a 1) * 4)) + 2)), vR (some (a + 1))]) (h' := h_26) f41_33 rfl ?_
  refine y_s (pc' := 35) (L' := [some (vR (some a)), some (vI x0), some (vI x1), some (vI x2), some (vI x3), some (vI (zw ((zV h a 1) * 4)))]) (st' := [vI x2, vI (zw ((zw ((zV h a 1) * 4)) + 2)), vR (some (a + 1))]) (h' := h_26) f41_34 rfl ?_
  refine y_is (pc' := 36) (h' := (zsetV h_26 (a + 1) ((zw ((zw ((zV h a 1) * 4)) + 2))).toNat x2)) f41_35 (ysR1 w ha) (Nat.le_add_right_of_le (yR_32 ha)) k.1 rfl rfl ?_
  replace k := k.2
  refine y_s (pc' := 37) (L' := [some (vR (some a)), some (vI x0), some (vI x1), some (vI x2), some (vI x3), some (vI (zw ((zV h a 1) * 4)))]) (st' := [vR (some a)]) (h' := (zsetV h_26 (a + 1) ((zw ((zw ((zV h a 1) * 4)) + 2))).toNat x2)) f41_36 rfl ?_
  refine y_gr (pc' := 40) f41_37 yf_3_9 rfl rfl (ysR0 w ha) (ypR0 w ha) rfl ?_
  refine y_s (pc' := 42) (L' := [some (vR (some a)), some (vI x0), some (vI x1), some (vI x2), some (vI x3), some (vI (zw ((zV h a 1) * 4)))]) (st' := [vI (zw ((zV h a 1) * 4)), vR (some (a + 1))]) (h' := (zsetV h_26 (a + 1) ((zw ((zw ((zV h a 1) * 4)) + 2))).toNat x2)) f41_40 rfl ?_
  refine y_s (pc' := 43) (L' := [some (vR (some a)), some (vI x0), some (vI x1), some (vI x2), some (vI x3), some (vI (zw ((zV h a 1) * 4)))]) (st' := [vI 3, vI (zw ((zV h a 1) * 4)), vR (some (a + 1))]) (h' := (zsetV h_26 (a + 1) ((zw ((zw ((zV h a 1) * 4)) + 2))).toNat x2)) f41_42 rfl ?_
  refine y_s (pc' := 44) (L' := [some (vR (some a)), some (vI x0), some (vI x1), some (vI x2), some (vI x3), some (vI (zw ((zV h a 1) * 4)))]) (st' := [vI (zw ((zw ((zV h a 1) * 4)) + 3)), vR (some (a + 1))]) (h' := (zsetV h_26 (a + 1) ((zw ((zw ((zV h a 1) * 4)) + 2))).toNat x2)) f41_43 rfl ?_
  refine y_s (pc' := 46) (L' := [some (vR (some a)), some (vI x0), some (vI x1), some (vI x2), some (vI x3), some (vI (zw ((zV h a 1) * 4)))]) (st' := [vI x3, vI (zw ((zw ((zV h a 1) * 4)) + 3)), vR (some (a + 1))]) (h' := (zsetV h_26 (a + 1) ((zw ((zw ((zV h a 1) * 4)) + 2))).toNat x2)) f41_44 rfl ?_
  refine y_is (pc' := 47) (h' := (zsetV (zsetV h_26 (a + 1) ((zw ((zw ((zV h a 1) * 4)) + 2))).toNat x2) (a + 1) ((zw ((zw ((zV h a 1) * 4)) + 3))).toNat x3)) f41_46 (ysR1 w ha) (Nat.le_add_right_of_le (yR_32 ha)) k.1 rfl rfl ?_
  replace k := k.2
  generalize e_47 : (zsetV (zsetV h_26 (a + 1) ((zw ((zw ((zV h a 1) * 4)) + 2))).toNat x2) (a + 1) ((zw ((zw ((zV h a 1) * 4)) + 3))).toNat x3) = h_47
  replace k := k _ e_47
  have w : yWF zl nl h_47 := by rw [← e_47]; exact w
  refine y_s (pc' := 48) (L' := [some (vR (some a)), some (vI x0), some (vI x1), some (vI x2), some (vI x3), some (vI (zw ((zV h a 1) * 4)))]) (st' := [vR (some a)]) (h' := h_47) f41_47 rfl ?_
  refine y_s (pc' := 49) (L' := [some (vR (some a)), some (vI x0), some (vI x1), some (vI x2), some (vI x3), some (vI (zw ((zV h a 1) * 4)))]) (st' := [vR (some a), vR (some a)]) (h' := h_47) f41_48 rfl ?_
  refine y_gi (pc' := 52) f41_49 yf_3_13 rfl rfl (ysR0 w ha) rfl ?_
  refine y_s (pc' := 53) (L' := [some (vR (some a)), some (vI x0), some (vI x1), some (vI x2), some (vI x3), some (vI (zw ((zV h a 1) * 4)))]) (st' := [vI 1, vI (zV h_47 a 1), vR (some a)]) (h' := h_47) f41_52 rfl ?_
  refine y_s (pc' := 54) (L' := [some (vR (some a)), some (vI x0), some (vI x1), some (vI x2), some (vI x3), some (vI (zw ((zV h a 1) * 4)))]) (st' := [vI (zw ((zV h_47 a 1) + 1)), vR (some a)]) (h' := h_47) f41_53 rfl ?_
  refine y_pi (pc' := 57) f41_54 yf_3_13 rfl rfl (ysR0 w ha) (yR_32 ha) (Or.inl rfl) rfl ?_
  refine y_s (pc' := 58) (L' := [some (vR (some a)), some (vI x0), some (vI x1), some (vI x2), some (vI x3), some (vI (zw ((zV h a 1) * 4)))]) (st' := [vR (some a)]) (h' := (zsetV h_47 a 1 (zw ((zV h_47 a 1) + 1)))) f41_57 rfl ?_
  refine y_gi (pc' := 61) f41_58 yf_3_13 rfl rfl (ysR0 w ha) rfl ?_
  exact y_ri f41_61 ⟨rfl, k⟩
/-- HatterTunes$Text.isFull()Z -/
theorem E44 {d : Nat} {K : Int → Hp → Prop} (w : yWF zl nl h) (k : (((zV h 82 1) < 100 → K 0 h) ∧ (¬ ((zV h 82 1) < 100) → K 1 h))) : yI d 44 [vR (some 82)] h K := by
  refine y_en (L := [some (vR (some 82))]) rfl rfl ?_
  refine y_s (pc' := 1) (L' := [some (vR (some 82))]) (st' := [vR (some 82)]) (h' := h) f44_0 rfl ?_
  refine y_gi (pc' := 4) f44_1 yf_6_15 rfl rfl (ys82 w) rfl ?_
  refine y_s (pc' := 6) (L' := [some (vR (some 82))]) (st' := [vI 100, vI (zV h 82 1)]) (h' := h) f44_4 rfl ?_
  refine y_ic (pcT := 13) (pc' := 9) (P := (zV h 82 1) < 100) f44_6 rfl rfl rfl (fun c => ?_) (fun c => ?_)
  · replace k := k.1 c
    refine y_s (pc' := 14) (L' := [some (vR (some 82))]) (st' := [vI 0]) (h' := h) f44_13 rfl ?_
    exact y_ri f44_14 ⟨rfl, k⟩
  · replace k := k.2 c
    refine y_s (pc' := 10) (L' := [some (vR (some 82))]) (st' := [vI 1]) (h' := h) f44_9 rfl ?_
    refine y_go (pc' := 14) f44_10 rfl ?_
    exact y_ri f44_14 ⟨rfl, k⟩
/-- HatterTunes$Text.add(I)I -/
theorem E45 {d : Nat} {K : Int → Hp → Prop} (w : yWF zl nl h) {x0 : Int} (k : ((0 ≤ (zV h 82 1) ∧ (zV h 82 1) < 100) ∧ (∀ h_20, (zsetV (zsetV h 83 ((zV h 82 1)).toNat x0) 82 1 (zw ((zV (zsetV h 83 ((zV h 82 1)).toNat x0) 82 1) + 1))) = h_20 → K (zV h_20 82 1) h_20))) : yI d 45 [vR (some 82), vI x0] h K := by
  refine y_en (L := [some (vR (some 82)), some (vI x0)]) rfl rfl ?_
  refine y_s (pc' := 1) (L' := [some (vR (some 82)), some (vI x0)]) (st' := [vR (some 82)]) (h' := h) f45_0 rfl ?_
  refine y_gr (pc' := 4) f45_1 yf_6_9 rfl rfl (ys82 w) (yp82_0 w) rfl ?_
  refine y_s (pc' := 5) (L' := [some (vR (some 82)), some (vI x0)]) (st' := [vR (some 82), vR (some 83)]) (h' := h) f45_4 rfl ?_
  refine y_gi (pc' := 8) f45_5 yf_6_15 rfl rfl (ys82 w) rfl ?_
  refine y_s (pc' := 9) (L' := [some (vR (some 82)), some (vI x0)]) (st' := [vI x0, vI (zV h 82 1), vR (some 83)]) (h' := h) f45_8 rfl ?_
  refine y_is (pc' := 10) (h' := (zsetV h 83 ((zV h 82 1)).toNat x0)) f45_9 (ys83 w) (by decide) k.1 rfl rfl ?_
  replace k := k.2
  refine y_s (pc' := 11) (L' := [some (vR (some 82)), some (vI x0)]) (st' := [vR (some 82)]) (h' := (zsetV h 83 ((zV h 82 1)).toNat x0)) f45_10 rfl ?_
  refine y_s (pc' := 12) (L' := [some (vR (some 82)), some (vI x0)]) (st' := [vR (some 82), vR (some 82)]) (h' := (zsetV h 83 ((zV h 82 1)).toNat x0)) f45_11 rfl ?_
  refine y_gi (pc' := 15) f45_12 yf_6_15 rfl rfl (ys82 w) rfl ?_
  refine y_s (pc' := 16) (L' := [some (vR (some 82)), some (vI x0)]) (st' := [vI 1, vI (zV (zsetV h 83 ((zV h 82 1)).toNat x0) 82 1), vR (some 82)]) (h' := (zsetV h 83 ((zV h 82 1)).toNat x0)) f45_15 rfl ?_
  refine y_s (pc' := 17) (L' := [some (vR (some 82)), some (vI x0)]) (st' := [vI (zw ((zV (zsetV h 83 ((zV h 82 1)).toNat x0) 82 1) + 1)), vR (some 82)]) (h' := (zsetV h 83 ((zV h 82 1)).toNat x0)) f45_16 rfl ?_
  refine y_pi (pc' := 20) f45_17 yf_6_15 rfl rfl (ys82 w) (by decide) (Or.inl rfl) rfl ?_
  generalize e_20 : (zsetV (zsetV h 83 ((zV h 82 1)).toNat x0) 82 1 (zw ((zV (zsetV h 83 ((zV h 82 1)).toNat x0) 82 1) + 1))) = h_20
  replace k := k _ e_20
  have w : yWF zl nl h_20 := by rw [← e_20]; exact w
  refine y_s (pc' := 21) (L' := [some (vR (some 82)), some (vI x0)]) (st' := [vR (some 82)]) (h' := h_20) f45_20 rfl ?_
  refine y_gi (pc' := 24) f45_21 yf_6_15 rfl rfl (ys82 w) rfl ?_
  exact y_ri f45_24 ⟨rfl, k⟩
/-- HatterTunes$Shop.clear()V -/
theorem E48 {d : Nat} {K : Hp → Prop} (w : yWF zl nl h) {a : Nat} (ha : ySh a) (k : (∀ h_10, (zsetV (zsetV h a 3 0) a 4 0) = h_10 → K h_10)) : yU d 48 [vR (some a)] h K := by
  refine y_en (L := [some (vR (some a))]) rfl rfl ?_
  refine y_s (pc' := 1) (L' := [some (vR (some a))]) (st' := [vR (some a)]) (h' := h) f48_0 rfl ?_
  refine y_s (pc' := 2) (L' := [some (vR (some a))]) (st' := [vI 0, vR (some a)]) (h' := h) f48_1 rfl ?_
  refine y_pi (pc' := 5) f48_2 yf_4_21 rfl rfl (ysS0 w ha) (yS_32 ha) (Or.inl rfl) rfl ?_
  refine y_s (pc' := 6) (L' := [some (vR (some a))]) (st' := [vR (some a)]) (h' := (zsetV h a 3 0)) f48_5 rfl ?_
  refine y_s (pc' := 7) (L' := [some (vR (some a))]) (st' := [vI 0, vR (some a)]) (h' := (zsetV h a 3 0)) f48_6 rfl ?_
  refine y_pi (pc' := 10) f48_7 yf_4_25 rfl rfl (ysS0 w ha) (yS_32 ha) (Or.inl rfl) rfl ?_
  generalize e_10 : (zsetV (zsetV h a 3 0) a 4 0) = h_10
  replace k := k _ e_10
  have w : yWF zl nl h_10 := by rw [← e_10]; exact w
  exact y_ru f48_10 ⟨rfl, k⟩
/-- HatterTunes$Text.peek()I -/
theorem E50 {d : Nat} {K : Int → Hp → Prop} (w : yWF zl nl h) (k : (((zV h 82 2) < 0 → K (-1) h) ∧ (¬ ((zV h 82 2) < 0) → (((zV h 82 1) ≤ (zV h 82 2) → K (-1) h) ∧ (¬ ((zV h 82 1) ≤ (zV h 82 2)) → ((0 ≤ (zV h 82 2) ∧ (zV h 82 2) < 100) ∧ K (zV h 83 ((zV h 82 2)).toNat) h)))))) : yI d 50 [vR (some 82)] h K := by
  refine y_en (L := [some (vR (some 82))]) rfl rfl ?_
  refine y_s (pc' := 1) (L' := [some (vR (some 82))]) (st' := [vR (some 82)]) (h' := h) f50_0 rfl ?_
  refine y_gi (pc' := 4) f50_1 yf_6_28 rfl rfl (ys82 w) rfl ?_
  refine y_if (pcT := 30) (pc' := 7) (P := (zV h 82 2) < 0) f50_4 rfl rfl rfl (fun c => ?_) (fun c => ?_)
  · replace k := k.1 c
    refine y_s (pc' := 31) (L' := [some (vR (some 82))]) (st' := [vI (-1)]) (h' := h) f50_30 rfl ?_
    exact y_ri f50_31 ⟨rfl, k⟩
  · replace k := k.2 c
    refine y_s (pc' := 8) (L' := [some (vR (some 82))]) (st' := [vR (some 82)]) (h' := h) f50_7 rfl ?_
    refine y_gi (pc' := 11) f50_8 yf_6_28 rfl rfl (ys82 w) rfl ?_
    refine y_s (pc' := 12) (L' := [some (vR (some 82))]) (st' := [vR (some 82), vI (zV h 82 2)]) (h' := h) f50_11 rfl ?_
    refine y_gi (pc' := 15) f50_12 yf_6_15 rfl rfl (ys82 w) rfl ?_
    refine y_ic (pcT := 30) (pc' := 18) (P := (zV h 82 1) ≤ (zV h 82 2)) f50_15 rfl rfl rfl (fun c => ?_) (fun c => ?_)
    · replace k := k.1 c
      refine y_s (pc' := 31) (L' := [some (vR (some 82))]) (st' := [vI (-1)]) (h' := h) f50_30 rfl ?_
      exact y_ri f50_31 ⟨rfl, k⟩
    · replace k := k.2 c
      refine y_s (pc' := 19) (L' := [some (vR (some 82))]) (st' := [vR (some 82)]) (h' := h) f50_18 rfl ?_
      refine y_gr (pc' := 22) f50_19 yf_6_9 rfl rfl (ys82 w) (yp82_0 w) rfl ?_
      refine y_s (pc' := 23) (L' := [some (vR (some 82))]) (st' := [vR (some 82), vR (some 83)]) (h' := h) f50_22 rfl ?_
      refine y_gi (pc' := 26) f50_23 yf_6_28 rfl rfl (ys82 w) rfl ?_
      refine y_ia (pc' := 27) (x := (zV h 83 ((zV h 82 2)).toNat)) f50_26 (ys83 w) k.1 rfl rfl ?_
      replace k := k.2
      refine y_go (pc' := 31) f50_27 rfl ?_
      exact y_ri f50_31 ⟨rfl, k⟩
/-- HatterTunes$Text.isDigit(I)Z -/
theorem E66 {d : Nat} {K : Int → Hp → Prop} (w : yWF zl nl h) {x0 : Int} (k : ((x0 < 48 → K 0 h) ∧ (¬ (x0 < 48) → ((57 < x0 → K 0 h) ∧ (¬ (57 < x0) → K 1 h))))) : yI d 66 [vI x0] h K := by
  refine y_en (L := [some (vI x0)]) rfl rfl ?_
  refine y_s (pc' := 1) (L' := [some (vI x0)]) (st' := [vI x0]) (h' := h) f66_0 rfl ?_
  refine y_s (pc' := 3) (L' := [some (vI x0)]) (st' := [vI 48, vI x0]) (h' := h) f66_1 rfl ?_
  refine y_ic (pcT := 16) (pc' := 6) (P := x0 < 48) f66_3 rfl rfl rfl (fun c => ?_) (fun c => ?_)
  · replace k := k.1 c
    refine y_s (pc' := 17) (L' := [some (vI x0)]) (st' := [vI 0]) (h' := h) f66_16 rfl ?_
    exact y_ri f66_17 ⟨rfl, k⟩
  · replace k := k.2 c
    refine y_s (pc' := 7) (L' := [some (vI x0)]) (st' := [vI x0]) (h' := h) f66_6 rfl ?_
    refine y_s (pc' := 9) (L' := [some (vI x0)]) (st' := [vI 57, vI x0]) (h' := h) f66_7 rfl ?_
    refine y_ic (pcT := 16) (pc' := 12) (P := 57 < x0) f66_9 rfl rfl rfl (fun c => ?_) (fun c => ?_)
    · replace k := k.1 c
      refine y_s (pc' := 17) (L' := [some (vI x0)]) (st' := [vI 0]) (h' := h) f66_16 rfl ?_
      exact y_ri f66_17 ⟨rfl, k⟩
    · replace k := k.2 c
      refine y_s (pc' := 13) (L' := [some (vI x0)]) (st' := [vI 1]) (h' := h) f66_12 rfl ?_
      refine y_go (pc' := 17) f66_13 rfl ?_
      exact y_ri f66_17 ⟨rfl, k⟩
/-- HatterTunes$Shop.addStep(III)V -/
theorem E70 {d : Nat} {K : Hp → Prop} (w : yWF zl nl h) {a : Nat} (ha : ySh a) {x0 : Int} {x1 : Int} {x2 : Int} (k : ((100 ≤ (zV h a 3) → K h) ∧ (¬ (100 ≤ (zV h a 3)) → ((0 ≤ (zV h a 3) ∧ (zV h a 3) < 100) ∧ ((0 ≤ (zV (zsetV h (a + 1) ((zV h a 3)).toNat x0) a 3) ∧ (zV (zsetV h (a + 1) ((zV h a 3)).toNat x0) a 3) < 100) ∧ (∀ h_29, (zsetV (zsetV h (a + 1) ((zV h a 3)).toNat x0) (a + 2) ((zV (zsetV h (a + 1) ((zV h a 3)).toNat x0) a 3)).toNat x1) = h_29 → ((0 ≤ (zV h_29 a 3) ∧ (zV h_29 a 3) < 100) ∧ (∀ h_49, (zsetV (zsetV h_29 (a + 3) ((zV h_29 a 3)).toNat x2) a 3 (zw ((zV (zsetV h_29 (a + 3) ((zV h_29 a 3)).toNat x2) a 3) + 1))) = h_49 → K h_49)))))))) : yU d 70 [vR (some a), vI x0, vI x1, vI x2] h K := by
  refine y_en (L := [some (vR (some a)), some (vI x0), some (vI x1), some (vI x2)]) rfl rfl ?_
  refine y_s (pc' := 1) (L' := [some (vR (some a)), some (vI x0), some (vI x1), some (vI x2)]) (st' := [vR (some a)]) (h' := h) f70_0 rfl ?_
  refine y_gi (pc' := 4) f70_1 yf_4_21 rfl rfl (ysS0 w ha) rfl ?_
  refine y_s (pc' := 6) (L' := [some (vR (some a)), some (vI x0), some (vI x1), some (vI x2)]) (st' := [vI 100, vI (zV h a 3)]) (h' := h) f70_4 rfl ?_
  refine y_ic (pcT := 49) (pc' := 9) (P := 100 ≤ (zV h a 3)) f70_6 rfl rfl rfl (fun c => ?_) (fun c => ?_)
  · replace k := k.1 c
    exact y_ru f70_49 ⟨rfl, k⟩
  · replace k := k.2 c
    refine y_s (pc' := 10) (L' := [some (vR (some a)), some (vI x0), some (vI x1), some (vI x2)]) (st' := [vR (some a)]) (h' := h) f70_9 rfl ?_
    refine y_gr (pc' := 13) f70_10 yf_4_9 rfl rfl (ysS0 w ha) (ypS0 w ha) rfl ?_
    refine y_s (pc' := 14) (L' := [some (vR (some a)), some (vI x0), some (vI x1), some (vI x2)]) (st' := [vR (some a), vR (some (a + 1))]) (h' := h) f70_13 rfl ?_
    refine y_gi (pc' := 17) f70_14 yf_4_21 rfl rfl (ysS0 w ha) rfl ?_
    refine y_s (pc' := 18) (L' := [some (vR (some a)), some (vI x0), some (vI x1), some (vI x2)]) (st' := [vI x0, vI (zV h a 3), vR (some (a + 1))]) (h' := h) f70_17 rfl ?_
    refine y_is (pc' := 19) (h' := (zsetV h (a + 1) ((zV h a 3)).toNat x0)) f70_18 (ysS1 w ha) (Nat.le_add_right_of_le (yS_32 ha)) k.1 rfl rfl ?_
    replace k := k.2
    refine y_s (pc' := 20) (L' := [some (vR (some a)), some (vI x0), some (vI x1), some (vI x2)]) (st' := [vR (some a)]) (h' := (zsetV h (a + 1) ((zV h a 3)).toNat x0)) f70_19 rfl ?_
    refine y_gr (pc' := 23) f70_20 yf_4_15 rfl rfl (ysS0 w ha) (ypS1 w ha) rfl ?_
    refine y_s (pc' := 24) (L' := [some (vR (some a)), some (vI x0), some (vI x1), some (vI x2)]) (st' := [vR (some a), vR (some (a + 2))]) (h' := (zsetV h (a + 1) ((zV h a 3)).toNat x0)) f70_23 rfl ?_
    refine y_gi (pc' := 27) f70_24 yf_4_21 rfl rfl (ysS0 w ha) rfl ?_
    refine y_s (pc' := 28) (L' := [some (vR (some a)), some (vI x0), some (vI x1), some (vI x2)]) (st' := [vI x1, vI (zV (zsetV h (a + 1) ((zV h a 3)).toNat x0) a 3), vR (some (a + 2))]) (h' := (zsetV h (a + 1) ((zV h a 3)).toNat x0)) f70_27 rfl ?_
    refine y_is (pc' := 29) (h' := (zsetV (zsetV h (a + 1) ((zV h a 3)).toNat x0) (a + 2) ((zV (zsetV h (a + 1) ((zV h a 3)).toNat x0) a 3)).toNat x1)) f70_28 (ysS2 w ha) (Nat.le_add_right_of_le (yS_32 ha)) k.1 rfl rfl ?_
    replace k := k.2
    generalize e_29 : (zsetV (zsetV h (a + 1) ((zV h a 3)).toNat x0) (a + 2) ((zV (zsetV h (a + 1) ((zV h a 3)).toNat x0) a 3)).toNat x1) = h_29
    replace k := k _ e_29
    have w : yWF zl nl h_29 := by rw [← e_29]; exact w
    refine y_s (pc' := 30) (L' := [some (vR (some a)), some (vI x0), some (vI x1), some (vI x2)]) (st' := [vR (some a)]) (h' := h_29) f70_29 rfl ?_
    refine y_gr (pc' := 33) f70_30 yf_4_18 rfl rfl (ysS0 w ha) (ypS2 w ha) rfl ?_
    refine y_s (pc' := 34) (L' := [some (vR (some a)), some (vI x0), some (vI x1), some (vI x2)]) (st' := [vR (some a), vR (some (a + 3))]) (h' := h_29) f70_33 rfl ?_
    refine y_gi (pc' := 37) f70_34 yf_4_21 rfl rfl (ysS0 w ha) rfl ?_
    refine y_s (pc' := 38) (L' := [some (vR (some a)), some (vI x0), some (vI x1), some (vI x2)]) (st' := [vI x2, vI (zV h_29 a 3), vR (some (a + 3))]) (h' := h_29) f70_37 rfl ?_
    refine y_is (pc' := 39) (h' := (zsetV h_29 (a + 3) ((zV h_29 a 3)).toNat x2)) f70_38 (ysS3 w ha) (Nat.le_add_right_of_le (yS_32 ha)) k.1 rfl rfl ?_
    replace k := k.2
    refine y_s (pc' := 40) (L' := [some (vR (some a)), some (vI x0), some (vI x1), some (vI x2)]) (st' := [vR (some a)]) (h' := (zsetV h_29 (a + 3) ((zV h_29 a 3)).toNat x2)) f70_39 rfl ?_
    refine y_s (pc' := 41) (L' := [some (vR (some a)), some (vI x0), some (vI x1), some (vI x2)]) (st' := [vR (some a), vR (some a)]) (h' := (zsetV h_29 (a + 3) ((zV h_29 a 3)).toNat x2)) f70_40 rfl ?_
    refine y_gi (pc' := 44) f70_41 yf_4_21 rfl rfl (ysS0 w ha) rfl ?_
    refine y_s (pc' := 45) (L' := [some (vR (some a)), some (vI x0), some (vI x1), some (vI x2)]) (st' := [vI 1, vI (zV (zsetV h_29 (a + 3) ((zV h_29 a 3)).toNat x2) a 3), vR (some a)]) (h' := (zsetV h_29 (a + 3) ((zV h_29 a 3)).toNat x2)) f70_44 rfl ?_
    refine y_s (pc' := 46) (L' := [some (vR (some a)), some (vI x0), some (vI x1), some (vI x2)]) (st' := [vI (zw ((zV (zsetV h_29 (a + 3) ((zV h_29 a 3)).toNat x2) a 3) + 1)), vR (some a)]) (h' := (zsetV h_29 (a + 3) ((zV h_29 a 3)).toNat x2)) f70_45 rfl ?_
    refine y_pi (pc' := 49) f70_46 yf_4_21 rfl rfl (ysS0 w ha) (yS_32 ha) (Or.inl rfl) rfl ?_
    generalize e_49 : (zsetV (zsetV h_29 (a + 3) ((zV h_29 a 3)).toNat x2) a 3 (zw ((zV (zsetV h_29 (a + 3) ((zV h_29 a 3)).toNat x2) a 3) + 1))) = h_49
    replace k := k _ e_49
    have w : yWF zl nl h_49 := by rw [← e_49]; exact w
    exact y_ru f70_49 ⟨rfl, k⟩
/-- HatterTunes$Text.letterNumber(I)I -/
theorem E72 {d : Nat} {K : Int → Hp → Prop} (w : yWF zl nl h) {x0 : Int} (k : ((x0 = 98 → K 4 h) ∧ (x0 = 105 → K 3 h) ∧ (x0 = 107 → K 1 h) ∧ (x0 = 112 → K 0 h) ∧ (x0 = 118 → K 2 h) ∧ (x0 = 121 → K 5 h) ∧ (x0 ≠ 98 ∧ x0 ≠ 105 ∧ x0 ≠ 107 ∧ x0 ≠ 112 ∧ x0 ≠ 118 ∧ x0 ≠ 121 → K (-1) h))) : yI d 72 [vI x0] h K := by
  refine y_en (L := [some (vI x0)]) rfl rfl ?_
  refine y_s (pc' := 1) (L' := [some (vI x0)]) (st' := [vI x0]) (h' := h) f72_0 rfl ?_
  by_cases c : x0 = 98
  · refine y_ls (pc' := 68) (off := 67) f72_1 rfl (by rw [c]; rfl) rfl ?_
    replace k := k.1 c
    refine y_s (pc' := 69) (L' := [some (vI x0)]) (st' := [vI 4]) (h' := h) f72_68 rfl ?_
    exact y_ri f72_69 ⟨rfl, k⟩
  replace k := k.2
  have c0 := c
  by_cases c : x0 = 105
  · refine y_ls (pc' := 66) (off := 65) f72_1 rfl (by rw [c]; rfl) rfl ?_
    replace k := k.1 c
    refine y_s (pc' := 67) (L' := [some (vI x0)]) (st' := [vI 3]) (h' := h) f72_66 rfl ?_
    exact y_ri f72_67 ⟨rfl, k⟩
  replace k := k.2
  have c1 := c
  by_cases c : x0 = 107
  · refine y_ls (pc' := 62) (off := 61) f72_1 rfl (by rw [c]; rfl) rfl ?_
    replace k := k.1 c
    refine y_s (pc' := 63) (L' := [some (vI x0)]) (st' := [vI 1]) (h' := h) f72_62 rfl ?_
    exact y_ri f72_63 ⟨rfl, k⟩
  replace k := k.2
  have c2 := c
  by_cases c : x0 = 112
  · refine y_ls (pc' := 60) (off := 59) f72_1 rfl (by rw [c]; rfl) rfl ?_
    replace k := k.1 c
    refine y_s (pc' := 61) (L' := [some (vI x0)]) (st' := [vI 0]) (h' := h) f72_60 rfl ?_
    exact y_ri f72_61 ⟨rfl, k⟩
  replace k := k.2
  have c3 := c
  by_cases c : x0 = 118
  · refine y_ls (pc' := 64) (off := 63) f72_1 rfl (by rw [c]; rfl) rfl ?_
    replace k := k.1 c
    refine y_s (pc' := 65) (L' := [some (vI x0)]) (st' := [vI 2]) (h' := h) f72_64 rfl ?_
    exact y_ri f72_65 ⟨rfl, k⟩
  replace k := k.2
  have c4 := c
  by_cases c : x0 = 121
  · refine y_ls (pc' := 70) (off := 69) f72_1 rfl (by rw [c]; rfl) rfl ?_
    replace k := k.1 c
    refine y_s (pc' := 71) (L' := [some (vI x0)]) (st' := [vI 5]) (h' := h) f72_70 rfl ?_
    exact y_ri f72_71 ⟨rfl, k⟩
  replace k := k.2
  have c5 := c
  replace k := k ⟨c0, c1, c2, c3, c4, c5⟩
  refine y_ls (pc' := 72) (off := 71) f72_1 rfl (by show Op.lookupswitch.offset [(98, 67), (105, 65), (107, 61), (112, 59), (118, 63), (121, 69)] 71 x0 = 71; rw [Op.lookupswitch.offset_cons, if_neg (fun q => c0 q.symm), Op.lookupswitch.offset_cons, if_neg (fun q => c1 q.symm), Op.lookupswitch.offset_cons, if_neg (fun q => c2 q.symm), Op.lookupswitch.offset_cons, if_neg (fun q => c3 q.symm), Op.lookupswitch.offset_cons, if_neg (fun q => c4 q.symm), Op.lookupswitch.offset_cons, if_neg (fun q => c5 q.symm)]; rfl) rfl ?_
  refine y_s (pc' := 73) (L' := [some (vI x0)]) (st' := [vI (-1)]) (h' := h) f72_72 rfl ?_
  exact y_ri f72_73 ⟨rfl, k⟩
/-- HatterTunes$Text.relationStep(I)I -/
theorem E73 {d : Nat} {K : Int → Hp → Prop} (w : yWF zl nl h) {x0 : Int} (k : ((x0 = 60 → K 1 h) ∧ (x0 = 61 → K 2 h) ∧ (x0 = 62 → K 3 h) ∧ (x0 < 60 ∨ 62 < x0 → K (-1) h))) : yI d 73 [vI x0] h K := by
  refine y_en (L := [some (vI x0)]) rfl rfl ?_
  refine y_s (pc' := 1) (L' := [some (vI x0)]) (st' := [vI x0]) (h' := h) f73_0 rfl ?_
  by_cases c : x0 = 60
  · refine y_tc (pc' := 28) (v := 60) f73_1 c rfl rfl rfl ?_
    replace k := k.1 c
    refine y_s (pc' := 29) (L' := [some (vI x0)]) (st' := [vI 1]) (h' := h) f73_28 rfl ?_
    exact y_ri f73_29 ⟨rfl, k⟩
  replace k := k.2
  have c0 := c
  by_cases c : x0 = 61
  · refine y_tc (pc' := 30) (v := 61) f73_1 c rfl rfl rfl ?_
    replace k := k.1 c
    refine y_s (pc' := 31) (L' := [some (vI x0)]) (st' := [vI 2]) (h' := h) f73_30 rfl ?_
    exact y_ri f73_31 ⟨rfl, k⟩
  replace k := k.2
  have c1 := c
  by_cases c : x0 = 62
  · refine y_tc (pc' := 32) (v := 62) f73_1 c rfl rfl rfl ?_
    replace k := k.1 c
    refine y_s (pc' := 33) (L' := [some (vI x0)]) (st' := [vI 3]) (h' := h) f73_32 rfl ?_
    exact y_ri f73_33 ⟨rfl, k⟩
  replace k := k.2
  have c2 := c
  have cc : x0 < 60 ∨ 62 < x0 := by omega
  refine y_td (pc' := 34) f73_1 cc rfl ?_
  replace k := k cc
  refine y_s (pc' := 35) (L' := [some (vI x0)]) (st' := [vI (-1)]) (h' := h) f73_34 rfl ?_
  exact y_ri f73_35 ⟨rfl, k⟩
/-- HatterTunes$Choir.length()I -/
theorem E88 {d : Nat} {K : Int → Hp → Prop} (w : yWF zl nl h) (k : K (zw ((zw (6 * (zV h 88 4))) - (zV h 88 5))) h) : yI d 88 [vR (some 88)] h K := by
  refine y_en (L := [some (vR (some 88))]) rfl rfl ?_
  refine y_s (pc' := 2) (L' := [some (vR (some 88))]) (st' := [vI 6]) (h' := h) f88_0 rfl ?_
  refine y_s (pc' := 3) (L' := [some (vR (some 88))]) (st' := [vR (some 88), vI 6]) (h' := h) f88_2 rfl ?_
  refine y_gi (pc' := 6) f88_3 yf_1_30 rfl rfl (ys88 w) rfl ?_
  refine y_s (pc' := 7) (L' := [some (vR (some 88))]) (st' := [vI (zw (6 * (zV h 88 4)))]) (h' := h) f88_6 rfl ?_
  refine y_s (pc' := 8) (L' := [some (vR (some 88))]) (st' := [vR (some 88), vI (zw (6 * (zV h 88 4)))]) (h' := h) f88_7 rfl ?_
  refine y_gi (pc' := 11) f88_8 yf_1_34 rfl rfl (ys88 w) rfl ?_
  refine y_s (pc' := 12) (L' := [some (vR (some 88))]) (st' := [vI (zw ((zw (6 * (zV h 88 4))) - (zV h 88 5)))]) (h' := h) f88_11 rfl ?_
  exact y_ri f88_12 ⟨rfl, k⟩
/-- HatterTunes$Tape.holds()Z -/
theorem E103 {d : Nat} {K : Int → Hp → Prop} (w : yWF zl nl h) {a : Nat} (ha : yTp a) (k : (((zV h a 1) = (-1) → K 0 h) ∧ (¬ ((zV h a 1) = (-1)) → K 1 h))) : yI d 103 [vR (some a)] h K := by
  refine y_en (L := [some (vR (some a))]) rfl rfl ?_
  refine y_s (pc' := 1) (L' := [some (vR (some a))]) (st' := [vR (some a)]) (h' := h) f103_0 rfl ?_
  refine y_gi (pc' := 4) f103_1 yf_5_15 rfl rfl (ysT0 w ha) rfl ?_
  refine y_s (pc' := 5) (L' := [some (vR (some a))]) (st' := [vI (-1), vI (zV h a 1)]) (h' := h) f103_4 rfl ?_
  refine y_ic (pcT := 12) (pc' := 8) (P := (zV h a 1) = (-1)) f103_5 rfl rfl rfl (fun c => ?_) (fun c => ?_)
  · replace k := k.1 c
    refine y_s (pc' := 13) (L' := [some (vR (some a))]) (st' := [vI 0]) (h' := h) f103_12 rfl ?_
    exact y_ri f103_13 ⟨rfl, k⟩
  · replace k := k.2 c
    refine y_s (pc' := 9) (L' := [some (vR (some a))]) (st' := [vI 1]) (h' := h) f103_8 rfl ?_
    refine y_go (pc' := 13) f103_9 rfl ?_
    exact y_ri f103_13 ⟨rfl, k⟩
/-- HatterTunes$Actor.forget()V -/
theorem E108 {d : Nat} {K : Hp → Prop} (w : yWF zl nl h) (k : K (zsetV h 86 1 0)) : yU d 108 [vR (some 86)] h K := by
  refine y_en (L := [some (vR (some 86))]) rfl rfl ?_
  refine y_s (pc' := 1) (L' := [some (vR (some 86))]) (st' := [vR (some 86)]) (h' := h) f108_0 rfl ?_
  refine y_s (pc' := 2) (L' := [some (vR (some 86))]) (st' := [vI 0, vR (some 86)]) (h' := h) f108_1 rfl ?_
  refine y_pi (pc' := 5) f108_2 yf_0_15 rfl rfl (ys86 w) (by decide) (Or.inl rfl) rfl ?_
  exact y_ru f108_5 ⟨rfl, k⟩
/-- HatterTunes$Tape.hasStretch(II)Z -/
theorem E126 {d : Nat} {K : Int → Hp → Prop} (w : yWF zl nl h) {a : Nat} (ha : yTp a) {x0 : Int} {x1 : Int} (k : ((x0 < 0 → K 0 h) ∧ (¬ (x0 < 0) → ((x1 < 0 → K 0 h) ∧ (¬ (x1 < 0) → (((zV h a 2) < x1 → K 0 h) ∧ (¬ ((zV h a 2) < x1) → (((zw ((zV h a 2) - x1)) < x0 → K 0 h) ∧ (¬ ((zw ((zV h a 2) - x1)) < x0) → K 1 h))))))))) : yI d 126 [vR (some a), vI x0, vI x1] h K := by
  refine y_en (L := [some (vR (some a)), some (vI x0), some (vI x1)]) rfl rfl ?_
  refine y_s (pc' := 1) (L' := [some (vR (some a)), some (vI x0), some (vI x1)]) (st' := [vI x0]) (h' := h) f126_0 rfl ?_
  refine y_if (pcT := 30) (pc' := 4) (P := x0 < 0) f126_1 rfl rfl rfl (fun c => ?_) (fun c => ?_)
  · replace k := k.1 c
    refine y_s (pc' := 31) (L' := [some (vR (some a)), some (vI x0), some (vI x1)]) (st' := [vI 0]) (h' := h) f126_30 rfl ?_
    exact y_ri f126_31 ⟨rfl, k⟩
  · replace k := k.2 c
    refine y_s (pc' := 5) (L' := [some (vR (some a)), some (vI x0), some (vI x1)]) (st' := [vI x1]) (h' := h) f126_4 rfl ?_
    refine y_if (pcT := 30) (pc' := 8) (P := x1 < 0) f126_5 rfl rfl rfl (fun c => ?_) (fun c => ?_)
    · replace k := k.1 c
      refine y_s (pc' := 31) (L' := [some (vR (some a)), some (vI x0), some (vI x1)]) (st' := [vI 0]) (h' := h) f126_30 rfl ?_
      exact y_ri f126_31 ⟨rfl, k⟩
    · replace k := k.2 c
      refine y_s (pc' := 9) (L' := [some (vR (some a)), some (vI x0), some (vI x1)]) (st' := [vI x1]) (h' := h) f126_8 rfl ?_
      refine y_s (pc' := 10) (L' := [some (vR (some a)), some (vI x0), some (vI x1)]) (st' := [vR (some a), vI x1]) (h' := h) f126_9 rfl ?_
      refine y_gi (pc' := 13) f126_10 yf_5_19 rfl rfl (ysT0 w ha) rfl ?_
      refine y_ic (pcT := 30) (pc' := 16) (P := (zV h a 2) < x1) f126_13 rfl rfl rfl (fun c => ?_) (fun c => ?_)
      · replace k := k.1 c
        refine y_s (pc' := 31) (L' := [some (vR (some a)), some (vI x0), some (vI x1)]) (st' := [vI 0]) (h' := h) f126_30 rfl ?_
        exact y_ri f126_31 ⟨rfl, k⟩
      · replace k := k.2 c
        refine y_s (pc' := 17) (L' := [some (vR (some a)), some (vI x0), some (vI x1)]) (st' := [vI x0]) (h' := h) f126_16 rfl ?_
        refine y_s (pc' := 18) (L' := [some (vR (some a)), some (vI x0), some (vI x1)]) (st' := [vR (some a), vI x0]) (h' := h) f126_17 rfl ?_
        refine y_gi (pc' := 21) f126_18 yf_5_19 rfl rfl (ysT0 w ha) rfl ?_
        refine y_s (pc' := 22) (L' := [some (vR (some a)), some (vI x0), some (vI x1)]) (st' := [vI x1, vI (zV h a 2), vI x0]) (h' := h) f126_21 rfl ?_
        refine y_s (pc' := 23) (L' := [some (vR (some a)), some (vI x0), some (vI x1)]) (st' := [vI (zw ((zV h a 2) - x1)), vI x0]) (h' := h) f126_22 rfl ?_
        refine y_ic (pcT := 30) (pc' := 26) (P := (zw ((zV h a 2) - x1)) < x0) f126_23 rfl rfl rfl (fun c => ?_) (fun c => ?_)
        · replace k := k.1 c
          refine y_s (pc' := 31) (L' := [some (vR (some a)), some (vI x0), some (vI x1)]) (st' := [vI 0]) (h' := h) f126_30 rfl ?_
          exact y_ri f126_31 ⟨rfl, k⟩
        · replace k := k.2 c
          refine y_s (pc' := 27) (L' := [some (vR (some a)), some (vI x0), some (vI x1)]) (st' := [vI 1]) (h' := h) f126_26 rfl ?_
          refine y_go (pc' := 31) f126_27 rfl ?_
          exact y_ri f126_31 ⟨rfl, k⟩
/-- HatterTunesModel.within(III)Z -/
theorem E129 {d : Nat} {K : Int → Hp → Prop} (w : yWF zl nl h) {x0 : Int} {x1 : Int} {x2 : Int} (k : ((x0 < x1 → K 0 h) ∧ (¬ (x0 < x1) → ((x2 < x0 → K 0 h) ∧ (¬ (x2 < x0) → K 1 h))))) : yI d 129 [vI x0, vI x1, vI x2] h K := by
  refine y_en (L := [some (vI x0), some (vI x1), some (vI x2)]) rfl rfl ?_
  refine y_s (pc' := 1) (L' := [some (vI x0), some (vI x1), some (vI x2)]) (st' := [vI x0]) (h' := h) f129_0 rfl ?_
  refine y_s (pc' := 2) (L' := [some (vI x0), some (vI x1), some (vI x2)]) (st' := [vI x1, vI x0]) (h' := h) f129_1 rfl ?_
  refine y_ic (pcT := 14) (pc' := 5) (P := x0 < x1) f129_2 rfl rfl rfl (fun c => ?_) (fun c => ?_)
  · replace k := k.1 c
    refine y_s (pc' := 15) (L' := [some (vI x0), some (vI x1), some (vI x2)]) (st' := [vI 0]) (h' := h) f129_14 rfl ?_
    exact y_ri f129_15 ⟨rfl, k⟩
  · replace k := k.2 c
    refine y_s (pc' := 6) (L' := [some (vI x0), some (vI x1), some (vI x2)]) (st' := [vI x0]) (h' := h) f129_5 rfl ?_
    refine y_s (pc' := 7) (L' := [some (vI x0), some (vI x1), some (vI x2)]) (st' := [vI x2, vI x0]) (h' := h) f129_6 rfl ?_
    refine y_ic (pcT := 14) (pc' := 10) (P := x2 < x0) f129_7 rfl rfl rfl (fun c => ?_) (fun c => ?_)
    · replace k := k.1 c
      refine y_s (pc' := 15) (L' := [some (vI x0), some (vI x1), some (vI x2)]) (st' := [vI 0]) (h' := h) f129_14 rfl ?_
      exact y_ri f129_15 ⟨rfl, k⟩
    · replace k := k.2 c
      refine y_s (pc' := 11) (L' := [some (vI x0), some (vI x1), some (vI x2)]) (st' := [vI 1]) (h' := h) f129_10 rfl ?_
      refine y_go (pc' := 15) f129_11 rfl ?_
      exact y_ri f129_15 ⟨rfl, k⟩
/-- HatterTunes.commonDivisor(II)I -/
theorem E94 {d : Nat} {K : Int → Hp → Prop} (w : yWF zl nl h) {x0 : Int} {x1 : Int} (k : ZW d prog_1_method_26_code 7 7 [some (vI x0), some (vI x1), some (vI x0), some (vI x1), some (vI 0), none] [] h (yq 1 (yqI K))) : yI d 94 [vI x0, vI x1] h K := by
  refine y_en (L := [some (vI x0), some (vI x1), none, none, none, none]) rfl rfl ?_
  refine y_s (pc' := 1) (L' := [some (vI x0), some (vI x1), none, none, none, none]) (st' := [vI x0]) (h' := h) f94_0 rfl ?_
  refine y_sto (pc' := 2) (k := 2) (L' := [some (vI x0), some (vI x1), some (vI x0), none, none, none]) f94_1 rfl rfl rfl rfl rfl rfl ?_
  refine y_s (pc' := 3) (L' := [some (vI x0), some (vI x1), some (vI x0), none, none, none]) (st' := [vI x1]) (h' := h) f94_2 rfl ?_
  refine y_sto (pc' := 4) (k := 3) (L' := [some (vI x0), some (vI x1), some (vI x0), some (vI x1), none, none]) f94_3 rfl rfl rfl rfl rfl rfl ?_
  refine y_s (pc' := 5) (L' := [some (vI x0), some (vI x1), some (vI x0), some (vI x1), none, none]) (st' := [vI 0]) (h' := h) f94_4 rfl ?_
  refine y_sto (pc' := 7) (k := 4) (L' := [some (vI x0), some (vI x1), some (vI x0), some (vI x1), some (vI 0), none]) f94_5 rfl rfl rfl rfl rfl rfl ?_
  exact k
theorem W94_7 {d : Nat} {K : Int → Hp → Prop} (w : yWF zl nl h) {l0 : Int} {l1 : Int} {l2 : Int} {l3 : Int} {l4 : Int} {l5 : Option Int} (k : ((64 ≤ l4 → K l2 h) ∧ (¬ (64 ≤ l4) → ((l3 = 0 → K l2 h) ∧ (¬ (l3 = 0) → (l3 ≠ 0 ∧ ZW d prog_1_method_26_code 7 7 [some (vI l0), some (vI l1), some (vI l3), some (vI (zrem l2 l3)), some (vI (zw (l4 + 1))), some (vI (zrem l2 l3))] [] h (yq 1 (yqI K)))))))) : ZW d prog_1_method_26_code 7 7 [some (vI l0), some (vI l1), some (vI l2), some (vI l3), some (vI l4), yo l5] [] h (yq 1 (yqI K)) := by
  refine y_s (pc' := 9) (L' := [some (vI l0), some (vI l1), some (vI l2), some (vI l3), some (vI l4), yo l5]) (st' := [vI l4]) (h' := h) f94_7 rfl ?_
  refine y_s (pc' := 11) (L' := [some (vI l0), some (vI l1), some (vI l2), some (vI l3), some (vI l4), yo l5]) (st' := [vI 64, vI l4]) (h' := h) f94_9 rfl ?_
  refine y_ic (pcT := 34) (pc' := 14) (P := 64 ≤ l4) f94_11 rfl rfl rfl (fun c => ?_) (fun c => ?_)
  · replace k := k.1 c
    refine y_s (pc' := 35) (L' := [some (vI l0), some (vI l1), some (vI l2), some (vI l3), some (vI l4), yo l5]) (st' := [vI l2]) (h' := h) f94_34 rfl ?_
    exact y_ri f94_35 ⟨rfl, k⟩
  · replace k := k.2 c
    refine y_s (pc' := 15) (L' := [some (vI l0), some (vI l1), some (vI l2), some (vI l3), some (vI l4), yo l5]) (st' := [vI l3]) (h' := h) f94_14 rfl ?_
    refine y_if (pcT := 34) (pc' := 18) (P := l3 = 0) f94_15 rfl rfl rfl (fun c => ?_) (fun c => ?_)
    · replace k := k.1 c
      refine y_s (pc' := 35) (L' := [some (vI l0), some (vI l1), some (vI l2), some (vI l3), some (vI l4), yo l5]) (st' := [vI l2]) (h' := h) f94_34 rfl ?_
      exact y_ri f94_35 ⟨rfl, k⟩
    · replace k := k.2 c
      refine y_s (pc' := 19) (L' := [some (vI l0), some (vI l1), some (vI l2), some (vI l3), some (vI l4), yo l5]) (st' := [vI l2]) (h' := h) f94_18 rfl ?_
      refine y_s (pc' := 20) (L' := [some (vI l0), some (vI l1), some (vI l2), some (vI l3), some (vI l4), yo l5]) (st' := [vI l3, vI l2]) (h' := h) f94_19 rfl ?_
      refine y_rm (pc' := 21) f94_20 k.1 rfl ?_
      replace k := k.2
      refine y_sto (pc' := 23) (k := 5) (L' := [some (vI l0), some (vI l1), some (vI l2), some (vI l3), some (vI l4), some (vI (zrem l2 l3))]) f94_21 rfl rfl rfl rfl rfl rfl ?_
      refine y_s (pc' := 24) (L' := [some (vI l0), some (vI l1), some (vI l2), some (vI l3), some (vI l4), some (vI (zrem l2 l3))]) (st' := [vI l3]) (h' := h) f94_23 rfl ?_
      refine y_sto (pc' := 25) (k := 2) (L' := [some (vI l0), some (vI l1), some (vI l3), some (vI l3), some (vI l4), some (vI (zrem l2 l3))]) f94_24 rfl rfl rfl rfl rfl rfl ?_
      refine y_s (pc' := 27) (L' := [some (vI l0), some (vI l1), some (vI l3), some (vI l3), some (vI l4), some (vI (zrem l2 l3))]) (st' := [vI (zrem l2 l3)]) (h' := h) f94_25 rfl ?_
      refine y_sto (pc' := 28) (k := 3) (L' := [some (vI l0), some (vI l1), some (vI l3), some (vI (zrem l2 l3)), some (vI l4), some (vI (zrem l2 l3))]) f94_27 rfl rfl rfl rfl rfl rfl ?_
      refine y_inc (pc' := 31) (L' := [some (vI l0), some (vI l1), some (vI l3), some (vI (zrem l2 l3)), some (vI (zw (l4 + 1))), some (vI (zrem l2 l3))]) f94_28 rfl rfl rfl rfl ?_
      refine y_go (pc' := 7) f94_31 rfl ?_
      exact k
/-- HatterTunes.sharedNotes(II)I -/
theorem E82 {d : Nat} {K : Int → Hp → Prop} (w : yWF zl nl h) {x0 : Int} {x1 : Int} (k : ZW d prog_1_method_19_code 7 3 [some (vI x0), some (vI x1), some (vI 6)] [] h (yq 1 (yqI K))) : yI d 82 [vI x0, vI x1] h K := by
  refine y_en (L := [some (vI x0), some (vI x1), none]) rfl rfl ?_
  refine y_s (pc' := 2) (L' := [some (vI x0), some (vI x1), none]) (st' := [vI 6]) (h' := h) f82_0 rfl ?_
  refine y_sto (pc' := 3) (k := 2) (L' := [some (vI x0), some (vI x1), some (vI 6)]) f82_2 rfl rfl rfl rfl rfl rfl ?_
  exact k
theorem W82_3 {d : Nat} {K : Int → Hp → Prop} (w : yWF zl nl h) {l0 : Int} {l1 : Int} {l2 : Int} (k : ((l2 ≤ 0 → K 0 h) ∧ (¬ (l2 ≤ 0) → ((0 ≤ l2 ∧ l2 < 7) ∧ ((zV h 1 (l2).toNat) ≠ 0 ∧ ((0 ≤ (zw (6 - l2)) ∧ (zw (6 - l2)) < 7) ∧ ((zV h 1 ((zw (6 - l2))).toNat) ≠ 0 ∧ (((zrem l0 (zV h 1 (l2).toNat)) ≠ (zdiv l1 (zV h 1 ((zw (6 - l2))).toNat)) → ZW d prog_1_method_19_code 7 3 [some (vI l0), some (vI l1), some (vI (zw (l2 + (-1))))] [] h (yq 1 (yqI K))) ∧ (¬ ((zrem l0 (zV h 1 (l2).toNat)) ≠ (zdiv l1 (zV h 1 ((zw (6 - l2))).toNat))) → K l2 h))))))))) : ZW d prog_1_method_19_code 7 3 [some (vI l0), some (vI l1), some (vI l2)] [] h (yq 1 (yqI K)) := by
  refine y_s (pc' := 4) (L' := [some (vI l0), some (vI l1), some (vI l2)]) (st' := [vI l2]) (h' := h) f82_3 rfl ?_
  refine y_if (pcT := 35) (pc' := 7) (P := l2 ≤ 0) f82_4 rfl rfl rfl (fun c => ?_) (fun c => ?_)
  · replace k := k.1 c
    refine y_s (pc' := 36) (L' := [some (vI l0), some (vI l1), some (vI l2)]) (st' := [vI 0]) (h' := h) f82_35 rfl ?_
    exact y_ri f82_36 ⟨rfl, k⟩
  · replace k := k.2 c
    refine y_s (pc' := 8) (L' := [some (vI l0), some (vI l1), some (vI l2)]) (st' := [vI l0]) (h' := h) f82_7 rfl ?_
    refine y_s (pc' := 11) (L' := [some (vI l0), some (vI l1), some (vI l2)]) (st' := [vR (some 1), vI l0]) (h' := h) f82_8 rfl ?_
    refine y_s (pc' := 12) (L' := [some (vI l0), some (vI l1), some (vI l2)]) (st' := [vI l2, vR (some 1), vI l0]) (h' := h) f82_11 rfl ?_
    refine y_ia (pc' := 13) (x := (zV h 1 (l2).toNat)) f82_12 (ysb1 w) k.1 rfl rfl ?_
    replace k := k.2
    refine y_rm (pc' := 14) f82_13 k.1 rfl ?_
    replace k := k.2
    refine y_s (pc' := 15) (L' := [some (vI l0), some (vI l1), some (vI l2)]) (st' := [vI l1, vI (zrem l0 (zV h 1 (l2).toNat))]) (h' := h) f82_14 rfl ?_
    refine y_s (pc' := 18) (L' := [some (vI l0), some (vI l1), some (vI l2)]) (st' := [vR (some 1), vI l1, vI (zrem l0 (zV h 1 (l2).toNat))]) (h' := h) f82_15 rfl ?_
    refine y_s (pc' := 20) (L' := [some (vI l0), some (vI l1), some (vI l2)]) (st' := [vI 6, vR (some 1), vI l1, vI (zrem l0 (zV h 1 (l2).toNat))]) (h' := h) f82_18 rfl ?_
    refine y_s (pc' := 21) (L' := [some (vI l0), some (vI l1), some (vI l2)]) (st' := [vI l2, vI 6, vR (some 1), vI l1, vI (zrem l0 (zV h 1 (l2).toNat))]) (h' := h) f82_20 rfl ?_
    refine y_s (pc' := 22) (L' := [some (vI l0), some (vI l1), some (vI l2)]) (st' := [vI (zw (6 - l2)), vR (some 1), vI l1, vI (zrem l0 (zV h 1 (l2).toNat))]) (h' := h) f82_21 rfl ?_
    refine y_ia (pc' := 23) (x := (zV h 1 ((zw (6 - l2))).toNat)) f82_22 (ysb1 w) k.1 rfl rfl ?_
    replace k := k.2
    refine y_dv (pc' := 24) f82_23 k.1 rfl ?_
    replace k := k.2
    refine y_ic (pcT := 29) (pc' := 27) (P := (zrem l0 (zV h 1 (l2).toNat)) ≠ (zdiv l1 (zV h 1 ((zw (6 - l2))).toNat))) f82_24 rfl rfl rfl (fun c => ?_) (fun c => ?_)
    · replace k := k.1 c
      refine y_inc (pc' := 32) (L' := [some (vI l0), some (vI l1), some (vI (zw (l2 + (-1))))]) f82_29 rfl rfl rfl rfl ?_
      refine y_go (pc' := 3) f82_32 rfl ?_
      exact k
    · replace k := k.2 c
      refine y_s (pc' := 28) (L' := [some (vI l0), some (vI l1), some (vI l2)]) (st' := [vI l2]) (h' := h) f82_27 rfl ?_
      exact y_ri f82_28 ⟨rfl, k⟩
/-- HatterTunes$House.setAllBumps(II)V -/
theorem E12 {d : Nat} {K : Hp → Prop} (w : yWF zl nl h) {a : Nat} (ha : yHs a) {x0 : Int} {x1 : Int} (k : ZW d prog_4_method_6_code 2 2 [some (vR (some a)), some (vI x0), some (vI x1), some (vI 0)] [] h (yq 0 (yqU K))) : yU d 12 [vR (some a), vI x0, vI x1] h K := by
  refine y_en (L := [some (vR (some a)), some (vI x0), some (vI x1), none]) rfl rfl ?_
  refine y_s (pc' := 1) (L' := [some (vR (some a)), some (vI x0), some (vI x1), none]) (st' := [vI 0]) (h' := h) f12_0 rfl ?_
  refine y_sto (pc' := 2) (k := 3) (L' := [some (vR (some a)), some (vI x0), some (vI x1), some (vI 0)]) f12_1 rfl rfl rfl rfl rfl rfl ?_
  exact k
theorem W12_2 {d : Nat} {K : Hp → Prop} (w : yWF zl nl h) {a : Nat} (ha : yHs a) {l1 : Int} {l2 : Int} {l3 : Int} (hd : 1 ≤ d) (k : ((6 ≤ l3 → K h) ∧ (¬ (6 ≤ l3) → yU (d - 1) 13 [vR (some a), vI l1, vI l3, vI l2] h (fun h' => ZW d prog_4_method_6_code 2 15 [some (vR (some a)), some (vI l1), some (vI l2), some (vI l3)] [] h' (yq 0 (yqU K)))))) : ZW d prog_4_method_6_code 2 2 [some (vR (some a)), some (vI l1), some (vI l2), some (vI l3)] [] h (yq 0 (yqU K)) := by
  refine y_s (pc' := 3) (L' := [some (vR (some a)), some (vI l1), some (vI l2), some (vI l3)]) (st' := [vI l3]) (h' := h) f12_2 rfl ?_
  refine y_s (pc' := 5) (L' := [some (vR (some a)), some (vI l1), some (vI l2), some (vI l3)]) (st' := [vI 6, vI l3]) (h' := h) f12_3 rfl ?_
  refine y_ic (pcT := 21) (pc' := 8) (P := 6 ≤ l3) f12_5 rfl rfl rfl (fun c => ?_) (fun c => ?_)
  · replace k := k.1 c
    exact y_ru f12_21 ⟨rfl, k⟩
  · replace k := k.2 c
    refine y_s (pc' := 9) (L' := [some (vR (some a)), some (vI l1), some (vI l2), some (vI l3)]) (st' := [vR (some a)]) (h' := h) f12_8 rfl ?_
    refine y_s (pc' := 10) (L' := [some (vR (some a)), some (vI l1), some (vI l2), some (vI l3)]) (st' := [vI l1, vR (some a)]) (h' := h) f12_9 rfl ?_
    refine y_s (pc' := 11) (L' := [some (vR (some a)), some (vI l1), some (vI l2), some (vI l3)]) (st' := [vI l3, vI l1, vR (some a)]) (h' := h) f12_10 rfl ?_
    refine y_s (pc' := 12) (L' := [some (vR (some a)), some (vI l1), some (vI l2), some (vI l3)]) (st' := [vI l2, vI l3, vI l1, vR (some a)]) (h' := h) f12_11 rfl ?_
    refine y_cU (pc' := 15) (as := [vR (some a), vI l1, vI l3, vI l2]) (r := []) f12_12 (yzv ym_2_73 rfl (ysH0 w ha) rfl rfl) hd rfl ?_
    exact k
theorem W12_15 {d : Nat} {K : Hp → Prop} (w : yWF zl nl h) {a : Nat} (ha : yHs a) {l1 : Int} {l2 : Int} {l3 : Int} (k : ZW d prog_4_method_6_code 2 2 [some (vR (some a)), some (vI l1), some (vI l2), some (vI (zw (l3 + 1)))] [] h (yq 0 (yqU K))) : ZW d prog_4_method_6_code 2 15 [some (vR (some a)), some (vI l1), some (vI l2), some (vI l3)] [] h (yq 0 (yqU K)) := by
  refine y_inc (pc' := 18) (L' := [some (vR (some a)), some (vI l1), some (vI l2), some (vI (zw (l3 + 1)))]) f12_15 rfl rfl rfl rfl ?_
  refine y_go (pc' := 2) f12_18 rfl ?_
  exact k
end YD
end
section
/-! WHAT THE SMALL METHODS DO -/
theorem zwi {x : Int} (h : -2147483648 ≤ x ∧ x < 2147483648) : zw x = x := by unfold zw; omega
theorem zV_V (h : Hp) (a k : Nat) (x : Int) (b j : Nat) : zV (zsetV h a k x) b j = if b = a ∧ j = k then x else zV h b j := rfl
theorem zV_J (h : Hp) (a k : Nat) (x : Int64) (b j : Nat) : zV (zsetJ h a k x) b j = zV h b j := rfl
theorem zV_P (h : Hp) (a k : Nat) (x : Option Nat) (b j : Nat) : zV (zsetP h a k x) b j = zV h b j := rfl
theorem zV_c (h : Hp) (a sp b dp n c k : Nat) : zV (zcpV h a sp b dp n) c k = if c = b ∧ dp ≤ k ∧ k < dp + n then zV h a (sp + (k - dp)) else zV h c k := rfl
def ypeek (h : Hp) : Int := if 0 ≤ zV h 82 2 ∧ zV h 82 2 < zV h 82 1 then zV h 83 (zV h 82 2).toNat else -1
def ylet (x : Int) : Int := if x = 112 then 0 else if x = 107 then 1 else if x = 118 then 2 else if x = 105 then 3 else if x = 98 then 4 else if x = 121 then 5 else -1
def yrel (x : Int) : Int := if x = 60 then 1 else if x = 61 then 2 else if x = 62 then 3 else -1
section YSA
variable {zl : Nat} {nl : Option Nat} {h : Hp} {d : Nat} {K : Int → Hp → Prop} {U : Hp → Prop} {a n : Nat} {x y z : Int}
theorem sp10 (w : yWF zl nl h) (k1 : (0 ≤ x ∧ x < y) → K 1 h) (k0 : ¬ (0 ≤ x ∧ x < y) → K 0 h) : yI d 10 [vI x, vI y] h K :=
  E10 w ⟨fun c => k0 (by omega), fun c => ⟨fun c => k0 (by omega), fun c => k1 (by omega)⟩⟩
theorem sp129 (w : yWF zl nl h) (k1 : (y ≤ x ∧ x ≤ z) → K 1 h) (k0 : ¬ (y ≤ x ∧ x ≤ z) → K 0 h) : yI d 129 [vI x, vI y, vI z] h K :=
  E129 w ⟨fun c => k0 (by omega), fun c => ⟨fun c => k0 (by omega), fun c => k1 (by omega)⟩⟩
theorem sp26 (w : yWF zl nl h) (ha : yRs a n) (p : 0 ≤ x ∧ 0 ≤ y ∧ 4 * x + y < (n : Int)) (k : K (zV h (a + 1) (4 * x + y).toNat) h) : yI d 26 [vR (some a), vI x, vI y] h K := by
  have := yR_n ha
  refine E26 w ha ?_
  rw [zwi (x := x * 4) (by omega), zwi (x := x * 4 + y) (by omega), Int.mul_comm x 4]
  exact ⟨by omega, k⟩
theorem sp20 (w : yWF zl nl h) (ha : yHs a) (p : 0 ≤ x ∧ x < 6 ∧ 0 ≤ y ∧ y < 6) (k : K (zV h (a + 4) (6 * x + y).toNat) h) : yI d 20 [vR (some a), vI x, vI y] h K := by
  refine E20 w ha ?_
  rw [zwi (x := x * 6) (by omega), zwi (x := x * 6 + y) (by omega), Int.mul_comm x 6]
  exact ⟨by omega, k⟩
theorem sp13 (w : yWF zl nl h) (ha : yHs a) (p : 0 ≤ x ∧ x < 6 ∧ 0 ≤ y ∧ y < 6) (k : U (zsetV h (a + 4) (6 * x + y).toNat z)) : yU d 13 [vR (some a), vI x, vI y, vI z] h U := by
  refine E13 w ha ?_
  rw [zwi (x := x * 6) (by omega), zwi (x := x * 6 + y) (by omega), Int.mul_comm x 6]
  exact ⟨by omega, k⟩
theorem sp39 (w : yWF zl nl h) (ha : yRs a n) (k : K 0 (zsetV h a 1 0)) : yI d 39 [vR (some a)] h K := E39 w ha k
theorem sp40 (w : yWF zl nl h) (ha : yRs a n) (p : 0 ≤ zV h a 1 ∧ zV h a 1 ≤ 10) (k1 : (n : Int) ≤ 4 * zV h a 1 → K 1 h) (k0 : ¬ ((n : Int) ≤ 4 * zV h a 1) → K 0 h) : yI d 40 [vR (some a)] h K := by
  refine E40 w ha ?_
  rw [zwi (by omega)]
  exact ⟨fun c => k0 (by omega), fun c => k1 (by omega)⟩
theorem sp44 (w : yWF zl nl h) (k1 : 100 ≤ zV h 82 1 → K 1 h) (k0 : ¬ (100 ≤ zV h 82 1) → K 0 h) : yI d 44 [vR (some 82)] h K :=
  E44 w ⟨fun c => k0 (by omega), fun c => k1 (by omega)⟩
theorem sp45 (w : yWF zl nl h) (p : 0 ≤ zV h 82 1 ∧ zV h 82 1 < 100) (k : K (zV h 82 1 + 1) (zsetV (zsetV h 83 (zV h 82 1).toNat x) 82 1 (zV h 82 1 + 1))) : yI d 45 [vR (some 82), vI x] h K := by
  refine E45 w ⟨p, ?_⟩
  rintro _ rfl
  simp only [zV_V]
  simp only [show ¬ (82 = 83 ∧ 1 = (zV h 82 1).toNat) from fun q => by omega, if_false, and_self, if_true]
  rw [zwi (by omega)]
  exact k
theorem sp48 (w : yWF zl nl h) (ha : ySh a) (k : U (zsetV (zsetV h a 3 0) a 4 0)) : yU d 48 [vR (some a)] h U := E48 w ha (fun _ e => e ▸ k)
theorem sp50 (w : yWF zl nl h) (p : zV h 82 1 ≤ 100) (k : K (ypeek h) h) : yI d 50 [vR (some 82)] h K := by
  unfold ypeek at k
  exact E50 w ⟨fun c => by rw [if_neg (by omega)] at k; exact k, fun c => ⟨fun c => by rw [if_neg (by omega)] at k; exact k, fun c => ⟨by omega, by rw [if_pos (by omega)] at k; exact k⟩⟩⟩
theorem sp66 (w : yWF zl nl h) (k1 : (48 ≤ x ∧ x ≤ 57) → K 1 h) (k0 : ¬ (48 ≤ x ∧ x ≤ 57) → K 0 h) : yI d 66 [vI x] h K :=
  E66 w ⟨fun c => k0 (by omega), fun c => ⟨fun c => k0 (by omega), fun c => k1 (by omega)⟩⟩
theorem sp72 (w : yWF zl nl h) (k : K (ylet x) h) : yI d 72 [vI x] h K := by
  refine E72 w ⟨?_, ?_, ?_, ?_, ?_, ?_, ?_⟩
  all_goals intro c
  all_goals unfold ylet at k
  all_goals simp [c] at k
  all_goals exact k
theorem sp73 (w : yWF zl nl h) (k : K (yrel x) h) : yI d 73 [vI x] h K := by
  refine E73 w ⟨?_, ?_, ?_, ?_⟩
  all_goals intro c
  all_goals unfold yrel at k
  · simp [c] at k; exact k
  · simp [c] at k; exact k
  · simp [c] at k; exact k
  · rw [if_neg (by omega), if_neg (by omega), if_neg (by omega)] at k; exact k
theorem sp103 (w : yWF zl nl h) (ha : yTp a) (k1 : zV h a 1 ≠ -1 → K 1 h) (k0 : ¬ (zV h a 1 ≠ -1) → K 0 h) : yI d 103 [vR (some a)] h K :=
  E103 w ha ⟨fun c => k0 (by omega), fun c => k1 c⟩
theorem sp126 (w : yWF zl nl h) (ha : yTp a) (p : 0 ≤ zV h a 2 ∧ zV h a 2 ≤ 60) (k1 : (0 ≤ x ∧ 0 ≤ y ∧ x + y ≤ zV h a 2) → K 1 h) (k0 : ¬ (0 ≤ x ∧ 0 ≤ y ∧ x + y ≤ zV h a 2) → K 0 h) : yI d 126 [vR (some a), vI x, vI y] h K := by
  refine E126 w ha ⟨fun c => k0 (by omega), fun c => ⟨fun c => k0 (by omega), fun c => ⟨fun c => k0 (by omega), fun c => ?_⟩⟩⟩
  rw [zwi (by omega)]
  exact ⟨fun c => k0 (by omega), fun c => k1 (by omega)⟩
end YSA
end
section
/-! SEGMENTS B (printed by wip/whole/gen_dec.py) -/
theorem yf_0_9 : zfld 0 9 = some (0, 0) := rfl
theorem yf_2_9 : zfld 2 9 = some (2, 0) := rfl
theorem yf_2_15 : zfld 2 15 = some (2, 1) := rfl
theorem yf_2_18 : zfld 2 18 = some (2, 2) := rfl
theorem yf_2_24 : zfld 2 24 = some (2, 4) := rfl
theorem yf_2_27 : zfld 2 27 = some (2, 5) := rfl
theorem yf_2_35 : zfld 2 35 = some (2, 6) := rfl
theorem yf_2_48 : zfld 2 48 = some (2, 12) := rfl
theorem yf_2_66 : zfld 2 66 = some (2, 11) := rfl
theorem yf_2_113 : zfld 2 113 = some (3, 1) := rfl
theorem yf_5_9 : zfld 5 9 = some (5, 0) := rfl
theorem yf_6_62 : zfld 6 62 = some (6, 3) := rfl
theorem yf_7_23 : zfld 7 23 = some (7, 1) := rfl
theorem yf_7_69 : zfld 7 69 = some (2, 10) := rfl
theorem yf_8_9 : zfld 8 9 = some (8, 1) := rfl
theorem yf_8_15 : zfld 8 15 = some (8, 2) := rfl
theorem yf_8_18 : zfld 8 18 = some (8, 3) := rfl
theorem yf_8_30 : zfld 8 30 = some (8, 10) := rfl
theorem yf_8_48 : zfld 8 48 = some (8, 22) := rfl
theorem yf_8_79 : zfld 8 79 = some (8, 37) := rfl
theorem yf_8_114 : zfld 8 114 = some (8, 0) := rfl
theorem yf_8_157 : zfld 8 157 = some (8, 9) := rfl
theorem yf_8_160 : zfld 8 160 = some (8, 11) := rfl
theorem yf_8_163 : zfld 8 163 = some (8, 12) := rfl
theorem yf_8_166 : zfld 8 166 = some (8, 13) := rfl
theorem yf_8_185 : zfld 8 185 = some (8, 23) := rfl
theorem yf_8_235 : zfld 8 235 = some (8, 8) := rfl
theorem yf_8_317 : zfld 8 317 = some (8, 36) := rfl
theorem ym_0_19 : zmth 0 19 = some (11, 22) := rfl
theorem ym_0_48 : zmth 0 48 = some (5, 10) := rfl
theorem ym_2_77 : zmth 2 77 = some (0, 20) := rfl
theorem ym_2_92 : zmth 2 92 = some (11, 22) := rfl
theorem ym_2_97 : zmth 2 97 = some (0, 19) := rfl
theorem ym_2_100 : zmth 2 100 = some (0, 21) := rfl
theorem ym_2_104 : zmth 2 104 = some (0, 18) := rfl
theorem ym_2_107 : zmth 2 107 = some (14, 23) := rfl
theorem ym_2_110 : zmth 2 110 = some (0, 17) := rfl
theorem ym_2_125 : zmth 2 125 = some (0, 26) := rfl
theorem ym_5_22 : zmth 5 22 = some (5, 10) := rfl
theorem ym_5_26 : zmth 5 26 = some (0, 123) := rfl
theorem ym_6_39 : zmth 6 39 = some (0, 50) := rfl
theorem ym_6_91 : zmth 6 91 = some (2, 66) := rfl
theorem ym_7_65 : zmth 7 65 = some (2, 10) := rfl
theorem ym_8_117 : zmth 8 117 = some (2, 129) := rfl
theorem ym_8_128 : zmth 8 128 = some (0, 133) := rfl
theorem ym_8_132 : zmth 8 132 = some (0, 134) := rfl
theorem ym_8_169 : zmth 8 169 = some (0, 160) := rfl
theorem ym_8_295 : zmth 8 295 = some (13, 195) := rfl
theorem f15_0 : decode prog_1_method_42_code 0 = .ok (.iload_n 1, 1) := by decide +kernel
theorem f15_1 : decode prog_1_method_42_code 1 = .ok (.aload_n 0, 1) := by decide +kernel
theorem f15_2 : decode prog_1_method_42_code 2 = .ok (.getfield 23, 3) := by decide +kernel
theorem f15_5 : decode prog_1_method_42_code 5 = .ok (.getfield 69, 3) := by decide +kernel
theorem f15_8 : decode prog_1_method_42_code 8 = .ok (.invokestatic 65, 3) := by decide +kernel
theorem f15_11 : decode prog_1_method_42_code 11 = .ok (.ireturn, 1) := by decide +kernel
theorem f16_0 : decode prog_4_method_14_code 0 = .ok (.iconst 0, 1) := by decide +kernel
theorem f16_1 : decode prog_4_method_14_code 1 = .ok (.istore_n 2, 1) := by decide +kernel
theorem f16_2 : decode prog_4_method_14_code 2 = .ok (.iconst 0, 1) := by decide +kernel
theorem f16_3 : decode prog_4_method_14_code 3 = .ok (.istore_n 3, 1) := by decide +kernel
theorem f16_4 : decode prog_4_method_14_code 4 = .ok (.iload_n 3, 1) := by decide +kernel
theorem f16_5 : decode prog_4_method_14_code 5 = .ok (.bipush 6, 2) := by decide +kernel
theorem f16_7 : decode prog_4_method_14_code 7 = .ok (.if_icmp .ge 21, 3) := by decide +kernel
theorem f16_10 : decode prog_4_method_14_code 10 = .ok (.iload_n 2, 1) := by decide +kernel
theorem f16_11 : decode prog_4_method_14_code 11 = .ok (.bipush 10, 2) := by decide +kernel
theorem f16_13 : decode prog_4_method_14_code 13 = .ok (.imul, 1) := by decide +kernel
theorem f16_14 : decode prog_4_method_14_code 14 = .ok (.aload_n 0, 1) := by decide +kernel
theorem f16_15 : decode prog_4_method_14_code 15 = .ok (.iload_n 1, 1) := by decide +kernel
theorem f16_16 : decode prog_4_method_14_code 16 = .ok (.iload_n 3, 1) := by decide +kernel
theorem f16_17 : decode prog_4_method_14_code 17 = .ok (.invokevirtual 110, 3) := by decide +kernel
theorem f16_20 : decode prog_4_method_14_code 20 = .ok (.iadd, 1) := by decide +kernel
theorem f16_21 : decode prog_4_method_14_code 21 = .ok (.istore_n 2, 1) := by decide +kernel
theorem f16_22 : decode prog_4_method_14_code 22 = .ok (.iinc 3 1, 3) := by decide +kernel
theorem f16_25 : decode prog_4_method_14_code 25 = .ok (.goto (-21), 3) := by decide +kernel
theorem f16_28 : decode prog_4_method_14_code 28 = .ok (.iload_n 2, 1) := by decide +kernel
theorem f16_29 : decode prog_4_method_14_code 29 = .ok (.ireturn, 1) := by decide +kernel
theorem f17_0 : decode prog_4_method_13_code 0 = .ok (.aload_n 0, 1) := by decide +kernel
theorem f17_1 : decode prog_4_method_13_code 1 = .ok (.iload_n 1, 1) := by decide +kernel
theorem f17_2 : decode prog_4_method_13_code 2 = .ok (.iload_n 2, 1) := by decide +kernel
theorem f17_3 : decode prog_4_method_13_code 3 = .ok (.invokevirtual 104, 3) := by decide +kernel
theorem f17_6 : decode prog_4_method_13_code 6 = .ok (.bipush 10, 2) := by decide +kernel
theorem f17_8 : decode prog_4_method_13_code 8 = .ok (.invokestatic 107, 3) := by decide +kernel
theorem f17_11 : decode prog_4_method_13_code 11 = .ok (.ireturn, 1) := by decide +kernel
theorem f18_0 : decode prog_4_method_11_code 0 = .ok (.aload_n 0, 1) := by decide +kernel
theorem f18_1 : decode prog_4_method_11_code 1 = .ok (.iload_n 1, 1) := by decide +kernel
theorem f18_2 : decode prog_4_method_11_code 2 = .ok (.iload_n 2, 1) := by decide +kernel
theorem f18_3 : decode prog_4_method_11_code 3 = .ok (.invokevirtual 97, 3) := by decide +kernel
theorem f18_6 : decode prog_4_method_11_code 6 = .ok (.aload_n 0, 1) := by decide +kernel
theorem f18_7 : decode prog_4_method_11_code 7 = .ok (.iload_n 1, 1) := by decide +kernel
theorem f18_8 : decode prog_4_method_11_code 8 = .ok (.iload_n 2, 1) := by decide +kernel
theorem f18_9 : decode prog_4_method_11_code 9 = .ok (.invokevirtual 77, 3) := by decide +kernel
theorem f18_12 : decode prog_4_method_11_code 12 = .ok (.aload_n 0, 1) := by decide +kernel
theorem f18_13 : decode prog_4_method_11_code 13 = .ok (.getfield 48, 3) := by decide +kernel
theorem f18_16 : decode prog_4_method_11_code 16 = .ok (.aload_n 0, 1) := by decide +kernel
theorem f18_17 : decode prog_4_method_11_code 17 = .ok (.getfield 27, 3) := by decide +kernel
theorem f18_20 : decode prog_4_method_11_code 20 = .ok (.invokevirtual 100, 3) := by decide +kernel
theorem f18_23 : decode prog_4_method_11_code 23 = .ok (.iadd, 1) := by decide +kernel
theorem f18_24 : decode prog_4_method_11_code 24 = .ok (.istore_n 3, 1) := by decide +kernel
theorem f18_25 : decode prog_4_method_11_code 25 = .ok (.aload_n 0, 1) := by decide +kernel
theorem f18_26 : decode prog_4_method_11_code 26 = .ok (.getfield 15, 3) := by decide +kernel
theorem f18_29 : decode prog_4_method_11_code 29 = .ok (.iload_n 1, 1) := by decide +kernel
theorem f18_30 : decode prog_4_method_11_code 30 = .ok (.iaload, 1) := by decide +kernel
theorem f18_31 : decode prog_4_method_11_code 31 = .ok (.istore 4, 2) := by decide +kernel
theorem f18_33 : decode prog_4_method_11_code 33 = .ok (.iload_n 2, 1) := by decide +kernel
theorem f18_34 : decode prog_4_method_11_code 34 = .ok (.iload 4, 2) := by decide +kernel
theorem f18_36 : decode prog_4_method_11_code 36 = .ok (.if_icmp .ne 7, 3) := by decide +kernel
theorem f18_39 : decode prog_4_method_11_code 39 = .ok (.iconst 0, 1) := by decide +kernel
theorem f18_40 : decode prog_4_method_11_code 40 = .ok (.goto 4, 3) := by decide +kernel
theorem f18_43 : decode prog_4_method_11_code 43 = .ok (.iload_n 3, 1) := by decide +kernel
theorem f18_44 : decode prog_4_method_11_code 44 = .ok (.istore 5, 2) := by decide +kernel
theorem f18_46 : decode prog_4_method_11_code 46 = .ok (.aload_n 0, 1) := by decide +kernel
theorem f18_47 : decode prog_4_method_11_code 47 = .ok (.getfield 9, 3) := by decide +kernel
theorem f18_50 : decode prog_4_method_11_code 50 = .ok (.iload_n 1, 1) := by decide +kernel
theorem f18_51 : decode prog_4_method_11_code 51 = .ok (.iaload, 1) := by decide +kernel
theorem f18_52 : decode prog_4_method_11_code 52 = .ok (.tableswitch 108 1 6 #[40, 45, 49, 52, 73, 89], 40) := by decide +kernel
theorem f18_92 : decode prog_4_method_11_code 92 = .ok (.iload_n 3, 1) := by decide +kernel
theorem f18_93 : decode prog_4_method_11_code 93 = .ok (.iload 4, 2) := by decide +kernel
theorem f18_95 : decode prog_4_method_11_code 95 = .ok (.iadd, 1) := by decide +kernel
theorem f18_96 : decode prog_4_method_11_code 96 = .ok (.ireturn, 1) := by decide +kernel
theorem f18_97 : decode prog_4_method_11_code 97 = .ok (.iload_n 3, 1) := by decide +kernel
theorem f18_98 : decode prog_4_method_11_code 98 = .ok (.iconst 2, 1) := by decide +kernel
theorem f18_99 : decode prog_4_method_11_code 99 = .ok (.idiv, 1) := by decide +kernel
theorem f18_100 : decode prog_4_method_11_code 100 = .ok (.ireturn, 1) := by decide +kernel
theorem f18_101 : decode prog_4_method_11_code 101 = .ok (.iload 5, 2) := by decide +kernel
theorem f18_103 : decode prog_4_method_11_code 103 = .ok (.ireturn, 1) := by decide +kernel
theorem f18_104 : decode prog_4_method_11_code 104 = .ok (.iload_n 2, 1) := by decide +kernel
theorem f18_105 : decode prog_4_method_11_code 105 = .ok (.iconst 2, 1) := by decide +kernel
theorem f18_106 : decode prog_4_method_11_code 106 = .ok (.irem, 1) := by decide +kernel
theorem f18_107 : decode prog_4_method_11_code 107 = .ok (.iconst 1, 1) := by decide +kernel
theorem f18_108 : decode prog_4_method_11_code 108 = .ok (.if_icmp .ne 12, 3) := by decide +kernel
theorem f18_111 : decode prog_4_method_11_code 111 = .ok (.iconst 2, 1) := by decide +kernel
theorem f18_112 : decode prog_4_method_11_code 112 = .ok (.iload_n 3, 1) := by decide +kernel
theorem f18_113 : decode prog_4_method_11_code 113 = .ok (.iload 4, 2) := by decide +kernel
theorem f18_115 : decode prog_4_method_11_code 115 = .ok (.iadd, 1) := by decide +kernel
theorem f18_116 : decode prog_4_method_11_code 116 = .ok (.imul, 1) := by decide +kernel
theorem f18_117 : decode prog_4_method_11_code 117 = .ok (.goto 7, 3) := by decide +kernel
theorem f18_120 : decode prog_4_method_11_code 120 = .ok (.iload_n 3, 1) := by decide +kernel
theorem f18_121 : decode prog_4_method_11_code 121 = .ok (.iload 4, 2) := by decide +kernel
theorem f18_123 : decode prog_4_method_11_code 123 = .ok (.iadd, 1) := by decide +kernel
theorem f18_124 : decode prog_4_method_11_code 124 = .ok (.ireturn, 1) := by decide +kernel
theorem f18_125 : decode prog_4_method_11_code 125 = .ok (.iload_n 3, 1) := by decide +kernel
theorem f18_126 : decode prog_4_method_11_code 126 = .ok (.iconst 2, 1) := by decide +kernel
theorem f18_127 : decode prog_4_method_11_code 127 = .ok (.idiv, 1) := by decide +kernel
theorem f18_128 : decode prog_4_method_11_code 128 = .ok (.aload_n 0, 1) := by decide +kernel
theorem f18_129 : decode prog_4_method_11_code 129 = .ok (.getfield 18, 3) := by decide +kernel
theorem f18_132 : decode prog_4_method_11_code 132 = .ok (.iload_n 1, 1) := by decide +kernel
theorem f18_133 : decode prog_4_method_11_code 133 = .ok (.iaload, 1) := by decide +kernel
theorem f18_134 : decode prog_4_method_11_code 134 = .ok (.bipush 9, 2) := by decide +kernel
theorem f18_136 : decode prog_4_method_11_code 136 = .ok (.invokestatic 92, 3) := by decide +kernel
theorem f18_139 : decode prog_4_method_11_code 139 = .ok (.iadd, 1) := by decide +kernel
theorem f18_140 : decode prog_4_method_11_code 140 = .ok (.ireturn, 1) := by decide +kernel
theorem f18_141 : decode prog_4_method_11_code 141 = .ok (.iload 5, 2) := by decide +kernel
theorem f18_143 : decode prog_4_method_11_code 143 = .ok (.aload_n 0, 1) := by decide +kernel
theorem f18_144 : decode prog_4_method_11_code 144 = .ok (.getfield 24, 3) := by decide +kernel
theorem f18_147 : decode prog_4_method_11_code 147 = .ok (.iload_n 1, 1) := by decide +kernel
theorem f18_148 : decode prog_4_method_11_code 148 = .ok (.iconst 4, 1) := by decide +kernel
theorem f18_149 : decode prog_4_method_11_code 149 = .ok (.imul, 1) := by decide +kernel
theorem f18_150 : decode prog_4_method_11_code 150 = .ok (.aload_n 0, 1) := by decide +kernel
theorem f18_151 : decode prog_4_method_11_code 151 = .ok (.getfield 66, 3) := by decide +kernel
theorem f18_154 : decode prog_4_method_11_code 154 = .ok (.iconst 4, 1) := by decide +kernel
theorem f18_155 : decode prog_4_method_11_code 155 = .ok (.irem, 1) := by decide +kernel
theorem f18_156 : decode prog_4_method_11_code 156 = .ok (.iadd, 1) := by decide +kernel
theorem f18_157 : decode prog_4_method_11_code 157 = .ok (.iaload, 1) := by decide +kernel
theorem f18_158 : decode prog_4_method_11_code 158 = .ok (.iadd, 1) := by decide +kernel
theorem f18_159 : decode prog_4_method_11_code 159 = .ok (.ireturn, 1) := by decide +kernel
theorem f18_160 : decode prog_4_method_11_code 160 = .ok (.iload_n 3, 1) := by decide +kernel
theorem f18_161 : decode prog_4_method_11_code 161 = .ok (.ireturn, 1) := by decide +kernel
theorem f19_0 : decode prog_4_method_12_code 0 = .ok (.aload_n 0, 1) := by decide +kernel
theorem f19_1 : decode prog_4_method_12_code 1 = .ok (.getfield 27, 3) := by decide +kernel
theorem f19_4 : decode prog_4_method_12_code 4 = .ok (.iconst 0, 1) := by decide +kernel
theorem f19_5 : decode prog_4_method_12_code 5 = .ok (.iload_n 1, 1) := by decide +kernel
theorem f19_6 : decode prog_4_method_12_code 6 = .ok (.iastore, 1) := by decide +kernel
theorem f19_7 : decode prog_4_method_12_code 7 = .ok (.aload_n 0, 1) := by decide +kernel
theorem f19_8 : decode prog_4_method_12_code 8 = .ok (.getfield 27, 3) := by decide +kernel
theorem f19_11 : decode prog_4_method_12_code 11 = .ok (.iconst 1, 1) := by decide +kernel
theorem f19_12 : decode prog_4_method_12_code 12 = .ok (.aload_n 0, 1) := by decide +kernel
theorem f19_13 : decode prog_4_method_12_code 13 = .ok (.getfield 9, 3) := by decide +kernel
theorem f19_16 : decode prog_4_method_12_code 16 = .ok (.iload_n 1, 1) := by decide +kernel
theorem f19_17 : decode prog_4_method_12_code 17 = .ok (.iaload, 1) := by decide +kernel
theorem f19_18 : decode prog_4_method_12_code 18 = .ok (.iastore, 1) := by decide +kernel
theorem f19_19 : decode prog_4_method_12_code 19 = .ok (.aload_n 0, 1) := by decide +kernel
theorem f19_20 : decode prog_4_method_12_code 20 = .ok (.getfield 27, 3) := by decide +kernel
theorem f19_23 : decode prog_4_method_12_code 23 = .ok (.iconst 2, 1) := by decide +kernel
theorem f19_24 : decode prog_4_method_12_code 24 = .ok (.aload_n 0, 1) := by decide +kernel
theorem f19_25 : decode prog_4_method_12_code 25 = .ok (.getfield 15, 3) := by decide +kernel
theorem f19_28 : decode prog_4_method_12_code 28 = .ok (.iload_n 1, 1) := by decide +kernel
theorem f19_29 : decode prog_4_method_12_code 29 = .ok (.iaload, 1) := by decide +kernel
theorem f19_30 : decode prog_4_method_12_code 30 = .ok (.iastore, 1) := by decide +kernel
theorem f19_31 : decode prog_4_method_12_code 31 = .ok (.aload_n 0, 1) := by decide +kernel
theorem f19_32 : decode prog_4_method_12_code 32 = .ok (.getfield 27, 3) := by decide +kernel
theorem f19_35 : decode prog_4_method_12_code 35 = .ok (.iconst 3, 1) := by decide +kernel
theorem f19_36 : decode prog_4_method_12_code 36 = .ok (.iload_n 2, 1) := by decide +kernel
theorem f19_37 : decode prog_4_method_12_code 37 = .ok (.iastore, 1) := by decide +kernel
theorem f19_38 : decode prog_4_method_12_code 38 = .ok (.aload_n 0, 1) := by decide +kernel
theorem f19_39 : decode prog_4_method_12_code 39 = .ok (.getfield 27, 3) := by decide +kernel
theorem f19_42 : decode prog_4_method_12_code 42 = .ok (.iconst 4, 1) := by decide +kernel
theorem f19_43 : decode prog_4_method_12_code 43 = .ok (.aload_n 0, 1) := by decide +kernel
theorem f19_44 : decode prog_4_method_12_code 44 = .ok (.getfield 21, 3) := by decide +kernel
theorem f19_47 : decode prog_4_method_12_code 47 = .ok (.iload_n 1, 1) := by decide +kernel
theorem f19_48 : decode prog_4_method_12_code 48 = .ok (.bipush 6, 2) := by decide +kernel
theorem f19_50 : decode prog_4_method_12_code 50 = .ok (.imul, 1) := by decide +kernel
theorem f19_51 : decode prog_4_method_12_code 51 = .ok (.iload_n 2, 1) := by decide +kernel
theorem f19_52 : decode prog_4_method_12_code 52 = .ok (.iadd, 1) := by decide +kernel
theorem f19_53 : decode prog_4_method_12_code 53 = .ok (.iaload, 1) := by decide +kernel
theorem f19_54 : decode prog_4_method_12_code 54 = .ok (.iastore, 1) := by decide +kernel
theorem f19_55 : decode prog_4_method_12_code 55 = .ok (.aload_n 0, 1) := by decide +kernel
theorem f19_56 : decode prog_4_method_12_code 56 = .ok (.getfield 27, 3) := by decide +kernel
theorem f19_59 : decode prog_4_method_12_code 59 = .ok (.iconst 5, 1) := by decide +kernel
theorem f19_60 : decode prog_4_method_12_code 60 = .ok (.aload_n 0, 1) := by decide +kernel
theorem f19_61 : decode prog_4_method_12_code 61 = .ok (.getfield 66, 3) := by decide +kernel
theorem f19_64 : decode prog_4_method_12_code 64 = .ok (.bipush 10, 2) := by decide +kernel
theorem f19_66 : decode prog_4_method_12_code 66 = .ok (.irem, 1) := by decide +kernel
theorem f19_67 : decode prog_4_method_12_code 67 = .ok (.iastore, 1) := by decide +kernel
theorem f19_68 : decode prog_4_method_12_code 68 = .ok (.return_, 1) := by decide +kernel
theorem f21_0 : decode prog_6_method_4_code 0 = .ok (.iconst 0, 1) := by decide +kernel
theorem f21_1 : decode prog_6_method_4_code 1 = .ok (.istore_n 2, 1) := by decide +kernel
theorem f21_2 : decode prog_6_method_4_code 2 = .ok (.iconst 0, 1) := by decide +kernel
theorem f21_3 : decode prog_6_method_4_code 3 = .ok (.istore_n 3, 1) := by decide +kernel
theorem f21_4 : decode prog_6_method_4_code 4 = .ok (.iconst 0, 1) := by decide +kernel
theorem f21_5 : decode prog_6_method_4_code 5 = .ok (.istore 4, 2) := by decide +kernel
theorem f21_7 : decode prog_6_method_4_code 7 = .ok (.iload 4, 2) := by decide +kernel
theorem f21_9 : decode prog_6_method_4_code 9 = .ok (.aload_n 0, 1) := by decide +kernel
theorem f21_10 : decode prog_6_method_4_code 10 = .ok (.getfield 21, 3) := by decide +kernel
theorem f21_13 : decode prog_6_method_4_code 13 = .ok (.if_icmp .ge 192, 3) := by decide +kernel
theorem f21_16 : decode prog_6_method_4_code 16 = .ok (.aload_n 0, 1) := by decide +kernel
theorem f21_17 : decode prog_6_method_4_code 17 = .ok (.getfield 18, 3) := by decide +kernel
theorem f21_20 : decode prog_6_method_4_code 20 = .ok (.iload 4, 2) := by decide +kernel
theorem f21_22 : decode prog_6_method_4_code 22 = .ok (.iaload, 1) := by decide +kernel
theorem f21_23 : decode prog_6_method_4_code 23 = .ok (.istore 5, 2) := by decide +kernel
theorem f21_25 : decode prog_6_method_4_code 25 = .ok (.aload_n 1, 1) := by decide +kernel
theorem f21_26 : decode prog_6_method_4_code 26 = .ok (.aload_n 0, 1) := by decide +kernel
theorem f21_27 : decode prog_6_method_4_code 27 = .ok (.getfield 15, 3) := by decide +kernel
theorem f21_30 : decode prog_6_method_4_code 30 = .ok (.iload 4, 2) := by decide +kernel
theorem f21_32 : decode prog_6_method_4_code 32 = .ok (.iaload, 1) := by decide +kernel
theorem f21_33 : decode prog_6_method_4_code 33 = .ok (.iaload, 1) := by decide +kernel
theorem f21_34 : decode prog_6_method_4_code 34 = .ok (.istore 6, 2) := by decide +kernel
theorem f21_36 : decode prog_6_method_4_code 36 = .ok (.aload_n 0, 1) := by decide +kernel
theorem f21_37 : decode prog_6_method_4_code 37 = .ok (.getfield 9, 3) := by decide +kernel
theorem f21_40 : decode prog_6_method_4_code 40 = .ok (.iload 4, 2) := by decide +kernel
theorem f21_42 : decode prog_6_method_4_code 42 = .ok (.iaload, 1) := by decide +kernel
theorem f21_43 : decode prog_6_method_4_code 43 = .ok (.tableswitch 138 1 6 #[37, 57, 77, 97, 104, 127], 37) := by decide +kernel
theorem f21_80 : decode prog_6_method_4_code 80 = .ok (.iload_n 3, 1) := by decide +kernel
theorem f21_81 : decode prog_6_method_4_code 81 = .ok (.iconst 1, 1) := by decide +kernel
theorem f21_82 : decode prog_6_method_4_code 82 = .ok (.ishl, 1) := by decide +kernel
theorem f21_83 : decode prog_6_method_4_code 83 = .ok (.iload 6, 2) := by decide +kernel
theorem f21_85 : decode prog_6_method_4_code 85 = .ok (.iload 5, 2) := by decide +kernel
theorem f21_87 : decode prog_6_method_4_code 87 = .ok (.if_icmp .ge 7, 3) := by decide +kernel
theorem f21_90 : decode prog_6_method_4_code 90 = .ok (.iconst 1, 1) := by decide +kernel
theorem f21_91 : decode prog_6_method_4_code 91 = .ok (.goto 4, 3) := by decide +kernel
theorem f21_94 : decode prog_6_method_4_code 94 = .ok (.iconst 0, 1) := by decide +kernel
theorem f21_95 : decode prog_6_method_4_code 95 = .ok (.ior, 1) := by decide +kernel
theorem f21_96 : decode prog_6_method_4_code 96 = .ok (.istore_n 3, 1) := by decide +kernel
theorem f21_97 : decode prog_6_method_4_code 97 = .ok (.goto 102, 3) := by decide +kernel
theorem f21_100 : decode prog_6_method_4_code 100 = .ok (.iload_n 3, 1) := by decide +kernel
theorem f21_101 : decode prog_6_method_4_code 101 = .ok (.iconst 1, 1) := by decide +kernel
theorem f21_102 : decode prog_6_method_4_code 102 = .ok (.ishl, 1) := by decide +kernel
theorem f21_103 : decode prog_6_method_4_code 103 = .ok (.iload 6, 2) := by decide +kernel
theorem f21_105 : decode prog_6_method_4_code 105 = .ok (.iload 5, 2) := by decide +kernel
theorem f21_107 : decode prog_6_method_4_code 107 = .ok (.if_icmp .ne 7, 3) := by decide +kernel
theorem f21_110 : decode prog_6_method_4_code 110 = .ok (.iconst 1, 1) := by decide +kernel
theorem f21_111 : decode prog_6_method_4_code 111 = .ok (.goto 4, 3) := by decide +kernel
theorem f21_114 : decode prog_6_method_4_code 114 = .ok (.iconst 0, 1) := by decide +kernel
theorem f21_115 : decode prog_6_method_4_code 115 = .ok (.ior, 1) := by decide +kernel
theorem f21_116 : decode prog_6_method_4_code 116 = .ok (.istore_n 3, 1) := by decide +kernel
theorem f21_117 : decode prog_6_method_4_code 117 = .ok (.goto 82, 3) := by decide +kernel
theorem f21_120 : decode prog_6_method_4_code 120 = .ok (.iload_n 3, 1) := by decide +kernel
theorem f21_121 : decode prog_6_method_4_code 121 = .ok (.iconst 1, 1) := by decide +kernel
theorem f21_122 : decode prog_6_method_4_code 122 = .ok (.ishl, 1) := by decide +kernel
theorem f21_123 : decode prog_6_method_4_code 123 = .ok (.iload 6, 2) := by decide +kernel
theorem f21_125 : decode prog_6_method_4_code 125 = .ok (.iload 5, 2) := by decide +kernel
theorem f21_127 : decode prog_6_method_4_code 127 = .ok (.if_icmp .le 7, 3) := by decide +kernel
theorem f21_130 : decode prog_6_method_4_code 130 = .ok (.iconst 1, 1) := by decide +kernel
theorem f21_131 : decode prog_6_method_4_code 131 = .ok (.goto 4, 3) := by decide +kernel
theorem f21_134 : decode prog_6_method_4_code 134 = .ok (.iconst 0, 1) := by decide +kernel
theorem f21_135 : decode prog_6_method_4_code 135 = .ok (.ior, 1) := by decide +kernel
theorem f21_136 : decode prog_6_method_4_code 136 = .ok (.istore_n 3, 1) := by decide +kernel
theorem f21_137 : decode prog_6_method_4_code 137 = .ok (.goto 62, 3) := by decide +kernel
theorem f21_140 : decode prog_6_method_4_code 140 = .ok (.iload_n 3, 1) := by decide +kernel
theorem f21_141 : decode prog_6_method_4_code 141 = .ok (.iconst 1, 1) := by decide +kernel
theorem f21_142 : decode prog_6_method_4_code 142 = .ok (.ixor, 1) := by decide +kernel
theorem f21_143 : decode prog_6_method_4_code 143 = .ok (.istore_n 3, 1) := by decide +kernel
theorem f21_144 : decode prog_6_method_4_code 144 = .ok (.goto 55, 3) := by decide +kernel
theorem f21_147 : decode prog_6_method_4_code 147 = .ok (.iload_n 3, 1) := by decide +kernel
theorem f21_148 : decode prog_6_method_4_code 148 = .ok (.iconst 1, 1) := by decide +kernel
theorem f21_149 : decode prog_6_method_4_code 149 = .ok (.iand, 1) := by decide +kernel
theorem f21_150 : decode prog_6_method_4_code 150 = .ok (.iconst 1, 1) := by decide +kernel
theorem f21_151 : decode prog_6_method_4_code 151 = .ok (.if_icmp .ne 9, 3) := by decide +kernel
theorem f21_154 : decode prog_6_method_4_code 154 = .ok (.iload_n 3, 1) := by decide +kernel
theorem f21_155 : decode prog_6_method_4_code 155 = .ok (.iconst 1, 1) := by decide +kernel
theorem f21_156 : decode prog_6_method_4_code 156 = .ok (.ishr, 1) := by decide +kernel
theorem f21_157 : decode prog_6_method_4_code 157 = .ok (.goto 9, 3) := by decide +kernel
theorem f21_160 : decode prog_6_method_4_code 160 = .ok (.iload_n 3, 1) := by decide +kernel
theorem f21_161 : decode prog_6_method_4_code 161 = .ok (.iconst 1, 1) := by decide +kernel
theorem f21_162 : decode prog_6_method_4_code 162 = .ok (.ishr, 1) := by decide +kernel
theorem f21_163 : decode prog_6_method_4_code 163 = .ok (.bipush (-2), 2) := by decide +kernel
theorem f21_165 : decode prog_6_method_4_code 165 = .ok (.iand, 1) := by decide +kernel
theorem f21_166 : decode prog_6_method_4_code 166 = .ok (.istore_n 3, 1) := by decide +kernel
theorem f21_167 : decode prog_6_method_4_code 167 = .ok (.goto 32, 3) := by decide +kernel
theorem f21_170 : decode prog_6_method_4_code 170 = .ok (.iload_n 3, 1) := by decide +kernel
theorem f21_171 : decode prog_6_method_4_code 171 = .ok (.iconst 1, 1) := by decide +kernel
theorem f21_172 : decode prog_6_method_4_code 172 = .ok (.ishr, 1) := by decide +kernel
theorem f21_173 : decode prog_6_method_4_code 173 = .ok (.iload_n 3, 1) := by decide +kernel
theorem f21_174 : decode prog_6_method_4_code 174 = .ok (.iconst 1, 1) := by decide +kernel
theorem f21_175 : decode prog_6_method_4_code 175 = .ok (.iand, 1) := by decide +kernel
theorem f21_176 : decode prog_6_method_4_code 176 = .ok (.ior, 1) := by decide +kernel
theorem f21_177 : decode prog_6_method_4_code 177 = .ok (.istore_n 3, 1) := by decide +kernel
theorem f21_178 : decode prog_6_method_4_code 178 = .ok (.goto 21, 3) := by decide +kernel
theorem f21_181 : decode prog_6_method_4_code 181 = .ok (.iload_n 2, 1) := by decide +kernel
theorem f21_182 : decode prog_6_method_4_code 182 = .ok (.iload_n 3, 1) := by decide +kernel
theorem f21_183 : decode prog_6_method_4_code 183 = .ok (.iconst 1, 1) := by decide +kernel
theorem f21_184 : decode prog_6_method_4_code 184 = .ok (.iand, 1) := by decide +kernel
theorem f21_185 : decode prog_6_method_4_code 185 = .ok (.iconst 1, 1) := by decide +kernel
theorem f21_186 : decode prog_6_method_4_code 186 = .ok (.if_icmp .ne 8, 3) := by decide +kernel
theorem f21_189 : decode prog_6_method_4_code 189 = .ok (.iload 5, 2) := by decide +kernel
theorem f21_191 : decode prog_6_method_4_code 191 = .ok (.goto 4, 3) := by decide +kernel
theorem f21_194 : decode prog_6_method_4_code 194 = .ok (.iconst 0, 1) := by decide +kernel
theorem f21_195 : decode prog_6_method_4_code 195 = .ok (.iadd, 1) := by decide +kernel
theorem f21_196 : decode prog_6_method_4_code 196 = .ok (.istore_n 2, 1) := by decide +kernel
theorem f21_197 : decode prog_6_method_4_code 197 = .ok (.iconst 0, 1) := by decide +kernel
theorem f21_198 : decode prog_6_method_4_code 198 = .ok (.istore_n 3, 1) := by decide +kernel
theorem f21_199 : decode prog_6_method_4_code 199 = .ok (.iinc 4 1, 3) := by decide +kernel
theorem f21_202 : decode prog_6_method_4_code 202 = .ok (.goto (-195), 3) := by decide +kernel
theorem f21_205 : decode prog_6_method_4_code 205 = .ok (.iload_n 2, 1) := by decide +kernel
theorem f21_206 : decode prog_6_method_4_code 206 = .ok (.ireturn, 1) := by decide +kernel
theorem f25_0 : decode prog_4_method_16_code 0 = .ok (.iconst 0, 1) := by decide +kernel
theorem f25_1 : decode prog_4_method_16_code 1 = .ok (.istore_n 1, 1) := by decide +kernel
theorem f25_2 : decode prog_4_method_16_code 2 = .ok (.iconst 0, 1) := by decide +kernel
theorem f25_3 : decode prog_4_method_16_code 3 = .ok (.istore_n 2, 1) := by decide +kernel
theorem f25_4 : decode prog_4_method_16_code 4 = .ok (.iload_n 2, 1) := by decide +kernel
theorem f25_5 : decode prog_4_method_16_code 5 = .ok (.aload_n 0, 1) := by decide +kernel
theorem f25_6 : decode prog_4_method_16_code 6 = .ok (.getfield 35, 3) := by decide +kernel
theorem f25_9 : decode prog_4_method_16_code 9 = .ok (.getfield 113, 3) := by decide +kernel
theorem f25_12 : decode prog_4_method_16_code 12 = .ok (.if_icmp .ge 24, 3) := by decide +kernel
theorem f25_15 : decode prog_4_method_16_code 15 = .ok (.iload_n 1, 1) := by decide +kernel
theorem f25_16 : decode prog_4_method_16_code 16 = .ok (.bipush 10, 2) := by decide +kernel
theorem f25_18 : decode prog_4_method_16_code 18 = .ok (.imul, 1) := by decide +kernel
theorem f25_19 : decode prog_4_method_16_code 19 = .ok (.aload_n 0, 1) := by decide +kernel
theorem f25_20 : decode prog_4_method_16_code 20 = .ok (.getfield 35, 3) := by decide +kernel
theorem f25_23 : decode prog_4_method_16_code 23 = .ok (.iload_n 2, 1) := by decide +kernel
theorem f25_24 : decode prog_4_method_16_code 24 = .ok (.iconst 0, 1) := by decide +kernel
theorem f25_25 : decode prog_4_method_16_code 25 = .ok (.invokevirtual 125, 3) := by decide +kernel
theorem f25_28 : decode prog_4_method_16_code 28 = .ok (.iadd, 1) := by decide +kernel
theorem f25_29 : decode prog_4_method_16_code 29 = .ok (.istore_n 1, 1) := by decide +kernel
theorem f25_30 : decode prog_4_method_16_code 30 = .ok (.iinc 2 1, 3) := by decide +kernel
theorem f25_33 : decode prog_4_method_16_code 33 = .ok (.goto (-29), 3) := by decide +kernel
theorem f25_36 : decode prog_4_method_16_code 36 = .ok (.iload_n 1, 1) := by decide +kernel
theorem f25_37 : decode prog_4_method_16_code 37 = .ok (.ireturn, 1) := by decide +kernel
theorem f31_0 : decode prog_4_method_7_code 0 = .ok (.aload_n 0, 1) := by decide +kernel
theorem f31_1 : decode prog_4_method_7_code 1 = .ok (.iload_n 1, 1) := by decide +kernel
theorem f31_2 : decode prog_4_method_7_code 2 = .ok (.iload_n 2, 1) := by decide +kernel
theorem f31_3 : decode prog_4_method_7_code 3 = .ok (.aload_n 0, 1) := by decide +kernel
theorem f31_4 : decode prog_4_method_7_code 4 = .ok (.iload_n 1, 1) := by decide +kernel
theorem f31_5 : decode prog_4_method_7_code 5 = .ok (.iload_n 2, 1) := by decide +kernel
theorem f31_6 : decode prog_4_method_7_code 6 = .ok (.invokevirtual 77, 3) := by decide +kernel
theorem f31_9 : decode prog_4_method_7_code 9 = .ok (.iconst 1, 1) := by decide +kernel
theorem f31_10 : decode prog_4_method_7_code 10 = .ok (.iadd, 1) := by decide +kernel
theorem f31_11 : decode prog_4_method_7_code 11 = .ok (.bipush 10, 2) := by decide +kernel
theorem f31_13 : decode prog_4_method_7_code 13 = .ok (.irem, 1) := by decide +kernel
theorem f31_14 : decode prog_4_method_7_code 14 = .ok (.invokevirtual 73, 3) := by decide +kernel
theorem f31_17 : decode prog_4_method_7_code 17 = .ok (.return_, 1) := by decide +kernel
theorem f63_0 : decode prog_8_method_17_code 0 = .ok (.aload_n 0, 1) := by decide +kernel
theorem f63_1 : decode prog_8_method_17_code 1 = .ok (.invokevirtual 39, 3) := by decide +kernel
theorem f63_4 : decode prog_8_method_17_code 4 = .ok (.iload_n 1, 1) := by decide +kernel
theorem f63_5 : decode prog_8_method_17_code 5 = .ok (.if_icmp .eq 5, 3) := by decide +kernel
theorem f63_8 : decode prog_8_method_17_code 8 = .ok (.iconst 0, 1) := by decide +kernel
theorem f63_9 : decode prog_8_method_17_code 9 = .ok (.ireturn, 1) := by decide +kernel
theorem f63_10 : decode prog_8_method_17_code 10 = .ok (.aload_n 0, 1) := by decide +kernel
theorem f63_11 : decode prog_8_method_17_code 11 = .ok (.dup, 1) := by decide +kernel
theorem f63_12 : decode prog_8_method_17_code 12 = .ok (.getfield 28, 3) := by decide +kernel
theorem f63_15 : decode prog_8_method_17_code 15 = .ok (.iconst 1, 1) := by decide +kernel
theorem f63_16 : decode prog_8_method_17_code 16 = .ok (.iadd, 1) := by decide +kernel
theorem f63_17 : decode prog_8_method_17_code 17 = .ok (.putfield 28, 3) := by decide +kernel
theorem f63_20 : decode prog_8_method_17_code 20 = .ok (.iconst 1, 1) := by decide +kernel
theorem f63_21 : decode prog_8_method_17_code 21 = .ok (.ireturn, 1) := by decide +kernel
theorem f65_0 : decode prog_8_method_14_code 0 = .ok (.aload_n 0, 1) := by decide +kernel
theorem f65_1 : decode prog_8_method_14_code 1 = .ok (.invokevirtual 39, 3) := by decide +kernel
theorem f65_4 : decode prog_8_method_14_code 4 = .ok (.invokestatic 91, 3) := by decide +kernel
theorem f65_7 : decode prog_8_method_14_code 7 = .ok (.ifCond .ne 5, 3) := by decide +kernel
theorem f65_10 : decode prog_8_method_14_code 10 = .ok (.iconst 0, 1) := by decide +kernel
theorem f65_11 : decode prog_8_method_14_code 11 = .ok (.ireturn, 1) := by decide +kernel
theorem f65_12 : decode prog_8_method_14_code 12 = .ok (.aload_n 0, 1) := by decide +kernel
theorem f65_13 : decode prog_8_method_14_code 13 = .ok (.aload_n 0, 1) := by decide +kernel
theorem f65_14 : decode prog_8_method_14_code 14 = .ok (.invokevirtual 39, 3) := by decide +kernel
theorem f65_17 : decode prog_8_method_14_code 17 = .ok (.bipush 48, 2) := by decide +kernel
theorem f65_19 : decode prog_8_method_14_code 19 = .ok (.isub, 1) := by decide +kernel
theorem f65_20 : decode prog_8_method_14_code 20 = .ok (.putfield 62, 3) := by decide +kernel
theorem f65_23 : decode prog_8_method_14_code 23 = .ok (.aload_n 0, 1) := by decide +kernel
theorem f65_24 : decode prog_8_method_14_code 24 = .ok (.dup, 1) := by decide +kernel
theorem f65_25 : decode prog_8_method_14_code 25 = .ok (.getfield 28, 3) := by decide +kernel
theorem f65_28 : decode prog_8_method_14_code 28 = .ok (.iconst 1, 1) := by decide +kernel
theorem f65_29 : decode prog_8_method_14_code 29 = .ok (.iadd, 1) := by decide +kernel
theorem f65_30 : decode prog_8_method_14_code 30 = .ok (.putfield 28, 3) := by decide +kernel
theorem f65_33 : decode prog_8_method_14_code 33 = .ok (.aload_n 0, 1) := by decide +kernel
theorem f65_34 : decode prog_8_method_14_code 34 = .ok (.invokevirtual 39, 3) := by decide +kernel
theorem f65_37 : decode prog_8_method_14_code 37 = .ok (.invokestatic 91, 3) := by decide +kernel
theorem f65_40 : decode prog_8_method_14_code 40 = .ok (.ifCond .eq 32, 3) := by decide +kernel
theorem f65_43 : decode prog_8_method_14_code 43 = .ok (.aload_n 0, 1) := by decide +kernel
theorem f65_44 : decode prog_8_method_14_code 44 = .ok (.aload_n 0, 1) := by decide +kernel
theorem f65_45 : decode prog_8_method_14_code 45 = .ok (.getfield 62, 3) := by decide +kernel
theorem f65_48 : decode prog_8_method_14_code 48 = .ok (.bipush 10, 2) := by decide +kernel
theorem f65_50 : decode prog_8_method_14_code 50 = .ok (.imul, 1) := by decide +kernel
theorem f65_51 : decode prog_8_method_14_code 51 = .ok (.aload_n 0, 1) := by decide +kernel
theorem f65_52 : decode prog_8_method_14_code 52 = .ok (.invokevirtual 39, 3) := by decide +kernel
theorem f65_55 : decode prog_8_method_14_code 55 = .ok (.iadd, 1) := by decide +kernel
theorem f65_56 : decode prog_8_method_14_code 56 = .ok (.bipush 48, 2) := by decide +kernel
theorem f65_58 : decode prog_8_method_14_code 58 = .ok (.isub, 1) := by decide +kernel
theorem f65_59 : decode prog_8_method_14_code 59 = .ok (.putfield 62, 3) := by decide +kernel
theorem f65_62 : decode prog_8_method_14_code 62 = .ok (.aload_n 0, 1) := by decide +kernel
theorem f65_63 : decode prog_8_method_14_code 63 = .ok (.dup, 1) := by decide +kernel
theorem f65_64 : decode prog_8_method_14_code 64 = .ok (.getfield 28, 3) := by decide +kernel
theorem f65_67 : decode prog_8_method_14_code 67 = .ok (.iconst 1, 1) := by decide +kernel
theorem f65_68 : decode prog_8_method_14_code 68 = .ok (.iadd, 1) := by decide +kernel
theorem f65_69 : decode prog_8_method_14_code 69 = .ok (.putfield 28, 3) := by decide +kernel
theorem f65_72 : decode prog_8_method_14_code 72 = .ok (.iconst 1, 1) := by decide +kernel
theorem f65_73 : decode prog_8_method_14_code 73 = .ok (.ireturn, 1) := by decide +kernel
theorem f104_0 : decode prog_7_method_3_code 0 = .ok (.iload_n 1, 1) := by decide +kernel
theorem f104_1 : decode prog_7_method_3_code 1 = .ok (.aload_n 0, 1) := by decide +kernel
theorem f104_2 : decode prog_7_method_3_code 2 = .ok (.getfield 19, 3) := by decide +kernel
theorem f104_5 : decode prog_7_method_3_code 5 = .ok (.invokestatic 22, 3) := by decide +kernel
theorem f104_8 : decode prog_7_method_3_code 8 = .ok (.ireturn, 1) := by decide +kernel
theorem f111_0 : decode prog_2_method_6_code 0 = .ok (.iload_n 0, 1) := by decide +kernel
theorem f111_1 : decode prog_2_method_6_code 1 = .ok (.istore_n 2, 1) := by decide +kernel
theorem f111_2 : decode prog_2_method_6_code 2 = .ok (.iconst 0, 1) := by decide +kernel
theorem f111_3 : decode prog_2_method_6_code 3 = .ok (.istore_n 3, 1) := by decide +kernel
theorem f111_4 : decode prog_2_method_6_code 4 = .ok (.iload_n 3, 1) := by decide +kernel
theorem f111_5 : decode prog_2_method_6_code 5 = .ok (.bipush 7, 2) := by decide +kernel
theorem f111_7 : decode prog_2_method_6_code 7 = .ok (.if_icmp .ge 43, 3) := by decide +kernel
theorem f111_10 : decode prog_2_method_6_code 10 = .ok (.iload_n 2, 1) := by decide +kernel
theorem f111_11 : decode prog_2_method_6_code 11 = .ok (.bipush 7, 2) := by decide +kernel
theorem f111_13 : decode prog_2_method_6_code 13 = .ok (.invokestatic 48, 3) := by decide +kernel
theorem f111_16 : decode prog_2_method_6_code 16 = .ok (.ifCond .eq 34, 3) := by decide +kernel
theorem f111_19 : decode prog_2_method_6_code 19 = .ok (.getstatic 52, 3) := by decide +kernel
theorem f111_22 : decode prog_2_method_6_code 22 = .ok (.iload_n 2, 1) := by decide +kernel
theorem f111_23 : decode prog_2_method_6_code 23 = .ok (.iconst 3, 1) := by decide +kernel
theorem f111_24 : decode prog_2_method_6_code 24 = .ok (.imul, 1) := by decide +kernel
theorem f111_25 : decode prog_2_method_6_code 25 = .ok (.iload_n 1, 1) := by decide +kernel
theorem f111_26 : decode prog_2_method_6_code 26 = .ok (.iadd, 1) := by decide +kernel
theorem f111_27 : decode prog_2_method_6_code 27 = .ok (.iaload, 1) := by decide +kernel
theorem f111_28 : decode prog_2_method_6_code 28 = .ok (.istore 4, 2) := by decide +kernel
theorem f111_30 : decode prog_2_method_6_code 30 = .ok (.iload 4, 2) := by decide +kernel
theorem f111_32 : decode prog_2_method_6_code 32 = .ok (.ifCond .eq 6, 3) := by decide +kernel
theorem f111_35 : decode prog_2_method_6_code 35 = .ok (.iload 4, 2) := by decide +kernel
theorem f111_37 : decode prog_2_method_6_code 37 = .ok (.ireturn, 1) := by decide +kernel
theorem f111_38 : decode prog_2_method_6_code 38 = .ok (.getstatic 45, 3) := by decide +kernel
theorem f111_41 : decode prog_2_method_6_code 41 = .ok (.iload_n 2, 1) := by decide +kernel
theorem f111_42 : decode prog_2_method_6_code 42 = .ok (.iaload, 1) := by decide +kernel
theorem f111_43 : decode prog_2_method_6_code 43 = .ok (.istore_n 2, 1) := by decide +kernel
theorem f111_44 : decode prog_2_method_6_code 44 = .ok (.iinc 3 1, 3) := by decide +kernel
theorem f111_47 : decode prog_2_method_6_code 47 = .ok (.goto (-43), 3) := by decide +kernel
theorem f111_50 : decode prog_2_method_6_code 50 = .ok (.iconst 0, 1) := by decide +kernel
theorem f111_51 : decode prog_2_method_6_code 51 = .ok (.ireturn, 1) := by decide +kernel
theorem f112_0 : decode prog_2_method_7_code 0 = .ok (.aload_n 0, 1) := by decide +kernel
theorem f112_1 : decode prog_2_method_7_code 1 = .ok (.getfield 15, 3) := by decide +kernel
theorem f112_4 : decode prog_2_method_7_code 4 = .ok (.bipush 20, 2) := by decide +kernel
theorem f112_6 : decode prog_2_method_7_code 6 = .ok (.if_icmp .ge 13, 3) := by decide +kernel
theorem f112_9 : decode prog_2_method_7_code 9 = .ok (.aload_n 0, 1) := by decide +kernel
theorem f112_10 : decode prog_2_method_7_code 10 = .ok (.getfield 9, 3) := by decide +kernel
theorem f112_13 : decode prog_2_method_7_code 13 = .ok (.aload_n 0, 1) := by decide +kernel
theorem f112_14 : decode prog_2_method_7_code 14 = .ok (.getfield 15, 3) := by decide +kernel
theorem f112_17 : decode prog_2_method_7_code 17 = .ok (.iload_n 1, 1) := by decide +kernel
theorem f112_18 : decode prog_2_method_7_code 18 = .ok (.iastore, 1) := by decide +kernel
theorem f112_19 : decode prog_2_method_7_code 19 = .ok (.aload_n 0, 1) := by decide +kernel
theorem f112_20 : decode prog_2_method_7_code 20 = .ok (.dup, 1) := by decide +kernel
theorem f112_21 : decode prog_2_method_7_code 21 = .ok (.getfield 15, 3) := by decide +kernel
theorem f112_24 : decode prog_2_method_7_code 24 = .ok (.iconst 1, 1) := by decide +kernel
theorem f112_25 : decode prog_2_method_7_code 25 = .ok (.iadd, 1) := by decide +kernel
theorem f112_26 : decode prog_2_method_7_code 26 = .ok (.putfield 15, 3) := by decide +kernel
theorem f112_29 : decode prog_2_method_7_code 29 = .ok (.return_, 1) := by decide +kernel
theorem f114_0 : decode prog_2_method_3_code 0 = .ok (.aload_n 0, 1) := by decide +kernel
theorem f114_1 : decode prog_2_method_3_code 1 = .ok (.getfield 15, 3) := by decide +kernel
theorem f114_4 : decode prog_2_method_3_code 4 = .ok (.bipush 20, 2) := by decide +kernel
theorem f114_6 : decode prog_2_method_3_code 6 = .ok (.invokestatic 19, 3) := by decide +kernel
theorem f114_9 : decode prog_2_method_3_code 9 = .ok (.ireturn, 1) := by decide +kernel
theorem f116_0 : decode prog_1_method_44_code 0 = .ok (.iload_n 0, 1) := by decide +kernel
theorem f116_1 : decode prog_1_method_44_code 1 = .ok (.istore_n 2, 1) := by decide +kernel
theorem f116_2 : decode prog_1_method_44_code 2 = .ok (.iconst 0, 1) := by decide +kernel
theorem f116_3 : decode prog_1_method_44_code 3 = .ok (.istore_n 3, 1) := by decide +kernel
theorem f116_4 : decode prog_1_method_44_code 4 = .ok (.iload_n 3, 1) := by decide +kernel
theorem f116_5 : decode prog_1_method_44_code 5 = .ok (.bipush 7, 2) := by decide +kernel
theorem f116_7 : decode prog_1_method_44_code 7 = .ok (.if_icmp .ge 31, 3) := by decide +kernel
theorem f116_10 : decode prog_1_method_44_code 10 = .ok (.iload_n 2, 1) := by decide +kernel
theorem f116_11 : decode prog_1_method_44_code 11 = .ok (.bipush 7, 2) := by decide +kernel
theorem f116_13 : decode prog_1_method_44_code 13 = .ok (.invokestatic 65, 3) := by decide +kernel
theorem f116_16 : decode prog_1_method_44_code 16 = .ok (.ifCond .eq 22, 3) := by decide +kernel
theorem f116_19 : decode prog_1_method_44_code 19 = .ok (.iload_n 2, 1) := by decide +kernel
theorem f116_20 : decode prog_1_method_44_code 20 = .ok (.iload_n 1, 1) := by decide +kernel
theorem f116_21 : decode prog_1_method_44_code 21 = .ok (.if_icmp .ne 5, 3) := by decide +kernel
theorem f116_24 : decode prog_1_method_44_code 24 = .ok (.iconst 1, 1) := by decide +kernel
theorem f116_25 : decode prog_1_method_44_code 25 = .ok (.ireturn, 1) := by decide +kernel
theorem f116_26 : decode prog_1_method_44_code 26 = .ok (.getstatic 295, 3) := by decide +kernel
theorem f116_29 : decode prog_1_method_44_code 29 = .ok (.iload_n 2, 1) := by decide +kernel
theorem f116_30 : decode prog_1_method_44_code 30 = .ok (.iaload, 1) := by decide +kernel
theorem f116_31 : decode prog_1_method_44_code 31 = .ok (.istore_n 2, 1) := by decide +kernel
theorem f116_32 : decode prog_1_method_44_code 32 = .ok (.iinc 3 1, 3) := by decide +kernel
theorem f116_35 : decode prog_1_method_44_code 35 = .ok (.goto (-31), 3) := by decide +kernel
theorem f116_38 : decode prog_1_method_44_code 38 = .ok (.iconst 0, 1) := by decide +kernel
theorem f116_39 : decode prog_1_method_44_code 39 = .ok (.ireturn, 1) := by decide +kernel
theorem f119_0 : decode prog_7_method_5_code 0 = .ok (.aload_n 0, 1) := by decide +kernel
theorem f119_1 : decode prog_7_method_5_code 1 = .ok (.iconst (-1), 1) := by decide +kernel
theorem f119_2 : decode prog_7_method_5_code 2 = .ok (.putfield 15, 3) := by decide +kernel
theorem f119_5 : decode prog_7_method_5_code 5 = .ok (.aload_n 0, 1) := by decide +kernel
theorem f119_6 : decode prog_7_method_5_code 6 = .ok (.iconst 0, 1) := by decide +kernel
theorem f119_7 : decode prog_7_method_5_code 7 = .ok (.putfield 19, 3) := by decide +kernel
theorem f119_10 : decode prog_7_method_5_code 10 = .ok (.iconst 1, 1) := by decide +kernel
theorem f119_11 : decode prog_7_method_5_code 11 = .ok (.ireturn, 1) := by decide +kernel
theorem f120_0 : decode prog_7_method_6_code 0 = .ok (.aload_n 0, 1) := by decide +kernel
theorem f120_1 : decode prog_7_method_6_code 1 = .ok (.iload_n 1, 1) := by decide +kernel
theorem f120_2 : decode prog_7_method_6_code 2 = .ok (.putfield 15, 3) := by decide +kernel
theorem f120_5 : decode prog_7_method_6_code 5 = .ok (.aload_n 0, 1) := by decide +kernel
theorem f120_6 : decode prog_7_method_6_code 6 = .ok (.iload_n 2, 1) := by decide +kernel
theorem f120_7 : decode prog_7_method_6_code 7 = .ok (.putfield 19, 3) := by decide +kernel
theorem f120_10 : decode prog_7_method_6_code 10 = .ok (.iconst 0, 1) := by decide +kernel
theorem f120_11 : decode prog_7_method_6_code 11 = .ok (.istore_n 3, 1) := by decide +kernel
theorem f120_12 : decode prog_7_method_6_code 12 = .ok (.iload_n 3, 1) := by decide +kernel
theorem f120_13 : decode prog_7_method_6_code 13 = .ok (.iload_n 2, 1) := by decide +kernel
theorem f120_14 : decode prog_7_method_6_code 14 = .ok (.if_icmp .ge 16, 3) := by decide +kernel
theorem f120_17 : decode prog_7_method_6_code 17 = .ok (.aload_n 0, 1) := by decide +kernel
theorem f120_18 : decode prog_7_method_6_code 18 = .ok (.getfield 9, 3) := by decide +kernel
theorem f120_21 : decode prog_7_method_6_code 21 = .ok (.iload_n 3, 1) := by decide +kernel
theorem f120_22 : decode prog_7_method_6_code 22 = .ok (.lconst 0, 1) := by decide +kernel
theorem f120_23 : decode prog_7_method_6_code 23 = .ok (.lastore, 1) := by decide +kernel
theorem f120_24 : decode prog_7_method_6_code 24 = .ok (.iinc 3 1, 3) := by decide +kernel
theorem f120_27 : decode prog_7_method_6_code 27 = .ok (.goto (-15), 3) := by decide +kernel
theorem f120_30 : decode prog_7_method_6_code 30 = .ok (.iconst 1, 1) := by decide +kernel
theorem f120_31 : decode prog_7_method_6_code 31 = .ok (.ireturn, 1) := by decide +kernel
theorem f122_0 : decode prog_7_method_7_code 0 = .ok (.aload_n 0, 1) := by decide +kernel
theorem f122_1 : decode prog_7_method_7_code 1 = .ok (.getfield 9, 3) := by decide +kernel
theorem f122_4 : decode prog_7_method_7_code 4 = .ok (.iload_n 1, 1) := by decide +kernel
theorem f122_5 : decode prog_7_method_7_code 5 = .ok (.aload_n 0, 1) := by decide +kernel
theorem f122_6 : decode prog_7_method_7_code 6 = .ok (.lload_n 2, 1) := by decide +kernel
theorem f122_7 : decode prog_7_method_7_code 7 = .ok (.invokevirtual 26, 3) := by decide +kernel
theorem f122_10 : decode prog_7_method_7_code 10 = .ok (.lastore, 1) := by decide +kernel
theorem f122_11 : decode prog_7_method_7_code 11 = .ok (.iconst 1, 1) := by decide +kernel
theorem f122_12 : decode prog_7_method_7_code 12 = .ok (.ireturn, 1) := by decide +kernel
theorem f123_0 : decode prog_7_method_8_code 0 = .ok (.aload_n 0, 1) := by decide +kernel
theorem f123_1 : decode prog_7_method_8_code 1 = .ok (.getfield 15, 3) := by decide +kernel
theorem f123_4 : decode prog_7_method_8_code 4 = .ok (.tableswitch 48 0 3 #[32, 37, 42, 46], 32) := by decide +kernel
theorem f123_36 : decode prog_7_method_8_code 36 = .ok (.lload_n 1, 1) := by decide +kernel
theorem f123_37 : decode prog_7_method_8_code 37 = .ok (.l2i, 1) := by decide +kernel
theorem f123_38 : decode prog_7_method_8_code 38 = .ok (.i2b, 1) := by decide +kernel
theorem f123_39 : decode prog_7_method_8_code 39 = .ok (.i2l, 1) := by decide +kernel
theorem f123_40 : decode prog_7_method_8_code 40 = .ok (.lreturn, 1) := by decide +kernel
theorem f123_41 : decode prog_7_method_8_code 41 = .ok (.lload_n 1, 1) := by decide +kernel
theorem f123_42 : decode prog_7_method_8_code 42 = .ok (.l2i, 1) := by decide +kernel
theorem f123_43 : decode prog_7_method_8_code 43 = .ok (.i2s, 1) := by decide +kernel
theorem f123_44 : decode prog_7_method_8_code 44 = .ok (.i2l, 1) := by decide +kernel
theorem f123_45 : decode prog_7_method_8_code 45 = .ok (.lreturn, 1) := by decide +kernel
theorem f123_46 : decode prog_7_method_8_code 46 = .ok (.lload_n 1, 1) := by decide +kernel
theorem f123_47 : decode prog_7_method_8_code 47 = .ok (.l2i, 1) := by decide +kernel
theorem f123_48 : decode prog_7_method_8_code 48 = .ok (.i2l, 1) := by decide +kernel
theorem f123_49 : decode prog_7_method_8_code 49 = .ok (.lreturn, 1) := by decide +kernel
theorem f123_50 : decode prog_7_method_8_code 50 = .ok (.lload_n 1, 1) := by decide +kernel
theorem f123_51 : decode prog_7_method_8_code 51 = .ok (.lreturn, 1) := by decide +kernel
theorem f123_52 : decode prog_7_method_8_code 52 = .ok (.lload_n 1, 1) := by decide +kernel
theorem f123_53 : decode prog_7_method_8_code 53 = .ok (.lconst 0, 1) := by decide +kernel
theorem f123_54 : decode prog_7_method_8_code 54 = .ok (.lcmp, 1) := by decide +kernel
theorem f123_55 : decode prog_7_method_8_code 55 = .ok (.ifCond .eq 7, 3) := by decide +kernel
theorem f123_58 : decode prog_7_method_8_code 58 = .ok (.lconst 1, 1) := by decide +kernel
theorem f123_59 : decode prog_7_method_8_code 59 = .ok (.goto 4, 3) := by decide +kernel
theorem f123_62 : decode prog_7_method_8_code 62 = .ok (.lconst 0, 1) := by decide +kernel
theorem f123_63 : decode prog_7_method_8_code 63 = .ok (.lreturn, 1) := by decide +kernel
theorem f131_0 : decode prog_10_method_3_code 0 = .ok (.iload_n 1, 1) := by decide +kernel
theorem f131_1 : decode prog_10_method_3_code 1 = .ok (.iconst 0, 1) := by decide +kernel
theorem f131_2 : decode prog_10_method_3_code 2 = .ok (.aload_n 0, 1) := by decide +kernel
theorem f131_3 : decode prog_10_method_3_code 3 = .ok (.getfield 114, 3) := by decide +kernel
theorem f131_6 : decode prog_10_method_3_code 6 = .ok (.iconst 1, 1) := by decide +kernel
theorem f131_7 : decode prog_10_method_3_code 7 = .ok (.isub, 1) := by decide +kernel
theorem f131_8 : decode prog_10_method_3_code 8 = .ok (.invokestatic 117, 3) := by decide +kernel
theorem f131_11 : decode prog_10_method_3_code 11 = .ok (.ireturn, 1) := by decide +kernel
theorem f132_0 : decode prog_10_method_4_code 0 = .ok (.iload_n 0, 1) := by decide +kernel
theorem f132_1 : decode prog_10_method_4_code 1 = .ok (.iconst 0, 1) := by decide +kernel
theorem f132_2 : decode prog_10_method_4_code 2 = .ok (.iconst 5, 1) := by decide +kernel
theorem f132_3 : decode prog_10_method_4_code 3 = .ok (.invokestatic 117, 3) := by decide +kernel
theorem f132_6 : decode prog_10_method_4_code 6 = .ok (.ireturn, 1) := by decide +kernel
theorem f133_0 : decode prog_10_method_29_code 0 = .ok (.aload_n 0, 1) := by decide +kernel
theorem f133_1 : decode prog_10_method_29_code 1 = .ok (.iload_n 1, 1) := by decide +kernel
theorem f133_2 : decode prog_10_method_29_code 2 = .ok (.iload_n 2, 1) := by decide +kernel
theorem f133_3 : decode prog_10_method_29_code 3 = .ok (.invokevirtual 132, 3) := by decide +kernel
theorem f133_6 : decode prog_10_method_29_code 6 = .ok (.bipush 10, 2) := by decide +kernel
theorem f133_8 : decode prog_10_method_29_code 8 = .ok (.irem, 1) := by decide +kernel
theorem f133_9 : decode prog_10_method_29_code 9 = .ok (.istore_n 3, 1) := by decide +kernel
theorem f133_10 : decode prog_10_method_29_code 10 = .ok (.iload_n 3, 1) := by decide +kernel
theorem f133_11 : decode prog_10_method_29_code 11 = .ok (.ifCond .ge 10, 3) := by decide +kernel
theorem f133_14 : decode prog_10_method_29_code 14 = .ok (.iload_n 3, 1) := by decide +kernel
theorem f133_15 : decode prog_10_method_29_code 15 = .ok (.bipush 10, 2) := by decide +kernel
theorem f133_17 : decode prog_10_method_29_code 17 = .ok (.iadd, 1) := by decide +kernel
theorem f133_18 : decode prog_10_method_29_code 18 = .ok (.goto 4, 3) := by decide +kernel
theorem f133_21 : decode prog_10_method_29_code 21 = .ok (.iload_n 3, 1) := by decide +kernel
theorem f133_22 : decode prog_10_method_29_code 22 = .ok (.ireturn, 1) := by decide +kernel
theorem f137_0 : decode prog_10_method_24_code 0 = .ok (.iload_n 3, 1) := by decide +kernel
theorem f137_1 : decode prog_10_method_24_code 1 = .ok (.tableswitch 65 0 4 #[35, 37, 44, 51, 53], 35) := by decide +kernel
theorem f137_36 : decode prog_10_method_24_code 36 = .ok (.iload_n 1, 1) := by decide +kernel
theorem f137_37 : decode prog_10_method_24_code 37 = .ok (.ireturn, 1) := by decide +kernel
theorem f137_38 : decode prog_10_method_24_code 38 = .ok (.aload_n 0, 1) := by decide +kernel
theorem f137_39 : decode prog_10_method_24_code 39 = .ok (.getfield 9, 3) := by decide +kernel
theorem f137_42 : decode prog_10_method_24_code 42 = .ok (.iload_n 1, 1) := by decide +kernel
theorem f137_43 : decode prog_10_method_24_code 43 = .ok (.iaload, 1) := by decide +kernel
theorem f137_44 : decode prog_10_method_24_code 44 = .ok (.ireturn, 1) := by decide +kernel
theorem f137_45 : decode prog_10_method_24_code 45 = .ok (.aload_n 0, 1) := by decide +kernel
theorem f137_46 : decode prog_10_method_24_code 46 = .ok (.getfield 15, 3) := by decide +kernel
theorem f137_49 : decode prog_10_method_24_code 49 = .ok (.iload_n 1, 1) := by decide +kernel
theorem f137_50 : decode prog_10_method_24_code 50 = .ok (.iaload, 1) := by decide +kernel
theorem f137_51 : decode prog_10_method_24_code 51 = .ok (.ireturn, 1) := by decide +kernel
theorem f137_52 : decode prog_10_method_24_code 52 = .ok (.iload_n 2, 1) := by decide +kernel
theorem f137_53 : decode prog_10_method_24_code 53 = .ok (.ireturn, 1) := by decide +kernel
theorem f137_54 : decode prog_10_method_24_code 54 = .ok (.aload_n 0, 1) := by decide +kernel
theorem f137_55 : decode prog_10_method_24_code 55 = .ok (.getfield 18, 3) := by decide +kernel
theorem f137_58 : decode prog_10_method_24_code 58 = .ok (.bipush 6, 2) := by decide +kernel
theorem f137_60 : decode prog_10_method_24_code 60 = .ok (.iload_n 1, 1) := by decide +kernel
theorem f137_61 : decode prog_10_method_24_code 61 = .ok (.imul, 1) := by decide +kernel
theorem f137_62 : decode prog_10_method_24_code 62 = .ok (.iload_n 2, 1) := by decide +kernel
theorem f137_63 : decode prog_10_method_24_code 63 = .ok (.iadd, 1) := by decide +kernel
theorem f137_64 : decode prog_10_method_24_code 64 = .ok (.iaload, 1) := by decide +kernel
theorem f137_65 : decode prog_10_method_24_code 65 = .ok (.ireturn, 1) := by decide +kernel
theorem f137_66 : decode prog_10_method_24_code 66 = .ok (.aload_n 0, 1) := by decide +kernel
theorem f137_67 : decode prog_10_method_24_code 67 = .ok (.getfield 235, 3) := by decide +kernel
theorem f137_70 : decode prog_10_method_24_code 70 = .ok (.bipush 10, 2) := by decide +kernel
theorem f137_72 : decode prog_10_method_24_code 72 = .ok (.irem, 1) := by decide +kernel
theorem f137_73 : decode prog_10_method_24_code 73 = .ok (.ireturn, 1) := by decide +kernel
theorem f144_0 : decode prog_10_method_31_code 0 = .ok (.iconst 0, 1) := by decide +kernel
theorem f144_1 : decode prog_10_method_31_code 1 = .ok (.istore_n 2, 1) := by decide +kernel
theorem f144_2 : decode prog_10_method_31_code 2 = .ok (.iconst 0, 1) := by decide +kernel
theorem f144_3 : decode prog_10_method_31_code 3 = .ok (.istore_n 3, 1) := by decide +kernel
theorem f144_4 : decode prog_10_method_31_code 4 = .ok (.iload_n 3, 1) := by decide +kernel
theorem f144_5 : decode prog_10_method_31_code 5 = .ok (.bipush 6, 2) := by decide +kernel
theorem f144_7 : decode prog_10_method_31_code 7 = .ok (.if_icmp .ge 21, 3) := by decide +kernel
theorem f144_10 : decode prog_10_method_31_code 10 = .ok (.bipush 10, 2) := by decide +kernel
theorem f144_12 : decode prog_10_method_31_code 12 = .ok (.iload_n 2, 1) := by decide +kernel
theorem f144_13 : decode prog_10_method_31_code 13 = .ok (.imul, 1) := by decide +kernel
theorem f144_14 : decode prog_10_method_31_code 14 = .ok (.aload_n 0, 1) := by decide +kernel
theorem f144_15 : decode prog_10_method_31_code 15 = .ok (.iload_n 1, 1) := by decide +kernel
theorem f144_16 : decode prog_10_method_31_code 16 = .ok (.iload_n 3, 1) := by decide +kernel
theorem f144_17 : decode prog_10_method_31_code 17 = .ok (.invokevirtual 128, 3) := by decide +kernel
theorem f144_20 : decode prog_10_method_31_code 20 = .ok (.iadd, 1) := by decide +kernel
theorem f144_21 : decode prog_10_method_31_code 21 = .ok (.istore_n 2, 1) := by decide +kernel
theorem f144_22 : decode prog_10_method_31_code 22 = .ok (.iinc 3 1, 3) := by decide +kernel
theorem f144_25 : decode prog_10_method_31_code 25 = .ok (.goto (-21), 3) := by decide +kernel
theorem f144_28 : decode prog_10_method_31_code 28 = .ok (.iload_n 2, 1) := by decide +kernel
theorem f144_29 : decode prog_10_method_31_code 29 = .ok (.ireturn, 1) := by decide +kernel
theorem f151_0 : decode prog_10_method_5_code 0 = .ok (.iload_n 0, 1) := by decide +kernel
theorem f151_1 : decode prog_10_method_5_code 1 = .ok (.iconst 0, 1) := by decide +kernel
theorem f151_2 : decode prog_10_method_5_code 2 = .ok (.bipush 9, 2) := by decide +kernel
theorem f151_4 : decode prog_10_method_5_code 4 = .ok (.invokestatic 117, 3) := by decide +kernel
theorem f151_7 : decode prog_10_method_5_code 7 = .ok (.ireturn, 1) := by decide +kernel
theorem f158_0 : decode prog_10_method_12_code 0 = .ok (.aload_n 0, 1) := by decide +kernel
theorem f158_1 : decode prog_10_method_12_code 1 = .ok (.getfield 160, 3) := by decide +kernel
theorem f158_4 : decode prog_10_method_12_code 4 = .ok (.aload_n 0, 1) := by decide +kernel
theorem f158_5 : decode prog_10_method_12_code 5 = .ok (.getfield 157, 3) := by decide +kernel
theorem f158_8 : decode prog_10_method_12_code 8 = .ok (.if_icmp .eq 16, 3) := by decide +kernel
theorem f158_11 : decode prog_10_method_12_code 11 = .ok (.aload_n 0, 1) := by decide +kernel
theorem f158_12 : decode prog_10_method_12_code 12 = .ok (.getfield 30, 3) := by decide +kernel
theorem f158_15 : decode prog_10_method_12_code 15 = .ok (.aload_n 0, 1) := by decide +kernel
theorem f158_16 : decode prog_10_method_12_code 16 = .ok (.getfield 160, 3) := by decide +kernel
theorem f158_19 : decode prog_10_method_12_code 19 = .ok (.iaload, 1) := by decide +kernel
theorem f158_20 : decode prog_10_method_12_code 20 = .ok (.iload_n 1, 1) := by decide +kernel
theorem f158_21 : decode prog_10_method_12_code 21 = .ok (.if_icmp .eq 5, 3) := by decide +kernel
theorem f158_24 : decode prog_10_method_12_code 24 = .ok (.iconst 0, 1) := by decide +kernel
theorem f158_25 : decode prog_10_method_12_code 25 = .ok (.ireturn, 1) := by decide +kernel
theorem f158_26 : decode prog_10_method_12_code 26 = .ok (.aload_n 0, 1) := by decide +kernel
theorem f158_27 : decode prog_10_method_12_code 27 = .ok (.dup, 1) := by decide +kernel
theorem f158_28 : decode prog_10_method_12_code 28 = .ok (.getfield 160, 3) := by decide +kernel
theorem f158_31 : decode prog_10_method_12_code 31 = .ok (.iconst 1, 1) := by decide +kernel
theorem f158_32 : decode prog_10_method_12_code 32 = .ok (.iadd, 1) := by decide +kernel
theorem f158_33 : decode prog_10_method_12_code 33 = .ok (.putfield 160, 3) := by decide +kernel
theorem f158_36 : decode prog_10_method_12_code 36 = .ok (.iconst 1, 1) := by decide +kernel
theorem f158_37 : decode prog_10_method_12_code 37 = .ok (.ireturn, 1) := by decide +kernel
theorem f159_0 : decode prog_10_method_14_code 0 = .ok (.aload_n 0, 1) := by decide +kernel
theorem f159_1 : decode prog_10_method_14_code 1 = .ok (.iconst 0, 1) := by decide +kernel
theorem f159_2 : decode prog_10_method_14_code 2 = .ok (.putfield 163, 3) := by decide +kernel
theorem f159_5 : decode prog_10_method_14_code 5 = .ok (.aload_n 0, 1) := by decide +kernel
theorem f159_6 : decode prog_10_method_14_code 6 = .ok (.iconst 0, 1) := by decide +kernel
theorem f159_7 : decode prog_10_method_14_code 7 = .ok (.putfield 166, 3) := by decide +kernel
theorem f159_10 : decode prog_10_method_14_code 10 = .ok (.aload_n 0, 1) := by decide +kernel
theorem f159_11 : decode prog_10_method_14_code 11 = .ok (.getfield 166, 3) := by decide +kernel
theorem f159_14 : decode prog_10_method_14_code 14 = .ok (.iconst 2, 1) := by decide +kernel
theorem f159_15 : decode prog_10_method_14_code 15 = .ok (.if_icmp .ge 57, 3) := by decide +kernel
theorem f159_18 : decode prog_10_method_14_code 18 = .ok (.aload_n 0, 1) := by decide +kernel
theorem f159_19 : decode prog_10_method_14_code 19 = .ok (.invokevirtual 169, 3) := by decide +kernel
theorem f159_22 : decode prog_10_method_14_code 22 = .ok (.ifCond .eq 50, 3) := by decide +kernel
theorem f159_25 : decode prog_10_method_14_code 25 = .ok (.aload_n 0, 1) := by decide +kernel
theorem f159_26 : decode prog_10_method_14_code 26 = .ok (.bipush 10, 2) := by decide +kernel
theorem f159_28 : decode prog_10_method_14_code 28 = .ok (.aload_n 0, 1) := by decide +kernel
theorem f159_29 : decode prog_10_method_14_code 29 = .ok (.getfield 163, 3) := by decide +kernel
theorem f159_32 : decode prog_10_method_14_code 32 = .ok (.imul, 1) := by decide +kernel
theorem f159_33 : decode prog_10_method_14_code 33 = .ok (.aload_n 0, 1) := by decide +kernel
theorem f159_34 : decode prog_10_method_14_code 34 = .ok (.getfield 30, 3) := by decide +kernel
theorem f159_37 : decode prog_10_method_14_code 37 = .ok (.aload_n 0, 1) := by decide +kernel
theorem f159_38 : decode prog_10_method_14_code 38 = .ok (.getfield 160, 3) := by decide +kernel
theorem f159_41 : decode prog_10_method_14_code 41 = .ok (.iaload, 1) := by decide +kernel
theorem f159_42 : decode prog_10_method_14_code 42 = .ok (.iadd, 1) := by decide +kernel
theorem f159_43 : decode prog_10_method_14_code 43 = .ok (.bipush 48, 2) := by decide +kernel
theorem f159_45 : decode prog_10_method_14_code 45 = .ok (.isub, 1) := by decide +kernel
theorem f159_46 : decode prog_10_method_14_code 46 = .ok (.putfield 163, 3) := by decide +kernel
theorem f159_49 : decode prog_10_method_14_code 49 = .ok (.aload_n 0, 1) := by decide +kernel
theorem f159_50 : decode prog_10_method_14_code 50 = .ok (.dup, 1) := by decide +kernel
theorem f159_51 : decode prog_10_method_14_code 51 = .ok (.getfield 160, 3) := by decide +kernel
theorem f159_54 : decode prog_10_method_14_code 54 = .ok (.iconst 1, 1) := by decide +kernel
theorem f159_55 : decode prog_10_method_14_code 55 = .ok (.iadd, 1) := by decide +kernel
theorem f159_56 : decode prog_10_method_14_code 56 = .ok (.putfield 160, 3) := by decide +kernel
theorem f159_59 : decode prog_10_method_14_code 59 = .ok (.aload_n 0, 1) := by decide +kernel
theorem f159_60 : decode prog_10_method_14_code 60 = .ok (.dup, 1) := by decide +kernel
theorem f159_61 : decode prog_10_method_14_code 61 = .ok (.getfield 166, 3) := by decide +kernel
theorem f159_64 : decode prog_10_method_14_code 64 = .ok (.iconst 1, 1) := by decide +kernel
theorem f159_65 : decode prog_10_method_14_code 65 = .ok (.iadd, 1) := by decide +kernel
theorem f159_66 : decode prog_10_method_14_code 66 = .ok (.putfield 166, 3) := by decide +kernel
theorem f159_69 : decode prog_10_method_14_code 69 = .ok (.goto (-59), 3) := by decide +kernel
theorem f159_72 : decode prog_10_method_14_code 72 = .ok (.aload_n 0, 1) := by decide +kernel
theorem f159_73 : decode prog_10_method_14_code 73 = .ok (.getfield 166, 3) := by decide +kernel
theorem f159_76 : decode prog_10_method_14_code 76 = .ok (.ifCond .le 7, 3) := by decide +kernel
theorem f159_79 : decode prog_10_method_14_code 79 = .ok (.iconst 1, 1) := by decide +kernel
theorem f159_80 : decode prog_10_method_14_code 80 = .ok (.goto 4, 3) := by decide +kernel
theorem f159_83 : decode prog_10_method_14_code 83 = .ok (.iconst 0, 1) := by decide +kernel
theorem f159_84 : decode prog_10_method_14_code 84 = .ok (.ireturn, 1) := by decide +kernel
theorem f160_0 : decode prog_10_method_13_code 0 = .ok (.aload_n 0, 1) := by decide +kernel
theorem f160_1 : decode prog_10_method_13_code 1 = .ok (.getfield 160, 3) := by decide +kernel
theorem f160_4 : decode prog_10_method_13_code 4 = .ok (.aload_n 0, 1) := by decide +kernel
theorem f160_5 : decode prog_10_method_13_code 5 = .ok (.getfield 157, 3) := by decide +kernel
theorem f160_8 : decode prog_10_method_13_code 8 = .ok (.if_icmp .ge 35, 3) := by decide +kernel
theorem f160_11 : decode prog_10_method_13_code 11 = .ok (.aload_n 0, 1) := by decide +kernel
theorem f160_12 : decode prog_10_method_13_code 12 = .ok (.getfield 30, 3) := by decide +kernel
theorem f160_15 : decode prog_10_method_13_code 15 = .ok (.aload_n 0, 1) := by decide +kernel
theorem f160_16 : decode prog_10_method_13_code 16 = .ok (.getfield 160, 3) := by decide +kernel
theorem f160_19 : decode prog_10_method_13_code 19 = .ok (.iaload, 1) := by decide +kernel
theorem f160_20 : decode prog_10_method_13_code 20 = .ok (.bipush 48, 2) := by decide +kernel
theorem f160_22 : decode prog_10_method_13_code 22 = .ok (.if_icmp .lt 21, 3) := by decide +kernel
theorem f160_25 : decode prog_10_method_13_code 25 = .ok (.aload_n 0, 1) := by decide +kernel
theorem f160_26 : decode prog_10_method_13_code 26 = .ok (.getfield 30, 3) := by decide +kernel
theorem f160_29 : decode prog_10_method_13_code 29 = .ok (.aload_n 0, 1) := by decide +kernel
theorem f160_30 : decode prog_10_method_13_code 30 = .ok (.getfield 160, 3) := by decide +kernel
theorem f160_33 : decode prog_10_method_13_code 33 = .ok (.iaload, 1) := by decide +kernel
theorem f160_34 : decode prog_10_method_13_code 34 = .ok (.bipush 57, 2) := by decide +kernel
theorem f160_36 : decode prog_10_method_13_code 36 = .ok (.if_icmp .gt 7, 3) := by decide +kernel
theorem f160_39 : decode prog_10_method_13_code 39 = .ok (.iconst 1, 1) := by decide +kernel
theorem f160_40 : decode prog_10_method_13_code 40 = .ok (.goto 4, 3) := by decide +kernel
theorem f160_43 : decode prog_10_method_13_code 43 = .ok (.iconst 0, 1) := by decide +kernel
theorem f160_44 : decode prog_10_method_13_code 44 = .ok (.ireturn, 1) := by decide +kernel
theorem f165_0 : decode prog_10_method_16_code 0 = .ok (.aload_n 0, 1) := by decide +kernel
theorem f165_1 : decode prog_10_method_16_code 1 = .ok (.getfield 48, 3) := by decide +kernel
theorem f165_4 : decode prog_10_method_16_code 4 = .ok (.aload_n 0, 1) := by decide +kernel
theorem f165_5 : decode prog_10_method_16_code 5 = .ok (.dup, 1) := by decide +kernel
theorem f165_6 : decode prog_10_method_16_code 6 = .ok (.getfield 185, 3) := by decide +kernel
theorem f165_9 : decode prog_10_method_16_code 9 = .ok (.dup_x1, 1) := by decide +kernel
theorem f165_10 : decode prog_10_method_16_code 10 = .ok (.iconst 1, 1) := by decide +kernel
theorem f165_11 : decode prog_10_method_16_code 11 = .ok (.iadd, 1) := by decide +kernel
theorem f165_12 : decode prog_10_method_16_code 12 = .ok (.putfield 185, 3) := by decide +kernel
theorem f165_15 : decode prog_10_method_16_code 15 = .ok (.iload_n 1, 1) := by decide +kernel
theorem f165_16 : decode prog_10_method_16_code 16 = .ok (.iastore, 1) := by decide +kernel
theorem f165_17 : decode prog_10_method_16_code 17 = .ok (.iconst 1, 1) := by decide +kernel
theorem f165_18 : decode prog_10_method_16_code 18 = .ok (.ireturn, 1) := by decide +kernel
theorem f194_0 : decode prog_10_method_49_code 0 = .ok (.lload_n 0, 1) := by decide +kernel
theorem f194_1 : decode prog_10_method_49_code 1 = .ok (.invokestatic 295, 3) := by decide +kernel
theorem f194_4 : decode prog_10_method_49_code 4 = .ok (.lstore 5, 2) := by decide +kernel
theorem f194_6 : decode prog_10_method_49_code 6 = .ok (.lload_n 2, 1) := by decide +kernel
theorem f194_7 : decode prog_10_method_49_code 7 = .ok (.lstore 7, 2) := by decide +kernel
theorem f194_9 : decode prog_10_method_49_code 9 = .ok (.lload 7, 2) := by decide +kernel
theorem f194_11 : decode prog_10_method_49_code 11 = .ok (.lconst 0, 1) := by decide +kernel
theorem f194_12 : decode prog_10_method_49_code 12 = .ok (.lcmp, 1) := by decide +kernel
theorem f194_13 : decode prog_10_method_49_code 13 = .ok (.ifCond .eq 21, 3) := by decide +kernel
theorem f194_16 : decode prog_10_method_49_code 16 = .ok (.lload 5, 2) := by decide +kernel
theorem f194_18 : decode prog_10_method_49_code 18 = .ok (.lload 7, 2) := by decide +kernel
theorem f194_20 : decode prog_10_method_49_code 20 = .ok (.lrem, 1) := by decide +kernel
theorem f194_21 : decode prog_10_method_49_code 21 = .ok (.lstore 9, 2) := by decide +kernel
theorem f194_23 : decode prog_10_method_49_code 23 = .ok (.lload 7, 2) := by decide +kernel
theorem f194_25 : decode prog_10_method_49_code 25 = .ok (.lstore 5, 2) := by decide +kernel
theorem f194_27 : decode prog_10_method_49_code 27 = .ok (.lload 9, 2) := by decide +kernel
theorem f194_29 : decode prog_10_method_49_code 29 = .ok (.lstore 7, 2) := by decide +kernel
theorem f194_31 : decode prog_10_method_49_code 31 = .ok (.goto (-22), 3) := by decide +kernel
theorem f194_34 : decode prog_10_method_49_code 34 = .ok (.iload 4, 2) := by decide +kernel
theorem f194_36 : decode prog_10_method_49_code 36 = .ok (.ifCond .ne 7, 3) := by decide +kernel
theorem f194_39 : decode prog_10_method_49_code 39 = .ok (.lload_n 0, 1) := by decide +kernel
theorem f194_40 : decode prog_10_method_49_code 40 = .ok (.goto 4, 3) := by decide +kernel
theorem f194_43 : decode prog_10_method_49_code 43 = .ok (.lload_n 2, 1) := by decide +kernel
theorem f194_44 : decode prog_10_method_49_code 44 = .ok (.lload 5, 2) := by decide +kernel
theorem f194_46 : decode prog_10_method_49_code 46 = .ok (.ldiv, 1) := by decide +kernel
theorem f194_47 : decode prog_10_method_49_code 47 = .ok (.lreturn, 1) := by decide +kernel
theorem f206_0 : decode prog_10_method_61_code 0 = .ok (.aload_n 0, 1) := by decide +kernel
theorem f206_1 : decode prog_10_method_61_code 1 = .ok (.getfield 317, 3) := by decide +kernel
theorem f206_4 : decode prog_10_method_61_code 4 = .ok (.bipush 20, 2) := by decide +kernel
theorem f206_6 : decode prog_10_method_61_code 6 = .ok (.if_icmp .ge 13, 3) := by decide +kernel
theorem f206_9 : decode prog_10_method_61_code 9 = .ok (.aload_n 0, 1) := by decide +kernel
theorem f206_10 : decode prog_10_method_61_code 10 = .ok (.getfield 79, 3) := by decide +kernel
theorem f206_13 : decode prog_10_method_61_code 13 = .ok (.aload_n 0, 1) := by decide +kernel
theorem f206_14 : decode prog_10_method_61_code 14 = .ok (.getfield 317, 3) := by decide +kernel
theorem f206_17 : decode prog_10_method_61_code 17 = .ok (.iload_n 1, 1) := by decide +kernel
theorem f206_18 : decode prog_10_method_61_code 18 = .ok (.iastore, 1) := by decide +kernel
theorem f206_19 : decode prog_10_method_61_code 19 = .ok (.aload_n 0, 1) := by decide +kernel
theorem f206_20 : decode prog_10_method_61_code 20 = .ok (.dup, 1) := by decide +kernel
theorem f206_21 : decode prog_10_method_61_code 21 = .ok (.getfield 317, 3) := by decide +kernel
theorem f206_24 : decode prog_10_method_61_code 24 = .ok (.iconst 1, 1) := by decide +kernel
theorem f206_25 : decode prog_10_method_61_code 25 = .ok (.iadd, 1) := by decide +kernel
theorem f206_26 : decode prog_10_method_61_code 26 = .ok (.putfield 317, 3) := by decide +kernel
theorem f206_29 : decode prog_10_method_61_code 29 = .ok (.return_, 1) := by decide +kernel
theorem f207_0 : decode prog_10_method_62_code 0 = .ok (.iload_n 0, 1) := by decide +kernel
theorem f207_1 : decode prog_10_method_62_code 1 = .ok (.iconst 4, 1) := by decide +kernel
theorem f207_2 : decode prog_10_method_62_code 2 = .ok (.if_icmp .ne 7, 3) := by decide +kernel
theorem f207_5 : decode prog_10_method_62_code 5 = .ok (.iconst 1, 1) := by decide +kernel
theorem f207_6 : decode prog_10_method_62_code 6 = .ok (.goto 23, 3) := by decide +kernel
theorem f207_9 : decode prog_10_method_62_code 9 = .ok (.iload_n 0, 1) := by decide +kernel
theorem f207_10 : decode prog_10_method_62_code 10 = .ok (.iconst 5, 1) := by decide +kernel
theorem f207_11 : decode prog_10_method_62_code 11 = .ok (.if_icmp .ne 7, 3) := by decide +kernel
theorem f207_14 : decode prog_10_method_62_code 14 = .ok (.iconst 2, 1) := by decide +kernel
theorem f207_15 : decode prog_10_method_62_code 15 = .ok (.goto 14, 3) := by decide +kernel
theorem f207_18 : decode prog_10_method_62_code 18 = .ok (.iload_n 0, 1) := by decide +kernel
theorem f207_19 : decode prog_10_method_62_code 19 = .ok (.bipush 6, 2) := by decide +kernel
theorem f207_21 : decode prog_10_method_62_code 21 = .ok (.if_icmp .ne 7, 3) := by decide +kernel
theorem f207_24 : decode prog_10_method_62_code 24 = .ok (.iconst 3, 1) := by decide +kernel
theorem f207_25 : decode prog_10_method_62_code 25 = .ok (.goto 4, 3) := by decide +kernel
theorem f207_28 : decode prog_10_method_62_code 28 = .ok (.iconst 0, 1) := by decide +kernel
theorem f207_29 : decode prog_10_method_62_code 29 = .ok (.ireturn, 1) := by decide +kernel
theorem f214_0 : decode prog_10_method_70_code 0 = .ok (.iload_n 0, 1) := by decide +kernel
theorem f214_1 : decode prog_10_method_70_code 1 = .ok (.iconst 0, 1) := by decide +kernel
theorem f214_2 : decode prog_10_method_70_code 2 = .ok (.iconst 5, 1) := by decide +kernel
theorem f214_3 : decode prog_10_method_70_code 3 = .ok (.invokestatic 117, 3) := by decide +kernel
theorem f214_6 : decode prog_10_method_70_code 6 = .ok (.ireturn, 1) := by decide +kernel
theorem f216_0 : decode prog_10_method_72_code 0 = .ok (.iload_n 0, 1) := by decide +kernel
theorem f216_1 : decode prog_10_method_72_code 1 = .ok (.tableswitch 47 0 3 #[31, 36, 41, 45], 31) := by decide +kernel
theorem f216_32 : decode prog_10_method_72_code 32 = .ok (.lload_n 1, 1) := by decide +kernel
theorem f216_33 : decode prog_10_method_72_code 33 = .ok (.l2i, 1) := by decide +kernel
theorem f216_34 : decode prog_10_method_72_code 34 = .ok (.i2b, 1) := by decide +kernel
theorem f216_35 : decode prog_10_method_72_code 35 = .ok (.i2l, 1) := by decide +kernel
theorem f216_36 : decode prog_10_method_72_code 36 = .ok (.lreturn, 1) := by decide +kernel
theorem f216_37 : decode prog_10_method_72_code 37 = .ok (.lload_n 1, 1) := by decide +kernel
theorem f216_38 : decode prog_10_method_72_code 38 = .ok (.l2i, 1) := by decide +kernel
theorem f216_39 : decode prog_10_method_72_code 39 = .ok (.i2s, 1) := by decide +kernel
theorem f216_40 : decode prog_10_method_72_code 40 = .ok (.i2l, 1) := by decide +kernel
theorem f216_41 : decode prog_10_method_72_code 41 = .ok (.lreturn, 1) := by decide +kernel
theorem f216_42 : decode prog_10_method_72_code 42 = .ok (.lload_n 1, 1) := by decide +kernel
theorem f216_43 : decode prog_10_method_72_code 43 = .ok (.l2i, 1) := by decide +kernel
theorem f216_44 : decode prog_10_method_72_code 44 = .ok (.i2l, 1) := by decide +kernel
theorem f216_45 : decode prog_10_method_72_code 45 = .ok (.lreturn, 1) := by decide +kernel
theorem f216_46 : decode prog_10_method_72_code 46 = .ok (.lload_n 1, 1) := by decide +kernel
theorem f216_47 : decode prog_10_method_72_code 47 = .ok (.lreturn, 1) := by decide +kernel
theorem f216_48 : decode prog_10_method_72_code 48 = .ok (.lload_n 1, 1) := by decide +kernel
theorem f216_49 : decode prog_10_method_72_code 49 = .ok (.lconst 0, 1) := by decide +kernel
theorem f216_50 : decode prog_10_method_72_code 50 = .ok (.lcmp, 1) := by decide +kernel
theorem f216_51 : decode prog_10_method_72_code 51 = .ok (.ifCond .eq 7, 3) := by decide +kernel
theorem f216_54 : decode prog_10_method_72_code 54 = .ok (.lconst 1, 1) := by decide +kernel
theorem f216_55 : decode prog_10_method_72_code 55 = .ok (.goto 4, 3) := by decide +kernel
theorem f216_58 : decode prog_10_method_72_code 58 = .ok (.lconst 0, 1) := by decide +kernel
theorem f216_59 : decode prog_10_method_72_code 59 = .ok (.lreturn, 1) := by decide +kernel
section YD
variable {zl : Nat} {nl : Option Nat} {h : Hp}
/-- HatterTunes.isHead(I)Z -/
theorem E15 {d : Nat} {K : Int → Hp → Prop} (w : yWF zl nl h) {x0 : Int} (hd : 1 ≤ d) (k : ((((0 : Int) ≤ x0 ∧ x0 < (zV h 37 10)) → K 1 h) ∧ (¬ (((0 : Int) ≤ x0 ∧ x0 < (zV h 37 10))) → K 0 h))) : yI d 15 [vR (some 32), vI x0] h K := by
  refine y_en (L := [some (vR (some 32)), some (vI x0)]) rfl rfl ?_
  refine y_s (pc' := 1) (L' := [some (vR (some 32)), some (vI x0)]) (st' := [vI x0]) (h' := h) f15_0 rfl ?_
  refine y_s (pc' := 2) (L' := [some (vR (some 32)), some (vI x0)]) (st' := [vR (some 32), vI x0]) (h' := h) f15_1 rfl ?_
  refine y_gr (pc' := 5) f15_2 yf_7_23 rfl rfl (ys32 w) (yp32_1 w) rfl ?_
  refine y_gi (pc' := 8) f15_5 yf_7_69 rfl rfl (ys37 w) rfl ?_
  refine y_cI (pc' := 11) (as := [vI x0, vI (zV h 37 10)]) (r := []) f15_8 rfl hd rfl ?_
  refine sp10 w (fun c => ?_) (fun c => ?_)
  · replace k := k.1 c
    exact y_ri f15_11 ⟨rfl, k⟩
  · replace k := k.2 c
    exact y_ri f15_11 ⟨rfl, k⟩
/-- HatterTunes$Tape.hasPlace(I)Z -/
theorem E104 {d : Nat} {K : Int → Hp → Prop} (w : yWF zl nl h) {a : Nat} (ha : yTp a) {x0 : Int} (hd : 1 ≤ d) (k : ((((0 : Int) ≤ x0 ∧ x0 < (zV h a 2)) → K 1 h) ∧ (¬ (((0 : Int) ≤ x0 ∧ x0 < (zV h a 2))) → K 0 h))) : yI d 104 [vR (some a), vI x0] h K := by
  refine y_en (L := [some (vR (some a)), some (vI x0)]) rfl rfl ?_
  refine y_s (pc' := 1) (L' := [some (vR (some a)), some (vI x0)]) (st' := [vI x0]) (h' := h) f104_0 rfl ?_
  refine y_s (pc' := 2) (L' := [some (vR (some a)), some (vI x0)]) (st' := [vR (some a), vI x0]) (h' := h) f104_1 rfl ?_
  refine y_gi (pc' := 5) f104_2 yf_5_19 rfl rfl (ysT0 w ha) rfl ?_
  refine y_cI (pc' := 8) (as := [vI x0, vI (zV h a 2)]) (r := []) f104_5 rfl hd rfl ?_
  refine sp10 w (fun c => ?_) (fun c => ?_)
  · replace k := k.1 c
    exact y_ri f104_8 ⟨rfl, k⟩
  · replace k := k.2 c
    exact y_ri f104_8 ⟨rfl, k⟩
/-- HatterTunes$Text.take(I)Z -/
theorem E63 {d : Nat} {K : Int → Hp → Prop} (w : yWF zl nl h) {x0 : Int} (hd : 1 ≤ d) (k : ((zV h 82 1 ≤ 100) ∧ (((ypeek h) = x0 → K 1 (zsetV h 82 2 (zw ((zV h 82 2) + 1)))) ∧ (¬ ((ypeek h) = x0) → K 0 h)))) : yI d 63 [vR (some 82), vI x0] h K := by
  refine y_en (L := [some (vR (some 82)), some (vI x0)]) rfl rfl ?_
  refine y_s (pc' := 1) (L' := [some (vR (some 82)), some (vI x0)]) (st' := [vR (some 82)]) (h' := h) f63_0 rfl ?_
  refine y_cI (pc' := 4) (as := [vR (some 82)]) (r := []) f63_1 (yzv ym_6_39 rfl (ys82 w) rfl rfl) hd rfl ?_
  have p0 := k.1
  replace k := k.2
  refine sp50 w p0 ?_
  refine y_s (pc' := 5) (L' := [some (vR (some 82)), some (vI x0)]) (st' := [vI x0, vI (ypeek h)]) (h' := h) f63_4 rfl ?_
  refine y_ic (pcT := 10) (pc' := 8) (P := (ypeek h) = x0) f63_5 rfl rfl rfl (fun c => ?_) (fun c => ?_)
  · replace k := k.1 c
    refine y_s (pc' := 11) (L' := [some (vR (some 82)), some (vI x0)]) (st' := [vR (some 82)]) (h' := h) f63_10 rfl ?_
    refine y_s (pc' := 12) (L' := [some (vR (some 82)), some (vI x0)]) (st' := [vR (some 82), vR (some 82)]) (h' := h) f63_11 rfl ?_
    refine y_gi (pc' := 15) f63_12 yf_6_28 rfl rfl (ys82 w) rfl ?_
    refine y_s (pc' := 16) (L' := [some (vR (some 82)), some (vI x0)]) (st' := [vI 1, vI (zV h 82 2), vR (some 82)]) (h' := h) f63_15 rfl ?_
    refine y_s (pc' := 17) (L' := [some (vR (some 82)), some (vI x0)]) (st' := [vI (zw ((zV h 82 2) + 1)), vR (some 82)]) (h' := h) f63_16 rfl ?_
    refine y_pi (pc' := 20) f63_17 yf_6_28 rfl rfl (ys82 w) (by decide) (Or.inl rfl) rfl ?_
    refine y_s (pc' := 21) (L' := [some (vR (some 82)), some (vI x0)]) (st' := [vI 1]) (h' := (zsetV h 82 2 (zw ((zV h 82 2) + 1)))) f63_20 rfl ?_
    exact y_ri f63_21 ⟨rfl, k⟩
  · replace k := k.2 c
    refine y_s (pc' := 9) (L' := [some (vR (some 82)), some (vI x0)]) (st' := [vI 0]) (h' := h) f63_8 rfl ?_
    exact y_ri f63_9 ⟨rfl, k⟩
/-- HatterTunes$Text.isNumber()Z -/
theorem E65 {d : Nat} {K : Int → Hp → Prop} (w : yWF zl nl h) (hd : 1 ≤ d) (k : ((zV h 82 1 ≤ 100) ∧ (((48 ≤ (ypeek h) ∧ (ypeek h) ≤ 57) → ((zV h 82 1 ≤ 100) ∧ (∀ h_33, (zsetV (zsetV h 82 3 (zw ((ypeek h) - 48))) 82 2 (zw ((zV (zsetV h 82 3 (zw ((ypeek h) - 48))) 82 2) + 1))) = h_33 → ((zV h_33 82 1 ≤ 100) ∧ (((48 ≤ (ypeek h_33) ∧ (ypeek h_33) ≤ 57) → ((zV h_33 82 1 ≤ 100) ∧ (∀ h_72, (zsetV (zsetV h_33 82 3 (zw ((zw ((zw ((zV h_33 82 3) * 10)) + (ypeek h_33))) - 48))) 82 2 (zw ((zV (zsetV h_33 82 3 (zw ((zw ((zw ((zV h_33 82 3) * 10)) + (ypeek h_33))) - 48))) 82 2) + 1))) = h_72 → K 1 h_72))) ∧ (¬ ((48 ≤ (ypeek h_33) ∧ (ypeek h_33) ≤ 57)) → K 1 h_33)))))) ∧ (¬ ((48 ≤ (ypeek h) ∧ (ypeek h) ≤ 57)) → K 0 h)))) : yI d 65 [vR (some 82)] h K := by
  refine y_en (L := [some (vR (some 82))]) rfl rfl ?_
  refine y_s (pc' := 1) (L' := [some (vR (some 82))]) (st' := [vR (some 82)]) (h' := h) f65_0 rfl ?_
  refine y_cI (pc' := 4) (as := [vR (some 82)]) (r := []) f65_1 (yzv ym_6_39 rfl (ys82 w) rfl rfl) hd rfl ?_
  have p0 := k.1
  replace k := k.2
  refine sp50 w p0 ?_
  refine y_cI (pc' := 7) (as := [vI (ypeek h)]) (r := []) f65_4 rfl hd rfl ?_
  refine sp66 w (fun c => ?_) (fun c => ?_)
  · replace k := k.1 c
    refine y_ift (pcT := 12) f65_7 rfl rfl ?_
    refine y_s (pc' := 13) (L' := [some (vR (some 82))]) (st' := [vR (some 82)]) (h' := h) f65_12 rfl ?_
    refine y_s (pc' := 14) (L' := [some (vR (some 82))]) (st' := [vR (some 82), vR (some 82)]) (h' := h) f65_13 rfl ?_
    refine y_cI (pc' := 17) (as := [vR (some 82)]) (r := [vR (some 82)]) f65_14 (yzv ym_6_39 rfl (ys82 w) rfl rfl) hd rfl ?_
    have p0 := k.1
    replace k := k.2
    refine sp50 w p0 ?_
    refine y_s (pc' := 19) (L' := [some (vR (some 82))]) (st' := [vI 48, vI (ypeek h), vR (some 82)]) (h' := h) f65_17 rfl ?_
    refine y_s (pc' := 20) (L' := [some (vR (some 82))]) (st' := [vI (zw ((ypeek h) - 48)), vR (some 82)]) (h' := h) f65_19 rfl ?_
    refine y_pi (pc' := 23) f65_20 yf_6_62 rfl rfl (ys82 w) (by decide) (Or.inl rfl) rfl ?_
    refine y_s (pc' := 24) (L' := [some (vR (some 82))]) (st' := [vR (some 82)]) (h' := (zsetV h 82 3 (zw ((ypeek h) - 48)))) f65_23 rfl ?_
    refine y_s (pc' := 25) (L' := [some (vR (some 82))]) (st' := [vR (some 82), vR (some 82)]) (h' := (zsetV h 82 3 (zw ((ypeek h) - 48)))) f65_24 rfl ?_
    refine y_gi (pc' := 28) f65_25 yf_6_28 rfl rfl (ys82 w) rfl ?_
    refine y_s (pc' := 29) (L' := [some (vR (some 82))]) (st' := [vI 1, vI (zV (zsetV h 82 3 (zw ((ypeek h) - 48))) 82 2), vR (some 82)]) (h' := (zsetV h 82 3 (zw ((ypeek h) - 48)))) f65_28 rfl ?_
    refine y_s (pc' := 30) (L' := [some (vR (some 82))]) (st' := [vI (zw ((zV (zsetV h 82 3 (zw ((ypeek h) - 48))) 82 2) + 1)), vR (some 82)]) (h' := (zsetV h 82 3 (zw ((ypeek h) - 48)))) f65_29 rfl ?_
    refine y_pi (pc' := 33) f65_30 yf_6_28 rfl rfl (ys82 w) (by decide) (Or.inl rfl) rfl ?_
    generalize e_33 : (zsetV (zsetV h 82 3 (zw ((ypeek h) - 48))) 82 2 (zw ((zV (zsetV h 82 3 (zw ((ypeek h) - 48))) 82 2) + 1))) = h_33
    replace k := k _ e_33
    have w : yWF zl nl h_33 := by rw [← e_33]; exact w
    refine y_s (pc' := 34) (L' := [some (vR (some 82))]) (st' := [vR (some 82)]) (h' := h_33) f65_33 rfl ?_
    refine y_cI (pc' := 37) (as := [vR (some 82)]) (r := []) f65_34 (yzv ym_6_39 rfl (ys82 w) rfl rfl) hd rfl ?_
    have p0 := k.1
    replace k := k.2
    refine sp50 w p0 ?_
    refine y_cI (pc' := 40) (as := [vI (ypeek h_33)]) (r := []) f65_37 rfl hd rfl ?_
    refine sp66 w (fun c => ?_) (fun c => ?_)
    · replace k := k.1 c
      refine y_iff (pcT := 72) (pc' := 43) f65_40 rfl rfl rfl ?_
      refine y_s (pc' := 44) (L' := [some (vR (some 82))]) (st' := [vR (some 82)]) (h' := h_33) f65_43 rfl ?_
      refine y_s (pc' := 45) (L' := [some (vR (some 82))]) (st' := [vR (some 82), vR (some 82)]) (h' := h_33) f65_44 rfl ?_
      refine y_gi (pc' := 48) f65_45 yf_6_62 rfl rfl (ys82 w) rfl ?_
      refine y_s (pc' := 50) (L' := [some (vR (some 82))]) (st' := [vI 10, vI (zV h_33 82 3), vR (some 82)]) (h' := h_33) f65_48 rfl ?_
      refine y_s (pc' := 51) (L' := [some (vR (some 82))]) (st' := [vI (zw ((zV h_33 82 3) * 10)), vR (some 82)]) (h' := h_33) f65_50 rfl ?_
      refine y_s (pc' := 52) (L' := [some (vR (some 82))]) (st' := [vR (some 82), vI (zw ((zV h_33 82 3) * 10)), vR (some 82)]) (h' := h_33) f65_51 rfl ?_
      refine y_cI (pc' := 55) (as := [vR (some 82)]) (r := [vI (zw ((zV h_33 82 3) * 10)), vR (some 82)]) f65_52 (yzv ym_6_39 rfl (ys82 w) rfl rfl) hd rfl ?_
      have p0 := k.1
      replace k := k.2
      refine sp50 w p0 ?_
      refine y_s (pc' := 56) (L' := [some (vR (some 82))]) (st' := [vI (zw ((zw ((zV h_33 82 3) * 10)) + (ypeek h_33))), vR (some 82)]) (h' := h_33) f65_55 rfl ?_
      refine y_s (pc' := 58) (L' := [some (vR (some 82))]) (st' := [vI 48, vI (zw ((zw ((zV h_33 82 3) * 10)) + (ypeek h_33))), vR (some 82)]) (h' := h_33) f65_56 rfl ?_
      refine y_s (pc' := 59) (L' := [some (vR (some 82))]) (st' := [vI (zw ((zw ((zw ((zV h_33 82 3) * 10)) + (ypeek h_33))) - 48)), vR (some 82)]) (h' := h_33) f65_58 rfl ?_
      refine y_pi (pc' := 62) f65_59 yf_6_62 rfl rfl (ys82 w) (by decide) (Or.inl rfl) rfl ?_
      refine y_s (pc' := 63) (L' := [some (vR (some 82))]) (st' := [vR (some 82)]) (h' := (zsetV h_33 82 3 (zw ((zw ((zw ((zV h_33 82 3) * 10)) + (ypeek h_33))) - 48)))) f65_62 rfl ?_
      refine y_s (pc' := 64) (L' := [some (vR (some 82))]) (st' := [vR (some 82), vR (some 82)]) (h' := (zsetV h_33 82 3 (zw ((zw ((zw ((zV h_33 82 3) * 10)) + (ypeek h_33))) - 48)))) f65_63 rfl ?_
      refine y_gi (pc' := 67) f65_64 yf_6_28 rfl rfl (ys82 w) rfl ?_
      refine y_s (pc' := 68) (L' := [some (vR (some 82))]) (st' := [vI 1, vI (zV (zsetV h_33 82 3 (zw ((zw ((zw ((zV h_33 82 3) * 10)) + (ypeek h_33))) - 48))) 82 2), vR (some 82)]) (h' := (zsetV h_33 82 3 (zw ((zw ((zw ((zV h_33 82 3) * 10)) + (ypeek h_33))) - 48)))) f65_67 rfl ?_
      refine y_s (pc' := 69) (L' := [some (vR (some 82))]) (st' := [vI (zw ((zV (zsetV h_33 82 3 (zw ((zw ((zw ((zV h_33 82 3) * 10)) + (ypeek h_33))) - 48))) 82 2) + 1)), vR (some 82)]) (h' := (zsetV h_33 82 3 (zw ((zw ((zw ((zV h_33 82 3) * 10)) + (ypeek h_33))) - 48)))) f65_68 rfl ?_
      refine y_pi (pc' := 72) f65_69 yf_6_28 rfl rfl (ys82 w) (by decide) (Or.inl rfl) rfl ?_
      generalize e_72 : (zsetV (zsetV h_33 82 3 (zw ((zw ((zw ((zV h_33 82 3) * 10)) + (ypeek h_33))) - 48))) 82 2 (zw ((zV (zsetV h_33 82 3 (zw ((zw ((zw ((zV h_33 82 3) * 10)) + (ypeek h_33))) - 48))) 82 2) + 1))) = h_72
      replace k := k _ e_72
      have w : yWF zl nl h_72 := by rw [← e_72]; exact w
      refine y_s (pc' := 73) (L' := [some (vR (some 82))]) (st' := [vI 1]) (h' := h_72) f65_72 rfl ?_
      exact y_ri f65_73 ⟨rfl, k⟩
    · replace k := k.2 c
      refine y_ift (pcT := 72) f65_40 rfl rfl ?_
      refine y_s (pc' := 73) (L' := [some (vR (some 82))]) (st' := [vI 1]) (h' := h_33) f65_72 rfl ?_
      exact y_ri f65_73 ⟨rfl, k⟩
  · replace k := k.2 c
    refine y_iff (pcT := 12) (pc' := 10) f65_7 rfl rfl rfl ?_
    refine y_s (pc' := 11) (L' := [some (vR (some 82))]) (st' := [vI 0]) (h' := h) f65_10 rfl ?_
    exact y_ri f65_11 ⟨rfl, k⟩
/-- HatterTunes$House.raiseBump(II)V -/
theorem E31 {d : Nat} {K : Hp → Prop} (w : yWF zl nl h) {a : Nat} (ha : yHs a) {x0 : Int} {x1 : Int} (hd : 1 ≤ d) (k : (((0 : Int) ≤ x0 ∧ x0 < 6 ∧ (0 : Int) ≤ x1 ∧ x1 < 6) ∧ (((0 : Int) ≤ x0 ∧ x0 < 6 ∧ (0 : Int) ≤ x1 ∧ x1 < 6) ∧ K (zsetV h (a + 4) (6 * x0 + x1).toNat (zrem (zw ((zV h (a + 4) (6 * x0 + x1).toNat) + 1)) 10))))) : yU d 31 [vR (some a), vI x0, vI x1] h K := by
  refine y_en (L := [some (vR (some a)), some (vI x0), some (vI x1)]) rfl rfl ?_
  refine y_s (pc' := 1) (L' := [some (vR (some a)), some (vI x0), some (vI x1)]) (st' := [vR (some a)]) (h' := h) f31_0 rfl ?_
  refine y_s (pc' := 2) (L' := [some (vR (some a)), some (vI x0), some (vI x1)]) (st' := [vI x0, vR (some a)]) (h' := h) f31_1 rfl ?_
  refine y_s (pc' := 3) (L' := [some (vR (some a)), some (vI x0), some (vI x1)]) (st' := [vI x1, vI x0, vR (some a)]) (h' := h) f31_2 rfl ?_
  refine y_s (pc' := 4) (L' := [some (vR (some a)), some (vI x0), some (vI x1)]) (st' := [vR (some a), vI x1, vI x0, vR (some a)]) (h' := h) f31_3 rfl ?_
  refine y_s (pc' := 5) (L' := [some (vR (some a)), some (vI x0), some (vI x1)]) (st' := [vI x0, vR (some a), vI x1, vI x0, vR (some a)]) (h' := h) f31_4 rfl ?_
  refine y_s (pc' := 6) (L' := [some (vR (some a)), some (vI x0), some (vI x1)]) (st' := [vI x1, vI x0, vR (some a), vI x1, vI x0, vR (some a)]) (h' := h) f31_5 rfl ?_
  refine y_cI (pc' := 9) (as := [vR (some a), vI x0, vI x1]) (r := [vI x1, vI x0, vR (some a)]) f31_6 (yzv ym_2_77 rfl (ysH0 w ha) rfl rfl) hd rfl ?_
  have p0 := k.1
  replace k := k.2
  refine sp20 w ha p0 ?_
  refine y_s (pc' := 10) (L' := [some (vR (some a)), some (vI x0), some (vI x1)]) (st' := [vI 1, vI (zV h (a + 4) (6 * x0 + x1).toNat), vI x1, vI x0, vR (some a)]) (h' := h) f31_9 rfl ?_
  refine y_s (pc' := 11) (L' := [some (vR (some a)), some (vI x0), some (vI x1)]) (st' := [vI (zw ((zV h (a + 4) (6 * x0 + x1).toNat) + 1)), vI x1, vI x0, vR (some a)]) (h' := h) f31_10 rfl ?_
  refine y_s (pc' := 13) (L' := [some (vR (some a)), some (vI x0), some (vI x1)]) (st' := [vI 10, vI (zw ((zV h (a + 4) (6 * x0 + x1).toNat) + 1)), vI x1, vI x0, vR (some a)]) (h' := h) f31_11 rfl ?_
  refine y_rm (pc' := 14) f31_13 (by decide) rfl ?_
  refine y_cU (pc' := 17) (as := [vR (some a), vI x0, vI x1, vI (zrem (zw ((zV h (a + 4) (6 * x0 + x1).toNat) + 1)) 10)]) (r := []) f31_14 (yzv ym_2_73 rfl (ysH0 w ha) rfl rfl) hd rfl ?_
  have p0 := k.1
  replace k := k.2
  refine sp13 w ha p0 ?_
  exact y_ru f31_17 ⟨rfl, k⟩
/-- HatterTunesModel.isOne(I)Z -/
theorem E131 {d : Nat} {K : Int → Hp → Prop} (w : yWF zl nl h) {x0 : Int} (hd : 1 ≤ d) (k : ((((0 : Int) ≤ x0 ∧ x0 ≤ (zw ((zV h 129 0) - 1))) → K 1 h) ∧ (¬ (((0 : Int) ≤ x0 ∧ x0 ≤ (zw ((zV h 129 0) - 1)))) → K 0 h))) : yI d 131 [vR (some 129), vI x0] h K := by
  refine y_en (L := [some (vR (some 129)), some (vI x0)]) rfl rfl ?_
  refine y_s (pc' := 1) (L' := [some (vR (some 129)), some (vI x0)]) (st' := [vI x0]) (h' := h) f131_0 rfl ?_
  refine y_s (pc' := 2) (L' := [some (vR (some 129)), some (vI x0)]) (st' := [vI 0, vI x0]) (h' := h) f131_1 rfl ?_
  refine y_s (pc' := 3) (L' := [some (vR (some 129)), some (vI x0)]) (st' := [vR (some 129), vI 0, vI x0]) (h' := h) f131_2 rfl ?_
  refine y_gi (pc' := 6) f131_3 yf_8_114 rfl rfl (ys129 w) rfl ?_
  refine y_s (pc' := 7) (L' := [some (vR (some 129)), some (vI x0)]) (st' := [vI 1, vI (zV h 129 0), vI 0, vI x0]) (h' := h) f131_6 rfl ?_
  refine y_s (pc' := 8) (L' := [some (vR (some 129)), some (vI x0)]) (st' := [vI (zw ((zV h 129 0) - 1)), vI 0, vI x0]) (h' := h) f131_7 rfl ?_
  refine y_cI (pc' := 11) (as := [vI x0, vI 0, vI (zw ((zV h 129 0) - 1))]) (r := []) f131_8 rfl hd rfl ?_
  refine sp129 w (fun c => ?_) (fun c => ?_)
  · replace k := k.1 c
    exact y_ri f131_11 ⟨rfl, k⟩
  · replace k := k.2 c
    exact y_ri f131_11 ⟨rfl, k⟩
/-- HatterTunesModel.isBump(I)Z -/
theorem E132 {d : Nat} {K : Int → Hp → Prop} (w : yWF zl nl h) {x0 : Int} (hd : 1 ≤ d) (k : ((((0 : Int) ≤ x0 ∧ x0 ≤ 5) → K 1 h) ∧ (¬ (((0 : Int) ≤ x0 ∧ x0 ≤ 5)) → K 0 h))) : yI d 132 [vI x0] h K := by
  refine y_en (L := [some (vI x0)]) rfl rfl ?_
  refine y_s (pc' := 1) (L' := [some (vI x0)]) (st' := [vI x0]) (h' := h) f132_0 rfl ?_
  refine y_s (pc' := 2) (L' := [some (vI x0)]) (st' := [vI 0, vI x0]) (h' := h) f132_1 rfl ?_
  refine y_s (pc' := 3) (L' := [some (vI x0)]) (st' := [vI 5, vI 0, vI x0]) (h' := h) f132_2 rfl ?_
  refine y_cI (pc' := 6) (as := [vI x0, vI 0, vI 5]) (r := []) f132_3 rfl hd rfl ?_
  refine sp129 w (fun c => ?_) (fun c => ?_)
  · replace k := k.1 c
    exact y_ri f132_6 ⟨rfl, k⟩
  · replace k := k.2 c
    exact y_ri f132_6 ⟨rfl, k⟩
/-- HatterTunesModel.isNote(I)Z -/
theorem E151 {d : Nat} {K : Int → Hp → Prop} (w : yWF zl nl h) {x0 : Int} (hd : 1 ≤ d) (k : ((((0 : Int) ≤ x0 ∧ x0 ≤ 9) → K 1 h) ∧ (¬ (((0 : Int) ≤ x0 ∧ x0 ≤ 9)) → K 0 h))) : yI d 151 [vI x0] h K := by
  refine y_en (L := [some (vI x0)]) rfl rfl ?_
  refine y_s (pc' := 1) (L' := [some (vI x0)]) (st' := [vI x0]) (h' := h) f151_0 rfl ?_
  refine y_s (pc' := 2) (L' := [some (vI x0)]) (st' := [vI 0, vI x0]) (h' := h) f151_1 rfl ?_
  refine y_s (pc' := 4) (L' := [some (vI x0)]) (st' := [vI 9, vI 0, vI x0]) (h' := h) f151_2 rfl ?_
  refine y_cI (pc' := 7) (as := [vI x0, vI 0, vI 9]) (r := []) f151_4 rfl hd rfl ?_
  refine sp129 w (fun c => ?_) (fun c => ?_)
  · replace k := k.1 c
    exact y_ri f151_7 ⟨rfl, k⟩
  · replace k := k.2 c
    exact y_ri f151_7 ⟨rfl, k⟩
/-- HatterTunesModel.isTape(I)Z -/
theorem E214 {d : Nat} {K : Int → Hp → Prop} (w : yWF zl nl h) {x0 : Int} (hd : 1 ≤ d) (k : ((((0 : Int) ≤ x0 ∧ x0 ≤ 5) → K 1 h) ∧ (¬ (((0 : Int) ≤ x0 ∧ x0 ≤ 5)) → K 0 h))) : yI d 214 [vI x0] h K := by
  refine y_en (L := [some (vI x0)]) rfl rfl ?_
  refine y_s (pc' := 1) (L' := [some (vI x0)]) (st' := [vI x0]) (h' := h) f214_0 rfl ?_
  refine y_s (pc' := 2) (L' := [some (vI x0)]) (st' := [vI 0, vI x0]) (h' := h) f214_1 rfl ?_
  refine y_s (pc' := 3) (L' := [some (vI x0)]) (st' := [vI 5, vI 0, vI x0]) (h' := h) f214_2 rfl ?_
  refine y_cI (pc' := 6) (as := [vI x0, vI 0, vI 5]) (r := []) f214_3 rfl hd rfl ?_
  refine sp129 w (fun c => ?_) (fun c => ?_)
  · replace k := k.1 c
    exact y_ri f214_6 ⟨rfl, k⟩
  · replace k := k.2 c
    exact y_ri f214_6 ⟨rfl, k⟩
/-- HatterTunesModel.is(I)Z -/
theorem E158 {d : Nat} {K : Int → Hp → Prop} (w : yWF zl nl h) {x0 : Int} (k : (((zV h 129 11) = (zV h 129 9) → K 0 h) ∧ (¬ ((zV h 129 11) = (zV h 129 9)) → ((0 ≤ (zV h 129 11) ∧ (zV h 129 11) < 100) ∧ (((zV h 136 ((zV h 129 11)).toNat) = x0 → K 1 (zsetV h 129 11 (zw ((zV h 129 11) + 1)))) ∧ (¬ ((zV h 136 ((zV h 129 11)).toNat) = x0) → K 0 h)))))) : yI d 158 [vR (some 129), vI x0] h K := by
  refine y_en (L := [some (vR (some 129)), some (vI x0)]) rfl rfl ?_
  refine y_s (pc' := 1) (L' := [some (vR (some 129)), some (vI x0)]) (st' := [vR (some 129)]) (h' := h) f158_0 rfl ?_
  refine y_gi (pc' := 4) f158_1 yf_8_160 rfl rfl (ys129 w) rfl ?_
  refine y_s (pc' := 5) (L' := [some (vR (some 129)), some (vI x0)]) (st' := [vR (some 129), vI (zV h 129 11)]) (h' := h) f158_4 rfl ?_
  refine y_gi (pc' := 8) f158_5 yf_8_157 rfl rfl (ys129 w) rfl ?_
  refine y_ic (pcT := 24) (pc' := 11) (P := (zV h 129 11) = (zV h 129 9)) f158_8 rfl rfl rfl (fun c => ?_) (fun c => ?_)
  · replace k := k.1 c
    refine y_s (pc' := 25) (L' := [some (vR (some 129)), some (vI x0)]) (st' := [vI 0]) (h' := h) f158_24 rfl ?_
    exact y_ri f158_25 ⟨rfl, k⟩
  · replace k := k.2 c
    refine y_s (pc' := 12) (L' := [some (vR (some 129)), some (vI x0)]) (st' := [vR (some 129)]) (h' := h) f158_11 rfl ?_
    refine y_gr (pc' := 15) f158_12 yf_8_30 rfl rfl (ys129 w) (yp129_10 w) rfl ?_
    refine y_s (pc' := 16) (L' := [some (vR (some 129)), some (vI x0)]) (st' := [vR (some 129), vR (some 136)]) (h' := h) f158_15 rfl ?_
    refine y_gi (pc' := 19) f158_16 yf_8_160 rfl rfl (ys129 w) rfl ?_
    refine y_ia (pc' := 20) (x := (zV h 136 ((zV h 129 11)).toNat)) f158_19 (ys136 w) k.1 rfl rfl ?_
    replace k := k.2
    refine y_s (pc' := 21) (L' := [some (vR (some 129)), some (vI x0)]) (st' := [vI x0, vI (zV h 136 ((zV h 129 11)).toNat)]) (h' := h) f158_20 rfl ?_
    refine y_ic (pcT := 26) (pc' := 24) (P := (zV h 136 ((zV h 129 11)).toNat) = x0) f158_21 rfl rfl rfl (fun c => ?_) (fun c => ?_)
    · replace k := k.1 c
      refine y_s (pc' := 27) (L' := [some (vR (some 129)), some (vI x0)]) (st' := [vR (some 129)]) (h' := h) f158_26 rfl ?_
      refine y_s (pc' := 28) (L' := [some (vR (some 129)), some (vI x0)]) (st' := [vR (some 129), vR (some 129)]) (h' := h) f158_27 rfl ?_
      refine y_gi (pc' := 31) f158_28 yf_8_160 rfl rfl (ys129 w) rfl ?_
      refine y_s (pc' := 32) (L' := [some (vR (some 129)), some (vI x0)]) (st' := [vI 1, vI (zV h 129 11), vR (some 129)]) (h' := h) f158_31 rfl ?_
      refine y_s (pc' := 33) (L' := [some (vR (some 129)), some (vI x0)]) (st' := [vI (zw ((zV h 129 11) + 1)), vR (some 129)]) (h' := h) f158_32 rfl ?_
      refine y_pi (pc' := 36) f158_33 yf_8_160 rfl rfl (ys129 w) (by decide) (Or.inl rfl) rfl ?_
      refine y_s (pc' := 37) (L' := [some (vR (some 129)), some (vI x0)]) (st' := [vI 1]) (h' := (zsetV h 129 11 (zw ((zV h 129 11) + 1)))) f158_36 rfl ?_
      exact y_ri f158_37 ⟨rfl, k⟩
    · replace k := k.2 c
      refine y_s (pc' := 25) (L' := [some (vR (some 129)), some (vI x0)]) (st' := [vI 0]) (h' := h) f158_24 rfl ?_
      exact y_ri f158_25 ⟨rfl, k⟩
/-- HatterTunesModel.isDigit()Z -/
theorem E160 {d : Nat} {K : Int → Hp → Prop} (w : yWF zl nl h) (k : (((zV h 129 9) ≤ (zV h 129 11) → K 0 h) ∧ (¬ ((zV h 129 9) ≤ (zV h 129 11)) → ((0 ≤ (zV h 129 11) ∧ (zV h 129 11) < 100) ∧ (((zV h 136 ((zV h 129 11)).toNat) < 48 → K 0 h) ∧ (¬ ((zV h 136 ((zV h 129 11)).toNat) < 48) → ((0 ≤ (zV h 129 11) ∧ (zV h 129 11) < 100) ∧ ((57 < (zV h 136 ((zV h 129 11)).toNat) → K 0 h) ∧ (¬ (57 < (zV h 136 ((zV h 129 11)).toNat)) → K 1 h))))))))) : yI d 160 [vR (some 129)] h K := by
  refine y_en (L := [some (vR (some 129))]) rfl rfl ?_
  refine y_s (pc' := 1) (L' := [some (vR (some 129))]) (st' := [vR (some 129)]) (h' := h) f160_0 rfl ?_
  refine y_gi (pc' := 4) f160_1 yf_8_160 rfl rfl (ys129 w) rfl ?_
  refine y_s (pc' := 5) (L' := [some (vR (some 129))]) (st' := [vR (some 129), vI (zV h 129 11)]) (h' := h) f160_4 rfl ?_
  refine y_gi (pc' := 8) f160_5 yf_8_157 rfl rfl (ys129 w) rfl ?_
  refine y_ic (pcT := 43) (pc' := 11) (P := (zV h 129 9) ≤ (zV h 129 11)) f160_8 rfl rfl rfl (fun c => ?_) (fun c => ?_)
  · replace k := k.1 c
    refine y_s (pc' := 44) (L' := [some (vR (some 129))]) (st' := [vI 0]) (h' := h) f160_43 rfl ?_
    exact y_ri f160_44 ⟨rfl, k⟩
  · replace k := k.2 c
    refine y_s (pc' := 12) (L' := [some (vR (some 129))]) (st' := [vR (some 129)]) (h' := h) f160_11 rfl ?_
    refine y_gr (pc' := 15) f160_12 yf_8_30 rfl rfl (ys129 w) (yp129_10 w) rfl ?_
    refine y_s (pc' := 16) (L' := [some (vR (some 129))]) (st' := [vR (some 129), vR (some 136)]) (h' := h) f160_15 rfl ?_
    refine y_gi (pc' := 19) f160_16 yf_8_160 rfl rfl (ys129 w) rfl ?_
    refine y_ia (pc' := 20) (x := (zV h 136 ((zV h 129 11)).toNat)) f160_19 (ys136 w) k.1 rfl rfl ?_
    replace k := k.2
    refine y_s (pc' := 22) (L' := [some (vR (some 129))]) (st' := [vI 48, vI (zV h 136 ((zV h 129 11)).toNat)]) (h' := h) f160_20 rfl ?_
    refine y_ic (pcT := 43) (pc' := 25) (P := (zV h 136 ((zV h 129 11)).toNat) < 48) f160_22 rfl rfl rfl (fun c => ?_) (fun c => ?_)
    · replace k := k.1 c
      refine y_s (pc' := 44) (L' := [some (vR (some 129))]) (st' := [vI 0]) (h' := h) f160_43 rfl ?_
      exact y_ri f160_44 ⟨rfl, k⟩
    · replace k := k.2 c
      refine y_s (pc' := 26) (L' := [some (vR (some 129))]) (st' := [vR (some 129)]) (h' := h) f160_25 rfl ?_
      refine y_gr (pc' := 29) f160_26 yf_8_30 rfl rfl (ys129 w) (yp129_10 w) rfl ?_
      refine y_s (pc' := 30) (L' := [some (vR (some 129))]) (st' := [vR (some 129), vR (some 136)]) (h' := h) f160_29 rfl ?_
      refine y_gi (pc' := 33) f160_30 yf_8_160 rfl rfl (ys129 w) rfl ?_
      refine y_ia (pc' := 34) (x := (zV h 136 ((zV h 129 11)).toNat)) f160_33 (ys136 w) k.1 rfl rfl ?_
      replace k := k.2
      refine y_s (pc' := 36) (L' := [some (vR (some 129))]) (st' := [vI 57, vI (zV h 136 ((zV h 129 11)).toNat)]) (h' := h) f160_34 rfl ?_
      refine y_ic (pcT := 43) (pc' := 39) (P := 57 < (zV h 136 ((zV h 129 11)).toNat)) f160_36 rfl rfl rfl (fun c => ?_) (fun c => ?_)
      · replace k := k.1 c
        refine y_s (pc' := 44) (L' := [some (vR (some 129))]) (st' := [vI 0]) (h' := h) f160_43 rfl ?_
        exact y_ri f160_44 ⟨rfl, k⟩
      · replace k := k.2 c
        refine y_s (pc' := 40) (L' := [some (vR (some 129))]) (st' := [vI 1]) (h' := h) f160_39 rfl ?_
        refine y_go (pc' := 44) f160_40 rfl ?_
        exact y_ri f160_44 ⟨rfl, k⟩
/-- HatterTunesModel.isNumber()Z -/
theorem E159 {d : Nat} {K : Int → Hp → Prop} (w : yWF zl nl h) (k : (∀ h_10, (zsetV (zsetV h 129 12 0) 129 13 0) = h_10 → ZW d prog_10_method_14_code 8 10 [some (vR (some 129))] [] h_10 (yq 2 (yqI K)))) : yI d 159 [vR (some 129)] h K := by
  refine y_en (L := [some (vR (some 129))]) rfl rfl ?_
  refine y_s (pc' := 1) (L' := [some (vR (some 129))]) (st' := [vR (some 129)]) (h' := h) f159_0 rfl ?_
  refine y_s (pc' := 2) (L' := [some (vR (some 129))]) (st' := [vI 0, vR (some 129)]) (h' := h) f159_1 rfl ?_
  refine y_pi (pc' := 5) f159_2 yf_8_163 rfl rfl (ys129 w) (by decide) (Or.inl rfl) rfl ?_
  refine y_s (pc' := 6) (L' := [some (vR (some 129))]) (st' := [vR (some 129)]) (h' := (zsetV h 129 12 0)) f159_5 rfl ?_
  refine y_s (pc' := 7) (L' := [some (vR (some 129))]) (st' := [vI 0, vR (some 129)]) (h' := (zsetV h 129 12 0)) f159_6 rfl ?_
  refine y_pi (pc' := 10) f159_7 yf_8_166 rfl rfl (ys129 w) (by decide) (Or.inl rfl) rfl ?_
  generalize e_10 : (zsetV (zsetV h 129 12 0) 129 13 0) = h_10
  replace k := k _ e_10
  have w : yWF zl nl h_10 := by rw [← e_10]; exact w
  exact k
theorem W159_10 {d : Nat} {K : Int → Hp → Prop} (w : yWF zl nl h)  (hd : 1 ≤ d) (k : ((2 ≤ (zV h 129 13) → (((zV h 129 13) ≤ 0 → K 0 h) ∧ (¬ ((zV h 129 13) ≤ 0) → K 1 h))) ∧ (¬ (2 ≤ (zV h 129 13)) → yI (d - 1) 160 [vR (some 129)] h (fun x h' => ZW d prog_10_method_14_code 8 22 [some (vR (some 129))] [vI x] h' (yq 2 (yqI K)))))) : ZW d prog_10_method_14_code 8 10 [some (vR (some 129))] [] h (yq 2 (yqI K)) := by
  refine y_s (pc' := 11) (L' := [some (vR (some 129))]) (st' := [vR (some 129)]) (h' := h) f159_10 rfl ?_
  refine y_gi (pc' := 14) f159_11 yf_8_166 rfl rfl (ys129 w) rfl ?_
  refine y_s (pc' := 15) (L' := [some (vR (some 129))]) (st' := [vI 2, vI (zV h 129 13)]) (h' := h) f159_14 rfl ?_
  refine y_ic (pcT := 72) (pc' := 18) (P := 2 ≤ (zV h 129 13)) f159_15 rfl rfl rfl (fun c => ?_) (fun c => ?_)
  · replace k := k.1 c
    refine y_s (pc' := 73) (L' := [some (vR (some 129))]) (st' := [vR (some 129)]) (h' := h) f159_72 rfl ?_
    refine y_gi (pc' := 76) f159_73 yf_8_166 rfl rfl (ys129 w) rfl ?_
    refine y_if (pcT := 83) (pc' := 79) (P := (zV h 129 13) ≤ 0) f159_76 rfl rfl rfl (fun c => ?_) (fun c => ?_)
    · replace k := k.1 c
      refine y_s (pc' := 84) (L' := [some (vR (some 129))]) (st' := [vI 0]) (h' := h) f159_83 rfl ?_
      exact y_ri f159_84 ⟨rfl, k⟩
    · replace k := k.2 c
      refine y_s (pc' := 80) (L' := [some (vR (some 129))]) (st' := [vI 1]) (h' := h) f159_79 rfl ?_
      refine y_go (pc' := 84) f159_80 rfl ?_
      exact y_ri f159_84 ⟨rfl, k⟩
  · replace k := k.2 c
    refine y_s (pc' := 19) (L' := [some (vR (some 129))]) (st' := [vR (some 129)]) (h' := h) f159_18 rfl ?_
    refine y_cI (pc' := 22) (as := [vR (some 129)]) (r := []) f159_19 (yzv ym_8_169 rfl (ys129 w) rfl rfl) hd rfl ?_
    exact k
theorem W159_22 {d : Nat} {K : Int → Hp → Prop} (w : yWF zl nl h) {s0 : Int} (k : ((s0 = 0 → (((zV h 129 13) ≤ 0 → K 0 h) ∧ (¬ ((zV h 129 13) ≤ 0) → K 1 h))) ∧ (¬ (s0 = 0) → ((0 ≤ (zV h 129 11) ∧ (zV h 129 11) < 100) ∧ (∀ h_59, (zsetV (zsetV h 129 12 (zw ((zw ((zw (10 * (zV h 129 12))) + (zV h 136 ((zV h 129 11)).toNat))) - 48))) 129 11 (zw ((zV (zsetV h 129 12 (zw ((zw ((zw (10 * (zV h 129 12))) + (zV h 136 ((zV h 129 11)).toNat))) - 48))) 129 11) + 1))) = h_59 → ZW d prog_10_method_14_code 8 10 [some (vR (some 129))] [] (zsetV h_59 129 13 (zw ((zV h_59 129 13) + 1))) (yq 2 (yqI K))))))) : ZW d prog_10_method_14_code 8 22 [some (vR (some 129))] [vI s0] h (yq 2 (yqI K)) := by
  refine y_if (pcT := 72) (pc' := 25) (P := s0 = 0) f159_22 rfl rfl rfl (fun c => ?_) (fun c => ?_)
  · replace k := k.1 c
    refine y_s (pc' := 73) (L' := [some (vR (some 129))]) (st' := [vR (some 129)]) (h' := h) f159_72 rfl ?_
    refine y_gi (pc' := 76) f159_73 yf_8_166 rfl rfl (ys129 w) rfl ?_
    refine y_if (pcT := 83) (pc' := 79) (P := (zV h 129 13) ≤ 0) f159_76 rfl rfl rfl (fun c => ?_) (fun c => ?_)
    · replace k := k.1 c
      refine y_s (pc' := 84) (L' := [some (vR (some 129))]) (st' := [vI 0]) (h' := h) f159_83 rfl ?_
      exact y_ri f159_84 ⟨rfl, k⟩
    · replace k := k.2 c
      refine y_s (pc' := 80) (L' := [some (vR (some 129))]) (st' := [vI 1]) (h' := h) f159_79 rfl ?_
      refine y_go (pc' := 84) f159_80 rfl ?_
      exact y_ri f159_84 ⟨rfl, k⟩
  · replace k := k.2 c
    refine y_s (pc' := 26) (L' := [some (vR (some 129))]) (st' := [vR (some 129)]) (h' := h) f159_25 rfl ?_
    refine y_s (pc' := 28) (L' := [some (vR (some 129))]) (st' := [vI 10, vR (some 129)]) (h' := h) f159_26 rfl ?_
    refine y_s (pc' := 29) (L' := [some (vR (some 129))]) (st' := [vR (some 129), vI 10, vR (some 129)]) (h' := h) f159_28 rfl ?_
    refine y_gi (pc' := 32) f159_29 yf_8_163 rfl rfl (ys129 w) rfl ?_
    refine y_s (pc' := 33) (L' := [some (vR (some 129))]) (st' := [vI (zw (10 * (zV h 129 12))), vR (some 129)]) (h' := h) f159_32 rfl ?_
    refine y_s (pc' := 34) (L' := [some (vR (some 129))]) (st' := [vR (some 129), vI (zw (10 * (zV h 129 12))), vR (some 129)]) (h' := h) f159_33 rfl ?_
    refine y_gr (pc' := 37) f159_34 yf_8_30 rfl rfl (ys129 w) (yp129_10 w) rfl ?_
    refine y_s (pc' := 38) (L' := [some (vR (some 129))]) (st' := [vR (some 129), vR (some 136), vI (zw (10 * (zV h 129 12))), vR (some 129)]) (h' := h) f159_37 rfl ?_
    refine y_gi (pc' := 41) f159_38 yf_8_160 rfl rfl (ys129 w) rfl ?_
    refine y_ia (pc' := 42) (x := (zV h 136 ((zV h 129 11)).toNat)) f159_41 (ys136 w) k.1 rfl rfl ?_
    replace k := k.2
    refine y_s (pc' := 43) (L' := [some (vR (some 129))]) (st' := [vI (zw ((zw (10 * (zV h 129 12))) + (zV h 136 ((zV h 129 11)).toNat))), vR (some 129)]) (h' := h) f159_42 rfl ?_
    refine y_s (pc' := 45) (L' := [some (vR (some 129))]) (st' := [vI 48, vI (zw ((zw (10 * (zV h 129 12))) + (zV h 136 ((zV h 129 11)).toNat))), vR (some 129)]) (h' := h) f159_43 rfl ?_
    refine y_s (pc' := 46) (L' := [some (vR (some 129))]) (st' := [vI (zw ((zw ((zw (10 * (zV h 129 12))) + (zV h 136 ((zV h 129 11)).toNat))) - 48)), vR (some 129)]) (h' := h) f159_45 rfl ?_
    refine y_pi (pc' := 49) f159_46 yf_8_163 rfl rfl (ys129 w) (by decide) (Or.inl rfl) rfl ?_
    refine y_s (pc' := 50) (L' := [some (vR (some 129))]) (st' := [vR (some 129)]) (h' := (zsetV h 129 12 (zw ((zw ((zw (10 * (zV h 129 12))) + (zV h 136 ((zV h 129 11)).toNat))) - 48)))) f159_49 rfl ?_
    refine y_s (pc' := 51) (L' := [some (vR (some 129))]) (st' := [vR (some 129), vR (some 129)]) (h' := (zsetV h 129 12 (zw ((zw ((zw (10 * (zV h 129 12))) + (zV h 136 ((zV h 129 11)).toNat))) - 48)))) f159_50 rfl ?_
    refine y_gi (pc' := 54) f159_51 yf_8_160 rfl rfl (ys129 w) rfl ?_
    refine y_s (pc' := 55) (L' := [some (vR (some 129))]) (st' := [vI 1, vI (zV (zsetV h 129 12 (zw ((zw ((zw (10 * (zV h 129 12))) + (zV h 136 ((zV h 129 11)).toNat))) - 48))) 129 11), vR (some 129)]) (h' := (zsetV h 129 12 (zw ((zw ((zw (10 * (zV h 129 12))) + (zV h 136 ((zV h 129 11)).toNat))) - 48)))) f159_54 rfl ?_
    refine y_s (pc' := 56) (L' := [some (vR (some 129))]) (st' := [vI (zw ((zV (zsetV h 129 12 (zw ((zw ((zw (10 * (zV h 129 12))) + (zV h 136 ((zV h 129 11)).toNat))) - 48))) 129 11) + 1)), vR (some 129)]) (h' := (zsetV h 129 12 (zw ((zw ((zw (10 * (zV h 129 12))) + (zV h 136 ((zV h 129 11)).toNat))) - 48)))) f159_55 rfl ?_
    refine y_pi (pc' := 59) f159_56 yf_8_160 rfl rfl (ys129 w) (by decide) (Or.inl rfl) rfl ?_
    generalize e_59 : (zsetV (zsetV h 129 12 (zw ((zw ((zw (10 * (zV h 129 12))) + (zV h 136 ((zV h 129 11)).toNat))) - 48))) 129 11 (zw ((zV (zsetV h 129 12 (zw ((zw ((zw (10 * (zV h 129 12))) + (zV h 136 ((zV h 129 11)).toNat))) - 48))) 129 11) + 1))) = h_59
    replace k := k _ e_59
    have w : yWF zl nl h_59 := by rw [← e_59]; exact w
    refine y_s (pc' := 60) (L' := [some (vR (some 129))]) (st' := [vR (some 129)]) (h' := h_59) f159_59 rfl ?_
    refine y_s (pc' := 61) (L' := [some (vR (some 129))]) (st' := [vR (some 129), vR (some 129)]) (h' := h_59) f159_60 rfl ?_
    refine y_gi (pc' := 64) f159_61 yf_8_166 rfl rfl (ys129 w) rfl ?_
    refine y_s (pc' := 65) (L' := [some (vR (some 129))]) (st' := [vI 1, vI (zV h_59 129 13), vR (some 129)]) (h' := h_59) f159_64 rfl ?_
    refine y_s (pc' := 66) (L' := [some (vR (some 129))]) (st' := [vI (zw ((zV h_59 129 13) + 1)), vR (some 129)]) (h' := h_59) f159_65 rfl ?_
    refine y_pi (pc' := 69) f159_66 yf_8_166 rfl rfl (ys129 w) (by decide) (Or.inl rfl) rfl ?_
    refine y_go (pc' := 10) f159_69 rfl ?_
    exact k
/-- HatterTunesModel.codes(I)Z -/
theorem E165 {d : Nat} {K : Int → Hp → Prop} (w : yWF zl nl h) {x0 : Int} (k : ((0 ≤ (zV h 129 23) ∧ (zV h 129 23) < 800) ∧ (∀ h_17, (zsetV (zsetV h 129 23 (zw ((zV h 129 23) + 1))) 142 ((zV h 129 23)).toNat x0) = h_17 → K 1 h_17))) : yI d 165 [vR (some 129), vI x0] h K := by
  refine y_en (L := [some (vR (some 129)), some (vI x0)]) rfl rfl ?_
  refine y_s (pc' := 1) (L' := [some (vR (some 129)), some (vI x0)]) (st' := [vR (some 129)]) (h' := h) f165_0 rfl ?_
  refine y_gr (pc' := 4) f165_1 yf_8_48 rfl rfl (ys129 w) (yp129_22 w) rfl ?_
  refine y_s (pc' := 5) (L' := [some (vR (some 129)), some (vI x0)]) (st' := [vR (some 129), vR (some 142)]) (h' := h) f165_4 rfl ?_
  refine y_s (pc' := 6) (L' := [some (vR (some 129)), some (vI x0)]) (st' := [vR (some 129), vR (some 129), vR (some 142)]) (h' := h) f165_5 rfl ?_
  refine y_gi (pc' := 9) f165_6 yf_8_185 rfl rfl (ys129 w) rfl ?_
  refine y_s (pc' := 10) (L' := [some (vR (some 129)), some (vI x0)]) (st' := [vI (zV h 129 23), vR (some 129), vI (zV h 129 23), vR (some 142)]) (h' := h) f165_9 rfl ?_
  refine y_s (pc' := 11) (L' := [some (vR (some 129)), some (vI x0)]) (st' := [vI 1, vI (zV h 129 23), vR (some 129), vI (zV h 129 23), vR (some 142)]) (h' := h) f165_10 rfl ?_
  refine y_s (pc' := 12) (L' := [some (vR (some 129)), some (vI x0)]) (st' := [vI (zw ((zV h 129 23) + 1)), vR (some 129), vI (zV h 129 23), vR (some 142)]) (h' := h) f165_11 rfl ?_
  refine y_pi (pc' := 15) f165_12 yf_8_185 rfl rfl (ys129 w) (by decide) (Or.inl rfl) rfl ?_
  refine y_s (pc' := 16) (L' := [some (vR (some 129)), some (vI x0)]) (st' := [vI x0, vI (zV h 129 23), vR (some 142)]) (h' := (zsetV h 129 23 (zw ((zV h 129 23) + 1)))) f165_15 rfl ?_
  refine y_is (pc' := 17) (h' := (zsetV (zsetV h 129 23 (zw ((zV h 129 23) + 1))) 142 ((zV h 129 23)).toNat x0)) f165_16 (ys142 w) (by decide) k.1 rfl rfl ?_
  replace k := k.2
  generalize e_17 : (zsetV (zsetV h 129 23 (zw ((zV h 129 23) + 1))) 142 ((zV h 129 23)).toNat x0) = h_17
  replace k := k _ e_17
  have w : yWF zl nl h_17 := by rw [← e_17]; exact w
  refine y_s (pc' := 18) (L' := [some (vR (some 129)), some (vI x0)]) (st' := [vI 1]) (h' := h_17) f165_17 rfl ?_
  exact y_ri f165_18 ⟨rfl, k⟩
/-- HatterTunesModel.letterOf(III)I -/
theorem E137 {d : Nat} {K : Int → Hp → Prop} (w : yWF zl nl h) {x0 : Int} {x1 : Int} {x2 : Int} (k : ((x2 = 0 → K x0 h) ∧ (x2 = 1 → ((0 ≤ x0 ∧ x0 < 6) ∧ K (zV h 130 (x0).toNat) h)) ∧ (x2 = 2 → ((0 ≤ x0 ∧ x0 < 6) ∧ K (zV h 131 (x0).toNat) h)) ∧ (x2 = 3 → K x1 h) ∧ (x2 = 4 → ((0 ≤ (zw ((zw (6 * x0)) + x1)) ∧ (zw ((zw (6 * x0)) + x1)) < 36) ∧ K (zV h 132 ((zw ((zw (6 * x0)) + x1))).toNat) h)) ∧ (x2 < 0 ∨ 4 < x2 → K (zrem (zV h 129 8) 10) h))) : yI d 137 [vR (some 129), vI x0, vI x1, vI x2] h K := by
  refine y_en (L := [some (vR (some 129)), some (vI x0), some (vI x1), some (vI x2)]) rfl rfl ?_
  refine y_s (pc' := 1) (L' := [some (vR (some 129)), some (vI x0), some (vI x1), some (vI x2)]) (st' := [vI x2]) (h' := h) f137_0 rfl ?_
  by_cases c : x2 = 0
  · refine y_tc (pc' := 36) (v := 0) f137_1 c rfl rfl rfl ?_
    replace k := k.1 c
    refine y_s (pc' := 37) (L' := [some (vR (some 129)), some (vI x0), some (vI x1), some (vI x2)]) (st' := [vI x0]) (h' := h) f137_36 rfl ?_
    exact y_ri f137_37 ⟨rfl, k⟩
  replace k := k.2
  have c0 := c
  by_cases c : x2 = 1
  · refine y_tc (pc' := 38) (v := 1) f137_1 c rfl rfl rfl ?_
    replace k := k.1 c
    refine y_s (pc' := 39) (L' := [some (vR (some 129)), some (vI x0), some (vI x1), some (vI x2)]) (st' := [vR (some 129)]) (h' := h) f137_38 rfl ?_
    refine y_gr (pc' := 42) f137_39 yf_8_9 rfl rfl (ys129 w) (yp129_1 w) rfl ?_
    refine y_s (pc' := 43) (L' := [some (vR (some 129)), some (vI x0), some (vI x1), some (vI x2)]) (st' := [vI x0, vR (some 130)]) (h' := h) f137_42 rfl ?_
    refine y_ia (pc' := 44) (x := (zV h 130 (x0).toNat)) f137_43 (ys130 w) k.1 rfl rfl ?_
    replace k := k.2
    exact y_ri f137_44 ⟨rfl, k⟩
  replace k := k.2
  have c1 := c
  by_cases c : x2 = 2
  · refine y_tc (pc' := 45) (v := 2) f137_1 c rfl rfl rfl ?_
    replace k := k.1 c
    refine y_s (pc' := 46) (L' := [some (vR (some 129)), some (vI x0), some (vI x1), some (vI x2)]) (st' := [vR (some 129)]) (h' := h) f137_45 rfl ?_
    refine y_gr (pc' := 49) f137_46 yf_8_15 rfl rfl (ys129 w) (yp129_2 w) rfl ?_
    refine y_s (pc' := 50) (L' := [some (vR (some 129)), some (vI x0), some (vI x1), some (vI x2)]) (st' := [vI x0, vR (some 131)]) (h' := h) f137_49 rfl ?_
    refine y_ia (pc' := 51) (x := (zV h 131 (x0).toNat)) f137_50 (ys131 w) k.1 rfl rfl ?_
    replace k := k.2
    exact y_ri f137_51 ⟨rfl, k⟩
  replace k := k.2
  have c2 := c
  by_cases c : x2 = 3
  · refine y_tc (pc' := 52) (v := 3) f137_1 c rfl rfl rfl ?_
    replace k := k.1 c
    refine y_s (pc' := 53) (L' := [some (vR (some 129)), some (vI x0), some (vI x1), some (vI x2)]) (st' := [vI x1]) (h' := h) f137_52 rfl ?_
    exact y_ri f137_53 ⟨rfl, k⟩
  replace k := k.2
  have c3 := c
  by_cases c : x2 = 4
  · refine y_tc (pc' := 54) (v := 4) f137_1 c rfl rfl rfl ?_
    replace k := k.1 c
    refine y_s (pc' := 55) (L' := [some (vR (some 129)), some (vI x0), some (vI x1), some (vI x2)]) (st' := [vR (some 129)]) (h' := h) f137_54 rfl ?_
    refine y_gr (pc' := 58) f137_55 yf_8_18 rfl rfl (ys129 w) (yp129_3 w) rfl ?_
    refine y_s (pc' := 60) (L' := [some (vR (some 129)), some (vI x0), some (vI x1), some (vI x2)]) (st' := [vI 6, vR (some 132)]) (h' := h) f137_58 rfl ?_
    refine y_s (pc' := 61) (L' := [some (vR (some 129)), some (vI x0), some (vI x1), some (vI x2)]) (st' := [vI x0, vI 6, vR (some 132)]) (h' := h) f137_60 rfl ?_
    refine y_s (pc' := 62) (L' := [some (vR (some 129)), some (vI x0), some (vI x1), some (vI x2)]) (st' := [vI (zw (6 * x0)), vR (some 132)]) (h' := h) f137_61 rfl ?_
    refine y_s (pc' := 63) (L' := [some (vR (some 129)), some (vI x0), some (vI x1), some (vI x2)]) (st' := [vI x1, vI (zw (6 * x0)), vR (some 132)]) (h' := h) f137_62 rfl ?_
    refine y_s (pc' := 64) (L' := [some (vR (some 129)), some (vI x0), some (vI x1), some (vI x2)]) (st' := [vI (zw ((zw (6 * x0)) + x1)), vR (some 132)]) (h' := h) f137_63 rfl ?_
    refine y_ia (pc' := 65) (x := (zV h 132 ((zw ((zw (6 * x0)) + x1))).toNat)) f137_64 (ys132 w) k.1 rfl rfl ?_
    replace k := k.2
    exact y_ri f137_65 ⟨rfl, k⟩
  replace k := k.2
  have c4 := c
  have cc : x2 < 0 ∨ 4 < x2 := by omega
  refine y_td (pc' := 66) f137_1 cc rfl ?_
  replace k := k cc
  refine y_s (pc' := 67) (L' := [some (vR (some 129)), some (vI x0), some (vI x1), some (vI x2)]) (st' := [vR (some 129)]) (h' := h) f137_66 rfl ?_
  refine y_gi (pc' := 70) f137_67 yf_8_235 rfl rfl (ys129 w) rfl ?_
  refine y_s (pc' := 72) (L' := [some (vR (some 129)), some (vI x0), some (vI x1), some (vI x2)]) (st' := [vI 10, vI (zV h 129 8)]) (h' := h) f137_70 rfl ?_
  refine y_rm (pc' := 73) f137_72 (by decide) rfl ?_
  exact y_ri f137_73 ⟨rfl, k⟩
/-- HatterTunesModel.soundOf(I)I -/
theorem E144 {d : Nat} {K : Int → Hp → Prop} (w : yWF zl nl h) {x0 : Int} (k : ZW d prog_10_method_31_code 8 4 [some (vR (some 129)), some (vI x0), some (vI 0), some (vI 0)] [] h (yq 1 (yqI K))) : yI d 144 [vR (some 129), vI x0] h K := by
  refine y_en (L := [some (vR (some 129)), some (vI x0), none, none]) rfl rfl ?_
  refine y_s (pc' := 1) (L' := [some (vR (some 129)), some (vI x0), none, none]) (st' := [vI 0]) (h' := h) f144_0 rfl ?_
  refine y_sto (pc' := 2) (k := 2) (L' := [some (vR (some 129)), some (vI x0), some (vI 0), none]) f144_1 rfl rfl rfl rfl rfl rfl ?_
  refine y_s (pc' := 3) (L' := [some (vR (some 129)), some (vI x0), some (vI 0), none]) (st' := [vI 0]) (h' := h) f144_2 rfl ?_
  refine y_sto (pc' := 4) (k := 3) (L' := [some (vR (some 129)), some (vI x0), some (vI 0), some (vI 0)]) f144_3 rfl rfl rfl rfl rfl rfl ?_
  exact k
theorem W144_4 {d : Nat} {K : Int → Hp → Prop} (w : yWF zl nl h) {l1 : Int} {l2 : Int} {l3 : Int} (hd : 1 ≤ d) (k : ((6 ≤ l3 → K l2 h) ∧ (¬ (6 ≤ l3) → yI (d - 1) 133 [vR (some 129), vI l1, vI l3] h (fun x h' => ZW d prog_10_method_31_code 8 20 [some (vR (some 129)), some (vI l1), some (vI l2), some (vI l3)] [vI x, vI (zw (10 * l2))] h' (yq 1 (yqI K)))))) : ZW d prog_10_method_31_code 8 4 [some (vR (some 129)), some (vI l1), some (vI l2), some (vI l3)] [] h (yq 1 (yqI K)) := by
  refine y_s (pc' := 5) (L' := [some (vR (some 129)), some (vI l1), some (vI l2), some (vI l3)]) (st' := [vI l3]) (h' := h) f144_4 rfl ?_
  refine y_s (pc' := 7) (L' := [some (vR (some 129)), some (vI l1), some (vI l2), some (vI l3)]) (st' := [vI 6, vI l3]) (h' := h) f144_5 rfl ?_
  refine y_ic (pcT := 28) (pc' := 10) (P := 6 ≤ l3) f144_7 rfl rfl rfl (fun c => ?_) (fun c => ?_)
  · replace k := k.1 c
    refine y_s (pc' := 29) (L' := [some (vR (some 129)), some (vI l1), some (vI l2), some (vI l3)]) (st' := [vI l2]) (h' := h) f144_28 rfl ?_
    exact y_ri f144_29 ⟨rfl, k⟩
  · replace k := k.2 c
    refine y_s (pc' := 12) (L' := [some (vR (some 129)), some (vI l1), some (vI l2), some (vI l3)]) (st' := [vI 10]) (h' := h) f144_10 rfl ?_
    refine y_s (pc' := 13) (L' := [some (vR (some 129)), some (vI l1), some (vI l2), some (vI l3)]) (st' := [vI l2, vI 10]) (h' := h) f144_12 rfl ?_
    refine y_s (pc' := 14) (L' := [some (vR (some 129)), some (vI l1), some (vI l2), some (vI l3)]) (st' := [vI (zw (10 * l2))]) (h' := h) f144_13 rfl ?_
    refine y_s (pc' := 15) (L' := [some (vR (some 129)), some (vI l1), some (vI l2), some (vI l3)]) (st' := [vR (some 129), vI (zw (10 * l2))]) (h' := h) f144_14 rfl ?_
    refine y_s (pc' := 16) (L' := [some (vR (some 129)), some (vI l1), some (vI l2), some (vI l3)]) (st' := [vI l1, vR (some 129), vI (zw (10 * l2))]) (h' := h) f144_15 rfl ?_
    refine y_s (pc' := 17) (L' := [some (vR (some 129)), some (vI l1), some (vI l2), some (vI l3)]) (st' := [vI l3, vI l1, vR (some 129), vI (zw (10 * l2))]) (h' := h) f144_16 rfl ?_
    refine y_cI (pc' := 20) (as := [vR (some 129), vI l1, vI l3]) (r := [vI (zw (10 * l2))]) f144_17 (yzv ym_8_128 rfl (ys129 w) rfl rfl) hd rfl ?_
    exact k
theorem W144_20 {d : Nat} {K : Int → Hp → Prop} (w : yWF zl nl h) {l1 : Int} {l2 : Int} {l3 : Int} {s0 : Int} {s1 : Int} (k : ZW d prog_10_method_31_code 8 4 [some (vR (some 129)), some (vI l1), some (vI (zw (s0 + s1))), some (vI (zw (l3 + 1)))] [] h (yq 1 (yqI K))) : ZW d prog_10_method_31_code 8 20 [some (vR (some 129)), some (vI l1), some (vI l2), some (vI l3)] [vI s1, vI s0] h (yq 1 (yqI K)) := by
  refine y_s (pc' := 21) (L' := [some (vR (some 129)), some (vI l1), some (vI l2), some (vI l3)]) (st' := [vI (zw (s0 + s1))]) (h' := h) f144_20 rfl ?_
  refine y_sto (pc' := 22) (k := 2) (L' := [some (vR (some 129)), some (vI l1), some (vI (zw (s0 + s1))), some (vI l3)]) f144_21 rfl rfl rfl rfl rfl rfl ?_
  refine y_inc (pc' := 25) (L' := [some (vR (some 129)), some (vI l1), some (vI (zw (s0 + s1))), some (vI (zw (l3 + 1)))]) f144_22 rfl rfl rfl rfl ?_
  refine y_go (pc' := 4) f144_25 rfl ?_
  exact k
/-- HatterTunesModel.noteOf(II)I -/
theorem E133 {d : Nat} {K : Int → Hp → Prop} (w : yWF zl nl h) {x0 : Int} {x1 : Int} (hd : 1 ≤ d) (k : yI (d - 1) 134 [vR (some 129), vI x0, vI x1] h (fun x h' => ZW d prog_10_method_29_code 8 6 [some (vR (some 129)), some (vI x0), some (vI x1), none] [vI x] h' (yq 1 (yqI K)))) : yI d 133 [vR (some 129), vI x0, vI x1] h K := by
  refine y_en (L := [some (vR (some 129)), some (vI x0), some (vI x1), none]) rfl rfl ?_
  refine y_s (pc' := 1) (L' := [some (vR (some 129)), some (vI x0), some (vI x1), none]) (st' := [vR (some 129)]) (h' := h) f133_0 rfl ?_
  refine y_s (pc' := 2) (L' := [some (vR (some 129)), some (vI x0), some (vI x1), none]) (st' := [vI x0, vR (some 129)]) (h' := h) f133_1 rfl ?_
  refine y_s (pc' := 3) (L' := [some (vR (some 129)), some (vI x0), some (vI x1), none]) (st' := [vI x1, vI x0, vR (some 129)]) (h' := h) f133_2 rfl ?_
  refine y_cI (pc' := 6) (as := [vR (some 129), vI x0, vI x1]) (r := []) f133_3 (yzv ym_8_132 rfl (ys129 w) rfl rfl) hd rfl ?_
  exact k
theorem W133_6 {d : Nat} {K : Int → Hp → Prop} (w : yWF zl nl h) {l1 : Int} {l2 : Int} {s0 : Int} (k : ((0 ≤ (zrem s0 10) → K (zrem s0 10) h) ∧ (¬ (0 ≤ (zrem s0 10)) → K (zw ((zrem s0 10) + 10)) h))) : ZW d prog_10_method_29_code 8 6 [some (vR (some 129)), some (vI l1), some (vI l2), none] [vI s0] h (yq 1 (yqI K)) := by
  refine y_s (pc' := 8) (L' := [some (vR (some 129)), some (vI l1), some (vI l2), none]) (st' := [vI 10, vI s0]) (h' := h) f133_6 rfl ?_
  refine y_rm (pc' := 9) f133_8 (by decide) rfl ?_
  refine y_sto (pc' := 10) (k := 3) (L' := [some (vR (some 129)), some (vI l1), some (vI l2), some (vI (zrem s0 10))]) f133_9 rfl rfl rfl rfl rfl rfl ?_
  refine y_s (pc' := 11) (L' := [some (vR (some 129)), some (vI l1), some (vI l2), some (vI (zrem s0 10))]) (st' := [vI (zrem s0 10)]) (h' := h) f133_10 rfl ?_
  refine y_if (pcT := 21) (pc' := 14) (P := 0 ≤ (zrem s0 10)) f133_11 rfl rfl rfl (fun c => ?_) (fun c => ?_)
  · replace k := k.1 c
    refine y_s (pc' := 22) (L' := [some (vR (some 129)), some (vI l1), some (vI l2), some (vI (zrem s0 10))]) (st' := [vI (zrem s0 10)]) (h' := h) f133_21 rfl ?_
    exact y_ri f133_22 ⟨rfl, k⟩
  · replace k := k.2 c
    refine y_s (pc' := 15) (L' := [some (vR (some 129)), some (vI l1), some (vI l2), some (vI (zrem s0 10))]) (st' := [vI (zrem s0 10)]) (h' := h) f133_14 rfl ?_
    refine y_s (pc' := 17) (L' := [some (vR (some 129)), some (vI l1), some (vI l2), some (vI (zrem s0 10))]) (st' := [vI 10, vI (zrem s0 10)]) (h' := h) f133_15 rfl ?_
    refine y_s (pc' := 18) (L' := [some (vR (some 129)), some (vI l1), some (vI l2), some (vI (zrem s0 10))]) (st' := [vI (zw ((zrem s0 10) + 10))]) (h' := h) f133_17 rfl ?_
    refine y_go (pc' := 22) f133_18 rfl ?_
    exact y_ri f133_22 ⟨rfl, k⟩
/-- HatterTunes$House.soundOf(I)I -/
theorem E16 {d : Nat} {K : Int → Hp → Prop} (w : yWF zl nl h) {a : Nat} (ha : yHs a) {x0 : Int} (k : ZW d prog_4_method_14_code 2 4 [some (vR (some a)), some (vI x0), some (vI 0), some (vI 0)] [] h (yq 1 (yqI K))) : yI d 16 [vR (some a), vI x0] h K := by
  refine y_en (L := [some (vR (some a)), some (vI x0), none, none]) rfl rfl ?_
  refine y_s (pc' := 1) (L' := [some (vR (some a)), some (vI x0), none, none]) (st' := [vI 0]) (h' := h) f16_0 rfl ?_
  refine y_sto (pc' := 2) (k := 2) (L' := [some (vR (some a)), some (vI x0), some (vI 0), none]) f16_1 rfl rfl rfl rfl rfl rfl ?_
  refine y_s (pc' := 3) (L' := [some (vR (some a)), some (vI x0), some (vI 0), none]) (st' := [vI 0]) (h' := h) f16_2 rfl ?_
  refine y_sto (pc' := 4) (k := 3) (L' := [some (vR (some a)), some (vI x0), some (vI 0), some (vI 0)]) f16_3 rfl rfl rfl rfl rfl rfl ?_
  exact k
theorem W16_4 {d : Nat} {K : Int → Hp → Prop} (w : yWF zl nl h) {a : Nat} (ha : yHs a) {l1 : Int} {l2 : Int} {l3 : Int} (hd : 1 ≤ d) (k : ((6 ≤ l3 → K l2 h) ∧ (¬ (6 ≤ l3) → yI (d - 1) 17 [vR (some a), vI l1, vI l3] h (fun x h' => ZW d prog_4_method_14_code 2 20 [some (vR (some a)), some (vI l1), some (vI l2), some (vI l3)] [vI x, vI (zw (l2 * 10))] h' (yq 1 (yqI K)))))) : ZW d prog_4_method_14_code 2 4 [some (vR (some a)), some (vI l1), some (vI l2), some (vI l3)] [] h (yq 1 (yqI K)) := by
  refine y_s (pc' := 5) (L' := [some (vR (some a)), some (vI l1), some (vI l2), some (vI l3)]) (st' := [vI l3]) (h' := h) f16_4 rfl ?_
  refine y_s (pc' := 7) (L' := [some (vR (some a)), some (vI l1), some (vI l2), some (vI l3)]) (st' := [vI 6, vI l3]) (h' := h) f16_5 rfl ?_
  refine y_ic (pcT := 28) (pc' := 10) (P := 6 ≤ l3) f16_7 rfl rfl rfl (fun c => ?_) (fun c => ?_)
  · replace k := k.1 c
    refine y_s (pc' := 29) (L' := [some (vR (some a)), some (vI l1), some (vI l2), some (vI l3)]) (st' := [vI l2]) (h' := h) f16_28 rfl ?_
    exact y_ri f16_29 ⟨rfl, k⟩
  · replace k := k.2 c
    refine y_s (pc' := 11) (L' := [some (vR (some a)), some (vI l1), some (vI l2), some (vI l3)]) (st' := [vI l2]) (h' := h) f16_10 rfl ?_
    refine y_s (pc' := 13) (L' := [some (vR (some a)), some (vI l1), some (vI l2), some (vI l3)]) (st' := [vI 10, vI l2]) (h' := h) f16_11 rfl ?_
    refine y_s (pc' := 14) (L' := [some (vR (some a)), some (vI l1), some (vI l2), some (vI l3)]) (st' := [vI (zw (l2 * 10))]) (h' := h) f16_13 rfl ?_
    refine y_s (pc' := 15) (L' := [some (vR (some a)), some (vI l1), some (vI l2), some (vI l3)]) (st' := [vR (some a), vI (zw (l2 * 10))]) (h' := h) f16_14 rfl ?_
    refine y_s (pc' := 16) (L' := [some (vR (some a)), some (vI l1), some (vI l2), some (vI l3)]) (st' := [vI l1, vR (some a), vI (zw (l2 * 10))]) (h' := h) f16_15 rfl ?_
    refine y_s (pc' := 17) (L' := [some (vR (some a)), some (vI l1), some (vI l2), some (vI l3)]) (st' := [vI l3, vI l1, vR (some a), vI (zw (l2 * 10))]) (h' := h) f16_16 rfl ?_
    refine y_cI (pc' := 20) (as := [vR (some a), vI l1, vI l3]) (r := [vI (zw (l2 * 10))]) f16_17 (yzv ym_2_110 rfl (ysH0 w ha) rfl rfl) hd rfl ?_
    exact k
theorem W16_20 {d : Nat} {K : Int → Hp → Prop} (w : yWF zl nl h) {a : Nat} (ha : yHs a) {l1 : Int} {l2 : Int} {l3 : Int} {s0 : Int} {s1 : Int} (k : ZW d prog_4_method_14_code 2 4 [some (vR (some a)), some (vI l1), some (vI (zw (s0 + s1))), some (vI (zw (l3 + 1)))] [] h (yq 1 (yqI K))) : ZW d prog_4_method_14_code 2 20 [some (vR (some a)), some (vI l1), some (vI l2), some (vI l3)] [vI s1, vI s0] h (yq 1 (yqI K)) := by
  refine y_s (pc' := 21) (L' := [some (vR (some a)), some (vI l1), some (vI l2), some (vI l3)]) (st' := [vI (zw (s0 + s1))]) (h' := h) f16_20 rfl ?_
  refine y_sto (pc' := 22) (k := 2) (L' := [some (vR (some a)), some (vI l1), some (vI (zw (s0 + s1))), some (vI l3)]) f16_21 rfl rfl rfl rfl rfl rfl ?_
  refine y_inc (pc' := 25) (L' := [some (vR (some a)), some (vI l1), some (vI (zw (s0 + s1))), some (vI (zw (l3 + 1)))]) f16_22 rfl rfl rfl rfl ?_
  refine y_go (pc' := 4) f16_25 rfl ?_
  exact k
/-- HatterTunes$House.noteOf(II)I -/
theorem E17 {d : Nat} {K : Int → Hp → Prop} (w : yWF zl nl h) {a : Nat} (ha : yHs a) {x0 : Int} {x1 : Int} (hd : 1 ≤ d) (k : yI (d - 1) 18 [vR (some a), vI x0, vI x1] h (fun x h' => ZW d prog_4_method_13_code 2 6 [some (vR (some a)), some (vI x0), some (vI x1)] [vI x] h' (yq 1 (yqI K)))) : yI d 17 [vR (some a), vI x0, vI x1] h K := by
  refine y_en (L := [some (vR (some a)), some (vI x0), some (vI x1)]) rfl rfl ?_
  refine y_s (pc' := 1) (L' := [some (vR (some a)), some (vI x0), some (vI x1)]) (st' := [vR (some a)]) (h' := h) f17_0 rfl ?_
  refine y_s (pc' := 2) (L' := [some (vR (some a)), some (vI x0), some (vI x1)]) (st' := [vI x0, vR (some a)]) (h' := h) f17_1 rfl ?_
  refine y_s (pc' := 3) (L' := [some (vR (some a)), some (vI x0), some (vI x1)]) (st' := [vI x1, vI x0, vR (some a)]) (h' := h) f17_2 rfl ?_
  refine y_cI (pc' := 6) (as := [vR (some a), vI x0, vI x1]) (r := []) f17_3 (yzv ym_2_104 rfl (ysH0 w ha) rfl rfl) hd rfl ?_
  exact k
theorem W17_6 {d : Nat} {K : Int → Hp → Prop} (w : yWF zl nl h) {a : Nat} (ha : yHs a) {l1 : Int} {l2 : Int} {s0 : Int} (hd : 1 ≤ d) (k : K (yfm s0 10) h) : ZW d prog_4_method_13_code 2 6 [some (vR (some a)), some (vI l1), some (vI l2)] [vI s0] h (yq 1 (yqI K)) := by
  refine y_s (pc' := 8) (L' := [some (vR (some a)), some (vI l1), some (vI l2)]) (st' := [vI 10, vI s0]) (h' := h) f17_6 rfl ?_
  refine y_fm (pc' := 11) f17_8 ym_2_107 hd (by decide) rfl rfl ?_
  exact y_ri f17_11 ⟨rfl, k⟩
/-- HatterTunes$House.tellFacts(II)V -/
theorem E19 {d : Nat} {K : Hp → Prop} (w : yWF zl nl h) {a : Nat} (ha : yHs a) {x0 : Int} {x1 : Int} (k : ((0 ≤ x0 ∧ x0 < 6) ∧ (∀ h_19, (zsetV (zsetV h (a + 6) 0 x0) (a + 6) 1 (zV (zsetV h (a + 6) 0 x0) (a + 1) (x0).toNat)) = h_19 → ((0 ≤ x0 ∧ x0 < 6) ∧ (∀ h_38, (zsetV (zsetV h_19 (a + 6) 2 (zV h_19 (a + 2) (x0).toNat)) (a + 6) 3 x1) = h_38 → ((0 ≤ (zw ((zw (x0 * 6)) + x1)) ∧ (zw ((zw (x0 * 6)) + x1)) < 36) ∧ (∀ h_68, (zsetV (zsetV h_38 (a + 6) 4 (zV h_38 (a + 4) ((zw ((zw (x0 * 6)) + x1))).toNat)) (a + 6) 5 (zrem (zV (zsetV h_38 (a + 6) 4 (zV h_38 (a + 4) ((zw ((zw (x0 * 6)) + x1))).toNat)) a 11) 10)) = h_68 → K h_68))))))) : yU d 19 [vR (some a), vI x0, vI x1] h K := by
  refine y_en (L := [some (vR (some a)), some (vI x0), some (vI x1)]) rfl rfl ?_
  refine y_s (pc' := 1) (L' := [some (vR (some a)), some (vI x0), some (vI x1)]) (st' := [vR (some a)]) (h' := h) f19_0 rfl ?_
  refine y_gr (pc' := 4) f19_1 yf_2_27 rfl rfl (ysH0 w ha) (ypH5 w ha) rfl ?_
  refine y_s (pc' := 5) (L' := [some (vR (some a)), some (vI x0), some (vI x1)]) (st' := [vI 0, vR (some (a + 6))]) (h' := h) f19_4 rfl ?_
  refine y_s (pc' := 6) (L' := [some (vR (some a)), some (vI x0), some (vI x1)]) (st' := [vI x0, vI 0, vR (some (a + 6))]) (h' := h) f19_5 rfl ?_
  refine y_is (pc' := 7) (h' := (zsetV h (a + 6) 0 x0)) f19_6 (ysH6 w ha) (Nat.le_add_right_of_le (yH_32 ha)) (by decide) rfl rfl ?_
  refine y_s (pc' := 8) (L' := [some (vR (some a)), some (vI x0), some (vI x1)]) (st' := [vR (some a)]) (h' := (zsetV h (a + 6) 0 x0)) f19_7 rfl ?_
  refine y_gr (pc' := 11) f19_8 yf_2_27 rfl rfl (ysH0 w ha) (ypH5 w ha) rfl ?_
  refine y_s (pc' := 12) (L' := [some (vR (some a)), some (vI x0), some (vI x1)]) (st' := [vI 1, vR (some (a + 6))]) (h' := (zsetV h (a + 6) 0 x0)) f19_11 rfl ?_
  refine y_s (pc' := 13) (L' := [some (vR (some a)), some (vI x0), some (vI x1)]) (st' := [vR (some a), vI 1, vR (some (a + 6))]) (h' := (zsetV h (a + 6) 0 x0)) f19_12 rfl ?_
  refine y_gr (pc' := 16) f19_13 yf_2_9 rfl rfl (ysH0 w ha) (ypH0 w ha) rfl ?_
  refine y_s (pc' := 17) (L' := [some (vR (some a)), some (vI x0), some (vI x1)]) (st' := [vI x0, vR (some (a + 1)), vI 1, vR (some (a + 6))]) (h' := (zsetV h (a + 6) 0 x0)) f19_16 rfl ?_
  refine y_ia (pc' := 18) (x := (zV (zsetV h (a + 6) 0 x0) (a + 1) (x0).toNat)) f19_17 (ysH1 w ha) k.1 rfl rfl ?_
  replace k := k.2
  refine y_is (pc' := 19) (h' := (zsetV (zsetV h (a + 6) 0 x0) (a + 6) 1 (zV (zsetV h (a + 6) 0 x0) (a + 1) (x0).toNat))) f19_18 (ysH6 w ha) (Nat.le_add_right_of_le (yH_32 ha)) (by decide) rfl rfl ?_
  generalize e_19 : (zsetV (zsetV h (a + 6) 0 x0) (a + 6) 1 (zV (zsetV h (a + 6) 0 x0) (a + 1) (x0).toNat)) = h_19
  replace k := k _ e_19
  have w : yWF zl nl h_19 := by rw [← e_19]; exact w
  refine y_s (pc' := 20) (L' := [some (vR (some a)), some (vI x0), some (vI x1)]) (st' := [vR (some a)]) (h' := h_19) f19_19 rfl ?_
  refine y_gr (pc' := 23) f19_20 yf_2_27 rfl rfl (ysH0 w ha) (ypH5 w ha) rfl ?_
  refine y_s (pc' := 24) (L' := [some (vR (some a)), some (vI x0), some (vI x1)]) (st' := [vI 2, vR (some (a + 6))]) (h' := h_19) f19_23 rfl ?_
  refine y_s (pc' := 25) (L' := [some (vR (some a)), some (vI x0), some (vI x1)]) (st' := [vR (some a), vI 2, vR (some (a + 6))]) (h' := h_19) f19_24 rfl ?_
  refine y_gr (pc' := 28) f19_25 yf_2_15 rfl rfl (ysH0 w ha) (ypH1 w ha) rfl ?_
  refine y_s (pc' := 29) (L' := [some (vR (some a)), some (vI x0), some (vI x1)]) (st' := [vI x0, vR (some (a + 2)), vI 2, vR (some (a + 6))]) (h' := h_19) f19_28 rfl ?_
  refine y_ia (pc' := 30) (x := (zV h_19 (a + 2) (x0).toNat)) f19_29 (ysH2 w ha) k.1 rfl rfl ?_
  replace k := k.2
  refine y_is (pc' := 31) (h' := (zsetV h_19 (a + 6) 2 (zV h_19 (a + 2) (x0).toNat))) f19_30 (ysH6 w ha) (Nat.le_add_right_of_le (yH_32 ha)) (by decide) rfl rfl ?_
  refine y_s (pc' := 32) (L' := [some (vR (some a)), some (vI x0), some (vI x1)]) (st' := [vR (some a)]) (h' := (zsetV h_19 (a + 6) 2 (zV h_19 (a + 2) (x0).toNat))) f19_31 rfl ?_
  refine y_gr (pc' := 35) f19_32 yf_2_27 rfl rfl (ysH0 w ha) (ypH5 w ha) rfl ?_
  refine y_s (pc' := 36) (L' := [some (vR (some a)), some (vI x0), some (vI x1)]) (st' := [vI 3, vR (some (a + 6))]) (h' := (zsetV h_19 (a + 6) 2 (zV h_19 (a + 2) (x0).toNat))) f19_35 rfl ?_
  refine y_s (pc' := 37) (L' := [some (vR (some a)), some (vI x0), some (vI x1)]) (st' := [vI x1, vI 3, vR (some (a + 6))]) (h' := (zsetV h_19 (a + 6) 2 (zV h_19 (a + 2) (x0).toNat))) f19_36 rfl ?_
  refine y_is (pc' := 38) (h' := (zsetV (zsetV h_19 (a + 6) 2 (zV h_19 (a + 2) (x0).toNat)) (a + 6) 3 x1)) f19_37 (ysH6 w ha) (Nat.le_add_right_of_le (yH_32 ha)) (by decide) rfl rfl ?_
  generalize e_38 : (zsetV (zsetV h_19 (a + 6) 2 (zV h_19 (a + 2) (x0).toNat)) (a + 6) 3 x1) = h_38
  replace k := k _ e_38
  have w : yWF zl nl h_38 := by rw [← e_38]; exact w
  refine y_s (pc' := 39) (L' := [some (vR (some a)), some (vI x0), some (vI x1)]) (st' := [vR (some a)]) (h' := h_38) f19_38 rfl ?_
  refine y_gr (pc' := 42) f19_39 yf_2_27 rfl rfl (ysH0 w ha) (ypH5 w ha) rfl ?_
  refine y_s (pc' := 43) (L' := [some (vR (some a)), some (vI x0), some (vI x1)]) (st' := [vI 4, vR (some (a + 6))]) (h' := h_38) f19_42 rfl ?_
  refine y_s (pc' := 44) (L' := [some (vR (some a)), some (vI x0), some (vI x1)]) (st' := [vR (some a), vI 4, vR (some (a + 6))]) (h' := h_38) f19_43 rfl ?_
  refine y_gr (pc' := 47) f19_44 yf_2_21 rfl rfl (ysH0 w ha) (ypH3 w ha) rfl ?_
  refine y_s (pc' := 48) (L' := [some (vR (some a)), some (vI x0), some (vI x1)]) (st' := [vI x0, vR (some (a + 4)), vI 4, vR (some (a + 6))]) (h' := h_38) f19_47 rfl ?_
  refine y_s (pc' := 50) (L' := [some (vR (some a)), some (vI x0), some (vI x1)]) (st' := [vI 6, vI x0, vR (some (a + 4)), vI 4, vR (some (a + 6))]) (h' := h_38) f19_48 rfl ?_
  refine y_s (pc' := 51) (L' := [some (vR (some a)), some (vI x0), some (vI x1)]) (st' := [vI (zw (x0 * 6)), vR (some (a + 4)), vI 4, vR (some (a + 6))]) (h' := h_38) f19_50 rfl ?_
  refine y_s (pc' := 52) (L' := [some (vR (some a)), some (vI x0), some (vI x1)]) (st' := [vI x1, vI (zw (x0 * 6)), vR (some (a + 4)), vI 4, vR (some (a + 6))]) (h' := h_38) f19_51 rfl ?_
  refine y_s (pc' := 53) (L' := [some (vR (some a)), some (vI x0), some (vI x1)]) (st' := [vI (zw ((zw (x0 * 6)) + x1)), vR (some (a + 4)), vI 4, vR (some (a + 6))]) (h' := h_38) f19_52 rfl ?_
  refine y_ia (pc' := 54) (x := (zV h_38 (a + 4) ((zw ((zw (x0 * 6)) + x1))).toNat)) f19_53 (ysH4 w ha) k.1 rfl rfl ?_
  replace k := k.2
  refine y_is (pc' := 55) (h' := (zsetV h_38 (a + 6) 4 (zV h_38 (a + 4) ((zw ((zw (x0 * 6)) + x1))).toNat))) f19_54 (ysH6 w ha) (Nat.le_add_right_of_le (yH_32 ha)) (by decide) rfl rfl ?_
  refine y_s (pc' := 56) (L' := [some (vR (some a)), some (vI x0), some (vI x1)]) (st' := [vR (some a)]) (h' := (zsetV h_38 (a + 6) 4 (zV h_38 (a + 4) ((zw ((zw (x0 * 6)) + x1))).toNat))) f19_55 rfl ?_
  refine y_gr (pc' := 59) f19_56 yf_2_27 rfl rfl (ysH0 w ha) (ypH5 w ha) rfl ?_
  refine y_s (pc' := 60) (L' := [some (vR (some a)), some (vI x0), some (vI x1)]) (st' := [vI 5, vR (some (a + 6))]) (h' := (zsetV h_38 (a + 6) 4 (zV h_38 (a + 4) ((zw ((zw (x0 * 6)) + x1))).toNat))) f19_59 rfl ?_
  refine y_s (pc' := 61) (L' := [some (vR (some a)), some (vI x0), some (vI x1)]) (st' := [vR (some a), vI 5, vR (some (a + 6))]) (h' := (zsetV h_38 (a + 6) 4 (zV h_38 (a + 4) ((zw ((zw (x0 * 6)) + x1))).toNat))) f19_60 rfl ?_
  refine y_gi (pc' := 64) f19_61 yf_2_66 rfl rfl (ysH0 w ha) rfl ?_
  refine y_s (pc' := 66) (L' := [some (vR (some a)), some (vI x0), some (vI x1)]) (st' := [vI 10, vI (zV (zsetV h_38 (a + 6) 4 (zV h_38 (a + 4) ((zw ((zw (x0 * 6)) + x1))).toNat)) a 11), vI 5, vR (some (a + 6))]) (h' := (zsetV h_38 (a + 6) 4 (zV h_38 (a + 4) ((zw ((zw (x0 * 6)) + x1))).toNat))) f19_64 rfl ?_
  refine y_rm (pc' := 67) f19_66 (by decide) rfl ?_
  refine y_is (pc' := 68) (h' := (zsetV (zsetV h_38 (a + 6) 4 (zV h_38 (a + 4) ((zw ((zw (x0 * 6)) + x1))).toNat)) (a + 6) 5 (zrem (zV (zsetV h_38 (a + 6) 4 (zV h_38 (a + 4) ((zw ((zw (x0 * 6)) + x1))).toNat)) a 11) 10))) f19_67 (ysH6 w ha) (Nat.le_add_right_of_le (yH_32 ha)) (by decide) rfl rfl ?_
  generalize e_68 : (zsetV (zsetV h_38 (a + 6) 4 (zV h_38 (a + 4) ((zw ((zw (x0 * 6)) + x1))).toNat)) (a + 6) 5 (zrem (zV (zsetV h_38 (a + 6) 4 (zV h_38 (a + 4) ((zw ((zw (x0 * 6)) + x1))).toNat)) a 11) 10)) = h_68
  replace k := k _ e_68
  have w : yWF zl nl h_68 := by rw [← e_68]; exact w
  exact y_ru f19_68 ⟨rfl, k⟩
/-- HatterTunes$Shop.sharpness([I)I -/
theorem E21 {d : Nat} {K : Int → Hp → Prop} (w : yWF zl nl h) {a : Nat} (ha : ySh a) {b : Nat} (hb : zS h b = (1, 6)) (hb2 : 32 ≤ b) (k : ZW d prog_6_method_4_code 4 7 [some (vR (some a)), some (vR (some b)), some (vI 0), some (vI 0), some (vI 0), none, none] [] h (yq 1 (yqI K))) : yI d 21 [vR (some a), vR (some b)] h K := by
  refine y_en (L := [some (vR (some a)), some (vR (some b)), none, none, none, none, none]) rfl rfl ?_
  refine y_s (pc' := 1) (L' := [some (vR (some a)), some (vR (some b)), none, none, none, none, none]) (st' := [vI 0]) (h' := h) f21_0 rfl ?_
  refine y_sto (pc' := 2) (k := 2) (L' := [some (vR (some a)), some (vR (some b)), some (vI 0), none, none, none, none]) f21_1 rfl rfl rfl rfl rfl rfl ?_
  refine y_s (pc' := 3) (L' := [some (vR (some a)), some (vR (some b)), some (vI 0), none, none, none, none]) (st' := [vI 0]) (h' := h) f21_2 rfl ?_
  refine y_sto (pc' := 4) (k := 3) (L' := [some (vR (some a)), some (vR (some b)), some (vI 0), some (vI 0), none, none, none]) f21_3 rfl rfl rfl rfl rfl rfl ?_
  refine y_s (pc' := 5) (L' := [some (vR (some a)), some (vR (some b)), some (vI 0), some (vI 0), none, none, none]) (st' := [vI 0]) (h' := h) f21_4 rfl ?_
  refine y_sto (pc' := 7) (k := 4) (L' := [some (vR (some a)), some (vR (some b)), some (vI 0), some (vI 0), some (vI 0), none, none]) f21_5 rfl rfl rfl rfl rfl rfl ?_
  exact k
theorem W21_7 {d : Nat} {K : Int → Hp → Prop} (w : yWF zl nl h) {a : Nat} (ha : ySh a) {b : Nat} (hb : zS h b = (1, 6)) (hb2 : 32 ≤ b) {l2 : Int} {l3 : Int} {l4 : Int} {l5 : Option Int} {l6 : Option Int} (k : (((zV h a 3) ≤ l4 → K l2 h) ∧ (¬ ((zV h a 3) ≤ l4) → ((0 ≤ l4 ∧ l4 < 100) ∧ ((0 ≤ l4 ∧ l4 < 100) ∧ ((0 ≤ (zV h (a + 2) (l4).toNat) ∧ (zV h (a + 2) (l4).toNat) < 6) ∧ ((0 ≤ l4 ∧ l4 < 100) ∧ (((zV h (a + 1) (l4).toNat) = 1 → (((zV h (a + 3) (l4).toNat) ≤ (zV h b ((zV h (a + 2) (l4).toNat)).toNat) → ZW d prog_6_method_4_code 4 7 [some (vR (some a)), some (vR (some b)), some (vI l2), some (vI (zor (zshl l3 1) 0)), some (vI (zw (l4 + 1))), some (vI (zV h (a + 3) (l4).toNat)), some (vI (zV h b ((zV h (a + 2) (l4).toNat)).toNat))] [] h (yq 1 (yqI K))) ∧ (¬ ((zV h (a + 3) (l4).toNat) ≤ (zV h b ((zV h (a + 2) (l4).toNat)).toNat)) → ZW d prog_6_method_4_code 4 7 [some (vR (some a)), some (vR (some b)), some (vI l2), some (vI (zor (zshl l3 1) 1)), some (vI (zw (l4 + 1))), some (vI (zV h (a + 3) (l4).toNat)), some (vI (zV h b ((zV h (a + 2) (l4).toNat)).toNat))] [] h (yq 1 (yqI K))))) ∧ ((zV h (a + 1) (l4).toNat) = 2 → (((zV h b ((zV h (a + 2) (l4).toNat)).toNat) ≠ (zV h (a + 3) (l4).toNat) → ZW d prog_6_method_4_code 4 7 [some (vR (some a)), some (vR (some b)), some (vI l2), some (vI (zor (zshl l3 1) 0)), some (vI (zw (l4 + 1))), some (vI (zV h (a + 3) (l4).toNat)), some (vI (zV h b ((zV h (a + 2) (l4).toNat)).toNat))] [] h (yq 1 (yqI K))) ∧ (¬ ((zV h b ((zV h (a + 2) (l4).toNat)).toNat) ≠ (zV h (a + 3) (l4).toNat)) → ZW d prog_6_method_4_code 4 7 [some (vR (some a)), some (vR (some b)), some (vI l2), some (vI (zor (zshl l3 1) 1)), some (vI (zw (l4 + 1))), some (vI (zV h (a + 3) (l4).toNat)), some (vI (zV h b ((zV h (a + 2) (l4).toNat)).toNat))] [] h (yq 1 (yqI K))))) ∧ ((zV h (a + 1) (l4).toNat) = 3 → (((zV h b ((zV h (a + 2) (l4).toNat)).toNat) ≤ (zV h (a + 3) (l4).toNat) → ZW d prog_6_method_4_code 4 7 [some (vR (some a)), some (vR (some b)), some (vI l2), some (vI (zor (zshl l3 1) 0)), some (vI (zw (l4 + 1))), some (vI (zV h (a + 3) (l4).toNat)), some (vI (zV h b ((zV h (a + 2) (l4).toNat)).toNat))] [] h (yq 1 (yqI K))) ∧ (¬ ((zV h b ((zV h (a + 2) (l4).toNat)).toNat) ≤ (zV h (a + 3) (l4).toNat)) → ZW d prog_6_method_4_code 4 7 [some (vR (some a)), some (vR (some b)), some (vI l2), some (vI (zor (zshl l3 1) 1)), some (vI (zw (l4 + 1))), some (vI (zV h (a + 3) (l4).toNat)), some (vI (zV h b ((zV h (a + 2) (l4).toNat)).toNat))] [] h (yq 1 (yqI K))))) ∧ ((zV h (a + 1) (l4).toNat) = 4 → ZW d prog_6_method_4_code 4 7 [some (vR (some a)), some (vR (some b)), some (vI l2), some (vI (zxor l3 1)), some (vI (zw (l4 + 1))), some (vI (zV h (a + 3) (l4).toNat)), some (vI (zV h b ((zV h (a + 2) (l4).toNat)).toNat))] [] h (yq 1 (yqI K))) ∧ ((zV h (a + 1) (l4).toNat) = 5 → (((zand l3 1) ≠ 1 → ZW d prog_6_method_4_code 4 7 [some (vR (some a)), some (vR (some b)), some (vI l2), some (vI (zand (zshr l3 1) (-2))), some (vI (zw (l4 + 1))), some (vI (zV h (a + 3) (l4).toNat)), some (vI (zV h b ((zV h (a + 2) (l4).toNat)).toNat))] [] h (yq 1 (yqI K))) ∧ (¬ ((zand l3 1) ≠ 1) → ZW d prog_6_method_4_code 4 7 [some (vR (some a)), some (vR (some b)), some (vI l2), some (vI (zshr l3 1)), some (vI (zw (l4 + 1))), some (vI (zV h (a + 3) (l4).toNat)), some (vI (zV h b ((zV h (a + 2) (l4).toNat)).toNat))] [] h (yq 1 (yqI K))))) ∧ ((zV h (a + 1) (l4).toNat) = 6 → ZW d prog_6_method_4_code 4 7 [some (vR (some a)), some (vR (some b)), some (vI l2), some (vI (zor (zshr l3 1) (zand l3 1))), some (vI (zw (l4 + 1))), some (vI (zV h (a + 3) (l4).toNat)), some (vI (zV h b ((zV h (a + 2) (l4).toNat)).toNat))] [] h (yq 1 (yqI K))) ∧ ((zV h (a + 1) (l4).toNat) < 1 ∨ 6 < (zV h (a + 1) (l4).toNat) → (((zand l3 1) ≠ 1 → ZW d prog_6_method_4_code 4 7 [some (vR (some a)), some (vR (some b)), some (vI (zw (l2 + 0))), some (vI 0), some (vI (zw (l4 + 1))), some (vI (zV h (a + 3) (l4).toNat)), some (vI (zV h b ((zV h (a + 2) (l4).toNat)).toNat))] [] h (yq 1 (yqI K))) ∧ (¬ ((zand l3 1) ≠ 1) → ZW d prog_6_method_4_code 4 7 [some (vR (some a)), some (vR (some b)), some (vI (zw (l2 + (zV h (a + 3) (l4).toNat)))), some (vI 0), some (vI (zw (l4 + 1))), some (vI (zV h (a + 3) (l4).toNat)), some (vI (zV h b ((zV h (a + 2) (l4).toNat)).toNat))] [] h (yq 1 (yqI K))))))))))))) : ZW d prog_6_method_4_code 4 7 [some (vR (some a)), some (vR (some b)), some (vI l2), some (vI l3), some (vI l4), yo l5, yo l6] [] h (yq 1 (yqI K)) := by
  refine y_s (pc' := 9) (L' := [some (vR (some a)), some (vR (some b)), some (vI l2), some (vI l3), some (vI l4), yo l5, yo l6]) (st' := [vI l4]) (h' := h) f21_7 rfl ?_
  refine y_s (pc' := 10) (L' := [some (vR (some a)), some (vR (some b)), some (vI l2), some (vI l3), some (vI l4), yo l5, yo l6]) (st' := [vR (some a), vI l4]) (h' := h) f21_9 rfl ?_
  refine y_gi (pc' := 13) f21_10 yf_4_21 rfl rfl (ysS0 w ha) rfl ?_
  refine y_ic (pcT := 205) (pc' := 16) (P := (zV h a 3) ≤ l4) f21_13 rfl rfl rfl (fun c => ?_) (fun c => ?_)
  · replace k := k.1 c
    refine y_s (pc' := 206) (L' := [some (vR (some a)), some (vR (some b)), some (vI l2), some (vI l3), some (vI l4), yo l5, yo l6]) (st' := [vI l2]) (h' := h) f21_205 rfl ?_
    exact y_ri f21_206 ⟨rfl, k⟩
  · replace k := k.2 c
    refine y_s (pc' := 17) (L' := [some (vR (some a)), some (vR (some b)), some (vI l2), some (vI l3), some (vI l4), yo l5, yo l6]) (st' := [vR (some a)]) (h' := h) f21_16 rfl ?_
    refine y_gr (pc' := 20) f21_17 yf_4_18 rfl rfl (ysS0 w ha) (ypS2 w ha) rfl ?_
    refine y_s (pc' := 22) (L' := [some (vR (some a)), some (vR (some b)), some (vI l2), some (vI l3), some (vI l4), yo l5, yo l6]) (st' := [vI l4, vR (some (a + 3))]) (h' := h) f21_20 rfl ?_
    refine y_ia (pc' := 23) (x := (zV h (a + 3) (l4).toNat)) f21_22 (ysS3 w ha) k.1 rfl rfl ?_
    replace k := k.2
    refine y_sto (pc' := 25) (k := 5) (L' := [some (vR (some a)), some (vR (some b)), some (vI l2), some (vI l3), some (vI l4), some (vI (zV h (a + 3) (l4).toNat)), yo l6]) f21_23 rfl rfl rfl rfl rfl rfl ?_
    refine y_s (pc' := 26) (L' := [some (vR (some a)), some (vR (some b)), some (vI l2), some (vI l3), some (vI l4), some (vI (zV h (a + 3) (l4).toNat)), yo l6]) (st' := [vR (some b)]) (h' := h) f21_25 rfl ?_
    refine y_s (pc' := 27) (L' := [some (vR (some a)), some (vR (some b)), some (vI l2), some (vI l3), some (vI l4), some (vI (zV h (a + 3) (l4).toNat)), yo l6]) (st' := [vR (some a), vR (some b)]) (h' := h) f21_26 rfl ?_
    refine y_gr (pc' := 30) f21_27 yf_4_15 rfl rfl (ysS0 w ha) (ypS1 w ha) rfl ?_
    refine y_s (pc' := 32) (L' := [some (vR (some a)), some (vR (some b)), some (vI l2), some (vI l3), some (vI l4), some (vI (zV h (a + 3) (l4).toNat)), yo l6]) (st' := [vI l4, vR (some (a + 2)), vR (some b)]) (h' := h) f21_30 rfl ?_
    refine y_ia (pc' := 33) (x := (zV h (a + 2) (l4).toNat)) f21_32 (ysS2 w ha) k.1 rfl rfl ?_
    replace k := k.2
    refine y_ia (pc' := 34) (x := (zV h b ((zV h (a + 2) (l4).toNat)).toNat)) f21_33 hb k.1 rfl rfl ?_
    replace k := k.2
    refine y_sto (pc' := 36) (k := 6) (L' := [some (vR (some a)), some (vR (some b)), some (vI l2), some (vI l3), some (vI l4), some (vI (zV h (a + 3) (l4).toNat)), some (vI (zV h b ((zV h (a + 2) (l4).toNat)).toNat))]) f21_34 rfl rfl rfl rfl rfl rfl ?_
    refine y_s (pc' := 37) (L' := [some (vR (some a)), some (vR (some b)), some (vI l2), some (vI l3), some (vI l4), some (vI (zV h (a + 3) (l4).toNat)), some (vI (zV h b ((zV h (a + 2) (l4).toNat)).toNat))]) (st' := [vR (some a)]) (h' := h) f21_36 rfl ?_
    refine y_gr (pc' := 40) f21_37 yf_4_9 rfl rfl (ysS0 w ha) (ypS0 w ha) rfl ?_
    refine y_s (pc' := 42) (L' := [some (vR (some a)), some (vR (some b)), some (vI l2), some (vI l3), some (vI l4), some (vI (zV h (a + 3) (l4).toNat)), some (vI (zV h b ((zV h (a + 2) (l4).toNat)).toNat))]) (st' := [vI l4, vR (some (a + 1))]) (h' := h) f21_40 rfl ?_
    refine y_ia (pc' := 43) (x := (zV h (a + 1) (l4).toNat)) f21_42 (ysS1 w ha) k.1 rfl rfl ?_
    replace k := k.2
    by_cases c : (zV h (a + 1) (l4).toNat) = 1
    · refine y_tc (pc' := 80) (v := 1) f21_43 c rfl rfl rfl ?_
      replace k := k.1 c
      refine y_s (pc' := 81) (L' := [some (vR (some a)), some (vR (some b)), some (vI l2), some (vI l3), some (vI l4), some (vI (zV h (a + 3) (l4).toNat)), some (vI (zV h b ((zV h (a + 2) (l4).toNat)).toNat))]) (st' := [vI l3]) (h' := h) f21_80 rfl ?_
      refine y_s (pc' := 82) (L' := [some (vR (some a)), some (vR (some b)), some (vI l2), some (vI l3), some (vI l4), some (vI (zV h (a + 3) (l4).toNat)), some (vI (zV h b ((zV h (a + 2) (l4).toNat)).toNat))]) (st' := [vI 1, vI l3]) (h' := h) f21_81 rfl ?_
      refine y_s (pc' := 83) (L' := [some (vR (some a)), some (vR (some b)), some (vI l2), some (vI l3), some (vI l4), some (vI (zV h (a + 3) (l4).toNat)), some (vI (zV h b ((zV h (a + 2) (l4).toNat)).toNat))]) (st' := [vI (zshl l3 1)]) (h' := h) f21_82 rfl ?_
      refine y_s (pc' := 85) (L' := [some (vR (some a)), some (vR (some b)), some (vI l2), some (vI l3), some (vI l4), some (vI (zV h (a + 3) (l4).toNat)), some (vI (zV h b ((zV h (a + 2) (l4).toNat)).toNat))]) (st' := [vI (zV h b ((zV h (a + 2) (l4).toNat)).toNat), vI (zshl l3 1)]) (h' := h) f21_83 rfl ?_
      refine y_s (pc' := 87) (L' := [some (vR (some a)), some (vR (some b)), some (vI l2), some (vI l3), some (vI l4), some (vI (zV h (a + 3) (l4).toNat)), some (vI (zV h b ((zV h (a + 2) (l4).toNat)).toNat))]) (st' := [vI (zV h (a + 3) (l4).toNat), vI (zV h b ((zV h (a + 2) (l4).toNat)).toNat), vI (zshl l3 1)]) (h' := h) f21_85 rfl ?_
      refine y_ic (pcT := 94) (pc' := 90) (P := (zV h (a + 3) (l4).toNat) ≤ (zV h b ((zV h (a + 2) (l4).toNat)).toNat)) f21_87 rfl rfl rfl (fun c => ?_) (fun c => ?_)
      · replace k := k.1 c
        refine y_s (pc' := 95) (L' := [some (vR (some a)), some (vR (some b)), some (vI l2), some (vI l3), some (vI l4), some (vI (zV h (a + 3) (l4).toNat)), some (vI (zV h b ((zV h (a + 2) (l4).toNat)).toNat))]) (st' := [vI 0, vI (zshl l3 1)]) (h' := h) f21_94 rfl ?_
        refine y_s (pc' := 96) (L' := [some (vR (some a)), some (vR (some b)), some (vI l2), some (vI l3), some (vI l4), some (vI (zV h (a + 3) (l4).toNat)), some (vI (zV h b ((zV h (a + 2) (l4).toNat)).toNat))]) (st' := [vI (zor (zshl l3 1) 0)]) (h' := h) f21_95 rfl ?_
        refine y_sto (pc' := 97) (k := 3) (L' := [some (vR (some a)), some (vR (some b)), some (vI l2), some (vI (zor (zshl l3 1) 0)), some (vI l4), some (vI (zV h (a + 3) (l4).toNat)), some (vI (zV h b ((zV h (a + 2) (l4).toNat)).toNat))]) f21_96 rfl rfl rfl rfl rfl rfl ?_
        refine y_go (pc' := 199) f21_97 rfl ?_
        refine y_inc (pc' := 202) (L' := [some (vR (some a)), some (vR (some b)), some (vI l2), some (vI (zor (zshl l3 1) 0)), some (vI (zw (l4 + 1))), some (vI (zV h (a + 3) (l4).toNat)), some (vI (zV h b ((zV h (a + 2) (l4).toNat)).toNat))]) f21_199 rfl rfl rfl rfl ?_
        refine y_go (pc' := 7) f21_202 rfl ?_
        exact k
      · replace k := k.2 c
        refine y_s (pc' := 91) (L' := [some (vR (some a)), some (vR (some b)), some (vI l2), some (vI l3), some (vI l4), some (vI (zV h (a + 3) (l4).toNat)), some (vI (zV h b ((zV h (a + 2) (l4).toNat)).toNat))]) (st' := [vI 1, vI (zshl l3 1)]) (h' := h) f21_90 rfl ?_
        refine y_go (pc' := 95) f21_91 rfl ?_
        refine y_s (pc' := 96) (L' := [some (vR (some a)), some (vR (some b)), some (vI l2), some (vI l3), some (vI l4), some (vI (zV h (a + 3) (l4).toNat)), some (vI (zV h b ((zV h (a + 2) (l4).toNat)).toNat))]) (st' := [vI (zor (zshl l3 1) 1)]) (h' := h) f21_95 rfl ?_
        refine y_sto (pc' := 97) (k := 3) (L' := [some (vR (some a)), some (vR (some b)), some (vI l2), some (vI (zor (zshl l3 1) 1)), some (vI l4), some (vI (zV h (a + 3) (l4).toNat)), some (vI (zV h b ((zV h (a + 2) (l4).toNat)).toNat))]) f21_96 rfl rfl rfl rfl rfl rfl ?_
        refine y_go (pc' := 199) f21_97 rfl ?_
        refine y_inc (pc' := 202) (L' := [some (vR (some a)), some (vR (some b)), some (vI l2), some (vI (zor (zshl l3 1) 1)), some (vI (zw (l4 + 1))), some (vI (zV h (a + 3) (l4).toNat)), some (vI (zV h b ((zV h (a + 2) (l4).toNat)).toNat))]) f21_199 rfl rfl rfl rfl ?_
        refine y_go (pc' := 7) f21_202 rfl ?_
        exact k
    replace k := k.2
    have c0 := c
    by_cases c : (zV h (a + 1) (l4).toNat) = 2
    · refine y_tc (pc' := 100) (v := 2) f21_43 c rfl rfl rfl ?_
      replace k := k.1 c
      refine y_s (pc' := 101) (L' := [some (vR (some a)), some (vR (some b)), some (vI l2), some (vI l3), some (vI l4), some (vI (zV h (a + 3) (l4).toNat)), some (vI (zV h b ((zV h (a + 2) (l4).toNat)).toNat))]) (st' := [vI l3]) (h' := h) f21_100 rfl ?_
      refine y_s (pc' := 102) (L' := [some (vR (some a)), some (vR (some b)), some (vI l2), some (vI l3), some (vI l4), some (vI (zV h (a + 3) (l4).toNat)), some (vI (zV h b ((zV h (a + 2) (l4).toNat)).toNat))]) (st' := [vI 1, vI l3]) (h' := h) f21_101 rfl ?_
      refine y_s (pc' := 103) (L' := [some (vR (some a)), some (vR (some b)), some (vI l2), some (vI l3), some (vI l4), some (vI (zV h (a + 3) (l4).toNat)), some (vI (zV h b ((zV h (a + 2) (l4).toNat)).toNat))]) (st' := [vI (zshl l3 1)]) (h' := h) f21_102 rfl ?_
      refine y_s (pc' := 105) (L' := [some (vR (some a)), some (vR (some b)), some (vI l2), some (vI l3), some (vI l4), some (vI (zV h (a + 3) (l4).toNat)), some (vI (zV h b ((zV h (a + 2) (l4).toNat)).toNat))]) (st' := [vI (zV h b ((zV h (a + 2) (l4).toNat)).toNat), vI (zshl l3 1)]) (h' := h) f21_103 rfl ?_
      refine y_s (pc' := 107) (L' := [some (vR (some a)), some (vR (some b)), some (vI l2), some (vI l3), some (vI l4), some (vI (zV h (a + 3) (l4).toNat)), some (vI (zV h b ((zV h (a + 2) (l4).toNat)).toNat))]) (st' := [vI (zV h (a + 3) (l4).toNat), vI (zV h b ((zV h (a + 2) (l4).toNat)).toNat), vI (zshl l3 1)]) (h' := h) f21_105 rfl ?_
      refine y_ic (pcT := 114) (pc' := 110) (P := (zV h b ((zV h (a + 2) (l4).toNat)).toNat) ≠ (zV h (a + 3) (l4).toNat)) f21_107 rfl rfl rfl (fun c => ?_) (fun c => ?_)
      · replace k := k.1 c
        refine y_s (pc' := 115) (L' := [some (vR (some a)), some (vR (some b)), some (vI l2), some (vI l3), some (vI l4), some (vI (zV h (a + 3) (l4).toNat)), some (vI (zV h b ((zV h (a + 2) (l4).toNat)).toNat))]) (st' := [vI 0, vI (zshl l3 1)]) (h' := h) f21_114 rfl ?_
        refine y_s (pc' := 116) (L' := [some (vR (some a)), some (vR (some b)), some (vI l2), some (vI l3), some (vI l4), some (vI (zV h (a + 3) (l4).toNat)), some (vI (zV h b ((zV h (a + 2) (l4).toNat)).toNat))]) (st' := [vI (zor (zshl l3 1) 0)]) (h' := h) f21_115 rfl ?_
        refine y_sto (pc' := 117) (k := 3) (L' := [some (vR (some a)), some (vR (some b)), some (vI l2), some (vI (zor (zshl l3 1) 0)), some (vI l4), some (vI (zV h (a + 3) (l4).toNat)), some (vI (zV h b ((zV h (a + 2) (l4).toNat)).toNat))]) f21_116 rfl rfl rfl rfl rfl rfl ?_
        refine y_go (pc' := 199) f21_117 rfl ?_
        refine y_inc (pc' := 202) (L' := [some (vR (some a)), some (vR (some b)), some (vI l2), some (vI (zor (zshl l3 1) 0)), some (vI (zw (l4 + 1))), some (vI (zV h (a + 3) (l4).toNat)), some (vI (zV h b ((zV h (a + 2) (l4).toNat)).toNat))]) f21_199 rfl rfl rfl rfl ?_
        refine y_go (pc' := 7) f21_202 rfl ?_
        exact k
      · replace k := k.2 c
        refine y_s (pc' := 111) (L' := [some (vR (some a)), some (vR (some b)), some (vI l2), some (vI l3), some (vI l4), some (vI (zV h (a + 3) (l4).toNat)), some (vI (zV h b ((zV h (a + 2) (l4).toNat)).toNat))]) (st' := [vI 1, vI (zshl l3 1)]) (h' := h) f21_110 rfl ?_
        refine y_go (pc' := 115) f21_111 rfl ?_
        refine y_s (pc' := 116) (L' := [some (vR (some a)), some (vR (some b)), some (vI l2), some (vI l3), some (vI l4), some (vI (zV h (a + 3) (l4).toNat)), some (vI (zV h b ((zV h (a + 2) (l4).toNat)).toNat))]) (st' := [vI (zor (zshl l3 1) 1)]) (h' := h) f21_115 rfl ?_
        refine y_sto (pc' := 117) (k := 3) (L' := [some (vR (some a)), some (vR (some b)), some (vI l2), some (vI (zor (zshl l3 1) 1)), some (vI l4), some (vI (zV h (a + 3) (l4).toNat)), some (vI (zV h b ((zV h (a + 2) (l4).toNat)).toNat))]) f21_116 rfl rfl rfl rfl rfl rfl ?_
        refine y_go (pc' := 199) f21_117 rfl ?_
        refine y_inc (pc' := 202) (L' := [some (vR (some a)), some (vR (some b)), some (vI l2), some (vI (zor (zshl l3 1) 1)), some (vI (zw (l4 + 1))), some (vI (zV h (a + 3) (l4).toNat)), some (vI (zV h b ((zV h (a + 2) (l4).toNat)).toNat))]) f21_199 rfl rfl rfl rfl ?_
        refine y_go (pc' := 7) f21_202 rfl ?_
        exact k
    replace k := k.2
    have c1 := c
    by_cases c : (zV h (a + 1) (l4).toNat) = 3
    · refine y_tc (pc' := 120) (v := 3) f21_43 c rfl rfl rfl ?_
      replace k := k.1 c
      refine y_s (pc' := 121) (L' := [some (vR (some a)), some (vR (some b)), some (vI l2), some (vI l3), some (vI l4), some (vI (zV h (a + 3) (l4).toNat)), some (vI (zV h b ((zV h (a + 2) (l4).toNat)).toNat))]) (st' := [vI l3]) (h' := h) f21_120 rfl ?_
      refine y_s (pc' := 122) (L' := [some (vR (some a)), some (vR (some b)), some (vI l2), some (vI l3), some (vI l4), some (vI (zV h (a + 3) (l4).toNat)), some (vI (zV h b ((zV h (a + 2) (l4).toNat)).toNat))]) (st' := [vI 1, vI l3]) (h' := h) f21_121 rfl ?_
      refine y_s (pc' := 123) (L' := [some (vR (some a)), some (vR (some b)), some (vI l2), some (vI l3), some (vI l4), some (vI (zV h (a + 3) (l4).toNat)), some (vI (zV h b ((zV h (a + 2) (l4).toNat)).toNat))]) (st' := [vI (zshl l3 1)]) (h' := h) f21_122 rfl ?_
      refine y_s (pc' := 125) (L' := [some (vR (some a)), some (vR (some b)), some (vI l2), some (vI l3), some (vI l4), some (vI (zV h (a + 3) (l4).toNat)), some (vI (zV h b ((zV h (a + 2) (l4).toNat)).toNat))]) (st' := [vI (zV h b ((zV h (a + 2) (l4).toNat)).toNat), vI (zshl l3 1)]) (h' := h) f21_123 rfl ?_
      refine y_s (pc' := 127) (L' := [some (vR (some a)), some (vR (some b)), some (vI l2), some (vI l3), some (vI l4), some (vI (zV h (a + 3) (l4).toNat)), some (vI (zV h b ((zV h (a + 2) (l4).toNat)).toNat))]) (st' := [vI (zV h (a + 3) (l4).toNat), vI (zV h b ((zV h (a + 2) (l4).toNat)).toNat), vI (zshl l3 1)]) (h' := h) f21_125 rfl ?_
      refine y_ic (pcT := 134) (pc' := 130) (P := (zV h b ((zV h (a + 2) (l4).toNat)).toNat) ≤ (zV h (a + 3) (l4).toNat)) f21_127 rfl rfl rfl (fun c => ?_) (fun c => ?_)
      · replace k := k.1 c
        refine y_s (pc' := 135) (L' := [some (vR (some a)), some (vR (some b)), some (vI l2), some (vI l3), some (vI l4), some (vI (zV h (a + 3) (l4).toNat)), some (vI (zV h b ((zV h (a + 2) (l4).toNat)).toNat))]) (st' := [vI 0, vI (zshl l3 1)]) (h' := h) f21_134 rfl ?_
        refine y_s (pc' := 136) (L' := [some (vR (some a)), some (vR (some b)), some (vI l2), some (vI l3), some (vI l4), some (vI (zV h (a + 3) (l4).toNat)), some (vI (zV h b ((zV h (a + 2) (l4).toNat)).toNat))]) (st' := [vI (zor (zshl l3 1) 0)]) (h' := h) f21_135 rfl ?_
        refine y_sto (pc' := 137) (k := 3) (L' := [some (vR (some a)), some (vR (some b)), some (vI l2), some (vI (zor (zshl l3 1) 0)), some (vI l4), some (vI (zV h (a + 3) (l4).toNat)), some (vI (zV h b ((zV h (a + 2) (l4).toNat)).toNat))]) f21_136 rfl rfl rfl rfl rfl rfl ?_
        refine y_go (pc' := 199) f21_137 rfl ?_
        refine y_inc (pc' := 202) (L' := [some (vR (some a)), some (vR (some b)), some (vI l2), some (vI (zor (zshl l3 1) 0)), some (vI (zw (l4 + 1))), some (vI (zV h (a + 3) (l4).toNat)), some (vI (zV h b ((zV h (a + 2) (l4).toNat)).toNat))]) f21_199 rfl rfl rfl rfl ?_
        refine y_go (pc' := 7) f21_202 rfl ?_
        exact k
      · replace k := k.2 c
        refine y_s (pc' := 131) (L' := [some (vR (some a)), some (vR (some b)), some (vI l2), some (vI l3), some (vI l4), some (vI (zV h (a + 3) (l4).toNat)), some (vI (zV h b ((zV h (a + 2) (l4).toNat)).toNat))]) (st' := [vI 1, vI (zshl l3 1)]) (h' := h) f21_130 rfl ?_
        refine y_go (pc' := 135) f21_131 rfl ?_
        refine y_s (pc' := 136) (L' := [some (vR (some a)), some (vR (some b)), some (vI l2), some (vI l3), some (vI l4), some (vI (zV h (a + 3) (l4).toNat)), some (vI (zV h b ((zV h (a + 2) (l4).toNat)).toNat))]) (st' := [vI (zor (zshl l3 1) 1)]) (h' := h) f21_135 rfl ?_
        refine y_sto (pc' := 137) (k := 3) (L' := [some (vR (some a)), some (vR (some b)), some (vI l2), some (vI (zor (zshl l3 1) 1)), some (vI l4), some (vI (zV h (a + 3) (l4).toNat)), some (vI (zV h b ((zV h (a + 2) (l4).toNat)).toNat))]) f21_136 rfl rfl rfl rfl rfl rfl ?_
        refine y_go (pc' := 199) f21_137 rfl ?_
        refine y_inc (pc' := 202) (L' := [some (vR (some a)), some (vR (some b)), some (vI l2), some (vI (zor (zshl l3 1) 1)), some (vI (zw (l4 + 1))), some (vI (zV h (a + 3) (l4).toNat)), some (vI (zV h b ((zV h (a + 2) (l4).toNat)).toNat))]) f21_199 rfl rfl rfl rfl ?_
        refine y_go (pc' := 7) f21_202 rfl ?_
        exact k
    replace k := k.2
    have c2 := c
    by_cases c : (zV h (a + 1) (l4).toNat) = 4
    · refine y_tc (pc' := 140) (v := 4) f21_43 c rfl rfl rfl ?_
      replace k := k.1 c
      refine y_s (pc' := 141) (L' := [some (vR (some a)), some (vR (some b)), some (vI l2), some (vI l3), some (vI l4), some (vI (zV h (a + 3) (l4).toNat)), some (vI (zV h b ((zV h (a + 2) (l4).toNat)).toNat))]) (st' := [vI l3]) (h' := h) f21_140 rfl ?_
      refine y_s (pc' := 142) (L' := [some (vR (some a)), some (vR (some b)), some (vI l2), some (vI l3), some (vI l4), some (vI (zV h (a + 3) (l4).toNat)), some (vI (zV h b ((zV h (a + 2) (l4).toNat)).toNat))]) (st' := [vI 1, vI l3]) (h' := h) f21_141 rfl ?_
      refine y_s (pc' := 143) (L' := [some (vR (some a)), some (vR (some b)), some (vI l2), some (vI l3), some (vI l4), some (vI (zV h (a + 3) (l4).toNat)), some (vI (zV h b ((zV h (a + 2) (l4).toNat)).toNat))]) (st' := [vI (zxor l3 1)]) (h' := h) f21_142 rfl ?_
      refine y_sto (pc' := 144) (k := 3) (L' := [some (vR (some a)), some (vR (some b)), some (vI l2), some (vI (zxor l3 1)), some (vI l4), some (vI (zV h (a + 3) (l4).toNat)), some (vI (zV h b ((zV h (a + 2) (l4).toNat)).toNat))]) f21_143 rfl rfl rfl rfl rfl rfl ?_
      refine y_go (pc' := 199) f21_144 rfl ?_
      refine y_inc (pc' := 202) (L' := [some (vR (some a)), some (vR (some b)), some (vI l2), some (vI (zxor l3 1)), some (vI (zw (l4 + 1))), some (vI (zV h (a + 3) (l4).toNat)), some (vI (zV h b ((zV h (a + 2) (l4).toNat)).toNat))]) f21_199 rfl rfl rfl rfl ?_
      refine y_go (pc' := 7) f21_202 rfl ?_
      exact k
    replace k := k.2
    have c3 := c
    by_cases c : (zV h (a + 1) (l4).toNat) = 5
    · refine y_tc (pc' := 147) (v := 5) f21_43 c rfl rfl rfl ?_
      replace k := k.1 c
      refine y_s (pc' := 148) (L' := [some (vR (some a)), some (vR (some b)), some (vI l2), some (vI l3), some (vI l4), some (vI (zV h (a + 3) (l4).toNat)), some (vI (zV h b ((zV h (a + 2) (l4).toNat)).toNat))]) (st' := [vI l3]) (h' := h) f21_147 rfl ?_
      refine y_s (pc' := 149) (L' := [some (vR (some a)), some (vR (some b)), some (vI l2), some (vI l3), some (vI l4), some (vI (zV h (a + 3) (l4).toNat)), some (vI (zV h b ((zV h (a + 2) (l4).toNat)).toNat))]) (st' := [vI 1, vI l3]) (h' := h) f21_148 rfl ?_
      refine y_s (pc' := 150) (L' := [some (vR (some a)), some (vR (some b)), some (vI l2), some (vI l3), some (vI l4), some (vI (zV h (a + 3) (l4).toNat)), some (vI (zV h b ((zV h (a + 2) (l4).toNat)).toNat))]) (st' := [vI (zand l3 1)]) (h' := h) f21_149 rfl ?_
      refine y_s (pc' := 151) (L' := [some (vR (some a)), some (vR (some b)), some (vI l2), some (vI l3), some (vI l4), some (vI (zV h (a + 3) (l4).toNat)), some (vI (zV h b ((zV h (a + 2) (l4).toNat)).toNat))]) (st' := [vI 1, vI (zand l3 1)]) (h' := h) f21_150 rfl ?_
      refine y_ic (pcT := 160) (pc' := 154) (P := (zand l3 1) ≠ 1) f21_151 rfl rfl rfl (fun c => ?_) (fun c => ?_)
      · replace k := k.1 c
        refine y_s (pc' := 161) (L' := [some (vR (some a)), some (vR (some b)), some (vI l2), some (vI l3), some (vI l4), some (vI (zV h (a + 3) (l4).toNat)), some (vI (zV h b ((zV h (a + 2) (l4).toNat)).toNat))]) (st' := [vI l3]) (h' := h) f21_160 rfl ?_
        refine y_s (pc' := 162) (L' := [some (vR (some a)), some (vR (some b)), some (vI l2), some (vI l3), some (vI l4), some (vI (zV h (a + 3) (l4).toNat)), some (vI (zV h b ((zV h (a + 2) (l4).toNat)).toNat))]) (st' := [vI 1, vI l3]) (h' := h) f21_161 rfl ?_
        refine y_s (pc' := 163) (L' := [some (vR (some a)), some (vR (some b)), some (vI l2), some (vI l3), some (vI l4), some (vI (zV h (a + 3) (l4).toNat)), some (vI (zV h b ((zV h (a + 2) (l4).toNat)).toNat))]) (st' := [vI (zshr l3 1)]) (h' := h) f21_162 rfl ?_
        refine y_s (pc' := 165) (L' := [some (vR (some a)), some (vR (some b)), some (vI l2), some (vI l3), some (vI l4), some (vI (zV h (a + 3) (l4).toNat)), some (vI (zV h b ((zV h (a + 2) (l4).toNat)).toNat))]) (st' := [vI (-2), vI (zshr l3 1)]) (h' := h) f21_163 rfl ?_
        refine y_s (pc' := 166) (L' := [some (vR (some a)), some (vR (some b)), some (vI l2), some (vI l3), some (vI l4), some (vI (zV h (a + 3) (l4).toNat)), some (vI (zV h b ((zV h (a + 2) (l4).toNat)).toNat))]) (st' := [vI (zand (zshr l3 1) (-2))]) (h' := h) f21_165 rfl ?_
        refine y_sto (pc' := 167) (k := 3) (L' := [some (vR (some a)), some (vR (some b)), some (vI l2), some (vI (zand (zshr l3 1) (-2))), some (vI l4), some (vI (zV h (a + 3) (l4).toNat)), some (vI (zV h b ((zV h (a + 2) (l4).toNat)).toNat))]) f21_166 rfl rfl rfl rfl rfl rfl ?_
        refine y_go (pc' := 199) f21_167 rfl ?_
        refine y_inc (pc' := 202) (L' := [some (vR (some a)), some (vR (some b)), some (vI l2), some (vI (zand (zshr l3 1) (-2))), some (vI (zw (l4 + 1))), some (vI (zV h (a + 3) (l4).toNat)), some (vI (zV h b ((zV h (a + 2) (l4).toNat)).toNat))]) f21_199 rfl rfl rfl rfl ?_
        refine y_go (pc' := 7) f21_202 rfl ?_
        exact k
      · replace k := k.2 c
        refine y_s (pc' := 155) (L' := [some (vR (some a)), some (vR (some b)), some (vI l2), some (vI l3), some (vI l4), some (vI (zV h (a + 3) (l4).toNat)), some (vI (zV h b ((zV h (a + 2) (l4).toNat)).toNat))]) (st' := [vI l3]) (h' := h) f21_154 rfl ?_
        refine y_s (pc' := 156) (L' := [some (vR (some a)), some (vR (some b)), some (vI l2), some (vI l3), some (vI l4), some (vI (zV h (a + 3) (l4).toNat)), some (vI (zV h b ((zV h (a + 2) (l4).toNat)).toNat))]) (st' := [vI 1, vI l3]) (h' := h) f21_155 rfl ?_
        refine y_s (pc' := 157) (L' := [some (vR (some a)), some (vR (some b)), some (vI l2), some (vI l3), some (vI l4), some (vI (zV h (a + 3) (l4).toNat)), some (vI (zV h b ((zV h (a + 2) (l4).toNat)).toNat))]) (st' := [vI (zshr l3 1)]) (h' := h) f21_156 rfl ?_
        refine y_go (pc' := 166) f21_157 rfl ?_
        refine y_sto (pc' := 167) (k := 3) (L' := [some (vR (some a)), some (vR (some b)), some (vI l2), some (vI (zshr l3 1)), some (vI l4), some (vI (zV h (a + 3) (l4).toNat)), some (vI (zV h b ((zV h (a + 2) (l4).toNat)).toNat))]) f21_166 rfl rfl rfl rfl rfl rfl ?_
        refine y_go (pc' := 199) f21_167 rfl ?_
        refine y_inc (pc' := 202) (L' := [some (vR (some a)), some (vR (some b)), some (vI l2), some (vI (zshr l3 1)), some (vI (zw (l4 + 1))), some (vI (zV h (a + 3) (l4).toNat)), some (vI (zV h b ((zV h (a + 2) (l4).toNat)).toNat))]) f21_199 rfl rfl rfl rfl ?_
        refine y_go (pc' := 7) f21_202 rfl ?_
        exact k
    replace k := k.2
    have c4 := c
    by_cases c : (zV h (a + 1) (l4).toNat) = 6
    · refine y_tc (pc' := 170) (v := 6) f21_43 c rfl rfl rfl ?_
      replace k := k.1 c
      refine y_s (pc' := 171) (L' := [some (vR (some a)), some (vR (some b)), some (vI l2), some (vI l3), some (vI l4), some (vI (zV h (a + 3) (l4).toNat)), some (vI (zV h b ((zV h (a + 2) (l4).toNat)).toNat))]) (st' := [vI l3]) (h' := h) f21_170 rfl ?_
      refine y_s (pc' := 172) (L' := [some (vR (some a)), some (vR (some b)), some (vI l2), some (vI l3), some (vI l4), some (vI (zV h (a + 3) (l4).toNat)), some (vI (zV h b ((zV h (a + 2) (l4).toNat)).toNat))]) (st' := [vI 1, vI l3]) (h' := h) f21_171 rfl ?_
      refine y_s (pc' := 173) (L' := [some (vR (some a)), some (vR (some b)), some (vI l2), some (vI l3), some (vI l4), some (vI (zV h (a + 3) (l4).toNat)), some (vI (zV h b ((zV h (a + 2) (l4).toNat)).toNat))]) (st' := [vI (zshr l3 1)]) (h' := h) f21_172 rfl ?_
      refine y_s (pc' := 174) (L' := [some (vR (some a)), some (vR (some b)), some (vI l2), some (vI l3), some (vI l4), some (vI (zV h (a + 3) (l4).toNat)), some (vI (zV h b ((zV h (a + 2) (l4).toNat)).toNat))]) (st' := [vI l3, vI (zshr l3 1)]) (h' := h) f21_173 rfl ?_
      refine y_s (pc' := 175) (L' := [some (vR (some a)), some (vR (some b)), some (vI l2), some (vI l3), some (vI l4), some (vI (zV h (a + 3) (l4).toNat)), some (vI (zV h b ((zV h (a + 2) (l4).toNat)).toNat))]) (st' := [vI 1, vI l3, vI (zshr l3 1)]) (h' := h) f21_174 rfl ?_
      refine y_s (pc' := 176) (L' := [some (vR (some a)), some (vR (some b)), some (vI l2), some (vI l3), some (vI l4), some (vI (zV h (a + 3) (l4).toNat)), some (vI (zV h b ((zV h (a + 2) (l4).toNat)).toNat))]) (st' := [vI (zand l3 1), vI (zshr l3 1)]) (h' := h) f21_175 rfl ?_
      refine y_s (pc' := 177) (L' := [some (vR (some a)), some (vR (some b)), some (vI l2), some (vI l3), some (vI l4), some (vI (zV h (a + 3) (l4).toNat)), some (vI (zV h b ((zV h (a + 2) (l4).toNat)).toNat))]) (st' := [vI (zor (zshr l3 1) (zand l3 1))]) (h' := h) f21_176 rfl ?_
      refine y_sto (pc' := 178) (k := 3) (L' := [some (vR (some a)), some (vR (some b)), some (vI l2), some (vI (zor (zshr l3 1) (zand l3 1))), some (vI l4), some (vI (zV h (a + 3) (l4).toNat)), some (vI (zV h b ((zV h (a + 2) (l4).toNat)).toNat))]) f21_177 rfl rfl rfl rfl rfl rfl ?_
      refine y_go (pc' := 199) f21_178 rfl ?_
      refine y_inc (pc' := 202) (L' := [some (vR (some a)), some (vR (some b)), some (vI l2), some (vI (zor (zshr l3 1) (zand l3 1))), some (vI (zw (l4 + 1))), some (vI (zV h (a + 3) (l4).toNat)), some (vI (zV h b ((zV h (a + 2) (l4).toNat)).toNat))]) f21_199 rfl rfl rfl rfl ?_
      refine y_go (pc' := 7) f21_202 rfl ?_
      exact k
    replace k := k.2
    have c5 := c
    have cc : (zV h (a + 1) (l4).toNat) < 1 ∨ 6 < (zV h (a + 1) (l4).toNat) := by omega
    refine y_td (pc' := 181) f21_43 cc rfl ?_
    replace k := k cc
    refine y_s (pc' := 182) (L' := [some (vR (some a)), some (vR (some b)), some (vI l2), some (vI l3), some (vI l4), some (vI (zV h (a + 3) (l4).toNat)), some (vI (zV h b ((zV h (a + 2) (l4).toNat)).toNat))]) (st' := [vI l2]) (h' := h) f21_181 rfl ?_
    refine y_s (pc' := 183) (L' := [some (vR (some a)), some (vR (some b)), some (vI l2), some (vI l3), some (vI l4), some (vI (zV h (a + 3) (l4).toNat)), some (vI (zV h b ((zV h (a + 2) (l4).toNat)).toNat))]) (st' := [vI l3, vI l2]) (h' := h) f21_182 rfl ?_
    refine y_s (pc' := 184) (L' := [some (vR (some a)), some (vR (some b)), some (vI l2), some (vI l3), some (vI l4), some (vI (zV h (a + 3) (l4).toNat)), some (vI (zV h b ((zV h (a + 2) (l4).toNat)).toNat))]) (st' := [vI 1, vI l3, vI l2]) (h' := h) f21_183 rfl ?_
    refine y_s (pc' := 185) (L' := [some (vR (some a)), some (vR (some b)), some (vI l2), some (vI l3), some (vI l4), some (vI (zV h (a + 3) (l4).toNat)), some (vI (zV h b ((zV h (a + 2) (l4).toNat)).toNat))]) (st' := [vI (zand l3 1), vI l2]) (h' := h) f21_184 rfl ?_
    refine y_s (pc' := 186) (L' := [some (vR (some a)), some (vR (some b)), some (vI l2), some (vI l3), some (vI l4), some (vI (zV h (a + 3) (l4).toNat)), some (vI (zV h b ((zV h (a + 2) (l4).toNat)).toNat))]) (st' := [vI 1, vI (zand l3 1), vI l2]) (h' := h) f21_185 rfl ?_
    refine y_ic (pcT := 194) (pc' := 189) (P := (zand l3 1) ≠ 1) f21_186 rfl rfl rfl (fun c => ?_) (fun c => ?_)
    · replace k := k.1 c
      refine y_s (pc' := 195) (L' := [some (vR (some a)), some (vR (some b)), some (vI l2), some (vI l3), some (vI l4), some (vI (zV h (a + 3) (l4).toNat)), some (vI (zV h b ((zV h (a + 2) (l4).toNat)).toNat))]) (st' := [vI 0, vI l2]) (h' := h) f21_194 rfl ?_
      refine y_s (pc' := 196) (L' := [some (vR (some a)), some (vR (some b)), some (vI l2), some (vI l3), some (vI l4), some (vI (zV h (a + 3) (l4).toNat)), some (vI (zV h b ((zV h (a + 2) (l4).toNat)).toNat))]) (st' := [vI (zw (l2 + 0))]) (h' := h) f21_195 rfl ?_
      refine y_sto (pc' := 197) (k := 2) (L' := [some (vR (some a)), some (vR (some b)), some (vI (zw (l2 + 0))), some (vI l3), some (vI l4), some (vI (zV h (a + 3) (l4).toNat)), some (vI (zV h b ((zV h (a + 2) (l4).toNat)).toNat))]) f21_196 rfl rfl rfl rfl rfl rfl ?_
      refine y_s (pc' := 198) (L' := [some (vR (some a)), some (vR (some b)), some (vI (zw (l2 + 0))), some (vI l3), some (vI l4), some (vI (zV h (a + 3) (l4).toNat)), some (vI (zV h b ((zV h (a + 2) (l4).toNat)).toNat))]) (st' := [vI 0]) (h' := h) f21_197 rfl ?_
      refine y_sto (pc' := 199) (k := 3) (L' := [some (vR (some a)), some (vR (some b)), some (vI (zw (l2 + 0))), some (vI 0), some (vI l4), some (vI (zV h (a + 3) (l4).toNat)), some (vI (zV h b ((zV h (a + 2) (l4).toNat)).toNat))]) f21_198 rfl rfl rfl rfl rfl rfl ?_
      refine y_inc (pc' := 202) (L' := [some (vR (some a)), some (vR (some b)), some (vI (zw (l2 + 0))), some (vI 0), some (vI (zw (l4 + 1))), some (vI (zV h (a + 3) (l4).toNat)), some (vI (zV h b ((zV h (a + 2) (l4).toNat)).toNat))]) f21_199 rfl rfl rfl rfl ?_
      refine y_go (pc' := 7) f21_202 rfl ?_
      exact k
    · replace k := k.2 c
      refine y_s (pc' := 191) (L' := [some (vR (some a)), some (vR (some b)), some (vI l2), some (vI l3), some (vI l4), some (vI (zV h (a + 3) (l4).toNat)), some (vI (zV h b ((zV h (a + 2) (l4).toNat)).toNat))]) (st' := [vI (zV h (a + 3) (l4).toNat), vI l2]) (h' := h) f21_189 rfl ?_
      refine y_go (pc' := 195) f21_191 rfl ?_
      refine y_s (pc' := 196) (L' := [some (vR (some a)), some (vR (some b)), some (vI l2), some (vI l3), some (vI l4), some (vI (zV h (a + 3) (l4).toNat)), some (vI (zV h b ((zV h (a + 2) (l4).toNat)).toNat))]) (st' := [vI (zw (l2 + (zV h (a + 3) (l4).toNat)))]) (h' := h) f21_195 rfl ?_
      refine y_sto (pc' := 197) (k := 2) (L' := [some (vR (some a)), some (vR (some b)), some (vI (zw (l2 + (zV h (a + 3) (l4).toNat)))), some (vI l3), some (vI l4), some (vI (zV h (a + 3) (l4).toNat)), some (vI (zV h b ((zV h (a + 2) (l4).toNat)).toNat))]) f21_196 rfl rfl rfl rfl rfl rfl ?_
      refine y_s (pc' := 198) (L' := [some (vR (some a)), some (vR (some b)), some (vI (zw (l2 + (zV h (a + 3) (l4).toNat)))), some (vI l3), some (vI l4), some (vI (zV h (a + 3) (l4).toNat)), some (vI (zV h b ((zV h (a + 2) (l4).toNat)).toNat))]) (st' := [vI 0]) (h' := h) f21_197 rfl ?_
      refine y_sto (pc' := 199) (k := 3) (L' := [some (vR (some a)), some (vR (some b)), some (vI (zw (l2 + (zV h (a + 3) (l4).toNat)))), some (vI 0), some (vI l4), some (vI (zV h (a + 3) (l4).toNat)), some (vI (zV h b ((zV h (a + 2) (l4).toNat)).toNat))]) f21_198 rfl rfl rfl rfl rfl rfl ?_
      refine y_inc (pc' := 202) (L' := [some (vR (some a)), some (vR (some b)), some (vI (zw (l2 + (zV h (a + 3) (l4).toNat)))), some (vI 0), some (vI (zw (l4 + 1))), some (vI (zV h (a + 3) (l4).toNat)), some (vI (zV h b ((zV h (a + 2) (l4).toNat)).toNat))]) f21_199 rfl rfl rfl rfl ?_
      refine y_go (pc' := 7) f21_202 rfl ?_
      exact k
/-- HatterTunes$House.pitchOf(II)I -/
theorem E18 {d : Nat} {K : Int → Hp → Prop} (w : yWF zl nl h) {a : Nat} (ha : yHs a) {x0 : Int} {x1 : Int} (hd : 1 ≤ d) (k : yU (d - 1) 19 [vR (some a), vI x0, vI x1] h (fun h' => ZW d prog_4_method_11_code 2 6 [some (vR (some a)), some (vI x0), some (vI x1), none, none, none] [] h' (yq 1 (yqI K)))) : yI d 18 [vR (some a), vI x0, vI x1] h K := by
  refine y_en (L := [some (vR (some a)), some (vI x0), some (vI x1), none, none, none]) rfl rfl ?_
  refine y_s (pc' := 1) (L' := [some (vR (some a)), some (vI x0), some (vI x1), none, none, none]) (st' := [vR (some a)]) (h' := h) f18_0 rfl ?_
  refine y_s (pc' := 2) (L' := [some (vR (some a)), some (vI x0), some (vI x1), none, none, none]) (st' := [vI x0, vR (some a)]) (h' := h) f18_1 rfl ?_
  refine y_s (pc' := 3) (L' := [some (vR (some a)), some (vI x0), some (vI x1), none, none, none]) (st' := [vI x1, vI x0, vR (some a)]) (h' := h) f18_2 rfl ?_
  refine y_cU (pc' := 6) (as := [vR (some a), vI x0, vI x1]) (r := []) f18_3 (yzv ym_2_97 rfl (ysH0 w ha) rfl rfl) hd rfl ?_
  exact k
theorem W18_6 {d : Nat} {K : Int → Hp → Prop} (w : yWF zl nl h) {a : Nat} (ha : yHs a) {l1 : Int} {l2 : Int} (hd : 1 ≤ d) (k : (((0 : Int) ≤ l1 ∧ l1 < 6 ∧ (0 : Int) ≤ l2 ∧ l2 < 6) ∧ (∀ s, zP h a 12 = some s → ySh s → yI (d - 1) 21 [vR (some s), vR (some (a + 6))] h (fun x h' => ZW d prog_4_method_11_code 2 23 [some (vR (some a)), some (vI l1), some (vI l2), none, none, none] [vI x, vI (zV h (a + 4) (6 * l1 + l2).toNat)] h' (yq 1 (yqI K)))))) : ZW d prog_4_method_11_code 2 6 [some (vR (some a)), some (vI l1), some (vI l2), none, none, none] [] h (yq 1 (yqI K)) := by
  refine y_s (pc' := 7) (L' := [some (vR (some a)), some (vI l1), some (vI l2), none, none, none]) (st' := [vR (some a)]) (h' := h) f18_6 rfl ?_
  refine y_s (pc' := 8) (L' := [some (vR (some a)), some (vI l1), some (vI l2), none, none, none]) (st' := [vI l1, vR (some a)]) (h' := h) f18_7 rfl ?_
  refine y_s (pc' := 9) (L' := [some (vR (some a)), some (vI l1), some (vI l2), none, none, none]) (st' := [vI l2, vI l1, vR (some a)]) (h' := h) f18_8 rfl ?_
  refine y_cI (pc' := 12) (as := [vR (some a), vI l1, vI l2]) (r := []) f18_9 (yzv ym_2_77 rfl (ysH0 w ha) rfl rfl) hd rfl ?_
  have p0 := k.1
  replace k := k.2
  refine sp20 w ha p0 ?_
  refine y_s (pc' := 13) (L' := [some (vR (some a)), some (vI l1), some (vI l2), none, none, none]) (st' := [vR (some a), vI (zV h (a + 4) (6 * l1 + l2).toNat)]) (h' := h) f18_12 rfl ?_
  obtain ⟨s, es, hs⟩ := ypH12 (a := a) w ha
  replace k := k s es hs
  refine y_gr (pc' := 16) f18_13 yf_2_48 rfl rfl (ysH0 w ha) es rfl ?_
  refine y_s (pc' := 17) (L' := [some (vR (some a)), some (vI l1), some (vI l2), none, none, none]) (st' := [vR (some a), vR (some s), vI (zV h (a + 4) (6 * l1 + l2).toNat)]) (h' := h) f18_16 rfl ?_
  refine y_gr (pc' := 20) f18_17 yf_2_27 rfl rfl (ysH0 w ha) (ypH5 w ha) rfl ?_
  refine y_cI (pc' := 23) (as := [vR (some s), vR (some (a + 6))]) (r := [vI (zV h (a + 4) (6 * l1 + l2).toNat)]) f18_20 (yzv ym_2_100 rfl (ysS0 w hs) rfl rfl) hd rfl ?_
  exact k
theorem W18_23 {d : Nat} {K : Int → Hp → Prop} (w : yWF zl nl h) {a : Nat} (ha : yHs a) {l1 : Int} {l2 : Int} {s0 : Int} {s1 : Int} (hd : 1 ≤ d) (k : ((0 ≤ l1 ∧ l1 < 6) ∧ ((l2 ≠ (zV h (a + 2) (l1).toNat) → ((0 ≤ l1 ∧ l1 < 6) ∧ (((zV h (a + 1) (l1).toNat) = 1 → K (zw ((zw (s0 + s1)) + (zV h (a + 2) (l1).toNat))) h) ∧ ((zV h (a + 1) (l1).toNat) = 2 → K (zdiv (zw (s0 + s1)) 2) h) ∧ ((zV h (a + 1) (l1).toNat) = 3 → K (zw (s0 + s1)) h) ∧ ((zV h (a + 1) (l1).toNat) = 4 → (((zrem l2 2) ≠ 1 → K (zw ((zw (s0 + s1)) + (zV h (a + 2) (l1).toNat))) h) ∧ (¬ ((zrem l2 2) ≠ 1) → K (zw (2 * (zw ((zw (s0 + s1)) + (zV h (a + 2) (l1).toNat))))) h))) ∧ ((zV h (a + 1) (l1).toNat) = 5 → ((0 ≤ l1 ∧ l1 < 6) ∧ K (zw ((zdiv (zw (s0 + s1)) 2) + (ymin (zV h (a + 3) (l1).toNat) 9))) h)) ∧ ((zV h (a + 1) (l1).toNat) = 6 → ((0 ≤ (zw ((zw (l1 * 4)) + (zrem (zV h a 11) 4))) ∧ (zw ((zw (l1 * 4)) + (zrem (zV h a 11) 4))) < 24) ∧ K (zw ((zw (s0 + s1)) + (zV h (a + 5) ((zw ((zw (l1 * 4)) + (zrem (zV h a 11) 4)))).toNat))) h)) ∧ ((zV h (a + 1) (l1).toNat) < 1 ∨ 6 < (zV h (a + 1) (l1).toNat) → K (zw (s0 + s1)) h)))) ∧ (¬ (l2 ≠ (zV h (a + 2) (l1).toNat)) → ((0 ≤ l1 ∧ l1 < 6) ∧ (((zV h (a + 1) (l1).toNat) = 1 → K (zw ((zw (s0 + s1)) + (zV h (a + 2) (l1).toNat))) h) ∧ ((zV h (a + 1) (l1).toNat) = 2 → K (zdiv (zw (s0 + s1)) 2) h) ∧ ((zV h (a + 1) (l1).toNat) = 3 → K 0 h) ∧ ((zV h (a + 1) (l1).toNat) = 4 → (((zrem l2 2) ≠ 1 → K (zw ((zw (s0 + s1)) + (zV h (a + 2) (l1).toNat))) h) ∧ (¬ ((zrem l2 2) ≠ 1) → K (zw (2 * (zw ((zw (s0 + s1)) + (zV h (a + 2) (l1).toNat))))) h))) ∧ ((zV h (a + 1) (l1).toNat) = 5 → ((0 ≤ l1 ∧ l1 < 6) ∧ K (zw ((zdiv (zw (s0 + s1)) 2) + (ymin (zV h (a + 3) (l1).toNat) 9))) h)) ∧ ((zV h (a + 1) (l1).toNat) = 6 → ((0 ≤ (zw ((zw (l1 * 4)) + (zrem (zV h a 11) 4))) ∧ (zw ((zw (l1 * 4)) + (zrem (zV h a 11) 4))) < 24) ∧ K (zw (0 + (zV h (a + 5) ((zw ((zw (l1 * 4)) + (zrem (zV h a 11) 4)))).toNat))) h)) ∧ ((zV h (a + 1) (l1).toNat) < 1 ∨ 6 < (zV h (a + 1) (l1).toNat) → K (zw (s0 + s1)) h))))))) : ZW d prog_4_method_11_code 2 23 [some (vR (some a)), some (vI l1), some (vI l2), none, none, none] [vI s1, vI s0] h (yq 1 (yqI K)) := by
  refine y_s (pc' := 24) (L' := [some (vR (some a)), some (vI l1), some (vI l2), none, none, none]) (st' := [vI (zw (s0 + s1))]) (h' := h) f18_23 rfl ?_
  refine y_sto (pc' := 25) (k := 3) (L' := [some (vR (some a)), some (vI l1), some (vI l2), some (vI (zw (s0 + s1))), none, none]) f18_24 rfl rfl rfl rfl rfl rfl ?_
  refine y_s (pc' := 26) (L' := [some (vR (some a)), some (vI l1), some (vI l2), some (vI (zw (s0 + s1))), none, none]) (st' := [vR (some a)]) (h' := h) f18_25 rfl ?_
  refine y_gr (pc' := 29) f18_26 yf_2_15 rfl rfl (ysH0 w ha) (ypH1 w ha) rfl ?_
  refine y_s (pc' := 30) (L' := [some (vR (some a)), some (vI l1), some (vI l2), some (vI (zw (s0 + s1))), none, none]) (st' := [vI l1, vR (some (a + 2))]) (h' := h) f18_29 rfl ?_
  refine y_ia (pc' := 31) (x := (zV h (a + 2) (l1).toNat)) f18_30 (ysH2 w ha) k.1 rfl rfl ?_
  replace k := k.2
  refine y_sto (pc' := 33) (k := 4) (L' := [some (vR (some a)), some (vI l1), some (vI l2), some (vI (zw (s0 + s1))), some (vI (zV h (a + 2) (l1).toNat)), none]) f18_31 rfl rfl rfl rfl rfl rfl ?_
  refine y_s (pc' := 34) (L' := [some (vR (some a)), some (vI l1), some (vI l2), some (vI (zw (s0 + s1))), some (vI (zV h (a + 2) (l1).toNat)), none]) (st' := [vI l2]) (h' := h) f18_33 rfl ?_
  refine y_s (pc' := 36) (L' := [some (vR (some a)), some (vI l1), some (vI l2), some (vI (zw (s0 + s1))), some (vI (zV h (a + 2) (l1).toNat)), none]) (st' := [vI (zV h (a + 2) (l1).toNat), vI l2]) (h' := h) f18_34 rfl ?_
  refine y_ic (pcT := 43) (pc' := 39) (P := l2 ≠ (zV h (a + 2) (l1).toNat)) f18_36 rfl rfl rfl (fun c => ?_) (fun c => ?_)
  · replace k := k.1 c
    refine y_s (pc' := 44) (L' := [some (vR (some a)), some (vI l1), some (vI l2), some (vI (zw (s0 + s1))), some (vI (zV h (a + 2) (l1).toNat)), none]) (st' := [vI (zw (s0 + s1))]) (h' := h) f18_43 rfl ?_
    refine y_sto (pc' := 46) (k := 5) (L' := [some (vR (some a)), some (vI l1), some (vI l2), some (vI (zw (s0 + s1))), some (vI (zV h (a + 2) (l1).toNat)), some (vI (zw (s0 + s1)))]) f18_44 rfl rfl rfl rfl rfl rfl ?_
    refine y_s (pc' := 47) (L' := [some (vR (some a)), some (vI l1), some (vI l2), some (vI (zw (s0 + s1))), some (vI (zV h (a + 2) (l1).toNat)), some (vI (zw (s0 + s1)))]) (st' := [vR (some a)]) (h' := h) f18_46 rfl ?_
    refine y_gr (pc' := 50) f18_47 yf_2_9 rfl rfl (ysH0 w ha) (ypH0 w ha) rfl ?_
    refine y_s (pc' := 51) (L' := [some (vR (some a)), some (vI l1), some (vI l2), some (vI (zw (s0 + s1))), some (vI (zV h (a + 2) (l1).toNat)), some (vI (zw (s0 + s1)))]) (st' := [vI l1, vR (some (a + 1))]) (h' := h) f18_50 rfl ?_
    refine y_ia (pc' := 52) (x := (zV h (a + 1) (l1).toNat)) f18_51 (ysH1 w ha) k.1 rfl rfl ?_
    replace k := k.2
    by_cases c : (zV h (a + 1) (l1).toNat) = 1
    · refine y_tc (pc' := 92) (v := 1) f18_52 c rfl rfl rfl ?_
      replace k := k.1 c
      refine y_s (pc' := 93) (L' := [some (vR (some a)), some (vI l1), some (vI l2), some (vI (zw (s0 + s1))), some (vI (zV h (a + 2) (l1).toNat)), some (vI (zw (s0 + s1)))]) (st' := [vI (zw (s0 + s1))]) (h' := h) f18_92 rfl ?_
      refine y_s (pc' := 95) (L' := [some (vR (some a)), some (vI l1), some (vI l2), some (vI (zw (s0 + s1))), some (vI (zV h (a + 2) (l1).toNat)), some (vI (zw (s0 + s1)))]) (st' := [vI (zV h (a + 2) (l1).toNat), vI (zw (s0 + s1))]) (h' := h) f18_93 rfl ?_
      refine y_s (pc' := 96) (L' := [some (vR (some a)), some (vI l1), some (vI l2), some (vI (zw (s0 + s1))), some (vI (zV h (a + 2) (l1).toNat)), some (vI (zw (s0 + s1)))]) (st' := [vI (zw ((zw (s0 + s1)) + (zV h (a + 2) (l1).toNat)))]) (h' := h) f18_95 rfl ?_
      exact y_ri f18_96 ⟨rfl, k⟩
    replace k := k.2
    have c0 := c
    by_cases c : (zV h (a + 1) (l1).toNat) = 2
    · refine y_tc (pc' := 97) (v := 2) f18_52 c rfl rfl rfl ?_
      replace k := k.1 c
      refine y_s (pc' := 98) (L' := [some (vR (some a)), some (vI l1), some (vI l2), some (vI (zw (s0 + s1))), some (vI (zV h (a + 2) (l1).toNat)), some (vI (zw (s0 + s1)))]) (st' := [vI (zw (s0 + s1))]) (h' := h) f18_97 rfl ?_
      refine y_s (pc' := 99) (L' := [some (vR (some a)), some (vI l1), some (vI l2), some (vI (zw (s0 + s1))), some (vI (zV h (a + 2) (l1).toNat)), some (vI (zw (s0 + s1)))]) (st' := [vI 2, vI (zw (s0 + s1))]) (h' := h) f18_98 rfl ?_
      refine y_dv (pc' := 100) f18_99 (by decide) rfl ?_
      exact y_ri f18_100 ⟨rfl, k⟩
    replace k := k.2
    have c1 := c
    by_cases c : (zV h (a + 1) (l1).toNat) = 3
    · refine y_tc (pc' := 101) (v := 3) f18_52 c rfl rfl rfl ?_
      replace k := k.1 c
      refine y_s (pc' := 103) (L' := [some (vR (some a)), some (vI l1), some (vI l2), some (vI (zw (s0 + s1))), some (vI (zV h (a + 2) (l1).toNat)), some (vI (zw (s0 + s1)))]) (st' := [vI (zw (s0 + s1))]) (h' := h) f18_101 rfl ?_
      exact y_ri f18_103 ⟨rfl, k⟩
    replace k := k.2
    have c2 := c
    by_cases c : (zV h (a + 1) (l1).toNat) = 4
    · refine y_tc (pc' := 104) (v := 4) f18_52 c rfl rfl rfl ?_
      replace k := k.1 c
      refine y_s (pc' := 105) (L' := [some (vR (some a)), some (vI l1), some (vI l2), some (vI (zw (s0 + s1))), some (vI (zV h (a + 2) (l1).toNat)), some (vI (zw (s0 + s1)))]) (st' := [vI l2]) (h' := h) f18_104 rfl ?_
      refine y_s (pc' := 106) (L' := [some (vR (some a)), some (vI l1), some (vI l2), some (vI (zw (s0 + s1))), some (vI (zV h (a + 2) (l1).toNat)), some (vI (zw (s0 + s1)))]) (st' := [vI 2, vI l2]) (h' := h) f18_105 rfl ?_
      refine y_rm (pc' := 107) f18_106 (by decide) rfl ?_
      refine y_s (pc' := 108) (L' := [some (vR (some a)), some (vI l1), some (vI l2), some (vI (zw (s0 + s1))), some (vI (zV h (a + 2) (l1).toNat)), some (vI (zw (s0 + s1)))]) (st' := [vI 1, vI (zrem l2 2)]) (h' := h) f18_107 rfl ?_
      refine y_ic (pcT := 120) (pc' := 111) (P := (zrem l2 2) ≠ 1) f18_108 rfl rfl rfl (fun c => ?_) (fun c => ?_)
      · replace k := k.1 c
        refine y_s (pc' := 121) (L' := [some (vR (some a)), some (vI l1), some (vI l2), some (vI (zw (s0 + s1))), some (vI (zV h (a + 2) (l1).toNat)), some (vI (zw (s0 + s1)))]) (st' := [vI (zw (s0 + s1))]) (h' := h) f18_120 rfl ?_
        refine y_s (pc' := 123) (L' := [some (vR (some a)), some (vI l1), some (vI l2), some (vI (zw (s0 + s1))), some (vI (zV h (a + 2) (l1).toNat)), some (vI (zw (s0 + s1)))]) (st' := [vI (zV h (a + 2) (l1).toNat), vI (zw (s0 + s1))]) (h' := h) f18_121 rfl ?_
        refine y_s (pc' := 124) (L' := [some (vR (some a)), some (vI l1), some (vI l2), some (vI (zw (s0 + s1))), some (vI (zV h (a + 2) (l1).toNat)), some (vI (zw (s0 + s1)))]) (st' := [vI (zw ((zw (s0 + s1)) + (zV h (a + 2) (l1).toNat)))]) (h' := h) f18_123 rfl ?_
        exact y_ri f18_124 ⟨rfl, k⟩
      · replace k := k.2 c
        refine y_s (pc' := 112) (L' := [some (vR (some a)), some (vI l1), some (vI l2), some (vI (zw (s0 + s1))), some (vI (zV h (a + 2) (l1).toNat)), some (vI (zw (s0 + s1)))]) (st' := [vI 2]) (h' := h) f18_111 rfl ?_
        refine y_s (pc' := 113) (L' := [some (vR (some a)), some (vI l1), some (vI l2), some (vI (zw (s0 + s1))), some (vI (zV h (a + 2) (l1).toNat)), some (vI (zw (s0 + s1)))]) (st' := [vI (zw (s0 + s1)), vI 2]) (h' := h) f18_112 rfl ?_
        refine y_s (pc' := 115) (L' := [some (vR (some a)), some (vI l1), some (vI l2), some (vI (zw (s0 + s1))), some (vI (zV h (a + 2) (l1).toNat)), some (vI (zw (s0 + s1)))]) (st' := [vI (zV h (a + 2) (l1).toNat), vI (zw (s0 + s1)), vI 2]) (h' := h) f18_113 rfl ?_
        refine y_s (pc' := 116) (L' := [some (vR (some a)), some (vI l1), some (vI l2), some (vI (zw (s0 + s1))), some (vI (zV h (a + 2) (l1).toNat)), some (vI (zw (s0 + s1)))]) (st' := [vI (zw ((zw (s0 + s1)) + (zV h (a + 2) (l1).toNat))), vI 2]) (h' := h) f18_115 rfl ?_
        refine y_s (pc' := 117) (L' := [some (vR (some a)), some (vI l1), some (vI l2), some (vI (zw (s0 + s1))), some (vI (zV h (a + 2) (l1).toNat)), some (vI (zw (s0 + s1)))]) (st' := [vI (zw (2 * (zw ((zw (s0 + s1)) + (zV h (a + 2) (l1).toNat)))))]) (h' := h) f18_116 rfl ?_
        refine y_go (pc' := 124) f18_117 rfl ?_
        exact y_ri f18_124 ⟨rfl, k⟩
    replace k := k.2
    have c3 := c
    by_cases c : (zV h (a + 1) (l1).toNat) = 5
    · refine y_tc (pc' := 125) (v := 5) f18_52 c rfl rfl rfl ?_
      replace k := k.1 c
      refine y_s (pc' := 126) (L' := [some (vR (some a)), some (vI l1), some (vI l2), some (vI (zw (s0 + s1))), some (vI (zV h (a + 2) (l1).toNat)), some (vI (zw (s0 + s1)))]) (st' := [vI (zw (s0 + s1))]) (h' := h) f18_125 rfl ?_
      refine y_s (pc' := 127) (L' := [some (vR (some a)), some (vI l1), some (vI l2), some (vI (zw (s0 + s1))), some (vI (zV h (a + 2) (l1).toNat)), some (vI (zw (s0 + s1)))]) (st' := [vI 2, vI (zw (s0 + s1))]) (h' := h) f18_126 rfl ?_
      refine y_dv (pc' := 128) f18_127 (by decide) rfl ?_
      refine y_s (pc' := 129) (L' := [some (vR (some a)), some (vI l1), some (vI l2), some (vI (zw (s0 + s1))), some (vI (zV h (a + 2) (l1).toNat)), some (vI (zw (s0 + s1)))]) (st' := [vR (some a), vI (zdiv (zw (s0 + s1)) 2)]) (h' := h) f18_128 rfl ?_
      refine y_gr (pc' := 132) f18_129 yf_2_18 rfl rfl (ysH0 w ha) (ypH2 w ha) rfl ?_
      refine y_s (pc' := 133) (L' := [some (vR (some a)), some (vI l1), some (vI l2), some (vI (zw (s0 + s1))), some (vI (zV h (a + 2) (l1).toNat)), some (vI (zw (s0 + s1)))]) (st' := [vI l1, vR (some (a + 3)), vI (zdiv (zw (s0 + s1)) 2)]) (h' := h) f18_132 rfl ?_
      refine y_ia (pc' := 134) (x := (zV h (a + 3) (l1).toNat)) f18_133 (ysH3 w ha) k.1 rfl rfl ?_
      replace k := k.2
      refine y_s (pc' := 136) (L' := [some (vR (some a)), some (vI l1), some (vI l2), some (vI (zw (s0 + s1))), some (vI (zV h (a + 2) (l1).toNat)), some (vI (zw (s0 + s1)))]) (st' := [vI 9, vI (zV h (a + 3) (l1).toNat), vI (zdiv (zw (s0 + s1)) 2)]) (h' := h) f18_134 rfl ?_
      refine y_mn (pc' := 139) f18_136 ym_2_92 hd rfl rfl ?_
      refine y_s (pc' := 140) (L' := [some (vR (some a)), some (vI l1), some (vI l2), some (vI (zw (s0 + s1))), some (vI (zV h (a + 2) (l1).toNat)), some (vI (zw (s0 + s1)))]) (st' := [vI (zw ((zdiv (zw (s0 + s1)) 2) + (ymin (zV h (a + 3) (l1).toNat) 9)))]) (h' := h) f18_139 rfl ?_
      exact y_ri f18_140 ⟨rfl, k⟩
    replace k := k.2
    have c4 := c
    by_cases c : (zV h (a + 1) (l1).toNat) = 6
    · refine y_tc (pc' := 141) (v := 6) f18_52 c rfl rfl rfl ?_
      replace k := k.1 c
      refine y_s (pc' := 143) (L' := [some (vR (some a)), some (vI l1), some (vI l2), some (vI (zw (s0 + s1))), some (vI (zV h (a + 2) (l1).toNat)), some (vI (zw (s0 + s1)))]) (st' := [vI (zw (s0 + s1))]) (h' := h) f18_141 rfl ?_
      refine y_s (pc' := 144) (L' := [some (vR (some a)), some (vI l1), some (vI l2), some (vI (zw (s0 + s1))), some (vI (zV h (a + 2) (l1).toNat)), some (vI (zw (s0 + s1)))]) (st' := [vR (some a), vI (zw (s0 + s1))]) (h' := h) f18_143 rfl ?_
      refine y_gr (pc' := 147) f18_144 yf_2_24 rfl rfl (ysH0 w ha) (ypH4 w ha) rfl ?_
      refine y_s (pc' := 148) (L' := [some (vR (some a)), some (vI l1), some (vI l2), some (vI (zw (s0 + s1))), some (vI (zV h (a + 2) (l1).toNat)), some (vI (zw (s0 + s1)))]) (st' := [vI l1, vR (some (a + 5)), vI (zw (s0 + s1))]) (h' := h) f18_147 rfl ?_
      refine y_s (pc' := 149) (L' := [some (vR (some a)), some (vI l1), some (vI l2), some (vI (zw (s0 + s1))), some (vI (zV h (a + 2) (l1).toNat)), some (vI (zw (s0 + s1)))]) (st' := [vI 4, vI l1, vR (some (a + 5)), vI (zw (s0 + s1))]) (h' := h) f18_148 rfl ?_
      refine y_s (pc' := 150) (L' := [some (vR (some a)), some (vI l1), some (vI l2), some (vI (zw (s0 + s1))), some (vI (zV h (a + 2) (l1).toNat)), some (vI (zw (s0 + s1)))]) (st' := [vI (zw (l1 * 4)), vR (some (a + 5)), vI (zw (s0 + s1))]) (h' := h) f18_149 rfl ?_
      refine y_s (pc' := 151) (L' := [some (vR (some a)), some (vI l1), some (vI l2), some (vI (zw (s0 + s1))), some (vI (zV h (a + 2) (l1).toNat)), some (vI (zw (s0 + s1)))]) (st' := [vR (some a), vI (zw (l1 * 4)), vR (some (a + 5)), vI (zw (s0 + s1))]) (h' := h) f18_150 rfl ?_
      refine y_gi (pc' := 154) f18_151 yf_2_66 rfl rfl (ysH0 w ha) rfl ?_
      refine y_s (pc' := 155) (L' := [some (vR (some a)), some (vI l1), some (vI l2), some (vI (zw (s0 + s1))), some (vI (zV h (a + 2) (l1).toNat)), some (vI (zw (s0 + s1)))]) (st' := [vI 4, vI (zV h a 11), vI (zw (l1 * 4)), vR (some (a + 5)), vI (zw (s0 + s1))]) (h' := h) f18_154 rfl ?_
      refine y_rm (pc' := 156) f18_155 (by decide) rfl ?_
      refine y_s (pc' := 157) (L' := [some (vR (some a)), some (vI l1), some (vI l2), some (vI (zw (s0 + s1))), some (vI (zV h (a + 2) (l1).toNat)), some (vI (zw (s0 + s1)))]) (st' := [vI (zw ((zw (l1 * 4)) + (zrem (zV h a 11) 4))), vR (some (a + 5)), vI (zw (s0 + s1))]) (h' := h) f18_156 rfl ?_
      refine y_ia (pc' := 158) (x := (zV h (a + 5) ((zw ((zw (l1 * 4)) + (zrem (zV h a 11) 4)))).toNat)) f18_157 (ysH5 w ha) k.1 rfl rfl ?_
      replace k := k.2
      refine y_s (pc' := 159) (L' := [some (vR (some a)), some (vI l1), some (vI l2), some (vI (zw (s0 + s1))), some (vI (zV h (a + 2) (l1).toNat)), some (vI (zw (s0 + s1)))]) (st' := [vI (zw ((zw (s0 + s1)) + (zV h (a + 5) ((zw ((zw (l1 * 4)) + (zrem (zV h a 11) 4)))).toNat)))]) (h' := h) f18_158 rfl ?_
      exact y_ri f18_159 ⟨rfl, k⟩
    replace k := k.2
    have c5 := c
    have cc : (zV h (a + 1) (l1).toNat) < 1 ∨ 6 < (zV h (a + 1) (l1).toNat) := by omega
    refine y_td (pc' := 160) f18_52 cc rfl ?_
    replace k := k cc
    refine y_s (pc' := 161) (L' := [some (vR (some a)), some (vI l1), some (vI l2), some (vI (zw (s0 + s1))), some (vI (zV h (a + 2) (l1).toNat)), some (vI (zw (s0 + s1)))]) (st' := [vI (zw (s0 + s1))]) (h' := h) f18_160 rfl ?_
    exact y_ri f18_161 ⟨rfl, k⟩
  · replace k := k.2 c
    refine y_s (pc' := 40) (L' := [some (vR (some a)), some (vI l1), some (vI l2), some (vI (zw (s0 + s1))), some (vI (zV h (a + 2) (l1).toNat)), none]) (st' := [vI 0]) (h' := h) f18_39 rfl ?_
    refine y_go (pc' := 44) f18_40 rfl ?_
    refine y_sto (pc' := 46) (k := 5) (L' := [some (vR (some a)), some (vI l1), some (vI l2), some (vI (zw (s0 + s1))), some (vI (zV h (a + 2) (l1).toNat)), some (vI 0)]) f18_44 rfl rfl rfl rfl rfl rfl ?_
    refine y_s (pc' := 47) (L' := [some (vR (some a)), some (vI l1), some (vI l2), some (vI (zw (s0 + s1))), some (vI (zV h (a + 2) (l1).toNat)), some (vI 0)]) (st' := [vR (some a)]) (h' := h) f18_46 rfl ?_
    refine y_gr (pc' := 50) f18_47 yf_2_9 rfl rfl (ysH0 w ha) (ypH0 w ha) rfl ?_
    refine y_s (pc' := 51) (L' := [some (vR (some a)), some (vI l1), some (vI l2), some (vI (zw (s0 + s1))), some (vI (zV h (a + 2) (l1).toNat)), some (vI 0)]) (st' := [vI l1, vR (some (a + 1))]) (h' := h) f18_50 rfl ?_
    refine y_ia (pc' := 52) (x := (zV h (a + 1) (l1).toNat)) f18_51 (ysH1 w ha) k.1 rfl rfl ?_
    replace k := k.2
    by_cases c : (zV h (a + 1) (l1).toNat) = 1
    · refine y_tc (pc' := 92) (v := 1) f18_52 c rfl rfl rfl ?_
      replace k := k.1 c
      refine y_s (pc' := 93) (L' := [some (vR (some a)), some (vI l1), some (vI l2), some (vI (zw (s0 + s1))), some (vI (zV h (a + 2) (l1).toNat)), some (vI 0)]) (st' := [vI (zw (s0 + s1))]) (h' := h) f18_92 rfl ?_
      refine y_s (pc' := 95) (L' := [some (vR (some a)), some (vI l1), some (vI l2), some (vI (zw (s0 + s1))), some (vI (zV h (a + 2) (l1).toNat)), some (vI 0)]) (st' := [vI (zV h (a + 2) (l1).toNat), vI (zw (s0 + s1))]) (h' := h) f18_93 rfl ?_
      refine y_s (pc' := 96) (L' := [some (vR (some a)), some (vI l1), some (vI l2), some (vI (zw (s0 + s1))), some (vI (zV h (a + 2) (l1).toNat)), some (vI 0)]) (st' := [vI (zw ((zw (s0 + s1)) + (zV h (a + 2) (l1).toNat)))]) (h' := h) f18_95 rfl ?_
      exact y_ri f18_96 ⟨rfl, k⟩
    replace k := k.2
    have c0 := c
    by_cases c : (zV h (a + 1) (l1).toNat) = 2
    · refine y_tc (pc' := 97) (v := 2) f18_52 c rfl rfl rfl ?_
      replace k := k.1 c
      refine y_s (pc' := 98) (L' := [some (vR (some a)), some (vI l1), some (vI l2), some (vI (zw (s0 + s1))), some (vI (zV h (a + 2) (l1).toNat)), some (vI 0)]) (st' := [vI (zw (s0 + s1))]) (h' := h) f18_97 rfl ?_
      refine y_s (pc' := 99) (L' := [some (vR (some a)), some (vI l1), some (vI l2), some (vI (zw (s0 + s1))), some (vI (zV h (a + 2) (l1).toNat)), some (vI 0)]) (st' := [vI 2, vI (zw (s0 + s1))]) (h' := h) f18_98 rfl ?_
      refine y_dv (pc' := 100) f18_99 (by decide) rfl ?_
      exact y_ri f18_100 ⟨rfl, k⟩
    replace k := k.2
    have c1 := c
    by_cases c : (zV h (a + 1) (l1).toNat) = 3
    · refine y_tc (pc' := 101) (v := 3) f18_52 c rfl rfl rfl ?_
      replace k := k.1 c
      refine y_s (pc' := 103) (L' := [some (vR (some a)), some (vI l1), some (vI l2), some (vI (zw (s0 + s1))), some (vI (zV h (a + 2) (l1).toNat)), some (vI 0)]) (st' := [vI 0]) (h' := h) f18_101 rfl ?_
      exact y_ri f18_103 ⟨rfl, k⟩
    replace k := k.2
    have c2 := c
    by_cases c : (zV h (a + 1) (l1).toNat) = 4
    · refine y_tc (pc' := 104) (v := 4) f18_52 c rfl rfl rfl ?_
      replace k := k.1 c
      refine y_s (pc' := 105) (L' := [some (vR (some a)), some (vI l1), some (vI l2), some (vI (zw (s0 + s1))), some (vI (zV h (a + 2) (l1).toNat)), some (vI 0)]) (st' := [vI l2]) (h' := h) f18_104 rfl ?_
      refine y_s (pc' := 106) (L' := [some (vR (some a)), some (vI l1), some (vI l2), some (vI (zw (s0 + s1))), some (vI (zV h (a + 2) (l1).toNat)), some (vI 0)]) (st' := [vI 2, vI l2]) (h' := h) f18_105 rfl ?_
      refine y_rm (pc' := 107) f18_106 (by decide) rfl ?_
      refine y_s (pc' := 108) (L' := [some (vR (some a)), some (vI l1), some (vI l2), some (vI (zw (s0 + s1))), some (vI (zV h (a + 2) (l1).toNat)), some (vI 0)]) (st' := [vI 1, vI (zrem l2 2)]) (h' := h) f18_107 rfl ?_
      refine y_ic (pcT := 120) (pc' := 111) (P := (zrem l2 2) ≠ 1) f18_108 rfl rfl rfl (fun c => ?_) (fun c => ?_)
      · replace k := k.1 c
        refine y_s (pc' := 121) (L' := [some (vR (some a)), some (vI l1), some (vI l2), some (vI (zw (s0 + s1))), some (vI (zV h (a + 2) (l1).toNat)), some (vI 0)]) (st' := [vI (zw (s0 + s1))]) (h' := h) f18_120 rfl ?_
        refine y_s (pc' := 123) (L' := [some (vR (some a)), some (vI l1), some (vI l2), some (vI (zw (s0 + s1))), some (vI (zV h (a + 2) (l1).toNat)), some (vI 0)]) (st' := [vI (zV h (a + 2) (l1).toNat), vI (zw (s0 + s1))]) (h' := h) f18_121 rfl ?_
        refine y_s (pc' := 124) (L' := [some (vR (some a)), some (vI l1), some (vI l2), some (vI (zw (s0 + s1))), some (vI (zV h (a + 2) (l1).toNat)), some (vI 0)]) (st' := [vI (zw ((zw (s0 + s1)) + (zV h (a + 2) (l1).toNat)))]) (h' := h) f18_123 rfl ?_
        exact y_ri f18_124 ⟨rfl, k⟩
      · replace k := k.2 c
        refine y_s (pc' := 112) (L' := [some (vR (some a)), some (vI l1), some (vI l2), some (vI (zw (s0 + s1))), some (vI (zV h (a + 2) (l1).toNat)), some (vI 0)]) (st' := [vI 2]) (h' := h) f18_111 rfl ?_
        refine y_s (pc' := 113) (L' := [some (vR (some a)), some (vI l1), some (vI l2), some (vI (zw (s0 + s1))), some (vI (zV h (a + 2) (l1).toNat)), some (vI 0)]) (st' := [vI (zw (s0 + s1)), vI 2]) (h' := h) f18_112 rfl ?_
        refine y_s (pc' := 115) (L' := [some (vR (some a)), some (vI l1), some (vI l2), some (vI (zw (s0 + s1))), some (vI (zV h (a + 2) (l1).toNat)), some (vI 0)]) (st' := [vI (zV h (a + 2) (l1).toNat), vI (zw (s0 + s1)), vI 2]) (h' := h) f18_113 rfl ?_
        refine y_s (pc' := 116) (L' := [some (vR (some a)), some (vI l1), some (vI l2), some (vI (zw (s0 + s1))), some (vI (zV h (a + 2) (l1).toNat)), some (vI 0)]) (st' := [vI (zw ((zw (s0 + s1)) + (zV h (a + 2) (l1).toNat))), vI 2]) (h' := h) f18_115 rfl ?_
        refine y_s (pc' := 117) (L' := [some (vR (some a)), some (vI l1), some (vI l2), some (vI (zw (s0 + s1))), some (vI (zV h (a + 2) (l1).toNat)), some (vI 0)]) (st' := [vI (zw (2 * (zw ((zw (s0 + s1)) + (zV h (a + 2) (l1).toNat)))))]) (h' := h) f18_116 rfl ?_
        refine y_go (pc' := 124) f18_117 rfl ?_
        exact y_ri f18_124 ⟨rfl, k⟩
    replace k := k.2
    have c3 := c
    by_cases c : (zV h (a + 1) (l1).toNat) = 5
    · refine y_tc (pc' := 125) (v := 5) f18_52 c rfl rfl rfl ?_
      replace k := k.1 c
      refine y_s (pc' := 126) (L' := [some (vR (some a)), some (vI l1), some (vI l2), some (vI (zw (s0 + s1))), some (vI (zV h (a + 2) (l1).toNat)), some (vI 0)]) (st' := [vI (zw (s0 + s1))]) (h' := h) f18_125 rfl ?_
      refine y_s (pc' := 127) (L' := [some (vR (some a)), some (vI l1), some (vI l2), some (vI (zw (s0 + s1))), some (vI (zV h (a + 2) (l1).toNat)), some (vI 0)]) (st' := [vI 2, vI (zw (s0 + s1))]) (h' := h) f18_126 rfl ?_
      refine y_dv (pc' := 128) f18_127 (by decide) rfl ?_
      refine y_s (pc' := 129) (L' := [some (vR (some a)), some (vI l1), some (vI l2), some (vI (zw (s0 + s1))), some (vI (zV h (a + 2) (l1).toNat)), some (vI 0)]) (st' := [vR (some a), vI (zdiv (zw (s0 + s1)) 2)]) (h' := h) f18_128 rfl ?_
      refine y_gr (pc' := 132) f18_129 yf_2_18 rfl rfl (ysH0 w ha) (ypH2 w ha) rfl ?_
      refine y_s (pc' := 133) (L' := [some (vR (some a)), some (vI l1), some (vI l2), some (vI (zw (s0 + s1))), some (vI (zV h (a + 2) (l1).toNat)), some (vI 0)]) (st' := [vI l1, vR (some (a + 3)), vI (zdiv (zw (s0 + s1)) 2)]) (h' := h) f18_132 rfl ?_
      refine y_ia (pc' := 134) (x := (zV h (a + 3) (l1).toNat)) f18_133 (ysH3 w ha) k.1 rfl rfl ?_
      replace k := k.2
      refine y_s (pc' := 136) (L' := [some (vR (some a)), some (vI l1), some (vI l2), some (vI (zw (s0 + s1))), some (vI (zV h (a + 2) (l1).toNat)), some (vI 0)]) (st' := [vI 9, vI (zV h (a + 3) (l1).toNat), vI (zdiv (zw (s0 + s1)) 2)]) (h' := h) f18_134 rfl ?_
      refine y_mn (pc' := 139) f18_136 ym_2_92 hd rfl rfl ?_
      refine y_s (pc' := 140) (L' := [some (vR (some a)), some (vI l1), some (vI l2), some (vI (zw (s0 + s1))), some (vI (zV h (a + 2) (l1).toNat)), some (vI 0)]) (st' := [vI (zw ((zdiv (zw (s0 + s1)) 2) + (ymin (zV h (a + 3) (l1).toNat) 9)))]) (h' := h) f18_139 rfl ?_
      exact y_ri f18_140 ⟨rfl, k⟩
    replace k := k.2
    have c4 := c
    by_cases c : (zV h (a + 1) (l1).toNat) = 6
    · refine y_tc (pc' := 141) (v := 6) f18_52 c rfl rfl rfl ?_
      replace k := k.1 c
      refine y_s (pc' := 143) (L' := [some (vR (some a)), some (vI l1), some (vI l2), some (vI (zw (s0 + s1))), some (vI (zV h (a + 2) (l1).toNat)), some (vI 0)]) (st' := [vI 0]) (h' := h) f18_141 rfl ?_
      refine y_s (pc' := 144) (L' := [some (vR (some a)), some (vI l1), some (vI l2), some (vI (zw (s0 + s1))), some (vI (zV h (a + 2) (l1).toNat)), some (vI 0)]) (st' := [vR (some a), vI 0]) (h' := h) f18_143 rfl ?_
      refine y_gr (pc' := 147) f18_144 yf_2_24 rfl rfl (ysH0 w ha) (ypH4 w ha) rfl ?_
      refine y_s (pc' := 148) (L' := [some (vR (some a)), some (vI l1), some (vI l2), some (vI (zw (s0 + s1))), some (vI (zV h (a + 2) (l1).toNat)), some (vI 0)]) (st' := [vI l1, vR (some (a + 5)), vI 0]) (h' := h) f18_147 rfl ?_
      refine y_s (pc' := 149) (L' := [some (vR (some a)), some (vI l1), some (vI l2), some (vI (zw (s0 + s1))), some (vI (zV h (a + 2) (l1).toNat)), some (vI 0)]) (st' := [vI 4, vI l1, vR (some (a + 5)), vI 0]) (h' := h) f18_148 rfl ?_
      refine y_s (pc' := 150) (L' := [some (vR (some a)), some (vI l1), some (vI l2), some (vI (zw (s0 + s1))), some (vI (zV h (a + 2) (l1).toNat)), some (vI 0)]) (st' := [vI (zw (l1 * 4)), vR (some (a + 5)), vI 0]) (h' := h) f18_149 rfl ?_
      refine y_s (pc' := 151) (L' := [some (vR (some a)), some (vI l1), some (vI l2), some (vI (zw (s0 + s1))), some (vI (zV h (a + 2) (l1).toNat)), some (vI 0)]) (st' := [vR (some a), vI (zw (l1 * 4)), vR (some (a + 5)), vI 0]) (h' := h) f18_150 rfl ?_
      refine y_gi (pc' := 154) f18_151 yf_2_66 rfl rfl (ysH0 w ha) rfl ?_
      refine y_s (pc' := 155) (L' := [some (vR (some a)), some (vI l1), some (vI l2), some (vI (zw (s0 + s1))), some (vI (zV h (a + 2) (l1).toNat)), some (vI 0)]) (st' := [vI 4, vI (zV h a 11), vI (zw (l1 * 4)), vR (some (a + 5)), vI 0]) (h' := h) f18_154 rfl ?_
      refine y_rm (pc' := 156) f18_155 (by decide) rfl ?_
      refine y_s (pc' := 157) (L' := [some (vR (some a)), some (vI l1), some (vI l2), some (vI (zw (s0 + s1))), some (vI (zV h (a + 2) (l1).toNat)), some (vI 0)]) (st' := [vI (zw ((zw (l1 * 4)) + (zrem (zV h a 11) 4))), vR (some (a + 5)), vI 0]) (h' := h) f18_156 rfl ?_
      refine y_ia (pc' := 158) (x := (zV h (a + 5) ((zw ((zw (l1 * 4)) + (zrem (zV h a 11) 4)))).toNat)) f18_157 (ysH5 w ha) k.1 rfl rfl ?_
      replace k := k.2
      refine y_s (pc' := 159) (L' := [some (vR (some a)), some (vI l1), some (vI l2), some (vI (zw (s0 + s1))), some (vI (zV h (a + 2) (l1).toNat)), some (vI 0)]) (st' := [vI (zw (0 + (zV h (a + 5) ((zw ((zw (l1 * 4)) + (zrem (zV h a 11) 4)))).toNat)))]) (h' := h) f18_158 rfl ?_
      exact y_ri f18_159 ⟨rfl, k⟩
    replace k := k.2
    have c5 := c
    have cc : (zV h (a + 1) (l1).toNat) < 1 ∨ 6 < (zV h (a + 1) (l1).toNat) := by omega
    refine y_td (pc' := 160) f18_52 cc rfl ?_
    replace k := k cc
    refine y_s (pc' := 161) (L' := [some (vR (some a)), some (vI l1), some (vI l2), some (vI (zw (s0 + s1))), some (vI (zV h (a + 2) (l1).toNat)), some (vI 0)]) (st' := [vI (zw (s0 + s1))]) (h' := h) f18_160 rfl ?_
    exact y_ri f18_161 ⟨rfl, k⟩
/-- HatterTunes$House.tuneAsNumber()I -/
theorem E25 {d : Nat} {K : Int → Hp → Prop} (w : yWF zl nl h) {a : Nat} (ha : yHs a) (k : ZW d prog_4_method_16_code 2 4 [some (vR (some a)), some (vI 0), some (vI 0)] [] h (yq 1 (yqI K))) : yI d 25 [vR (some a)] h K := by
  refine y_en (L := [some (vR (some a)), none, none]) rfl rfl ?_
  refine y_s (pc' := 1) (L' := [some (vR (some a)), none, none]) (st' := [vI 0]) (h' := h) f25_0 rfl ?_
  refine y_sto (pc' := 2) (k := 1) (L' := [some (vR (some a)), some (vI 0), none]) f25_1 rfl rfl rfl rfl rfl rfl ?_
  refine y_s (pc' := 3) (L' := [some (vR (some a)), some (vI 0), none]) (st' := [vI 0]) (h' := h) f25_2 rfl ?_
  refine y_sto (pc' := 4) (k := 2) (L' := [some (vR (some a)), some (vI 0), some (vI 0)]) f25_3 rfl rfl rfl rfl rfl rfl ?_
  exact k
theorem W25_4 {d : Nat} {K : Int → Hp → Prop} (w : yWF zl nl h) {a : Nat} (ha : yHs a) {l1 : Int} {l2 : Int} (hd : 1 ≤ d) (k : (((zV h ((a + 7)) 1) ≤ l2 → K l1 h) ∧ (¬ ((zV h ((a + 7)) 1) ≤ l2) → (((0 : Int) ≤ l2 ∧ (0 : Int) ≤ 0 ∧ 4 * l2 + 0 < (32 : Int)) ∧ ZW d prog_4_method_16_code 2 4 [some (vR (some a)), some (vI (zw ((zw (l1 * 10)) + (zV h (((a + 7)) + 1) (4 * l2 + 0).toNat)))), some (vI (zw (l2 + 1)))] [] h (yq 1 (yqI K)))))) : ZW d prog_4_method_16_code 2 4 [some (vR (some a)), some (vI l1), some (vI l2)] [] h (yq 1 (yqI K)) := by
  refine y_s (pc' := 5) (L' := [some (vR (some a)), some (vI l1), some (vI l2)]) (st' := [vI l2]) (h' := h) f25_4 rfl ?_
  refine y_s (pc' := 6) (L' := [some (vR (some a)), some (vI l1), some (vI l2)]) (st' := [vR (some a), vI l2]) (h' := h) f25_5 rfl ?_
  refine y_gr (pc' := 9) f25_6 yf_2_35 rfl rfl (ysH0 w ha) (ypH6 w ha) rfl ?_
  refine y_gi (pc' := 12) f25_9 yf_2_113 rfl rfl (ysR0 w (yR7 ha)) rfl ?_
  refine y_ic (pcT := 36) (pc' := 15) (P := (zV h ((a + 7)) 1) ≤ l2) f25_12 rfl rfl rfl (fun c => ?_) (fun c => ?_)
  · replace k := k.1 c
    refine y_s (pc' := 37) (L' := [some (vR (some a)), some (vI l1), some (vI l2)]) (st' := [vI l1]) (h' := h) f25_36 rfl ?_
    exact y_ri f25_37 ⟨rfl, k⟩
  · replace k := k.2 c
    refine y_s (pc' := 16) (L' := [some (vR (some a)), some (vI l1), some (vI l2)]) (st' := [vI l1]) (h' := h) f25_15 rfl ?_
    refine y_s (pc' := 18) (L' := [some (vR (some a)), some (vI l1), some (vI l2)]) (st' := [vI 10, vI l1]) (h' := h) f25_16 rfl ?_
    refine y_s (pc' := 19) (L' := [some (vR (some a)), some (vI l1), some (vI l2)]) (st' := [vI (zw (l1 * 10))]) (h' := h) f25_18 rfl ?_
    refine y_s (pc' := 20) (L' := [some (vR (some a)), some (vI l1), some (vI l2)]) (st' := [vR (some a), vI (zw (l1 * 10))]) (h' := h) f25_19 rfl ?_
    refine y_gr (pc' := 23) f25_20 yf_2_35 rfl rfl (ysH0 w ha) (ypH6 w ha) rfl ?_
    refine y_s (pc' := 24) (L' := [some (vR (some a)), some (vI l1), some (vI l2)]) (st' := [vI l2, vR (some ((a + 7))), vI (zw (l1 * 10))]) (h' := h) f25_23 rfl ?_
    refine y_s (pc' := 25) (L' := [some (vR (some a)), some (vI l1), some (vI l2)]) (st' := [vI 0, vI l2, vR (some ((a + 7))), vI (zw (l1 * 10))]) (h' := h) f25_24 rfl ?_
    refine y_cI (pc' := 28) (as := [vR (some ((a + 7))), vI l2, vI 0]) (r := [vI (zw (l1 * 10))]) f25_25 (yzv ym_2_125 rfl (ysR0 w (yR7 ha)) rfl rfl) hd rfl ?_
    have p0 := k.1
    replace k := k.2
    refine sp26 w (yR7 ha) p0 ?_
    refine y_s (pc' := 29) (L' := [some (vR (some a)), some (vI l1), some (vI l2)]) (st' := [vI (zw ((zw (l1 * 10)) + (zV h (((a + 7)) + 1) (4 * l2 + 0).toNat)))]) (h' := h) f25_28 rfl ?_
    refine y_sto (pc' := 30) (k := 1) (L' := [some (vR (some a)), some (vI (zw ((zw (l1 * 10)) + (zV h (((a + 7)) + 1) (4 * l2 + 0).toNat)))), some (vI l2)]) f25_29 rfl rfl rfl rfl rfl rfl ?_
    refine y_inc (pc' := 33) (L' := [some (vR (some a)), some (vI (zw ((zw (l1 * 10)) + (zV h (((a + 7)) + 1) (4 * l2 + 0).toNat)))), some (vI (zw (l2 + 1)))]) f25_30 rfl rfl rfl rfl ?_
    refine y_go (pc' := 4) f25_33 rfl ?_
    exact k
/-- HatterTunes.isUnder(II)Z -/
theorem E116 {d : Nat} {K : Int → Hp → Prop} (w : yWF zl nl h) {x0 : Int} {x1 : Int} (k : ZW d prog_1_method_44_code 7 4 [some (vI x0), some (vI x1), some (vI x0), some (vI 0)] [] h (yq 2 (yqI K))) : yI d 116 [vI x0, vI x1] h K := by
  refine y_en (L := [some (vI x0), some (vI x1), none, none]) rfl rfl ?_
  refine y_s (pc' := 1) (L' := [some (vI x0), some (vI x1), none, none]) (st' := [vI x0]) (h' := h) f116_0 rfl ?_
  refine y_sto (pc' := 2) (k := 2) (L' := [some (vI x0), some (vI x1), some (vI x0), none]) f116_1 rfl rfl rfl rfl rfl rfl ?_
  refine y_s (pc' := 3) (L' := [some (vI x0), some (vI x1), some (vI x0), none]) (st' := [vI 0]) (h' := h) f116_2 rfl ?_
  refine y_sto (pc' := 4) (k := 3) (L' := [some (vI x0), some (vI x1), some (vI x0), some (vI 0)]) f116_3 rfl rfl rfl rfl rfl rfl ?_
  exact k
theorem W116_4 {d : Nat} {K : Int → Hp → Prop} (w : yWF zl nl h) {l0 : Int} {l1 : Int} {l2 : Int} {l3 : Int} (hd : 1 ≤ d) (k : ((7 ≤ l3 → K 0 h) ∧ (¬ (7 ≤ l3) → ((((0 : Int) ≤ l2 ∧ l2 < 7) → ((l2 ≠ l1 → ((0 ≤ l2 ∧ l2 < 7) ∧ ZW d prog_1_method_44_code 7 4 [some (vI l0), some (vI l1), some (vI (zV h 2 (l2).toNat)), some (vI (zw (l3 + 1)))] [] h (yq 2 (yqI K)))) ∧ (¬ (l2 ≠ l1) → K 1 h))) ∧ (¬ (((0 : Int) ≤ l2 ∧ l2 < 7)) → K 0 h))))) : ZW d prog_1_method_44_code 7 4 [some (vI l0), some (vI l1), some (vI l2), some (vI l3)] [] h (yq 2 (yqI K)) := by
  refine y_s (pc' := 5) (L' := [some (vI l0), some (vI l1), some (vI l2), some (vI l3)]) (st' := [vI l3]) (h' := h) f116_4 rfl ?_
  refine y_s (pc' := 7) (L' := [some (vI l0), some (vI l1), some (vI l2), some (vI l3)]) (st' := [vI 7, vI l3]) (h' := h) f116_5 rfl ?_
  refine y_ic (pcT := 38) (pc' := 10) (P := 7 ≤ l3) f116_7 rfl rfl rfl (fun c => ?_) (fun c => ?_)
  · replace k := k.1 c
    refine y_s (pc' := 39) (L' := [some (vI l0), some (vI l1), some (vI l2), some (vI l3)]) (st' := [vI 0]) (h' := h) f116_38 rfl ?_
    exact y_ri f116_39 ⟨rfl, k⟩
  · replace k := k.2 c
    refine y_s (pc' := 11) (L' := [some (vI l0), some (vI l1), some (vI l2), some (vI l3)]) (st' := [vI l2]) (h' := h) f116_10 rfl ?_
    refine y_s (pc' := 13) (L' := [some (vI l0), some (vI l1), some (vI l2), some (vI l3)]) (st' := [vI 7, vI l2]) (h' := h) f116_11 rfl ?_
    refine y_cI (pc' := 16) (as := [vI l2, vI 7]) (r := []) f116_13 rfl hd rfl ?_
    refine sp10 w (fun c => ?_) (fun c => ?_)
    · replace k := k.1 c
      refine y_iff (pcT := 38) (pc' := 19) f116_16 rfl rfl rfl ?_
      refine y_s (pc' := 20) (L' := [some (vI l0), some (vI l1), some (vI l2), some (vI l3)]) (st' := [vI l2]) (h' := h) f116_19 rfl ?_
      refine y_s (pc' := 21) (L' := [some (vI l0), some (vI l1), some (vI l2), some (vI l3)]) (st' := [vI l1, vI l2]) (h' := h) f116_20 rfl ?_
      refine y_ic (pcT := 26) (pc' := 24) (P := l2 ≠ l1) f116_21 rfl rfl rfl (fun c => ?_) (fun c => ?_)
      · replace k := k.1 c
        refine y_s (pc' := 29) (L' := [some (vI l0), some (vI l1), some (vI l2), some (vI l3)]) (st' := [vR (some 2)]) (h' := h) f116_26 rfl ?_
        refine y_s (pc' := 30) (L' := [some (vI l0), some (vI l1), some (vI l2), some (vI l3)]) (st' := [vI l2, vR (some 2)]) (h' := h) f116_29 rfl ?_
        refine y_ia (pc' := 31) (x := (zV h 2 (l2).toNat)) f116_30 (ysb2 w) k.1 rfl rfl ?_
        replace k := k.2
        refine y_sto (pc' := 32) (k := 2) (L' := [some (vI l0), some (vI l1), some (vI (zV h 2 (l2).toNat)), some (vI l3)]) f116_31 rfl rfl rfl rfl rfl rfl ?_
        refine y_inc (pc' := 35) (L' := [some (vI l0), some (vI l1), some (vI (zV h 2 (l2).toNat)), some (vI (zw (l3 + 1)))]) f116_32 rfl rfl rfl rfl ?_
        refine y_go (pc' := 4) f116_35 rfl ?_
        exact k
      · replace k := k.2 c
        refine y_s (pc' := 25) (L' := [some (vI l0), some (vI l1), some (vI l2), some (vI l3)]) (st' := [vI 1]) (h' := h) f116_24 rfl ?_
        exact y_ri f116_25 ⟨rfl, k⟩
    · replace k := k.2 c
      refine y_ift (pcT := 38) f116_16 rfl rfl ?_
      refine y_s (pc' := 39) (L' := [some (vI l0), some (vI l1), some (vI l2), some (vI l3)]) (st' := [vI 0]) (h' := h) f116_38 rfl ?_
      exact y_ri f116_39 ⟨rfl, k⟩
/-- HatterTunes$Actor.bodyFrom(II)I -/
theorem E111 {d : Nat} {K : Int → Hp → Prop} (w : yWF zl nl h) {x0 : Int} {x1 : Int} (k : ZW d prog_2_method_6_code 0 4 [some (vI x0), some (vI x1), some (vI x0), some (vI 0), none] [] h (yq 1 (yqI K))) : yI d 111 [vI x0, vI x1] h K := by
  refine y_en (L := [some (vI x0), some (vI x1), none, none, none]) rfl rfl ?_
  refine y_s (pc' := 1) (L' := [some (vI x0), some (vI x1), none, none, none]) (st' := [vI x0]) (h' := h) f111_0 rfl ?_
  refine y_sto (pc' := 2) (k := 2) (L' := [some (vI x0), some (vI x1), some (vI x0), none, none]) f111_1 rfl rfl rfl rfl rfl rfl ?_
  refine y_s (pc' := 3) (L' := [some (vI x0), some (vI x1), some (vI x0), none, none]) (st' := [vI 0]) (h' := h) f111_2 rfl ?_
  refine y_sto (pc' := 4) (k := 3) (L' := [some (vI x0), some (vI x1), some (vI x0), some (vI 0), none]) f111_3 rfl rfl rfl rfl rfl rfl ?_
  exact k
theorem W111_4 {d : Nat} {K : Int → Hp → Prop} (w : yWF zl nl h) {l0 : Int} {l1 : Int} {l2 : Int} {l3 : Int} {l4 : Option Int} (hd : 1 ≤ d) (k : ((7 ≤ l3 → K 0 h) ∧ (¬ (7 ≤ l3) → ((((0 : Int) ≤ l2 ∧ l2 < 7) → ((0 ≤ (zw ((zw (l2 * 3)) + l1)) ∧ (zw ((zw (l2 * 3)) + l1)) < 21) ∧ (((zV h 3 ((zw ((zw (l2 * 3)) + l1))).toNat) = 0 → ((0 ≤ l2 ∧ l2 < 7) ∧ ZW d prog_2_method_6_code 0 4 [some (vI l0), some (vI l1), some (vI (zV h 2 (l2).toNat)), some (vI (zw (l3 + 1))), some (vI (zV h 3 ((zw ((zw (l2 * 3)) + l1))).toNat))] [] h (yq 1 (yqI K)))) ∧ (¬ ((zV h 3 ((zw ((zw (l2 * 3)) + l1))).toNat) = 0) → K (zV h 3 ((zw ((zw (l2 * 3)) + l1))).toNat) h)))) ∧ (¬ (((0 : Int) ≤ l2 ∧ l2 < 7)) → K 0 h))))) : ZW d prog_2_method_6_code 0 4 [some (vI l0), some (vI l1), some (vI l2), some (vI l3), yo l4] [] h (yq 1 (yqI K)) := by
  refine y_s (pc' := 5) (L' := [some (vI l0), some (vI l1), some (vI l2), some (vI l3), yo l4]) (st' := [vI l3]) (h' := h) f111_4 rfl ?_
  refine y_s (pc' := 7) (L' := [some (vI l0), some (vI l1), some (vI l2), some (vI l3), yo l4]) (st' := [vI 7, vI l3]) (h' := h) f111_5 rfl ?_
  refine y_ic (pcT := 50) (pc' := 10) (P := 7 ≤ l3) f111_7 rfl rfl rfl (fun c => ?_) (fun c => ?_)
  · replace k := k.1 c
    refine y_s (pc' := 51) (L' := [some (vI l0), some (vI l1), some (vI l2), some (vI l3), yo l4]) (st' := [vI 0]) (h' := h) f111_50 rfl ?_
    exact y_ri f111_51 ⟨rfl, k⟩
  · replace k := k.2 c
    refine y_s (pc' := 11) (L' := [some (vI l0), some (vI l1), some (vI l2), some (vI l3), yo l4]) (st' := [vI l2]) (h' := h) f111_10 rfl ?_
    refine y_s (pc' := 13) (L' := [some (vI l0), some (vI l1), some (vI l2), some (vI l3), yo l4]) (st' := [vI 7, vI l2]) (h' := h) f111_11 rfl ?_
    refine y_cI (pc' := 16) (as := [vI l2, vI 7]) (r := []) f111_13 rfl hd rfl ?_
    refine sp10 w (fun c => ?_) (fun c => ?_)
    · replace k := k.1 c
      refine y_iff (pcT := 50) (pc' := 19) f111_16 rfl rfl rfl ?_
      refine y_s (pc' := 22) (L' := [some (vI l0), some (vI l1), some (vI l2), some (vI l3), yo l4]) (st' := [vR (some 3)]) (h' := h) f111_19 rfl ?_
      refine y_s (pc' := 23) (L' := [some (vI l0), some (vI l1), some (vI l2), some (vI l3), yo l4]) (st' := [vI l2, vR (some 3)]) (h' := h) f111_22 rfl ?_
      refine y_s (pc' := 24) (L' := [some (vI l0), some (vI l1), some (vI l2), some (vI l3), yo l4]) (st' := [vI 3, vI l2, vR (some 3)]) (h' := h) f111_23 rfl ?_
      refine y_s (pc' := 25) (L' := [some (vI l0), some (vI l1), some (vI l2), some (vI l3), yo l4]) (st' := [vI (zw (l2 * 3)), vR (some 3)]) (h' := h) f111_24 rfl ?_
      refine y_s (pc' := 26) (L' := [some (vI l0), some (vI l1), some (vI l2), some (vI l3), yo l4]) (st' := [vI l1, vI (zw (l2 * 3)), vR (some 3)]) (h' := h) f111_25 rfl ?_
      refine y_s (pc' := 27) (L' := [some (vI l0), some (vI l1), some (vI l2), some (vI l3), yo l4]) (st' := [vI (zw ((zw (l2 * 3)) + l1)), vR (some 3)]) (h' := h) f111_26 rfl ?_
      refine y_ia (pc' := 28) (x := (zV h 3 ((zw ((zw (l2 * 3)) + l1))).toNat)) f111_27 (ysb3 w) k.1 rfl rfl ?_
      replace k := k.2
      refine y_sto (pc' := 30) (k := 4) (L' := [some (vI l0), some (vI l1), some (vI l2), some (vI l3), some (vI (zV h 3 ((zw ((zw (l2 * 3)) + l1))).toNat))]) f111_28 rfl rfl rfl rfl rfl rfl ?_
      refine y_s (pc' := 32) (L' := [some (vI l0), some (vI l1), some (vI l2), some (vI l3), some (vI (zV h 3 ((zw ((zw (l2 * 3)) + l1))).toNat))]) (st' := [vI (zV h 3 ((zw ((zw (l2 * 3)) + l1))).toNat)]) (h' := h) f111_30 rfl ?_
      refine y_if (pcT := 38) (pc' := 35) (P := (zV h 3 ((zw ((zw (l2 * 3)) + l1))).toNat) = 0) f111_32 rfl rfl rfl (fun c => ?_) (fun c => ?_)
      · replace k := k.1 c
        refine y_s (pc' := 41) (L' := [some (vI l0), some (vI l1), some (vI l2), some (vI l3), some (vI (zV h 3 ((zw ((zw (l2 * 3)) + l1))).toNat))]) (st' := [vR (some 2)]) (h' := h) f111_38 rfl ?_
        refine y_s (pc' := 42) (L' := [some (vI l0), some (vI l1), some (vI l2), some (vI l3), some (vI (zV h 3 ((zw ((zw (l2 * 3)) + l1))).toNat))]) (st' := [vI l2, vR (some 2)]) (h' := h) f111_41 rfl ?_
        refine y_ia (pc' := 43) (x := (zV h 2 (l2).toNat)) f111_42 (ysb2 w) k.1 rfl rfl ?_
        replace k := k.2
        refine y_sto (pc' := 44) (k := 2) (L' := [some (vI l0), some (vI l1), some (vI (zV h 2 (l2).toNat)), some (vI l3), some (vI (zV h 3 ((zw ((zw (l2 * 3)) + l1))).toNat))]) f111_43 rfl rfl rfl rfl rfl rfl ?_
        refine y_inc (pc' := 47) (L' := [some (vI l0), some (vI l1), some (vI (zV h 2 (l2).toNat)), some (vI (zw (l3 + 1))), some (vI (zV h 3 ((zw ((zw (l2 * 3)) + l1))).toNat))]) f111_44 rfl rfl rfl rfl ?_
        refine y_go (pc' := 4) f111_47 rfl ?_
        exact k
      · replace k := k.2 c
        refine y_s (pc' := 37) (L' := [some (vI l0), some (vI l1), some (vI l2), some (vI l3), some (vI (zV h 3 ((zw ((zw (l2 * 3)) + l1))).toNat))]) (st' := [vI (zV h 3 ((zw ((zw (l2 * 3)) + l1))).toNat)]) (h' := h) f111_35 rfl ?_
        exact y_ri f111_37 ⟨rfl, k⟩
    · replace k := k.2 c
      refine y_ift (pcT := 50) f111_16 rfl rfl ?_
      refine y_s (pc' := 51) (L' := [some (vI l0), some (vI l1), some (vI l2), some (vI l3), yo l4]) (st' := [vI 0]) (h' := h) f111_50 rfl ?_
      exact y_ri f111_51 ⟨rfl, k⟩
/-- HatterTunes$Actor.keepBody(I)V -/
theorem E112 {d : Nat} {K : Hp → Prop} (w : yWF zl nl h) {x0 : Int} (k : ((20 ≤ (zV h 86 1) → K (zsetV h 86 1 (zw ((zV h 86 1) + 1)))) ∧ (¬ (20 ≤ (zV h 86 1)) → ((0 ≤ (zV h 86 1) ∧ (zV h 86 1) < 20) ∧ (∀ h_29, (zsetV (zsetV h 87 ((zV h 86 1)).toNat x0) 86 1 (zw ((zV (zsetV h 87 ((zV h 86 1)).toNat x0) 86 1) + 1))) = h_29 → K h_29))))) : yU d 112 [vR (some 86), vI x0] h K := by
  refine y_en (L := [some (vR (some 86)), some (vI x0)]) rfl rfl ?_
  refine y_s (pc' := 1) (L' := [some (vR (some 86)), some (vI x0)]) (st' := [vR (some 86)]) (h' := h) f112_0 rfl ?_
  refine y_gi (pc' := 4) f112_1 yf_0_15 rfl rfl (ys86 w) rfl ?_
  refine y_s (pc' := 6) (L' := [some (vR (some 86)), some (vI x0)]) (st' := [vI 20, vI (zV h 86 1)]) (h' := h) f112_4 rfl ?_
  refine y_ic (pcT := 19) (pc' := 9) (P := 20 ≤ (zV h 86 1)) f112_6 rfl rfl rfl (fun c => ?_) (fun c => ?_)
  · replace k := k.1 c
    refine y_s (pc' := 20) (L' := [some (vR (some 86)), some (vI x0)]) (st' := [vR (some 86)]) (h' := h) f112_19 rfl ?_
    refine y_s (pc' := 21) (L' := [some (vR (some 86)), some (vI x0)]) (st' := [vR (some 86), vR (some 86)]) (h' := h) f112_20 rfl ?_
    refine y_gi (pc' := 24) f112_21 yf_0_15 rfl rfl (ys86 w) rfl ?_
    refine y_s (pc' := 25) (L' := [some (vR (some 86)), some (vI x0)]) (st' := [vI 1, vI (zV h 86 1), vR (some 86)]) (h' := h) f112_24 rfl ?_
    refine y_s (pc' := 26) (L' := [some (vR (some 86)), some (vI x0)]) (st' := [vI (zw ((zV h 86 1) + 1)), vR (some 86)]) (h' := h) f112_25 rfl ?_
    refine y_pi (pc' := 29) f112_26 yf_0_15 rfl rfl (ys86 w) (by decide) (Or.inl rfl) rfl ?_
    exact y_ru f112_29 ⟨rfl, k⟩
  · replace k := k.2 c
    refine y_s (pc' := 10) (L' := [some (vR (some 86)), some (vI x0)]) (st' := [vR (some 86)]) (h' := h) f112_9 rfl ?_
    refine y_gr (pc' := 13) f112_10 yf_0_9 rfl rfl (ys86 w) (yp86_0 w) rfl ?_
    refine y_s (pc' := 14) (L' := [some (vR (some 86)), some (vI x0)]) (st' := [vR (some 86), vR (some 87)]) (h' := h) f112_13 rfl ?_
    refine y_gi (pc' := 17) f112_14 yf_0_15 rfl rfl (ys86 w) rfl ?_
    refine y_s (pc' := 18) (L' := [some (vR (some 86)), some (vI x0)]) (st' := [vI x0, vI (zV h 86 1), vR (some 87)]) (h' := h) f112_17 rfl ?_
    refine y_is (pc' := 19) (h' := (zsetV h 87 ((zV h 86 1)).toNat x0)) f112_18 (ys87 w) (by decide) k.1 rfl rfl ?_
    replace k := k.2
    refine y_s (pc' := 20) (L' := [some (vR (some 86)), some (vI x0)]) (st' := [vR (some 86)]) (h' := (zsetV h 87 ((zV h 86 1)).toNat x0)) f112_19 rfl ?_
    refine y_s (pc' := 21) (L' := [some (vR (some 86)), some (vI x0)]) (st' := [vR (some 86), vR (some 86)]) (h' := (zsetV h 87 ((zV h 86 1)).toNat x0)) f112_20 rfl ?_
    refine y_gi (pc' := 24) f112_21 yf_0_15 rfl rfl (ys86 w) rfl ?_
    refine y_s (pc' := 25) (L' := [some (vR (some 86)), some (vI x0)]) (st' := [vI 1, vI (zV (zsetV h 87 ((zV h 86 1)).toNat x0) 86 1), vR (some 86)]) (h' := (zsetV h 87 ((zV h 86 1)).toNat x0)) f112_24 rfl ?_
    refine y_s (pc' := 26) (L' := [some (vR (some 86)), some (vI x0)]) (st' := [vI (zw ((zV (zsetV h 87 ((zV h 86 1)).toNat x0) 86 1) + 1)), vR (some 86)]) (h' := (zsetV h 87 ((zV h 86 1)).toNat x0)) f112_25 rfl ?_
    refine y_pi (pc' := 29) f112_26 yf_0_15 rfl rfl (ys86 w) (by decide) (Or.inl rfl) rfl ?_
    generalize e_29 : (zsetV (zsetV h 87 ((zV h 86 1)).toNat x0) 86 1 (zw ((zV (zsetV h 87 ((zV h 86 1)).toNat x0) 86 1) + 1))) = h_29
    replace k := k _ e_29
    have w : yWF zl nl h_29 := by rw [← e_29]; exact w
    exact y_ru f112_29 ⟨rfl, k⟩
/-- HatterTunes$Actor.keptBodies()I -/
theorem E114 {d : Nat} {K : Int → Hp → Prop} (w : yWF zl nl h) (hd : 1 ≤ d) (k : K (ymin (zV h 86 1) 20) h) : yI d 114 [vR (some 86)] h K := by
  refine y_en (L := [some (vR (some 86))]) rfl rfl ?_
  refine y_s (pc' := 1) (L' := [some (vR (some 86))]) (st' := [vR (some 86)]) (h' := h) f114_0 rfl ?_
  refine y_gi (pc' := 4) f114_1 yf_0_15 rfl rfl (ys86 w) rfl ?_
  refine y_s (pc' := 6) (L' := [some (vR (some 86))]) (st' := [vI 20, vI (zV h 86 1)]) (h' := h) f114_4 rfl ?_
  refine y_mn (pc' := 9) f114_6 ym_0_19 hd rfl rfl ?_
  exact y_ri f114_9 ⟨rfl, k⟩
/-- HatterTunes$Tape.cut(J)J -/
theorem E123 {d : Nat} {K : Int64 → Hp → Prop} (w : yWF zl nl h) {a : Nat} (ha : yTp a) {x0 : Int64} (k : (((zV h a 1) = 0 → K ((zi ((zi (x0.toInt32.toInt)).toInt8.toInt32.toInt)).toInt64) h) ∧ ((zV h a 1) = 1 → K ((zi ((zi (x0.toInt32.toInt)).toInt16.toInt32.toInt)).toInt64) h) ∧ ((zV h a 1) = 2 → K ((zi (x0.toInt32.toInt)).toInt64) h) ∧ ((zV h a 1) = 3 → K x0 h) ∧ ((zV h a 1) < 0 ∨ 3 < (zV h a 1) → ((((lg_cmp x0 0).toInt) = 0 → K 0 h) ∧ (¬ (((lg_cmp x0 0).toInt) = 0) → K 1 h))))) : yJ d 123 [vR (some a), vJ x0] h K := by
  refine y_en (L := [some (vR (some a)), some (vJ x0), none]) rfl rfl ?_
  refine y_s (pc' := 1) (L' := [some (vR (some a)), some (vJ x0), none]) (st' := [vR (some a)]) (h' := h) f123_0 rfl ?_
  refine y_gi (pc' := 4) f123_1 yf_5_15 rfl rfl (ysT0 w ha) rfl ?_
  by_cases c : (zV h a 1) = 0
  · refine y_tc (pc' := 36) (v := 0) f123_4 c rfl rfl rfl ?_
    replace k := k.1 c
    refine y_s (pc' := 37) (L' := [some (vR (some a)), some (vJ x0), none]) (st' := [vJ x0]) (h' := h) f123_36 rfl ?_
    refine y_s (pc' := 38) (L' := [some (vR (some a)), some (vJ x0), none]) (st' := [vI (x0.toInt32.toInt)]) (h' := h) f123_37 rfl ?_
    refine y_s (pc' := 39) (L' := [some (vR (some a)), some (vJ x0), none]) (st' := [vI ((zi (x0.toInt32.toInt)).toInt8.toInt32.toInt)]) (h' := h) f123_38 rfl ?_
    refine y_s (pc' := 40) (L' := [some (vR (some a)), some (vJ x0), none]) (st' := [vJ ((zi ((zi (x0.toInt32.toInt)).toInt8.toInt32.toInt)).toInt64)]) (h' := h) f123_39 rfl ?_
    exact y_rj f123_40 ⟨rfl, k⟩
  replace k := k.2
  have c0 := c
  by_cases c : (zV h a 1) = 1
  · refine y_tc (pc' := 41) (v := 1) f123_4 c rfl rfl rfl ?_
    replace k := k.1 c
    refine y_s (pc' := 42) (L' := [some (vR (some a)), some (vJ x0), none]) (st' := [vJ x0]) (h' := h) f123_41 rfl ?_
    refine y_s (pc' := 43) (L' := [some (vR (some a)), some (vJ x0), none]) (st' := [vI (x0.toInt32.toInt)]) (h' := h) f123_42 rfl ?_
    refine y_s (pc' := 44) (L' := [some (vR (some a)), some (vJ x0), none]) (st' := [vI ((zi (x0.toInt32.toInt)).toInt16.toInt32.toInt)]) (h' := h) f123_43 rfl ?_
    refine y_s (pc' := 45) (L' := [some (vR (some a)), some (vJ x0), none]) (st' := [vJ ((zi ((zi (x0.toInt32.toInt)).toInt16.toInt32.toInt)).toInt64)]) (h' := h) f123_44 rfl ?_
    exact y_rj f123_45 ⟨rfl, k⟩
  replace k := k.2
  have c1 := c
  by_cases c : (zV h a 1) = 2
  · refine y_tc (pc' := 46) (v := 2) f123_4 c rfl rfl rfl ?_
    replace k := k.1 c
    refine y_s (pc' := 47) (L' := [some (vR (some a)), some (vJ x0), none]) (st' := [vJ x0]) (h' := h) f123_46 rfl ?_
    refine y_s (pc' := 48) (L' := [some (vR (some a)), some (vJ x0), none]) (st' := [vI (x0.toInt32.toInt)]) (h' := h) f123_47 rfl ?_
    refine y_s (pc' := 49) (L' := [some (vR (some a)), some (vJ x0), none]) (st' := [vJ ((zi (x0.toInt32.toInt)).toInt64)]) (h' := h) f123_48 rfl ?_
    exact y_rj f123_49 ⟨rfl, k⟩
  replace k := k.2
  have c2 := c
  by_cases c : (zV h a 1) = 3
  · refine y_tc (pc' := 50) (v := 3) f123_4 c rfl rfl rfl ?_
    replace k := k.1 c
    refine y_s (pc' := 51) (L' := [some (vR (some a)), some (vJ x0), none]) (st' := [vJ x0]) (h' := h) f123_50 rfl ?_
    exact y_rj f123_51 ⟨rfl, k⟩
  replace k := k.2
  have c3 := c
  have cc : (zV h a 1) < 0 ∨ 3 < (zV h a 1) := by omega
  refine y_td (pc' := 52) f123_4 cc rfl ?_
  replace k := k cc
  refine y_s (pc' := 53) (L' := [some (vR (some a)), some (vJ x0), none]) (st' := [vJ x0]) (h' := h) f123_52 rfl ?_
  refine y_s (pc' := 54) (L' := [some (vR (some a)), some (vJ x0), none]) (st' := [vJ 0, vJ x0]) (h' := h) f123_53 rfl ?_
  refine y_s (pc' := 55) (L' := [some (vR (some a)), some (vJ x0), none]) (st' := [vI ((lg_cmp x0 0).toInt)]) (h' := h) f123_54 rfl ?_
  refine y_if (pcT := 62) (pc' := 58) (P := ((lg_cmp x0 0).toInt) = 0) f123_55 rfl rfl rfl (fun c => ?_) (fun c => ?_)
  · replace k := k.1 c
    refine y_s (pc' := 63) (L' := [some (vR (some a)), some (vJ x0), none]) (st' := [vJ 0]) (h' := h) f123_62 rfl ?_
    exact y_rj f123_63 ⟨rfl, k⟩
  · replace k := k.2 c
    refine y_s (pc' := 59) (L' := [some (vR (some a)), some (vJ x0), none]) (st' := [vJ 1]) (h' := h) f123_58 rfl ?_
    refine y_go (pc' := 63) f123_59 rfl ?_
    exact y_rj f123_63 ⟨rfl, k⟩
/-- HatterTunes$Tape.set(IJ)I -/
theorem E122 {d : Nat} {K : Int → Hp → Prop} (w : yWF zl nl h) {a : Nat} (ha : yTp a) {x0 : Int} {x1 : Int64} (hd : 1 ≤ d) (k : yJ (d - 1) 123 [vR (some a), vJ x1] h (fun x h' => ZW d prog_7_method_7_code 5 10 [some (vR (some a)), some (vI x0), some (vJ x1), none] [vJ x, vI x0, vR (some (a + 1))] h' (yq 1 (yqI K)))) : yI d 122 [vR (some a), vI x0, vJ x1] h K := by
  refine y_en (L := [some (vR (some a)), some (vI x0), some (vJ x1), none]) rfl rfl ?_
  refine y_s (pc' := 1) (L' := [some (vR (some a)), some (vI x0), some (vJ x1), none]) (st' := [vR (some a)]) (h' := h) f122_0 rfl ?_
  refine y_gr (pc' := 4) f122_1 yf_5_9 rfl rfl (ysT0 w ha) (ypT0 w ha) rfl ?_
  refine y_s (pc' := 5) (L' := [some (vR (some a)), some (vI x0), some (vJ x1), none]) (st' := [vI x0, vR (some (a + 1))]) (h' := h) f122_4 rfl ?_
  refine y_s (pc' := 6) (L' := [some (vR (some a)), some (vI x0), some (vJ x1), none]) (st' := [vR (some a), vI x0, vR (some (a + 1))]) (h' := h) f122_5 rfl ?_
  refine y_s (pc' := 7) (L' := [some (vR (some a)), some (vI x0), some (vJ x1), none]) (st' := [vJ x1, vR (some a), vI x0, vR (some (a + 1))]) (h' := h) f122_6 rfl ?_
  refine y_cJ (pc' := 10) (as := [vR (some a), vJ x1]) (r := [vI x0, vR (some (a + 1))]) f122_7 (yzv ym_5_26 rfl (ysT0 w ha) rfl rfl) hd rfl ?_
  exact k
theorem W122_10 {d : Nat} {K : Int → Hp → Prop} (w : yWF zl nl h) {a : Nat} (ha : yTp a) {l1 : Int} {l2 : Int64} {s1 : Int} {s2 : Int64} (k : ((0 ≤ s1 ∧ s1 < 60) ∧ K 1 (zsetJ h (a + 1) (s1).toNat s2))) : ZW d prog_7_method_7_code 5 10 [some (vR (some a)), some (vI l1), some (vJ l2), none] [vJ s2, vI s1, vR (some (a + 1))] h (yq 1 (yqI K)) := by
  refine y_js (pc' := 11) (h' := (zsetJ h (a + 1) (s1).toNat s2)) f122_10 (ysT1 w ha) (Nat.le_add_right_of_le (yT_32 ha)) k.1 rfl rfl ?_
  replace k := k.2
  refine y_s (pc' := 12) (L' := [some (vR (some a)), some (vI l1), some (vJ l2), none]) (st' := [vI 1]) (h' := (zsetJ h (a + 1) (s1).toNat s2)) f122_11 rfl ?_
  exact y_ri f122_12 ⟨rfl, k⟩
/-- HatterTunes$Tape.drop()I -/
theorem E119 {d : Nat} {K : Int → Hp → Prop} (w : yWF zl nl h) {a : Nat} (ha : yTp a) (k : (∀ h_10, (zsetV (zsetV h a 1 (-1)) a 2 0) = h_10 → K 1 h_10)) : yI d 119 [vR (some a)] h K := by
  refine y_en (L := [some (vR (some a))]) rfl rfl ?_
  refine y_s (pc' := 1) (L' := [some (vR (some a))]) (st' := [vR (some a)]) (h' := h) f119_0 rfl ?_
  refine y_s (pc' := 2) (L' := [some (vR (some a))]) (st' := [vI (-1), vR (some a)]) (h' := h) f119_1 rfl ?_
  refine y_pi (pc' := 5) f119_2 yf_5_15 rfl rfl (ysT0 w ha) (yT_32 ha) (Or.inl rfl) rfl ?_
  refine y_s (pc' := 6) (L' := [some (vR (some a))]) (st' := [vR (some a)]) (h' := (zsetV h a 1 (-1))) f119_5 rfl ?_
  refine y_s (pc' := 7) (L' := [some (vR (some a))]) (st' := [vI 0, vR (some a)]) (h' := (zsetV h a 1 (-1))) f119_6 rfl ?_
  refine y_pi (pc' := 10) f119_7 yf_5_19 rfl rfl (ysT0 w ha) (yT_32 ha) (Or.inl rfl) rfl ?_
  generalize e_10 : (zsetV (zsetV h a 1 (-1)) a 2 0) = h_10
  replace k := k _ e_10
  have w : yWF zl nl h_10 := by rw [← e_10]; exact w
  refine y_s (pc' := 11) (L' := [some (vR (some a))]) (st' := [vI 1]) (h' := h_10) f119_10 rfl ?_
  exact y_ri f119_11 ⟨rfl, k⟩
/-- HatterTunes$Tape.become(II)I -/
theorem E120 {d : Nat} {K : Int → Hp → Prop} (w : yWF zl nl h) {a : Nat} (ha : yTp a) {x0 : Int} {x1 : Int} (k : (∀ h_10, (zsetV (zsetV h a 1 x0) a 2 x1) = h_10 → ZW d prog_7_method_6_code 5 12 [some (vR (some a)), some (vI x0), some (vI x1), some (vI 0)] [] h_10 (yq 1 (yqI K)))) : yI d 120 [vR (some a), vI x0, vI x1] h K := by
  refine y_en (L := [some (vR (some a)), some (vI x0), some (vI x1), none]) rfl rfl ?_
  refine y_s (pc' := 1) (L' := [some (vR (some a)), some (vI x0), some (vI x1), none]) (st' := [vR (some a)]) (h' := h) f120_0 rfl ?_
  refine y_s (pc' := 2) (L' := [some (vR (some a)), some (vI x0), some (vI x1), none]) (st' := [vI x0, vR (some a)]) (h' := h) f120_1 rfl ?_
  refine y_pi (pc' := 5) f120_2 yf_5_15 rfl rfl (ysT0 w ha) (yT_32 ha) (Or.inl rfl) rfl ?_
  refine y_s (pc' := 6) (L' := [some (vR (some a)), some (vI x0), some (vI x1), none]) (st' := [vR (some a)]) (h' := (zsetV h a 1 x0)) f120_5 rfl ?_
  refine y_s (pc' := 7) (L' := [some (vR (some a)), some (vI x0), some (vI x1), none]) (st' := [vI x1, vR (some a)]) (h' := (zsetV h a 1 x0)) f120_6 rfl ?_
  refine y_pi (pc' := 10) f120_7 yf_5_19 rfl rfl (ysT0 w ha) (yT_32 ha) (Or.inl rfl) rfl ?_
  generalize e_10 : (zsetV (zsetV h a 1 x0) a 2 x1) = h_10
  replace k := k _ e_10
  have w : yWF zl nl h_10 := by rw [← e_10]; exact w
  refine y_s (pc' := 11) (L' := [some (vR (some a)), some (vI x0), some (vI x1), none]) (st' := [vI 0]) (h' := h_10) f120_10 rfl ?_
  refine y_sto (pc' := 12) (k := 3) (L' := [some (vR (some a)), some (vI x0), some (vI x1), some (vI 0)]) f120_11 rfl rfl rfl rfl rfl rfl ?_
  exact k
theorem W120_12 {d : Nat} {K : Int → Hp → Prop} (w : yWF zl nl h) {a : Nat} (ha : yTp a) {l1 : Int} {l2 : Int} {l3 : Int} (k : ((l2 ≤ l3 → K 1 h) ∧ (¬ (l2 ≤ l3) → ((0 ≤ l3 ∧ l3 < 60) ∧ ZW d prog_7_method_6_code 5 12 [some (vR (some a)), some (vI l1), some (vI l2), some (vI (zw (l3 + 1)))] [] (zsetJ h (a + 1) (l3).toNat 0) (yq 1 (yqI K)))))) : ZW d prog_7_method_6_code 5 12 [some (vR (some a)), some (vI l1), some (vI l2), some (vI l3)] [] h (yq 1 (yqI K)) := by
  refine y_s (pc' := 13) (L' := [some (vR (some a)), some (vI l1), some (vI l2), some (vI l3)]) (st' := [vI l3]) (h' := h) f120_12 rfl ?_
  refine y_s (pc' := 14) (L' := [some (vR (some a)), some (vI l1), some (vI l2), some (vI l3)]) (st' := [vI l2, vI l3]) (h' := h) f120_13 rfl ?_
  refine y_ic (pcT := 30) (pc' := 17) (P := l2 ≤ l3) f120_14 rfl rfl rfl (fun c => ?_) (fun c => ?_)
  · replace k := k.1 c
    refine y_s (pc' := 31) (L' := [some (vR (some a)), some (vI l1), some (vI l2), some (vI l3)]) (st' := [vI 1]) (h' := h) f120_30 rfl ?_
    exact y_ri f120_31 ⟨rfl, k⟩
  · replace k := k.2 c
    refine y_s (pc' := 18) (L' := [some (vR (some a)), some (vI l1), some (vI l2), some (vI l3)]) (st' := [vR (some a)]) (h' := h) f120_17 rfl ?_
    refine y_gr (pc' := 21) f120_18 yf_5_9 rfl rfl (ysT0 w ha) (ypT0 w ha) rfl ?_
    refine y_s (pc' := 22) (L' := [some (vR (some a)), some (vI l1), some (vI l2), some (vI l3)]) (st' := [vI l3, vR (some (a + 1))]) (h' := h) f120_21 rfl ?_
    refine y_s (pc' := 23) (L' := [some (vR (some a)), some (vI l1), some (vI l2), some (vI l3)]) (st' := [vJ 0, vI l3, vR (some (a + 1))]) (h' := h) f120_22 rfl ?_
    refine y_js (pc' := 24) (h' := (zsetJ h (a + 1) (l3).toNat 0)) f120_23 (ysT1 w ha) (Nat.le_add_right_of_le (yT_32 ha)) k.1 rfl rfl ?_
    replace k := k.2
    refine y_inc (pc' := 27) (L' := [some (vR (some a)), some (vI l1), some (vI l2), some (vI (zw (l3 + 1)))]) f120_24 rfl rfl rfl rfl ?_
    refine y_go (pc' := 12) f120_27 rfl ?_
    exact k
/-- HatterTunesModel.kept(IJ)J -/
theorem E216 {d : Nat} {K : Int64 → Hp → Prop} (w : yWF zl nl h) {x0 : Int} {x1 : Int64} (k : ((x0 = 0 → K ((zi ((zi (x1.toInt32.toInt)).toInt8.toInt32.toInt)).toInt64) h) ∧ (x0 = 1 → K ((zi ((zi (x1.toInt32.toInt)).toInt16.toInt32.toInt)).toInt64) h) ∧ (x0 = 2 → K ((zi (x1.toInt32.toInt)).toInt64) h) ∧ (x0 = 3 → K x1 h) ∧ (x0 < 0 ∨ 3 < x0 → ((((lg_cmp x1 0).toInt) = 0 → K 0 h) ∧ (¬ (((lg_cmp x1 0).toInt) = 0) → K 1 h))))) : yJ d 216 [vI x0, vJ x1] h K := by
  refine y_en (L := [some (vI x0), some (vJ x1), none]) rfl rfl ?_
  refine y_s (pc' := 1) (L' := [some (vI x0), some (vJ x1), none]) (st' := [vI x0]) (h' := h) f216_0 rfl ?_
  by_cases c : x0 = 0
  · refine y_tc (pc' := 32) (v := 0) f216_1 c rfl rfl rfl ?_
    replace k := k.1 c
    refine y_s (pc' := 33) (L' := [some (vI x0), some (vJ x1), none]) (st' := [vJ x1]) (h' := h) f216_32 rfl ?_
    refine y_s (pc' := 34) (L' := [some (vI x0), some (vJ x1), none]) (st' := [vI (x1.toInt32.toInt)]) (h' := h) f216_33 rfl ?_
    refine y_s (pc' := 35) (L' := [some (vI x0), some (vJ x1), none]) (st' := [vI ((zi (x1.toInt32.toInt)).toInt8.toInt32.toInt)]) (h' := h) f216_34 rfl ?_
    refine y_s (pc' := 36) (L' := [some (vI x0), some (vJ x1), none]) (st' := [vJ ((zi ((zi (x1.toInt32.toInt)).toInt8.toInt32.toInt)).toInt64)]) (h' := h) f216_35 rfl ?_
    exact y_rj f216_36 ⟨rfl, k⟩
  replace k := k.2
  have c0 := c
  by_cases c : x0 = 1
  · refine y_tc (pc' := 37) (v := 1) f216_1 c rfl rfl rfl ?_
    replace k := k.1 c
    refine y_s (pc' := 38) (L' := [some (vI x0), some (vJ x1), none]) (st' := [vJ x1]) (h' := h) f216_37 rfl ?_
    refine y_s (pc' := 39) (L' := [some (vI x0), some (vJ x1), none]) (st' := [vI (x1.toInt32.toInt)]) (h' := h) f216_38 rfl ?_
    refine y_s (pc' := 40) (L' := [some (vI x0), some (vJ x1), none]) (st' := [vI ((zi (x1.toInt32.toInt)).toInt16.toInt32.toInt)]) (h' := h) f216_39 rfl ?_
    refine y_s (pc' := 41) (L' := [some (vI x0), some (vJ x1), none]) (st' := [vJ ((zi ((zi (x1.toInt32.toInt)).toInt16.toInt32.toInt)).toInt64)]) (h' := h) f216_40 rfl ?_
    exact y_rj f216_41 ⟨rfl, k⟩
  replace k := k.2
  have c1 := c
  by_cases c : x0 = 2
  · refine y_tc (pc' := 42) (v := 2) f216_1 c rfl rfl rfl ?_
    replace k := k.1 c
    refine y_s (pc' := 43) (L' := [some (vI x0), some (vJ x1), none]) (st' := [vJ x1]) (h' := h) f216_42 rfl ?_
    refine y_s (pc' := 44) (L' := [some (vI x0), some (vJ x1), none]) (st' := [vI (x1.toInt32.toInt)]) (h' := h) f216_43 rfl ?_
    refine y_s (pc' := 45) (L' := [some (vI x0), some (vJ x1), none]) (st' := [vJ ((zi (x1.toInt32.toInt)).toInt64)]) (h' := h) f216_44 rfl ?_
    exact y_rj f216_45 ⟨rfl, k⟩
  replace k := k.2
  have c2 := c
  by_cases c : x0 = 3
  · refine y_tc (pc' := 46) (v := 3) f216_1 c rfl rfl rfl ?_
    replace k := k.1 c
    refine y_s (pc' := 47) (L' := [some (vI x0), some (vJ x1), none]) (st' := [vJ x1]) (h' := h) f216_46 rfl ?_
    exact y_rj f216_47 ⟨rfl, k⟩
  replace k := k.2
  have c3 := c
  have cc : x0 < 0 ∨ 3 < x0 := by omega
  refine y_td (pc' := 48) f216_1 cc rfl ?_
  replace k := k cc
  refine y_s (pc' := 49) (L' := [some (vI x0), some (vJ x1), none]) (st' := [vJ x1]) (h' := h) f216_48 rfl ?_
  refine y_s (pc' := 50) (L' := [some (vI x0), some (vJ x1), none]) (st' := [vJ 0, vJ x1]) (h' := h) f216_49 rfl ?_
  refine y_s (pc' := 51) (L' := [some (vI x0), some (vJ x1), none]) (st' := [vI ((lg_cmp x1 0).toInt)]) (h' := h) f216_50 rfl ?_
  refine y_if (pcT := 58) (pc' := 54) (P := ((lg_cmp x1 0).toInt) = 0) f216_51 rfl rfl rfl (fun c => ?_) (fun c => ?_)
  · replace k := k.1 c
    refine y_s (pc' := 59) (L' := [some (vI x0), some (vJ x1), none]) (st' := [vJ 0]) (h' := h) f216_58 rfl ?_
    exact y_rj f216_59 ⟨rfl, k⟩
  · replace k := k.2 c
    refine y_s (pc' := 55) (L' := [some (vI x0), some (vJ x1), none]) (st' := [vJ 1]) (h' := h) f216_54 rfl ?_
    refine y_go (pc' := 59) f216_55 rfl ?_
    exact y_rj f216_59 ⟨rfl, k⟩
/-- HatterTunesModel.above(I)I -/
theorem E207 {d : Nat} {K : Int → Hp → Prop} (w : yWF zl nl h) {x0 : Int} (k : ((x0 ≠ 4 → ((x0 ≠ 5 → ((x0 ≠ 6 → K 0 h) ∧ (¬ (x0 ≠ 6) → K 3 h))) ∧ (¬ (x0 ≠ 5) → K 2 h))) ∧ (¬ (x0 ≠ 4) → K 1 h))) : yI d 207 [vI x0] h K := by
  refine y_en (L := [some (vI x0)]) rfl rfl ?_
  refine y_s (pc' := 1) (L' := [some (vI x0)]) (st' := [vI x0]) (h' := h) f207_0 rfl ?_
  refine y_s (pc' := 2) (L' := [some (vI x0)]) (st' := [vI 4, vI x0]) (h' := h) f207_1 rfl ?_
  refine y_ic (pcT := 9) (pc' := 5) (P := x0 ≠ 4) f207_2 rfl rfl rfl (fun c => ?_) (fun c => ?_)
  · replace k := k.1 c
    refine y_s (pc' := 10) (L' := [some (vI x0)]) (st' := [vI x0]) (h' := h) f207_9 rfl ?_
    refine y_s (pc' := 11) (L' := [some (vI x0)]) (st' := [vI 5, vI x0]) (h' := h) f207_10 rfl ?_
    refine y_ic (pcT := 18) (pc' := 14) (P := x0 ≠ 5) f207_11 rfl rfl rfl (fun c => ?_) (fun c => ?_)
    · replace k := k.1 c
      refine y_s (pc' := 19) (L' := [some (vI x0)]) (st' := [vI x0]) (h' := h) f207_18 rfl ?_
      refine y_s (pc' := 21) (L' := [some (vI x0)]) (st' := [vI 6, vI x0]) (h' := h) f207_19 rfl ?_
      refine y_ic (pcT := 28) (pc' := 24) (P := x0 ≠ 6) f207_21 rfl rfl rfl (fun c => ?_) (fun c => ?_)
      · replace k := k.1 c
        refine y_s (pc' := 29) (L' := [some (vI x0)]) (st' := [vI 0]) (h' := h) f207_28 rfl ?_
        exact y_ri f207_29 ⟨rfl, k⟩
      · replace k := k.2 c
        refine y_s (pc' := 25) (L' := [some (vI x0)]) (st' := [vI 3]) (h' := h) f207_24 rfl ?_
        refine y_go (pc' := 29) f207_25 rfl ?_
        exact y_ri f207_29 ⟨rfl, k⟩
    · replace k := k.2 c
      refine y_s (pc' := 15) (L' := [some (vI x0)]) (st' := [vI 2]) (h' := h) f207_14 rfl ?_
      refine y_go (pc' := 29) f207_15 rfl ?_
      exact y_ri f207_29 ⟨rfl, k⟩
  · replace k := k.2 c
    refine y_s (pc' := 6) (L' := [some (vI x0)]) (st' := [vI 1]) (h' := h) f207_5 rfl ?_
    refine y_go (pc' := 29) f207_6 rfl ?_
    exact y_ri f207_29 ⟨rfl, k⟩
/-- HatterTunesModel.ran(I)V -/
theorem E206 {d : Nat} {K : Hp → Prop} (w : yWF zl nl h) {x0 : Int} (k : ((20 ≤ (zV h 129 36) → K (zsetV h 129 36 (zw ((zV h 129 36) + 1)))) ∧ (¬ (20 ≤ (zV h 129 36)) → ((0 ≤ (zV h 129 36) ∧ (zV h 129 36) < 20) ∧ (∀ h_29, (zsetV (zsetV h 152 ((zV h 129 36)).toNat x0) 129 36 (zw ((zV (zsetV h 152 ((zV h 129 36)).toNat x0) 129 36) + 1))) = h_29 → K h_29))))) : yU d 206 [vR (some 129), vI x0] h K := by
  refine y_en (L := [some (vR (some 129)), some (vI x0)]) rfl rfl ?_
  refine y_s (pc' := 1) (L' := [some (vR (some 129)), some (vI x0)]) (st' := [vR (some 129)]) (h' := h) f206_0 rfl ?_
  refine y_gi (pc' := 4) f206_1 yf_8_317 rfl rfl (ys129 w) rfl ?_
  refine y_s (pc' := 6) (L' := [some (vR (some 129)), some (vI x0)]) (st' := [vI 20, vI (zV h 129 36)]) (h' := h) f206_4 rfl ?_
  refine y_ic (pcT := 19) (pc' := 9) (P := 20 ≤ (zV h 129 36)) f206_6 rfl rfl rfl (fun c => ?_) (fun c => ?_)
  · replace k := k.1 c
    refine y_s (pc' := 20) (L' := [some (vR (some 129)), some (vI x0)]) (st' := [vR (some 129)]) (h' := h) f206_19 rfl ?_
    refine y_s (pc' := 21) (L' := [some (vR (some 129)), some (vI x0)]) (st' := [vR (some 129), vR (some 129)]) (h' := h) f206_20 rfl ?_
    refine y_gi (pc' := 24) f206_21 yf_8_317 rfl rfl (ys129 w) rfl ?_
    refine y_s (pc' := 25) (L' := [some (vR (some 129)), some (vI x0)]) (st' := [vI 1, vI (zV h 129 36), vR (some 129)]) (h' := h) f206_24 rfl ?_
    refine y_s (pc' := 26) (L' := [some (vR (some 129)), some (vI x0)]) (st' := [vI (zw ((zV h 129 36) + 1)), vR (some 129)]) (h' := h) f206_25 rfl ?_
    refine y_pi (pc' := 29) f206_26 yf_8_317 rfl rfl (ys129 w) (by decide) (Or.inl rfl) rfl ?_
    exact y_ru f206_29 ⟨rfl, k⟩
  · replace k := k.2 c
    refine y_s (pc' := 10) (L' := [some (vR (some 129)), some (vI x0)]) (st' := [vR (some 129)]) (h' := h) f206_9 rfl ?_
    refine y_gr (pc' := 13) f206_10 yf_8_79 rfl rfl (ys129 w) (yp129_37 w) rfl ?_
    refine y_s (pc' := 14) (L' := [some (vR (some 129)), some (vI x0)]) (st' := [vR (some 129), vR (some 152)]) (h' := h) f206_13 rfl ?_
    refine y_gi (pc' := 17) f206_14 yf_8_317 rfl rfl (ys129 w) rfl ?_
    refine y_s (pc' := 18) (L' := [some (vR (some 129)), some (vI x0)]) (st' := [vI x0, vI (zV h 129 36), vR (some 152)]) (h' := h) f206_17 rfl ?_
    refine y_is (pc' := 19) (h' := (zsetV h 152 ((zV h 129 36)).toNat x0)) f206_18 (ys152 w) (by decide) k.1 rfl rfl ?_
    replace k := k.2
    refine y_s (pc' := 20) (L' := [some (vR (some 129)), some (vI x0)]) (st' := [vR (some 129)]) (h' := (zsetV h 152 ((zV h 129 36)).toNat x0)) f206_19 rfl ?_
    refine y_s (pc' := 21) (L' := [some (vR (some 129)), some (vI x0)]) (st' := [vR (some 129), vR (some 129)]) (h' := (zsetV h 152 ((zV h 129 36)).toNat x0)) f206_20 rfl ?_
    refine y_gi (pc' := 24) f206_21 yf_8_317 rfl rfl (ys129 w) rfl ?_
    refine y_s (pc' := 25) (L' := [some (vR (some 129)), some (vI x0)]) (st' := [vI 1, vI (zV (zsetV h 152 ((zV h 129 36)).toNat x0) 129 36), vR (some 129)]) (h' := (zsetV h 152 ((zV h 129 36)).toNat x0)) f206_24 rfl ?_
    refine y_s (pc' := 26) (L' := [some (vR (some 129)), some (vI x0)]) (st' := [vI (zw ((zV (zsetV h 152 ((zV h 129 36)).toNat x0) 129 36) + 1)), vR (some 129)]) (h' := (zsetV h 152 ((zV h 129 36)).toNat x0)) f206_25 rfl ?_
    refine y_pi (pc' := 29) f206_26 yf_8_317 rfl rfl (ys129 w) (by decide) (Or.inl rfl) rfl ?_
    generalize e_29 : (zsetV (zsetV h 152 ((zV h 129 36)).toNat x0) 129 36 (zw ((zV (zsetV h 152 ((zV h 129 36)).toNat x0) 129 36) + 1))) = h_29
    replace k := k _ e_29
    have w : yWF zl nl h_29 := by rw [← e_29]; exact w
    exact y_ru f206_29 ⟨rfl, k⟩
/-- HatterTunesModel.part(JJI)J -/
theorem E194 {d : Nat} {K : Int64 → Hp → Prop} (w : yWF zl nl h) {x0 : Int64} {x1 : Int64} {x2 : Int} (hd : 1 ≤ d) (k : ZW d prog_10_method_49_code 8 9 [some (vJ x0), none, some (vJ x1), none, some (vI x2), some (vJ (yabs x0)), none, some (vJ x1), none, none, none] [] h (yq 4 (yqJ K))) : yJ d 194 [vJ x0, vJ x1, vI x2] h K := by
  refine y_en (L := [some (vJ x0), none, some (vJ x1), none, some (vI x2), none, none, none, none, none, none]) rfl rfl ?_
  refine y_s (pc' := 1) (L' := [some (vJ x0), none, some (vJ x1), none, some (vI x2), none, none, none, none, none, none]) (st' := [vJ x0]) (h' := h) f194_0 rfl ?_
  refine y_ab (pc' := 4) f194_1 ym_8_295 hd rfl rfl ?_
  refine y_s (pc' := 6) (L' := [some (vJ x0), none, some (vJ x1), none, some (vI x2), some (vJ (yabs x0)), none, none, none, none, none]) (st' := []) (h' := h) f194_4 rfl ?_
  refine y_s (pc' := 7) (L' := [some (vJ x0), none, some (vJ x1), none, some (vI x2), some (vJ (yabs x0)), none, none, none, none, none]) (st' := [vJ x1]) (h' := h) f194_6 rfl ?_
  refine y_s (pc' := 9) (L' := [some (vJ x0), none, some (vJ x1), none, some (vI x2), some (vJ (yabs x0)), none, some (vJ x1), none, none, none]) (st' := []) (h' := h) f194_7 rfl ?_
  exact k
theorem W194_9 {d : Nat} {K : Int64 → Hp → Prop} (w : yWF zl nl h) {l0 : Int64} {l2 : Int64} {l4 : Int} {l5 : Int64} {l7 : Int64} {l9 : Option Int64} (k : ((((lg_cmp l7 0).toInt) = 0 → ((l4 ≠ 0 → (l5 ≠ 0 ∧ K (l2 / l5) h)) ∧ (¬ (l4 ≠ 0) → (l5 ≠ 0 ∧ K (l0 / l5) h)))) ∧ (¬ (((lg_cmp l7 0).toInt) = 0) → (l7 ≠ 0 ∧ ZW d prog_10_method_49_code 8 9 [some (vJ l0), none, some (vJ l2), none, some (vI l4), some (vJ l7), none, some (vJ (l5 - l5 / l7 * l7)), none, some (vJ (l5 - l5 / l7 * l7)), none] [] h (yq 4 (yqJ K)))))) : ZW d prog_10_method_49_code 8 9 [some (vJ l0), none, some (vJ l2), none, some (vI l4), some (vJ l5), none, some (vJ l7), none, yoj l9, none] [] h (yq 4 (yqJ K)) := by
  refine y_s (pc' := 11) (L' := [some (vJ l0), none, some (vJ l2), none, some (vI l4), some (vJ l5), none, some (vJ l7), none, yoj l9, none]) (st' := [vJ l7]) (h' := h) f194_9 rfl ?_
  refine y_s (pc' := 12) (L' := [some (vJ l0), none, some (vJ l2), none, some (vI l4), some (vJ l5), none, some (vJ l7), none, yoj l9, none]) (st' := [vJ 0, vJ l7]) (h' := h) f194_11 rfl ?_
  refine y_s (pc' := 13) (L' := [some (vJ l0), none, some (vJ l2), none, some (vI l4), some (vJ l5), none, some (vJ l7), none, yoj l9, none]) (st' := [vI ((lg_cmp l7 0).toInt)]) (h' := h) f194_12 rfl ?_
  refine y_if (pcT := 34) (pc' := 16) (P := ((lg_cmp l7 0).toInt) = 0) f194_13 rfl rfl rfl (fun c => ?_) (fun c => ?_)
  · replace k := k.1 c
    refine y_s (pc' := 36) (L' := [some (vJ l0), none, some (vJ l2), none, some (vI l4), some (vJ l5), none, some (vJ l7), none, yoj l9, none]) (st' := [vI l4]) (h' := h) f194_34 rfl ?_
    refine y_if (pcT := 43) (pc' := 39) (P := l4 ≠ 0) f194_36 rfl rfl rfl (fun c => ?_) (fun c => ?_)
    · replace k := k.1 c
      refine y_s (pc' := 44) (L' := [some (vJ l0), none, some (vJ l2), none, some (vI l4), some (vJ l5), none, some (vJ l7), none, yoj l9, none]) (st' := [vJ l2]) (h' := h) f194_43 rfl ?_
      refine y_s (pc' := 46) (L' := [some (vJ l0), none, some (vJ l2), none, some (vI l4), some (vJ l5), none, some (vJ l7), none, yoj l9, none]) (st' := [vJ l5, vJ l2]) (h' := h) f194_44 rfl ?_
      refine y_jd (pc' := 47) f194_46 k.1 rfl ?_
      replace k := k.2
      exact y_rj f194_47 ⟨rfl, k⟩
    · replace k := k.2 c
      refine y_s (pc' := 40) (L' := [some (vJ l0), none, some (vJ l2), none, some (vI l4), some (vJ l5), none, some (vJ l7), none, yoj l9, none]) (st' := [vJ l0]) (h' := h) f194_39 rfl ?_
      refine y_go (pc' := 44) f194_40 rfl ?_
      refine y_s (pc' := 46) (L' := [some (vJ l0), none, some (vJ l2), none, some (vI l4), some (vJ l5), none, some (vJ l7), none, yoj l9, none]) (st' := [vJ l5, vJ l0]) (h' := h) f194_44 rfl ?_
      refine y_jd (pc' := 47) f194_46 k.1 rfl ?_
      replace k := k.2
      exact y_rj f194_47 ⟨rfl, k⟩
  · replace k := k.2 c
    refine y_s (pc' := 18) (L' := [some (vJ l0), none, some (vJ l2), none, some (vI l4), some (vJ l5), none, some (vJ l7), none, yoj l9, none]) (st' := [vJ l5]) (h' := h) f194_16 rfl ?_
    refine y_s (pc' := 20) (L' := [some (vJ l0), none, some (vJ l2), none, some (vI l4), some (vJ l5), none, some (vJ l7), none, yoj l9, none]) (st' := [vJ l7, vJ l5]) (h' := h) f194_18 rfl ?_
    refine y_jr (pc' := 21) f194_20 k.1 rfl ?_
    replace k := k.2
    refine y_s (pc' := 23) (L' := [some (vJ l0), none, some (vJ l2), none, some (vI l4), some (vJ l5), none, some (vJ l7), none, some (vJ (l5 - l5 / l7 * l7)), none]) (st' := []) (h' := h) f194_21 rfl ?_
    refine y_s (pc' := 25) (L' := [some (vJ l0), none, some (vJ l2), none, some (vI l4), some (vJ l5), none, some (vJ l7), none, some (vJ (l5 - l5 / l7 * l7)), none]) (st' := [vJ l7]) (h' := h) f194_23 rfl ?_
    refine y_s (pc' := 27) (L' := [some (vJ l0), none, some (vJ l2), none, some (vI l4), some (vJ l7), none, some (vJ l7), none, some (vJ (l5 - l5 / l7 * l7)), none]) (st' := []) (h' := h) f194_25 rfl ?_
    refine y_s (pc' := 29) (L' := [some (vJ l0), none, some (vJ l2), none, some (vI l4), some (vJ l7), none, some (vJ l7), none, some (vJ (l5 - l5 / l7 * l7)), none]) (st' := [vJ (l5 - l5 / l7 * l7)]) (h' := h) f194_27 rfl ?_
    refine y_s (pc' := 31) (L' := [some (vJ l0), none, some (vJ l2), none, some (vI l4), some (vJ l7), none, some (vJ (l5 - l5 / l7 * l7)), none, some (vJ (l5 - l5 / l7 * l7)), none]) (st' := []) (h' := h) f194_29 rfl ?_
    refine y_go (pc' := 9) f194_31 rfl ?_
    exact k
end YD
end
section
/-! WHAT THE NEXT METHODS DO -/
/-- one step of a shop's rule: the sum and the answers -/
def ysT (k n f : Int) (q : Int × Int) : Int × Int :=
  if k = 1 then (q.1, zor (zshl q.2 1) (if n ≤ f then 0 else 1)) else
  if k = 2 then (q.1, zor (zshl q.2 1) (if f ≠ n then 0 else 1)) else
  if k = 3 then (q.1, zor (zshl q.2 1) (if f ≤ n then 0 else 1)) else
  if k = 4 then (q.1, zxor q.2 1) else
  if k = 5 then (q.1, if zand q.2 1 ≠ 1 then zand (zshr q.2 1) (-2) else zshr q.2 1) else
  if k = 6 then (q.1, zor (zshr q.2 1) (zand q.2 1)) else
  (if zand q.2 1 ≠ 1 then zw (q.1 + 0) else zw (q.1 + n), 0)
def yshR (V : Nat → Nat → Int) (s : Nat) (f : Nat → Int) : Nat → Nat → Int × Int → Int
  | 0, _, q => q.1
  | m + 1, i, q => yshR V s f m (i + 1) (ysT (V (s + 1) i) (V (s + 3) i) (f (V (s + 2) i).toNat) q)
/-- what a shop adds -/
def ysharp (V : Nat → Nat → Int) (s : Nat) (f : Nat → Int) : Int := yshR V s f (V s 3).toNat 0 (0, 0)
/-- a shop's own cells are in order -/
def yShopOk (V : Nat → Nat → Int) (s : Nat) : Prop := 0 ≤ V s 3 ∧ V s 3 ≤ 100 ∧ ∀ i : Nat, (i : Int) < V s 3 → 0 ≤ V (s + 2) i ∧ V (s + 2) i < 6
section YSB
variable {zl : Nat} {nl : Option Nat} {h : Hp} {d : Nat} {K : Int → Hp → Prop} {U : Hp → Prop} {a n s b : Nat} {x y z : Int}
theorem sp15 (w : yWF zl nl h) (hd : 1 ≤ d) (k1 : (0 ≤ x ∧ x < zV h 37 10) → K 1 h) (k0 : ¬ (0 ≤ x ∧ x < zV h 37 10) → K 0 h) : yI d 15 [vR (some 32), vI x] h K := E15 w hd ⟨k1, k0⟩
theorem sp104 (w : yWF zl nl h) (ha : yTp a) (hd : 1 ≤ d) (k1 : (0 ≤ x ∧ x < zV h a 2) → K 1 h) (k0 : ¬ (0 ≤ x ∧ x < zV h a 2) → K 0 h) : yI d 104 [vR (some a), vI x] h K := E104 w ha hd ⟨k1, k0⟩
theorem sp131 (w : yWF zl nl h) (hd : 1 ≤ d) (p : 0 ≤ zV h 129 0 ∧ zV h 129 0 ≤ 6) (k1 : (0 ≤ x ∧ x < zV h 129 0) → K 1 h) (k0 : ¬ (0 ≤ x ∧ x < zV h 129 0) → K 0 h) : yI d 131 [vR (some 129), vI x] h K := by
  refine E131 w hd ?_
  rw [zwi (by omega)]
  exact ⟨fun c => k1 (by omega), fun c => k0 (by omega)⟩
theorem sp132 (w : yWF zl nl h) (hd : 1 ≤ d) (k1 : (0 ≤ x ∧ x < 6) → K 1 h) (k0 : ¬ (0 ≤ x ∧ x < 6) → K 0 h) : yI d 132 [vI x] h K := E132 w hd ⟨fun c => k1 (by omega), fun c => k0 (by omega)⟩
theorem sp151 (w : yWF zl nl h) (hd : 1 ≤ d) (k1 : (0 ≤ x ∧ x < 10) → K 1 h) (k0 : ¬ (0 ≤ x ∧ x < 10) → K 0 h) : yI d 151 [vI x] h K := E151 w hd ⟨fun c => k1 (by omega), fun c => k0 (by omega)⟩
theorem sp214 (w : yWF zl nl h) (hd : 1 ≤ d) (k1 : (0 ≤ x ∧ x < 6) → K 1 h) (k0 : ¬ (0 ≤ x ∧ x < 6) → K 0 h) : yI d 214 [vI x] h K := E214 w hd ⟨fun c => k1 (by omega), fun c => k0 (by omega)⟩
theorem sp31 (w : yWF zl nl h) (ha : yHs a) (hd : 1 ≤ d) (p : 0 ≤ x ∧ x < 6 ∧ 0 ≤ y ∧ y < 6) (k : U (zsetV h (a + 4) (6 * x + y).toNat (zrem (zw (zV h (a + 4) (6 * x + y).toNat + 1)) 10))) : yU d 31 [vR (some a), vI x, vI y] h U := E31 w ha hd ⟨p, p, k⟩
theorem sp21_loop (w : yWF zl nl h) (ha : ySh a) (hb : zS h b = (1, 6)) (hb2 : 32 ≤ b) (ok : yShopOk (zV h) a) : ∀ (m i : Nat) (q : Int × Int) (l5 l6 : Option Int), (i : Int) + m = zV h a 3 → K (yshR (zV h) a (zV h b) m i q) h → ZW d prog_6_method_4_code 4 7 [some (vR (some a)), some (vR (some b)), some (vI q.1), some (vI q.2), some (vI i), yo l5, yo l6] [] h (yq 1 (yqI K)) := by
  intro m
  induction m with
  | zero =>
    intro i q l5 l6 hm k
    exact W21_7 w ha hb hb2 ⟨fun _ => k, fun c => absurd (by omega) c⟩
  | succ m ih =>
    intro i q l5 l6 hm k
    obtain ⟨o1, o2, o3⟩ := ok
    have o3 := o3 i (by omega)
    have e : (i : Int).toNat = i := Int.toNat_natCast i
    have e1 : zw ((i : Int) + 1) = ((i + 1 : Nat) : Int) := by rw [zwi (by omega)]; rfl
    have ih := fun q => ih (i + 1) q (some (zV h (a + 3) i)) (some (zV h b (zV h (a + 2) i).toNat)) (by omega)
    refine W21_7 w ha hb hb2 ⟨fun c => absurd c (by omega), fun c => ⟨by omega, by omega, ?_, by omega, ?_, ?_, ?_, ?_, ?_, ?_, ?_⟩⟩
    all_goals rw [e]
    · exact o3
    all_goals rw [e1]
    all_goals simp only [yshR, ysT] at k
    · intro c
      simp only [c, if_true] at k
      refine ⟨fun c => ?_, fun c => ?_⟩
      · rw [if_pos c] at k; exact ih _ k
      · rw [if_neg c] at k; exact ih _ k
    · intro c
      simp only [c, if_true] at k
      refine ⟨fun c => ?_, fun c => ?_⟩
      · rw [if_neg (by decide), if_pos c] at k; exact ih _ k
      · rw [if_neg (by decide), if_neg c] at k; exact ih _ k
    · intro c
      simp only [c, if_true] at k
      refine ⟨fun c => ?_, fun c => ?_⟩
      · rw [if_neg (by decide), if_neg (by decide), if_pos c] at k; exact ih _ k
      · rw [if_neg (by decide), if_neg (by decide), if_neg c] at k; exact ih _ k
    · intro c
      simp only [c, if_true] at k
      rw [if_neg (by decide), if_neg (by decide), if_neg (by decide)] at k
      exact ih _ k
    · intro c
      simp only [c, if_true] at k
      rw [if_neg (by decide), if_neg (by decide), if_neg (by decide), if_neg (by decide)] at k
      refine ⟨fun c => ?_, fun c => ?_⟩
      · rw [if_pos c] at k; exact ih _ k
      · rw [if_neg c] at k; exact ih _ k
    · intro c
      simp only [c, if_true] at k
      rw [if_neg (by decide), if_neg (by decide), if_neg (by decide), if_neg (by decide), if_neg (by decide)] at k
      exact ih _ k
    · intro c
      rw [if_neg (by omega), if_neg (by omega), if_neg (by omega), if_neg (by omega), if_neg (by omega), if_neg (by omega)] at k
      refine ⟨fun c => ?_, fun c => ?_⟩
      · rw [if_pos c] at k; exact ih _ k
      · rw [if_neg c] at k; exact ih _ k
theorem sp21 (w : yWF zl nl h) (ha : ySh a) (hb : zS h b = (1, 6)) (hb2 : 32 ≤ b) (ok : yShopOk (zV h) a) (k : K (ysharp (zV h) a (zV h b)) h) : yI d 21 [vR (some a), vR (some b)] h K :=
  E21 w ha hb hb2 (sp21_loop w ha hb hb2 ok _ 0 (0, 0) none none (by have := ok.1; omega) k)
end YSB
end
section
/-! ARITHMETIC and the cells that are only scratch -/
theorem zi_bm {x : Int} (h : -2147483648 ≤ x ∧ x < 2147483648) : x.bmod (2 ^ 32) = x := by
  rw [Int.bmod_def]
  split <;> omega
theorem zdiv_nn {x y : Int} (hx : 0 ≤ x ∧ x < 2147483648) (hy : 0 < y ∧ y < 2147483648) : zdiv x y = x / y := by
  have e : x.tdiv y = x / y := Int.tdiv_eq_ediv_of_nonneg hx.1
  have h1 : 0 ≤ x / y := Int.ediv_nonneg hx.1 (by omega)
  have h2 : x / y ≤ x := Int.ediv_le_self _ hx.1
  unfold zdiv
  rw [Int32.toInt_div, zi_toInt (by unfold zr; omega), zi_toInt (by unfold zr; omega), e, zi_bm (by omega)]
theorem zrem_t {x y : Int} (hx : zr x) (hy : 0 < y ∧ y < 2147483648) : zrem x y = x.tmod y := by
  unfold zrem
  have hz : -2147483648 ≤ x ∧ x < 2147483648 := hx
  obtain ⟨n, hn, hn2, hq, hr⟩ : ∃ n : Int, 0 ≤ n ∧ n ≤ 2147483648 ∧ (x = n ∨ x = -n) ∧ ((x = n ∧ x.tdiv y = n / y ∧ x.tmod y = n % y) ∨ (x = -n ∧ x.tdiv y = -(n / y) ∧ x.tmod y = -(n % y))) := by
    rcases Int.le_total 0 x with c | c
    · exact ⟨x, c, by omega, Or.inl rfl, Or.inl ⟨rfl, Int.tdiv_eq_ediv_of_nonneg c, Int.tmod_eq_emod_of_nonneg c⟩⟩
    · refine ⟨-x, by omega, by omega, Or.inr (by omega), Or.inr ⟨by omega, ?_, ?_⟩⟩
      · rw [← Int.tdiv_eq_ediv_of_nonneg (by omega : 0 ≤ -x), Int.neg_tdiv]; omega
      · rw [← Int.tmod_eq_emod_of_nonneg (by omega : 0 ≤ -x), Int.neg_tmod]; omega
  have c1 : 0 ≤ n / y := Int.ediv_nonneg hn (by omega)
  have c2 : n / y ≤ n := Int.ediv_le_self _ hn
  have c3 : y * (n / y) + n % y = n := Int.mul_ediv_add_emod n y
  have c4 : 0 ≤ n % y := Int.emod_nonneg n (by omega)
  have c5 : n % y < y := Int.emod_lt_of_pos n hy.1
  have c6 : 0 ≤ y * (n / y) := Int.mul_nonneg (by omega) c1
  have cz : x.tdiv y < 2147483648 := by
    rcases hr with ⟨e, e1, e2⟩ | ⟨e, e1, e2⟩ <;> omega
  rw [Int32.toInt_sub, Int32.toInt_mul, Int32.toInt_div, zi_toInt hx, zi_toInt (by unfold zr; omega)]
  rcases hr with ⟨e, e1, e2⟩ | ⟨e, e1, e2⟩
  · rw [e1, e2, zi_bm (x := n / y) (by omega), Int.mul_comm, zi_bm (x := y * (n / y)) (by omega), zi_bm (by omega)]
    omega
  · rw [e1, e2, zi_bm (x := -(n / y)) (by omega), Int.mul_comm, Int.mul_neg, zi_bm (x := -(y * (n / y))) (by omega), zi_bm (by omega)]
    omega
theorem zrem_nn {x y : Int} (hx : 0 ≤ x ∧ x < 2147483648) (hy : 0 < y ∧ y < 2147483648) : zrem x y = x % y := by
  rw [zrem_t (by unfold zr; omega) hy]
  exact Int.tmod_eq_emod_of_nonneg hx.1
def ySc (b : Nat) : Prop := b = 43 ∨ b = 58 ∨ b = 73 ∨ b = 143 ∨ b = 155 ∨ b = 156
def ymk (h : Hp) (b k : Nat) : Int := if b = 43 ∨ b = 58 ∨ b = 73 ∨ b = 143 ∨ b = 155 ∨ b = 156 then 0 else zV h b k
def ySm (h h' : Hp) : Prop := (zS h' = zS h ∧ zJ h' = zJ h ∧ zP h' = zP h ∧ zN h' = zN h ∧ zM h' = zM h) ∧ ymk h' = ymk h
theorem ymk_of {h : Hp} {b k : Nat} (hb : ¬ ySc b) : ymk h b k = zV h b k := if_neg hb
theorem ySm.refl (h : Hp) : ySm h h := ⟨⟨rfl, rfl, rfl, rfl, rfl⟩, rfl⟩
theorem ySm.trans {h h2 h3 : Hp} (x : ySm h h2) (y : ySm h2 h3) : ySm h h3 := by
  obtain ⟨⟨a1, a2, a3, a4, a5⟩, a6⟩ := x
  obtain ⟨⟨b1, b2, b3, b4, b5⟩, b6⟩ := y
  exact ⟨⟨b1.trans a1, b2.trans a2, b3.trans a3, b4.trans a4, b5.trans a5⟩, b6.trans a6⟩
theorem ySm.wf {zl : Nat} {nl : Option Nat} {h h' : Hp} (w : yWF zl nl h) (x : ySm h h') : yWF zl nl h' := by
  obtain ⟨⟨a1, a2, a3, a4, a5⟩, a6⟩ := x
  unfold yWF
  rw [a1, a3, a4, a5]
  exact w
theorem ySm.V {h h' : Hp} (x : ySm h h') {b : Nat} (hb : ¬ ySc b) (k : Nat) : zV h' b k = zV h b k := by
  have := congrFun (congrFun x.2 b) k
  rw [ymk_of hb, ymk_of hb] at this
  exact this
theorem ySm.set {h : Hp} {b k : Nat} {x : Int} (hb : ySc b) : ySm h (zsetV h b k x) := by
  refine ⟨⟨rfl, rfl, rfl, rfl, rfl⟩, ?_⟩
  funext c j
  unfold ymk
  split
  · rfl
  · next hc =>
    rw [zV_V, if_neg (fun q => hc (by rw [q.1]; exact hb))]
theorem ySc_H {a : Nat} (ha : yHs a) : ySc (a + 6) := by unfold ySc; rcases ha with rfl | rfl | rfl <;> omega
theorem ySn_H {a j : Nat} (ha : yHs a) (hj : j ≠ 6 ∧ j < 15) : ¬ ySc (a + j) := by unfold ySc; rcases ha with rfl | rfl | rfl <;> omega
theorem ySn_S {s j : Nat} (hs : ySh s) (hj : j < 4) : ¬ ySc (s + j) := by unfold ySc; unfold ySh at hs; omega
end
section
/-! PITCH, NOTE, SOUND: the class -/
def yfact (V : Nat → Nat → Int) (a : Nat) (p i : Int) (j : Nat) : Int := match j with
  | 0 => p
  | 1 => V (a + 1) p.toNat
  | 2 => V (a + 2) p.toNat
  | 3 => i
  | 4 => V (a + 4) (6 * p + i).toNat
  | 5 => zrem (V a 11) 10
  | _ => 0
def ypit (kd v i s ag rw : Int) : Int :=
  if kd = 1 then zw (s + v) else
  if kd = 2 then zdiv s 2 else
  if kd = 3 then (if i = v then 0 else s) else
  if kd = 4 then (if zrem i 2 ≠ 1 then zw (s + v) else zw (2 * zw (s + v))) else
  if kd = 5 then zw (zdiv s 2 + ymin ag 9) else
  if kd = 6 then zw ((if i = v then 0 else s) + rw) else s
/-- the pitch of the house at a with the shop at s -/
def ypC (V : Nat → Nat → Int) (a s : Nat) (p i : Int) : Int := ypit (V (a + 1) p.toNat) (V (a + 2) p.toNat) i (zw (V (a + 4) (6 * p + i).toNat + ysharp V s (yfact V a p i))) (V (a + 3) p.toNat) (V (a + 5) (4 * p + V a 11 % 4).toNat)
theorem yshR_congr {V V' : Nat → Nat → Int} {s : Nat} {f f' : Nat → Int} (hV : ∀ j, j < 4 → ∀ k, V (s + j) k = V' (s + j) k) (hf : ∀ j, j < 6 → f j = f' j) (n : Nat) (ok : ∀ i, i < n → 0 ≤ V (s + 2) i ∧ V (s + 2) i < 6) : ∀ (m i : Nat) (q : Int × Int), i + m ≤ n → yshR V s f m i q = yshR V' s f' m i q := by
  intro m
  induction m with
  | zero => intro i q _; rfl
  | succ m ih =>
    intro i q hm
    unfold yshR
    have o := ok i (by omega)
    rw [ih _ _ (by omega), ← hV 1 (by decide), ← hV 2 (by decide), ← hV 3 (by decide), hf _ (by omega)]
theorem ysharp_congr {V V' : Nat → Nat → Int} {s : Nat} {f f' : Nat → Int} (ok : yShopOk V s) (hV : ∀ j, j < 4 → ∀ k, V (s + j) k = V' (s + j) k) (hf : ∀ j, j < 6 → f j = f' j) : ysharp V s f = ysharp V' s f' := by
  obtain ⟨o1, o2, o3⟩ := ok
  have e : V s 3 = V' s 3 := hV 0 (by decide) 3
  unfold ysharp
  rw [← e]
  exact yshR_congr hV hf (V s 3).toNat (fun i hi => o3 i (by omega)) _ _ _ (by omega)
section YPI
variable {zl : Nat} {nl : Option Nat} {h : Hp} {d : Nat} {K : Int → Hp → Prop} {U : Hp → Prop} {a n s b : Nat} {x y z : Int}
theorem ymkH (ha : yHs a) {j : Nat} (hj : j ≠ 6 ∧ j < 15) (k : Nat) : ymk h (a + j) k = zV h (a + j) k := ymk_of (ySn_H ha hj)
theorem ymkH0 (ha : yHs a) (k : Nat) : ymk h a k = zV h a k := ymk_of (ySn_H (j := 0) ha (by decide))
theorem sp19 (w : yWF zl nl h) (ha : yHs a) (p : 0 ≤ x ∧ x < 6 ∧ 0 ≤ y ∧ y < 6) (k : ∀ h', ySm h h' → (∀ j, j < 6 → zV h' (a + 6) j = yfact (ymk h) a x y j) → U h') : yU d 19 [vR (some a), vI x, vI y] h U := by
  refine E19 w ha ?_
  rw [zwi (x := x * 6) (by omega), zwi (x := x * 6 + y) (by omega), Int.mul_comm x 6]
  refine ⟨by omega, ?_⟩
  rintro _ rfl
  refine ⟨by omega, ?_⟩
  rintro _ rfl
  refine ⟨by omega, ?_⟩
  rintro _ rfl
  have c := ySc_H ha
  refine k _ ((((((ySm.set c).trans (ySm.set c)).trans (ySm.set c)).trans (ySm.set c)).trans (ySm.set c)).trans (ySm.set c)) fun j hj => ?_
  match j, hj with
  | 0, _ => simp [zV_V, yfact]
  | 1, _ => simp [zV_V, yfact, ymkH (h := h) ha (j := 1) (by decide)]
  | 2, _ => simp [zV_V, yfact, ymkH (h := h) ha (j := 2) (by decide)]
  | 3, _ => simp [zV_V, yfact]
  | 4, _ => simp [zV_V, yfact, ymkH (h := h) ha (j := 4) (by decide)]
  | 5, _ => simp [zV_V, yfact, ymkH0 (h := h) ha]
  | j + 6, hj => omega
theorem sp18 (w : yWF zl nl h) (ha : yHs a) (hd : 3 ≤ d) (hs : zP h a 12 = some s) (ok : yShopOk (zV h) s) (hy : 0 ≤ zV h a 11 ∧ zV h a 11 < 2147483648) (p : 0 ≤ x ∧ x < 6 ∧ 0 ≤ y ∧ y < 6) (k : ∀ h', ySm h h' → K (ypC (ymk h) a s x y) h') : yI d 18 [vR (some a), vI x, vI y] h K := by
  refine E18 w ha (by omega) (sp19 w ha p fun h2 m2 f2 => ?_)
  have w2 := m2.wf w
  refine W18_6 w2 ha (by omega) ⟨p, fun s' es hS => ?_⟩
  have e2 : zP h2 a 12 = zP h a 12 := by rw [m2.1.2.2.1]
  rw [e2, hs] at es
  obtain rfl := Option.some.inj es
  have ok2 : yShopOk (zV h2) s := by
    unfold yShopOk
    have e0 : zV h2 s 3 = zV h s 3 := m2.V (b := s) (by have := ySn_S (j := 0) hS (by decide); exact this) 3
    rw [e0]
    refine ⟨ok.1, ok.2.1, fun i hi => ?_⟩
    rw [m2.V (ySn_S hS (by decide))]
    exact ok.2.2 i hi
  refine sp21 w2 hS (ysH6 w2 ha) (by have := yH_32 ha; omega) ok2 ?_
  have es : ysharp (zV h2) s (zV h2 (a + 6)) = ysharp (ymk h) s (yfact (ymk h) a x y) :=
    ysharp_congr ok2 (fun j hj i => by rw [m2.V (ySn_S hS hj), ymk_of (ySn_S hS hj)]) f2
  rw [es]
  have k := k h2 m2
  have q : ∀ j, j ≠ 6 ∧ j < 15 → ∀ i, zV h2 (a + j) i = ymk h (a + j) i := fun j hj i => by rw [m2.V (ySn_H ha hj), ymkH ha hj]
  have q0 : zV h2 a 11 = ymk h a 11 := by have := q 0 (by decide) 11; exact this
  have q1 : zV h a 11 = ymk h a 11 := (ymkH0 ha 11).symm
  rw [q1] at hy
  have em : ymk h a 11 % 4 < 4 := Int.emod_lt_of_pos _ (by decide)
  have en : 0 ≤ ymk h a 11 % 4 := Int.emod_nonneg _ (by decide)
  refine W18_23 w2 ha (by omega) ?_
  rw [q 1 (by decide), q 2 (by decide), q 3 (by decide), q 4 (by decide), q 5 (by decide), q0, zrem_nn hy (by decide), zwi (x := x * 4) (by omega), zwi (x := x * 4 + ymk h a 11 % 4) (by omega), Int.mul_comm x 4]
  unfold ypC ypit at k
  refine ⟨by omega, fun c => ⟨by omega, ?_⟩, fun c => ⟨by omega, ?_⟩⟩
  · rw [if_neg c] at k
    refine ⟨fun c => ?_, fun c => ?_, fun c => ?_, fun c => ⟨fun c2 => ?_, fun c2 => ?_⟩, fun c => ⟨by omega, ?_⟩, fun c => ⟨by omega, ?_⟩, fun c => ?_⟩
    · rw [if_pos c] at k; exact k
    · rw [if_neg (by omega), if_pos c] at k; exact k
    · rw [if_neg (by omega), if_neg (by omega), if_pos c] at k; exact k
    · rw [if_neg (by omega), if_neg (by omega), if_neg (by omega), if_pos c, if_pos c2] at k; exact k
    · rw [if_neg (by omega), if_neg (by omega), if_neg (by omega), if_pos c, if_neg c2] at k; exact k
    · rw [if_neg (by omega), if_neg (by omega), if_neg (by omega), if_neg (by omega), if_pos c] at k; exact k
    · rw [if_neg (by omega), if_neg (by omega), if_neg (by omega), if_neg (by omega), if_neg (by omega), if_pos c] at k; exact k
    · rw [if_neg (by omega), if_neg (by omega), if_neg (by omega), if_neg (by omega), if_neg (by omega), if_neg (by omega)] at k; exact k
  · have c : y = ymk h (a + 2) x.toNat := Classical.byContradiction c
    rw [if_pos c] at k
    refine ⟨fun c => ?_, fun c => ?_, fun c => ?_, fun c => ⟨fun c2 => ?_, fun c2 => ?_⟩, fun c => ⟨by omega, ?_⟩, fun c => ⟨by omega, ?_⟩, fun c => ?_⟩
    · rw [if_pos c] at k; exact k
    · rw [if_neg (by omega), if_pos c] at k; exact k
    · rw [if_neg (by omega), if_neg (by omega), if_pos c] at k; exact k
    · rw [if_neg (by omega), if_neg (by omega), if_neg (by omega), if_pos c, if_pos c2] at k; exact k
    · rw [if_neg (by omega), if_neg (by omega), if_neg (by omega), if_pos c, if_neg c2] at k; exact k
    · rw [if_neg (by omega), if_neg (by omega), if_neg (by omega), if_neg (by omega), if_pos c] at k; exact k
    · rw [if_neg (by omega), if_neg (by omega), if_neg (by omega), if_neg (by omega), if_neg (by omega), if_pos c] at k; exact k
    · rw [if_neg (by omega), if_neg (by omega), if_neg (by omega), if_neg (by omega), if_neg (by omega), if_neg (by omega)] at k; exact k
end YPI
end
section
/-! NOTE: the class -/
theorem yxs (b : Int32) : 0 ≤ b ^^^ 10 ↔ 0 ≤ b.toInt := by
  rw [Int32.le_iff_toInt_le]
  have e : ∀ c : Int32, (0 : Int32).toInt ≤ c.toInt ↔ c.toBitVec.msb = false := by
    intro c
    show (0 : Int) ≤ c.toBitVec.toInt ↔ _
    rw [BitVec.msb_eq_toInt]
    simp
  rw [e, Int32.toBitVec_xor, BitVec.msb_xor]
  have e10 : (10 : Int32).toBitVec.msb = false := by decide
  rw [e10, Bool.xor_false, ← e]
  exact Iff.rfl
theorem yfm10 (x : Int) : yfm x 10 = if 0 ≤ zrem x 10 then zrem x 10 else zw (zrem x 10 + 10) := by
  have ht : zr (zi x).toInt := zr_toInt _
  have e0 : zrem (zi x).toInt 10 = zrem x 10 := by unfold zrem; rw [zi_of]
  have e1 := zrem_t ht (y := 10) (by decide)
  rw [e0] at e1
  have e2 : (zi x - zi x / zi 10 * zi 10).toInt = zrem x 10 := rfl
  have h10 : zi 10 = 10 := by decide +kernel
  rw [h10] at e2
  unfold yfm zfm32
  rw [h10]
  by_cases c : 0 ≤ zi x ^^^ 10
  · have c2 := (yxs _).1 c
    rw [if_pos c, e2, if_pos]
    rw [e1]
    exact Int.tmod_nonneg _ c2
  · have c2 : ¬ 0 ≤ (zi x).toInt := fun q => c ((yxs _).2 q)
    have c3 : zrem x 10 ≤ 0 := by
      rw [e1]
      have := Int.tmod_nonneg (a := -(zi x).toInt) 10 (by omega)
      rw [Int.neg_tmod] at this
      omega
    rw [if_neg c]
    by_cases c4 : zi x - zi x / 10 * 10 = 0
    · have c5 : zrem x 10 = 0 := by rw [← e2, c4]; rfl
      rw [if_pos c4, e2, if_pos (by omega)]
    · have c5 : ¬ 0 ≤ zrem x 10 := by
        intro q
        have : zrem x 10 = 0 := by omega
        rw [← e2] at this
        exact c4 (Int32.toInt_inj.1 this)
      rw [if_neg c4, if_neg c5, Int32.toInt_add, e2]
      have c6 : -10 < zrem x 10 := by
        have := Int.tmod_lt_of_pos (a := -(zi x).toInt) (b := 10) (by decide)
        rw [Int.neg_tmod] at this
        omega
      have e10 : (10 : Int32).toInt = 10 := rfl
      rw [e10, zi_bm (by omega), zwi (by omega)]
def yshp (h : Hp) (a : Nat) : Nat := (zP h a 12).getD 0
/-- the house at a can be heard -/
def yHOk (h : Hp) (a : Nat) : Prop := yShopOk (zV h) (yshp h a) ∧ 0 ≤ zV h a 11 ∧ zV h a 11 < 2147483648
def ydig (x : Int) : Int := if 0 ≤ zrem x 10 then zrem x 10 else zw (zrem x 10 + 10)
def ynote (h : Hp) (a : Nat) (p i : Int) : Int := ydig (ypC (ymk h) a (yshp h a) p i)
theorem ydig_r (x : Int) : 0 ≤ ydig x ∧ ydig x < 10 := by
  have ht : zr (zi x).toInt := zr_toInt _
  have e0 : zrem (zi x).toInt 10 = zrem x 10 := by unfold zrem; rw [zi_of]
  have e1 := zrem_t ht (y := 10) (by decide)
  rw [e0] at e1
  have q1 : zrem x 10 < 10 := by rw [e1]; exact Int.tmod_lt_of_pos _ (by decide)
  have q2 : -10 < zrem x 10 := by
    have := Int.tmod_lt_of_pos (a := -(zi x).toInt) (b := 10) (by decide)
    rw [Int.neg_tmod] at this
    omega
  unfold ydig
  split
  · omega
  · rw [zwi (by omega)]; omega
section YNO
variable {zl : Nat} {nl : Option Nat} {h h' : Hp} {d : Nat} {K : Int → Hp → Prop} {U : Hp → Prop} {a n s b : Nat} {x y z : Int}
theorem yshp_of (w : yWF zl nl h) (ha : yHs a) : zP h a 12 = some (yshp h a) ∧ ySh (yshp h a) := by
  obtain ⟨s, e, hs⟩ := ypH12 w ha
  unfold yshp
  rw [e]
  exact ⟨rfl, hs⟩
theorem ySm.shp (m : ySm h h') (a : Nat) : yshp h' a = yshp h a := by unfold yshp; rw [m.1.2.2.1]
theorem ySm.note (m : ySm h h') (a : Nat) (p i : Int) : ynote h' a p i = ynote h a p i := by unfold ynote; rw [m.shp, m.2]
theorem ySm.ok (w : yWF zl nl h) (m : ySm h h') (ha : yHs a) (o : yHOk h a) : yHOk h' a := by
  have hS := (yshp_of w ha).2
  obtain ⟨⟨o1, o2, o3⟩, o4, o5⟩ := o
  have e0 : zV h' (yshp h a) 3 = zV h (yshp h a) 3 := m.V (by have := ySn_S (j := 0) hS (by decide); exact this) 3
  have e1 : zV h' a 11 = zV h a 11 := m.V (by have := ySn_H (j := 0) ha (by decide); exact this) 11
  unfold yHOk yShopOk
  rw [m.shp, e0, e1]
  refine ⟨⟨o1, o2, fun i hi => ?_⟩, o4, o5⟩
  rw [m.V (ySn_S hS (by decide))]
  exact o3 i hi
theorem sp17 (w : yWF zl nl h) (ha : yHs a) (hd : 4 ≤ d) (o : yHOk h a) (p : 0 ≤ x ∧ x < 6 ∧ 0 ≤ y ∧ y < 6) (k : ∀ h', ySm h h' → K (ynote h a x y) h') : yI d 17 [vR (some a), vI x, vI y] h K := by
  refine E17 w ha (by omega) (sp18 w ha (by omega) (yshp_of w ha).1 o.1 o.2 p fun h2 m => ?_)
  refine W17_6 (m.wf w) ha (by omega) ?_
  rw [yfm10]
  exact k h2 m
theorem sp18' (w : yWF zl nl h) (ha : yHs a) (hd : 3 ≤ d) (o : yHOk h a) (p : 0 ≤ x ∧ x < 6 ∧ 0 ≤ y ∧ y < 6) (k : ∀ h', ySm h h' → K (ypC (ymk h) a (yshp h a) x y) h') : yI d 18 [vR (some a), vI x, vI y] h K := sp18 w ha hd (yshp_of w ha).1 o.1 o.2 p k
/-- a sound as a number -/
def ysnd (f : Int → Int) : Nat → Int
  | 0 => 0
  | n + 1 => 10 * ysnd f n + f n
theorem ysnd_r {f : Int → Int} (hf : ∀ i, 0 ≤ f i ∧ f i < 10) (n : Nat) : 0 ≤ ysnd f n ∧ ysnd f n < 10 ^ n := by
  induction n with
  | zero => exact ⟨Int.le_refl 0, by show (0 : Int) < 1; decide⟩
  | succ n ih =>
    have := hf n
    have e : (10 : Int) ^ (n + 1) = 10 ^ n * 10 := Int.pow_succ 10 n
    unfold ysnd
    omega
theorem sp16_loop (w0 : yWF zl nl h) (ha : yHs a) (hd : 5 ≤ d) (o : yHOk h a) (p : 0 ≤ x ∧ x < 6) (k : ∀ h', ySm h h' → K (ysnd (ynote h a x) 6) h') : ∀ (m i : Nat) (h2 : Hp), i + m = 6 → ySm h h2 → ZW d prog_4_method_14_code 2 4 [some (vR (some a)), some (vI x), some (vI (ysnd (ynote h a x) i)), some (vI i)] [] h2 (yq 1 (yqI K)) := by
  intro m
  induction m with
  | zero =>
    intro i h2 hm s2
    obtain rfl : i = 6 := by omega
    exact W16_4 (s2.wf w0) ha (by omega) ⟨fun _ => k h2 s2, fun c => absurd (by decide) c⟩
  | succ m ih =>
    intro i h2 hm s2
    refine W16_4 (s2.wf w0) ha (by omega) ⟨fun c => absurd c (by omega), fun c => ?_⟩
    refine sp17 (s2.wf w0) ha (by omega) (s2.ok w0 ha o) (by omega) fun h3 s3 => ?_
    refine W16_20 (s3.wf (s2.wf w0)) ha ?_
    have r := ysnd_r (f := ynote h a x) (fun i => ydig_r _) i
    have r2 : (10 : Int) ^ i ≤ 10 ^ 5 := by
      match i, hm with
      | 0, _ => decide
      | 1, _ => decide
      | 2, _ => decide
      | 3, _ => decide
      | 4, _ => decide
      | 5, _ => decide
      | i + 6, hm => omega
    have r3 := ydig_r (ypC (ymk h) a (yshp h a) x i)
    have r4 : ynote h a x i = ydig (ypC (ymk h) a (yshp h a) x i) := rfl
    rw [← r4] at r3
    have e5 : (10 : Int) ^ 5 = 100000 := rfl
    have e : zw (zw (ysnd (ynote h a x) i * 10) + ynote h2 a x i) = ysnd (ynote h a x) (i + 1) := by
      rw [s2.note, zwi (x := ysnd (ynote h a x) i * 10) (by omega), zwi (by omega)]
      show _ = 10 * ysnd (ynote h a x) i + ynote h a x i
      omega
    have e2 : zw ((i : Int) + 1) = ((i + 1 : Nat) : Int) := by rw [zwi (by omega)]; rfl
    rw [e, e2]
    exact ih (i + 1) h3 (by omega) (s2.trans s3)
def ysound (h : Hp) (a : Nat) (p : Int) : Int := ysnd (ynote h a p) 6
theorem sp16 (w : yWF zl nl h) (ha : yHs a) (hd : 5 ≤ d) (o : yHOk h a) (p : 0 ≤ x ∧ x < 6) (k : ∀ h', ySm h h' → K (ysound h a x) h') : yI d 16 [vR (some a), vI x] h K :=
  E16 w ha (sp16_loop w ha hd o p k 6 0 h rfl (ySm.refl h))
end YNO
end
