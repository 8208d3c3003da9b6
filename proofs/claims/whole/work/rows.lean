section
-- ===== PART A: goes FIRST, ahead of the names: the tables' words, and 'selects' of the private methods out of them =====
/-- a private method of a class that the tables say can be made, by its rows of tables_1 -/
def lw_okq (q : MethodName × Nat) : Prop := (q.1.cls ≠ "java/lang/invoke/MethodHandle" ∧ q.1.cls ≠ "java/lang/invoke/VarHandle") ∧ Cond.instantiable q.1.cls q.2 ∈ tables_1 ∧ Cond.privateMethod q.1 ∈ tables_1 ∧ Cond.instanceMethod q.1 ∈ tables_1
theorem lw_p0 : lw_okq (⟨"TwiceHeard$Telling", "layRings", "(LTwiceHeard$Net;)V"⟩, 10) := ⟨⟨by decide +kernel, by decide +kernel⟩, List.mem_of_getElem? (i := 81) (by decide +kernel), List.mem_of_getElem? (i := 209) (by decide +kernel), List.mem_of_getElem? (i := 210) (by decide +kernel)⟩
theorem lw_p1 : lw_okq (⟨"TwiceHeard$Telling", "settle", "(LTwiceHeard$Net;II)I"⟩, 10) := ⟨⟨by decide +kernel, by decide +kernel⟩, List.mem_of_getElem? (i := 81) (by decide +kernel), List.mem_of_getElem? (i := 216) (by decide +kernel), List.mem_of_getElem? (i := 217) (by decide +kernel)⟩
theorem lw_p2 : lw_okq (⟨"TwiceHeard$Telling", "writeLetters", "(LTwiceHeard$Net;)V"⟩, 10) := ⟨⟨by decide +kernel, by decide +kernel⟩, List.mem_of_getElem? (i := 81) (by decide +kernel), List.mem_of_getElem? (i := 223) (by decide +kernel), List.mem_of_getElem? (i := 224) (by decide +kernel)⟩
theorem lw_p3 : lw_okq (⟨"TwiceHeard$Telling", "writeFrom", "(LTwiceHeard$Net;I)V"⟩, 10) := ⟨⟨by decide +kernel, by decide +kernel⟩, List.mem_of_getElem? (i := 81) (by decide +kernel), List.mem_of_getElem? (i := 227) (by decide +kernel), List.mem_of_getElem? (i := 228) (by decide +kernel)⟩
theorem lw_p4 : lw_okq (⟨"TwiceHeard$Telling", "countWays", "()V"⟩, 10) := ⟨⟨by decide +kernel, by decide +kernel⟩, List.mem_of_getElem? (i := 81) (by decide +kernel), List.mem_of_getElem? (i := 235) (by decide +kernel), List.mem_of_getElem? (i := 236) (by decide +kernel)⟩
theorem lw_p5 : lw_okq (⟨"TwiceHeard", "firstWrong", "()I"⟩, 7) := ⟨⟨by decide +kernel, by decide +kernel⟩, List.mem_of_getElem? (i := 15) (by decide +kernel), List.mem_of_getElem? (i := 261) (by decide +kernel), List.mem_of_getElem? (i := 262) (by decide +kernel)⟩
theorem lw_p6 : lw_okq (⟨"TwiceHeard", "guessOf", "(II)I"⟩, 7) := ⟨⟨by decide +kernel, by decide +kernel⟩, List.mem_of_getElem? (i := 15) (by decide +kernel), List.mem_of_getElem? (i := 307) (by decide +kernel), List.mem_of_getElem? (i := 308) (by decide +kernel)⟩
theorem lw_p7 : lw_okq (⟨"TwiceHeard", "rowsJoined", "(IIJ)J"⟩, 7) := ⟨⟨by decide +kernel, by decide +kernel⟩, List.mem_of_getElem? (i := 15) (by decide +kernel), List.mem_of_getElem? (i := 382) (by decide +kernel), List.mem_of_getElem? (i := 383) (by decide +kernel)⟩
theorem lw_p8 : lw_okq (⟨"TwiceHeardModel", "links", "()I"⟩, 17) := ⟨⟨by decide +kernel, by decide +kernel⟩, List.mem_of_getElem? (i := 508) (by decide +kernel), List.mem_of_getElem? (i := 570) (by decide +kernel), List.mem_of_getElem? (i := 571) (by decide +kernel)⟩
theorem lw_p9 : lw_okq (⟨"TwiceHeardModel", "lostLinks", "()I"⟩, 17) := ⟨⟨by decide +kernel, by decide +kernel⟩, List.mem_of_getElem? (i := 508) (by decide +kernel), List.mem_of_getElem? (i := 580) (by decide +kernel), List.mem_of_getElem? (i := 581) (by decide +kernel)⟩
theorem lw_p10 : lw_okq (⟨"TwiceHeardModel", "outermost", "()I"⟩, 17) := ⟨⟨by decide +kernel, by decide +kernel⟩, List.mem_of_getElem? (i := 508) (by decide +kernel), List.mem_of_getElem? (i := 584) (by decide +kernel), List.mem_of_getElem? (i := 585) (by decide +kernel)⟩
theorem lw_p11 : lw_okq (⟨"TwiceHeardModel", "layRings", "()V"⟩, 17) := ⟨⟨by decide +kernel, by decide +kernel⟩, List.mem_of_getElem? (i := 508) (by decide +kernel), List.mem_of_getElem? (i := 588) (by decide +kernel), List.mem_of_getElem? (i := 589) (by decide +kernel)⟩
theorem lw_p12 : lw_okq (⟨"TwiceHeardModel", "spread", "(I)Z"⟩, 17) := ⟨⟨by decide +kernel, by decide +kernel⟩, List.mem_of_getElem? (i := 508) (by decide +kernel), List.mem_of_getElem? (i := 592) (by decide +kernel), List.mem_of_getElem? (i := 593) (by decide +kernel)⟩
theorem lw_p13 : lw_okq (⟨"TwiceHeardModel", "greatestRing", "()I"⟩, 17) := ⟨⟨by decide +kernel, by decide +kernel⟩, List.mem_of_getElem? (i := 508) (by decide +kernel), List.mem_of_getElem? (i := 596) (by decide +kernel), List.mem_of_getElem? (i := 597) (by decide +kernel)⟩
theorem lw_p14 : lw_okq (⟨"TwiceHeardModel", "comesSet", "()I"⟩, 17) := ⟨⟨by decide +kernel, by decide +kernel⟩, List.mem_of_getElem? (i := 508) (by decide +kernel), List.mem_of_getElem? (i := 600) (by decide +kernel), List.mem_of_getElem? (i := 601) (by decide +kernel)⟩
theorem lw_p15 : lw_okq (⟨"TwiceHeardModel", "layWays", "()V"⟩, 17) := ⟨⟨by decide +kernel, by decide +kernel⟩, List.mem_of_getElem? (i := 508) (by decide +kernel), List.mem_of_getElem? (i := 604) (by decide +kernel), List.mem_of_getElem? (i := 605) (by decide +kernel)⟩
def lw_privs_1 : List (MethodName × Nat) := [(⟨"TwiceHeard$Telling", "layRings", "(LTwiceHeard$Net;)V"⟩, 10), (⟨"TwiceHeard$Telling", "settle", "(LTwiceHeard$Net;II)I"⟩, 10), (⟨"TwiceHeard$Telling", "writeLetters", "(LTwiceHeard$Net;)V"⟩, 10), (⟨"TwiceHeard$Telling", "writeFrom", "(LTwiceHeard$Net;I)V"⟩, 10), (⟨"TwiceHeard$Telling", "countWays", "()V"⟩, 10), (⟨"TwiceHeard", "firstWrong", "()I"⟩, 7), (⟨"TwiceHeard", "guessOf", "(II)I"⟩, 7), (⟨"TwiceHeard", "rowsJoined", "(IIJ)J"⟩, 7), (⟨"TwiceHeardModel", "links", "()I"⟩, 17), (⟨"TwiceHeardModel", "lostLinks", "()I"⟩, 17), (⟨"TwiceHeardModel", "outermost", "()I"⟩, 17), (⟨"TwiceHeardModel", "layRings", "()V"⟩, 17), (⟨"TwiceHeardModel", "spread", "(I)Z"⟩, 17), (⟨"TwiceHeardModel", "greatestRing", "()I"⟩, 17), (⟨"TwiceHeardModel", "comesSet", "()I"⟩, 17), (⟨"TwiceHeardModel", "layWays", "()V"⟩, 17)]
theorem lw_r1 : ∀ q ∈ lw_privs_1, lw_okq q := List.forall_mem_cons.mpr ⟨lw_p0, List.forall_mem_cons.mpr ⟨lw_p1, List.forall_mem_cons.mpr ⟨lw_p2, List.forall_mem_cons.mpr ⟨lw_p3, List.forall_mem_cons.mpr ⟨lw_p4, List.forall_mem_cons.mpr ⟨lw_p5, List.forall_mem_cons.mpr ⟨lw_p6, List.forall_mem_cons.mpr ⟨lw_p7, List.forall_mem_cons.mpr ⟨lw_p8, List.forall_mem_cons.mpr ⟨lw_p9, List.forall_mem_cons.mpr ⟨lw_p10, List.forall_mem_cons.mpr ⟨lw_p11, List.forall_mem_cons.mpr ⟨lw_p12, List.forall_mem_cons.mpr ⟨lw_p13, List.forall_mem_cons.mpr ⟨lw_p14, List.forall_mem_cons.mpr ⟨lw_p15, fun _ h => absurd h List.not_mem_nil⟩⟩⟩⟩⟩⟩⟩⟩⟩⟩⟩⟩⟩⟩⟩⟩
theorem lw_p16 : lw_okq (⟨"TwiceHeardModel", "layLetters", "()V"⟩, 17) := ⟨⟨by decide +kernel, by decide +kernel⟩, List.mem_of_getElem? (i := 508) (by decide +kernel), List.mem_of_getElem? (i := 608) (by decide +kernel), List.mem_of_getElem? (i := 609) (by decide +kernel)⟩
theorem lw_p17 : lw_okq (⟨"TwiceHeardModel", "sendFrom", "(I)V"⟩, 17) := ⟨⟨by decide +kernel, by decide +kernel⟩, List.mem_of_getElem? (i := 508) (by decide +kernel), List.mem_of_getElem? (i := 612) (by decide +kernel), List.mem_of_getElem? (i := 613) (by decide +kernel)⟩
theorem lw_p18 : lw_okq (⟨"TwiceHeardModel", "upper", "(I)I"⟩, 17) := ⟨⟨by decide +kernel, by decide +kernel⟩, List.mem_of_getElem? (i := 508) (by decide +kernel), List.mem_of_getElem? (i := 616) (by decide +kernel), List.mem_of_getElem? (i := 617) (by decide +kernel)⟩
theorem lw_p19 : lw_okq (⟨"TwiceHeardModel", "comes", "(I)Z"⟩, 17) := ⟨⟨by decide +kernel, by decide +kernel⟩, List.mem_of_getElem? (i := 508) (by decide +kernel), List.mem_of_getElem? (i := 620) (by decide +kernel), List.mem_of_getElem? (i := 621) (by decide +kernel)⟩
theorem lw_p20 : lw_okq (⟨"TwiceHeardModel", "truth", "()I"⟩, 17) := ⟨⟨by decide +kernel, by decide +kernel⟩, List.mem_of_getElem? (i := 508) (by decide +kernel), List.mem_of_getElem? (i := 624) (by decide +kernel), List.mem_of_getElem? (i := 625) (by decide +kernel)⟩
theorem lw_p21 : lw_okq (⟨"TwiceHeardModel", "letterMany", "()I"⟩, 17) := ⟨⟨by decide +kernel, by decide +kernel⟩, List.mem_of_getElem? (i := 508) (by decide +kernel), List.mem_of_getElem? (i := 628) (by decide +kernel), List.mem_of_getElem? (i := 629) (by decide +kernel)⟩
theorem lw_p22 : lw_okq (⟨"TwiceHeardModel", "lostLetters", "()I"⟩, 17) := ⟨⟨by decide +kernel, by decide +kernel⟩, List.mem_of_getElem? (i := 508) (by decide +kernel), List.mem_of_getElem? (i := 632) (by decide +kernel), List.mem_of_getElem? (i := 633) (by decide +kernel)⟩
theorem lw_p23 : lw_okq (⟨"TwiceHeardModel", "wrongEntry", "()I"⟩, 17) := ⟨⟨by decide +kernel, by decide +kernel⟩, List.mem_of_getElem? (i := 508) (by decide +kernel), List.mem_of_getElem? (i := 636) (by decide +kernel), List.mem_of_getElem? (i := 637) (by decide +kernel)⟩
theorem lw_p24 : lw_okq (⟨"TwiceHeardModel", "isNode", "(I)Z"⟩, 17) := ⟨⟨by decide +kernel, by decide +kernel⟩, List.mem_of_getElem? (i := 508) (by decide +kernel), List.mem_of_getElem? (i := 640) (by decide +kernel), List.mem_of_getElem? (i := 641) (by decide +kernel)⟩
theorem lw_p25 : lw_okq (⟨"TwiceHeardModel", "byBits", "(I)I"⟩, 17) := ⟨⟨by decide +kernel, by decide +kernel⟩, List.mem_of_getElem? (i := 508) (by decide +kernel), List.mem_of_getElem? (i := 647) (by decide +kernel), List.mem_of_getElem? (i := 648) (by decide +kernel)⟩
theorem lw_p26 : lw_okq (⟨"TwiceHeardModel", "layHeld", "(I)V"⟩, 17) := ⟨⟨by decide +kernel, by decide +kernel⟩, List.mem_of_getElem? (i := 508) (by decide +kernel), List.mem_of_getElem? (i := 651) (by decide +kernel), List.mem_of_getElem? (i := 652) (by decide +kernel)⟩
theorem lw_p27 : lw_okq (⟨"TwiceHeardModel", "summary", "(II)J"⟩, 17) := ⟨⟨by decide +kernel, by decide +kernel⟩, List.mem_of_getElem? (i := 508) (by decide +kernel), List.mem_of_getElem? (i := 655) (by decide +kernel), List.mem_of_getElem? (i := 656) (by decide +kernel)⟩
theorem lw_p28 : lw_okq (⟨"TwiceHeardModel", "rankOf", "(I)I"⟩, 17) := ⟨⟨by decide +kernel, by decide +kernel⟩, List.mem_of_getElem? (i := 508) (by decide +kernel), List.mem_of_getElem? (i := 660) (by decide +kernel), List.mem_of_getElem? (i := 661) (by decide +kernel)⟩
theorem lw_p29 : lw_okq (⟨"TwiceHeardModel", "markOf", "(I)I"⟩, 17) := ⟨⟨by decide +kernel, by decide +kernel⟩, List.mem_of_getElem? (i := 508) (by decide +kernel), List.mem_of_getElem? (i := 664) (by decide +kernel), List.mem_of_getElem? (i := 665) (by decide +kernel)⟩
theorem lw_p30 : lw_okq (⟨"TwiceHeardModel", "threeOfItem", "(I)J"⟩, 17) := ⟨⟨by decide +kernel, by decide +kernel⟩, List.mem_of_getElem? (i := 508) (by decide +kernel), List.mem_of_getElem? (i := 672) (by decide +kernel), List.mem_of_getElem? (i := 673) (by decide +kernel)⟩
theorem lw_p31 : lw_okq (⟨"TwiceHeardModel", "both", "(IJJ)J"⟩, 17) := ⟨⟨by decide +kernel, by decide +kernel⟩, List.mem_of_getElem? (i := 508) (by decide +kernel), List.mem_of_getElem? (i := 678) (by decide +kernel), List.mem_of_getElem? (i := 679) (by decide +kernel)⟩
def lw_privs_2 : List (MethodName × Nat) := [(⟨"TwiceHeardModel", "layLetters", "()V"⟩, 17), (⟨"TwiceHeardModel", "sendFrom", "(I)V"⟩, 17), (⟨"TwiceHeardModel", "upper", "(I)I"⟩, 17), (⟨"TwiceHeardModel", "comes", "(I)Z"⟩, 17), (⟨"TwiceHeardModel", "truth", "()I"⟩, 17), (⟨"TwiceHeardModel", "letterMany", "()I"⟩, 17), (⟨"TwiceHeardModel", "lostLetters", "()I"⟩, 17), (⟨"TwiceHeardModel", "wrongEntry", "()I"⟩, 17), (⟨"TwiceHeardModel", "isNode", "(I)Z"⟩, 17), (⟨"TwiceHeardModel", "byBits", "(I)I"⟩, 17), (⟨"TwiceHeardModel", "layHeld", "(I)V"⟩, 17), (⟨"TwiceHeardModel", "summary", "(II)J"⟩, 17), (⟨"TwiceHeardModel", "rankOf", "(I)I"⟩, 17), (⟨"TwiceHeardModel", "markOf", "(I)I"⟩, 17), (⟨"TwiceHeardModel", "threeOfItem", "(I)J"⟩, 17), (⟨"TwiceHeardModel", "both", "(IJJ)J"⟩, 17)]
theorem lw_r2 : ∀ q ∈ lw_privs_2, lw_okq q := List.forall_mem_cons.mpr ⟨lw_p16, List.forall_mem_cons.mpr ⟨lw_p17, List.forall_mem_cons.mpr ⟨lw_p18, List.forall_mem_cons.mpr ⟨lw_p19, List.forall_mem_cons.mpr ⟨lw_p20, List.forall_mem_cons.mpr ⟨lw_p21, List.forall_mem_cons.mpr ⟨lw_p22, List.forall_mem_cons.mpr ⟨lw_p23, List.forall_mem_cons.mpr ⟨lw_p24, List.forall_mem_cons.mpr ⟨lw_p25, List.forall_mem_cons.mpr ⟨lw_p26, List.forall_mem_cons.mpr ⟨lw_p27, List.forall_mem_cons.mpr ⟨lw_p28, List.forall_mem_cons.mpr ⟨lw_p29, List.forall_mem_cons.mpr ⟨lw_p30, List.forall_mem_cons.mpr ⟨lw_p31, fun _ h => absurd h List.not_mem_nil⟩⟩⟩⟩⟩⟩⟩⟩⟩⟩⟩⟩⟩⟩⟩⟩
theorem lw_p32 : lw_okq (⟨"TwiceHeardModel", "threeOf", "(JJ)J"⟩, 17) := ⟨⟨by decide +kernel, by decide +kernel⟩, List.mem_of_getElem? (i := 508) (by decide +kernel), List.mem_of_getElem? (i := 682) (by decide +kernel), List.mem_of_getElem? (i := 683) (by decide +kernel)⟩
theorem lw_p33 : lw_okq (⟨"TwiceHeardModel", "unpack", "(JI)V"⟩, 17) := ⟨⟨by decide +kernel, by decide +kernel⟩, List.mem_of_getElem? (i := 508) (by decide +kernel), List.mem_of_getElem? (i := 686) (by decide +kernel), List.mem_of_getElem? (i := 687) (by decide +kernel)⟩
theorem lw_p34 : lw_okq (⟨"TwiceHeardModel", "leastAbove", "(I)I"⟩, 17) := ⟨⟨by decide +kernel, by decide +kernel⟩, List.mem_of_getElem? (i := 508) (by decide +kernel), List.mem_of_getElem? (i := 692) (by decide +kernel), List.mem_of_getElem? (i := 693) (by decide +kernel)⟩
theorem lw_p35 : lw_okq (⟨"TwiceHeardModel", "lettersTo", "(I)I"⟩, 17) := ⟨⟨by decide +kernel, by decide +kernel⟩, List.mem_of_getElem? (i := 508) (by decide +kernel), List.mem_of_getElem? (i := 702) (by decide +kernel), List.mem_of_getElem? (i := 703) (by decide +kernel)⟩
theorem lw_p36 : lw_okq (⟨"TwiceHeardModel", "isLinked", "(II)Z"⟩, 17) := ⟨⟨by decide +kernel, by decide +kernel⟩, List.mem_of_getElem? (i := 508) (by decide +kernel), List.mem_of_getElem? (i := 710) (by decide +kernel), List.mem_of_getElem? (i := 711) (by decide +kernel)⟩
theorem lw_p37 : lw_okq (⟨"TwiceHeardModel", "byLeast", "(I)I"⟩, 17) := ⟨⟨by decide +kernel, by decide +kernel⟩, List.mem_of_getElem? (i := 508) (by decide +kernel), List.mem_of_getElem? (i := 729) (by decide +kernel), List.mem_of_getElem? (i := 730) (by decide +kernel)⟩
theorem lw_p38 : lw_okq (⟨"TwiceHeardModel", "oneMore", "()V"⟩, 17) := ⟨⟨by decide +kernel, by decide +kernel⟩, List.mem_of_getElem? (i := 508) (by decide +kernel), List.mem_of_getElem? (i := 750) (by decide +kernel), List.mem_of_getElem? (i := 751) (by decide +kernel)⟩
theorem lw_p39 : lw_okq (⟨"TwiceHeardModel", "remember", "()V"⟩, 17) := ⟨⟨by decide +kernel, by decide +kernel⟩, List.mem_of_getElem? (i := 508) (by decide +kernel), List.mem_of_getElem? (i := 763) (by decide +kernel), List.mem_of_getElem? (i := 764) (by decide +kernel)⟩
theorem lw_p40 : lw_okq (⟨"TwiceHeardModel", "copyRow", "(II)V"⟩, 17) := ⟨⟨by decide +kernel, by decide +kernel⟩, List.mem_of_getElem? (i := 508) (by decide +kernel), List.mem_of_getElem? (i := 767) (by decide +kernel), List.mem_of_getElem? (i := 768) (by decide +kernel)⟩
theorem lw_p41 : lw_okq (⟨"TwiceHeardModel", "turn", "(III)V"⟩, 17) := ⟨⟨by decide +kernel, by decide +kernel⟩, List.mem_of_getElem? (i := 508) (by decide +kernel), List.mem_of_getElem? (i := 771) (by decide +kernel), List.mem_of_getElem? (i := 772) (by decide +kernel)⟩
theorem lw_p42 : lw_okq (⟨"TwiceHeardModel", "put", "(II)I"⟩, 17) := ⟨⟨by decide +kernel, by decide +kernel⟩, List.mem_of_getElem? (i := 508) (by decide +kernel), List.mem_of_getElem? (i := 792) (by decide +kernel), List.mem_of_getElem? (i := 793) (by decide +kernel)⟩
theorem lw_p43 : lw_okq (⟨"TwiceHeardModel", "draw", "(I)I"⟩, 17) := ⟨⟨by decide +kernel, by decide +kernel⟩, List.mem_of_getElem? (i := 508) (by decide +kernel), List.mem_of_getElem? (i := 808) (by decide +kernel), List.mem_of_getElem? (i := 809) (by decide +kernel)⟩
def lw_privs_3 : List (MethodName × Nat) := [(⟨"TwiceHeardModel", "threeOf", "(JJ)J"⟩, 17), (⟨"TwiceHeardModel", "unpack", "(JI)V"⟩, 17), (⟨"TwiceHeardModel", "leastAbove", "(I)I"⟩, 17), (⟨"TwiceHeardModel", "lettersTo", "(I)I"⟩, 17), (⟨"TwiceHeardModel", "isLinked", "(II)Z"⟩, 17), (⟨"TwiceHeardModel", "byLeast", "(I)I"⟩, 17), (⟨"TwiceHeardModel", "oneMore", "()V"⟩, 17), (⟨"TwiceHeardModel", "remember", "()V"⟩, 17), (⟨"TwiceHeardModel", "copyRow", "(II)V"⟩, 17), (⟨"TwiceHeardModel", "turn", "(III)V"⟩, 17), (⟨"TwiceHeardModel", "put", "(II)I"⟩, 17), (⟨"TwiceHeardModel", "draw", "(I)I"⟩, 17)]
theorem lw_r3 : ∀ q ∈ lw_privs_3, lw_okq q := List.forall_mem_cons.mpr ⟨lw_p32, List.forall_mem_cons.mpr ⟨lw_p33, List.forall_mem_cons.mpr ⟨lw_p34, List.forall_mem_cons.mpr ⟨lw_p35, List.forall_mem_cons.mpr ⟨lw_p36, List.forall_mem_cons.mpr ⟨lw_p37, List.forall_mem_cons.mpr ⟨lw_p38, List.forall_mem_cons.mpr ⟨lw_p39, List.forall_mem_cons.mpr ⟨lw_p40, List.forall_mem_cons.mpr ⟨lw_p41, List.forall_mem_cons.mpr ⟨lw_p42, List.forall_mem_cons.mpr ⟨lw_p43, fun _ h => absurd h List.not_mem_nil⟩⟩⟩⟩⟩⟩⟩⟩⟩⟩⟩⟩
def lw_privs : List (MethodName × Nat) := lw_privs_1 ++ (lw_privs_2 ++ (lw_privs_3))
def lw_tbl : List Cond := k2_sels lw_privs ++ tables_1
theorem lw_privs_ok : ∀ q ∈ lw_privs, lw_okq q := by
  show ∀ q ∈ lw_privs_1 ++ (lw_privs_2 ++ (lw_privs_3)), lw_okq q
  exact List.forall_mem_append.mpr ⟨lw_r1, List.forall_mem_append.mpr ⟨lw_r2, lw_r3⟩⟩
-- ===== end of PART A; then your names; then what follows =====
end
section
/-! ===== BEGIN words of one list among another's, by their places ===== -/
theorem goodIn_r {big : List Cond} (ws : List Cond) (ps : List Nat) (hp : ws = ps.filterMap (fun i => big[i]?)) (h : ws.all goodWord = true) : GoodIn big ws := by
  intro w hw
  have h1 := List.all_eq_true.mp h w hw
  rw [hp] at hw
  obtain ⟨i, -, hi⟩ := List.mem_filterMap.mp hw
  have hm : w ∈ big := by first | exact List.mem_of_getElem? hi | exact List.getElem?_mem hi
  exact ⟨hm, good_of_word h1⟩
theorem goodIn_app {big a b : List Cond} (ha : GoodIn big a) (hb : GoodIn big b) : GoodIn big (a ++ b) := fun w h => (List.mem_append.mp h).elim (ha w) (hb w)
theorem goodIn_ca {big a b : List Cond} {c : Cond} (ha : GoodIn big (c :: a)) (hb : GoodIn big b) : GoodIn big (c :: (a ++ b)) := fun w h => (List.mem_cons.mp h).elim (fun e => ha w (List.mem_cons.mpr (Or.inl e))) (fun h => (List.mem_append.mp h).elim (fun h => ha w (List.mem_cons.mpr (Or.inr h))) (hb w))
theorem goodIn_sub {big ws : List Cond} (hm : ∀ w ∈ ws, w ∈ big) (h : ws.all goodWord = true) : GoodIn big ws := fun w hw => ⟨hm w hw, good_of_word (List.all_eq_true.mp h w hw)⟩
/-! ===== END ===== -/

/-! ===== BEGIN printed: names, fields, word lists, decode rows ===== -/
def RX0 : String := "TwiceHeard$Book"
def TX0 : u_T := fun k => match k with
  | 0 => ("TwiceHeard$Book", "nodes", "[I", true)
  | 1 => ("TwiceHeard$Book", "guesses", "[I", true)
  | _ => ("TwiceHeard$Book", "size", "I", false)
def tyX0 : Nat → FieldType := fun k => match k with
  | 0 => .array .int
  | 1 => .array .int
  | _ => .int
abbrev wsX00 : List Cond := u_ws RX0 TX0 3
theorem nmX0 : ∀ a, a < 3 → ∀ b, b < 3 → a ≠ b → (TX0 a).2.1 ≠ (TX0 b).2.1 := by decide +kernel
theorem tyX0_ok : ∀ k, k < 3 → parseFieldDescriptor (TX0 k).2.2.1 = some (tyX0 k) := by decide +kernel
abbrev cX0_init : ByteArray := prog_2_method_1_code
def yX0_init : MethodName := ⟨RX0, "<init>", "()V"⟩
abbrev cX0_enter : ByteArray := prog_2_method_2_code
def yX0_enter : MethodName := ⟨RX0, "enter", "(II)V"⟩
def RX1 : String := "TwiceHeard$Draws"
def TX1 : u_T := fun k => match k with
  | _ => ("TwiceHeard$Draws", "seed", "I", false)
def tyX1 : Nat → FieldType := fun k => match k with
  | _ => .int
abbrev wsX10 : List Cond := u_ws RX1 TX1 1
theorem nmX1 : ∀ a, a < 1 → ∀ b, b < 1 → a ≠ b → (TX1 a).2.1 ≠ (TX1 b).2.1 := by decide +kernel
theorem tyX1_ok : ∀ k, k < 1 → parseFieldDescriptor (TX1 k).2.2.1 = some (tyX1 k) := by decide +kernel
abbrev cX1_init : ByteArray := prog_3_method_1_code
def yX1_init : MethodName := ⟨RX1, "<init>", "()V"⟩
abbrev cX1_next : ByteArray := prog_3_method_2_code
def yX1_next : MethodName := ⟨RX1, "next", "(I)I"⟩
def RX2 : String := "TwiceHeard$Image"
def TX2 : u_T := fun k => match k with
  | 0 => ("TwiceHeard$Image", "kept", "Z", false)
  | 1 => ("TwiceHeard$Image", "seed", "I", false)
  | _ => ("TwiceHeard$Image", "net", "LTwiceHeard$Net;", true)
def tyX2 : Nat → FieldType := fun k => match k with
  | 0 => .boolean
  | 1 => .int
  | _ => .object "TwiceHeard$Net"
abbrev wsX20 : List Cond := u_ws RX2 TX2 3
theorem nmX2 : ∀ a, a < 3 → ∀ b, b < 3 → a ≠ b → (TX2 a).2.1 ≠ (TX2 b).2.1 := by decide +kernel
theorem tyX2_ok : ∀ k, k < 3 → parseFieldDescriptor (TX2 k).2.2.1 = some (tyX2 k) := by decide +kernel
abbrev cX2_init : ByteArray := prog_4_method_1_code
def yX2_init : MethodName := ⟨RX2, "<init>", "()V"⟩
def RX3 : String := "TwiceHeard$Net"
def TX3 : u_T := fun k => match k with
  | 0 => ("TwiceHeard$Net", "size", "I", false)
  | 1 => ("TwiceHeard$Net", "salt", "I", false)
  | 2 => ("TwiceHeard$Net", "mode", "I", false)
  | 3 => ("TwiceHeard$Net", "linked", "[I", true)
  | 4 => ("TwiceHeard$Net", "lost", "[I", true)
  | _ => ("TwiceHeard$Net", "heard", "[I", true)
def tyX3 : Nat → FieldType := fun k => match k with
  | 0 => .int
  | 1 => .int
  | 2 => .int
  | 3 => .array .int
  | 4 => .array .int
  | _ => .array .int
abbrev wsX30 : List Cond := u_ws RX3 TX3 6
theorem nmX3 : ∀ a, a < 6 → ∀ b, b < 6 → a ≠ b → (TX3 a).2.1 ≠ (TX3 b).2.1 := by decide +kernel
theorem tyX3_ok : ∀ k, k < 6 → parseFieldDescriptor (TX3 k).2.2.1 = some (tyX3 k) := by decide +kernel
abbrev cX3_init : ByteArray := prog_5_method_1_code
def yX3_init : MethodName := ⟨RX3, "<init>", "()V"⟩
abbrev cX3_become : ByteArray := prog_5_method_2_code
def yX3_become : MethodName := ⟨RX3, "become", "(LTwiceHeard$Net;)V"⟩
abbrev cX3_has : ByteArray := prog_5_method_3_code
def yX3_has : MethodName := ⟨RX3, "has", "(I)Z"⟩
abbrev cX3_hasLink : ByteArray := prog_5_method_4_code
def yX3_hasLink : MethodName := ⟨RX3, "hasLink", "(II)Z"⟩
abbrev cX3_hasLost : ByteArray := prog_5_method_5_code
def yX3_hasLost : MethodName := ⟨RX3, "hasLost", "(II)Z"⟩
abbrev cX3_everyone : ByteArray := prog_5_method_6_code
def yX3_everyone : MethodName := ⟨RX3, "everyone", "()I"⟩
abbrev cX3_add : ByteArray := prog_5_method_7_code
def yX3_add : MethodName := ⟨RX3, "add", "(II)V"⟩
abbrev cX3_dropLatest : ByteArray := prog_5_method_8_code
def yX3_dropLatest : MethodName := ⟨RX3, "dropLatest", "()V"⟩
abbrev cX3_turnLink : ByteArray := prog_5_method_9_code
def yX3_turnLink : MethodName := ⟨RX3, "turnLink", "(II)V"⟩
abbrev cX3_turnLost : ByteArray := prog_5_method_10_code
def yX3_turnLost : MethodName := ⟨RX3, "turnLost", "(II)V"⟩
abbrev cX3_turnItem : ByteArray := prog_5_method_11_code
def yX3_turnItem : MethodName := ⟨RX3, "turnItem", "(II)V"⟩
def RX4 : String := "TwiceHeard$Past"
def TX4 : u_T := fun k => match k with
  | 0 => ("TwiceHeard$Past", "states", "[LTwiceHeard$Net;", true)
  | 1 => ("TwiceHeard$Past", "size", "I", false)
  | _ => ("TwiceHeard$Past", "next", "I", false)
def tyX4 : Nat → FieldType := fun k => match k with
  | 0 => .array (.object "TwiceHeard$Net")
  | 1 => .int
  | _ => .int
abbrev wsX40 : List Cond := u_ws RX4 TX4 3
theorem nmX4 : ∀ a, a < 3 → ∀ b, b < 3 → a ≠ b → (TX4 a).2.1 ≠ (TX4 b).2.1 := by decide +kernel
theorem tyX4_ok : ∀ k, k < 3 → parseFieldDescriptor (TX4 k).2.2.1 = some (tyX4 k) := by decide +kernel
abbrev cX4_init : ByteArray := prog_6_method_1_code
def yX4_init : MethodName := ⟨RX4, "<init>", "()V"⟩
abbrev cX4_remember : ByteArray := prog_6_method_2_code
def yX4_remember : MethodName := ⟨RX4, "remember", "(LTwiceHeard$Net;)V"⟩
abbrev cX4_restore : ByteArray := prog_6_method_3_code
def yX4_restore : MethodName := ⟨RX4, "restore", "(LTwiceHeard$Net;I)V"⟩
abbrev cX4_forget : ByteArray := prog_6_method_4_code
def yX4_forget : MethodName := ⟨RX4, "forget", "()V"⟩
def RX5 : String := "TwiceHeard$Summary"
def TX5 : u_T := fun k => match k with
  | _ => ("", "", "", false)
def tyX5 : Nat → FieldType := fun k => match k with
  | _ => .int
abbrev wsX50 : List Cond := u_ws RX5 TX5 0
theorem nmX5 : ∀ a, a < 0 → ∀ b, b < 0 → a ≠ b → (TX5 a).2.1 ≠ (TX5 b).2.1 := by decide +kernel
theorem tyX5_ok : ∀ k, k < 0 → parseFieldDescriptor (TX5 k).2.2.1 = some (tyX5 k) := by decide +kernel
abbrev cX5_ofItems : ByteArray := prog_7_method_2_code
def yX5_ofItems : MethodName := ⟨RX5, "ofItems", "(III)J"⟩
abbrev cX5_together : ByteArray := prog_7_method_3_code
def yX5_together : MethodName := ⟨RX5, "together", "(JJI)J"⟩
abbrev cX5_withMark : ByteArray := prog_7_method_4_code
def yX5_withMark : MethodName := ⟨RX5, "withMark", "(JJ)J"⟩
abbrev cX5_first : ByteArray := prog_7_method_5_code
def yX5_first : MethodName := ⟨RX5, "first", "(J)J"⟩
abbrev cX5_second : ByteArray := prog_7_method_6_code
def yX5_second : MethodName := ⟨RX5, "second", "(J)J"⟩
abbrev cX5_third : ByteArray := prog_7_method_7_code
def yX5_third : MethodName := ⟨RX5, "third", "(J)J"⟩
abbrev cX5_guessByBits : ByteArray := prog_7_method_8_code
def yX5_guessByBits : MethodName := ⟨RX5, "guessByBits", "(J)I"⟩
abbrev cX5_guessByLeast : ByteArray := prog_7_method_9_code
def yX5_guessByLeast : MethodName := ⟨RX5, "guessByLeast", "(J)I"⟩
def RX6 : String := "TwiceHeard$Telling"
def TX6 : u_T := fun k => match k with
  | 0 => ("TwiceHeard$Telling", "ring", "[I", true)
  | 1 => ("TwiceHeard$Telling", "ringSets", "[I", true)
  | 2 => ("TwiceHeard$Telling", "greatestRing", "I", false)
  | 3 => ("TwiceHeard$Telling", "from", "[I", true)
  | 4 => ("TwiceHeard$Telling", "to", "[I", true)
  | 5 => ("TwiceHeard$Telling", "comes", "[Z", true)
  | 6 => ("TwiceHeard$Telling", "letters", "I", false)
  | 7 => ("TwiceHeard$Telling", "ways", "[I", true)
  | 8 => ("TwiceHeard$Telling", "arrivals", "[I", true)
  | _ => ("TwiceHeard$Telling", "held", "[J", true)
def tyX6 : Nat → FieldType := fun k => match k with
  | 0 => .array .int
  | 1 => .array .int
  | 2 => .int
  | 3 => .array .int
  | 4 => .array .int
  | 5 => .array .boolean
  | 6 => .int
  | 7 => .array .int
  | 8 => .array .int
  | _ => .array .long
abbrev wsX60 : List Cond := u_ws RX6 TX6 10
theorem nmX6 : ∀ a, a < 10 → ∀ b, b < 10 → a ≠ b → (TX6 a).2.1 ≠ (TX6 b).2.1 := by decide +kernel
theorem tyX6_ok : ∀ k, k < 10 → parseFieldDescriptor (TX6 k).2.2.1 = some (tyX6 k) := by decide +kernel
abbrev cX6_init : ByteArray := prog_8_method_1_code
def yX6_init : MethodName := ⟨RX6, "<init>", "()V"⟩
abbrev cX6_trace : ByteArray := prog_8_method_2_code
def yX6_trace : MethodName := ⟨RX6, "trace", "(LTwiceHeard$Net;)V"⟩
abbrev cX6_layRings : ByteArray := prog_8_method_3_code
def yX6_layRings : MethodName := ⟨RX6, "layRings", "(LTwiceHeard$Net;)V"⟩
abbrev cX6_settle : ByteArray := prog_8_method_4_code
def yX6_settle : MethodName := ⟨RX6, "settle", "(LTwiceHeard$Net;II)I"⟩
abbrev cX6_uppers : ByteArray := prog_8_method_5_code
def yX6_uppers : MethodName := ⟨RX6, "uppers", "(LTwiceHeard$Net;I)I"⟩
abbrev cX6_writeLetters : ByteArray := prog_8_method_6_code
def yX6_writeLetters : MethodName := ⟨RX6, "writeLetters", "(LTwiceHeard$Net;)V"⟩
abbrev cX6_writeFrom : ByteArray := prog_8_method_7_code
def yX6_writeFrom : MethodName := ⟨RX6, "writeFrom", "(LTwiceHeard$Net;I)V"⟩
abbrev cX6_countWays : ByteArray := prog_8_method_8_code
def yX6_countWays : MethodName := ⟨RX6, "countWays", "()V"⟩
abbrev cX6_gather : ByteArray := prog_8_method_9_code
def yX6_gather : MethodName := ⟨RX6, "gather", "(LTwiceHeard$Net;I)V"⟩
abbrev cX6_comers : ByteArray := prog_8_method_10_code
def yX6_comers : MethodName := ⟨RX6, "comers", "()I"⟩
abbrev cX6_allArrivals : ByteArray := prog_8_method_11_code
def yX6_allArrivals : MethodName := ⟨RX6, "allArrivals", "()I"⟩
abbrev cX6_trueCount : ByteArray := prog_8_method_12_code
def yX6_trueCount : MethodName := ⟨RX6, "trueCount", "(LTwiceHeard$Net;)I"⟩
def RX7 : String := "TwiceHeard"
def TX7 : u_T := fun k => match k with
  | 0 => ("TwiceHeard", "net", "LTwiceHeard$Net;", true)
  | 1 => ("TwiceHeard", "past", "LTwiceHeard$Past;", true)
  | 2 => ("TwiceHeard", "telling", "LTwiceHeard$Telling;", true)
  | 3 => ("TwiceHeard", "book", "LTwiceHeard$Book;", true)
  | 4 => ("TwiceHeard", "draws", "LTwiceHeard$Draws;", true)
  | 5 => ("TwiceHeard", "images", "[LTwiceHeard$Image;", true)
  | _ => ("TwiceHeard", "rowCounts", "[J", true)
def tyX7 : Nat → FieldType := fun k => match k with
  | 0 => .object "TwiceHeard$Net"
  | 1 => .object "TwiceHeard$Past"
  | 2 => .object "TwiceHeard$Telling"
  | 3 => .object "TwiceHeard$Book"
  | 4 => .object "TwiceHeard$Draws"
  | 5 => .array (.object "TwiceHeard$Image")
  | _ => .array .long
abbrev wsX70 : List Cond := u_ws RX7 TX7 7
theorem nmX7 : ∀ a, a < 7 → ∀ b, b < 7 → a ≠ b → (TX7 a).2.1 ≠ (TX7 b).2.1 := by decide +kernel
theorem tyX7_ok : ∀ k, k < 7 → parseFieldDescriptor (TX7 k).2.2.1 = some (tyX7 k) := by decide +kernel
abbrev cX7_init : ByteArray := prog_1_method_1_code
def yX7_init : MethodName := ⟨RX7, "<init>", "()V"⟩
abbrev cX7_told : ByteArray := prog_1_method_2_code
def yX7_told : MethodName := ⟨RX7, "told", "(I)I"⟩
abbrev cX7_at : ByteArray := prog_1_method_3_code
def yX7_at : MethodName := ⟨RX7, "at", "(II)I"⟩
abbrev cX7_isLost : ByteArray := prog_1_method_4_code
def yX7_isLost : MethodName := ⟨RX7, "isLost", "(II)I"⟩
abbrev cX7_mark : ByteArray := prog_1_method_5_code
def yX7_mark : MethodName := ⟨RX7, "mark", "(II)I"⟩
abbrev cX7_holds : ByteArray := prog_1_method_6_code
def yX7_holds : MethodName := ⟨RX7, "holds", "(II)J"⟩
abbrev cX7_guess : ByteArray := prog_1_method_7_code
def yX7_guess : MethodName := ⟨RX7, "guess", "(II)I"⟩
abbrev cX7_off : ByteArray := prog_1_method_8_code
def yX7_off : MethodName := ⟨RX7, "off", "(I)I"⟩
abbrev cX7_letter : ByteArray := prog_1_method_9_code
def yX7_letter : MethodName := ⟨RX7, "letter", "(II)I"⟩
abbrev cX7_sent : ByteArray := prog_1_method_10_code
def yX7_sent : MethodName := ⟨RX7, "sent", "(II)J"⟩
abbrev cX7_rows : ByteArray := prog_1_method_11_code
def yX7_rows : MethodName := ⟨RX7, "rows", "(II)J"⟩
abbrev cX7_node : ByteArray := prog_1_method_12_code
def yX7_node : MethodName := ⟨RX7, "node", "(II)I"⟩
abbrev cX7_take : ByteArray := prog_1_method_13_code
def yX7_take : MethodName := ⟨RX7, "take", "()I"⟩
abbrev cX7_link : ByteArray := prog_1_method_14_code
def yX7_link : MethodName := ⟨RX7, "link", "(II)I"⟩
abbrev cX7_lose : ByteArray := prog_1_method_15_code
def yX7_lose : MethodName := ⟨RX7, "lose", "(II)I"⟩
abbrev cX7_hear : ByteArray := prog_1_method_16_code
def yX7_hear : MethodName := ⟨RX7, "hear", "(II)I"⟩
abbrev cX7_salt : ByteArray := prog_1_method_17_code
def yX7_salt : MethodName := ⟨RX7, "salt", "(I)I"⟩
abbrev cX7_mode : ByteArray := prog_1_method_18_code
def yX7_mode : MethodName := ⟨RX7, "mode", "(I)I"⟩
abbrev cX7_drift : ByteArray := prog_1_method_19_code
def yX7_drift : MethodName := ⟨RX7, "drift", "(I)I"⟩
abbrev cX7_undo : ByteArray := prog_1_method_20_code
def yX7_undo : MethodName := ⟨RX7, "undo", "(I)I"⟩
abbrev cX7_write : ByteArray := prog_1_method_21_code
def yX7_write : MethodName := ⟨RX7, "write", "(II)I"⟩
abbrev cX7_tear : ByteArray := prog_1_method_22_code
def yX7_tear : MethodName := ⟨RX7, "tear", "()I"⟩
abbrev cX7_seed : ByteArray := prog_1_method_23_code
def yX7_seed : MethodName := ⟨RX7, "seed", "(I)I"⟩
abbrev cX7_keep : ByteArray := prog_1_method_24_code
def yX7_keep : MethodName := ⟨RX7, "keep", "(I)I"⟩
abbrev cX7_goBack : ByteArray := prog_1_method_25_code
def yX7_goBack : MethodName := ⟨RX7, "goBack", "(I)I"⟩
abbrev cX7_within : ByteArray := prog_1_method_26_code
def yX7_within : MethodName := ⟨RX7, "within", "(III)Z"⟩
abbrev cX7_isIn : ByteArray := prog_1_method_27_code
def yX7_isIn : MethodName := ⟨RX7, "isIn", "(II)Z"⟩
abbrev cX7_pairsIn : ByteArray := prog_1_method_28_code
def yX7_pairsIn : MethodName := ⟨RX7, "pairsIn", "([I)I"⟩
abbrev cX7_markOf : ByteArray := prog_1_method_29_code
def yX7_markOf : MethodName := ⟨RX7, "markOf", "(II)I"⟩
abbrev cX7_rankOf : ByteArray := prog_1_method_30_code
def yX7_rankOf : MethodName := ⟨RX7, "rankOf", "(I)I"⟩
abbrev cX7_guessOf : ByteArray := prog_1_method_31_code
def yX7_guessOf : MethodName := ⟨RX7, "guessOf", "(II)I"⟩
abbrev cX7_firstWrong : ByteArray := prog_1_method_32_code
def yX7_firstWrong : MethodName := ⟨RX7, "firstWrong", "()I"⟩
abbrev cX7_waysOfRank : ByteArray := prog_1_method_33_code
def yX7_waysOfRank : MethodName := ⟨RX7, "waysOfRank", "(I)J"⟩
abbrev cX7_waysAboveRank : ByteArray := prog_1_method_34_code
def yX7_waysAboveRank : MethodName := ⟨RX7, "waysAboveRank", "(I)J"⟩
abbrev cX7_rowsJoined : ByteArray := prog_1_method_35_code
def yX7_rowsJoined : MethodName := ⟨RX7, "rowsJoined", "(IIJ)J"⟩
def RX8 : String := "TwiceHeardModel"
def TX8 : u_T := fun k => match k with
  | 0 => ("TwiceHeardModel", "w", "[I", true)
  | 1 => ("TwiceHeardModel", "known", "I", false)
  | 2 => ("TwiceHeardModel", "kept", "I", false)
  | 3 => ("TwiceHeardModel", "seed", "I", false)
  | 4 => ("TwiceHeardModel", "keptSeed", "[I", true)
  | 5 => ("TwiceHeardModel", "bookOf", "[I", true)
  | 6 => ("TwiceHeardModel", "bookIs", "[I", true)
  | 7 => ("TwiceHeardModel", "booked", "I", false)
  | 8 => ("TwiceHeardModel", "ring", "[I", true)
  | 9 => ("TwiceHeardModel", "from", "[I", true)
  | 10 => ("TwiceHeardModel", "to", "[I", true)
  | 11 => ("TwiceHeardModel", "letters", "I", false)
  | 12 => ("TwiceHeardModel", "ways", "[I", true)
  | 13 => ("TwiceHeardModel", "held", "[J", true)
  | 14 => ("TwiceHeardModel", "six", "[I", true)
  | 15 => ("TwiceHeardModel", "by", "[J", true)
  | _ => ("TwiceHeardModel", "more", "[J", true)
def tyX8 : Nat → FieldType := fun k => match k with
  | 0 => .array .int
  | 1 => .int
  | 2 => .int
  | 3 => .int
  | 4 => .array .int
  | 5 => .array .int
  | 6 => .array .int
  | 7 => .int
  | 8 => .array .int
  | 9 => .array .int
  | 10 => .array .int
  | 11 => .int
  | 12 => .array .int
  | 13 => .array .long
  | 14 => .array .int
  | 15 => .array .long
  | _ => .array .long
abbrev wsX80 : List Cond := u_ws RX8 TX8 17
theorem nmX8 : ∀ a, a < 17 → ∀ b, b < 17 → a ≠ b → (TX8 a).2.1 ≠ (TX8 b).2.1 := by decide +kernel
theorem tyX8_ok : ∀ k, k < 17 → parseFieldDescriptor (TX8 k).2.2.1 = some (tyX8 k) := by decide +kernel
abbrev cX8_init : ByteArray := prog_10_method_1_code
def yX8_init : MethodName := ⟨RX8, "<init>", "()V"⟩
abbrev cX8_in : ByteArray := prog_10_method_2_code
def yX8_in : MethodName := ⟨RX8, "in", "(III)Z"⟩
abbrev cX8_has : ByteArray := prog_10_method_3_code
def yX8_has : MethodName := ⟨RX8, "has", "(II)Z"⟩
abbrev cX8_copyRow : ByteArray := prog_10_method_4_code
def yX8_copyRow : MethodName := ⟨RX8, "copyRow", "(II)V"⟩
abbrev cX8_isNode : ByteArray := prog_10_method_5_code
def yX8_isNode : MethodName := ⟨RX8, "isNode", "(I)Z"⟩
abbrev cX8_isLinked : ByteArray := prog_10_method_6_code
def yX8_isLinked : MethodName := ⟨RX8, "isLinked", "(II)Z"⟩
abbrev cX8_ones : ByteArray := prog_10_method_7_code
def yX8_ones : MethodName := ⟨RX8, "ones", "(I)I"⟩
abbrev cX8_markOf : ByteArray := prog_10_method_8_code
def yX8_markOf : MethodName := ⟨RX8, "markOf", "(I)I"⟩
abbrev cX8_rankOf : ByteArray := prog_10_method_9_code
def yX8_rankOf : MethodName := ⟨RX8, "rankOf", "(I)I"⟩
abbrev cX8_spread : ByteArray := prog_10_method_10_code
def yX8_spread : MethodName := ⟨RX8, "spread", "(I)Z"⟩
abbrev cX8_layRings : ByteArray := prog_10_method_11_code
def yX8_layRings : MethodName := ⟨RX8, "layRings", "()V"⟩
abbrev cX8_upper : ByteArray := prog_10_method_12_code
def yX8_upper : MethodName := ⟨RX8, "upper", "(I)I"⟩
abbrev cX8_greatestRing : ByteArray := prog_10_method_13_code
def yX8_greatestRing : MethodName := ⟨RX8, "greatestRing", "()I"⟩
abbrev cX8_sendFrom : ByteArray := prog_10_method_14_code
def yX8_sendFrom : MethodName := ⟨RX8, "sendFrom", "(I)V"⟩
abbrev cX8_layLetters : ByteArray := prog_10_method_15_code
def yX8_layLetters : MethodName := ⟨RX8, "layLetters", "()V"⟩
abbrev cX8_comes : ByteArray := prog_10_method_16_code
def yX8_comes : MethodName := ⟨RX8, "comes", "(I)Z"⟩
abbrev cX8_lostLetters : ByteArray := prog_10_method_17_code
def yX8_lostLetters : MethodName := ⟨RX8, "lostLetters", "()I"⟩
abbrev cX8_lettersTo : ByteArray := prog_10_method_18_code
def yX8_lettersTo : MethodName := ⟨RX8, "lettersTo", "(I)I"⟩
abbrev cX8_layWays : ByteArray := prog_10_method_19_code
def yX8_layWays : MethodName := ⟨RX8, "layWays", "()V"⟩
abbrev cX8_comesSet : ByteArray := prog_10_method_20_code
def yX8_comesSet : MethodName := ⟨RX8, "comesSet", "()I"⟩
abbrev cX8_unpack : ByteArray := prog_10_method_21_code
def yX8_unpack : MethodName := ⟨RX8, "unpack", "(JI)V"⟩
abbrev cX8_leastAbove : ByteArray := prog_10_method_22_code
def yX8_leastAbove : MethodName := ⟨RX8, "leastAbove", "(I)I"⟩
abbrev cX8_threeOf : ByteArray := prog_10_method_23_code
def yX8_threeOf : MethodName := ⟨RX8, "threeOf", "(JJ)J"⟩
abbrev cX8_threeOfItem : ByteArray := prog_10_method_24_code
def yX8_threeOfItem : MethodName := ⟨RX8, "threeOfItem", "(I)J"⟩
abbrev cX8_both : ByteArray := prog_10_method_25_code
def yX8_both : MethodName := ⟨RX8, "both", "(IJJ)J"⟩
abbrev cX8_summary : ByteArray := prog_10_method_26_code
def yX8_summary : MethodName := ⟨RX8, "summary", "(II)J"⟩
abbrev cX8_layHeld : ByteArray := prog_10_method_27_code
def yX8_layHeld : MethodName := ⟨RX8, "layHeld", "(I)V"⟩
abbrev cX8_byBits : ByteArray := prog_10_method_28_code
def yX8_byBits : MethodName := ⟨RX8, "byBits", "(I)I"⟩
abbrev cX8_byLeast : ByteArray := prog_10_method_29_code
def yX8_byLeast : MethodName := ⟨RX8, "byLeast", "(I)I"⟩
abbrev cX8_truth : ByteArray := prog_10_method_30_code
def yX8_truth : MethodName := ⟨RX8, "truth", "()I"⟩
abbrev cX8_links : ByteArray := prog_10_method_31_code
def yX8_links : MethodName := ⟨RX8, "links", "()I"⟩
abbrev cX8_lostLinks : ByteArray := prog_10_method_32_code
def yX8_lostLinks : MethodName := ⟨RX8, "lostLinks", "()I"⟩
abbrev cX8_wrongEntry : ByteArray := prog_10_method_33_code
def yX8_wrongEntry : MethodName := ⟨RX8, "wrongEntry", "()I"⟩
abbrev cX8_outermost : ByteArray := prog_10_method_34_code
def yX8_outermost : MethodName := ⟨RX8, "outermost", "()I"⟩
abbrev cX8_letterMany : ByteArray := prog_10_method_35_code
def yX8_letterMany : MethodName := ⟨RX8, "letterMany", "()I"⟩
abbrev cX8_told : ByteArray := prog_10_method_36_code
def yX8_told : MethodName := ⟨RX8, "told", "(I)I"⟩
abbrev cX8_at : ByteArray := prog_10_method_37_code
def yX8_at : MethodName := ⟨RX8, "at", "(II)I"⟩
abbrev cX8_isLost : ByteArray := prog_10_method_38_code
def yX8_isLost : MethodName := ⟨RX8, "isLost", "(II)I"⟩
abbrev cX8_mark : ByteArray := prog_10_method_39_code
def yX8_mark : MethodName := ⟨RX8, "mark", "(II)I"⟩
abbrev cX8_holds : ByteArray := prog_10_method_40_code
def yX8_holds : MethodName := ⟨RX8, "holds", "(II)J"⟩
abbrev cX8_guess : ByteArray := prog_10_method_41_code
def yX8_guess : MethodName := ⟨RX8, "guess", "(II)I"⟩
abbrev cX8_off : ByteArray := prog_10_method_42_code
def yX8_off : MethodName := ⟨RX8, "off", "(I)I"⟩
abbrev cX8_letter : ByteArray := prog_10_method_43_code
def yX8_letter : MethodName := ⟨RX8, "letter", "(II)I"⟩
abbrev cX8_sent : ByteArray := prog_10_method_44_code
def yX8_sent : MethodName := ⟨RX8, "sent", "(II)J"⟩
abbrev cX8_oneMore : ByteArray := prog_10_method_45_code
def yX8_oneMore : MethodName := ⟨RX8, "oneMore", "()V"⟩
abbrev cX8_leastNot : ByteArray := prog_10_method_46_code
def yX8_leastNot : MethodName := ⟨RX8, "leastNot", "(I)I"⟩
abbrev cX8_rows : ByteArray := prog_10_method_47_code
def yX8_rows : MethodName := ⟨RX8, "rows", "(II)J"⟩
abbrev cX8_remember : ByteArray := prog_10_method_48_code
def yX8_remember : MethodName := ⟨RX8, "remember", "()V"⟩
abbrev cX8_put : ByteArray := prog_10_method_49_code
def yX8_put : MethodName := ⟨RX8, "put", "(II)I"⟩
abbrev cX8_turn : ByteArray := prog_10_method_50_code
def yX8_turn : MethodName := ⟨RX8, "turn", "(III)V"⟩
abbrev cX8_node : ByteArray := prog_10_method_51_code
def yX8_node : MethodName := ⟨RX8, "node", "(II)I"⟩
abbrev cX8_take : ByteArray := prog_10_method_52_code
def yX8_take : MethodName := ⟨RX8, "take", "()I"⟩
abbrev cX8_link : ByteArray := prog_10_method_53_code
def yX8_link : MethodName := ⟨RX8, "link", "(II)I"⟩
abbrev cX8_lose : ByteArray := prog_10_method_54_code
def yX8_lose : MethodName := ⟨RX8, "lose", "(II)I"⟩
abbrev cX8_hear : ByteArray := prog_10_method_55_code
def yX8_hear : MethodName := ⟨RX8, "hear", "(II)I"⟩
abbrev cX8_salt : ByteArray := prog_10_method_56_code
def yX8_salt : MethodName := ⟨RX8, "salt", "(I)I"⟩
abbrev cX8_mode : ByteArray := prog_10_method_57_code
def yX8_mode : MethodName := ⟨RX8, "mode", "(I)I"⟩
abbrev cX8_draw : ByteArray := prog_10_method_58_code
def yX8_draw : MethodName := ⟨RX8, "draw", "(I)I"⟩
abbrev cX8_drift : ByteArray := prog_10_method_59_code
def yX8_drift : MethodName := ⟨RX8, "drift", "(I)I"⟩
abbrev cX8_undo : ByteArray := prog_10_method_60_code
def yX8_undo : MethodName := ⟨RX8, "undo", "(I)I"⟩
abbrev cX8_write : ByteArray := prog_10_method_61_code
def yX8_write : MethodName := ⟨RX8, "write", "(II)I"⟩
abbrev cX8_tear : ByteArray := prog_10_method_62_code
def yX8_tear : MethodName := ⟨RX8, "tear", "()I"⟩
abbrev cX8_seed : ByteArray := prog_10_method_63_code
def yX8_seed : MethodName := ⟨RX8, "seed", "(I)I"⟩
abbrev cX8_keep : ByteArray := prog_10_method_64_code
def yX8_keep : MethodName := ⟨RX8, "keep", "(I)I"⟩
abbrev cX8_goBack : ByteArray := prog_10_method_65_code
def yX8_goBack : MethodName := ⟨RX8, "goBack", "(I)I"⟩
def RJ6 : String := "java/lang/Integer"
def TJ6 : u_T := fun k => match k with
  | _ => ("", "", "", false)
def tyJ6 : Nat → FieldType := fun k => match k with
  | _ => .int
abbrev wsJ60 : List Cond := u_ws RJ6 TJ6 0
theorem nmJ6 : ∀ a, a < 0 → ∀ b, b < 0 → a ≠ b → (TJ6 a).2.1 ≠ (TJ6 b).2.1 := by decide +kernel
theorem tyJ6_ok : ∀ k, k < 0 → parseFieldDescriptor (TJ6 k).2.2.1 = some (tyJ6 k) := by decide +kernel
abbrev cJ6_bitCount_0f7a4 : ByteArray := prog_11_method_49_code
def yJ6_bitCount_0f7a4 : MethodName := ⟨RJ6, "bitCount", "(I)I"⟩
def RJ9 : String := "java/lang/Math"
def TJ9 : u_T := fun k => match k with
  | _ => ("", "", "", false)
def tyJ9 : Nat → FieldType := fun k => match k with
  | _ => .int
abbrev wsJ90 : List Cond := u_ws RJ9 TJ9 0
theorem nmJ9 : ∀ a, a < 0 → ∀ b, b < 0 → a ≠ b → (TJ9 a).2.1 ≠ (TJ9 b).2.1 := by decide +kernel
theorem tyJ9_ok : ∀ k, k < 0 → parseFieldDescriptor (TJ9 k).2.2.1 = some (tyJ9 k) := by decide +kernel
abbrev cJ9_min_7cf53 : ByteArray := prog_12_method_69_code
def yJ9_min_7cf53 : MethodName := ⟨RJ9, "min", "(II)I"⟩
def RJ10 : String := "java/lang/System"
def TJ10 : u_T := fun k => match k with
  | _ => ("", "", "", false)
def tyJ10 : Nat → FieldType := fun k => match k with
  | _ => .int
abbrev wsJ100 : List Cond := u_ws RJ10 TJ10 0
theorem nmJ10 : ∀ a, a < 0 → ∀ b, b < 0 → a ≠ b → (TJ10 a).2.1 ≠ (TJ10 b).2.1 := by decide +kernel
theorem tyJ10_ok : ∀ k, k < 0 → parseFieldDescriptor (TJ10 k).2.2.1 = some (tyJ10 k) := by decide +kernel
def RJ7 : String := "java/util/Arrays"
def TJ7 : u_T := fun k => match k with
  | _ => ("", "", "", false)
def tyJ7 : Nat → FieldType := fun k => match k with
  | _ => .int
abbrev wsJ70 : List Cond := u_ws RJ7 TJ7 0
theorem nmJ7 : ∀ a, a < 0 → ∀ b, b < 0 → a ≠ b → (TJ7 a).2.1 ≠ (TJ7 b).2.1 := by decide +kernel
theorem tyJ7_ok : ∀ k, k < 0 → parseFieldDescriptor (TJ7 k).2.2.1 = some (tyJ7 k) := by decide +kernel
abbrev cJ7_fill_d0a16 : ByteArray := prog_14_method_101_code
def yJ7_fill_d0a16 : MethodName := ⟨RJ7, "fill", "([JJ)V"⟩
abbrev cJ7_fill_53178 : ByteArray := prog_14_method_103_code
def yJ7_fill_53178 : MethodName := ⟨RJ7, "fill", "([II)V"⟩
def RL : String := "TwiceHeardLaw"
abbrev cL_law : ByteArray := code
def yL_law : MethodName := ⟨RL, "law", "([I)Z"⟩
def wsX0_init : List Cond := .code yX0_init cX0_init 1 none :: ([.methodLink RX0 3 objectInit, .instanceMethod objectInit, .code objectInit ⟨#[0xb1]⟩ 1 none, .arrayClass .int, .fieldLink RX0 9 "TwiceHeard$Book" "nodes" "[I", .fieldLink RX0 15 "TwiceHeard$Book" "guesses" "[I"] ++ wsX00)
def wsX0_enter : List Cond := .code yX0_enter cX0_enter 3 none :: ([.fieldLink RX0 18 "TwiceHeard$Book" "size" "I", .fieldLink RX0 9 "TwiceHeard$Book" "nodes" "[I", .fieldLink RX0 15 "TwiceHeard$Book" "guesses" "[I"] ++ wsX00)
def wsX1_init : List Cond := .code yX1_init cX1_init 1 none :: ([.methodLink RX1 1 objectInit, .instanceMethod objectInit, .code objectInit ⟨#[0xb1]⟩ 1 none])
def wsX1_next : List Cond := .code yX1_next cX1_next 2 (some .int) :: ([.fieldLink RX1 7 "TwiceHeard$Draws" "seed" "I", .constantLong RX1 13 (1103515245), .constantLong RX1 15 (12345), .constantLong RX1 17 (2147483648), .constant RX1 19 (65536)] ++ wsX10)
def wsX3_init : List Cond := .code yX3_init cX3_init 1 none :: ([.methodLink RX3 3 objectInit, .instanceMethod objectInit, .code objectInit ⟨#[0xb1]⟩ 1 none, .fieldLink RX3 9 "TwiceHeard$Net" "size" "I", .arrayClass .int, .fieldLink RX3 15 "TwiceHeard$Net" "linked" "[I", .fieldLink RX3 19 "TwiceHeard$Net" "lost" "[I", .fieldLink RX3 22 "TwiceHeard$Net" "heard" "[I"] ++ wsX30)
def wsX2_init : List Cond := .code yX2_init cX2_init 1 none :: ([.methodLink RX2 1 objectInit, .instanceMethod objectInit, .code objectInit ⟨#[0xb1]⟩ 1 none, .classLink RX2 7 RX3, .instantiable RX3 6, .initialized RX3, .fieldLink RX2 10 "TwiceHeard$Image" "net" "LTwiceHeard$Net;", .methodLink RX2 9 yX3_init, .instanceMethod yX3_init, .code yX3_init cX3_init 1 none, .methodLink RX3 3 objectInit, .fieldLink RX3 9 "TwiceHeard$Net" "size" "I", .arrayClass .int, .fieldLink RX3 15 "TwiceHeard$Net" "linked" "[I", .fieldLink RX3 19 "TwiceHeard$Net" "lost" "[I", .fieldLink RX3 22 "TwiceHeard$Net" "heard" "[I"] ++ wsX30 ++ wsX20)
def wsX3_become : List Cond := .code yX3_become cX3_become 2 none :: ([.fieldLink RX3 9 "TwiceHeard$Net" "size" "I", .fieldLink RX3 25 "TwiceHeard$Net" "salt" "I", .fieldLink RX3 28 "TwiceHeard$Net" "mode" "I", .fieldLink RX3 15 "TwiceHeard$Net" "linked" "[I", .methodLink RX3 31 arraycopyName, .native arraycopyName, .static arraycopyName, .initialized "java/lang/System", .fieldLink RX3 19 "TwiceHeard$Net" "lost" "[I", .fieldLink RX3 22 "TwiceHeard$Net" "heard" "[I"] ++ wsX30)
def wsX3_has : List Cond := .code yX3_has cX3_has 2 (some .boolean) :: ([.fieldLink RX3 9 "TwiceHeard$Net" "size" "I"] ++ wsX30)
def wsX7_isIn : List Cond := .code yX7_isIn cX7_isIn 2 (some .boolean) :: ([])
def wsX3_hasLink : List Cond := .code yX3_hasLink cX3_hasLink 3 (some .boolean) :: ([.fieldLink RX3 15 "TwiceHeard$Net" "linked" "[I", .methodLink RX3 37 yX3_has, .instanceMethod yX3_has, .selects RX3 yX3_has yX3_has, .initialized RX3, .code yX3_has cX3_has 2 (some .boolean), .fieldLink RX3 9 "TwiceHeard$Net" "size" "I", .static yX7_isIn, .initialized RX7, .code yX7_isIn cX7_isIn 2 (some .boolean)] ++ wsX30)
def wsX3_hasLost : List Cond := .code yX3_hasLost cX3_hasLost 3 (some .boolean) :: ([.fieldLink RX3 19 "TwiceHeard$Net" "lost" "[I", .methodLink RX3 37 yX3_has, .instanceMethod yX3_has, .selects RX3 yX3_has yX3_has, .initialized RX3, .code yX3_has cX3_has 2 (some .boolean), .fieldLink RX3 9 "TwiceHeard$Net" "size" "I", .static yX7_isIn, .initialized RX7, .code yX7_isIn cX7_isIn 2 (some .boolean)] ++ wsX30)
def wsX3_everyone : List Cond := .code yX3_everyone cX3_everyone 1 (some .int) :: ([.fieldLink RX3 9 "TwiceHeard$Net" "size" "I"] ++ wsX30)
def wsX3_add : List Cond := .code yX3_add cX3_add 5 none :: ([.fieldLink RX3 9 "TwiceHeard$Net" "size" "I", .fieldLink RX3 15 "TwiceHeard$Net" "linked" "[I", .fieldLink RX3 19 "TwiceHeard$Net" "lost" "[I", .fieldLink RX3 22 "TwiceHeard$Net" "heard" "[I", .static yX7_isIn, .initialized RX7, .code yX7_isIn cX7_isIn 2 (some .boolean)] ++ wsX30)
def wsX3_dropLatest : List Cond := .code yX3_dropLatest cX3_dropLatest 3 none :: ([.fieldLink RX3 9 "TwiceHeard$Net" "size" "I", .fieldLink RX3 15 "TwiceHeard$Net" "linked" "[I", .fieldLink RX3 19 "TwiceHeard$Net" "lost" "[I", .fieldLink RX3 22 "TwiceHeard$Net" "heard" "[I", .methodLink RX3 45 yX3_everyone, .instanceMethod yX3_everyone, .selects RX3 yX3_everyone yX3_everyone, .initialized RX3, .code yX3_everyone cX3_everyone 1 (some .int)] ++ wsX30)
def wsX3_turnLink : List Cond := .code yX3_turnLink cX3_turnLink 3 none :: ([.fieldLink RX3 15 "TwiceHeard$Net" "linked" "[I", .fieldLink RX3 19 "TwiceHeard$Net" "lost" "[I"] ++ wsX30)
def wsX3_turnLost : List Cond := .code yX3_turnLost cX3_turnLost 3 none :: ([.fieldLink RX3 19 "TwiceHeard$Net" "lost" "[I"] ++ wsX30)
def wsX3_turnItem : List Cond := .code yX3_turnItem cX3_turnItem 3 none :: ([.fieldLink RX3 22 "TwiceHeard$Net" "heard" "[I"] ++ wsX30)
def wsX4_init : List Cond := .code yX4_init cX4_init 2 none :: ([.methodLink RX4 3 objectInit, .instanceMethod objectInit, .code objectInit ⟨#[0xb1]⟩ 1 none, .classLink RX4 9 RX3, .fieldLink RX4 11 "TwiceHeard$Past" "states" "[LTwiceHeard$Net;", .instantiable RX3 6, .initialized RX3, .methodLink RX4 17 yX3_init, .instanceMethod yX3_init, .code yX3_init cX3_init 1 none, .methodLink RX3 3 objectInit, .fieldLink RX3 9 "TwiceHeard$Net" "size" "I", .arrayClass .int, .fieldLink RX3 15 "TwiceHeard$Net" "linked" "[I", .fieldLink RX3 19 "TwiceHeard$Net" "lost" "[I", .fieldLink RX3 22 "TwiceHeard$Net" "heard" "[I"] ++ wsX40 ++ wsX30)
def wsX4_remember : List Cond := .code yX4_remember cX4_remember 2 none :: ([.fieldLink RX4 11 "TwiceHeard$Past" "states" "[LTwiceHeard$Net;", .fieldLink RX4 18 "TwiceHeard$Past" "next" "I", .fieldLink RX4 26 "TwiceHeard$Past" "size" "I", .methodLink RX4 29 Lib.Math.min.name, .static Lib.Math.min.name, .initialized "java/lang/Math", .code Lib.Math.min.name Lib.Math.min.code 2 (some .int), .methodLink RX4 22 yX3_become, .instanceMethod yX3_become, .selects RX3 yX3_become yX3_become, .initialized RX3, .code yX3_become cX3_become 2 none, .fieldLink RX3 9 "TwiceHeard$Net" "size" "I", .fieldLink RX3 25 "TwiceHeard$Net" "salt" "I", .fieldLink RX3 28 "TwiceHeard$Net" "mode" "I", .fieldLink RX3 15 "TwiceHeard$Net" "linked" "[I", .methodLink RX3 31 arraycopyName, .native arraycopyName, .static arraycopyName, .initialized "java/lang/System", .fieldLink RX3 19 "TwiceHeard$Net" "lost" "[I", .fieldLink RX3 22 "TwiceHeard$Net" "heard" "[I"] ++ wsX40 ++ wsX30)
def wsX4_restore : List Cond := .code yX4_restore cX4_restore 3 none :: ([.fieldLink RX4 26 "TwiceHeard$Past" "size" "I", .fieldLink RX4 18 "TwiceHeard$Past" "next" "I", .fieldLink RX4 11 "TwiceHeard$Past" "states" "[LTwiceHeard$Net;", .methodLink RX4 22 yX3_become, .instanceMethod yX3_become, .selects RX3 yX3_become yX3_become, .initialized RX3, .code yX3_become cX3_become 2 none, .fieldLink RX3 9 "TwiceHeard$Net" "size" "I", .fieldLink RX3 25 "TwiceHeard$Net" "salt" "I", .fieldLink RX3 28 "TwiceHeard$Net" "mode" "I", .fieldLink RX3 15 "TwiceHeard$Net" "linked" "[I", .methodLink RX3 31 arraycopyName, .native arraycopyName, .static arraycopyName, .initialized "java/lang/System", .fieldLink RX3 19 "TwiceHeard$Net" "lost" "[I", .fieldLink RX3 22 "TwiceHeard$Net" "heard" "[I"] ++ wsX40 ++ wsX30)
def wsX4_forget : List Cond := .code yX4_forget cX4_forget 1 none :: ([.fieldLink RX4 26 "TwiceHeard$Past" "size" "I"] ++ wsX40)
def wsJ6_bitCount_0f7a4 : List Cond := .code yJ6_bitCount_0f7a4 cJ6_bitCount_0f7a4 1 (some .int) :: ([.constant RJ6 265 (1431655765), .constant RJ6 266 (858993459), .constant RJ6 267 (252645135)])
def wsX7_markOf : List Cond := .code yX7_markOf cX7_markOf 4 (some .int) :: ([.constantLong RX7 239 (2), .constantLong RX7 241 (40503), .constantLong RX7 243 (65536), .constantLong RX7 245 (64)])
def wsX5_first : List Cond := .code yX5_first cX5_first 2 (some .long) :: ([.constantLong RX5 44 (2000)])
def wsX5_second : List Cond := .code yX5_second cX5_second 2 (some .long) :: ([.constantLong RX5 44 (2000)])
def wsX5_third : List Cond := .code yX5_third cX5_third 2 (some .long) :: ([.constantLong RX5 46 (4000000)])
def wsX5_withMark : List Cond := .code yX5_withMark cX5_withMark 10 (some .long) :: ([.constantLong RX5 44 (2000), .constantLong RX5 46 (4000000), .methodLink RX5 34 yX5_first, .static yX5_first, .initialized RX5, .code yX5_first cX5_first 2 (some .long), .methodLink RX5 38 yX5_second, .static yX5_second, .code yX5_second cX5_second 2 (some .long), .methodLink RX5 41 yX5_third, .static yX5_third, .code yX5_third cX5_third 2 (some .long)])
def wsX7_rankOf : List Cond := .code yX7_rankOf cX7_rankOf 3 (some .int) :: ([])
def wsX5_ofItems_r1 : List Cond := [Cond.constantLong RX5 17 (4098049024), Cond.methodLink RX5 11 yJ6_bitCount_0f7a4, Cond.static yJ6_bitCount_0f7a4, Cond.initialized RJ6, Cond.code yJ6_bitCount_0f7a4 cJ6_bitCount_0f7a4 1 (some .int), Cond.constant RJ6 265 (1431655765), Cond.constant RJ6 266 (858993459), Cond.constant RJ6 267 (252645135), Cond.static yX7_isIn, Cond.initialized RX7, Cond.code yX7_isIn cX7_isIn 2 (some .boolean), Cond.static yX7_markOf, Cond.code yX7_markOf cX7_markOf 4 (some .int), Cond.constantLong RX7 239 (2), Cond.constantLong RX7 241 (40503), Cond.constantLong RX7 243 (65536), Cond.constantLong RX7 245 (64), Cond.methodLink RX5 27 yX5_withMark, Cond.static yX5_withMark, Cond.initialized RX5, Cond.code yX5_withMark cX5_withMark 10 (some .long), Cond.constantLong RX5 44 (2000), Cond.constantLong RX5 46 (4000000), Cond.methodLink RX5 34 yX5_first]
def wsX5_ofItems_r2 : List Cond := [Cond.static yX5_first, Cond.code yX5_first cX5_first 2 (some .long), Cond.methodLink RX5 38 yX5_second, Cond.static yX5_second, Cond.code yX5_second cX5_second 2 (some .long), Cond.methodLink RX5 41 yX5_third, Cond.static yX5_third, Cond.code yX5_third cX5_third 2 (some .long), Cond.static yX7_rankOf, Cond.code yX7_rankOf cX7_rankOf 3 (some .int)]
def wsX5_ofItems : List Cond := .code yX5_ofItems cX5_ofItems 7 (some .long) :: ((wsX5_ofItems_r1 ++ wsX5_ofItems_r2))
def wsX5_together : List Cond := .code yX5_together cX5_together 5 (some .long) :: ([.methodLink RX5 34 yX5_first, .static yX5_first, .initialized RX5, .code yX5_first cX5_first 2 (some .long), .constantLong RX5 44 (2000), .methodLink RX5 27 yX5_withMark, .static yX5_withMark, .code yX5_withMark cX5_withMark 10 (some .long), .constantLong RX5 46 (4000000), .methodLink RX5 38 yX5_second, .static yX5_second, .code yX5_second cX5_second 2 (some .long), .methodLink RX5 41 yX5_third, .static yX5_third, .code yX5_third cX5_third 2 (some .long)])
def wsX5_guessByBits : List Cond := .code yX5_guessByBits cX5_guessByBits 3 (some .int) :: ([])
def wsX5_guessByLeast : List Cond := .code yX5_guessByLeast cX5_guessByLeast 4 (some .int) :: ([.constantLong RX5 48 (1024), .constantLong RX5 50 (2048), .methodLink RX5 34 yX5_first, .static yX5_first, .initialized RX5, .code yX5_first cX5_first 2 (some .long), .constantLong RX5 44 (2000), .methodLink RX5 38 yX5_second, .static yX5_second, .code yX5_second cX5_second 2 (some .long), .methodLink RX5 41 yX5_third, .static yX5_third, .code yX5_third cX5_third 2 (some .long), .constantLong RX5 46 (4000000)])
def wsX6_init : List Cond := .code yX6_init cX6_init 1 none :: ([.methodLink RX6 3 objectInit, .instanceMethod objectInit, .code objectInit ⟨#[0xb1]⟩ 1 none, .arrayClass .int, .fieldLink RX6 9 "TwiceHeard$Telling" "ring" "[I", .fieldLink RX6 15 "TwiceHeard$Telling" "ringSets" "[I", .fieldLink RX6 18 "TwiceHeard$Telling" "from" "[I", .fieldLink RX6 21 "TwiceHeard$Telling" "to" "[I", .arrayClass .boolean, .fieldLink RX6 24 "TwiceHeard$Telling" "comes" "[Z", .fieldLink RX6 28 "TwiceHeard$Telling" "ways" "[I", .fieldLink RX6 31 "TwiceHeard$Telling" "arrivals" "[I", .arrayClass .long, .fieldLink RX6 34 "TwiceHeard$Telling" "held" "[J"] ++ wsX60)
def wsJ7_fill_53178 : List Cond := .code yJ7_fill_53178 cJ7_fill_53178 4 none :: ([])
def wsX6_settle : List Cond := .code yX6_settle cX6_settle 6 (some .int) :: ([.fieldLink RX6 62 "TwiceHeard$Net" "size" "I", .fieldLink RX6 9 "TwiceHeard$Telling" "ring" "[I", .fieldLink RX6 71 "TwiceHeard$Net" "linked" "[I", .static yX7_isIn, .initialized RX7, .code yX7_isIn cX7_isIn 2 (some .boolean)] ++ wsX30 ++ wsX60)
def wsX6_layRings : List Cond := .code yX6_layRings cX6_layRings 5 none :: ([.fieldLink RX6 9 "TwiceHeard$Telling" "ring" "[I", .fieldLink RX6 54 "TwiceHeard$Telling" "greatestRing" "I", .fieldLink RX6 15 "TwiceHeard$Telling" "ringSets" "[I", .methodLink RX6 48 yJ7_fill_53178, .static yJ7_fill_53178, .initialized RJ7, .code yJ7_fill_53178 cJ7_fill_53178 4 none, .methodLink RX6 58 yX6_settle, .instanceMethod yX6_settle, .selects RX6 yX6_settle yX6_settle, .initialized RX6, .code yX6_settle cX6_settle 6 (some .int), .fieldLink RX6 62 "TwiceHeard$Net" "size" "I", .fieldLink RX6 71 "TwiceHeard$Net" "linked" "[I", .static yX7_isIn, .initialized RX7, .code yX7_isIn cX7_isIn 2 (some .boolean)] ++ wsX60 ++ wsX30)
def wsX6_uppers : List Cond := .code yX6_uppers cX6_uppers 3 (some .int) :: ([.fieldLink RX6 9 "TwiceHeard$Telling" "ring" "[I", .fieldLink RX6 71 "TwiceHeard$Net" "linked" "[I", .fieldLink RX6 15 "TwiceHeard$Telling" "ringSets" "[I"] ++ wsX60 ++ wsX30)
def wsX6_writeFrom : List Cond := .code yX6_writeFrom cX6_writeFrom 5 none :: ([.fieldLink RX6 85 "TwiceHeard$Net" "mode" "I", .fieldLink RX6 62 "TwiceHeard$Net" "size" "I", .fieldLink RX6 74 "TwiceHeard$Telling" "letters" "I", .fieldLink RX6 18 "TwiceHeard$Telling" "from" "[I", .fieldLink RX6 21 "TwiceHeard$Telling" "to" "[I", .fieldLink RX6 24 "TwiceHeard$Telling" "comes" "[Z", .fieldLink RX6 88 "TwiceHeard$Net" "lost" "[I", .methodLink RX6 81 yX6_uppers, .instanceMethod yX6_uppers, .selects RX6 yX6_uppers yX6_uppers, .initialized RX6, .code yX6_uppers cX6_uppers 3 (some .int), .fieldLink RX6 9 "TwiceHeard$Telling" "ring" "[I", .fieldLink RX6 71 "TwiceHeard$Net" "linked" "[I", .fieldLink RX6 15 "TwiceHeard$Telling" "ringSets" "[I", .static yX7_isIn, .initialized RX7, .code yX7_isIn cX7_isIn 2 (some .boolean)] ++ wsX30 ++ wsX60)
def wsX6_writeLetters : List Cond := .code yX6_writeLetters cX6_writeLetters 4 none :: ([.fieldLink RX6 74 "TwiceHeard$Telling" "letters" "I", .fieldLink RX6 54 "TwiceHeard$Telling" "greatestRing" "I", .fieldLink RX6 62 "TwiceHeard$Net" "size" "I", .fieldLink RX6 9 "TwiceHeard$Telling" "ring" "[I", .methodLink RX6 77 yX6_writeFrom, .instanceMethod yX6_writeFrom, .selects RX6 yX6_writeFrom yX6_writeFrom, .initialized RX6, .code yX6_writeFrom cX6_writeFrom 5 none, .fieldLink RX6 85 "TwiceHeard$Net" "mode" "I", .fieldLink RX6 18 "TwiceHeard$Telling" "from" "[I", .fieldLink RX6 21 "TwiceHeard$Telling" "to" "[I", .fieldLink RX6 24 "TwiceHeard$Telling" "comes" "[Z", .fieldLink RX6 88 "TwiceHeard$Net" "lost" "[I", .methodLink RX6 81 yX6_uppers, .instanceMethod yX6_uppers, .selects RX6 yX6_uppers yX6_uppers, .code yX6_uppers cX6_uppers 3 (some .int), .fieldLink RX6 71 "TwiceHeard$Net" "linked" "[I", .fieldLink RX6 15 "TwiceHeard$Telling" "ringSets" "[I", .static yX7_isIn, .initialized RX7, .code yX7_isIn cX7_isIn 2 (some .boolean)] ++ wsX60 ++ wsX30)
def wsX6_countWays : List Cond := .code yX6_countWays cX6_countWays 2 none :: ([.fieldLink RX6 28 "TwiceHeard$Telling" "ways" "[I", .fieldLink RX6 31 "TwiceHeard$Telling" "arrivals" "[I", .fieldLink RX6 74 "TwiceHeard$Telling" "letters" "I", .fieldLink RX6 24 "TwiceHeard$Telling" "comes" "[Z", .fieldLink RX6 18 "TwiceHeard$Telling" "from" "[I", .fieldLink RX6 21 "TwiceHeard$Telling" "to" "[I", .methodLink RX6 48 yJ7_fill_53178, .static yJ7_fill_53178, .initialized RJ7, .code yJ7_fill_53178 cJ7_fill_53178 4 none] ++ wsX60)
def wsX6_trace_r1 : List Cond := [Cond.methodLink RX6 38 yX6_layRings, Cond.instanceMethod yX6_layRings, Cond.selects RX6 yX6_layRings yX6_layRings, Cond.initialized RX6, Cond.code yX6_layRings cX6_layRings 5 none, Cond.fieldLink RX6 9 "TwiceHeard$Telling" "ring" "[I", Cond.fieldLink RX6 54 "TwiceHeard$Telling" "greatestRing" "I", Cond.fieldLink RX6 15 "TwiceHeard$Telling" "ringSets" "[I", Cond.methodLink RX6 48 yJ7_fill_53178, Cond.static yJ7_fill_53178, Cond.initialized RJ7, Cond.code yJ7_fill_53178 cJ7_fill_53178 4 none, Cond.methodLink RX6 58 yX6_settle, Cond.instanceMethod yX6_settle, Cond.selects RX6 yX6_settle yX6_settle, Cond.code yX6_settle cX6_settle 6 (some .int), Cond.fieldLink RX6 62 "TwiceHeard$Net" "size" "I", Cond.fieldLink RX6 71 "TwiceHeard$Net" "linked" "[I", Cond.static yX7_isIn, Cond.initialized RX7, Cond.code yX7_isIn cX7_isIn 2 (some .boolean), Cond.methodLink RX6 42 yX6_writeLetters, Cond.instanceMethod yX6_writeLetters, Cond.selects RX6 yX6_writeLetters yX6_writeLetters]
def wsX6_trace_r2 : List Cond := [Cond.code yX6_writeLetters cX6_writeLetters 4 none, Cond.fieldLink RX6 74 "TwiceHeard$Telling" "letters" "I", Cond.methodLink RX6 77 yX6_writeFrom, Cond.instanceMethod yX6_writeFrom, Cond.selects RX6 yX6_writeFrom yX6_writeFrom, Cond.code yX6_writeFrom cX6_writeFrom 5 none, Cond.fieldLink RX6 85 "TwiceHeard$Net" "mode" "I", Cond.fieldLink RX6 18 "TwiceHeard$Telling" "from" "[I", Cond.fieldLink RX6 21 "TwiceHeard$Telling" "to" "[I", Cond.fieldLink RX6 24 "TwiceHeard$Telling" "comes" "[Z", Cond.fieldLink RX6 88 "TwiceHeard$Net" "lost" "[I", Cond.methodLink RX6 81 yX6_uppers, Cond.instanceMethod yX6_uppers, Cond.selects RX6 yX6_uppers yX6_uppers, Cond.code yX6_uppers cX6_uppers 3 (some .int), Cond.methodLink RX6 45 yX6_countWays, Cond.instanceMethod yX6_countWays, Cond.selects RX6 yX6_countWays yX6_countWays, Cond.code yX6_countWays cX6_countWays 2 none, Cond.fieldLink RX6 28 "TwiceHeard$Telling" "ways" "[I", Cond.fieldLink RX6 31 "TwiceHeard$Telling" "arrivals" "[I"]
def wsX6_trace : List Cond := .code yX6_trace cX6_trace 2 none :: ((wsX6_trace_r1 ++ wsX6_trace_r2) ++ wsX60 ++ wsX30)
def wsX6_gather_r1 : List Cond := [Cond.fieldLink RX6 62 "TwiceHeard$Net" "size" "I", Cond.fieldLink RX6 34 "TwiceHeard$Telling" "held" "[J", Cond.fieldLink RX6 9 "TwiceHeard$Telling" "ring" "[I", Cond.constantLong RX6 91 (-1), Cond.fieldLink RX6 93 "TwiceHeard$Net" "heard" "[I", Cond.fieldLink RX6 96 "TwiceHeard$Net" "salt" "I", Cond.fieldLink RX6 74 "TwiceHeard$Telling" "letters" "I", Cond.fieldLink RX6 24 "TwiceHeard$Telling" "comes" "[Z", Cond.fieldLink RX6 21 "TwiceHeard$Telling" "to" "[I", Cond.fieldLink RX6 18 "TwiceHeard$Telling" "from" "[I", Cond.methodLink RX6 99 yX5_ofItems, Cond.static yX5_ofItems, Cond.initialized RX5, Cond.code yX5_ofItems cX5_ofItems 7 (some .long), Cond.constantLong RX5 17 (4098049024), Cond.methodLink RX5 11 yJ6_bitCount_0f7a4, Cond.static yJ6_bitCount_0f7a4, Cond.initialized RJ6, Cond.code yJ6_bitCount_0f7a4 cJ6_bitCount_0f7a4 1 (some .int), Cond.constant RJ6 265 (1431655765), Cond.constant RJ6 266 (858993459), Cond.constant RJ6 267 (252645135), Cond.static yX7_isIn, Cond.initialized RX7]
def wsX6_gather_r2 : List Cond := [Cond.code yX7_isIn cX7_isIn 2 (some .boolean), Cond.static yX7_markOf, Cond.code yX7_markOf cX7_markOf 4 (some .int), Cond.constantLong RX7 239 (2), Cond.constantLong RX7 241 (40503), Cond.constantLong RX7 243 (65536), Cond.constantLong RX7 245 (64), Cond.methodLink RX5 27 yX5_withMark, Cond.static yX5_withMark, Cond.code yX5_withMark cX5_withMark 10 (some .long), Cond.constantLong RX5 44 (2000), Cond.constantLong RX5 46 (4000000), Cond.methodLink RX5 34 yX5_first, Cond.static yX5_first, Cond.code yX5_first cX5_first 2 (some .long), Cond.methodLink RX5 38 yX5_second, Cond.static yX5_second, Cond.code yX5_second cX5_second 2 (some .long), Cond.methodLink RX5 41 yX5_third, Cond.static yX5_third, Cond.code yX5_third cX5_third 2 (some .long), Cond.static yX7_rankOf, Cond.code yX7_rankOf cX7_rankOf 3 (some .int), Cond.methodLink RX6 105 yX5_together]
def wsX6_gather_r3 : List Cond := [Cond.static yX5_together, Cond.code yX5_together cX5_together 5 (some .long)]
def wsX6_gather : List Cond := .code yX6_gather cX6_gather 4 none :: ((wsX6_gather_r1 ++ (wsX6_gather_r2 ++ wsX6_gather_r3)) ++ wsX30 ++ wsX60)
def wsX6_comers : List Cond := .code yX6_comers cX6_comers 3 (some .int) :: ([.fieldLink RX6 28 "TwiceHeard$Telling" "ways" "[I"] ++ wsX60)
def wsX6_allArrivals : List Cond := .code yX6_allArrivals cX6_allArrivals 6 (some .int) :: ([.fieldLink RX6 31 "TwiceHeard$Telling" "arrivals" "[I"] ++ wsX60)
def wsX6_trueCount : List Cond := .code yX6_trueCount cX6_trueCount 4 (some .int) :: ([.fieldLink RX6 62 "TwiceHeard$Net" "size" "I", .fieldLink RX6 9 "TwiceHeard$Telling" "ring" "[I", .fieldLink RX6 93 "TwiceHeard$Net" "heard" "[I", .methodLink RX6 109 yJ6_bitCount_0f7a4, .static yJ6_bitCount_0f7a4, .initialized RJ6, .code yJ6_bitCount_0f7a4 cJ6_bitCount_0f7a4 1 (some .int), .constant RJ6 265 (1431655765), .constant RJ6 266 (858993459), .constant RJ6 267 (252645135)] ++ wsX30 ++ wsX60)
def wsX7_init_r1 : List Cond := [Cond.methodLink RX7 1 objectInit, Cond.instanceMethod objectInit, Cond.code objectInit ⟨#[0xb1]⟩ 1 none, Cond.classLink RX7 7 RX3, Cond.instantiable RX3 6, Cond.initialized RX3, Cond.fieldLink RX7 10 "TwiceHeard" "net" "LTwiceHeard$Net;", Cond.classLink RX7 16 RX4, Cond.instantiable RX4 3, Cond.initialized RX4, Cond.fieldLink RX7 19 "TwiceHeard" "past" "LTwiceHeard$Past;", Cond.classLink RX7 23 RX6, Cond.instantiable RX6 10, Cond.initialized RX6, Cond.fieldLink RX7 26 "TwiceHeard" "telling" "LTwiceHeard$Telling;", Cond.classLink RX7 30 RX0, Cond.instantiable RX0 3, Cond.initialized RX0, Cond.fieldLink RX7 33 "TwiceHeard" "book" "LTwiceHeard$Book;", Cond.classLink RX7 37 RX1, Cond.instantiable RX1 1, Cond.initialized RX1, Cond.fieldLink RX7 40 "TwiceHeard" "draws" "LTwiceHeard$Draws;", Cond.classLink RX7 44 RX2]
def wsX7_init_r2 : List Cond := [Cond.fieldLink RX7 46 "TwiceHeard" "images" "[LTwiceHeard$Image;", Cond.instantiable RX2 3, Cond.initialized RX2, Cond.arrayClass .long, Cond.fieldLink RX7 51 "TwiceHeard" "rowCounts" "[J", Cond.methodLink RX7 9 yX3_init, Cond.instanceMethod yX3_init, Cond.code yX3_init cX3_init 1 none, Cond.methodLink RX3 3 objectInit, Cond.fieldLink RX3 9 "TwiceHeard$Net" "size" "I", Cond.arrayClass .int, Cond.fieldLink RX3 15 "TwiceHeard$Net" "linked" "[I", Cond.fieldLink RX3 19 "TwiceHeard$Net" "lost" "[I", Cond.fieldLink RX3 22 "TwiceHeard$Net" "heard" "[I", Cond.methodLink RX7 18 yX4_init, Cond.instanceMethod yX4_init, Cond.code yX4_init cX4_init 2 none, Cond.methodLink RX4 3 objectInit, Cond.classLink RX4 9 RX3, Cond.fieldLink RX4 11 "TwiceHeard$Past" "states" "[LTwiceHeard$Net;", Cond.methodLink RX4 17 yX3_init, Cond.methodLink RX7 25 yX6_init, Cond.instanceMethod yX6_init, Cond.code yX6_init cX6_init 1 none]
def wsX7_init_r3 : List Cond := [Cond.methodLink RX6 3 objectInit, Cond.fieldLink RX6 9 "TwiceHeard$Telling" "ring" "[I", Cond.fieldLink RX6 15 "TwiceHeard$Telling" "ringSets" "[I", Cond.fieldLink RX6 18 "TwiceHeard$Telling" "from" "[I", Cond.fieldLink RX6 21 "TwiceHeard$Telling" "to" "[I", Cond.arrayClass .boolean, Cond.fieldLink RX6 24 "TwiceHeard$Telling" "comes" "[Z", Cond.fieldLink RX6 28 "TwiceHeard$Telling" "ways" "[I", Cond.fieldLink RX6 31 "TwiceHeard$Telling" "arrivals" "[I", Cond.fieldLink RX6 34 "TwiceHeard$Telling" "held" "[J", Cond.methodLink RX7 32 yX0_init, Cond.instanceMethod yX0_init, Cond.code yX0_init cX0_init 1 none, Cond.methodLink RX0 3 objectInit, Cond.fieldLink RX0 9 "TwiceHeard$Book" "nodes" "[I", Cond.fieldLink RX0 15 "TwiceHeard$Book" "guesses" "[I", Cond.instanceMethod yX1_init, Cond.code yX1_init cX1_init 1 none, Cond.methodLink RX1 1 objectInit, Cond.methodLink RX7 50 yX2_init, Cond.instanceMethod yX2_init, Cond.code yX2_init cX2_init 1 none, Cond.methodLink RX2 1 objectInit, Cond.classLink RX2 7 RX3]
def wsX7_init_r4 : List Cond := [Cond.fieldLink RX2 10 "TwiceHeard$Image" "net" "LTwiceHeard$Net;", Cond.methodLink RX2 9 yX3_init]
def wsX7_init : List Cond := .code yX7_init cX7_init 2 none :: ((wsX7_init_r1 ++ (wsX7_init_r2 ++ (wsX7_init_r3 ++ wsX7_init_r4))) ++ wsX30 ++ wsX70 ++ wsX40 ++ wsX60 ++ wsX00 ++ wsX10 ++ wsX20)
def wsX7_pairsIn : List Cond := .code yX7_pairsIn cX7_pairsIn 6 (some .int) :: ([.methodLink RX7 234 yJ6_bitCount_0f7a4, .static yJ6_bitCount_0f7a4, .initialized RJ6, .code yJ6_bitCount_0f7a4 cJ6_bitCount_0f7a4 1 (some .int), .constant RJ6 265 (1431655765), .constant RJ6 266 (858993459), .constant RJ6 267 (252645135)])
def wsX7_guessOf : List Cond := .code yX7_guessOf cX7_guessOf 3 (some .int) :: ([.fieldLink RX7 26 "TwiceHeard" "telling" "LTwiceHeard$Telling;", .fieldLink RX7 111 "TwiceHeard$Telling" "ring" "[I", .fieldLink RX7 154 "TwiceHeard$Telling" "held" "[J", .methodLink RX7 247 yX5_guessByBits, .static yX5_guessByBits, .initialized RX5, .code yX5_guessByBits cX5_guessByBits 3 (some .int), .methodLink RX7 253 yX5_guessByLeast, .static yX5_guessByLeast, .code yX5_guessByLeast cX5_guessByLeast 4 (some .int), .constantLong RX5 48 (1024), .constantLong RX5 50 (2048), .methodLink RX5 34 yX5_first, .static yX5_first, .code yX5_first cX5_first 2 (some .long), .constantLong RX5 44 (2000), .methodLink RX5 38 yX5_second, .static yX5_second, .code yX5_second cX5_second 2 (some .long), .methodLink RX5 41 yX5_third, .static yX5_third, .code yX5_third cX5_third 2 (some .long), .constantLong RX5 46 (4000000)] ++ wsX70 ++ wsX60)
def wsX7_firstWrong_r1 : List Cond := [Cond.fieldLink RX7 26 "TwiceHeard" "telling" "LTwiceHeard$Telling;", Cond.fieldLink RX7 10 "TwiceHeard" "net" "LTwiceHeard$Net;", Cond.fieldLink RX7 33 "TwiceHeard" "book" "LTwiceHeard$Book;", Cond.fieldLink RX7 97 "TwiceHeard$Book" "size" "I", Cond.fieldLink RX7 256 "TwiceHeard$Book" "nodes" "[I", Cond.fieldLink RX7 111 "TwiceHeard$Telling" "ring" "[I", Cond.fieldLink RX7 259 "TwiceHeard$Book" "guesses" "[I", Cond.methodLink RX7 150 yX6_gather, Cond.instanceMethod yX6_gather, Cond.selects RX6 yX6_gather yX6_gather, Cond.initialized RX6, Cond.code yX6_gather cX6_gather 4 none, Cond.fieldLink RX6 62 "TwiceHeard$Net" "size" "I", Cond.fieldLink RX6 34 "TwiceHeard$Telling" "held" "[J", Cond.fieldLink RX6 9 "TwiceHeard$Telling" "ring" "[I", Cond.constantLong RX6 91 (-1), Cond.fieldLink RX6 93 "TwiceHeard$Net" "heard" "[I", Cond.fieldLink RX6 96 "TwiceHeard$Net" "salt" "I", Cond.fieldLink RX6 74 "TwiceHeard$Telling" "letters" "I", Cond.fieldLink RX6 24 "TwiceHeard$Telling" "comes" "[Z", Cond.fieldLink RX6 21 "TwiceHeard$Telling" "to" "[I", Cond.fieldLink RX6 18 "TwiceHeard$Telling" "from" "[I", Cond.methodLink RX6 99 yX5_ofItems, Cond.static yX5_ofItems]
def wsX7_firstWrong_r2 : List Cond := [Cond.initialized RX5, Cond.code yX5_ofItems cX5_ofItems 7 (some .long), Cond.constantLong RX5 17 (4098049024), Cond.methodLink RX5 11 yJ6_bitCount_0f7a4, Cond.static yJ6_bitCount_0f7a4, Cond.initialized RJ6, Cond.code yJ6_bitCount_0f7a4 cJ6_bitCount_0f7a4 1 (some .int), Cond.constant RJ6 265 (1431655765), Cond.constant RJ6 266 (858993459), Cond.constant RJ6 267 (252645135), Cond.static yX7_isIn, Cond.initialized RX7, Cond.code yX7_isIn cX7_isIn 2 (some .boolean), Cond.static yX7_markOf, Cond.code yX7_markOf cX7_markOf 4 (some .int), Cond.constantLong RX7 239 (2), Cond.constantLong RX7 241 (40503), Cond.constantLong RX7 243 (65536), Cond.constantLong RX7 245 (64), Cond.methodLink RX5 27 yX5_withMark, Cond.static yX5_withMark, Cond.code yX5_withMark cX5_withMark 10 (some .long), Cond.constantLong RX5 44 (2000), Cond.constantLong RX5 46 (4000000)]
def wsX7_firstWrong_r3 : List Cond := [Cond.methodLink RX5 34 yX5_first, Cond.static yX5_first, Cond.code yX5_first cX5_first 2 (some .long), Cond.methodLink RX5 38 yX5_second, Cond.static yX5_second, Cond.code yX5_second cX5_second 2 (some .long), Cond.methodLink RX5 41 yX5_third, Cond.static yX5_third, Cond.code yX5_third cX5_third 2 (some .long), Cond.static yX7_rankOf, Cond.code yX7_rankOf cX7_rankOf 3 (some .int), Cond.methodLink RX6 105 yX5_together, Cond.static yX5_together, Cond.code yX5_together cX5_together 5 (some .long), Cond.methodLink RX7 106 yX3_has, Cond.instanceMethod yX3_has, Cond.selects RX3 yX3_has yX3_has, Cond.initialized RX3, Cond.code yX3_has cX3_has 2 (some .boolean), Cond.fieldLink RX3 9 "TwiceHeard$Net" "size" "I", Cond.methodLink RX7 157 yX7_guessOf, Cond.instanceMethod yX7_guessOf, Cond.selects RX7 yX7_guessOf yX7_guessOf, Cond.code yX7_guessOf cX7_guessOf 3 (some .int)]
def wsX7_firstWrong_r4 : List Cond := [Cond.fieldLink RX7 154 "TwiceHeard$Telling" "held" "[J", Cond.methodLink RX7 247 yX5_guessByBits, Cond.static yX5_guessByBits, Cond.code yX5_guessByBits cX5_guessByBits 3 (some .int), Cond.methodLink RX7 253 yX5_guessByLeast, Cond.static yX5_guessByLeast, Cond.code yX5_guessByLeast cX5_guessByLeast 4 (some .int), Cond.constantLong RX5 48 (1024), Cond.constantLong RX5 50 (2048)]
def wsX7_firstWrong : List Cond := .code yX7_firstWrong cX7_firstWrong 3 (some .int) :: ((wsX7_firstWrong_r1 ++ (wsX7_firstWrong_r2 ++ (wsX7_firstWrong_r3 ++ wsX7_firstWrong_r4))) ++ wsX70 ++ wsX00 ++ wsX60 ++ wsX30)
def wsX7_told_r1 : List Cond := [Cond.fieldLink RX7 26 "TwiceHeard" "telling" "LTwiceHeard$Telling;", Cond.fieldLink RX7 10 "TwiceHeard" "net" "LTwiceHeard$Net;", Cond.fieldLink RX7 59 "TwiceHeard$Net" "size" "I", Cond.fieldLink RX7 63 "TwiceHeard$Net" "linked" "[I", Cond.fieldLink RX7 71 "TwiceHeard$Net" "lost" "[I", Cond.fieldLink RX7 74 "TwiceHeard$Net" "salt" "I", Cond.fieldLink RX7 77 "TwiceHeard$Net" "mode" "I", Cond.fieldLink RX7 80 "TwiceHeard$Telling" "greatestRing" "I", Cond.fieldLink RX7 91 "TwiceHeard$Telling" "letters" "I", Cond.fieldLink RX7 33 "TwiceHeard" "book" "LTwiceHeard$Book;", Cond.fieldLink RX7 97 "TwiceHeard$Book" "size" "I", Cond.fieldLink RX7 19 "TwiceHeard" "past" "LTwiceHeard$Past;", Cond.fieldLink RX7 101 "TwiceHeard$Past" "size" "I", Cond.fieldLink RX7 40 "TwiceHeard" "draws" "LTwiceHeard$Draws;", Cond.fieldLink RX7 102 "TwiceHeard$Draws" "seed" "I", Cond.constant RX7 105 (-1000000002), Cond.methodLink RX7 55 yX6_trace, Cond.instanceMethod yX6_trace, Cond.selects RX6 yX6_trace yX6_trace, Cond.initialized RX6, Cond.code yX6_trace cX6_trace 2 none, Cond.methodLink RX6 38 yX6_layRings, Cond.instanceMethod yX6_layRings, Cond.selects RX6 yX6_layRings yX6_layRings]
def wsX7_told_r2 : List Cond := [Cond.code yX6_layRings cX6_layRings 5 none, Cond.fieldLink RX6 9 "TwiceHeard$Telling" "ring" "[I", Cond.fieldLink RX6 54 "TwiceHeard$Telling" "greatestRing" "I", Cond.fieldLink RX6 15 "TwiceHeard$Telling" "ringSets" "[I", Cond.methodLink RX6 48 yJ7_fill_53178, Cond.static yJ7_fill_53178, Cond.initialized RJ7, Cond.code yJ7_fill_53178 cJ7_fill_53178 4 none, Cond.methodLink RX6 58 yX6_settle, Cond.instanceMethod yX6_settle, Cond.selects RX6 yX6_settle yX6_settle, Cond.code yX6_settle cX6_settle 6 (some .int), Cond.fieldLink RX6 62 "TwiceHeard$Net" "size" "I", Cond.fieldLink RX6 71 "TwiceHeard$Net" "linked" "[I", Cond.static yX7_isIn, Cond.initialized RX7, Cond.code yX7_isIn cX7_isIn 2 (some .boolean), Cond.methodLink RX6 42 yX6_writeLetters, Cond.instanceMethod yX6_writeLetters, Cond.selects RX6 yX6_writeLetters yX6_writeLetters, Cond.code yX6_writeLetters cX6_writeLetters 4 none, Cond.fieldLink RX6 74 "TwiceHeard$Telling" "letters" "I", Cond.methodLink RX6 77 yX6_writeFrom, Cond.instanceMethod yX6_writeFrom]
def wsX7_told_r3 : List Cond := [Cond.selects RX6 yX6_writeFrom yX6_writeFrom, Cond.code yX6_writeFrom cX6_writeFrom 5 none, Cond.fieldLink RX6 85 "TwiceHeard$Net" "mode" "I", Cond.fieldLink RX6 18 "TwiceHeard$Telling" "from" "[I", Cond.fieldLink RX6 21 "TwiceHeard$Telling" "to" "[I", Cond.fieldLink RX6 24 "TwiceHeard$Telling" "comes" "[Z", Cond.fieldLink RX6 88 "TwiceHeard$Net" "lost" "[I", Cond.methodLink RX6 81 yX6_uppers, Cond.instanceMethod yX6_uppers, Cond.selects RX6 yX6_uppers yX6_uppers, Cond.code yX6_uppers cX6_uppers 3 (some .int), Cond.methodLink RX6 45 yX6_countWays, Cond.instanceMethod yX6_countWays, Cond.selects RX6 yX6_countWays yX6_countWays, Cond.code yX6_countWays cX6_countWays 2 none, Cond.fieldLink RX6 28 "TwiceHeard$Telling" "ways" "[I", Cond.fieldLink RX6 31 "TwiceHeard$Telling" "arrivals" "[I", Cond.methodLink RX7 67 yX7_pairsIn, Cond.static yX7_pairsIn, Cond.code yX7_pairsIn cX7_pairsIn 6 (some .int), Cond.methodLink RX7 234 yJ6_bitCount_0f7a4, Cond.static yJ6_bitCount_0f7a4, Cond.initialized RJ6, Cond.code yJ6_bitCount_0f7a4 cJ6_bitCount_0f7a4 1 (some .int)]
def wsX7_told_r4 : List Cond := [Cond.constant RJ6 265 (1431655765), Cond.constant RJ6 266 (858993459), Cond.constant RJ6 267 (252645135), Cond.methodLink RX7 83 yX6_comers, Cond.instanceMethod yX6_comers, Cond.selects RX6 yX6_comers yX6_comers, Cond.code yX6_comers cX6_comers 3 (some .int), Cond.methodLink RX7 87 yX6_trueCount, Cond.instanceMethod yX6_trueCount, Cond.selects RX6 yX6_trueCount yX6_trueCount, Cond.code yX6_trueCount cX6_trueCount 4 (some .int), Cond.fieldLink RX6 93 "TwiceHeard$Net" "heard" "[I", Cond.methodLink RX6 109 yJ6_bitCount_0f7a4, Cond.methodLink RX7 94 yX6_allArrivals, Cond.instanceMethod yX6_allArrivals, Cond.selects RX6 yX6_allArrivals yX6_allArrivals, Cond.code yX6_allArrivals cX6_allArrivals 6 (some .int), Cond.methodLink RX7 98 yX7_firstWrong, Cond.instanceMethod yX7_firstWrong, Cond.selects RX7 yX7_firstWrong yX7_firstWrong, Cond.code yX7_firstWrong cX7_firstWrong 3 (some .int), Cond.fieldLink RX7 256 "TwiceHeard$Book" "nodes" "[I", Cond.fieldLink RX7 111 "TwiceHeard$Telling" "ring" "[I", Cond.fieldLink RX7 259 "TwiceHeard$Book" "guesses" "[I"]
def wsX7_told_r5 : List Cond := [Cond.methodLink RX7 150 yX6_gather, Cond.instanceMethod yX6_gather, Cond.selects RX6 yX6_gather yX6_gather, Cond.code yX6_gather cX6_gather 4 none, Cond.fieldLink RX6 34 "TwiceHeard$Telling" "held" "[J", Cond.constantLong RX6 91 (-1), Cond.fieldLink RX6 96 "TwiceHeard$Net" "salt" "I", Cond.methodLink RX6 99 yX5_ofItems, Cond.static yX5_ofItems, Cond.initialized RX5, Cond.code yX5_ofItems cX5_ofItems 7 (some .long), Cond.constantLong RX5 17 (4098049024), Cond.methodLink RX5 11 yJ6_bitCount_0f7a4, Cond.static yX7_markOf, Cond.code yX7_markOf cX7_markOf 4 (some .int), Cond.constantLong RX7 239 (2), Cond.constantLong RX7 241 (40503), Cond.constantLong RX7 243 (65536), Cond.constantLong RX7 245 (64), Cond.methodLink RX5 27 yX5_withMark, Cond.static yX5_withMark, Cond.code yX5_withMark cX5_withMark 10 (some .long), Cond.constantLong RX5 44 (2000), Cond.constantLong RX5 46 (4000000)]
def wsX7_told_r6 : List Cond := [Cond.methodLink RX5 34 yX5_first, Cond.static yX5_first, Cond.code yX5_first cX5_first 2 (some .long), Cond.methodLink RX5 38 yX5_second, Cond.static yX5_second, Cond.code yX5_second cX5_second 2 (some .long), Cond.methodLink RX5 41 yX5_third, Cond.static yX5_third, Cond.code yX5_third cX5_third 2 (some .long), Cond.static yX7_rankOf, Cond.code yX7_rankOf cX7_rankOf 3 (some .int), Cond.methodLink RX6 105 yX5_together, Cond.static yX5_together, Cond.code yX5_together cX5_together 5 (some .long), Cond.methodLink RX7 106 yX3_has, Cond.instanceMethod yX3_has, Cond.selects RX3 yX3_has yX3_has, Cond.initialized RX3, Cond.code yX3_has cX3_has 2 (some .boolean), Cond.fieldLink RX3 9 "TwiceHeard$Net" "size" "I", Cond.methodLink RX7 157 yX7_guessOf, Cond.instanceMethod yX7_guessOf, Cond.selects RX7 yX7_guessOf yX7_guessOf, Cond.code yX7_guessOf cX7_guessOf 3 (some .int)]
def wsX7_told_r7 : List Cond := [Cond.fieldLink RX7 154 "TwiceHeard$Telling" "held" "[J", Cond.methodLink RX7 247 yX5_guessByBits, Cond.static yX5_guessByBits, Cond.code yX5_guessByBits cX5_guessByBits 3 (some .int), Cond.methodLink RX7 253 yX5_guessByLeast, Cond.static yX5_guessByLeast, Cond.code yX5_guessByLeast cX5_guessByLeast 4 (some .int), Cond.constantLong RX5 48 (1024), Cond.constantLong RX5 50 (2048)]
def wsX7_told : List Cond := .code yX7_told cX7_told 2 (some .int) :: ((wsX7_told_r1 ++ (wsX7_told_r2 ++ (wsX7_told_r3 ++ (wsX7_told_r4 ++ (wsX7_told_r5 ++ (wsX7_told_r6 ++ wsX7_told_r7)))))) ++ wsX70 ++ wsX30 ++ wsX60 ++ wsX00 ++ wsX40 ++ wsX10)
def wsX7_at_r1 : List Cond := [Cond.fieldLink RX7 10 "TwiceHeard" "net" "LTwiceHeard$Net;", Cond.constant RX7 110 (-1000000001), Cond.fieldLink RX7 26 "TwiceHeard" "telling" "LTwiceHeard$Telling;", Cond.fieldLink RX7 111 "TwiceHeard$Telling" "ring" "[I", Cond.fieldLink RX7 63 "TwiceHeard$Net" "linked" "[I", Cond.fieldLink RX7 118 "TwiceHeard$Net" "heard" "[I", Cond.fieldLink RX7 121 "TwiceHeard$Telling" "ways" "[I", Cond.fieldLink RX7 124 "TwiceHeard$Telling" "arrivals" "[I", Cond.constant RX7 105 (-1000000002), Cond.methodLink RX7 106 yX3_has, Cond.instanceMethod yX3_has, Cond.selects RX3 yX3_has yX3_has, Cond.initialized RX3, Cond.code yX3_has cX3_has 2 (some .boolean), Cond.fieldLink RX3 9 "TwiceHeard$Net" "size" "I", Cond.methodLink RX7 55 yX6_trace, Cond.instanceMethod yX6_trace, Cond.selects RX6 yX6_trace yX6_trace, Cond.initialized RX6, Cond.code yX6_trace cX6_trace 2 none, Cond.methodLink RX6 38 yX6_layRings, Cond.instanceMethod yX6_layRings, Cond.selects RX6 yX6_layRings yX6_layRings, Cond.code yX6_layRings cX6_layRings 5 none]
def wsX7_at_r2 : List Cond := [Cond.fieldLink RX6 9 "TwiceHeard$Telling" "ring" "[I", Cond.fieldLink RX6 54 "TwiceHeard$Telling" "greatestRing" "I", Cond.fieldLink RX6 15 "TwiceHeard$Telling" "ringSets" "[I", Cond.methodLink RX6 48 yJ7_fill_53178, Cond.static yJ7_fill_53178, Cond.initialized RJ7, Cond.code yJ7_fill_53178 cJ7_fill_53178 4 none, Cond.methodLink RX6 58 yX6_settle, Cond.instanceMethod yX6_settle, Cond.selects RX6 yX6_settle yX6_settle, Cond.code yX6_settle cX6_settle 6 (some .int), Cond.fieldLink RX6 62 "TwiceHeard$Net" "size" "I", Cond.fieldLink RX6 71 "TwiceHeard$Net" "linked" "[I", Cond.static yX7_isIn, Cond.initialized RX7, Cond.code yX7_isIn cX7_isIn 2 (some .boolean), Cond.methodLink RX6 42 yX6_writeLetters, Cond.instanceMethod yX6_writeLetters, Cond.selects RX6 yX6_writeLetters yX6_writeLetters, Cond.code yX6_writeLetters cX6_writeLetters 4 none, Cond.fieldLink RX6 74 "TwiceHeard$Telling" "letters" "I", Cond.methodLink RX6 77 yX6_writeFrom, Cond.instanceMethod yX6_writeFrom, Cond.selects RX6 yX6_writeFrom yX6_writeFrom]
def wsX7_at_r3 : List Cond := [Cond.code yX6_writeFrom cX6_writeFrom 5 none, Cond.fieldLink RX6 85 "TwiceHeard$Net" "mode" "I", Cond.fieldLink RX6 18 "TwiceHeard$Telling" "from" "[I", Cond.fieldLink RX6 21 "TwiceHeard$Telling" "to" "[I", Cond.fieldLink RX6 24 "TwiceHeard$Telling" "comes" "[Z", Cond.fieldLink RX6 88 "TwiceHeard$Net" "lost" "[I", Cond.methodLink RX6 81 yX6_uppers, Cond.instanceMethod yX6_uppers, Cond.selects RX6 yX6_uppers yX6_uppers, Cond.code yX6_uppers cX6_uppers 3 (some .int), Cond.methodLink RX6 45 yX6_countWays, Cond.instanceMethod yX6_countWays, Cond.selects RX6 yX6_countWays yX6_countWays, Cond.code yX6_countWays cX6_countWays 2 none, Cond.fieldLink RX6 28 "TwiceHeard$Telling" "ways" "[I", Cond.fieldLink RX6 31 "TwiceHeard$Telling" "arrivals" "[I", Cond.methodLink RX7 114 yX6_uppers]
def wsX7_at : List Cond := .code yX7_at cX7_at 3 (some .int) :: ((wsX7_at_r1 ++ (wsX7_at_r2 ++ wsX7_at_r3)) ++ wsX70 ++ wsX60 ++ wsX30)
def wsX7_isLost : List Cond := .code yX7_isLost cX7_isLost 3 (some .int) :: ([.fieldLink RX7 10 "TwiceHeard" "net" "LTwiceHeard$Net;", .constant RX7 110 (-1000000001), .methodLink RX7 127 yX3_hasLink, .instanceMethod yX3_hasLink, .selects RX3 yX3_hasLink yX3_hasLink, .initialized RX3, .code yX3_hasLink cX3_hasLink 3 (some .boolean), .fieldLink RX3 15 "TwiceHeard$Net" "linked" "[I", .methodLink RX3 37 yX3_has, .instanceMethod yX3_has, .selects RX3 yX3_has yX3_has, .code yX3_has cX3_has 2 (some .boolean), .fieldLink RX3 9 "TwiceHeard$Net" "size" "I", .static yX7_isIn, .initialized RX7, .code yX7_isIn cX7_isIn 2 (some .boolean), .methodLink RX7 131 yX3_hasLost, .instanceMethod yX3_hasLost, .selects RX3 yX3_hasLost yX3_hasLost, .code yX3_hasLost cX3_hasLost 3 (some .boolean), .fieldLink RX3 19 "TwiceHeard$Net" "lost" "[I"] ++ wsX70 ++ wsX30)
def wsX7_within : List Cond := .code yX7_within cX7_within 3 (some .boolean) :: ([])
def wsX7_mark : List Cond := .code yX7_mark cX7_mark 4 (some .int) :: ([.constant RX7 105 (-1000000002), .fieldLink RX7 10 "TwiceHeard" "net" "LTwiceHeard$Net;", .fieldLink RX7 74 "TwiceHeard$Net" "salt" "I", .methodLink RX7 134 yX7_within, .static yX7_within, .initialized RX7, .code yX7_within cX7_within 3 (some .boolean), .methodLink RX7 138 yX7_markOf, .static yX7_markOf, .code yX7_markOf cX7_markOf 4 (some .int), .constantLong RX7 239 (2), .constantLong RX7 241 (40503), .constantLong RX7 243 (65536), .constantLong RX7 245 (64), .methodLink RX7 142 yX7_rankOf, .static yX7_rankOf, .code yX7_rankOf cX7_rankOf 3 (some .int)] ++ wsX70 ++ wsX30)
def wsX7_holds_r1 : List Cond := [Cond.fieldLink RX7 10 "TwiceHeard" "net" "LTwiceHeard$Net;", Cond.constantLong RX7 146 (-1000000001), Cond.constantLong RX7 148 (-1000000002), Cond.fieldLink RX7 26 "TwiceHeard" "telling" "LTwiceHeard$Telling;", Cond.fieldLink RX7 154 "TwiceHeard$Telling" "held" "[J", Cond.methodLink RX7 106 yX3_has, Cond.instanceMethod yX3_has, Cond.selects RX3 yX3_has yX3_has, Cond.initialized RX3, Cond.code yX3_has cX3_has 2 (some .boolean), Cond.fieldLink RX3 9 "TwiceHeard$Net" "size" "I", Cond.methodLink RX7 134 yX7_within, Cond.static yX7_within, Cond.initialized RX7, Cond.code yX7_within cX7_within 3 (some .boolean), Cond.methodLink RX7 55 yX6_trace, Cond.instanceMethod yX6_trace, Cond.selects RX6 yX6_trace yX6_trace, Cond.initialized RX6, Cond.code yX6_trace cX6_trace 2 none, Cond.methodLink RX6 38 yX6_layRings, Cond.instanceMethod yX6_layRings, Cond.selects RX6 yX6_layRings yX6_layRings, Cond.code yX6_layRings cX6_layRings 5 none]
def wsX7_holds_r2 : List Cond := [Cond.fieldLink RX6 9 "TwiceHeard$Telling" "ring" "[I", Cond.fieldLink RX6 54 "TwiceHeard$Telling" "greatestRing" "I", Cond.fieldLink RX6 15 "TwiceHeard$Telling" "ringSets" "[I", Cond.methodLink RX6 48 yJ7_fill_53178, Cond.static yJ7_fill_53178, Cond.initialized RJ7, Cond.code yJ7_fill_53178 cJ7_fill_53178 4 none, Cond.methodLink RX6 58 yX6_settle, Cond.instanceMethod yX6_settle, Cond.selects RX6 yX6_settle yX6_settle, Cond.code yX6_settle cX6_settle 6 (some .int), Cond.fieldLink RX6 62 "TwiceHeard$Net" "size" "I", Cond.fieldLink RX6 71 "TwiceHeard$Net" "linked" "[I", Cond.static yX7_isIn, Cond.code yX7_isIn cX7_isIn 2 (some .boolean), Cond.methodLink RX6 42 yX6_writeLetters, Cond.instanceMethod yX6_writeLetters, Cond.selects RX6 yX6_writeLetters yX6_writeLetters, Cond.code yX6_writeLetters cX6_writeLetters 4 none, Cond.fieldLink RX6 74 "TwiceHeard$Telling" "letters" "I", Cond.methodLink RX6 77 yX6_writeFrom, Cond.instanceMethod yX6_writeFrom, Cond.selects RX6 yX6_writeFrom yX6_writeFrom, Cond.code yX6_writeFrom cX6_writeFrom 5 none]
def wsX7_holds_r3 : List Cond := [Cond.fieldLink RX6 85 "TwiceHeard$Net" "mode" "I", Cond.fieldLink RX6 18 "TwiceHeard$Telling" "from" "[I", Cond.fieldLink RX6 21 "TwiceHeard$Telling" "to" "[I", Cond.fieldLink RX6 24 "TwiceHeard$Telling" "comes" "[Z", Cond.fieldLink RX6 88 "TwiceHeard$Net" "lost" "[I", Cond.methodLink RX6 81 yX6_uppers, Cond.instanceMethod yX6_uppers, Cond.selects RX6 yX6_uppers yX6_uppers, Cond.code yX6_uppers cX6_uppers 3 (some .int), Cond.methodLink RX6 45 yX6_countWays, Cond.instanceMethod yX6_countWays, Cond.selects RX6 yX6_countWays yX6_countWays, Cond.code yX6_countWays cX6_countWays 2 none, Cond.fieldLink RX6 28 "TwiceHeard$Telling" "ways" "[I", Cond.fieldLink RX6 31 "TwiceHeard$Telling" "arrivals" "[I", Cond.methodLink RX7 150 yX6_gather, Cond.instanceMethod yX6_gather, Cond.selects RX6 yX6_gather yX6_gather, Cond.code yX6_gather cX6_gather 4 none, Cond.fieldLink RX6 34 "TwiceHeard$Telling" "held" "[J", Cond.constantLong RX6 91 (-1), Cond.fieldLink RX6 93 "TwiceHeard$Net" "heard" "[I", Cond.fieldLink RX6 96 "TwiceHeard$Net" "salt" "I", Cond.methodLink RX6 99 yX5_ofItems]
def wsX7_holds_r4 : List Cond := [Cond.static yX5_ofItems, Cond.initialized RX5, Cond.code yX5_ofItems cX5_ofItems 7 (some .long), Cond.constantLong RX5 17 (4098049024), Cond.methodLink RX5 11 yJ6_bitCount_0f7a4, Cond.static yJ6_bitCount_0f7a4, Cond.initialized RJ6, Cond.code yJ6_bitCount_0f7a4 cJ6_bitCount_0f7a4 1 (some .int), Cond.constant RJ6 265 (1431655765), Cond.constant RJ6 266 (858993459), Cond.constant RJ6 267 (252645135), Cond.static yX7_markOf, Cond.code yX7_markOf cX7_markOf 4 (some .int), Cond.constantLong RX7 239 (2), Cond.constantLong RX7 241 (40503), Cond.constantLong RX7 243 (65536), Cond.constantLong RX7 245 (64), Cond.methodLink RX5 27 yX5_withMark, Cond.static yX5_withMark, Cond.code yX5_withMark cX5_withMark 10 (some .long), Cond.constantLong RX5 44 (2000), Cond.constantLong RX5 46 (4000000), Cond.methodLink RX5 34 yX5_first, Cond.static yX5_first]
def wsX7_holds_r5 : List Cond := [Cond.code yX5_first cX5_first 2 (some .long), Cond.methodLink RX5 38 yX5_second, Cond.static yX5_second, Cond.code yX5_second cX5_second 2 (some .long), Cond.methodLink RX5 41 yX5_third, Cond.static yX5_third, Cond.code yX5_third cX5_third 2 (some .long), Cond.static yX7_rankOf, Cond.code yX7_rankOf cX7_rankOf 3 (some .int), Cond.methodLink RX6 105 yX5_together, Cond.static yX5_together, Cond.code yX5_together cX5_together 5 (some .long)]
def wsX7_holds : List Cond := .code yX7_holds cX7_holds 3 (some .long) :: ((wsX7_holds_r1 ++ (wsX7_holds_r2 ++ (wsX7_holds_r3 ++ (wsX7_holds_r4 ++ wsX7_holds_r5)))) ++ wsX70 ++ wsX60 ++ wsX30)
def wsX7_guess_r1 : List Cond := [Cond.fieldLink RX7 10 "TwiceHeard" "net" "LTwiceHeard$Net;", Cond.constant RX7 110 (-1000000001), Cond.constant RX7 105 (-1000000002), Cond.fieldLink RX7 26 "TwiceHeard" "telling" "LTwiceHeard$Telling;", Cond.methodLink RX7 106 yX3_has, Cond.instanceMethod yX3_has, Cond.selects RX3 yX3_has yX3_has, Cond.initialized RX3, Cond.code yX3_has cX3_has 2 (some .boolean), Cond.fieldLink RX3 9 "TwiceHeard$Net" "size" "I", Cond.methodLink RX7 134 yX7_within, Cond.static yX7_within, Cond.initialized RX7, Cond.code yX7_within cX7_within 3 (some .boolean), Cond.methodLink RX7 55 yX6_trace, Cond.instanceMethod yX6_trace, Cond.selects RX6 yX6_trace yX6_trace, Cond.initialized RX6, Cond.code yX6_trace cX6_trace 2 none, Cond.methodLink RX6 38 yX6_layRings, Cond.instanceMethod yX6_layRings, Cond.selects RX6 yX6_layRings yX6_layRings, Cond.code yX6_layRings cX6_layRings 5 none, Cond.fieldLink RX6 9 "TwiceHeard$Telling" "ring" "[I"]
def wsX7_guess_r2 : List Cond := [Cond.fieldLink RX6 54 "TwiceHeard$Telling" "greatestRing" "I", Cond.fieldLink RX6 15 "TwiceHeard$Telling" "ringSets" "[I", Cond.methodLink RX6 48 yJ7_fill_53178, Cond.static yJ7_fill_53178, Cond.initialized RJ7, Cond.code yJ7_fill_53178 cJ7_fill_53178 4 none, Cond.methodLink RX6 58 yX6_settle, Cond.instanceMethod yX6_settle, Cond.selects RX6 yX6_settle yX6_settle, Cond.code yX6_settle cX6_settle 6 (some .int), Cond.fieldLink RX6 62 "TwiceHeard$Net" "size" "I", Cond.fieldLink RX6 71 "TwiceHeard$Net" "linked" "[I", Cond.static yX7_isIn, Cond.code yX7_isIn cX7_isIn 2 (some .boolean), Cond.methodLink RX6 42 yX6_writeLetters, Cond.instanceMethod yX6_writeLetters, Cond.selects RX6 yX6_writeLetters yX6_writeLetters, Cond.code yX6_writeLetters cX6_writeLetters 4 none, Cond.fieldLink RX6 74 "TwiceHeard$Telling" "letters" "I", Cond.methodLink RX6 77 yX6_writeFrom, Cond.instanceMethod yX6_writeFrom, Cond.selects RX6 yX6_writeFrom yX6_writeFrom, Cond.code yX6_writeFrom cX6_writeFrom 5 none, Cond.fieldLink RX6 85 "TwiceHeard$Net" "mode" "I"]
def wsX7_guess_r3 : List Cond := [Cond.fieldLink RX6 18 "TwiceHeard$Telling" "from" "[I", Cond.fieldLink RX6 21 "TwiceHeard$Telling" "to" "[I", Cond.fieldLink RX6 24 "TwiceHeard$Telling" "comes" "[Z", Cond.fieldLink RX6 88 "TwiceHeard$Net" "lost" "[I", Cond.methodLink RX6 81 yX6_uppers, Cond.instanceMethod yX6_uppers, Cond.selects RX6 yX6_uppers yX6_uppers, Cond.code yX6_uppers cX6_uppers 3 (some .int), Cond.methodLink RX6 45 yX6_countWays, Cond.instanceMethod yX6_countWays, Cond.selects RX6 yX6_countWays yX6_countWays, Cond.code yX6_countWays cX6_countWays 2 none, Cond.fieldLink RX6 28 "TwiceHeard$Telling" "ways" "[I", Cond.fieldLink RX6 31 "TwiceHeard$Telling" "arrivals" "[I", Cond.methodLink RX7 150 yX6_gather, Cond.instanceMethod yX6_gather, Cond.selects RX6 yX6_gather yX6_gather, Cond.code yX6_gather cX6_gather 4 none, Cond.fieldLink RX6 34 "TwiceHeard$Telling" "held" "[J", Cond.constantLong RX6 91 (-1), Cond.fieldLink RX6 93 "TwiceHeard$Net" "heard" "[I", Cond.fieldLink RX6 96 "TwiceHeard$Net" "salt" "I", Cond.methodLink RX6 99 yX5_ofItems, Cond.static yX5_ofItems]
def wsX7_guess_r4 : List Cond := [Cond.initialized RX5, Cond.code yX5_ofItems cX5_ofItems 7 (some .long), Cond.constantLong RX5 17 (4098049024), Cond.methodLink RX5 11 yJ6_bitCount_0f7a4, Cond.static yJ6_bitCount_0f7a4, Cond.initialized RJ6, Cond.code yJ6_bitCount_0f7a4 cJ6_bitCount_0f7a4 1 (some .int), Cond.constant RJ6 265 (1431655765), Cond.constant RJ6 266 (858993459), Cond.constant RJ6 267 (252645135), Cond.static yX7_markOf, Cond.code yX7_markOf cX7_markOf 4 (some .int), Cond.constantLong RX7 239 (2), Cond.constantLong RX7 241 (40503), Cond.constantLong RX7 243 (65536), Cond.constantLong RX7 245 (64), Cond.methodLink RX5 27 yX5_withMark, Cond.static yX5_withMark, Cond.code yX5_withMark cX5_withMark 10 (some .long), Cond.constantLong RX5 44 (2000), Cond.constantLong RX5 46 (4000000), Cond.methodLink RX5 34 yX5_first, Cond.static yX5_first, Cond.code yX5_first cX5_first 2 (some .long)]
def wsX7_guess_r5 : List Cond := [Cond.methodLink RX5 38 yX5_second, Cond.static yX5_second, Cond.code yX5_second cX5_second 2 (some .long), Cond.methodLink RX5 41 yX5_third, Cond.static yX5_third, Cond.code yX5_third cX5_third 2 (some .long), Cond.static yX7_rankOf, Cond.code yX7_rankOf cX7_rankOf 3 (some .int), Cond.methodLink RX6 105 yX5_together, Cond.static yX5_together, Cond.code yX5_together cX5_together 5 (some .long), Cond.methodLink RX7 157 yX7_guessOf, Cond.instanceMethod yX7_guessOf, Cond.selects RX7 yX7_guessOf yX7_guessOf, Cond.code yX7_guessOf cX7_guessOf 3 (some .int), Cond.fieldLink RX7 111 "TwiceHeard$Telling" "ring" "[I", Cond.fieldLink RX7 154 "TwiceHeard$Telling" "held" "[J", Cond.methodLink RX7 247 yX5_guessByBits, Cond.static yX5_guessByBits, Cond.code yX5_guessByBits cX5_guessByBits 3 (some .int), Cond.methodLink RX7 253 yX5_guessByLeast, Cond.static yX5_guessByLeast, Cond.code yX5_guessByLeast cX5_guessByLeast 4 (some .int), Cond.constantLong RX5 48 (1024)]
def wsX7_guess_r6 : List Cond := [Cond.constantLong RX5 50 (2048)]
def wsX7_guess : List Cond := .code yX7_guess cX7_guess 3 (some .int) :: ((wsX7_guess_r1 ++ (wsX7_guess_r2 ++ (wsX7_guess_r3 ++ (wsX7_guess_r4 ++ (wsX7_guess_r5 ++ wsX7_guess_r6))))) ++ wsX70 ++ wsX30 ++ wsX60)
def wsX7_off_r1 : List Cond := [Cond.constant RX7 105 (-1000000002), Cond.fieldLink RX7 26 "TwiceHeard" "telling" "LTwiceHeard$Telling;", Cond.fieldLink RX7 10 "TwiceHeard" "net" "LTwiceHeard$Net;", Cond.constant RX7 160 (100000), Cond.methodLink RX7 134 yX7_within, Cond.static yX7_within, Cond.initialized RX7, Cond.code yX7_within cX7_within 3 (some .boolean), Cond.methodLink RX7 55 yX6_trace, Cond.instanceMethod yX6_trace, Cond.selects RX6 yX6_trace yX6_trace, Cond.initialized RX6, Cond.code yX6_trace cX6_trace 2 none, Cond.methodLink RX6 38 yX6_layRings, Cond.instanceMethod yX6_layRings, Cond.selects RX6 yX6_layRings yX6_layRings, Cond.code yX6_layRings cX6_layRings 5 none, Cond.fieldLink RX6 9 "TwiceHeard$Telling" "ring" "[I", Cond.fieldLink RX6 54 "TwiceHeard$Telling" "greatestRing" "I", Cond.fieldLink RX6 15 "TwiceHeard$Telling" "ringSets" "[I", Cond.methodLink RX6 48 yJ7_fill_53178, Cond.static yJ7_fill_53178, Cond.initialized RJ7, Cond.code yJ7_fill_53178 cJ7_fill_53178 4 none]
def wsX7_off_r2 : List Cond := [Cond.methodLink RX6 58 yX6_settle, Cond.instanceMethod yX6_settle, Cond.selects RX6 yX6_settle yX6_settle, Cond.code yX6_settle cX6_settle 6 (some .int), Cond.fieldLink RX6 62 "TwiceHeard$Net" "size" "I", Cond.fieldLink RX6 71 "TwiceHeard$Net" "linked" "[I", Cond.static yX7_isIn, Cond.code yX7_isIn cX7_isIn 2 (some .boolean), Cond.methodLink RX6 42 yX6_writeLetters, Cond.instanceMethod yX6_writeLetters, Cond.selects RX6 yX6_writeLetters yX6_writeLetters, Cond.code yX6_writeLetters cX6_writeLetters 4 none, Cond.fieldLink RX6 74 "TwiceHeard$Telling" "letters" "I", Cond.methodLink RX6 77 yX6_writeFrom, Cond.instanceMethod yX6_writeFrom, Cond.selects RX6 yX6_writeFrom yX6_writeFrom, Cond.code yX6_writeFrom cX6_writeFrom 5 none, Cond.fieldLink RX6 85 "TwiceHeard$Net" "mode" "I", Cond.fieldLink RX6 18 "TwiceHeard$Telling" "from" "[I", Cond.fieldLink RX6 21 "TwiceHeard$Telling" "to" "[I", Cond.fieldLink RX6 24 "TwiceHeard$Telling" "comes" "[Z", Cond.fieldLink RX6 88 "TwiceHeard$Net" "lost" "[I", Cond.methodLink RX6 81 yX6_uppers, Cond.instanceMethod yX6_uppers]
def wsX7_off_r3 : List Cond := [Cond.selects RX6 yX6_uppers yX6_uppers, Cond.code yX6_uppers cX6_uppers 3 (some .int), Cond.methodLink RX6 45 yX6_countWays, Cond.instanceMethod yX6_countWays, Cond.selects RX6 yX6_countWays yX6_countWays, Cond.code yX6_countWays cX6_countWays 2 none, Cond.fieldLink RX6 28 "TwiceHeard$Telling" "ways" "[I", Cond.fieldLink RX6 31 "TwiceHeard$Telling" "arrivals" "[I", Cond.methodLink RX7 150 yX6_gather, Cond.instanceMethod yX6_gather, Cond.selects RX6 yX6_gather yX6_gather, Cond.code yX6_gather cX6_gather 4 none, Cond.fieldLink RX6 34 "TwiceHeard$Telling" "held" "[J", Cond.constantLong RX6 91 (-1), Cond.fieldLink RX6 93 "TwiceHeard$Net" "heard" "[I", Cond.fieldLink RX6 96 "TwiceHeard$Net" "salt" "I", Cond.methodLink RX6 99 yX5_ofItems, Cond.static yX5_ofItems, Cond.initialized RX5, Cond.code yX5_ofItems cX5_ofItems 7 (some .long), Cond.constantLong RX5 17 (4098049024), Cond.methodLink RX5 11 yJ6_bitCount_0f7a4, Cond.static yJ6_bitCount_0f7a4, Cond.initialized RJ6]
def wsX7_off_r4 : List Cond := [Cond.code yJ6_bitCount_0f7a4 cJ6_bitCount_0f7a4 1 (some .int), Cond.constant RJ6 265 (1431655765), Cond.constant RJ6 266 (858993459), Cond.constant RJ6 267 (252645135), Cond.static yX7_markOf, Cond.code yX7_markOf cX7_markOf 4 (some .int), Cond.constantLong RX7 239 (2), Cond.constantLong RX7 241 (40503), Cond.constantLong RX7 243 (65536), Cond.constantLong RX7 245 (64), Cond.methodLink RX5 27 yX5_withMark, Cond.static yX5_withMark, Cond.code yX5_withMark cX5_withMark 10 (some .long), Cond.constantLong RX5 44 (2000), Cond.constantLong RX5 46 (4000000), Cond.methodLink RX5 34 yX5_first, Cond.static yX5_first, Cond.code yX5_first cX5_first 2 (some .long), Cond.methodLink RX5 38 yX5_second, Cond.static yX5_second, Cond.code yX5_second cX5_second 2 (some .long), Cond.methodLink RX5 41 yX5_third, Cond.static yX5_third, Cond.code yX5_third cX5_third 2 (some .long)]
def wsX7_off_r5 : List Cond := [Cond.static yX7_rankOf, Cond.code yX7_rankOf cX7_rankOf 3 (some .int), Cond.methodLink RX6 105 yX5_together, Cond.static yX5_together, Cond.code yX5_together cX5_together 5 (some .long), Cond.methodLink RX7 157 yX7_guessOf, Cond.instanceMethod yX7_guessOf, Cond.selects RX7 yX7_guessOf yX7_guessOf, Cond.code yX7_guessOf cX7_guessOf 3 (some .int), Cond.fieldLink RX7 111 "TwiceHeard$Telling" "ring" "[I", Cond.fieldLink RX7 154 "TwiceHeard$Telling" "held" "[J", Cond.methodLink RX7 247 yX5_guessByBits, Cond.static yX5_guessByBits, Cond.code yX5_guessByBits cX5_guessByBits 3 (some .int), Cond.methodLink RX7 253 yX5_guessByLeast, Cond.static yX5_guessByLeast, Cond.code yX5_guessByLeast cX5_guessByLeast 4 (some .int), Cond.constantLong RX5 48 (1024), Cond.constantLong RX5 50 (2048), Cond.methodLink RX7 87 yX6_trueCount, Cond.instanceMethod yX6_trueCount, Cond.selects RX6 yX6_trueCount yX6_trueCount, Cond.code yX6_trueCount cX6_trueCount 4 (some .int), Cond.methodLink RX6 109 yJ6_bitCount_0f7a4]
def wsX7_off : List Cond := .code yX7_off cX7_off 2 (some .int) :: ((wsX7_off_r1 ++ (wsX7_off_r2 ++ (wsX7_off_r3 ++ (wsX7_off_r4 ++ wsX7_off_r5)))) ++ wsX70 ++ wsX60 ++ wsX30)
def wsX7_letter_r1 : List Cond := [Cond.fieldLink RX7 26 "TwiceHeard" "telling" "LTwiceHeard$Telling;", Cond.fieldLink RX7 10 "TwiceHeard" "net" "LTwiceHeard$Net;", Cond.fieldLink RX7 91 "TwiceHeard$Telling" "letters" "I", Cond.constant RX7 110 (-1000000001), Cond.fieldLink RX7 161 "TwiceHeard$Telling" "from" "[I", Cond.fieldLink RX7 164 "TwiceHeard$Telling" "to" "[I", Cond.fieldLink RX7 167 "TwiceHeard$Telling" "comes" "[Z", Cond.constant RX7 105 (-1000000002), Cond.methodLink RX7 55 yX6_trace, Cond.instanceMethod yX6_trace, Cond.selects RX6 yX6_trace yX6_trace, Cond.initialized RX6, Cond.code yX6_trace cX6_trace 2 none, Cond.methodLink RX6 38 yX6_layRings, Cond.instanceMethod yX6_layRings, Cond.selects RX6 yX6_layRings yX6_layRings, Cond.code yX6_layRings cX6_layRings 5 none, Cond.fieldLink RX6 9 "TwiceHeard$Telling" "ring" "[I", Cond.fieldLink RX6 54 "TwiceHeard$Telling" "greatestRing" "I", Cond.fieldLink RX6 15 "TwiceHeard$Telling" "ringSets" "[I", Cond.methodLink RX6 48 yJ7_fill_53178, Cond.static yJ7_fill_53178, Cond.initialized RJ7, Cond.code yJ7_fill_53178 cJ7_fill_53178 4 none]
def wsX7_letter_r2 : List Cond := [Cond.methodLink RX6 58 yX6_settle, Cond.instanceMethod yX6_settle, Cond.selects RX6 yX6_settle yX6_settle, Cond.code yX6_settle cX6_settle 6 (some .int), Cond.fieldLink RX6 62 "TwiceHeard$Net" "size" "I", Cond.fieldLink RX6 71 "TwiceHeard$Net" "linked" "[I", Cond.static yX7_isIn, Cond.initialized RX7, Cond.code yX7_isIn cX7_isIn 2 (some .boolean), Cond.methodLink RX6 42 yX6_writeLetters, Cond.instanceMethod yX6_writeLetters, Cond.selects RX6 yX6_writeLetters yX6_writeLetters, Cond.code yX6_writeLetters cX6_writeLetters 4 none, Cond.fieldLink RX6 74 "TwiceHeard$Telling" "letters" "I", Cond.methodLink RX6 77 yX6_writeFrom, Cond.instanceMethod yX6_writeFrom, Cond.selects RX6 yX6_writeFrom yX6_writeFrom, Cond.code yX6_writeFrom cX6_writeFrom 5 none, Cond.fieldLink RX6 85 "TwiceHeard$Net" "mode" "I", Cond.fieldLink RX6 18 "TwiceHeard$Telling" "from" "[I", Cond.fieldLink RX6 21 "TwiceHeard$Telling" "to" "[I", Cond.fieldLink RX6 24 "TwiceHeard$Telling" "comes" "[Z", Cond.fieldLink RX6 88 "TwiceHeard$Net" "lost" "[I", Cond.methodLink RX6 81 yX6_uppers]
def wsX7_letter_r3 : List Cond := [Cond.instanceMethod yX6_uppers, Cond.selects RX6 yX6_uppers yX6_uppers, Cond.code yX6_uppers cX6_uppers 3 (some .int), Cond.methodLink RX6 45 yX6_countWays, Cond.instanceMethod yX6_countWays, Cond.selects RX6 yX6_countWays yX6_countWays, Cond.code yX6_countWays cX6_countWays 2 none, Cond.fieldLink RX6 28 "TwiceHeard$Telling" "ways" "[I", Cond.fieldLink RX6 31 "TwiceHeard$Telling" "arrivals" "[I", Cond.methodLink RX7 134 yX7_within, Cond.static yX7_within, Cond.code yX7_within cX7_within 3 (some .boolean)]
def wsX7_letter : List Cond := .code yX7_letter cX7_letter 3 (some .int) :: ((wsX7_letter_r1 ++ (wsX7_letter_r2 ++ wsX7_letter_r3)) ++ wsX70 ++ wsX60 ++ wsX30)
def wsX7_sent_r1 : List Cond := [Cond.fieldLink RX7 26 "TwiceHeard" "telling" "LTwiceHeard$Telling;", Cond.fieldLink RX7 10 "TwiceHeard" "net" "LTwiceHeard$Net;", Cond.fieldLink RX7 91 "TwiceHeard$Telling" "letters" "I", Cond.constantLong RX7 146 (-1000000001), Cond.constantLong RX7 148 (-1000000002), Cond.fieldLink RX7 154 "TwiceHeard$Telling" "held" "[J", Cond.fieldLink RX7 161 "TwiceHeard$Telling" "from" "[I", Cond.methodLink RX7 55 yX6_trace, Cond.instanceMethod yX6_trace, Cond.selects RX6 yX6_trace yX6_trace, Cond.initialized RX6, Cond.code yX6_trace cX6_trace 2 none, Cond.methodLink RX6 38 yX6_layRings, Cond.instanceMethod yX6_layRings, Cond.selects RX6 yX6_layRings yX6_layRings, Cond.code yX6_layRings cX6_layRings 5 none, Cond.fieldLink RX6 9 "TwiceHeard$Telling" "ring" "[I", Cond.fieldLink RX6 54 "TwiceHeard$Telling" "greatestRing" "I", Cond.fieldLink RX6 15 "TwiceHeard$Telling" "ringSets" "[I", Cond.methodLink RX6 48 yJ7_fill_53178, Cond.static yJ7_fill_53178, Cond.initialized RJ7, Cond.code yJ7_fill_53178 cJ7_fill_53178 4 none, Cond.methodLink RX6 58 yX6_settle]
def wsX7_sent_r2 : List Cond := [Cond.instanceMethod yX6_settle, Cond.selects RX6 yX6_settle yX6_settle, Cond.code yX6_settle cX6_settle 6 (some .int), Cond.fieldLink RX6 62 "TwiceHeard$Net" "size" "I", Cond.fieldLink RX6 71 "TwiceHeard$Net" "linked" "[I", Cond.static yX7_isIn, Cond.initialized RX7, Cond.code yX7_isIn cX7_isIn 2 (some .boolean), Cond.methodLink RX6 42 yX6_writeLetters, Cond.instanceMethod yX6_writeLetters, Cond.selects RX6 yX6_writeLetters yX6_writeLetters, Cond.code yX6_writeLetters cX6_writeLetters 4 none, Cond.fieldLink RX6 74 "TwiceHeard$Telling" "letters" "I", Cond.methodLink RX6 77 yX6_writeFrom, Cond.instanceMethod yX6_writeFrom, Cond.selects RX6 yX6_writeFrom yX6_writeFrom, Cond.code yX6_writeFrom cX6_writeFrom 5 none, Cond.fieldLink RX6 85 "TwiceHeard$Net" "mode" "I", Cond.fieldLink RX6 18 "TwiceHeard$Telling" "from" "[I", Cond.fieldLink RX6 21 "TwiceHeard$Telling" "to" "[I", Cond.fieldLink RX6 24 "TwiceHeard$Telling" "comes" "[Z", Cond.fieldLink RX6 88 "TwiceHeard$Net" "lost" "[I", Cond.methodLink RX6 81 yX6_uppers, Cond.instanceMethod yX6_uppers]
def wsX7_sent_r3 : List Cond := [Cond.selects RX6 yX6_uppers yX6_uppers, Cond.code yX6_uppers cX6_uppers 3 (some .int), Cond.methodLink RX6 45 yX6_countWays, Cond.instanceMethod yX6_countWays, Cond.selects RX6 yX6_countWays yX6_countWays, Cond.code yX6_countWays cX6_countWays 2 none, Cond.fieldLink RX6 28 "TwiceHeard$Telling" "ways" "[I", Cond.fieldLink RX6 31 "TwiceHeard$Telling" "arrivals" "[I", Cond.methodLink RX7 134 yX7_within, Cond.static yX7_within, Cond.code yX7_within cX7_within 3 (some .boolean), Cond.methodLink RX7 150 yX6_gather, Cond.instanceMethod yX6_gather, Cond.selects RX6 yX6_gather yX6_gather, Cond.code yX6_gather cX6_gather 4 none, Cond.fieldLink RX6 34 "TwiceHeard$Telling" "held" "[J", Cond.constantLong RX6 91 (-1), Cond.fieldLink RX6 93 "TwiceHeard$Net" "heard" "[I", Cond.fieldLink RX6 96 "TwiceHeard$Net" "salt" "I", Cond.methodLink RX6 99 yX5_ofItems, Cond.static yX5_ofItems, Cond.initialized RX5, Cond.code yX5_ofItems cX5_ofItems 7 (some .long), Cond.constantLong RX5 17 (4098049024)]
def wsX7_sent_r4 : List Cond := [Cond.methodLink RX5 11 yJ6_bitCount_0f7a4, Cond.static yJ6_bitCount_0f7a4, Cond.initialized RJ6, Cond.code yJ6_bitCount_0f7a4 cJ6_bitCount_0f7a4 1 (some .int), Cond.constant RJ6 265 (1431655765), Cond.constant RJ6 266 (858993459), Cond.constant RJ6 267 (252645135), Cond.static yX7_markOf, Cond.code yX7_markOf cX7_markOf 4 (some .int), Cond.constantLong RX7 239 (2), Cond.constantLong RX7 241 (40503), Cond.constantLong RX7 243 (65536), Cond.constantLong RX7 245 (64), Cond.methodLink RX5 27 yX5_withMark, Cond.static yX5_withMark, Cond.code yX5_withMark cX5_withMark 10 (some .long), Cond.constantLong RX5 44 (2000), Cond.constantLong RX5 46 (4000000), Cond.methodLink RX5 34 yX5_first, Cond.static yX5_first, Cond.code yX5_first cX5_first 2 (some .long), Cond.methodLink RX5 38 yX5_second, Cond.static yX5_second, Cond.code yX5_second cX5_second 2 (some .long)]
def wsX7_sent_r5 : List Cond := [Cond.methodLink RX5 41 yX5_third, Cond.static yX5_third, Cond.code yX5_third cX5_third 2 (some .long), Cond.static yX7_rankOf, Cond.code yX7_rankOf cX7_rankOf 3 (some .int), Cond.methodLink RX6 105 yX5_together, Cond.static yX5_together, Cond.code yX5_together cX5_together 5 (some .long)]
def wsX7_sent : List Cond := .code yX7_sent cX7_sent 3 (some .long) :: ((wsX7_sent_r1 ++ (wsX7_sent_r2 ++ (wsX7_sent_r3 ++ (wsX7_sent_r4 ++ wsX7_sent_r5)))) ++ wsX70 ++ wsX60 ++ wsX30)
def wsJ7_fill_d0a16 : List Cond := .code yJ7_fill_d0a16 cJ7_fill_d0a16 5 none :: ([])
def wsX7_waysOfRank : List Cond := .code yX7_waysOfRank cX7_waysOfRank 1 (some .long) :: ([])
def wsX7_rowsJoined : List Cond := .code yX7_rowsJoined cX7_rowsJoined 12 (some .long) :: ([.fieldLink RX7 51 "TwiceHeard" "rowCounts" "[J"] ++ wsX70)
def wsX7_waysAboveRank : List Cond := .code yX7_waysAboveRank cX7_waysAboveRank 1 (some .long) :: ([])
def wsX7_rows : List Cond := .code yX7_rows cX7_rows 5 (some .long) :: ([.constantLong RX7 148 (-1000000002), .fieldLink RX7 51 "TwiceHeard" "rowCounts" "[J", .methodLink RX7 134 yX7_within, .static yX7_within, .initialized RX7, .code yX7_within cX7_within 3 (some .boolean), .methodLink RX7 171 yJ7_fill_d0a16, .static yJ7_fill_d0a16, .initialized RJ7, .code yJ7_fill_d0a16 cJ7_fill_d0a16 5 none, .methodLink RX7 177 yX7_waysOfRank, .static yX7_waysOfRank, .code yX7_waysOfRank cX7_waysOfRank 1 (some .long), .methodLink RX7 181 yX7_rowsJoined, .instanceMethod yX7_rowsJoined, .selects RX7 yX7_rowsJoined yX7_rowsJoined, .code yX7_rowsJoined cX7_rowsJoined 12 (some .long), .methodLink RX7 185 yX7_waysAboveRank, .static yX7_waysAboveRank, .code yX7_waysAboveRank cX7_waysAboveRank 1 (some .long)] ++ wsX70)
def wsX7_node_r1 : List Cond := [Cond.fieldLink RX7 10 "TwiceHeard" "net" "LTwiceHeard$Net;", Cond.constant RX7 110 (-1000000001), Cond.constant RX7 191 (65535), Cond.constant RX7 105 (-1000000002), Cond.fieldLink RX7 59 "TwiceHeard$Net" "size" "I", Cond.constant RX7 192 (-1000000004), Cond.fieldLink RX7 19 "TwiceHeard" "past" "LTwiceHeard$Past;", Cond.methodLink RX7 188 yX3_everyone, Cond.instanceMethod yX3_everyone, Cond.selects RX3 yX3_everyone yX3_everyone, Cond.initialized RX3, Cond.code yX3_everyone cX3_everyone 1 (some .int), Cond.fieldLink RX3 9 "TwiceHeard$Net" "size" "I", Cond.methodLink RX7 134 yX7_within, Cond.static yX7_within, Cond.initialized RX7, Cond.code yX7_within cX7_within 3 (some .boolean), Cond.methodLink RX7 193 yX4_remember, Cond.instanceMethod yX4_remember, Cond.selects RX4 yX4_remember yX4_remember, Cond.initialized RX4, Cond.code yX4_remember cX4_remember 2 none, Cond.fieldLink RX4 11 "TwiceHeard$Past" "states" "[LTwiceHeard$Net;", Cond.fieldLink RX4 18 "TwiceHeard$Past" "next" "I"]
def wsX7_node_r2 : List Cond := [Cond.fieldLink RX4 26 "TwiceHeard$Past" "size" "I", Cond.methodLink RX4 29 Lib.Math.min.name, Cond.static Lib.Math.min.name, Cond.initialized "java/lang/Math", Cond.code Lib.Math.min.name Lib.Math.min.code 2 (some .int), Cond.methodLink RX4 22 yX3_become, Cond.instanceMethod yX3_become, Cond.selects RX3 yX3_become yX3_become, Cond.code yX3_become cX3_become 2 none, Cond.fieldLink RX3 25 "TwiceHeard$Net" "salt" "I", Cond.fieldLink RX3 28 "TwiceHeard$Net" "mode" "I", Cond.fieldLink RX3 15 "TwiceHeard$Net" "linked" "[I", Cond.methodLink RX3 31 arraycopyName, Cond.native arraycopyName, Cond.static arraycopyName, Cond.initialized "java/lang/System", Cond.fieldLink RX3 19 "TwiceHeard$Net" "lost" "[I", Cond.fieldLink RX3 22 "TwiceHeard$Net" "heard" "[I", Cond.methodLink RX7 196 yX3_add, Cond.instanceMethod yX3_add, Cond.selects RX3 yX3_add yX3_add, Cond.code yX3_add cX3_add 5 none, Cond.static yX7_isIn, Cond.code yX7_isIn cX7_isIn 2 (some .boolean)]
def wsX7_node : List Cond := .code yX7_node cX7_node 3 (some .int) :: ((wsX7_node_r1 ++ wsX7_node_r2) ++ wsX70 ++ wsX30 ++ wsX40)
def wsX7_take_r1 : List Cond := [Cond.fieldLink RX7 10 "TwiceHeard" "net" "LTwiceHeard$Net;", Cond.fieldLink RX7 59 "TwiceHeard$Net" "size" "I", Cond.constant RX7 200 (-1000000003), Cond.fieldLink RX7 19 "TwiceHeard" "past" "LTwiceHeard$Past;", Cond.methodLink RX7 193 yX4_remember, Cond.instanceMethod yX4_remember, Cond.selects RX4 yX4_remember yX4_remember, Cond.initialized RX4, Cond.code yX4_remember cX4_remember 2 none, Cond.fieldLink RX4 11 "TwiceHeard$Past" "states" "[LTwiceHeard$Net;", Cond.fieldLink RX4 18 "TwiceHeard$Past" "next" "I", Cond.fieldLink RX4 26 "TwiceHeard$Past" "size" "I", Cond.methodLink RX4 29 Lib.Math.min.name, Cond.static Lib.Math.min.name, Cond.initialized "java/lang/Math", Cond.code Lib.Math.min.name Lib.Math.min.code 2 (some .int), Cond.methodLink RX4 22 yX3_become, Cond.instanceMethod yX3_become, Cond.selects RX3 yX3_become yX3_become, Cond.initialized RX3, Cond.code yX3_become cX3_become 2 none, Cond.fieldLink RX3 9 "TwiceHeard$Net" "size" "I", Cond.fieldLink RX3 25 "TwiceHeard$Net" "salt" "I", Cond.fieldLink RX3 28 "TwiceHeard$Net" "mode" "I"]
def wsX7_take_r2 : List Cond := [Cond.fieldLink RX3 15 "TwiceHeard$Net" "linked" "[I", Cond.methodLink RX3 31 arraycopyName, Cond.native arraycopyName, Cond.static arraycopyName, Cond.initialized "java/lang/System", Cond.fieldLink RX3 19 "TwiceHeard$Net" "lost" "[I", Cond.fieldLink RX3 22 "TwiceHeard$Net" "heard" "[I", Cond.methodLink RX7 201 yX3_dropLatest, Cond.instanceMethod yX3_dropLatest, Cond.selects RX3 yX3_dropLatest yX3_dropLatest, Cond.code yX3_dropLatest cX3_dropLatest 3 none, Cond.methodLink RX3 45 yX3_everyone, Cond.instanceMethod yX3_everyone, Cond.selects RX3 yX3_everyone yX3_everyone, Cond.code yX3_everyone cX3_everyone 1 (some .int)]
def wsX7_take : List Cond := .code yX7_take cX7_take 1 (some .int) :: ((wsX7_take_r1 ++ wsX7_take_r2) ++ wsX70 ++ wsX30 ++ wsX40)
def wsX7_link_r1 : List Cond := [Cond.fieldLink RX7 10 "TwiceHeard" "net" "LTwiceHeard$Net;", Cond.constant RX7 110 (-1000000001), Cond.fieldLink RX7 19 "TwiceHeard" "past" "LTwiceHeard$Past;", Cond.methodLink RX7 106 yX3_has, Cond.instanceMethod yX3_has, Cond.selects RX3 yX3_has yX3_has, Cond.initialized RX3, Cond.code yX3_has cX3_has 2 (some .boolean), Cond.fieldLink RX3 9 "TwiceHeard$Net" "size" "I", Cond.methodLink RX7 193 yX4_remember, Cond.instanceMethod yX4_remember, Cond.selects RX4 yX4_remember yX4_remember, Cond.initialized RX4, Cond.code yX4_remember cX4_remember 2 none, Cond.fieldLink RX4 11 "TwiceHeard$Past" "states" "[LTwiceHeard$Net;", Cond.fieldLink RX4 18 "TwiceHeard$Past" "next" "I", Cond.fieldLink RX4 26 "TwiceHeard$Past" "size" "I", Cond.methodLink RX4 29 Lib.Math.min.name, Cond.static Lib.Math.min.name, Cond.initialized "java/lang/Math", Cond.code Lib.Math.min.name Lib.Math.min.code 2 (some .int), Cond.methodLink RX4 22 yX3_become, Cond.instanceMethod yX3_become, Cond.selects RX3 yX3_become yX3_become]
def wsX7_link_r2 : List Cond := [Cond.code yX3_become cX3_become 2 none, Cond.fieldLink RX3 25 "TwiceHeard$Net" "salt" "I", Cond.fieldLink RX3 28 "TwiceHeard$Net" "mode" "I", Cond.fieldLink RX3 15 "TwiceHeard$Net" "linked" "[I", Cond.methodLink RX3 31 arraycopyName, Cond.native arraycopyName, Cond.static arraycopyName, Cond.initialized "java/lang/System", Cond.fieldLink RX3 19 "TwiceHeard$Net" "lost" "[I", Cond.fieldLink RX3 22 "TwiceHeard$Net" "heard" "[I", Cond.methodLink RX7 204 yX3_turnLink, Cond.instanceMethod yX3_turnLink, Cond.selects RX3 yX3_turnLink yX3_turnLink, Cond.code yX3_turnLink cX3_turnLink 3 none, Cond.methodLink RX7 127 yX3_hasLink, Cond.instanceMethod yX3_hasLink, Cond.selects RX3 yX3_hasLink yX3_hasLink, Cond.code yX3_hasLink cX3_hasLink 3 (some .boolean), Cond.methodLink RX3 37 yX3_has, Cond.static yX7_isIn, Cond.initialized RX7, Cond.code yX7_isIn cX7_isIn 2 (some .boolean)]
def wsX7_link : List Cond := .code yX7_link cX7_link 3 (some .int) :: ((wsX7_link_r1 ++ wsX7_link_r2) ++ wsX70 ++ wsX30 ++ wsX40)
def wsX7_lose_r1 : List Cond := [Cond.fieldLink RX7 10 "TwiceHeard" "net" "LTwiceHeard$Net;", Cond.constant RX7 110 (-1000000001), Cond.fieldLink RX7 19 "TwiceHeard" "past" "LTwiceHeard$Past;", Cond.methodLink RX7 127 yX3_hasLink, Cond.instanceMethod yX3_hasLink, Cond.selects RX3 yX3_hasLink yX3_hasLink, Cond.initialized RX3, Cond.code yX3_hasLink cX3_hasLink 3 (some .boolean), Cond.fieldLink RX3 15 "TwiceHeard$Net" "linked" "[I", Cond.methodLink RX3 37 yX3_has, Cond.instanceMethod yX3_has, Cond.selects RX3 yX3_has yX3_has, Cond.code yX3_has cX3_has 2 (some .boolean), Cond.fieldLink RX3 9 "TwiceHeard$Net" "size" "I", Cond.static yX7_isIn, Cond.initialized RX7, Cond.code yX7_isIn cX7_isIn 2 (some .boolean), Cond.methodLink RX7 193 yX4_remember, Cond.instanceMethod yX4_remember, Cond.selects RX4 yX4_remember yX4_remember, Cond.initialized RX4, Cond.code yX4_remember cX4_remember 2 none, Cond.fieldLink RX4 11 "TwiceHeard$Past" "states" "[LTwiceHeard$Net;", Cond.fieldLink RX4 18 "TwiceHeard$Past" "next" "I"]
def wsX7_lose_r2 : List Cond := [Cond.fieldLink RX4 26 "TwiceHeard$Past" "size" "I", Cond.methodLink RX4 29 Lib.Math.min.name, Cond.static Lib.Math.min.name, Cond.initialized "java/lang/Math", Cond.code Lib.Math.min.name Lib.Math.min.code 2 (some .int), Cond.methodLink RX4 22 yX3_become, Cond.instanceMethod yX3_become, Cond.selects RX3 yX3_become yX3_become, Cond.code yX3_become cX3_become 2 none, Cond.fieldLink RX3 25 "TwiceHeard$Net" "salt" "I", Cond.fieldLink RX3 28 "TwiceHeard$Net" "mode" "I", Cond.methodLink RX3 31 arraycopyName, Cond.native arraycopyName, Cond.static arraycopyName, Cond.initialized "java/lang/System", Cond.fieldLink RX3 19 "TwiceHeard$Net" "lost" "[I", Cond.fieldLink RX3 22 "TwiceHeard$Net" "heard" "[I", Cond.methodLink RX7 207 yX3_turnLost, Cond.instanceMethod yX3_turnLost, Cond.selects RX3 yX3_turnLost yX3_turnLost, Cond.code yX3_turnLost cX3_turnLost 3 none, Cond.methodLink RX7 131 yX3_hasLost, Cond.instanceMethod yX3_hasLost, Cond.selects RX3 yX3_hasLost yX3_hasLost]
def wsX7_lose_r3 : List Cond := [Cond.code yX3_hasLost cX3_hasLost 3 (some .boolean)]
def wsX7_lose : List Cond := .code yX7_lose cX7_lose 3 (some .int) :: ((wsX7_lose_r1 ++ (wsX7_lose_r2 ++ wsX7_lose_r3)) ++ wsX70 ++ wsX30 ++ wsX40)
def wsX7_hear_r1 : List Cond := [Cond.fieldLink RX7 10 "TwiceHeard" "net" "LTwiceHeard$Net;", Cond.constant RX7 110 (-1000000001), Cond.constant RX7 191 (65535), Cond.constant RX7 105 (-1000000002), Cond.fieldLink RX7 19 "TwiceHeard" "past" "LTwiceHeard$Past;", Cond.fieldLink RX7 118 "TwiceHeard$Net" "heard" "[I", Cond.methodLink RX7 106 yX3_has, Cond.instanceMethod yX3_has, Cond.selects RX3 yX3_has yX3_has, Cond.initialized RX3, Cond.code yX3_has cX3_has 2 (some .boolean), Cond.fieldLink RX3 9 "TwiceHeard$Net" "size" "I", Cond.methodLink RX7 134 yX7_within, Cond.static yX7_within, Cond.initialized RX7, Cond.code yX7_within cX7_within 3 (some .boolean), Cond.methodLink RX7 193 yX4_remember, Cond.instanceMethod yX4_remember, Cond.selects RX4 yX4_remember yX4_remember, Cond.initialized RX4, Cond.code yX4_remember cX4_remember 2 none, Cond.fieldLink RX4 11 "TwiceHeard$Past" "states" "[LTwiceHeard$Net;", Cond.fieldLink RX4 18 "TwiceHeard$Past" "next" "I", Cond.fieldLink RX4 26 "TwiceHeard$Past" "size" "I"]
def wsX7_hear_r2 : List Cond := [Cond.methodLink RX4 29 Lib.Math.min.name, Cond.static Lib.Math.min.name, Cond.initialized "java/lang/Math", Cond.code Lib.Math.min.name Lib.Math.min.code 2 (some .int), Cond.methodLink RX4 22 yX3_become, Cond.instanceMethod yX3_become, Cond.selects RX3 yX3_become yX3_become, Cond.code yX3_become cX3_become 2 none, Cond.fieldLink RX3 25 "TwiceHeard$Net" "salt" "I", Cond.fieldLink RX3 28 "TwiceHeard$Net" "mode" "I", Cond.fieldLink RX3 15 "TwiceHeard$Net" "linked" "[I", Cond.methodLink RX3 31 arraycopyName, Cond.native arraycopyName, Cond.static arraycopyName, Cond.initialized "java/lang/System", Cond.fieldLink RX3 19 "TwiceHeard$Net" "lost" "[I", Cond.fieldLink RX3 22 "TwiceHeard$Net" "heard" "[I"]
def wsX7_hear : List Cond := .code yX7_hear cX7_hear 4 (some .int) :: ((wsX7_hear_r1 ++ wsX7_hear_r2) ++ wsX70 ++ wsX30 ++ wsX40)
def wsX7_salt_r1 : List Cond := [Cond.constant RX7 191 (65535), Cond.constant RX7 105 (-1000000002), Cond.fieldLink RX7 19 "TwiceHeard" "past" "LTwiceHeard$Past;", Cond.fieldLink RX7 10 "TwiceHeard" "net" "LTwiceHeard$Net;", Cond.fieldLink RX7 74 "TwiceHeard$Net" "salt" "I", Cond.methodLink RX7 134 yX7_within, Cond.static yX7_within, Cond.initialized RX7, Cond.code yX7_within cX7_within 3 (some .boolean), Cond.methodLink RX7 193 yX4_remember, Cond.instanceMethod yX4_remember, Cond.selects RX4 yX4_remember yX4_remember, Cond.initialized RX4, Cond.code yX4_remember cX4_remember 2 none, Cond.fieldLink RX4 11 "TwiceHeard$Past" "states" "[LTwiceHeard$Net;", Cond.fieldLink RX4 18 "TwiceHeard$Past" "next" "I", Cond.fieldLink RX4 26 "TwiceHeard$Past" "size" "I", Cond.methodLink RX4 29 Lib.Math.min.name, Cond.static Lib.Math.min.name, Cond.initialized "java/lang/Math", Cond.code Lib.Math.min.name Lib.Math.min.code 2 (some .int), Cond.methodLink RX4 22 yX3_become, Cond.instanceMethod yX3_become, Cond.selects RX3 yX3_become yX3_become]
def wsX7_salt_r2 : List Cond := [Cond.initialized RX3, Cond.code yX3_become cX3_become 2 none, Cond.fieldLink RX3 9 "TwiceHeard$Net" "size" "I", Cond.fieldLink RX3 25 "TwiceHeard$Net" "salt" "I", Cond.fieldLink RX3 28 "TwiceHeard$Net" "mode" "I", Cond.fieldLink RX3 15 "TwiceHeard$Net" "linked" "[I", Cond.methodLink RX3 31 arraycopyName, Cond.native arraycopyName, Cond.static arraycopyName, Cond.initialized "java/lang/System", Cond.fieldLink RX3 19 "TwiceHeard$Net" "lost" "[I", Cond.fieldLink RX3 22 "TwiceHeard$Net" "heard" "[I"]
def wsX7_salt : List Cond := .code yX7_salt cX7_salt 3 (some .int) :: ((wsX7_salt_r1 ++ wsX7_salt_r2) ++ wsX70 ++ wsX30 ++ wsX40)
def wsX7_mode_r1 : List Cond := [Cond.constant RX7 105 (-1000000002), Cond.fieldLink RX7 19 "TwiceHeard" "past" "LTwiceHeard$Past;", Cond.fieldLink RX7 10 "TwiceHeard" "net" "LTwiceHeard$Net;", Cond.fieldLink RX7 77 "TwiceHeard$Net" "mode" "I", Cond.methodLink RX7 134 yX7_within, Cond.static yX7_within, Cond.initialized RX7, Cond.code yX7_within cX7_within 3 (some .boolean), Cond.methodLink RX7 193 yX4_remember, Cond.instanceMethod yX4_remember, Cond.selects RX4 yX4_remember yX4_remember, Cond.initialized RX4, Cond.code yX4_remember cX4_remember 2 none, Cond.fieldLink RX4 11 "TwiceHeard$Past" "states" "[LTwiceHeard$Net;", Cond.fieldLink RX4 18 "TwiceHeard$Past" "next" "I", Cond.fieldLink RX4 26 "TwiceHeard$Past" "size" "I", Cond.methodLink RX4 29 Lib.Math.min.name, Cond.static Lib.Math.min.name, Cond.initialized "java/lang/Math", Cond.code Lib.Math.min.name Lib.Math.min.code 2 (some .int), Cond.methodLink RX4 22 yX3_become, Cond.instanceMethod yX3_become, Cond.selects RX3 yX3_become yX3_become, Cond.initialized RX3]
def wsX7_mode_r2 : List Cond := [Cond.code yX3_become cX3_become 2 none, Cond.fieldLink RX3 9 "TwiceHeard$Net" "size" "I", Cond.fieldLink RX3 25 "TwiceHeard$Net" "salt" "I", Cond.fieldLink RX3 28 "TwiceHeard$Net" "mode" "I", Cond.fieldLink RX3 15 "TwiceHeard$Net" "linked" "[I", Cond.methodLink RX3 31 arraycopyName, Cond.native arraycopyName, Cond.static arraycopyName, Cond.initialized "java/lang/System", Cond.fieldLink RX3 19 "TwiceHeard$Net" "lost" "[I", Cond.fieldLink RX3 22 "TwiceHeard$Net" "heard" "[I"]
def wsX7_mode : List Cond := .code yX7_mode cX7_mode 3 (some .int) :: ((wsX7_mode_r1 ++ wsX7_mode_r2) ++ wsX70 ++ wsX30 ++ wsX40)
def wsX7_drift_r1 : List Cond := [Cond.constant RX7 105 (-1000000002), Cond.fieldLink RX7 19 "TwiceHeard" "past" "LTwiceHeard$Past;", Cond.fieldLink RX7 10 "TwiceHeard" "net" "LTwiceHeard$Net;", Cond.fieldLink RX7 40 "TwiceHeard" "draws" "LTwiceHeard$Draws;", Cond.fieldLink RX7 59 "TwiceHeard$Net" "size" "I", Cond.fieldLink RX7 26 "TwiceHeard" "telling" "LTwiceHeard$Telling;", Cond.methodLink RX7 134 yX7_within, Cond.static yX7_within, Cond.initialized RX7, Cond.code yX7_within cX7_within 3 (some .boolean), Cond.methodLink RX7 193 yX4_remember, Cond.instanceMethod yX4_remember, Cond.selects RX4 yX4_remember yX4_remember, Cond.initialized RX4, Cond.code yX4_remember cX4_remember 2 none, Cond.fieldLink RX4 11 "TwiceHeard$Past" "states" "[LTwiceHeard$Net;", Cond.fieldLink RX4 18 "TwiceHeard$Past" "next" "I", Cond.fieldLink RX4 26 "TwiceHeard$Past" "size" "I", Cond.methodLink RX4 29 Lib.Math.min.name, Cond.static Lib.Math.min.name, Cond.initialized "java/lang/Math", Cond.code Lib.Math.min.name Lib.Math.min.code 2 (some .int), Cond.methodLink RX4 22 yX3_become, Cond.instanceMethod yX3_become]
def wsX7_drift_r2 : List Cond := [Cond.selects RX3 yX3_become yX3_become, Cond.initialized RX3, Cond.code yX3_become cX3_become 2 none, Cond.fieldLink RX3 9 "TwiceHeard$Net" "size" "I", Cond.fieldLink RX3 25 "TwiceHeard$Net" "salt" "I", Cond.fieldLink RX3 28 "TwiceHeard$Net" "mode" "I", Cond.fieldLink RX3 15 "TwiceHeard$Net" "linked" "[I", Cond.methodLink RX3 31 arraycopyName, Cond.native arraycopyName, Cond.static arraycopyName, Cond.initialized "java/lang/System", Cond.fieldLink RX3 19 "TwiceHeard$Net" "lost" "[I", Cond.fieldLink RX3 22 "TwiceHeard$Net" "heard" "[I", Cond.methodLink RX7 210 yX1_next, Cond.instanceMethod yX1_next, Cond.selects RX1 yX1_next yX1_next, Cond.initialized RX1, Cond.code yX1_next cX1_next 2 (some .int), Cond.fieldLink RX1 7 "TwiceHeard$Draws" "seed" "I", Cond.constantLong RX1 13 (1103515245), Cond.constantLong RX1 15 (12345), Cond.constantLong RX1 17 (2147483648), Cond.constant RX1 19 (65536), Cond.methodLink RX7 213 yX3_turnItem]
def wsX7_drift_r3 : List Cond := [Cond.instanceMethod yX3_turnItem, Cond.selects RX3 yX3_turnItem yX3_turnItem, Cond.code yX3_turnItem cX3_turnItem 3 none, Cond.methodLink RX7 55 yX6_trace, Cond.instanceMethod yX6_trace, Cond.selects RX6 yX6_trace yX6_trace, Cond.initialized RX6, Cond.code yX6_trace cX6_trace 2 none, Cond.methodLink RX6 38 yX6_layRings, Cond.instanceMethod yX6_layRings, Cond.selects RX6 yX6_layRings yX6_layRings, Cond.code yX6_layRings cX6_layRings 5 none, Cond.fieldLink RX6 9 "TwiceHeard$Telling" "ring" "[I", Cond.fieldLink RX6 54 "TwiceHeard$Telling" "greatestRing" "I", Cond.fieldLink RX6 15 "TwiceHeard$Telling" "ringSets" "[I", Cond.methodLink RX6 48 yJ7_fill_53178, Cond.static yJ7_fill_53178, Cond.initialized RJ7, Cond.code yJ7_fill_53178 cJ7_fill_53178 4 none, Cond.methodLink RX6 58 yX6_settle, Cond.instanceMethod yX6_settle, Cond.selects RX6 yX6_settle yX6_settle, Cond.code yX6_settle cX6_settle 6 (some .int), Cond.fieldLink RX6 62 "TwiceHeard$Net" "size" "I"]
def wsX7_drift_r4 : List Cond := [Cond.fieldLink RX6 71 "TwiceHeard$Net" "linked" "[I", Cond.static yX7_isIn, Cond.code yX7_isIn cX7_isIn 2 (some .boolean), Cond.methodLink RX6 42 yX6_writeLetters, Cond.instanceMethod yX6_writeLetters, Cond.selects RX6 yX6_writeLetters yX6_writeLetters, Cond.code yX6_writeLetters cX6_writeLetters 4 none, Cond.fieldLink RX6 74 "TwiceHeard$Telling" "letters" "I", Cond.methodLink RX6 77 yX6_writeFrom, Cond.instanceMethod yX6_writeFrom, Cond.selects RX6 yX6_writeFrom yX6_writeFrom, Cond.code yX6_writeFrom cX6_writeFrom 5 none, Cond.fieldLink RX6 85 "TwiceHeard$Net" "mode" "I", Cond.fieldLink RX6 18 "TwiceHeard$Telling" "from" "[I", Cond.fieldLink RX6 21 "TwiceHeard$Telling" "to" "[I", Cond.fieldLink RX6 24 "TwiceHeard$Telling" "comes" "[Z", Cond.fieldLink RX6 88 "TwiceHeard$Net" "lost" "[I", Cond.methodLink RX6 81 yX6_uppers, Cond.instanceMethod yX6_uppers, Cond.selects RX6 yX6_uppers yX6_uppers, Cond.code yX6_uppers cX6_uppers 3 (some .int), Cond.methodLink RX6 45 yX6_countWays, Cond.instanceMethod yX6_countWays, Cond.selects RX6 yX6_countWays yX6_countWays]
def wsX7_drift_r5 : List Cond := [Cond.code yX6_countWays cX6_countWays 2 none, Cond.fieldLink RX6 28 "TwiceHeard$Telling" "ways" "[I", Cond.fieldLink RX6 31 "TwiceHeard$Telling" "arrivals" "[I", Cond.methodLink RX7 87 yX6_trueCount, Cond.instanceMethod yX6_trueCount, Cond.selects RX6 yX6_trueCount yX6_trueCount, Cond.code yX6_trueCount cX6_trueCount 4 (some .int), Cond.fieldLink RX6 93 "TwiceHeard$Net" "heard" "[I", Cond.methodLink RX6 109 yJ6_bitCount_0f7a4, Cond.static yJ6_bitCount_0f7a4, Cond.initialized RJ6, Cond.code yJ6_bitCount_0f7a4 cJ6_bitCount_0f7a4 1 (some .int), Cond.constant RJ6 265 (1431655765), Cond.constant RJ6 266 (858993459), Cond.constant RJ6 267 (252645135)]
def wsX7_drift : List Cond := .code yX7_drift cX7_drift 5 (some .int) :: ((wsX7_drift_r1 ++ (wsX7_drift_r2 ++ (wsX7_drift_r3 ++ (wsX7_drift_r4 ++ wsX7_drift_r5)))) ++ wsX70 ++ wsX30 ++ wsX40 ++ wsX10 ++ wsX60)
def wsX7_undo_r1 : List Cond := [Cond.constant RX7 105 (-1000000002), Cond.fieldLink RX7 19 "TwiceHeard" "past" "LTwiceHeard$Past;", Cond.fieldLink RX7 101 "TwiceHeard$Past" "size" "I", Cond.constant RX7 200 (-1000000003), Cond.fieldLink RX7 10 "TwiceHeard" "net" "LTwiceHeard$Net;", Cond.methodLink RX7 134 yX7_within, Cond.static yX7_within, Cond.initialized RX7, Cond.code yX7_within cX7_within 3 (some .boolean), Cond.methodLink RX7 216 yX4_restore, Cond.instanceMethod yX4_restore, Cond.selects RX4 yX4_restore yX4_restore, Cond.initialized RX4, Cond.code yX4_restore cX4_restore 3 none, Cond.fieldLink RX4 26 "TwiceHeard$Past" "size" "I", Cond.fieldLink RX4 18 "TwiceHeard$Past" "next" "I", Cond.fieldLink RX4 11 "TwiceHeard$Past" "states" "[LTwiceHeard$Net;", Cond.methodLink RX4 22 yX3_become, Cond.instanceMethod yX3_become, Cond.selects RX3 yX3_become yX3_become, Cond.initialized RX3, Cond.code yX3_become cX3_become 2 none, Cond.fieldLink RX3 9 "TwiceHeard$Net" "size" "I", Cond.fieldLink RX3 25 "TwiceHeard$Net" "salt" "I"]
def wsX7_undo_r2 : List Cond := [Cond.fieldLink RX3 28 "TwiceHeard$Net" "mode" "I", Cond.fieldLink RX3 15 "TwiceHeard$Net" "linked" "[I", Cond.methodLink RX3 31 arraycopyName, Cond.native arraycopyName, Cond.static arraycopyName, Cond.initialized "java/lang/System", Cond.fieldLink RX3 19 "TwiceHeard$Net" "lost" "[I", Cond.fieldLink RX3 22 "TwiceHeard$Net" "heard" "[I"]
def wsX7_undo : List Cond := .code yX7_undo cX7_undo 2 (some .int) :: ((wsX7_undo_r1 ++ wsX7_undo_r2) ++ wsX70 ++ wsX40 ++ wsX30)
def wsX7_write : List Cond := .code yX7_write cX7_write 3 (some .int) :: ([.fieldLink RX7 10 "TwiceHeard" "net" "LTwiceHeard$Net;", .constant RX7 110 (-1000000001), .fieldLink RX7 33 "TwiceHeard" "book" "LTwiceHeard$Book;", .fieldLink RX7 97 "TwiceHeard$Book" "size" "I", .constant RX7 192 (-1000000004), .methodLink RX7 106 yX3_has, .instanceMethod yX3_has, .selects RX3 yX3_has yX3_has, .initialized RX3, .code yX3_has cX3_has 2 (some .boolean), .fieldLink RX3 9 "TwiceHeard$Net" "size" "I", .methodLink RX7 219 yX0_enter, .instanceMethod yX0_enter, .selects RX0 yX0_enter yX0_enter, .initialized RX0, .code yX0_enter cX0_enter 3 none, .fieldLink RX0 18 "TwiceHeard$Book" "size" "I", .fieldLink RX0 9 "TwiceHeard$Book" "nodes" "[I", .fieldLink RX0 15 "TwiceHeard$Book" "guesses" "[I"] ++ wsX70 ++ wsX00 ++ wsX30)
def wsX7_tear : List Cond := .code yX7_tear cX7_tear 2 (some .int) :: ([.fieldLink RX7 33 "TwiceHeard" "book" "LTwiceHeard$Book;", .fieldLink RX7 97 "TwiceHeard$Book" "size" "I"] ++ wsX70 ++ wsX00)
def wsX7_seed : List Cond := .code yX7_seed cX7_seed 3 (some .int) :: ([.constant RX7 105 (-1000000002), .fieldLink RX7 40 "TwiceHeard" "draws" "LTwiceHeard$Draws;", .fieldLink RX7 102 "TwiceHeard$Draws" "seed" "I"] ++ wsX70 ++ wsX10)
def wsX7_keep_r1 : List Cond := [Cond.constant RX7 110 (-1000000001), Cond.fieldLink RX7 46 "TwiceHeard" "images" "[LTwiceHeard$Image;", Cond.fieldLink RX7 222 "TwiceHeard$Image" "kept" "Z", Cond.fieldLink RX7 40 "TwiceHeard" "draws" "LTwiceHeard$Draws;", Cond.fieldLink RX7 102 "TwiceHeard$Draws" "seed" "I", Cond.fieldLink RX7 226 "TwiceHeard$Image" "seed" "I", Cond.fieldLink RX7 227 "TwiceHeard$Image" "net" "LTwiceHeard$Net;", Cond.fieldLink RX7 10 "TwiceHeard" "net" "LTwiceHeard$Net;", Cond.fieldLink RX7 19 "TwiceHeard" "past" "LTwiceHeard$Past;", Cond.methodLink RX7 134 yX7_within, Cond.static yX7_within, Cond.initialized RX7, Cond.code yX7_within cX7_within 3 (some .boolean), Cond.methodLink RX7 228 yX3_become, Cond.instanceMethod yX3_become, Cond.selects RX3 yX3_become yX3_become, Cond.initialized RX3, Cond.code yX3_become cX3_become 2 none, Cond.fieldLink RX3 9 "TwiceHeard$Net" "size" "I", Cond.fieldLink RX3 25 "TwiceHeard$Net" "salt" "I", Cond.fieldLink RX3 28 "TwiceHeard$Net" "mode" "I", Cond.fieldLink RX3 15 "TwiceHeard$Net" "linked" "[I", Cond.methodLink RX3 31 arraycopyName, Cond.native arraycopyName]
def wsX7_keep_r2 : List Cond := [Cond.static arraycopyName, Cond.initialized "java/lang/System", Cond.fieldLink RX3 19 "TwiceHeard$Net" "lost" "[I", Cond.fieldLink RX3 22 "TwiceHeard$Net" "heard" "[I", Cond.methodLink RX7 231 yX4_forget, Cond.instanceMethod yX4_forget, Cond.selects RX4 yX4_forget yX4_forget, Cond.initialized RX4, Cond.code yX4_forget cX4_forget 1 none, Cond.fieldLink RX4 26 "TwiceHeard$Past" "size" "I"]
def wsX7_keep : List Cond := .code yX7_keep cX7_keep 2 (some .int) :: ((wsX7_keep_r1 ++ wsX7_keep_r2) ++ wsX70 ++ wsX20 ++ wsX10 ++ wsX30 ++ wsX40)
def wsX7_goBack_r1 : List Cond := [Cond.constant RX7 110 (-1000000001), Cond.fieldLink RX7 46 "TwiceHeard" "images" "[LTwiceHeard$Image;", Cond.fieldLink RX7 222 "TwiceHeard$Image" "kept" "Z", Cond.constant RX7 200 (-1000000003), Cond.fieldLink RX7 40 "TwiceHeard" "draws" "LTwiceHeard$Draws;", Cond.fieldLink RX7 226 "TwiceHeard$Image" "seed" "I", Cond.fieldLink RX7 102 "TwiceHeard$Draws" "seed" "I", Cond.fieldLink RX7 10 "TwiceHeard" "net" "LTwiceHeard$Net;", Cond.fieldLink RX7 227 "TwiceHeard$Image" "net" "LTwiceHeard$Net;", Cond.fieldLink RX7 19 "TwiceHeard" "past" "LTwiceHeard$Past;", Cond.methodLink RX7 134 yX7_within, Cond.static yX7_within, Cond.initialized RX7, Cond.code yX7_within cX7_within 3 (some .boolean), Cond.methodLink RX7 228 yX3_become, Cond.instanceMethod yX3_become, Cond.selects RX3 yX3_become yX3_become, Cond.initialized RX3, Cond.code yX3_become cX3_become 2 none, Cond.fieldLink RX3 9 "TwiceHeard$Net" "size" "I", Cond.fieldLink RX3 25 "TwiceHeard$Net" "salt" "I", Cond.fieldLink RX3 28 "TwiceHeard$Net" "mode" "I", Cond.fieldLink RX3 15 "TwiceHeard$Net" "linked" "[I", Cond.methodLink RX3 31 arraycopyName]
def wsX7_goBack_r2 : List Cond := [Cond.native arraycopyName, Cond.static arraycopyName, Cond.initialized "java/lang/System", Cond.fieldLink RX3 19 "TwiceHeard$Net" "lost" "[I", Cond.fieldLink RX3 22 "TwiceHeard$Net" "heard" "[I", Cond.methodLink RX7 231 yX4_forget, Cond.instanceMethod yX4_forget, Cond.selects RX4 yX4_forget yX4_forget, Cond.initialized RX4, Cond.code yX4_forget cX4_forget 1 none, Cond.fieldLink RX4 26 "TwiceHeard$Past" "size" "I"]
def wsX7_goBack : List Cond := .code yX7_goBack cX7_goBack 2 (some .int) :: ((wsX7_goBack_r1 ++ wsX7_goBack_r2) ++ wsX70 ++ wsX20 ++ wsX10 ++ wsX30 ++ wsX40)
def wsX8_init : List Cond := .code yX8_init cX8_init 1 none :: ([.methodLink RX8 3 objectInit, .instanceMethod objectInit, .code objectInit ⟨#[0xb1]⟩ 1 none, .arrayClass .int, .fieldLink RX8 9 "TwiceHeardModel" "w" "[I", .fieldLink RX8 13 "TwiceHeardModel" "keptSeed" "[I", .fieldLink RX8 16 "TwiceHeardModel" "bookOf" "[I", .fieldLink RX8 19 "TwiceHeardModel" "bookIs" "[I", .fieldLink RX8 22 "TwiceHeardModel" "ring" "[I", .fieldLink RX8 25 "TwiceHeardModel" "from" "[I", .fieldLink RX8 28 "TwiceHeardModel" "to" "[I", .fieldLink RX8 31 "TwiceHeardModel" "ways" "[I", .arrayClass .long, .fieldLink RX8 34 "TwiceHeardModel" "held" "[J", .fieldLink RX8 38 "TwiceHeardModel" "six" "[I", .fieldLink RX8 41 "TwiceHeardModel" "by" "[J", .fieldLink RX8 44 "TwiceHeardModel" "more" "[J"] ++ wsX80)
def wsX8_in : List Cond := .code yX8_in cX8_in 3 (some .boolean) :: ([])
def wsX8_has : List Cond := .code yX8_has cX8_has 2 (some .boolean) :: ([])
def wsX8_copyRow : List Cond := .code yX8_copyRow cX8_copyRow 4 none :: ([.fieldLink RX8 9 "TwiceHeardModel" "w" "[I"] ++ wsX80)
def wsX8_isNode : List Cond := .code yX8_isNode cX8_isNode 2 (some .boolean) :: ([.fieldLink RX8 9 "TwiceHeardModel" "w" "[I", .methodLink RX8 47 yX8_in, .static yX8_in, .initialized RX8, .code yX8_in cX8_in 3 (some .boolean)] ++ wsX80)
def wsX8_isLinked : List Cond := .code yX8_isLinked cX8_isLinked 3 (some .boolean) :: ([.fieldLink RX8 9 "TwiceHeardModel" "w" "[I", .methodLink RX8 51 yX8_isNode, .instanceMethod yX8_isNode, .selects RX8 yX8_isNode yX8_isNode, .initialized RX8, .code yX8_isNode cX8_isNode 2 (some .boolean), .methodLink RX8 47 yX8_in, .static yX8_in, .code yX8_in cX8_in 3 (some .boolean), .methodLink RX8 55 yX8_has, .static yX8_has, .code yX8_has cX8_has 2 (some .boolean)] ++ wsX80)
def wsX8_ones : List Cond := .code yX8_ones cX8_ones 3 (some .int) :: ([.methodLink RX8 55 yX8_has, .static yX8_has, .initialized RX8, .code yX8_has cX8_has 2 (some .boolean)])
def wsX8_markOf : List Cond := .code yX8_markOf cX8_markOf 4 (some .int) :: ([.constantLong RX8 59 (2), .fieldLink RX8 9 "TwiceHeardModel" "w" "[I", .constantLong RX8 61 (40503), .constantLong RX8 63 (65536), .constantLong RX8 65 (64)] ++ wsX80)
def wsX8_rankOf : List Cond := .code yX8_rankOf cX8_rankOf 4 (some .int) :: ([.methodLink RX8 67 yX8_markOf, .instanceMethod yX8_markOf, .selects RX8 yX8_markOf yX8_markOf, .initialized RX8, .code yX8_markOf cX8_markOf 4 (some .int), .constantLong RX8 59 (2), .fieldLink RX8 9 "TwiceHeardModel" "w" "[I", .constantLong RX8 61 (40503), .constantLong RX8 63 (65536), .constantLong RX8 65 (64)] ++ wsX80)
def wsX8_spread : List Cond := .code yX8_spread cX8_spread 5 (some .boolean) :: ([.fieldLink RX8 9 "TwiceHeardModel" "w" "[I", .fieldLink RX8 22 "TwiceHeardModel" "ring" "[I", .methodLink RX8 55 yX8_has, .static yX8_has, .initialized RX8, .code yX8_has cX8_has 2 (some .boolean)] ++ wsX80)
def wsX8_layRings : List Cond := .code yX8_layRings cX8_layRings 2 none :: ([.fieldLink RX8 22 "TwiceHeardModel" "ring" "[I", .methodLink RX8 71 yX8_spread, .instanceMethod yX8_spread, .selects RX8 yX8_spread yX8_spread, .initialized RX8, .code yX8_spread cX8_spread 5 (some .boolean), .fieldLink RX8 9 "TwiceHeardModel" "w" "[I", .methodLink RX8 55 yX8_has, .static yX8_has, .code yX8_has cX8_has 2 (some .boolean)] ++ wsX80)
def wsX8_upper : List Cond := .code yX8_upper cX8_upper 4 (some .int) :: ([.fieldLink RX8 9 "TwiceHeardModel" "w" "[I", .fieldLink RX8 22 "TwiceHeardModel" "ring" "[I", .methodLink RX8 55 yX8_has, .static yX8_has, .initialized RX8, .code yX8_has cX8_has 2 (some .boolean)] ++ wsX80)
def wsX8_greatestRing : List Cond := .code yX8_greatestRing cX8_greatestRing 3 (some .int) :: ([.fieldLink RX8 9 "TwiceHeardModel" "w" "[I", .fieldLink RX8 22 "TwiceHeardModel" "ring" "[I"] ++ wsX80)
def wsX8_sendFrom : List Cond := .code yX8_sendFrom cX8_sendFrom 5 none :: ([.fieldLink RX8 9 "TwiceHeardModel" "w" "[I", .fieldLink RX8 25 "TwiceHeardModel" "from" "[I", .fieldLink RX8 77 "TwiceHeardModel" "letters" "I", .fieldLink RX8 28 "TwiceHeardModel" "to" "[I", .methodLink RX8 74 yX8_upper, .instanceMethod yX8_upper, .selects RX8 yX8_upper yX8_upper, .initialized RX8, .code yX8_upper cX8_upper 4 (some .int), .fieldLink RX8 22 "TwiceHeardModel" "ring" "[I", .methodLink RX8 55 yX8_has, .static yX8_has, .code yX8_has cX8_has 2 (some .boolean)] ++ wsX80)
def wsX8_layLetters_r1 : List Cond := [Cond.fieldLink RX8 77 "TwiceHeardModel" "letters" "I", Cond.fieldLink RX8 9 "TwiceHeardModel" "w" "[I", Cond.fieldLink RX8 22 "TwiceHeardModel" "ring" "[I", Cond.methodLink RX8 81 yX8_layRings, Cond.instanceMethod yX8_layRings, Cond.selects RX8 yX8_layRings yX8_layRings, Cond.initialized RX8, Cond.code yX8_layRings cX8_layRings 2 none, Cond.methodLink RX8 71 yX8_spread, Cond.instanceMethod yX8_spread, Cond.selects RX8 yX8_spread yX8_spread, Cond.code yX8_spread cX8_spread 5 (some .boolean), Cond.methodLink RX8 55 yX8_has, Cond.static yX8_has, Cond.code yX8_has cX8_has 2 (some .boolean), Cond.methodLink RX8 84 yX8_greatestRing, Cond.instanceMethod yX8_greatestRing, Cond.selects RX8 yX8_greatestRing yX8_greatestRing, Cond.code yX8_greatestRing cX8_greatestRing 3 (some .int), Cond.methodLink RX8 88 yX8_sendFrom, Cond.instanceMethod yX8_sendFrom, Cond.selects RX8 yX8_sendFrom yX8_sendFrom, Cond.code yX8_sendFrom cX8_sendFrom 5 none, Cond.fieldLink RX8 25 "TwiceHeardModel" "from" "[I"]
def wsX8_layLetters_r2 : List Cond := [Cond.fieldLink RX8 28 "TwiceHeardModel" "to" "[I", Cond.methodLink RX8 74 yX8_upper, Cond.instanceMethod yX8_upper, Cond.selects RX8 yX8_upper yX8_upper, Cond.code yX8_upper cX8_upper 4 (some .int)]
def wsX8_layLetters : List Cond := .code yX8_layLetters cX8_layLetters 3 none :: ((wsX8_layLetters_r1 ++ wsX8_layLetters_r2) ++ wsX80)
def wsX8_comes : List Cond := .code yX8_comes cX8_comes 2 (some .boolean) :: ([.fieldLink RX8 9 "TwiceHeardModel" "w" "[I", .fieldLink RX8 25 "TwiceHeardModel" "from" "[I", .fieldLink RX8 28 "TwiceHeardModel" "to" "[I", .methodLink RX8 55 yX8_has, .static yX8_has, .initialized RX8, .code yX8_has cX8_has 2 (some .boolean)] ++ wsX80)
def wsX8_lostLetters_r1 : List Cond := [Cond.fieldLink RX8 77 "TwiceHeardModel" "letters" "I", Cond.methodLink RX8 92 yX8_layLetters, Cond.instanceMethod yX8_layLetters, Cond.selects RX8 yX8_layLetters yX8_layLetters, Cond.initialized RX8, Cond.code yX8_layLetters cX8_layLetters 3 none, Cond.fieldLink RX8 9 "TwiceHeardModel" "w" "[I", Cond.fieldLink RX8 22 "TwiceHeardModel" "ring" "[I", Cond.methodLink RX8 81 yX8_layRings, Cond.instanceMethod yX8_layRings, Cond.selects RX8 yX8_layRings yX8_layRings, Cond.code yX8_layRings cX8_layRings 2 none, Cond.methodLink RX8 71 yX8_spread, Cond.instanceMethod yX8_spread, Cond.selects RX8 yX8_spread yX8_spread, Cond.code yX8_spread cX8_spread 5 (some .boolean), Cond.methodLink RX8 55 yX8_has, Cond.static yX8_has, Cond.code yX8_has cX8_has 2 (some .boolean), Cond.methodLink RX8 84 yX8_greatestRing, Cond.instanceMethod yX8_greatestRing, Cond.selects RX8 yX8_greatestRing yX8_greatestRing, Cond.code yX8_greatestRing cX8_greatestRing 3 (some .int), Cond.methodLink RX8 88 yX8_sendFrom]
def wsX8_lostLetters_r2 : List Cond := [Cond.instanceMethod yX8_sendFrom, Cond.selects RX8 yX8_sendFrom yX8_sendFrom, Cond.code yX8_sendFrom cX8_sendFrom 5 none, Cond.fieldLink RX8 25 "TwiceHeardModel" "from" "[I", Cond.fieldLink RX8 28 "TwiceHeardModel" "to" "[I", Cond.methodLink RX8 74 yX8_upper, Cond.instanceMethod yX8_upper, Cond.selects RX8 yX8_upper yX8_upper, Cond.code yX8_upper cX8_upper 4 (some .int), Cond.methodLink RX8 95 yX8_comes, Cond.instanceMethod yX8_comes, Cond.selects RX8 yX8_comes yX8_comes, Cond.code yX8_comes cX8_comes 2 (some .boolean)]
def wsX8_lostLetters : List Cond := .code yX8_lostLetters cX8_lostLetters 3 (some .int) :: ((wsX8_lostLetters_r1 ++ wsX8_lostLetters_r2) ++ wsX80)
def wsX8_lettersTo_r1 : List Cond := [Cond.fieldLink RX8 77 "TwiceHeardModel" "letters" "I", Cond.fieldLink RX8 28 "TwiceHeardModel" "to" "[I", Cond.methodLink RX8 92 yX8_layLetters, Cond.instanceMethod yX8_layLetters, Cond.selects RX8 yX8_layLetters yX8_layLetters, Cond.initialized RX8, Cond.code yX8_layLetters cX8_layLetters 3 none, Cond.fieldLink RX8 9 "TwiceHeardModel" "w" "[I", Cond.fieldLink RX8 22 "TwiceHeardModel" "ring" "[I", Cond.methodLink RX8 81 yX8_layRings, Cond.instanceMethod yX8_layRings, Cond.selects RX8 yX8_layRings yX8_layRings, Cond.code yX8_layRings cX8_layRings 2 none, Cond.methodLink RX8 71 yX8_spread, Cond.instanceMethod yX8_spread, Cond.selects RX8 yX8_spread yX8_spread, Cond.code yX8_spread cX8_spread 5 (some .boolean), Cond.methodLink RX8 55 yX8_has, Cond.static yX8_has, Cond.code yX8_has cX8_has 2 (some .boolean), Cond.methodLink RX8 84 yX8_greatestRing, Cond.instanceMethod yX8_greatestRing, Cond.selects RX8 yX8_greatestRing yX8_greatestRing, Cond.code yX8_greatestRing cX8_greatestRing 3 (some .int)]
def wsX8_lettersTo_r2 : List Cond := [Cond.methodLink RX8 88 yX8_sendFrom, Cond.instanceMethod yX8_sendFrom, Cond.selects RX8 yX8_sendFrom yX8_sendFrom, Cond.code yX8_sendFrom cX8_sendFrom 5 none, Cond.fieldLink RX8 25 "TwiceHeardModel" "from" "[I", Cond.methodLink RX8 74 yX8_upper, Cond.instanceMethod yX8_upper, Cond.selects RX8 yX8_upper yX8_upper, Cond.code yX8_upper cX8_upper 4 (some .int), Cond.methodLink RX8 95 yX8_comes, Cond.instanceMethod yX8_comes, Cond.selects RX8 yX8_comes yX8_comes, Cond.code yX8_comes cX8_comes 2 (some .boolean)]
def wsX8_lettersTo : List Cond := .code yX8_lettersTo cX8_lettersTo 4 (some .int) :: ((wsX8_lettersTo_r1 ++ wsX8_lettersTo_r2) ++ wsX80)
def wsX8_layWays_r1 : List Cond := [Cond.fieldLink RX8 31 "TwiceHeardModel" "ways" "[I", Cond.fieldLink RX8 77 "TwiceHeardModel" "letters" "I", Cond.fieldLink RX8 25 "TwiceHeardModel" "from" "[I", Cond.fieldLink RX8 28 "TwiceHeardModel" "to" "[I", Cond.methodLink RX8 92 yX8_layLetters, Cond.instanceMethod yX8_layLetters, Cond.selects RX8 yX8_layLetters yX8_layLetters, Cond.initialized RX8, Cond.code yX8_layLetters cX8_layLetters 3 none, Cond.fieldLink RX8 9 "TwiceHeardModel" "w" "[I", Cond.fieldLink RX8 22 "TwiceHeardModel" "ring" "[I", Cond.methodLink RX8 81 yX8_layRings, Cond.instanceMethod yX8_layRings, Cond.selects RX8 yX8_layRings yX8_layRings, Cond.code yX8_layRings cX8_layRings 2 none, Cond.methodLink RX8 71 yX8_spread, Cond.instanceMethod yX8_spread, Cond.selects RX8 yX8_spread yX8_spread, Cond.code yX8_spread cX8_spread 5 (some .boolean), Cond.methodLink RX8 55 yX8_has, Cond.static yX8_has, Cond.code yX8_has cX8_has 2 (some .boolean), Cond.methodLink RX8 84 yX8_greatestRing, Cond.instanceMethod yX8_greatestRing]
def wsX8_layWays_r2 : List Cond := [Cond.selects RX8 yX8_greatestRing yX8_greatestRing, Cond.code yX8_greatestRing cX8_greatestRing 3 (some .int), Cond.methodLink RX8 88 yX8_sendFrom, Cond.instanceMethod yX8_sendFrom, Cond.selects RX8 yX8_sendFrom yX8_sendFrom, Cond.code yX8_sendFrom cX8_sendFrom 5 none, Cond.methodLink RX8 74 yX8_upper, Cond.instanceMethod yX8_upper, Cond.selects RX8 yX8_upper yX8_upper, Cond.code yX8_upper cX8_upper 4 (some .int), Cond.methodLink RX8 95 yX8_comes, Cond.instanceMethod yX8_comes, Cond.selects RX8 yX8_comes yX8_comes, Cond.code yX8_comes cX8_comes 2 (some .boolean)]
def wsX8_layWays : List Cond := .code yX8_layWays cX8_layWays 2 none :: ((wsX8_layWays_r1 ++ wsX8_layWays_r2) ++ wsX80)
def wsX8_comesSet_r1 : List Cond := [Cond.fieldLink RX8 9 "TwiceHeardModel" "w" "[I", Cond.fieldLink RX8 31 "TwiceHeardModel" "ways" "[I", Cond.methodLink RX8 98 yX8_layWays, Cond.instanceMethod yX8_layWays, Cond.selects RX8 yX8_layWays yX8_layWays, Cond.initialized RX8, Cond.code yX8_layWays cX8_layWays 2 none, Cond.fieldLink RX8 77 "TwiceHeardModel" "letters" "I", Cond.fieldLink RX8 25 "TwiceHeardModel" "from" "[I", Cond.fieldLink RX8 28 "TwiceHeardModel" "to" "[I", Cond.methodLink RX8 92 yX8_layLetters, Cond.instanceMethod yX8_layLetters, Cond.selects RX8 yX8_layLetters yX8_layLetters, Cond.code yX8_layLetters cX8_layLetters 3 none, Cond.fieldLink RX8 22 "TwiceHeardModel" "ring" "[I", Cond.methodLink RX8 81 yX8_layRings, Cond.instanceMethod yX8_layRings, Cond.selects RX8 yX8_layRings yX8_layRings, Cond.code yX8_layRings cX8_layRings 2 none, Cond.methodLink RX8 71 yX8_spread, Cond.instanceMethod yX8_spread, Cond.selects RX8 yX8_spread yX8_spread, Cond.code yX8_spread cX8_spread 5 (some .boolean), Cond.methodLink RX8 55 yX8_has]
def wsX8_comesSet_r2 : List Cond := [Cond.static yX8_has, Cond.code yX8_has cX8_has 2 (some .boolean), Cond.methodLink RX8 84 yX8_greatestRing, Cond.instanceMethod yX8_greatestRing, Cond.selects RX8 yX8_greatestRing yX8_greatestRing, Cond.code yX8_greatestRing cX8_greatestRing 3 (some .int), Cond.methodLink RX8 88 yX8_sendFrom, Cond.instanceMethod yX8_sendFrom, Cond.selects RX8 yX8_sendFrom yX8_sendFrom, Cond.code yX8_sendFrom cX8_sendFrom 5 none, Cond.methodLink RX8 74 yX8_upper, Cond.instanceMethod yX8_upper, Cond.selects RX8 yX8_upper yX8_upper, Cond.code yX8_upper cX8_upper 4 (some .int), Cond.methodLink RX8 95 yX8_comes, Cond.instanceMethod yX8_comes, Cond.selects RX8 yX8_comes yX8_comes, Cond.code yX8_comes cX8_comes 2 (some .boolean)]
def wsX8_comesSet : List Cond := .code yX8_comesSet cX8_comesSet 3 (some .int) :: ((wsX8_comesSet_r1 ++ wsX8_comesSet_r2) ++ wsX80)
def wsX8_unpack : List Cond := .code yX8_unpack cX8_unpack 4 none :: ([.fieldLink RX8 38 "TwiceHeardModel" "six" "[I", .constantLong RX8 101 (2000), .constantLong RX8 103 (4000000)] ++ wsX80)
def wsX8_leastAbove : List Cond := .code yX8_leastAbove cX8_leastAbove 4 (some .int) :: ([.fieldLink RX8 38 "TwiceHeardModel" "six" "[I"] ++ wsX80)
def wsX8_threeOf : List Cond := .code yX8_threeOf cX8_threeOf 8 (some .long) :: ([.constantLong RX8 101 (2000), .constantLong RX8 103 (4000000), .methodLink RX8 105 yX8_unpack, .instanceMethod yX8_unpack, .selects RX8 yX8_unpack yX8_unpack, .initialized RX8, .code yX8_unpack cX8_unpack 4 none, .fieldLink RX8 38 "TwiceHeardModel" "six" "[I", .methodLink RX8 109 yX8_leastAbove, .instanceMethod yX8_leastAbove, .selects RX8 yX8_leastAbove yX8_leastAbove, .code yX8_leastAbove cX8_leastAbove 4 (some .int)] ++ wsX80)
def wsX8_threeOfItem : List Cond := .code yX8_threeOfItem cX8_threeOfItem 2 (some .long) :: ([.constantLong RX8 112 (2048000), .constantLong RX8 114 (4096000000), .methodLink RX8 67 yX8_markOf, .instanceMethod yX8_markOf, .selects RX8 yX8_markOf yX8_markOf, .initialized RX8, .code yX8_markOf cX8_markOf 4 (some .int), .constantLong RX8 59 (2), .fieldLink RX8 9 "TwiceHeardModel" "w" "[I", .constantLong RX8 61 (40503), .constantLong RX8 63 (65536), .constantLong RX8 65 (64)] ++ wsX80)
def wsX8_both : List Cond := .code yX8_both cX8_both 6 (some .long) :: ([.methodLink RX8 116 yX8_threeOf, .instanceMethod yX8_threeOf, .selects RX8 yX8_threeOf yX8_threeOf, .initialized RX8, .code yX8_threeOf cX8_threeOf 8 (some .long), .constantLong RX8 101 (2000), .constantLong RX8 103 (4000000), .methodLink RX8 105 yX8_unpack, .instanceMethod yX8_unpack, .selects RX8 yX8_unpack yX8_unpack, .code yX8_unpack cX8_unpack 4 none, .fieldLink RX8 38 "TwiceHeardModel" "six" "[I", .methodLink RX8 109 yX8_leastAbove, .instanceMethod yX8_leastAbove, .selects RX8 yX8_leastAbove yX8_leastAbove, .code yX8_leastAbove cX8_leastAbove 4 (some .int)] ++ wsX80)
def wsX8_summary_r1 : List Cond := [Cond.constantLong RX8 120 (4098049024), Cond.methodLink RX8 55 yX8_has, Cond.static yX8_has, Cond.initialized RX8, Cond.code yX8_has cX8_has 2 (some .boolean), Cond.methodLink RX8 122 yX8_rankOf, Cond.instanceMethod yX8_rankOf, Cond.selects RX8 yX8_rankOf yX8_rankOf, Cond.code yX8_rankOf cX8_rankOf 4 (some .int), Cond.methodLink RX8 67 yX8_markOf, Cond.instanceMethod yX8_markOf, Cond.selects RX8 yX8_markOf yX8_markOf, Cond.code yX8_markOf cX8_markOf 4 (some .int), Cond.constantLong RX8 59 (2), Cond.fieldLink RX8 9 "TwiceHeardModel" "w" "[I", Cond.constantLong RX8 61 (40503), Cond.constantLong RX8 63 (65536), Cond.constantLong RX8 65 (64), Cond.methodLink RX8 125 yX8_threeOfItem, Cond.instanceMethod yX8_threeOfItem, Cond.selects RX8 yX8_threeOfItem yX8_threeOfItem, Cond.code yX8_threeOfItem cX8_threeOfItem 2 (some .long), Cond.constantLong RX8 112 (2048000), Cond.constantLong RX8 114 (4096000000)]
def wsX8_summary_r2 : List Cond := [Cond.methodLink RX8 129 yX8_both, Cond.instanceMethod yX8_both, Cond.selects RX8 yX8_both yX8_both, Cond.code yX8_both cX8_both 6 (some .long), Cond.methodLink RX8 116 yX8_threeOf, Cond.instanceMethod yX8_threeOf, Cond.selects RX8 yX8_threeOf yX8_threeOf, Cond.code yX8_threeOf cX8_threeOf 8 (some .long), Cond.constantLong RX8 101 (2000), Cond.constantLong RX8 103 (4000000), Cond.methodLink RX8 105 yX8_unpack, Cond.instanceMethod yX8_unpack, Cond.selects RX8 yX8_unpack yX8_unpack, Cond.code yX8_unpack cX8_unpack 4 none, Cond.fieldLink RX8 38 "TwiceHeardModel" "six" "[I", Cond.methodLink RX8 109 yX8_leastAbove, Cond.instanceMethod yX8_leastAbove, Cond.selects RX8 yX8_leastAbove yX8_leastAbove, Cond.code yX8_leastAbove cX8_leastAbove 4 (some .int)]
def wsX8_summary : List Cond := .code yX8_summary cX8_summary 8 (some .long) :: ((wsX8_summary_r1 ++ wsX8_summary_r2) ++ wsX80)
def wsX8_layHeld_r1 : List Cond := [Cond.fieldLink RX8 9 "TwiceHeardModel" "w" "[I", Cond.fieldLink RX8 34 "TwiceHeardModel" "held" "[J", Cond.fieldLink RX8 77 "TwiceHeardModel" "letters" "I", Cond.fieldLink RX8 28 "TwiceHeardModel" "to" "[I", Cond.fieldLink RX8 25 "TwiceHeardModel" "from" "[I", Cond.methodLink RX8 92 yX8_layLetters, Cond.instanceMethod yX8_layLetters, Cond.selects RX8 yX8_layLetters yX8_layLetters, Cond.initialized RX8, Cond.code yX8_layLetters cX8_layLetters 3 none, Cond.fieldLink RX8 22 "TwiceHeardModel" "ring" "[I", Cond.methodLink RX8 81 yX8_layRings, Cond.instanceMethod yX8_layRings, Cond.selects RX8 yX8_layRings yX8_layRings, Cond.code yX8_layRings cX8_layRings 2 none, Cond.methodLink RX8 71 yX8_spread, Cond.instanceMethod yX8_spread, Cond.selects RX8 yX8_spread yX8_spread, Cond.code yX8_spread cX8_spread 5 (some .boolean), Cond.methodLink RX8 55 yX8_has, Cond.static yX8_has, Cond.code yX8_has cX8_has 2 (some .boolean), Cond.methodLink RX8 84 yX8_greatestRing, Cond.instanceMethod yX8_greatestRing]
def wsX8_layHeld_r2 : List Cond := [Cond.selects RX8 yX8_greatestRing yX8_greatestRing, Cond.code yX8_greatestRing cX8_greatestRing 3 (some .int), Cond.methodLink RX8 88 yX8_sendFrom, Cond.instanceMethod yX8_sendFrom, Cond.selects RX8 yX8_sendFrom yX8_sendFrom, Cond.code yX8_sendFrom cX8_sendFrom 5 none, Cond.methodLink RX8 74 yX8_upper, Cond.instanceMethod yX8_upper, Cond.selects RX8 yX8_upper yX8_upper, Cond.code yX8_upper cX8_upper 4 (some .int), Cond.methodLink RX8 133 yX8_summary, Cond.instanceMethod yX8_summary, Cond.selects RX8 yX8_summary yX8_summary, Cond.code yX8_summary cX8_summary 8 (some .long), Cond.constantLong RX8 120 (4098049024), Cond.methodLink RX8 122 yX8_rankOf, Cond.instanceMethod yX8_rankOf, Cond.selects RX8 yX8_rankOf yX8_rankOf, Cond.code yX8_rankOf cX8_rankOf 4 (some .int), Cond.methodLink RX8 67 yX8_markOf, Cond.instanceMethod yX8_markOf, Cond.selects RX8 yX8_markOf yX8_markOf, Cond.code yX8_markOf cX8_markOf 4 (some .int), Cond.constantLong RX8 59 (2)]
def wsX8_layHeld_r3 : List Cond := [Cond.constantLong RX8 61 (40503), Cond.constantLong RX8 63 (65536), Cond.constantLong RX8 65 (64), Cond.methodLink RX8 125 yX8_threeOfItem, Cond.instanceMethod yX8_threeOfItem, Cond.selects RX8 yX8_threeOfItem yX8_threeOfItem, Cond.code yX8_threeOfItem cX8_threeOfItem 2 (some .long), Cond.constantLong RX8 112 (2048000), Cond.constantLong RX8 114 (4096000000), Cond.methodLink RX8 129 yX8_both, Cond.instanceMethod yX8_both, Cond.selects RX8 yX8_both yX8_both, Cond.code yX8_both cX8_both 6 (some .long), Cond.methodLink RX8 116 yX8_threeOf, Cond.instanceMethod yX8_threeOf, Cond.selects RX8 yX8_threeOf yX8_threeOf, Cond.code yX8_threeOf cX8_threeOf 8 (some .long), Cond.constantLong RX8 101 (2000), Cond.constantLong RX8 103 (4000000), Cond.methodLink RX8 105 yX8_unpack, Cond.instanceMethod yX8_unpack, Cond.selects RX8 yX8_unpack yX8_unpack, Cond.code yX8_unpack cX8_unpack 4 none, Cond.fieldLink RX8 38 "TwiceHeardModel" "six" "[I"]
def wsX8_layHeld_r4 : List Cond := [Cond.methodLink RX8 109 yX8_leastAbove, Cond.instanceMethod yX8_leastAbove, Cond.selects RX8 yX8_leastAbove yX8_leastAbove, Cond.code yX8_leastAbove cX8_leastAbove 4 (some .int), Cond.methodLink RX8 95 yX8_comes, Cond.instanceMethod yX8_comes, Cond.selects RX8 yX8_comes yX8_comes, Cond.code yX8_comes cX8_comes 2 (some .boolean)]
def wsX8_layHeld : List Cond := .code yX8_layHeld cX8_layHeld 3 none :: ((wsX8_layHeld_r1 ++ (wsX8_layHeld_r2 ++ (wsX8_layHeld_r3 ++ wsX8_layHeld_r4))) ++ wsX80)
def wsX8_byBits_r1 : List Cond := [Cond.fieldLink RX8 34 "TwiceHeardModel" "held" "[J", Cond.methodLink RX8 137 yX8_layHeld, Cond.instanceMethod yX8_layHeld, Cond.selects RX8 yX8_layHeld yX8_layHeld, Cond.initialized RX8, Cond.code yX8_layHeld cX8_layHeld 3 none, Cond.fieldLink RX8 9 "TwiceHeardModel" "w" "[I", Cond.fieldLink RX8 77 "TwiceHeardModel" "letters" "I", Cond.fieldLink RX8 28 "TwiceHeardModel" "to" "[I", Cond.fieldLink RX8 25 "TwiceHeardModel" "from" "[I", Cond.methodLink RX8 92 yX8_layLetters, Cond.instanceMethod yX8_layLetters, Cond.selects RX8 yX8_layLetters yX8_layLetters, Cond.code yX8_layLetters cX8_layLetters 3 none, Cond.fieldLink RX8 22 "TwiceHeardModel" "ring" "[I", Cond.methodLink RX8 81 yX8_layRings, Cond.instanceMethod yX8_layRings, Cond.selects RX8 yX8_layRings yX8_layRings, Cond.code yX8_layRings cX8_layRings 2 none, Cond.methodLink RX8 71 yX8_spread, Cond.instanceMethod yX8_spread, Cond.selects RX8 yX8_spread yX8_spread, Cond.code yX8_spread cX8_spread 5 (some .boolean), Cond.methodLink RX8 55 yX8_has]
def wsX8_byBits_r2 : List Cond := [Cond.static yX8_has, Cond.code yX8_has cX8_has 2 (some .boolean), Cond.methodLink RX8 84 yX8_greatestRing, Cond.instanceMethod yX8_greatestRing, Cond.selects RX8 yX8_greatestRing yX8_greatestRing, Cond.code yX8_greatestRing cX8_greatestRing 3 (some .int), Cond.methodLink RX8 88 yX8_sendFrom, Cond.instanceMethod yX8_sendFrom, Cond.selects RX8 yX8_sendFrom yX8_sendFrom, Cond.code yX8_sendFrom cX8_sendFrom 5 none, Cond.methodLink RX8 74 yX8_upper, Cond.instanceMethod yX8_upper, Cond.selects RX8 yX8_upper yX8_upper, Cond.code yX8_upper cX8_upper 4 (some .int), Cond.methodLink RX8 133 yX8_summary, Cond.instanceMethod yX8_summary, Cond.selects RX8 yX8_summary yX8_summary, Cond.code yX8_summary cX8_summary 8 (some .long), Cond.constantLong RX8 120 (4098049024), Cond.methodLink RX8 122 yX8_rankOf, Cond.instanceMethod yX8_rankOf, Cond.selects RX8 yX8_rankOf yX8_rankOf, Cond.code yX8_rankOf cX8_rankOf 4 (some .int), Cond.methodLink RX8 67 yX8_markOf]
def wsX8_byBits_r3 : List Cond := [Cond.instanceMethod yX8_markOf, Cond.selects RX8 yX8_markOf yX8_markOf, Cond.code yX8_markOf cX8_markOf 4 (some .int), Cond.constantLong RX8 59 (2), Cond.constantLong RX8 61 (40503), Cond.constantLong RX8 63 (65536), Cond.constantLong RX8 65 (64), Cond.methodLink RX8 125 yX8_threeOfItem, Cond.instanceMethod yX8_threeOfItem, Cond.selects RX8 yX8_threeOfItem yX8_threeOfItem, Cond.code yX8_threeOfItem cX8_threeOfItem 2 (some .long), Cond.constantLong RX8 112 (2048000), Cond.constantLong RX8 114 (4096000000), Cond.methodLink RX8 129 yX8_both, Cond.instanceMethod yX8_both, Cond.selects RX8 yX8_both yX8_both, Cond.code yX8_both cX8_both 6 (some .long), Cond.methodLink RX8 116 yX8_threeOf, Cond.instanceMethod yX8_threeOf, Cond.selects RX8 yX8_threeOf yX8_threeOf, Cond.code yX8_threeOf cX8_threeOf 8 (some .long), Cond.constantLong RX8 101 (2000), Cond.constantLong RX8 103 (4000000), Cond.methodLink RX8 105 yX8_unpack]
def wsX8_byBits_r4 : List Cond := [Cond.instanceMethod yX8_unpack, Cond.selects RX8 yX8_unpack yX8_unpack, Cond.code yX8_unpack cX8_unpack 4 none, Cond.fieldLink RX8 38 "TwiceHeardModel" "six" "[I", Cond.methodLink RX8 109 yX8_leastAbove, Cond.instanceMethod yX8_leastAbove, Cond.selects RX8 yX8_leastAbove yX8_leastAbove, Cond.code yX8_leastAbove cX8_leastAbove 4 (some .int), Cond.methodLink RX8 95 yX8_comes, Cond.instanceMethod yX8_comes, Cond.selects RX8 yX8_comes yX8_comes, Cond.code yX8_comes cX8_comes 2 (some .boolean)]
def wsX8_byBits : List Cond := .code yX8_byBits cX8_byBits 3 (some .int) :: ((wsX8_byBits_r1 ++ (wsX8_byBits_r2 ++ (wsX8_byBits_r3 ++ wsX8_byBits_r4))) ++ wsX80)
def wsX8_byLeast_r1 : List Cond := [Cond.fieldLink RX8 34 "TwiceHeardModel" "held" "[J", Cond.fieldLink RX8 38 "TwiceHeardModel" "six" "[I", Cond.methodLink RX8 137 yX8_layHeld, Cond.instanceMethod yX8_layHeld, Cond.selects RX8 yX8_layHeld yX8_layHeld, Cond.initialized RX8, Cond.code yX8_layHeld cX8_layHeld 3 none, Cond.fieldLink RX8 9 "TwiceHeardModel" "w" "[I", Cond.fieldLink RX8 77 "TwiceHeardModel" "letters" "I", Cond.fieldLink RX8 28 "TwiceHeardModel" "to" "[I", Cond.fieldLink RX8 25 "TwiceHeardModel" "from" "[I", Cond.methodLink RX8 92 yX8_layLetters, Cond.instanceMethod yX8_layLetters, Cond.selects RX8 yX8_layLetters yX8_layLetters, Cond.code yX8_layLetters cX8_layLetters 3 none, Cond.fieldLink RX8 22 "TwiceHeardModel" "ring" "[I", Cond.methodLink RX8 81 yX8_layRings, Cond.instanceMethod yX8_layRings, Cond.selects RX8 yX8_layRings yX8_layRings, Cond.code yX8_layRings cX8_layRings 2 none, Cond.methodLink RX8 71 yX8_spread, Cond.instanceMethod yX8_spread, Cond.selects RX8 yX8_spread yX8_spread, Cond.code yX8_spread cX8_spread 5 (some .boolean)]
def wsX8_byLeast_r2 : List Cond := [Cond.methodLink RX8 55 yX8_has, Cond.static yX8_has, Cond.code yX8_has cX8_has 2 (some .boolean), Cond.methodLink RX8 84 yX8_greatestRing, Cond.instanceMethod yX8_greatestRing, Cond.selects RX8 yX8_greatestRing yX8_greatestRing, Cond.code yX8_greatestRing cX8_greatestRing 3 (some .int), Cond.methodLink RX8 88 yX8_sendFrom, Cond.instanceMethod yX8_sendFrom, Cond.selects RX8 yX8_sendFrom yX8_sendFrom, Cond.code yX8_sendFrom cX8_sendFrom 5 none, Cond.methodLink RX8 74 yX8_upper, Cond.instanceMethod yX8_upper, Cond.selects RX8 yX8_upper yX8_upper, Cond.code yX8_upper cX8_upper 4 (some .int), Cond.methodLink RX8 133 yX8_summary, Cond.instanceMethod yX8_summary, Cond.selects RX8 yX8_summary yX8_summary, Cond.code yX8_summary cX8_summary 8 (some .long), Cond.constantLong RX8 120 (4098049024), Cond.methodLink RX8 122 yX8_rankOf, Cond.instanceMethod yX8_rankOf, Cond.selects RX8 yX8_rankOf yX8_rankOf, Cond.code yX8_rankOf cX8_rankOf 4 (some .int)]
def wsX8_byLeast_r3 : List Cond := [Cond.methodLink RX8 67 yX8_markOf, Cond.instanceMethod yX8_markOf, Cond.selects RX8 yX8_markOf yX8_markOf, Cond.code yX8_markOf cX8_markOf 4 (some .int), Cond.constantLong RX8 59 (2), Cond.constantLong RX8 61 (40503), Cond.constantLong RX8 63 (65536), Cond.constantLong RX8 65 (64), Cond.methodLink RX8 125 yX8_threeOfItem, Cond.instanceMethod yX8_threeOfItem, Cond.selects RX8 yX8_threeOfItem yX8_threeOfItem, Cond.code yX8_threeOfItem cX8_threeOfItem 2 (some .long), Cond.constantLong RX8 112 (2048000), Cond.constantLong RX8 114 (4096000000), Cond.methodLink RX8 129 yX8_both, Cond.instanceMethod yX8_both, Cond.selects RX8 yX8_both yX8_both, Cond.code yX8_both cX8_both 6 (some .long), Cond.methodLink RX8 116 yX8_threeOf, Cond.instanceMethod yX8_threeOf, Cond.selects RX8 yX8_threeOf yX8_threeOf, Cond.code yX8_threeOf cX8_threeOf 8 (some .long), Cond.constantLong RX8 101 (2000), Cond.constantLong RX8 103 (4000000)]
def wsX8_byLeast_r4 : List Cond := [Cond.methodLink RX8 105 yX8_unpack, Cond.instanceMethod yX8_unpack, Cond.selects RX8 yX8_unpack yX8_unpack, Cond.code yX8_unpack cX8_unpack 4 none, Cond.methodLink RX8 109 yX8_leastAbove, Cond.instanceMethod yX8_leastAbove, Cond.selects RX8 yX8_leastAbove yX8_leastAbove, Cond.code yX8_leastAbove cX8_leastAbove 4 (some .int), Cond.methodLink RX8 95 yX8_comes, Cond.instanceMethod yX8_comes, Cond.selects RX8 yX8_comes yX8_comes, Cond.code yX8_comes cX8_comes 2 (some .boolean)]
def wsX8_byLeast : List Cond := .code yX8_byLeast cX8_byLeast 3 (some .int) :: ((wsX8_byLeast_r1 ++ (wsX8_byLeast_r2 ++ (wsX8_byLeast_r3 ++ wsX8_byLeast_r4))) ++ wsX80)
def wsX8_truth : List Cond := .code yX8_truth cX8_truth 3 (some .int) :: ([.fieldLink RX8 9 "TwiceHeardModel" "w" "[I", .fieldLink RX8 22 "TwiceHeardModel" "ring" "[I", .methodLink RX8 81 yX8_layRings, .instanceMethod yX8_layRings, .selects RX8 yX8_layRings yX8_layRings, .initialized RX8, .code yX8_layRings cX8_layRings 2 none, .methodLink RX8 71 yX8_spread, .instanceMethod yX8_spread, .selects RX8 yX8_spread yX8_spread, .code yX8_spread cX8_spread 5 (some .boolean), .methodLink RX8 55 yX8_has, .static yX8_has, .code yX8_has cX8_has 2 (some .boolean), .methodLink RX8 140 yX8_ones, .static yX8_ones, .code yX8_ones cX8_ones 3 (some .int)] ++ wsX80)
def wsX8_links : List Cond := .code yX8_links cX8_links 3 (some .int) :: ([.fieldLink RX8 9 "TwiceHeardModel" "w" "[I", .methodLink RX8 140 yX8_ones, .static yX8_ones, .initialized RX8, .code yX8_ones cX8_ones 3 (some .int), .methodLink RX8 55 yX8_has, .static yX8_has, .code yX8_has cX8_has 2 (some .boolean)] ++ wsX80)
def wsX8_lostLinks : List Cond := .code yX8_lostLinks cX8_lostLinks 3 (some .int) :: ([.fieldLink RX8 9 "TwiceHeardModel" "w" "[I", .methodLink RX8 140 yX8_ones, .static yX8_ones, .initialized RX8, .code yX8_ones cX8_ones 3 (some .int), .methodLink RX8 55 yX8_has, .static yX8_has, .code yX8_has cX8_has 2 (some .boolean)] ++ wsX80)
def wsX8_wrongEntry_r1 : List Cond := [Cond.fieldLink RX8 143 "TwiceHeardModel" "booked" "I", Cond.fieldLink RX8 16 "TwiceHeardModel" "bookOf" "[I", Cond.fieldLink RX8 22 "TwiceHeardModel" "ring" "[I", Cond.fieldLink RX8 19 "TwiceHeardModel" "bookIs" "[I", Cond.methodLink RX8 81 yX8_layRings, Cond.instanceMethod yX8_layRings, Cond.selects RX8 yX8_layRings yX8_layRings, Cond.initialized RX8, Cond.code yX8_layRings cX8_layRings 2 none, Cond.methodLink RX8 71 yX8_spread, Cond.instanceMethod yX8_spread, Cond.selects RX8 yX8_spread yX8_spread, Cond.code yX8_spread cX8_spread 5 (some .boolean), Cond.fieldLink RX8 9 "TwiceHeardModel" "w" "[I", Cond.methodLink RX8 55 yX8_has, Cond.static yX8_has, Cond.code yX8_has cX8_has 2 (some .boolean), Cond.methodLink RX8 51 yX8_isNode, Cond.instanceMethod yX8_isNode, Cond.selects RX8 yX8_isNode yX8_isNode, Cond.code yX8_isNode cX8_isNode 2 (some .boolean), Cond.methodLink RX8 47 yX8_in, Cond.static yX8_in, Cond.code yX8_in cX8_in 3 (some .boolean)]
def wsX8_wrongEntry_r2 : List Cond := [Cond.methodLink RX8 146 yX8_byBits, Cond.instanceMethod yX8_byBits, Cond.selects RX8 yX8_byBits yX8_byBits, Cond.code yX8_byBits cX8_byBits 3 (some .int), Cond.fieldLink RX8 34 "TwiceHeardModel" "held" "[J", Cond.methodLink RX8 137 yX8_layHeld, Cond.instanceMethod yX8_layHeld, Cond.selects RX8 yX8_layHeld yX8_layHeld, Cond.code yX8_layHeld cX8_layHeld 3 none, Cond.fieldLink RX8 77 "TwiceHeardModel" "letters" "I", Cond.fieldLink RX8 28 "TwiceHeardModel" "to" "[I", Cond.fieldLink RX8 25 "TwiceHeardModel" "from" "[I", Cond.methodLink RX8 92 yX8_layLetters, Cond.instanceMethod yX8_layLetters, Cond.selects RX8 yX8_layLetters yX8_layLetters, Cond.code yX8_layLetters cX8_layLetters 3 none, Cond.methodLink RX8 84 yX8_greatestRing, Cond.instanceMethod yX8_greatestRing, Cond.selects RX8 yX8_greatestRing yX8_greatestRing, Cond.code yX8_greatestRing cX8_greatestRing 3 (some .int), Cond.methodLink RX8 88 yX8_sendFrom, Cond.instanceMethod yX8_sendFrom, Cond.selects RX8 yX8_sendFrom yX8_sendFrom, Cond.code yX8_sendFrom cX8_sendFrom 5 none]
def wsX8_wrongEntry_r3 : List Cond := [Cond.methodLink RX8 74 yX8_upper, Cond.instanceMethod yX8_upper, Cond.selects RX8 yX8_upper yX8_upper, Cond.code yX8_upper cX8_upper 4 (some .int), Cond.methodLink RX8 133 yX8_summary, Cond.instanceMethod yX8_summary, Cond.selects RX8 yX8_summary yX8_summary, Cond.code yX8_summary cX8_summary 8 (some .long), Cond.constantLong RX8 120 (4098049024), Cond.methodLink RX8 122 yX8_rankOf, Cond.instanceMethod yX8_rankOf, Cond.selects RX8 yX8_rankOf yX8_rankOf, Cond.code yX8_rankOf cX8_rankOf 4 (some .int), Cond.methodLink RX8 67 yX8_markOf, Cond.instanceMethod yX8_markOf, Cond.selects RX8 yX8_markOf yX8_markOf, Cond.code yX8_markOf cX8_markOf 4 (some .int), Cond.constantLong RX8 59 (2), Cond.constantLong RX8 61 (40503), Cond.constantLong RX8 63 (65536), Cond.constantLong RX8 65 (64), Cond.methodLink RX8 125 yX8_threeOfItem, Cond.instanceMethod yX8_threeOfItem, Cond.selects RX8 yX8_threeOfItem yX8_threeOfItem]
def wsX8_wrongEntry_r4 : List Cond := [Cond.code yX8_threeOfItem cX8_threeOfItem 2 (some .long), Cond.constantLong RX8 112 (2048000), Cond.constantLong RX8 114 (4096000000), Cond.methodLink RX8 129 yX8_both, Cond.instanceMethod yX8_both, Cond.selects RX8 yX8_both yX8_both, Cond.code yX8_both cX8_both 6 (some .long), Cond.methodLink RX8 116 yX8_threeOf, Cond.instanceMethod yX8_threeOf, Cond.selects RX8 yX8_threeOf yX8_threeOf, Cond.code yX8_threeOf cX8_threeOf 8 (some .long), Cond.constantLong RX8 101 (2000), Cond.constantLong RX8 103 (4000000), Cond.methodLink RX8 105 yX8_unpack, Cond.instanceMethod yX8_unpack, Cond.selects RX8 yX8_unpack yX8_unpack, Cond.code yX8_unpack cX8_unpack 4 none, Cond.fieldLink RX8 38 "TwiceHeardModel" "six" "[I", Cond.methodLink RX8 109 yX8_leastAbove, Cond.instanceMethod yX8_leastAbove, Cond.selects RX8 yX8_leastAbove yX8_leastAbove, Cond.code yX8_leastAbove cX8_leastAbove 4 (some .int), Cond.methodLink RX8 95 yX8_comes, Cond.instanceMethod yX8_comes]
def wsX8_wrongEntry_r5 : List Cond := [Cond.selects RX8 yX8_comes yX8_comes, Cond.code yX8_comes cX8_comes 2 (some .boolean)]
def wsX8_wrongEntry : List Cond := .code yX8_wrongEntry cX8_wrongEntry 2 (some .int) :: ((wsX8_wrongEntry_r1 ++ (wsX8_wrongEntry_r2 ++ (wsX8_wrongEntry_r3 ++ (wsX8_wrongEntry_r4 ++ wsX8_wrongEntry_r5)))) ++ wsX80)
def wsX8_outermost : List Cond := .code yX8_outermost cX8_outermost 1 (some .int) :: ([.methodLink RX8 81 yX8_layRings, .instanceMethod yX8_layRings, .selects RX8 yX8_layRings yX8_layRings, .initialized RX8, .code yX8_layRings cX8_layRings 2 none, .fieldLink RX8 22 "TwiceHeardModel" "ring" "[I", .methodLink RX8 71 yX8_spread, .instanceMethod yX8_spread, .selects RX8 yX8_spread yX8_spread, .code yX8_spread cX8_spread 5 (some .boolean), .fieldLink RX8 9 "TwiceHeardModel" "w" "[I", .methodLink RX8 55 yX8_has, .static yX8_has, .code yX8_has cX8_has 2 (some .boolean), .methodLink RX8 84 yX8_greatestRing, .instanceMethod yX8_greatestRing, .selects RX8 yX8_greatestRing yX8_greatestRing, .code yX8_greatestRing cX8_greatestRing 3 (some .int)] ++ wsX80)
def wsX8_letterMany_r1 : List Cond := [Cond.fieldLink RX8 77 "TwiceHeardModel" "letters" "I", Cond.methodLink RX8 92 yX8_layLetters, Cond.instanceMethod yX8_layLetters, Cond.selects RX8 yX8_layLetters yX8_layLetters, Cond.initialized RX8, Cond.code yX8_layLetters cX8_layLetters 3 none, Cond.fieldLink RX8 9 "TwiceHeardModel" "w" "[I", Cond.fieldLink RX8 22 "TwiceHeardModel" "ring" "[I", Cond.methodLink RX8 81 yX8_layRings, Cond.instanceMethod yX8_layRings, Cond.selects RX8 yX8_layRings yX8_layRings, Cond.code yX8_layRings cX8_layRings 2 none, Cond.methodLink RX8 71 yX8_spread, Cond.instanceMethod yX8_spread, Cond.selects RX8 yX8_spread yX8_spread, Cond.code yX8_spread cX8_spread 5 (some .boolean), Cond.methodLink RX8 55 yX8_has, Cond.static yX8_has, Cond.code yX8_has cX8_has 2 (some .boolean), Cond.methodLink RX8 84 yX8_greatestRing, Cond.instanceMethod yX8_greatestRing, Cond.selects RX8 yX8_greatestRing yX8_greatestRing, Cond.code yX8_greatestRing cX8_greatestRing 3 (some .int), Cond.methodLink RX8 88 yX8_sendFrom]
def wsX8_letterMany_r2 : List Cond := [Cond.instanceMethod yX8_sendFrom, Cond.selects RX8 yX8_sendFrom yX8_sendFrom, Cond.code yX8_sendFrom cX8_sendFrom 5 none, Cond.fieldLink RX8 25 "TwiceHeardModel" "from" "[I", Cond.fieldLink RX8 28 "TwiceHeardModel" "to" "[I", Cond.methodLink RX8 74 yX8_upper, Cond.instanceMethod yX8_upper, Cond.selects RX8 yX8_upper yX8_upper, Cond.code yX8_upper cX8_upper 4 (some .int)]
def wsX8_letterMany : List Cond := .code yX8_letterMany cX8_letterMany 1 (some .int) :: ((wsX8_letterMany_r1 ++ wsX8_letterMany_r2) ++ wsX80)
def wsX8_told_r1 : List Cond := [Cond.fieldLink RX8 9 "TwiceHeardModel" "w" "[I", Cond.fieldLink RX8 143 "TwiceHeardModel" "booked" "I", Cond.fieldLink RX8 173 "TwiceHeardModel" "known" "I", Cond.fieldLink RX8 176 "TwiceHeardModel" "seed" "I", Cond.constant RX8 179 (-1000000002), Cond.methodLink RX8 149 yX8_links, Cond.instanceMethod yX8_links, Cond.selects RX8 yX8_links yX8_links, Cond.initialized RX8, Cond.code yX8_links cX8_links 3 (some .int), Cond.methodLink RX8 140 yX8_ones, Cond.static yX8_ones, Cond.code yX8_ones cX8_ones 3 (some .int), Cond.methodLink RX8 55 yX8_has, Cond.static yX8_has, Cond.code yX8_has cX8_has 2 (some .boolean), Cond.methodLink RX8 152 yX8_lostLinks, Cond.instanceMethod yX8_lostLinks, Cond.selects RX8 yX8_lostLinks yX8_lostLinks, Cond.code yX8_lostLinks cX8_lostLinks 3 (some .int), Cond.methodLink RX8 155 yX8_outermost, Cond.instanceMethod yX8_outermost, Cond.selects RX8 yX8_outermost yX8_outermost, Cond.code yX8_outermost cX8_outermost 1 (some .int)]
def wsX8_told_r2 : List Cond := [Cond.methodLink RX8 81 yX8_layRings, Cond.instanceMethod yX8_layRings, Cond.selects RX8 yX8_layRings yX8_layRings, Cond.code yX8_layRings cX8_layRings 2 none, Cond.fieldLink RX8 22 "TwiceHeardModel" "ring" "[I", Cond.methodLink RX8 71 yX8_spread, Cond.instanceMethod yX8_spread, Cond.selects RX8 yX8_spread yX8_spread, Cond.code yX8_spread cX8_spread 5 (some .boolean), Cond.methodLink RX8 84 yX8_greatestRing, Cond.instanceMethod yX8_greatestRing, Cond.selects RX8 yX8_greatestRing yX8_greatestRing, Cond.code yX8_greatestRing cX8_greatestRing 3 (some .int), Cond.methodLink RX8 158 yX8_comesSet, Cond.instanceMethod yX8_comesSet, Cond.selects RX8 yX8_comesSet yX8_comesSet, Cond.code yX8_comesSet cX8_comesSet 3 (some .int), Cond.fieldLink RX8 31 "TwiceHeardModel" "ways" "[I", Cond.methodLink RX8 98 yX8_layWays, Cond.instanceMethod yX8_layWays, Cond.selects RX8 yX8_layWays yX8_layWays, Cond.code yX8_layWays cX8_layWays 2 none, Cond.fieldLink RX8 77 "TwiceHeardModel" "letters" "I", Cond.fieldLink RX8 25 "TwiceHeardModel" "from" "[I"]
def wsX8_told_r3 : List Cond := [Cond.fieldLink RX8 28 "TwiceHeardModel" "to" "[I", Cond.methodLink RX8 92 yX8_layLetters, Cond.instanceMethod yX8_layLetters, Cond.selects RX8 yX8_layLetters yX8_layLetters, Cond.code yX8_layLetters cX8_layLetters 3 none, Cond.methodLink RX8 88 yX8_sendFrom, Cond.instanceMethod yX8_sendFrom, Cond.selects RX8 yX8_sendFrom yX8_sendFrom, Cond.code yX8_sendFrom cX8_sendFrom 5 none, Cond.methodLink RX8 74 yX8_upper, Cond.instanceMethod yX8_upper, Cond.selects RX8 yX8_upper yX8_upper, Cond.code yX8_upper cX8_upper 4 (some .int), Cond.methodLink RX8 95 yX8_comes, Cond.instanceMethod yX8_comes, Cond.selects RX8 yX8_comes yX8_comes, Cond.code yX8_comes cX8_comes 2 (some .boolean), Cond.methodLink RX8 161 yX8_truth, Cond.instanceMethod yX8_truth, Cond.selects RX8 yX8_truth yX8_truth, Cond.code yX8_truth cX8_truth 3 (some .int), Cond.methodLink RX8 164 yX8_letterMany, Cond.instanceMethod yX8_letterMany, Cond.selects RX8 yX8_letterMany yX8_letterMany]
def wsX8_told_r4 : List Cond := [Cond.code yX8_letterMany cX8_letterMany 1 (some .int), Cond.methodLink RX8 167 yX8_lostLetters, Cond.instanceMethod yX8_lostLetters, Cond.selects RX8 yX8_lostLetters yX8_lostLetters, Cond.code yX8_lostLetters cX8_lostLetters 3 (some .int), Cond.methodLink RX8 170 yX8_wrongEntry, Cond.instanceMethod yX8_wrongEntry, Cond.selects RX8 yX8_wrongEntry yX8_wrongEntry, Cond.code yX8_wrongEntry cX8_wrongEntry 2 (some .int), Cond.fieldLink RX8 16 "TwiceHeardModel" "bookOf" "[I", Cond.fieldLink RX8 19 "TwiceHeardModel" "bookIs" "[I", Cond.methodLink RX8 51 yX8_isNode, Cond.instanceMethod yX8_isNode, Cond.selects RX8 yX8_isNode yX8_isNode, Cond.code yX8_isNode cX8_isNode 2 (some .boolean), Cond.methodLink RX8 47 yX8_in, Cond.static yX8_in, Cond.code yX8_in cX8_in 3 (some .boolean), Cond.methodLink RX8 146 yX8_byBits, Cond.instanceMethod yX8_byBits, Cond.selects RX8 yX8_byBits yX8_byBits, Cond.code yX8_byBits cX8_byBits 3 (some .int), Cond.fieldLink RX8 34 "TwiceHeardModel" "held" "[J", Cond.methodLink RX8 137 yX8_layHeld]
def wsX8_told_r5 : List Cond := [Cond.instanceMethod yX8_layHeld, Cond.selects RX8 yX8_layHeld yX8_layHeld, Cond.code yX8_layHeld cX8_layHeld 3 none, Cond.methodLink RX8 133 yX8_summary, Cond.instanceMethod yX8_summary, Cond.selects RX8 yX8_summary yX8_summary, Cond.code yX8_summary cX8_summary 8 (some .long), Cond.constantLong RX8 120 (4098049024), Cond.methodLink RX8 122 yX8_rankOf, Cond.instanceMethod yX8_rankOf, Cond.selects RX8 yX8_rankOf yX8_rankOf, Cond.code yX8_rankOf cX8_rankOf 4 (some .int), Cond.methodLink RX8 67 yX8_markOf, Cond.instanceMethod yX8_markOf, Cond.selects RX8 yX8_markOf yX8_markOf, Cond.code yX8_markOf cX8_markOf 4 (some .int), Cond.constantLong RX8 59 (2), Cond.constantLong RX8 61 (40503), Cond.constantLong RX8 63 (65536), Cond.constantLong RX8 65 (64), Cond.methodLink RX8 125 yX8_threeOfItem, Cond.instanceMethod yX8_threeOfItem, Cond.selects RX8 yX8_threeOfItem yX8_threeOfItem, Cond.code yX8_threeOfItem cX8_threeOfItem 2 (some .long)]
def wsX8_told_r6 : List Cond := [Cond.constantLong RX8 112 (2048000), Cond.constantLong RX8 114 (4096000000), Cond.methodLink RX8 129 yX8_both, Cond.instanceMethod yX8_both, Cond.selects RX8 yX8_both yX8_both, Cond.code yX8_both cX8_both 6 (some .long), Cond.methodLink RX8 116 yX8_threeOf, Cond.instanceMethod yX8_threeOf, Cond.selects RX8 yX8_threeOf yX8_threeOf, Cond.code yX8_threeOf cX8_threeOf 8 (some .long), Cond.constantLong RX8 101 (2000), Cond.constantLong RX8 103 (4000000), Cond.methodLink RX8 105 yX8_unpack, Cond.instanceMethod yX8_unpack, Cond.selects RX8 yX8_unpack yX8_unpack, Cond.code yX8_unpack cX8_unpack 4 none, Cond.fieldLink RX8 38 "TwiceHeardModel" "six" "[I", Cond.methodLink RX8 109 yX8_leastAbove, Cond.instanceMethod yX8_leastAbove, Cond.selects RX8 yX8_leastAbove yX8_leastAbove, Cond.code yX8_leastAbove cX8_leastAbove 4 (some .int)]
def wsX8_told : List Cond := .code yX8_told cX8_told 2 (some .int) :: ((wsX8_told_r1 ++ (wsX8_told_r2 ++ (wsX8_told_r3 ++ (wsX8_told_r4 ++ (wsX8_told_r5 ++ wsX8_told_r6))))) ++ wsX80)
def wsX8_at_r1 : List Cond := [Cond.constant RX8 180 (-1000000001), Cond.fieldLink RX8 22 "TwiceHeardModel" "ring" "[I", Cond.fieldLink RX8 9 "TwiceHeardModel" "w" "[I", Cond.fieldLink RX8 31 "TwiceHeardModel" "ways" "[I", Cond.constant RX8 179 (-1000000002), Cond.methodLink RX8 51 yX8_isNode, Cond.instanceMethod yX8_isNode, Cond.selects RX8 yX8_isNode yX8_isNode, Cond.initialized RX8, Cond.code yX8_isNode cX8_isNode 2 (some .boolean), Cond.methodLink RX8 47 yX8_in, Cond.static yX8_in, Cond.code yX8_in cX8_in 3 (some .boolean), Cond.methodLink RX8 98 yX8_layWays, Cond.instanceMethod yX8_layWays, Cond.selects RX8 yX8_layWays yX8_layWays, Cond.code yX8_layWays cX8_layWays 2 none, Cond.fieldLink RX8 77 "TwiceHeardModel" "letters" "I", Cond.fieldLink RX8 25 "TwiceHeardModel" "from" "[I", Cond.fieldLink RX8 28 "TwiceHeardModel" "to" "[I", Cond.methodLink RX8 92 yX8_layLetters, Cond.instanceMethod yX8_layLetters, Cond.selects RX8 yX8_layLetters yX8_layLetters, Cond.code yX8_layLetters cX8_layLetters 3 none]
def wsX8_at_r2 : List Cond := [Cond.methodLink RX8 81 yX8_layRings, Cond.instanceMethod yX8_layRings, Cond.selects RX8 yX8_layRings yX8_layRings, Cond.code yX8_layRings cX8_layRings 2 none, Cond.methodLink RX8 71 yX8_spread, Cond.instanceMethod yX8_spread, Cond.selects RX8 yX8_spread yX8_spread, Cond.code yX8_spread cX8_spread 5 (some .boolean), Cond.methodLink RX8 55 yX8_has, Cond.static yX8_has, Cond.code yX8_has cX8_has 2 (some .boolean), Cond.methodLink RX8 84 yX8_greatestRing, Cond.instanceMethod yX8_greatestRing, Cond.selects RX8 yX8_greatestRing yX8_greatestRing, Cond.code yX8_greatestRing cX8_greatestRing 3 (some .int), Cond.methodLink RX8 88 yX8_sendFrom, Cond.instanceMethod yX8_sendFrom, Cond.selects RX8 yX8_sendFrom yX8_sendFrom, Cond.code yX8_sendFrom cX8_sendFrom 5 none, Cond.methodLink RX8 74 yX8_upper, Cond.instanceMethod yX8_upper, Cond.selects RX8 yX8_upper yX8_upper, Cond.code yX8_upper cX8_upper 4 (some .int), Cond.methodLink RX8 95 yX8_comes]
def wsX8_at_r3 : List Cond := [Cond.instanceMethod yX8_comes, Cond.selects RX8 yX8_comes yX8_comes, Cond.code yX8_comes cX8_comes 2 (some .boolean), Cond.methodLink RX8 181 yX8_lettersTo, Cond.instanceMethod yX8_lettersTo, Cond.selects RX8 yX8_lettersTo yX8_lettersTo, Cond.code yX8_lettersTo cX8_lettersTo 4 (some .int)]
def wsX8_at : List Cond := .code yX8_at cX8_at 3 (some .int) :: ((wsX8_at_r1 ++ (wsX8_at_r2 ++ wsX8_at_r3)) ++ wsX80)
def wsX8_isLost : List Cond := .code yX8_isLost cX8_isLost 3 (some .int) :: ([.fieldLink RX8 9 "TwiceHeardModel" "w" "[I", .constant RX8 180 (-1000000001), .methodLink RX8 184 yX8_isLinked, .instanceMethod yX8_isLinked, .selects RX8 yX8_isLinked yX8_isLinked, .initialized RX8, .code yX8_isLinked cX8_isLinked 3 (some .boolean), .methodLink RX8 51 yX8_isNode, .instanceMethod yX8_isNode, .selects RX8 yX8_isNode yX8_isNode, .code yX8_isNode cX8_isNode 2 (some .boolean), .methodLink RX8 47 yX8_in, .static yX8_in, .code yX8_in cX8_in 3 (some .boolean), .methodLink RX8 55 yX8_has, .static yX8_has, .code yX8_has cX8_has 2 (some .boolean)] ++ wsX80)
def wsX8_mark : List Cond := .code yX8_mark cX8_mark 3 (some .int) :: ([.constant RX8 179 (-1000000002), .methodLink RX8 47 yX8_in, .static yX8_in, .initialized RX8, .code yX8_in cX8_in 3 (some .boolean), .methodLink RX8 67 yX8_markOf, .instanceMethod yX8_markOf, .selects RX8 yX8_markOf yX8_markOf, .code yX8_markOf cX8_markOf 4 (some .int), .constantLong RX8 59 (2), .fieldLink RX8 9 "TwiceHeardModel" "w" "[I", .constantLong RX8 61 (40503), .constantLong RX8 63 (65536), .constantLong RX8 65 (64), .methodLink RX8 122 yX8_rankOf, .instanceMethod yX8_rankOf, .selects RX8 yX8_rankOf yX8_rankOf, .code yX8_rankOf cX8_rankOf 4 (some .int)] ++ wsX80)
def wsX8_holds_r1 : List Cond := [Cond.constantLong RX8 187 (-1000000001), Cond.constantLong RX8 189 (-1000000002), Cond.fieldLink RX8 22 "TwiceHeardModel" "ring" "[I", Cond.constantLong RX8 191 (-1), Cond.fieldLink RX8 34 "TwiceHeardModel" "held" "[J", Cond.methodLink RX8 51 yX8_isNode, Cond.instanceMethod yX8_isNode, Cond.selects RX8 yX8_isNode yX8_isNode, Cond.initialized RX8, Cond.code yX8_isNode cX8_isNode 2 (some .boolean), Cond.fieldLink RX8 9 "TwiceHeardModel" "w" "[I", Cond.methodLink RX8 47 yX8_in, Cond.static yX8_in, Cond.code yX8_in cX8_in 3 (some .boolean), Cond.methodLink RX8 137 yX8_layHeld, Cond.instanceMethod yX8_layHeld, Cond.selects RX8 yX8_layHeld yX8_layHeld, Cond.code yX8_layHeld cX8_layHeld 3 none, Cond.fieldLink RX8 77 "TwiceHeardModel" "letters" "I", Cond.fieldLink RX8 28 "TwiceHeardModel" "to" "[I", Cond.fieldLink RX8 25 "TwiceHeardModel" "from" "[I", Cond.methodLink RX8 92 yX8_layLetters, Cond.instanceMethod yX8_layLetters, Cond.selects RX8 yX8_layLetters yX8_layLetters]
def wsX8_holds_r2 : List Cond := [Cond.code yX8_layLetters cX8_layLetters 3 none, Cond.methodLink RX8 81 yX8_layRings, Cond.instanceMethod yX8_layRings, Cond.selects RX8 yX8_layRings yX8_layRings, Cond.code yX8_layRings cX8_layRings 2 none, Cond.methodLink RX8 71 yX8_spread, Cond.instanceMethod yX8_spread, Cond.selects RX8 yX8_spread yX8_spread, Cond.code yX8_spread cX8_spread 5 (some .boolean), Cond.methodLink RX8 55 yX8_has, Cond.static yX8_has, Cond.code yX8_has cX8_has 2 (some .boolean), Cond.methodLink RX8 84 yX8_greatestRing, Cond.instanceMethod yX8_greatestRing, Cond.selects RX8 yX8_greatestRing yX8_greatestRing, Cond.code yX8_greatestRing cX8_greatestRing 3 (some .int), Cond.methodLink RX8 88 yX8_sendFrom, Cond.instanceMethod yX8_sendFrom, Cond.selects RX8 yX8_sendFrom yX8_sendFrom, Cond.code yX8_sendFrom cX8_sendFrom 5 none, Cond.methodLink RX8 74 yX8_upper, Cond.instanceMethod yX8_upper, Cond.selects RX8 yX8_upper yX8_upper, Cond.code yX8_upper cX8_upper 4 (some .int)]
def wsX8_holds_r3 : List Cond := [Cond.methodLink RX8 133 yX8_summary, Cond.instanceMethod yX8_summary, Cond.selects RX8 yX8_summary yX8_summary, Cond.code yX8_summary cX8_summary 8 (some .long), Cond.constantLong RX8 120 (4098049024), Cond.methodLink RX8 122 yX8_rankOf, Cond.instanceMethod yX8_rankOf, Cond.selects RX8 yX8_rankOf yX8_rankOf, Cond.code yX8_rankOf cX8_rankOf 4 (some .int), Cond.methodLink RX8 67 yX8_markOf, Cond.instanceMethod yX8_markOf, Cond.selects RX8 yX8_markOf yX8_markOf, Cond.code yX8_markOf cX8_markOf 4 (some .int), Cond.constantLong RX8 59 (2), Cond.constantLong RX8 61 (40503), Cond.constantLong RX8 63 (65536), Cond.constantLong RX8 65 (64), Cond.methodLink RX8 125 yX8_threeOfItem, Cond.instanceMethod yX8_threeOfItem, Cond.selects RX8 yX8_threeOfItem yX8_threeOfItem, Cond.code yX8_threeOfItem cX8_threeOfItem 2 (some .long), Cond.constantLong RX8 112 (2048000), Cond.constantLong RX8 114 (4096000000), Cond.methodLink RX8 129 yX8_both]
def wsX8_holds_r4 : List Cond := [Cond.instanceMethod yX8_both, Cond.selects RX8 yX8_both yX8_both, Cond.code yX8_both cX8_both 6 (some .long), Cond.methodLink RX8 116 yX8_threeOf, Cond.instanceMethod yX8_threeOf, Cond.selects RX8 yX8_threeOf yX8_threeOf, Cond.code yX8_threeOf cX8_threeOf 8 (some .long), Cond.constantLong RX8 101 (2000), Cond.constantLong RX8 103 (4000000), Cond.methodLink RX8 105 yX8_unpack, Cond.instanceMethod yX8_unpack, Cond.selects RX8 yX8_unpack yX8_unpack, Cond.code yX8_unpack cX8_unpack 4 none, Cond.fieldLink RX8 38 "TwiceHeardModel" "six" "[I", Cond.methodLink RX8 109 yX8_leastAbove, Cond.instanceMethod yX8_leastAbove, Cond.selects RX8 yX8_leastAbove yX8_leastAbove, Cond.code yX8_leastAbove cX8_leastAbove 4 (some .int), Cond.methodLink RX8 95 yX8_comes, Cond.instanceMethod yX8_comes, Cond.selects RX8 yX8_comes yX8_comes, Cond.code yX8_comes cX8_comes 2 (some .boolean)]
def wsX8_holds : List Cond := .code yX8_holds cX8_holds 3 (some .long) :: ((wsX8_holds_r1 ++ (wsX8_holds_r2 ++ (wsX8_holds_r3 ++ wsX8_holds_r4))) ++ wsX80)
def wsX8_guess_r1 : List Cond := [Cond.constant RX8 180 (-1000000001), Cond.constant RX8 179 (-1000000002), Cond.fieldLink RX8 22 "TwiceHeardModel" "ring" "[I", Cond.methodLink RX8 51 yX8_isNode, Cond.instanceMethod yX8_isNode, Cond.selects RX8 yX8_isNode yX8_isNode, Cond.initialized RX8, Cond.code yX8_isNode cX8_isNode 2 (some .boolean), Cond.fieldLink RX8 9 "TwiceHeardModel" "w" "[I", Cond.methodLink RX8 47 yX8_in, Cond.static yX8_in, Cond.code yX8_in cX8_in 3 (some .boolean), Cond.methodLink RX8 81 yX8_layRings, Cond.instanceMethod yX8_layRings, Cond.selects RX8 yX8_layRings yX8_layRings, Cond.code yX8_layRings cX8_layRings 2 none, Cond.methodLink RX8 71 yX8_spread, Cond.instanceMethod yX8_spread, Cond.selects RX8 yX8_spread yX8_spread, Cond.code yX8_spread cX8_spread 5 (some .boolean), Cond.methodLink RX8 55 yX8_has, Cond.static yX8_has, Cond.code yX8_has cX8_has 2 (some .boolean), Cond.methodLink RX8 146 yX8_byBits]
def wsX8_guess_r2 : List Cond := [Cond.instanceMethod yX8_byBits, Cond.selects RX8 yX8_byBits yX8_byBits, Cond.code yX8_byBits cX8_byBits 3 (some .int), Cond.fieldLink RX8 34 "TwiceHeardModel" "held" "[J", Cond.methodLink RX8 137 yX8_layHeld, Cond.instanceMethod yX8_layHeld, Cond.selects RX8 yX8_layHeld yX8_layHeld, Cond.code yX8_layHeld cX8_layHeld 3 none, Cond.fieldLink RX8 77 "TwiceHeardModel" "letters" "I", Cond.fieldLink RX8 28 "TwiceHeardModel" "to" "[I", Cond.fieldLink RX8 25 "TwiceHeardModel" "from" "[I", Cond.methodLink RX8 92 yX8_layLetters, Cond.instanceMethod yX8_layLetters, Cond.selects RX8 yX8_layLetters yX8_layLetters, Cond.code yX8_layLetters cX8_layLetters 3 none, Cond.methodLink RX8 84 yX8_greatestRing, Cond.instanceMethod yX8_greatestRing, Cond.selects RX8 yX8_greatestRing yX8_greatestRing, Cond.code yX8_greatestRing cX8_greatestRing 3 (some .int), Cond.methodLink RX8 88 yX8_sendFrom, Cond.instanceMethod yX8_sendFrom, Cond.selects RX8 yX8_sendFrom yX8_sendFrom, Cond.code yX8_sendFrom cX8_sendFrom 5 none, Cond.methodLink RX8 74 yX8_upper]
def wsX8_guess_r3 : List Cond := [Cond.instanceMethod yX8_upper, Cond.selects RX8 yX8_upper yX8_upper, Cond.code yX8_upper cX8_upper 4 (some .int), Cond.methodLink RX8 133 yX8_summary, Cond.instanceMethod yX8_summary, Cond.selects RX8 yX8_summary yX8_summary, Cond.code yX8_summary cX8_summary 8 (some .long), Cond.constantLong RX8 120 (4098049024), Cond.methodLink RX8 122 yX8_rankOf, Cond.instanceMethod yX8_rankOf, Cond.selects RX8 yX8_rankOf yX8_rankOf, Cond.code yX8_rankOf cX8_rankOf 4 (some .int), Cond.methodLink RX8 67 yX8_markOf, Cond.instanceMethod yX8_markOf, Cond.selects RX8 yX8_markOf yX8_markOf, Cond.code yX8_markOf cX8_markOf 4 (some .int), Cond.constantLong RX8 59 (2), Cond.constantLong RX8 61 (40503), Cond.constantLong RX8 63 (65536), Cond.constantLong RX8 65 (64), Cond.methodLink RX8 125 yX8_threeOfItem, Cond.instanceMethod yX8_threeOfItem, Cond.selects RX8 yX8_threeOfItem yX8_threeOfItem, Cond.code yX8_threeOfItem cX8_threeOfItem 2 (some .long)]
def wsX8_guess_r4 : List Cond := [Cond.constantLong RX8 112 (2048000), Cond.constantLong RX8 114 (4096000000), Cond.methodLink RX8 129 yX8_both, Cond.instanceMethod yX8_both, Cond.selects RX8 yX8_both yX8_both, Cond.code yX8_both cX8_both 6 (some .long), Cond.methodLink RX8 116 yX8_threeOf, Cond.instanceMethod yX8_threeOf, Cond.selects RX8 yX8_threeOf yX8_threeOf, Cond.code yX8_threeOf cX8_threeOf 8 (some .long), Cond.constantLong RX8 101 (2000), Cond.constantLong RX8 103 (4000000), Cond.methodLink RX8 105 yX8_unpack, Cond.instanceMethod yX8_unpack, Cond.selects RX8 yX8_unpack yX8_unpack, Cond.code yX8_unpack cX8_unpack 4 none, Cond.fieldLink RX8 38 "TwiceHeardModel" "six" "[I", Cond.methodLink RX8 109 yX8_leastAbove, Cond.instanceMethod yX8_leastAbove, Cond.selects RX8 yX8_leastAbove yX8_leastAbove, Cond.code yX8_leastAbove cX8_leastAbove 4 (some .int), Cond.methodLink RX8 95 yX8_comes, Cond.instanceMethod yX8_comes, Cond.selects RX8 yX8_comes yX8_comes]
def wsX8_guess_r5 : List Cond := [Cond.code yX8_comes cX8_comes 2 (some .boolean), Cond.methodLink RX8 193 yX8_byLeast, Cond.instanceMethod yX8_byLeast, Cond.selects RX8 yX8_byLeast yX8_byLeast, Cond.code yX8_byLeast cX8_byLeast 3 (some .int)]
def wsX8_guess : List Cond := .code yX8_guess cX8_guess 3 (some .int) :: ((wsX8_guess_r1 ++ (wsX8_guess_r2 ++ (wsX8_guess_r3 ++ (wsX8_guess_r4 ++ wsX8_guess_r5)))) ++ wsX80)
def wsX8_off_r1 : List Cond := [Cond.constant RX8 179 (-1000000002), Cond.constant RX8 196 (100000), Cond.methodLink RX8 47 yX8_in, Cond.static yX8_in, Cond.initialized RX8, Cond.code yX8_in cX8_in 3 (some .boolean), Cond.methodLink RX8 146 yX8_byBits, Cond.instanceMethod yX8_byBits, Cond.selects RX8 yX8_byBits yX8_byBits, Cond.code yX8_byBits cX8_byBits 3 (some .int), Cond.fieldLink RX8 34 "TwiceHeardModel" "held" "[J", Cond.methodLink RX8 137 yX8_layHeld, Cond.instanceMethod yX8_layHeld, Cond.selects RX8 yX8_layHeld yX8_layHeld, Cond.code yX8_layHeld cX8_layHeld 3 none, Cond.fieldLink RX8 9 "TwiceHeardModel" "w" "[I", Cond.fieldLink RX8 77 "TwiceHeardModel" "letters" "I", Cond.fieldLink RX8 28 "TwiceHeardModel" "to" "[I", Cond.fieldLink RX8 25 "TwiceHeardModel" "from" "[I", Cond.methodLink RX8 92 yX8_layLetters, Cond.instanceMethod yX8_layLetters, Cond.selects RX8 yX8_layLetters yX8_layLetters, Cond.code yX8_layLetters cX8_layLetters 3 none, Cond.fieldLink RX8 22 "TwiceHeardModel" "ring" "[I"]
def wsX8_off_r2 : List Cond := [Cond.methodLink RX8 81 yX8_layRings, Cond.instanceMethod yX8_layRings, Cond.selects RX8 yX8_layRings yX8_layRings, Cond.code yX8_layRings cX8_layRings 2 none, Cond.methodLink RX8 71 yX8_spread, Cond.instanceMethod yX8_spread, Cond.selects RX8 yX8_spread yX8_spread, Cond.code yX8_spread cX8_spread 5 (some .boolean), Cond.methodLink RX8 55 yX8_has, Cond.static yX8_has, Cond.code yX8_has cX8_has 2 (some .boolean), Cond.methodLink RX8 84 yX8_greatestRing, Cond.instanceMethod yX8_greatestRing, Cond.selects RX8 yX8_greatestRing yX8_greatestRing, Cond.code yX8_greatestRing cX8_greatestRing 3 (some .int), Cond.methodLink RX8 88 yX8_sendFrom, Cond.instanceMethod yX8_sendFrom, Cond.selects RX8 yX8_sendFrom yX8_sendFrom, Cond.code yX8_sendFrom cX8_sendFrom 5 none, Cond.methodLink RX8 74 yX8_upper, Cond.instanceMethod yX8_upper, Cond.selects RX8 yX8_upper yX8_upper, Cond.code yX8_upper cX8_upper 4 (some .int), Cond.methodLink RX8 133 yX8_summary]
def wsX8_off_r3 : List Cond := [Cond.instanceMethod yX8_summary, Cond.selects RX8 yX8_summary yX8_summary, Cond.code yX8_summary cX8_summary 8 (some .long), Cond.constantLong RX8 120 (4098049024), Cond.methodLink RX8 122 yX8_rankOf, Cond.instanceMethod yX8_rankOf, Cond.selects RX8 yX8_rankOf yX8_rankOf, Cond.code yX8_rankOf cX8_rankOf 4 (some .int), Cond.methodLink RX8 67 yX8_markOf, Cond.instanceMethod yX8_markOf, Cond.selects RX8 yX8_markOf yX8_markOf, Cond.code yX8_markOf cX8_markOf 4 (some .int), Cond.constantLong RX8 59 (2), Cond.constantLong RX8 61 (40503), Cond.constantLong RX8 63 (65536), Cond.constantLong RX8 65 (64), Cond.methodLink RX8 125 yX8_threeOfItem, Cond.instanceMethod yX8_threeOfItem, Cond.selects RX8 yX8_threeOfItem yX8_threeOfItem, Cond.code yX8_threeOfItem cX8_threeOfItem 2 (some .long), Cond.constantLong RX8 112 (2048000), Cond.constantLong RX8 114 (4096000000), Cond.methodLink RX8 129 yX8_both, Cond.instanceMethod yX8_both]
def wsX8_off_r4 : List Cond := [Cond.selects RX8 yX8_both yX8_both, Cond.code yX8_both cX8_both 6 (some .long), Cond.methodLink RX8 116 yX8_threeOf, Cond.instanceMethod yX8_threeOf, Cond.selects RX8 yX8_threeOf yX8_threeOf, Cond.code yX8_threeOf cX8_threeOf 8 (some .long), Cond.constantLong RX8 101 (2000), Cond.constantLong RX8 103 (4000000), Cond.methodLink RX8 105 yX8_unpack, Cond.instanceMethod yX8_unpack, Cond.selects RX8 yX8_unpack yX8_unpack, Cond.code yX8_unpack cX8_unpack 4 none, Cond.fieldLink RX8 38 "TwiceHeardModel" "six" "[I", Cond.methodLink RX8 109 yX8_leastAbove, Cond.instanceMethod yX8_leastAbove, Cond.selects RX8 yX8_leastAbove yX8_leastAbove, Cond.code yX8_leastAbove cX8_leastAbove 4 (some .int), Cond.methodLink RX8 95 yX8_comes, Cond.instanceMethod yX8_comes, Cond.selects RX8 yX8_comes yX8_comes, Cond.code yX8_comes cX8_comes 2 (some .boolean), Cond.methodLink RX8 193 yX8_byLeast, Cond.instanceMethod yX8_byLeast, Cond.selects RX8 yX8_byLeast yX8_byLeast]
def wsX8_off_r5 : List Cond := [Cond.code yX8_byLeast cX8_byLeast 3 (some .int), Cond.methodLink RX8 161 yX8_truth, Cond.instanceMethod yX8_truth, Cond.selects RX8 yX8_truth yX8_truth, Cond.code yX8_truth cX8_truth 3 (some .int), Cond.methodLink RX8 140 yX8_ones, Cond.static yX8_ones, Cond.code yX8_ones cX8_ones 3 (some .int)]
def wsX8_off : List Cond := .code yX8_off cX8_off 3 (some .int) :: ((wsX8_off_r1 ++ (wsX8_off_r2 ++ (wsX8_off_r3 ++ (wsX8_off_r4 ++ wsX8_off_r5)))) ++ wsX80)
def wsX8_letter_r1 : List Cond := [Cond.fieldLink RX8 77 "TwiceHeardModel" "letters" "I", Cond.constant RX8 180 (-1000000001), Cond.fieldLink RX8 25 "TwiceHeardModel" "from" "[I", Cond.fieldLink RX8 28 "TwiceHeardModel" "to" "[I", Cond.constant RX8 179 (-1000000002), Cond.methodLink RX8 92 yX8_layLetters, Cond.instanceMethod yX8_layLetters, Cond.selects RX8 yX8_layLetters yX8_layLetters, Cond.initialized RX8, Cond.code yX8_layLetters cX8_layLetters 3 none, Cond.fieldLink RX8 9 "TwiceHeardModel" "w" "[I", Cond.fieldLink RX8 22 "TwiceHeardModel" "ring" "[I", Cond.methodLink RX8 81 yX8_layRings, Cond.instanceMethod yX8_layRings, Cond.selects RX8 yX8_layRings yX8_layRings, Cond.code yX8_layRings cX8_layRings 2 none, Cond.methodLink RX8 71 yX8_spread, Cond.instanceMethod yX8_spread, Cond.selects RX8 yX8_spread yX8_spread, Cond.code yX8_spread cX8_spread 5 (some .boolean), Cond.methodLink RX8 55 yX8_has, Cond.static yX8_has, Cond.code yX8_has cX8_has 2 (some .boolean), Cond.methodLink RX8 84 yX8_greatestRing]
def wsX8_letter_r2 : List Cond := [Cond.instanceMethod yX8_greatestRing, Cond.selects RX8 yX8_greatestRing yX8_greatestRing, Cond.code yX8_greatestRing cX8_greatestRing 3 (some .int), Cond.methodLink RX8 88 yX8_sendFrom, Cond.instanceMethod yX8_sendFrom, Cond.selects RX8 yX8_sendFrom yX8_sendFrom, Cond.code yX8_sendFrom cX8_sendFrom 5 none, Cond.methodLink RX8 74 yX8_upper, Cond.instanceMethod yX8_upper, Cond.selects RX8 yX8_upper yX8_upper, Cond.code yX8_upper cX8_upper 4 (some .int), Cond.methodLink RX8 47 yX8_in, Cond.static yX8_in, Cond.code yX8_in cX8_in 3 (some .boolean), Cond.methodLink RX8 95 yX8_comes, Cond.instanceMethod yX8_comes, Cond.selects RX8 yX8_comes yX8_comes, Cond.code yX8_comes cX8_comes 2 (some .boolean)]
def wsX8_letter : List Cond := .code yX8_letter cX8_letter 3 (some .int) :: ((wsX8_letter_r1 ++ wsX8_letter_r2) ++ wsX80)
def wsX8_sent_r1 : List Cond := [Cond.fieldLink RX8 77 "TwiceHeardModel" "letters" "I", Cond.constantLong RX8 187 (-1000000001), Cond.constantLong RX8 189 (-1000000002), Cond.fieldLink RX8 34 "TwiceHeardModel" "held" "[J", Cond.fieldLink RX8 25 "TwiceHeardModel" "from" "[I", Cond.methodLink RX8 92 yX8_layLetters, Cond.instanceMethod yX8_layLetters, Cond.selects RX8 yX8_layLetters yX8_layLetters, Cond.initialized RX8, Cond.code yX8_layLetters cX8_layLetters 3 none, Cond.fieldLink RX8 9 "TwiceHeardModel" "w" "[I", Cond.fieldLink RX8 22 "TwiceHeardModel" "ring" "[I", Cond.methodLink RX8 81 yX8_layRings, Cond.instanceMethod yX8_layRings, Cond.selects RX8 yX8_layRings yX8_layRings, Cond.code yX8_layRings cX8_layRings 2 none, Cond.methodLink RX8 71 yX8_spread, Cond.instanceMethod yX8_spread, Cond.selects RX8 yX8_spread yX8_spread, Cond.code yX8_spread cX8_spread 5 (some .boolean), Cond.methodLink RX8 55 yX8_has, Cond.static yX8_has, Cond.code yX8_has cX8_has 2 (some .boolean), Cond.methodLink RX8 84 yX8_greatestRing]
def wsX8_sent_r2 : List Cond := [Cond.instanceMethod yX8_greatestRing, Cond.selects RX8 yX8_greatestRing yX8_greatestRing, Cond.code yX8_greatestRing cX8_greatestRing 3 (some .int), Cond.methodLink RX8 88 yX8_sendFrom, Cond.instanceMethod yX8_sendFrom, Cond.selects RX8 yX8_sendFrom yX8_sendFrom, Cond.code yX8_sendFrom cX8_sendFrom 5 none, Cond.fieldLink RX8 28 "TwiceHeardModel" "to" "[I", Cond.methodLink RX8 74 yX8_upper, Cond.instanceMethod yX8_upper, Cond.selects RX8 yX8_upper yX8_upper, Cond.code yX8_upper cX8_upper 4 (some .int), Cond.methodLink RX8 47 yX8_in, Cond.static yX8_in, Cond.code yX8_in cX8_in 3 (some .boolean), Cond.methodLink RX8 137 yX8_layHeld, Cond.instanceMethod yX8_layHeld, Cond.selects RX8 yX8_layHeld yX8_layHeld, Cond.code yX8_layHeld cX8_layHeld 3 none, Cond.methodLink RX8 133 yX8_summary, Cond.instanceMethod yX8_summary, Cond.selects RX8 yX8_summary yX8_summary, Cond.code yX8_summary cX8_summary 8 (some .long), Cond.constantLong RX8 120 (4098049024)]
def wsX8_sent_r3 : List Cond := [Cond.methodLink RX8 122 yX8_rankOf, Cond.instanceMethod yX8_rankOf, Cond.selects RX8 yX8_rankOf yX8_rankOf, Cond.code yX8_rankOf cX8_rankOf 4 (some .int), Cond.methodLink RX8 67 yX8_markOf, Cond.instanceMethod yX8_markOf, Cond.selects RX8 yX8_markOf yX8_markOf, Cond.code yX8_markOf cX8_markOf 4 (some .int), Cond.constantLong RX8 59 (2), Cond.constantLong RX8 61 (40503), Cond.constantLong RX8 63 (65536), Cond.constantLong RX8 65 (64), Cond.methodLink RX8 125 yX8_threeOfItem, Cond.instanceMethod yX8_threeOfItem, Cond.selects RX8 yX8_threeOfItem yX8_threeOfItem, Cond.code yX8_threeOfItem cX8_threeOfItem 2 (some .long), Cond.constantLong RX8 112 (2048000), Cond.constantLong RX8 114 (4096000000), Cond.methodLink RX8 129 yX8_both, Cond.instanceMethod yX8_both, Cond.selects RX8 yX8_both yX8_both, Cond.code yX8_both cX8_both 6 (some .long), Cond.methodLink RX8 116 yX8_threeOf, Cond.instanceMethod yX8_threeOf]
def wsX8_sent_r4 : List Cond := [Cond.selects RX8 yX8_threeOf yX8_threeOf, Cond.code yX8_threeOf cX8_threeOf 8 (some .long), Cond.constantLong RX8 101 (2000), Cond.constantLong RX8 103 (4000000), Cond.methodLink RX8 105 yX8_unpack, Cond.instanceMethod yX8_unpack, Cond.selects RX8 yX8_unpack yX8_unpack, Cond.code yX8_unpack cX8_unpack 4 none, Cond.fieldLink RX8 38 "TwiceHeardModel" "six" "[I", Cond.methodLink RX8 109 yX8_leastAbove, Cond.instanceMethod yX8_leastAbove, Cond.selects RX8 yX8_leastAbove yX8_leastAbove, Cond.code yX8_leastAbove cX8_leastAbove 4 (some .int), Cond.methodLink RX8 95 yX8_comes, Cond.instanceMethod yX8_comes, Cond.selects RX8 yX8_comes yX8_comes, Cond.code yX8_comes cX8_comes 2 (some .boolean)]
def wsX8_sent : List Cond := .code yX8_sent cX8_sent 3 (some .long) :: ((wsX8_sent_r1 ++ (wsX8_sent_r2 ++ (wsX8_sent_r3 ++ wsX8_sent_r4))) ++ wsX80)
def wsX8_oneMore : List Cond := .code yX8_oneMore cX8_oneMore 5 none :: ([.fieldLink RX8 44 "TwiceHeardModel" "more" "[J", .fieldLink RX8 41 "TwiceHeardModel" "by" "[J"] ++ wsX80)
def wsX8_leastNot : List Cond := .code yX8_leastNot cX8_leastNot 2 (some .int) :: ([.methodLink RX8 55 yX8_has, .static yX8_has, .initialized RX8, .code yX8_has cX8_has 2 (some .boolean)])
def wsX8_rows : List Cond := .code yX8_rows cX8_rows 6 (some .long) :: ([.constantLong RX8 189 (-1000000002), .fieldLink RX8 41 "TwiceHeardModel" "by" "[J", .methodLink RX8 47 yX8_in, .static yX8_in, .initialized RX8, .code yX8_in cX8_in 3 (some .boolean), .methodLink RX8 197 yX8_oneMore, .instanceMethod yX8_oneMore, .selects RX8 yX8_oneMore yX8_oneMore, .code yX8_oneMore cX8_oneMore 5 none, .fieldLink RX8 44 "TwiceHeardModel" "more" "[J", .methodLink RX8 200 yX8_leastNot, .static yX8_leastNot, .code yX8_leastNot cX8_leastNot 2 (some .int), .methodLink RX8 55 yX8_has, .static yX8_has, .code yX8_has cX8_has 2 (some .boolean)] ++ wsX80)
def wsX8_remember : List Cond := .code yX8_remember cX8_remember 2 none :: ([.fieldLink RX8 173 "TwiceHeardModel" "known" "I", .methodLink RX8 203 yX8_copyRow, .instanceMethod yX8_copyRow, .selects RX8 yX8_copyRow yX8_copyRow, .initialized RX8, .code yX8_copyRow cX8_copyRow 4 none, .fieldLink RX8 9 "TwiceHeardModel" "w" "[I"] ++ wsX80)
def wsX8_put : List Cond := .code yX8_put cX8_put 4 (some .int) :: ([.fieldLink RX8 9 "TwiceHeardModel" "w" "[I", .methodLink RX8 207 yX8_remember, .instanceMethod yX8_remember, .selects RX8 yX8_remember yX8_remember, .initialized RX8, .code yX8_remember cX8_remember 2 none, .fieldLink RX8 173 "TwiceHeardModel" "known" "I", .methodLink RX8 203 yX8_copyRow, .instanceMethod yX8_copyRow, .selects RX8 yX8_copyRow yX8_copyRow, .code yX8_copyRow cX8_copyRow 4 none] ++ wsX80)
def wsX8_turn : List Cond := .code yX8_turn cX8_turn 4 none :: ([.fieldLink RX8 9 "TwiceHeardModel" "w" "[I"] ++ wsX80)
def wsX8_node_r1 : List Cond := [Cond.fieldLink RX8 9 "TwiceHeardModel" "w" "[I", Cond.constant RX8 180 (-1000000001), Cond.constant RX8 210 (65535), Cond.constant RX8 179 (-1000000002), Cond.constant RX8 211 (-1000000004), Cond.methodLink RX8 47 yX8_in, Cond.static yX8_in, Cond.initialized RX8, Cond.code yX8_in cX8_in 3 (some .boolean), Cond.methodLink RX8 207 yX8_remember, Cond.instanceMethod yX8_remember, Cond.selects RX8 yX8_remember yX8_remember, Cond.code yX8_remember cX8_remember 2 none, Cond.fieldLink RX8 173 "TwiceHeardModel" "known" "I", Cond.methodLink RX8 203 yX8_copyRow, Cond.instanceMethod yX8_copyRow, Cond.selects RX8 yX8_copyRow yX8_copyRow, Cond.code yX8_copyRow cX8_copyRow 4 none, Cond.methodLink RX8 55 yX8_has, Cond.static yX8_has, Cond.code yX8_has cX8_has 2 (some .boolean), Cond.methodLink RX8 212 yX8_turn, Cond.instanceMethod yX8_turn, Cond.selects RX8 yX8_turn yX8_turn]
def wsX8_node_r2 : List Cond := [Cond.code yX8_turn cX8_turn 4 none]
def wsX8_node : List Cond := .code yX8_node cX8_node 5 (some .int) :: ((wsX8_node_r1 ++ wsX8_node_r2) ++ wsX80)
def wsX8_take : List Cond := .code yX8_take cX8_take 3 (some .int) :: ([.fieldLink RX8 9 "TwiceHeardModel" "w" "[I", .constant RX8 216 (-1000000003), .methodLink RX8 207 yX8_remember, .instanceMethod yX8_remember, .selects RX8 yX8_remember yX8_remember, .initialized RX8, .code yX8_remember cX8_remember 2 none, .fieldLink RX8 173 "TwiceHeardModel" "known" "I", .methodLink RX8 203 yX8_copyRow, .instanceMethod yX8_copyRow, .selects RX8 yX8_copyRow yX8_copyRow, .code yX8_copyRow cX8_copyRow 4 none] ++ wsX80)
def wsX8_link_r1 : List Cond := [Cond.constant RX8 180 (-1000000001), Cond.fieldLink RX8 9 "TwiceHeardModel" "w" "[I", Cond.methodLink RX8 51 yX8_isNode, Cond.instanceMethod yX8_isNode, Cond.selects RX8 yX8_isNode yX8_isNode, Cond.initialized RX8, Cond.code yX8_isNode cX8_isNode 2 (some .boolean), Cond.methodLink RX8 47 yX8_in, Cond.static yX8_in, Cond.code yX8_in cX8_in 3 (some .boolean), Cond.methodLink RX8 207 yX8_remember, Cond.instanceMethod yX8_remember, Cond.selects RX8 yX8_remember yX8_remember, Cond.code yX8_remember cX8_remember 2 none, Cond.fieldLink RX8 173 "TwiceHeardModel" "known" "I", Cond.methodLink RX8 203 yX8_copyRow, Cond.instanceMethod yX8_copyRow, Cond.selects RX8 yX8_copyRow yX8_copyRow, Cond.code yX8_copyRow cX8_copyRow 4 none, Cond.methodLink RX8 55 yX8_has, Cond.static yX8_has, Cond.code yX8_has cX8_has 2 (some .boolean), Cond.methodLink RX8 212 yX8_turn, Cond.instanceMethod yX8_turn]
def wsX8_link_r2 : List Cond := [Cond.selects RX8 yX8_turn yX8_turn, Cond.code yX8_turn cX8_turn 4 none]
def wsX8_link : List Cond := .code yX8_link cX8_link 3 (some .int) :: ((wsX8_link_r1 ++ wsX8_link_r2) ++ wsX80)
def wsX8_lose_r1 : List Cond := [Cond.constant RX8 180 (-1000000001), Cond.fieldLink RX8 9 "TwiceHeardModel" "w" "[I", Cond.methodLink RX8 184 yX8_isLinked, Cond.instanceMethod yX8_isLinked, Cond.selects RX8 yX8_isLinked yX8_isLinked, Cond.initialized RX8, Cond.code yX8_isLinked cX8_isLinked 3 (some .boolean), Cond.methodLink RX8 51 yX8_isNode, Cond.instanceMethod yX8_isNode, Cond.selects RX8 yX8_isNode yX8_isNode, Cond.code yX8_isNode cX8_isNode 2 (some .boolean), Cond.methodLink RX8 47 yX8_in, Cond.static yX8_in, Cond.code yX8_in cX8_in 3 (some .boolean), Cond.methodLink RX8 55 yX8_has, Cond.static yX8_has, Cond.code yX8_has cX8_has 2 (some .boolean), Cond.methodLink RX8 207 yX8_remember, Cond.instanceMethod yX8_remember, Cond.selects RX8 yX8_remember yX8_remember, Cond.code yX8_remember cX8_remember 2 none, Cond.fieldLink RX8 173 "TwiceHeardModel" "known" "I", Cond.methodLink RX8 203 yX8_copyRow, Cond.instanceMethod yX8_copyRow]
def wsX8_lose_r2 : List Cond := [Cond.selects RX8 yX8_copyRow yX8_copyRow, Cond.code yX8_copyRow cX8_copyRow 4 none, Cond.methodLink RX8 212 yX8_turn, Cond.instanceMethod yX8_turn, Cond.selects RX8 yX8_turn yX8_turn, Cond.code yX8_turn cX8_turn 4 none]
def wsX8_lose : List Cond := .code yX8_lose cX8_lose 3 (some .int) :: ((wsX8_lose_r1 ++ wsX8_lose_r2) ++ wsX80)
def wsX8_hear_r1 : List Cond := [Cond.constant RX8 180 (-1000000001), Cond.constant RX8 210 (65535), Cond.constant RX8 179 (-1000000002), Cond.methodLink RX8 51 yX8_isNode, Cond.instanceMethod yX8_isNode, Cond.selects RX8 yX8_isNode yX8_isNode, Cond.initialized RX8, Cond.code yX8_isNode cX8_isNode 2 (some .boolean), Cond.fieldLink RX8 9 "TwiceHeardModel" "w" "[I", Cond.methodLink RX8 47 yX8_in, Cond.static yX8_in, Cond.code yX8_in cX8_in 3 (some .boolean), Cond.methodLink RX8 217 yX8_put, Cond.instanceMethod yX8_put, Cond.selects RX8 yX8_put yX8_put, Cond.code yX8_put cX8_put 4 (some .int), Cond.methodLink RX8 207 yX8_remember, Cond.instanceMethod yX8_remember, Cond.selects RX8 yX8_remember yX8_remember, Cond.code yX8_remember cX8_remember 2 none, Cond.fieldLink RX8 173 "TwiceHeardModel" "known" "I", Cond.methodLink RX8 203 yX8_copyRow, Cond.instanceMethod yX8_copyRow, Cond.selects RX8 yX8_copyRow yX8_copyRow]
def wsX8_hear_r2 : List Cond := [Cond.code yX8_copyRow cX8_copyRow 4 none]
def wsX8_hear : List Cond := .code yX8_hear cX8_hear 3 (some .int) :: ((wsX8_hear_r1 ++ wsX8_hear_r2) ++ wsX80)
def wsX8_salt : List Cond := .code yX8_salt cX8_salt 2 (some .int) :: ([.constant RX8 210 (65535), .constant RX8 179 (-1000000002), .methodLink RX8 47 yX8_in, .static yX8_in, .initialized RX8, .code yX8_in cX8_in 3 (some .boolean), .methodLink RX8 217 yX8_put, .instanceMethod yX8_put, .selects RX8 yX8_put yX8_put, .code yX8_put cX8_put 4 (some .int), .fieldLink RX8 9 "TwiceHeardModel" "w" "[I", .methodLink RX8 207 yX8_remember, .instanceMethod yX8_remember, .selects RX8 yX8_remember yX8_remember, .code yX8_remember cX8_remember 2 none, .fieldLink RX8 173 "TwiceHeardModel" "known" "I", .methodLink RX8 203 yX8_copyRow, .instanceMethod yX8_copyRow, .selects RX8 yX8_copyRow yX8_copyRow, .code yX8_copyRow cX8_copyRow 4 none] ++ wsX80)
def wsX8_mode : List Cond := .code yX8_mode cX8_mode 2 (some .int) :: ([.constant RX8 179 (-1000000002), .methodLink RX8 47 yX8_in, .static yX8_in, .initialized RX8, .code yX8_in cX8_in 3 (some .boolean), .methodLink RX8 217 yX8_put, .instanceMethod yX8_put, .selects RX8 yX8_put yX8_put, .code yX8_put cX8_put 4 (some .int), .fieldLink RX8 9 "TwiceHeardModel" "w" "[I", .methodLink RX8 207 yX8_remember, .instanceMethod yX8_remember, .selects RX8 yX8_remember yX8_remember, .code yX8_remember cX8_remember 2 none, .fieldLink RX8 173 "TwiceHeardModel" "known" "I", .methodLink RX8 203 yX8_copyRow, .instanceMethod yX8_copyRow, .selects RX8 yX8_copyRow yX8_copyRow, .code yX8_copyRow cX8_copyRow 4 none] ++ wsX80)
def wsX8_draw : List Cond := .code yX8_draw cX8_draw 4 (some .int) :: ([.fieldLink RX8 176 "TwiceHeardModel" "seed" "I", .constantLong RX8 221 (1103515245), .constantLong RX8 223 (12345), .constantLong RX8 225 (2147483648), .constant RX8 227 (65536)] ++ wsX80)
def wsX8_drift_r1 : List Cond := [Cond.constant RX8 179 (-1000000002), Cond.fieldLink RX8 9 "TwiceHeardModel" "w" "[I", Cond.methodLink RX8 47 yX8_in, Cond.static yX8_in, Cond.initialized RX8, Cond.code yX8_in cX8_in 3 (some .boolean), Cond.methodLink RX8 207 yX8_remember, Cond.instanceMethod yX8_remember, Cond.selects RX8 yX8_remember yX8_remember, Cond.code yX8_remember cX8_remember 2 none, Cond.fieldLink RX8 173 "TwiceHeardModel" "known" "I", Cond.methodLink RX8 203 yX8_copyRow, Cond.instanceMethod yX8_copyRow, Cond.selects RX8 yX8_copyRow yX8_copyRow, Cond.code yX8_copyRow cX8_copyRow 4 none, Cond.methodLink RX8 228 yX8_draw, Cond.instanceMethod yX8_draw, Cond.selects RX8 yX8_draw yX8_draw, Cond.code yX8_draw cX8_draw 4 (some .int), Cond.fieldLink RX8 176 "TwiceHeardModel" "seed" "I", Cond.constantLong RX8 221 (1103515245), Cond.constantLong RX8 223 (12345), Cond.constantLong RX8 225 (2147483648), Cond.constant RX8 227 (65536)]
def wsX8_drift_r2 : List Cond := [Cond.methodLink RX8 161 yX8_truth, Cond.instanceMethod yX8_truth, Cond.selects RX8 yX8_truth yX8_truth, Cond.code yX8_truth cX8_truth 3 (some .int), Cond.fieldLink RX8 22 "TwiceHeardModel" "ring" "[I", Cond.methodLink RX8 81 yX8_layRings, Cond.instanceMethod yX8_layRings, Cond.selects RX8 yX8_layRings yX8_layRings, Cond.code yX8_layRings cX8_layRings 2 none, Cond.methodLink RX8 71 yX8_spread, Cond.instanceMethod yX8_spread, Cond.selects RX8 yX8_spread yX8_spread, Cond.code yX8_spread cX8_spread 5 (some .boolean), Cond.methodLink RX8 55 yX8_has, Cond.static yX8_has, Cond.code yX8_has cX8_has 2 (some .boolean), Cond.methodLink RX8 140 yX8_ones, Cond.static yX8_ones, Cond.code yX8_ones cX8_ones 3 (some .int)]
def wsX8_drift : List Cond := .code yX8_drift cX8_drift 5 (some .int) :: ((wsX8_drift_r1 ++ wsX8_drift_r2) ++ wsX80)
def wsX8_undo : List Cond := .code yX8_undo cX8_undo 2 (some .int) :: ([.constant RX8 179 (-1000000002), .fieldLink RX8 173 "TwiceHeardModel" "known" "I", .constant RX8 216 (-1000000003), .methodLink RX8 47 yX8_in, .static yX8_in, .initialized RX8, .code yX8_in cX8_in 3 (some .boolean), .methodLink RX8 203 yX8_copyRow, .instanceMethod yX8_copyRow, .selects RX8 yX8_copyRow yX8_copyRow, .code yX8_copyRow cX8_copyRow 4 none, .fieldLink RX8 9 "TwiceHeardModel" "w" "[I"] ++ wsX80)
def wsX8_write : List Cond := .code yX8_write cX8_write 3 (some .int) :: ([.constant RX8 180 (-1000000001), .fieldLink RX8 143 "TwiceHeardModel" "booked" "I", .constant RX8 211 (-1000000004), .fieldLink RX8 16 "TwiceHeardModel" "bookOf" "[I", .fieldLink RX8 19 "TwiceHeardModel" "bookIs" "[I", .methodLink RX8 51 yX8_isNode, .instanceMethod yX8_isNode, .selects RX8 yX8_isNode yX8_isNode, .initialized RX8, .code yX8_isNode cX8_isNode 2 (some .boolean), .fieldLink RX8 9 "TwiceHeardModel" "w" "[I", .methodLink RX8 47 yX8_in, .static yX8_in, .code yX8_in cX8_in 3 (some .boolean)] ++ wsX80)
def wsX8_tear : List Cond := .code yX8_tear cX8_tear 2 (some .int) :: ([.fieldLink RX8 143 "TwiceHeardModel" "booked" "I"] ++ wsX80)
def wsX8_seed : List Cond := .code yX8_seed cX8_seed 3 (some .int) :: ([.constant RX8 179 (-1000000002), .fieldLink RX8 176 "TwiceHeardModel" "seed" "I"] ++ wsX80)
def wsX8_keep : List Cond := .code yX8_keep cX8_keep 2 (some .int) :: ([.constant RX8 180 (-1000000001), .fieldLink RX8 13 "TwiceHeardModel" "keptSeed" "[I", .fieldLink RX8 176 "TwiceHeardModel" "seed" "I", .fieldLink RX8 231 "TwiceHeardModel" "kept" "I", .fieldLink RX8 173 "TwiceHeardModel" "known" "I", .methodLink RX8 47 yX8_in, .static yX8_in, .initialized RX8, .code yX8_in cX8_in 3 (some .boolean), .methodLink RX8 203 yX8_copyRow, .instanceMethod yX8_copyRow, .selects RX8 yX8_copyRow yX8_copyRow, .code yX8_copyRow cX8_copyRow 4 none, .fieldLink RX8 9 "TwiceHeardModel" "w" "[I"] ++ wsX80)
def wsX8_goBack : List Cond := .code yX8_goBack cX8_goBack 2 (some .int) :: ([.constant RX8 180 (-1000000001), .fieldLink RX8 231 "TwiceHeardModel" "kept" "I", .constant RX8 216 (-1000000003), .fieldLink RX8 13 "TwiceHeardModel" "keptSeed" "[I", .fieldLink RX8 176 "TwiceHeardModel" "seed" "I", .fieldLink RX8 173 "TwiceHeardModel" "known" "I", .methodLink RX8 47 yX8_in, .static yX8_in, .initialized RX8, .code yX8_in cX8_in 3 (some .boolean), .methodLink RX8 203 yX8_copyRow, .instanceMethod yX8_copyRow, .selects RX8 yX8_copyRow yX8_copyRow, .code yX8_copyRow cX8_copyRow 4 none, .fieldLink RX8 9 "TwiceHeardModel" "w" "[I"] ++ wsX80)
def wsJ9_min_7cf53 : List Cond := .code yJ9_min_7cf53 cJ9_min_7cf53 2 (some .int) :: ([])
def wsL_law_r1 : List Cond := [Cond.classLink RL 7 RX7, Cond.instantiable RX7 7, Cond.initialized RX7, Cond.classLink RL 10 RX8, Cond.instantiable RX8 17, Cond.initialized RX8, Cond.methodLink RL 9 yX7_init, Cond.instanceMethod yX7_init, Cond.code yX7_init cX7_init 2 none, Cond.methodLink RX7 1 objectInit, Cond.instanceMethod objectInit, Cond.code objectInit ⟨#[0xb1]⟩ 1 none, Cond.classLink RX7 7 RX3, Cond.instantiable RX3 6, Cond.initialized RX3, Cond.fieldLink RX7 10 "TwiceHeard" "net" "LTwiceHeard$Net;", Cond.classLink RX7 16 RX4, Cond.instantiable RX4 3, Cond.initialized RX4, Cond.fieldLink RX7 19 "TwiceHeard" "past" "LTwiceHeard$Past;", Cond.classLink RX7 23 RX6, Cond.instantiable RX6 10, Cond.initialized RX6, Cond.fieldLink RX7 26 "TwiceHeard" "telling" "LTwiceHeard$Telling;"]
def wsL_law_r2 : List Cond := [Cond.classLink RX7 30 RX0, Cond.instantiable RX0 3, Cond.initialized RX0, Cond.fieldLink RX7 33 "TwiceHeard" "book" "LTwiceHeard$Book;", Cond.classLink RX7 37 RX1, Cond.instantiable RX1 1, Cond.initialized RX1, Cond.fieldLink RX7 40 "TwiceHeard" "draws" "LTwiceHeard$Draws;", Cond.classLink RX7 44 RX2, Cond.fieldLink RX7 46 "TwiceHeard" "images" "[LTwiceHeard$Image;", Cond.instantiable RX2 3, Cond.initialized RX2, Cond.arrayClass .long, Cond.fieldLink RX7 51 "TwiceHeard" "rowCounts" "[J", Cond.methodLink RX7 9 yX3_init, Cond.instanceMethod yX3_init, Cond.code yX3_init cX3_init 1 none, Cond.methodLink RX3 3 objectInit, Cond.fieldLink RX3 9 "TwiceHeard$Net" "size" "I", Cond.arrayClass .int, Cond.fieldLink RX3 15 "TwiceHeard$Net" "linked" "[I", Cond.fieldLink RX3 19 "TwiceHeard$Net" "lost" "[I", Cond.fieldLink RX3 22 "TwiceHeard$Net" "heard" "[I", Cond.methodLink RX7 18 yX4_init]
def wsL_law_r3 : List Cond := [Cond.instanceMethod yX4_init, Cond.code yX4_init cX4_init 2 none, Cond.methodLink RX4 3 objectInit, Cond.classLink RX4 9 RX3, Cond.fieldLink RX4 11 "TwiceHeard$Past" "states" "[LTwiceHeard$Net;", Cond.methodLink RX4 17 yX3_init, Cond.methodLink RX7 25 yX6_init, Cond.instanceMethod yX6_init, Cond.code yX6_init cX6_init 1 none, Cond.methodLink RX6 3 objectInit, Cond.fieldLink RX6 9 "TwiceHeard$Telling" "ring" "[I", Cond.fieldLink RX6 15 "TwiceHeard$Telling" "ringSets" "[I", Cond.fieldLink RX6 18 "TwiceHeard$Telling" "from" "[I", Cond.fieldLink RX6 21 "TwiceHeard$Telling" "to" "[I", Cond.arrayClass .boolean, Cond.fieldLink RX6 24 "TwiceHeard$Telling" "comes" "[Z", Cond.fieldLink RX6 28 "TwiceHeard$Telling" "ways" "[I", Cond.fieldLink RX6 31 "TwiceHeard$Telling" "arrivals" "[I", Cond.fieldLink RX6 34 "TwiceHeard$Telling" "held" "[J", Cond.methodLink RX7 32 yX0_init, Cond.instanceMethod yX0_init, Cond.code yX0_init cX0_init 1 none, Cond.methodLink RX0 3 objectInit, Cond.fieldLink RX0 9 "TwiceHeard$Book" "nodes" "[I"]
def wsL_law_r4 : List Cond := [Cond.fieldLink RX0 15 "TwiceHeard$Book" "guesses" "[I", Cond.instanceMethod yX1_init, Cond.code yX1_init cX1_init 1 none, Cond.methodLink RX1 1 objectInit, Cond.methodLink RX7 50 yX2_init, Cond.instanceMethod yX2_init, Cond.code yX2_init cX2_init 1 none, Cond.methodLink RX2 1 objectInit, Cond.classLink RX2 7 RX3, Cond.fieldLink RX2 10 "TwiceHeard$Image" "net" "LTwiceHeard$Net;", Cond.methodLink RX2 9 yX3_init, Cond.methodLink RL 12 yX8_init, Cond.instanceMethod yX8_init, Cond.code yX8_init cX8_init 1 none, Cond.methodLink RX8 3 objectInit, Cond.fieldLink RX8 9 "TwiceHeardModel" "w" "[I", Cond.fieldLink RX8 13 "TwiceHeardModel" "keptSeed" "[I", Cond.fieldLink RX8 16 "TwiceHeardModel" "bookOf" "[I", Cond.fieldLink RX8 19 "TwiceHeardModel" "bookIs" "[I", Cond.fieldLink RX8 22 "TwiceHeardModel" "ring" "[I", Cond.fieldLink RX8 25 "TwiceHeardModel" "from" "[I", Cond.fieldLink RX8 28 "TwiceHeardModel" "to" "[I", Cond.fieldLink RX8 31 "TwiceHeardModel" "ways" "[I", Cond.fieldLink RX8 34 "TwiceHeardModel" "held" "[J"]
def wsL_law_r5 : List Cond := [Cond.fieldLink RX8 38 "TwiceHeardModel" "six" "[I", Cond.fieldLink RX8 41 "TwiceHeardModel" "by" "[J", Cond.fieldLink RX8 44 "TwiceHeardModel" "more" "[J", Cond.methodLink RL 13 yX7_told, Cond.instanceMethod yX7_told, Cond.selects RX7 yX7_told yX7_told, Cond.code yX7_told cX7_told 2 (some .int), Cond.fieldLink RX7 59 "TwiceHeard$Net" "size" "I", Cond.fieldLink RX7 63 "TwiceHeard$Net" "linked" "[I", Cond.fieldLink RX7 71 "TwiceHeard$Net" "lost" "[I", Cond.fieldLink RX7 74 "TwiceHeard$Net" "salt" "I", Cond.fieldLink RX7 77 "TwiceHeard$Net" "mode" "I", Cond.fieldLink RX7 80 "TwiceHeard$Telling" "greatestRing" "I", Cond.fieldLink RX7 91 "TwiceHeard$Telling" "letters" "I", Cond.fieldLink RX7 97 "TwiceHeard$Book" "size" "I", Cond.fieldLink RX7 101 "TwiceHeard$Past" "size" "I", Cond.fieldLink RX7 102 "TwiceHeard$Draws" "seed" "I", Cond.constant RX7 105 (-1000000002), Cond.methodLink RX7 55 yX6_trace, Cond.instanceMethod yX6_trace, Cond.selects RX6 yX6_trace yX6_trace, Cond.code yX6_trace cX6_trace 2 none, Cond.methodLink RX6 38 yX6_layRings, Cond.instanceMethod yX6_layRings]
def wsL_law_r6 : List Cond := [Cond.selects RX6 yX6_layRings yX6_layRings, Cond.code yX6_layRings cX6_layRings 5 none, Cond.fieldLink RX6 54 "TwiceHeard$Telling" "greatestRing" "I", Cond.methodLink RX6 48 yJ7_fill_53178, Cond.static yJ7_fill_53178, Cond.initialized RJ7, Cond.code yJ7_fill_53178 cJ7_fill_53178 4 none, Cond.methodLink RX6 58 yX6_settle, Cond.instanceMethod yX6_settle, Cond.selects RX6 yX6_settle yX6_settle, Cond.code yX6_settle cX6_settle 6 (some .int), Cond.fieldLink RX6 62 "TwiceHeard$Net" "size" "I", Cond.fieldLink RX6 71 "TwiceHeard$Net" "linked" "[I", Cond.static yX7_isIn, Cond.code yX7_isIn cX7_isIn 2 (some .boolean), Cond.methodLink RX6 42 yX6_writeLetters, Cond.instanceMethod yX6_writeLetters, Cond.selects RX6 yX6_writeLetters yX6_writeLetters, Cond.code yX6_writeLetters cX6_writeLetters 4 none, Cond.fieldLink RX6 74 "TwiceHeard$Telling" "letters" "I", Cond.methodLink RX6 77 yX6_writeFrom, Cond.instanceMethod yX6_writeFrom, Cond.selects RX6 yX6_writeFrom yX6_writeFrom, Cond.code yX6_writeFrom cX6_writeFrom 5 none]
def wsL_law_r7 : List Cond := [Cond.fieldLink RX6 85 "TwiceHeard$Net" "mode" "I", Cond.fieldLink RX6 88 "TwiceHeard$Net" "lost" "[I", Cond.methodLink RX6 81 yX6_uppers, Cond.instanceMethod yX6_uppers, Cond.selects RX6 yX6_uppers yX6_uppers, Cond.code yX6_uppers cX6_uppers 3 (some .int), Cond.methodLink RX6 45 yX6_countWays, Cond.instanceMethod yX6_countWays, Cond.selects RX6 yX6_countWays yX6_countWays, Cond.code yX6_countWays cX6_countWays 2 none, Cond.methodLink RX7 67 yX7_pairsIn, Cond.static yX7_pairsIn, Cond.code yX7_pairsIn cX7_pairsIn 6 (some .int), Cond.methodLink RX7 234 yJ6_bitCount_0f7a4, Cond.static yJ6_bitCount_0f7a4, Cond.initialized RJ6, Cond.code yJ6_bitCount_0f7a4 cJ6_bitCount_0f7a4 1 (some .int), Cond.constant RJ6 265 (1431655765), Cond.constant RJ6 266 (858993459), Cond.constant RJ6 267 (252645135), Cond.methodLink RX7 83 yX6_comers, Cond.instanceMethod yX6_comers, Cond.selects RX6 yX6_comers yX6_comers, Cond.code yX6_comers cX6_comers 3 (some .int)]
def wsL_law_r8 : List Cond := [Cond.methodLink RX7 87 yX6_trueCount, Cond.instanceMethod yX6_trueCount, Cond.selects RX6 yX6_trueCount yX6_trueCount, Cond.code yX6_trueCount cX6_trueCount 4 (some .int), Cond.fieldLink RX6 93 "TwiceHeard$Net" "heard" "[I", Cond.methodLink RX6 109 yJ6_bitCount_0f7a4, Cond.methodLink RX7 94 yX6_allArrivals, Cond.instanceMethod yX6_allArrivals, Cond.selects RX6 yX6_allArrivals yX6_allArrivals, Cond.code yX6_allArrivals cX6_allArrivals 6 (some .int), Cond.methodLink RX7 98 yX7_firstWrong, Cond.instanceMethod yX7_firstWrong, Cond.selects RX7 yX7_firstWrong yX7_firstWrong, Cond.code yX7_firstWrong cX7_firstWrong 3 (some .int), Cond.fieldLink RX7 256 "TwiceHeard$Book" "nodes" "[I", Cond.fieldLink RX7 111 "TwiceHeard$Telling" "ring" "[I", Cond.fieldLink RX7 259 "TwiceHeard$Book" "guesses" "[I", Cond.methodLink RX7 150 yX6_gather, Cond.instanceMethod yX6_gather, Cond.selects RX6 yX6_gather yX6_gather, Cond.code yX6_gather cX6_gather 4 none, Cond.constantLong RX6 91 (-1), Cond.fieldLink RX6 96 "TwiceHeard$Net" "salt" "I", Cond.methodLink RX6 99 yX5_ofItems]
def wsL_law_r9 : List Cond := [Cond.static yX5_ofItems, Cond.initialized RX5, Cond.code yX5_ofItems cX5_ofItems 7 (some .long), Cond.constantLong RX5 17 (4098049024), Cond.methodLink RX5 11 yJ6_bitCount_0f7a4, Cond.static yX7_markOf, Cond.code yX7_markOf cX7_markOf 4 (some .int), Cond.constantLong RX7 239 (2), Cond.constantLong RX7 241 (40503), Cond.constantLong RX7 243 (65536), Cond.constantLong RX7 245 (64), Cond.methodLink RX5 27 yX5_withMark, Cond.static yX5_withMark, Cond.code yX5_withMark cX5_withMark 10 (some .long), Cond.constantLong RX5 44 (2000), Cond.constantLong RX5 46 (4000000), Cond.methodLink RX5 34 yX5_first, Cond.static yX5_first, Cond.code yX5_first cX5_first 2 (some .long), Cond.methodLink RX5 38 yX5_second, Cond.static yX5_second, Cond.code yX5_second cX5_second 2 (some .long), Cond.methodLink RX5 41 yX5_third, Cond.static yX5_third]
def wsL_law_r10 : List Cond := [Cond.code yX5_third cX5_third 2 (some .long), Cond.static yX7_rankOf, Cond.code yX7_rankOf cX7_rankOf 3 (some .int), Cond.methodLink RX6 105 yX5_together, Cond.static yX5_together, Cond.code yX5_together cX5_together 5 (some .long), Cond.methodLink RX7 106 yX3_has, Cond.instanceMethod yX3_has, Cond.selects RX3 yX3_has yX3_has, Cond.code yX3_has cX3_has 2 (some .boolean), Cond.methodLink RX7 157 yX7_guessOf, Cond.instanceMethod yX7_guessOf, Cond.selects RX7 yX7_guessOf yX7_guessOf, Cond.code yX7_guessOf cX7_guessOf 3 (some .int), Cond.fieldLink RX7 154 "TwiceHeard$Telling" "held" "[J", Cond.methodLink RX7 247 yX5_guessByBits, Cond.static yX5_guessByBits, Cond.code yX5_guessByBits cX5_guessByBits 3 (some .int), Cond.methodLink RX7 253 yX5_guessByLeast, Cond.static yX5_guessByLeast, Cond.code yX5_guessByLeast cX5_guessByLeast 4 (some .int), Cond.constantLong RX5 48 (1024), Cond.constantLong RX5 50 (2048), Cond.methodLink RL 17 yX8_told]
def wsL_law_r11 : List Cond := [Cond.instanceMethod yX8_told, Cond.selects RX8 yX8_told yX8_told, Cond.code yX8_told cX8_told 2 (some .int), Cond.fieldLink RX8 143 "TwiceHeardModel" "booked" "I", Cond.fieldLink RX8 173 "TwiceHeardModel" "known" "I", Cond.fieldLink RX8 176 "TwiceHeardModel" "seed" "I", Cond.constant RX8 179 (-1000000002), Cond.methodLink RX8 149 yX8_links, Cond.instanceMethod yX8_links, Cond.selects RX8 yX8_links yX8_links, Cond.code yX8_links cX8_links 3 (some .int), Cond.methodLink RX8 140 yX8_ones, Cond.static yX8_ones, Cond.code yX8_ones cX8_ones 3 (some .int), Cond.methodLink RX8 55 yX8_has, Cond.static yX8_has, Cond.code yX8_has cX8_has 2 (some .boolean), Cond.methodLink RX8 152 yX8_lostLinks, Cond.instanceMethod yX8_lostLinks, Cond.selects RX8 yX8_lostLinks yX8_lostLinks, Cond.code yX8_lostLinks cX8_lostLinks 3 (some .int), Cond.methodLink RX8 155 yX8_outermost, Cond.instanceMethod yX8_outermost, Cond.selects RX8 yX8_outermost yX8_outermost]
def wsL_law_r12 : List Cond := [Cond.code yX8_outermost cX8_outermost 1 (some .int), Cond.methodLink RX8 81 yX8_layRings, Cond.instanceMethod yX8_layRings, Cond.selects RX8 yX8_layRings yX8_layRings, Cond.code yX8_layRings cX8_layRings 2 none, Cond.methodLink RX8 71 yX8_spread, Cond.instanceMethod yX8_spread, Cond.selects RX8 yX8_spread yX8_spread, Cond.code yX8_spread cX8_spread 5 (some .boolean), Cond.methodLink RX8 84 yX8_greatestRing, Cond.instanceMethod yX8_greatestRing, Cond.selects RX8 yX8_greatestRing yX8_greatestRing, Cond.code yX8_greatestRing cX8_greatestRing 3 (some .int), Cond.methodLink RX8 158 yX8_comesSet, Cond.instanceMethod yX8_comesSet, Cond.selects RX8 yX8_comesSet yX8_comesSet, Cond.code yX8_comesSet cX8_comesSet 3 (some .int), Cond.methodLink RX8 98 yX8_layWays, Cond.instanceMethod yX8_layWays, Cond.selects RX8 yX8_layWays yX8_layWays, Cond.code yX8_layWays cX8_layWays 2 none, Cond.fieldLink RX8 77 "TwiceHeardModel" "letters" "I", Cond.methodLink RX8 92 yX8_layLetters, Cond.instanceMethod yX8_layLetters]
def wsL_law_r13 : List Cond := [Cond.selects RX8 yX8_layLetters yX8_layLetters, Cond.code yX8_layLetters cX8_layLetters 3 none, Cond.methodLink RX8 88 yX8_sendFrom, Cond.instanceMethod yX8_sendFrom, Cond.selects RX8 yX8_sendFrom yX8_sendFrom, Cond.code yX8_sendFrom cX8_sendFrom 5 none, Cond.methodLink RX8 74 yX8_upper, Cond.instanceMethod yX8_upper, Cond.selects RX8 yX8_upper yX8_upper, Cond.code yX8_upper cX8_upper 4 (some .int), Cond.methodLink RX8 95 yX8_comes, Cond.instanceMethod yX8_comes, Cond.selects RX8 yX8_comes yX8_comes, Cond.code yX8_comes cX8_comes 2 (some .boolean), Cond.methodLink RX8 161 yX8_truth, Cond.instanceMethod yX8_truth, Cond.selects RX8 yX8_truth yX8_truth, Cond.code yX8_truth cX8_truth 3 (some .int), Cond.methodLink RX8 164 yX8_letterMany, Cond.instanceMethod yX8_letterMany, Cond.selects RX8 yX8_letterMany yX8_letterMany, Cond.code yX8_letterMany cX8_letterMany 1 (some .int), Cond.methodLink RX8 167 yX8_lostLetters, Cond.instanceMethod yX8_lostLetters]
def wsL_law_r14 : List Cond := [Cond.selects RX8 yX8_lostLetters yX8_lostLetters, Cond.code yX8_lostLetters cX8_lostLetters 3 (some .int), Cond.methodLink RX8 170 yX8_wrongEntry, Cond.instanceMethod yX8_wrongEntry, Cond.selects RX8 yX8_wrongEntry yX8_wrongEntry, Cond.code yX8_wrongEntry cX8_wrongEntry 2 (some .int), Cond.methodLink RX8 51 yX8_isNode, Cond.instanceMethod yX8_isNode, Cond.selects RX8 yX8_isNode yX8_isNode, Cond.code yX8_isNode cX8_isNode 2 (some .boolean), Cond.methodLink RX8 47 yX8_in, Cond.static yX8_in, Cond.code yX8_in cX8_in 3 (some .boolean), Cond.methodLink RX8 146 yX8_byBits, Cond.instanceMethod yX8_byBits, Cond.selects RX8 yX8_byBits yX8_byBits, Cond.code yX8_byBits cX8_byBits 3 (some .int), Cond.methodLink RX8 137 yX8_layHeld, Cond.instanceMethod yX8_layHeld, Cond.selects RX8 yX8_layHeld yX8_layHeld, Cond.code yX8_layHeld cX8_layHeld 3 none, Cond.methodLink RX8 133 yX8_summary, Cond.instanceMethod yX8_summary, Cond.selects RX8 yX8_summary yX8_summary]
def wsL_law_r15 : List Cond := [Cond.code yX8_summary cX8_summary 8 (some .long), Cond.constantLong RX8 120 (4098049024), Cond.methodLink RX8 122 yX8_rankOf, Cond.instanceMethod yX8_rankOf, Cond.selects RX8 yX8_rankOf yX8_rankOf, Cond.code yX8_rankOf cX8_rankOf 4 (some .int), Cond.methodLink RX8 67 yX8_markOf, Cond.instanceMethod yX8_markOf, Cond.selects RX8 yX8_markOf yX8_markOf, Cond.code yX8_markOf cX8_markOf 4 (some .int), Cond.constantLong RX8 59 (2), Cond.constantLong RX8 61 (40503), Cond.constantLong RX8 63 (65536), Cond.constantLong RX8 65 (64), Cond.methodLink RX8 125 yX8_threeOfItem, Cond.instanceMethod yX8_threeOfItem, Cond.selects RX8 yX8_threeOfItem yX8_threeOfItem, Cond.code yX8_threeOfItem cX8_threeOfItem 2 (some .long), Cond.constantLong RX8 112 (2048000), Cond.constantLong RX8 114 (4096000000), Cond.methodLink RX8 129 yX8_both, Cond.instanceMethod yX8_both, Cond.selects RX8 yX8_both yX8_both, Cond.code yX8_both cX8_both 6 (some .long)]
def wsL_law_r16 : List Cond := [Cond.methodLink RX8 116 yX8_threeOf, Cond.instanceMethod yX8_threeOf, Cond.selects RX8 yX8_threeOf yX8_threeOf, Cond.code yX8_threeOf cX8_threeOf 8 (some .long), Cond.constantLong RX8 101 (2000), Cond.constantLong RX8 103 (4000000), Cond.methodLink RX8 105 yX8_unpack, Cond.instanceMethod yX8_unpack, Cond.selects RX8 yX8_unpack yX8_unpack, Cond.code yX8_unpack cX8_unpack 4 none, Cond.methodLink RX8 109 yX8_leastAbove, Cond.instanceMethod yX8_leastAbove, Cond.selects RX8 yX8_leastAbove yX8_leastAbove, Cond.code yX8_leastAbove cX8_leastAbove 4 (some .int), Cond.methodLink RL 18 yX7_at, Cond.instanceMethod yX7_at, Cond.selects RX7 yX7_at yX7_at, Cond.code yX7_at cX7_at 3 (some .int), Cond.constant RX7 110 (-1000000001), Cond.fieldLink RX7 118 "TwiceHeard$Net" "heard" "[I", Cond.fieldLink RX7 121 "TwiceHeard$Telling" "ways" "[I", Cond.fieldLink RX7 124 "TwiceHeard$Telling" "arrivals" "[I", Cond.methodLink RX7 114 yX6_uppers, Cond.methodLink RL 22 yX8_at]
def wsL_law_r17 : List Cond := [Cond.instanceMethod yX8_at, Cond.selects RX8 yX8_at yX8_at, Cond.code yX8_at cX8_at 3 (some .int), Cond.constant RX8 180 (-1000000001), Cond.methodLink RX8 181 yX8_lettersTo, Cond.instanceMethod yX8_lettersTo, Cond.selects RX8 yX8_lettersTo yX8_lettersTo, Cond.code yX8_lettersTo cX8_lettersTo 4 (some .int), Cond.methodLink RL 23 yX7_isLost, Cond.instanceMethod yX7_isLost, Cond.selects RX7 yX7_isLost yX7_isLost, Cond.code yX7_isLost cX7_isLost 3 (some .int), Cond.methodLink RX7 127 yX3_hasLink, Cond.instanceMethod yX3_hasLink, Cond.selects RX3 yX3_hasLink yX3_hasLink, Cond.code yX3_hasLink cX3_hasLink 3 (some .boolean), Cond.methodLink RX3 37 yX3_has, Cond.methodLink RX7 131 yX3_hasLost, Cond.instanceMethod yX3_hasLost, Cond.selects RX3 yX3_hasLost yX3_hasLost, Cond.code yX3_hasLost cX3_hasLost 3 (some .boolean), Cond.methodLink RL 26 yX8_isLost, Cond.instanceMethod yX8_isLost, Cond.selects RX8 yX8_isLost yX8_isLost]
def wsL_law_r18 : List Cond := [Cond.code yX8_isLost cX8_isLost 3 (some .int), Cond.methodLink RX8 184 yX8_isLinked, Cond.instanceMethod yX8_isLinked, Cond.selects RX8 yX8_isLinked yX8_isLinked, Cond.code yX8_isLinked cX8_isLinked 3 (some .boolean), Cond.methodLink RL 27 yX7_mark, Cond.instanceMethod yX7_mark, Cond.selects RX7 yX7_mark yX7_mark, Cond.code yX7_mark cX7_mark 4 (some .int), Cond.methodLink RX7 134 yX7_within, Cond.static yX7_within, Cond.code yX7_within cX7_within 3 (some .boolean), Cond.methodLink RX7 138 yX7_markOf, Cond.methodLink RX7 142 yX7_rankOf, Cond.methodLink RL 30 yX8_mark, Cond.instanceMethod yX8_mark, Cond.selects RX8 yX8_mark yX8_mark, Cond.code yX8_mark cX8_mark 3 (some .int), Cond.methodLink RL 31 yX7_holds, Cond.instanceMethod yX7_holds, Cond.selects RX7 yX7_holds yX7_holds, Cond.code yX7_holds cX7_holds 3 (some .long), Cond.constantLong RX7 146 (-1000000001), Cond.constantLong RX7 148 (-1000000002)]
def wsL_law_r19 : List Cond := [Cond.methodLink RL 35 yX8_holds, Cond.instanceMethod yX8_holds, Cond.selects RX8 yX8_holds yX8_holds, Cond.code yX8_holds cX8_holds 3 (some .long), Cond.constantLong RX8 187 (-1000000001), Cond.constantLong RX8 189 (-1000000002), Cond.constantLong RX8 191 (-1), Cond.methodLink RL 36 yX7_guess, Cond.instanceMethod yX7_guess, Cond.selects RX7 yX7_guess yX7_guess, Cond.code yX7_guess cX7_guess 3 (some .int), Cond.methodLink RL 39 yX8_guess, Cond.instanceMethod yX8_guess, Cond.selects RX8 yX8_guess yX8_guess, Cond.code yX8_guess cX8_guess 3 (some .int), Cond.methodLink RX8 193 yX8_byLeast, Cond.instanceMethod yX8_byLeast, Cond.selects RX8 yX8_byLeast yX8_byLeast, Cond.code yX8_byLeast cX8_byLeast 3 (some .int), Cond.methodLink RL 40 yX7_off, Cond.instanceMethod yX7_off, Cond.selects RX7 yX7_off yX7_off, Cond.code yX7_off cX7_off 2 (some .int), Cond.constant RX7 160 (100000)]
def wsL_law_r20 : List Cond := [Cond.methodLink RL 43 yX8_off, Cond.instanceMethod yX8_off, Cond.selects RX8 yX8_off yX8_off, Cond.code yX8_off cX8_off 3 (some .int), Cond.constant RX8 196 (100000), Cond.methodLink RL 44 yX7_letter, Cond.instanceMethod yX7_letter, Cond.selects RX7 yX7_letter yX7_letter, Cond.code yX7_letter cX7_letter 3 (some .int), Cond.fieldLink RX7 161 "TwiceHeard$Telling" "from" "[I", Cond.fieldLink RX7 164 "TwiceHeard$Telling" "to" "[I", Cond.fieldLink RX7 167 "TwiceHeard$Telling" "comes" "[Z", Cond.methodLink RL 47 yX8_letter, Cond.instanceMethod yX8_letter, Cond.selects RX8 yX8_letter yX8_letter, Cond.code yX8_letter cX8_letter 3 (some .int), Cond.methodLink RL 48 yX7_sent, Cond.instanceMethod yX7_sent, Cond.selects RX7 yX7_sent yX7_sent, Cond.code yX7_sent cX7_sent 3 (some .long), Cond.methodLink RL 51 yX8_sent, Cond.instanceMethod yX8_sent, Cond.selects RX8 yX8_sent yX8_sent, Cond.code yX8_sent cX8_sent 3 (some .long)]
def wsL_law_r21 : List Cond := [Cond.methodLink RL 52 yX7_rows, Cond.instanceMethod yX7_rows, Cond.selects RX7 yX7_rows yX7_rows, Cond.code yX7_rows cX7_rows 5 (some .long), Cond.methodLink RX7 171 yJ7_fill_d0a16, Cond.static yJ7_fill_d0a16, Cond.code yJ7_fill_d0a16 cJ7_fill_d0a16 5 none, Cond.methodLink RX7 177 yX7_waysOfRank, Cond.static yX7_waysOfRank, Cond.code yX7_waysOfRank cX7_waysOfRank 1 (some .long), Cond.methodLink RX7 181 yX7_rowsJoined, Cond.instanceMethod yX7_rowsJoined, Cond.selects RX7 yX7_rowsJoined yX7_rowsJoined, Cond.code yX7_rowsJoined cX7_rowsJoined 12 (some .long), Cond.methodLink RX7 185 yX7_waysAboveRank, Cond.static yX7_waysAboveRank, Cond.code yX7_waysAboveRank cX7_waysAboveRank 1 (some .long), Cond.methodLink RL 55 yX8_rows, Cond.instanceMethod yX8_rows, Cond.selects RX8 yX8_rows yX8_rows, Cond.code yX8_rows cX8_rows 6 (some .long), Cond.methodLink RX8 197 yX8_oneMore, Cond.instanceMethod yX8_oneMore, Cond.selects RX8 yX8_oneMore yX8_oneMore]
def wsL_law_r22 : List Cond := [Cond.code yX8_oneMore cX8_oneMore 5 none, Cond.methodLink RX8 200 yX8_leastNot, Cond.static yX8_leastNot, Cond.code yX8_leastNot cX8_leastNot 2 (some .int), Cond.methodLink RL 56 yX7_node, Cond.instanceMethod yX7_node, Cond.selects RX7 yX7_node yX7_node, Cond.code yX7_node cX7_node 3 (some .int), Cond.constant RX7 191 (65535), Cond.constant RX7 192 (-1000000004), Cond.methodLink RX7 188 yX3_everyone, Cond.instanceMethod yX3_everyone, Cond.selects RX3 yX3_everyone yX3_everyone, Cond.code yX3_everyone cX3_everyone 1 (some .int), Cond.methodLink RX7 193 yX4_remember, Cond.instanceMethod yX4_remember, Cond.selects RX4 yX4_remember yX4_remember, Cond.code yX4_remember cX4_remember 2 none, Cond.fieldLink RX4 18 "TwiceHeard$Past" "next" "I", Cond.fieldLink RX4 26 "TwiceHeard$Past" "size" "I", Cond.methodLink RX4 29 Lib.Math.min.name, Cond.static Lib.Math.min.name, Cond.initialized "java/lang/Math", Cond.code Lib.Math.min.name Lib.Math.min.code 2 (some .int)]
def wsL_law_r23 : List Cond := [Cond.methodLink RX4 22 yX3_become, Cond.instanceMethod yX3_become, Cond.selects RX3 yX3_become yX3_become, Cond.code yX3_become cX3_become 2 none, Cond.fieldLink RX3 25 "TwiceHeard$Net" "salt" "I", Cond.fieldLink RX3 28 "TwiceHeard$Net" "mode" "I", Cond.methodLink RX3 31 arraycopyName, Cond.native arraycopyName, Cond.static arraycopyName, Cond.initialized "java/lang/System", Cond.methodLink RX7 196 yX3_add, Cond.instanceMethod yX3_add, Cond.selects RX3 yX3_add yX3_add, Cond.code yX3_add cX3_add 5 none, Cond.methodLink RL 59 yX8_node, Cond.instanceMethod yX8_node, Cond.selects RX8 yX8_node yX8_node, Cond.code yX8_node cX8_node 5 (some .int), Cond.constant RX8 210 (65535), Cond.constant RX8 211 (-1000000004), Cond.methodLink RX8 207 yX8_remember, Cond.instanceMethod yX8_remember, Cond.selects RX8 yX8_remember yX8_remember, Cond.code yX8_remember cX8_remember 2 none]
def wsL_law_r24 : List Cond := [Cond.methodLink RX8 203 yX8_copyRow, Cond.instanceMethod yX8_copyRow, Cond.selects RX8 yX8_copyRow yX8_copyRow, Cond.code yX8_copyRow cX8_copyRow 4 none, Cond.methodLink RX8 212 yX8_turn, Cond.instanceMethod yX8_turn, Cond.selects RX8 yX8_turn yX8_turn, Cond.code yX8_turn cX8_turn 4 none, Cond.methodLink RL 60 yX7_take, Cond.instanceMethod yX7_take, Cond.selects RX7 yX7_take yX7_take, Cond.code yX7_take cX7_take 1 (some .int), Cond.constant RX7 200 (-1000000003), Cond.methodLink RX7 201 yX3_dropLatest, Cond.instanceMethod yX3_dropLatest, Cond.selects RX3 yX3_dropLatest yX3_dropLatest, Cond.code yX3_dropLatest cX3_dropLatest 3 none, Cond.methodLink RX3 45 yX3_everyone, Cond.methodLink RL 64 yX8_take, Cond.instanceMethod yX8_take, Cond.selects RX8 yX8_take yX8_take, Cond.code yX8_take cX8_take 3 (some .int), Cond.constant RX8 216 (-1000000003), Cond.methodLink RL 65 yX7_link]
def wsL_law_r25 : List Cond := [Cond.instanceMethod yX7_link, Cond.selects RX7 yX7_link yX7_link, Cond.code yX7_link cX7_link 3 (some .int), Cond.methodLink RX7 204 yX3_turnLink, Cond.instanceMethod yX3_turnLink, Cond.selects RX3 yX3_turnLink yX3_turnLink, Cond.code yX3_turnLink cX3_turnLink 3 none, Cond.methodLink RL 68 yX8_link, Cond.instanceMethod yX8_link, Cond.selects RX8 yX8_link yX8_link, Cond.code yX8_link cX8_link 3 (some .int), Cond.methodLink RL 69 yX7_lose, Cond.instanceMethod yX7_lose, Cond.selects RX7 yX7_lose yX7_lose, Cond.code yX7_lose cX7_lose 3 (some .int), Cond.methodLink RX7 207 yX3_turnLost, Cond.instanceMethod yX3_turnLost, Cond.selects RX3 yX3_turnLost yX3_turnLost, Cond.code yX3_turnLost cX3_turnLost 3 none, Cond.methodLink RL 72 yX8_lose, Cond.instanceMethod yX8_lose, Cond.selects RX8 yX8_lose yX8_lose, Cond.code yX8_lose cX8_lose 3 (some .int), Cond.methodLink RL 73 yX7_hear]
def wsL_law_r26 : List Cond := [Cond.instanceMethod yX7_hear, Cond.selects RX7 yX7_hear yX7_hear, Cond.code yX7_hear cX7_hear 4 (some .int), Cond.methodLink RL 76 yX8_hear, Cond.instanceMethod yX8_hear, Cond.selects RX8 yX8_hear yX8_hear, Cond.code yX8_hear cX8_hear 3 (some .int), Cond.methodLink RX8 217 yX8_put, Cond.instanceMethod yX8_put, Cond.selects RX8 yX8_put yX8_put, Cond.code yX8_put cX8_put 4 (some .int), Cond.methodLink RL 77 yX7_salt, Cond.instanceMethod yX7_salt, Cond.selects RX7 yX7_salt yX7_salt, Cond.code yX7_salt cX7_salt 3 (some .int), Cond.methodLink RL 80 yX8_salt, Cond.instanceMethod yX8_salt, Cond.selects RX8 yX8_salt yX8_salt, Cond.code yX8_salt cX8_salt 2 (some .int), Cond.methodLink RL 81 yX7_mode, Cond.instanceMethod yX7_mode, Cond.selects RX7 yX7_mode yX7_mode, Cond.code yX7_mode cX7_mode 3 (some .int), Cond.methodLink RL 84 yX8_mode]
def wsL_law_r27 : List Cond := [Cond.instanceMethod yX8_mode, Cond.selects RX8 yX8_mode yX8_mode, Cond.code yX8_mode cX8_mode 2 (some .int), Cond.methodLink RL 85 yX7_drift, Cond.instanceMethod yX7_drift, Cond.selects RX7 yX7_drift yX7_drift, Cond.code yX7_drift cX7_drift 5 (some .int), Cond.methodLink RX7 210 yX1_next, Cond.instanceMethod yX1_next, Cond.selects RX1 yX1_next yX1_next, Cond.code yX1_next cX1_next 2 (some .int), Cond.fieldLink RX1 7 "TwiceHeard$Draws" "seed" "I", Cond.constantLong RX1 13 (1103515245), Cond.constantLong RX1 15 (12345), Cond.constantLong RX1 17 (2147483648), Cond.constant RX1 19 (65536), Cond.methodLink RX7 213 yX3_turnItem, Cond.instanceMethod yX3_turnItem, Cond.selects RX3 yX3_turnItem yX3_turnItem, Cond.code yX3_turnItem cX3_turnItem 3 none, Cond.methodLink RL 88 yX8_drift, Cond.instanceMethod yX8_drift, Cond.selects RX8 yX8_drift yX8_drift, Cond.code yX8_drift cX8_drift 5 (some .int)]
def wsL_law_r28 : List Cond := [Cond.methodLink RX8 228 yX8_draw, Cond.instanceMethod yX8_draw, Cond.selects RX8 yX8_draw yX8_draw, Cond.code yX8_draw cX8_draw 4 (some .int), Cond.constantLong RX8 221 (1103515245), Cond.constantLong RX8 223 (12345), Cond.constantLong RX8 225 (2147483648), Cond.constant RX8 227 (65536), Cond.methodLink RL 89 yX7_undo, Cond.instanceMethod yX7_undo, Cond.selects RX7 yX7_undo yX7_undo, Cond.code yX7_undo cX7_undo 2 (some .int), Cond.methodLink RX7 216 yX4_restore, Cond.instanceMethod yX4_restore, Cond.selects RX4 yX4_restore yX4_restore, Cond.code yX4_restore cX4_restore 3 none, Cond.methodLink RL 92 yX8_undo, Cond.instanceMethod yX8_undo, Cond.selects RX8 yX8_undo yX8_undo, Cond.code yX8_undo cX8_undo 2 (some .int), Cond.methodLink RL 93 yX7_write, Cond.instanceMethod yX7_write, Cond.selects RX7 yX7_write yX7_write, Cond.code yX7_write cX7_write 3 (some .int)]
def wsL_law_r29 : List Cond := [Cond.methodLink RX7 219 yX0_enter, Cond.instanceMethod yX0_enter, Cond.selects RX0 yX0_enter yX0_enter, Cond.code yX0_enter cX0_enter 3 none, Cond.fieldLink RX0 18 "TwiceHeard$Book" "size" "I", Cond.methodLink RL 96 yX8_write, Cond.instanceMethod yX8_write, Cond.selects RX8 yX8_write yX8_write, Cond.code yX8_write cX8_write 3 (some .int), Cond.methodLink RL 97 yX7_tear, Cond.instanceMethod yX7_tear, Cond.selects RX7 yX7_tear yX7_tear, Cond.code yX7_tear cX7_tear 2 (some .int), Cond.methodLink RL 100 yX8_tear, Cond.instanceMethod yX8_tear, Cond.selects RX8 yX8_tear yX8_tear, Cond.code yX8_tear cX8_tear 2 (some .int), Cond.methodLink RL 101 yX7_seed, Cond.instanceMethod yX7_seed, Cond.selects RX7 yX7_seed yX7_seed, Cond.code yX7_seed cX7_seed 3 (some .int), Cond.methodLink RL 104 yX8_seed, Cond.instanceMethod yX8_seed, Cond.selects RX8 yX8_seed yX8_seed]
def wsL_law_r30 : List Cond := [Cond.code yX8_seed cX8_seed 3 (some .int), Cond.methodLink RL 105 yX7_keep, Cond.instanceMethod yX7_keep, Cond.selects RX7 yX7_keep yX7_keep, Cond.code yX7_keep cX7_keep 2 (some .int), Cond.fieldLink RX7 222 "TwiceHeard$Image" "kept" "Z", Cond.fieldLink RX7 226 "TwiceHeard$Image" "seed" "I", Cond.fieldLink RX7 227 "TwiceHeard$Image" "net" "LTwiceHeard$Net;", Cond.methodLink RX7 228 yX3_become, Cond.methodLink RX7 231 yX4_forget, Cond.instanceMethod yX4_forget, Cond.selects RX4 yX4_forget yX4_forget, Cond.code yX4_forget cX4_forget 1 none, Cond.methodLink RL 108 yX8_keep, Cond.instanceMethod yX8_keep, Cond.selects RX8 yX8_keep yX8_keep, Cond.code yX8_keep cX8_keep 2 (some .int), Cond.fieldLink RX8 231 "TwiceHeardModel" "kept" "I", Cond.methodLink RL 109 yX7_goBack, Cond.instanceMethod yX7_goBack, Cond.selects RX7 yX7_goBack yX7_goBack, Cond.code yX7_goBack cX7_goBack 2 (some .int), Cond.methodLink RL 112 yX8_goBack, Cond.instanceMethod yX8_goBack]
def wsL_law_r31 : List Cond := [Cond.selects RX8 yX8_goBack yX8_goBack, Cond.code yX8_goBack cX8_goBack 2 (some .int)]
def wsL_law : List Cond := (wsL_law_r1 ++ (wsL_law_r2 ++ (wsL_law_r3 ++ (wsL_law_r4 ++ (wsL_law_r5 ++ (wsL_law_r6 ++ (wsL_law_r7 ++ (wsL_law_r8 ++ (wsL_law_r9 ++ (wsL_law_r10 ++ (wsL_law_r11 ++ (wsL_law_r12 ++ (wsL_law_r13 ++ (wsL_law_r14 ++ (wsL_law_r15 ++ (wsL_law_r16 ++ (wsL_law_r17 ++ (wsL_law_r18 ++ (wsL_law_r19 ++ (wsL_law_r20 ++ (wsL_law_r21 ++ (wsL_law_r22 ++ (wsL_law_r23 ++ (wsL_law_r24 ++ (wsL_law_r25 ++ (wsL_law_r26 ++ (wsL_law_r27 ++ (wsL_law_r28 ++ (wsL_law_r29 ++ (wsL_law_r30 ++ wsL_law_r31)))))))))))))))))))))))))))))) ++ wsX70 ++ wsX80 ++ wsX30 ++ wsX40 ++ wsX60 ++ wsX00 ++ wsX10 ++ wsX20 ++ ([] : List Cond)
theorem inlX0 : ∀ w ∈ wsX00, w ∈ wsL_law := fun _ h => List.mem_append_left _ (List.mem_append_left _ (List.mem_append_left _ (List.mem_append_right _ h)))
theorem inlX1 : ∀ w ∈ wsX10, w ∈ wsL_law := fun _ h => List.mem_append_left _ (List.mem_append_left _ (List.mem_append_right _ h))
theorem inlX2 : ∀ w ∈ wsX20, w ∈ wsL_law := fun _ h => List.mem_append_left _ (List.mem_append_right _ h)
theorem inlX3 : ∀ w ∈ wsX30, w ∈ wsL_law := fun _ h => List.mem_append_left _ (List.mem_append_left _ (List.mem_append_left _ (List.mem_append_left _ (List.mem_append_left _ (List.mem_append_left _ (List.mem_append_right _ h))))))
theorem inlX4 : ∀ w ∈ wsX40, w ∈ wsL_law := fun _ h => List.mem_append_left _ (List.mem_append_left _ (List.mem_append_left _ (List.mem_append_left _ (List.mem_append_left _ (List.mem_append_right _ h)))))
theorem inlX6 : ∀ w ∈ wsX60, w ∈ wsL_law := fun _ h => List.mem_append_left _ (List.mem_append_left _ (List.mem_append_left _ (List.mem_append_left _ (List.mem_append_right _ h))))
theorem inlX7 : ∀ w ∈ wsX70, w ∈ wsL_law := fun _ h => List.mem_append_left _ (List.mem_append_left _ (List.mem_append_left _ (List.mem_append_left _ (List.mem_append_left _ (List.mem_append_left _ (List.mem_append_left _ (List.mem_append_left _ (List.mem_append_right _ h))))))))
theorem inlX8 : ∀ w ∈ wsX80, w ∈ wsL_law := fun _ h => List.mem_append_left _ (List.mem_append_left _ (List.mem_append_left _ (List.mem_append_left _ (List.mem_append_left _ (List.mem_append_left _ (List.mem_append_left _ (List.mem_append_right _ h)))))))
theorem dX0_init_0 : decode cX0_init 0 = .ok (.aload_n 0, 1) := by decide +kernel
theorem dX0_init_1 : decode cX0_init 1 = .ok (.invokespecial 3, 3) := by decide +kernel
theorem dX0_init_4 : decode cX0_init 4 = .ok (.aload_n 0, 1) := by decide +kernel
theorem dX0_init_5 : decode cX0_init 5 = .ok (.bipush 20, 2) := by decide +kernel
theorem dX0_init_7 : decode cX0_init 7 = .ok (.newarray .int, 2) := by decide +kernel
theorem dX0_init_9 : decode cX0_init 9 = .ok (.putfield 9, 3) := by decide +kernel
theorem dX0_init_12 : decode cX0_init 12 = .ok (.aload_n 0, 1) := by decide +kernel
theorem dX0_init_13 : decode cX0_init 13 = .ok (.bipush 20, 2) := by decide +kernel
theorem dX0_init_15 : decode cX0_init 15 = .ok (.newarray .int, 2) := by decide +kernel
theorem dX0_init_17 : decode cX0_init 17 = .ok (.putfield 15, 3) := by decide +kernel
theorem dX0_init_20 : decode cX0_init 20 = .ok (.return_, 1) := by decide +kernel
theorem dX0_enter_0 : decode cX0_enter 0 = .ok (.aload_n 0, 1) := by decide +kernel
theorem dX0_enter_1 : decode cX0_enter 1 = .ok (.getfield 18, 3) := by decide +kernel
theorem dX0_enter_4 : decode cX0_enter 4 = .ok (.bipush 20, 2) := by decide +kernel
theorem dX0_enter_6 : decode cX0_enter 6 = .ok (.if_icmp .lt 4, 3) := by decide +kernel
theorem dX0_enter_9 : decode cX0_enter 9 = .ok (.return_, 1) := by decide +kernel
theorem dX0_enter_10 : decode cX0_enter 10 = .ok (.aload_n 0, 1) := by decide +kernel
theorem dX0_enter_11 : decode cX0_enter 11 = .ok (.getfield 9, 3) := by decide +kernel
theorem dX0_enter_14 : decode cX0_enter 14 = .ok (.aload_n 0, 1) := by decide +kernel
theorem dX0_enter_15 : decode cX0_enter 15 = .ok (.getfield 18, 3) := by decide +kernel
theorem dX0_enter_18 : decode cX0_enter 18 = .ok (.iload_n 1, 1) := by decide +kernel
theorem dX0_enter_19 : decode cX0_enter 19 = .ok (.iastore, 1) := by decide +kernel
theorem dX0_enter_20 : decode cX0_enter 20 = .ok (.aload_n 0, 1) := by decide +kernel
theorem dX0_enter_21 : decode cX0_enter 21 = .ok (.getfield 15, 3) := by decide +kernel
theorem dX0_enter_24 : decode cX0_enter 24 = .ok (.aload_n 0, 1) := by decide +kernel
theorem dX0_enter_25 : decode cX0_enter 25 = .ok (.getfield 18, 3) := by decide +kernel
theorem dX0_enter_28 : decode cX0_enter 28 = .ok (.iload_n 2, 1) := by decide +kernel
theorem dX0_enter_29 : decode cX0_enter 29 = .ok (.iastore, 1) := by decide +kernel
theorem dX0_enter_30 : decode cX0_enter 30 = .ok (.aload_n 0, 1) := by decide +kernel
theorem dX0_enter_31 : decode cX0_enter 31 = .ok (.dup, 1) := by decide +kernel
theorem dX0_enter_32 : decode cX0_enter 32 = .ok (.getfield 18, 3) := by decide +kernel
theorem dX0_enter_35 : decode cX0_enter 35 = .ok (.iconst 1, 1) := by decide +kernel
theorem dX0_enter_36 : decode cX0_enter 36 = .ok (.iadd, 1) := by decide +kernel
theorem dX0_enter_37 : decode cX0_enter 37 = .ok (.putfield 18, 3) := by decide +kernel
theorem dX0_enter_40 : decode cX0_enter 40 = .ok (.return_, 1) := by decide +kernel
theorem dX1_init_0 : decode cX1_init 0 = .ok (.aload_n 0, 1) := by decide +kernel
theorem dX1_init_1 : decode cX1_init 1 = .ok (.invokespecial 1, 3) := by decide +kernel
theorem dX1_init_4 : decode cX1_init 4 = .ok (.return_, 1) := by decide +kernel
theorem dX1_next_0 : decode cX1_next 0 = .ok (.aload_n 0, 1) := by decide +kernel
theorem dX1_next_1 : decode cX1_next 1 = .ok (.aload_n 0, 1) := by decide +kernel
theorem dX1_next_2 : decode cX1_next 2 = .ok (.getfield 7, 3) := by decide +kernel
theorem dX1_next_5 : decode cX1_next 5 = .ok (.i2l, 1) := by decide +kernel
theorem dX1_next_6 : decode cX1_next 6 = .ok (.ldc2_w 13, 3) := by decide +kernel
theorem dX1_next_9 : decode cX1_next 9 = .ok (.lmul, 1) := by decide +kernel
theorem dX1_next_10 : decode cX1_next 10 = .ok (.ldc2_w 15, 3) := by decide +kernel
theorem dX1_next_13 : decode cX1_next 13 = .ok (.ladd, 1) := by decide +kernel
theorem dX1_next_14 : decode cX1_next 14 = .ok (.ldc2_w 17, 3) := by decide +kernel
theorem dX1_next_17 : decode cX1_next 17 = .ok (.lrem, 1) := by decide +kernel
theorem dX1_next_18 : decode cX1_next 18 = .ok (.l2i, 1) := by decide +kernel
theorem dX1_next_19 : decode cX1_next 19 = .ok (.putfield 7, 3) := by decide +kernel
theorem dX1_next_22 : decode cX1_next 22 = .ok (.iload_n 1, 1) := by decide +kernel
theorem dX1_next_23 : decode cX1_next 23 = .ok (.iconst 1, 1) := by decide +kernel
theorem dX1_next_24 : decode cX1_next 24 = .ok (.if_icmp .ge 7, 3) := by decide +kernel
theorem dX1_next_27 : decode cX1_next 27 = .ok (.iconst 0, 1) := by decide +kernel
theorem dX1_next_28 : decode cX1_next 28 = .ok (.goto 12, 3) := by decide +kernel
theorem dX1_next_31 : decode cX1_next 31 = .ok (.aload_n 0, 1) := by decide +kernel
theorem dX1_next_32 : decode cX1_next 32 = .ok (.getfield 7, 3) := by decide +kernel
theorem dX1_next_35 : decode cX1_next 35 = .ok (.ldc 19, 2) := by decide +kernel
theorem dX1_next_37 : decode cX1_next 37 = .ok (.idiv, 1) := by decide +kernel
theorem dX1_next_38 : decode cX1_next 38 = .ok (.iload_n 1, 1) := by decide +kernel
theorem dX1_next_39 : decode cX1_next 39 = .ok (.irem, 1) := by decide +kernel
theorem dX1_next_40 : decode cX1_next 40 = .ok (.ireturn, 1) := by decide +kernel
set_option maxRecDepth 20000 in
theorem ggX2_init_X3_init : GoodIn wsX2_init wsX3_init := goodIn_r _ [10, 11, 2, 3, 12, 13, 14, 15, 16, 17, 18, 19, 20, 21, 22] (by decide +kernel) (by decide +kernel)
set_option maxRecDepth 20000 in
theorem gX2_init_X3_init : GoodIn wsX2_init (wsX3_init) := ggX2_init_X3_init
theorem dX2_init_0 : decode cX2_init 0 = .ok (.aload_n 0, 1) := by decide +kernel
theorem dX2_init_1 : decode cX2_init 1 = .ok (.invokespecial 1, 3) := by decide +kernel
theorem dX2_init_4 : decode cX2_init 4 = .ok (.aload_n 0, 1) := by decide +kernel
theorem dX2_init_5 : decode cX2_init 5 = .ok (.new 7, 3) := by decide +kernel
theorem dX2_init_8 : decode cX2_init 8 = .ok (.dup, 1) := by decide +kernel
theorem dX2_init_9 : decode cX2_init 9 = .ok (.invokespecial 9, 3) := by decide +kernel
theorem dX2_init_12 : decode cX2_init 12 = .ok (.putfield 10, 3) := by decide +kernel
theorem dX2_init_15 : decode cX2_init 15 = .ok (.return_, 1) := by decide +kernel
theorem dX3_init_0 : decode cX3_init 0 = .ok (.aload_n 0, 1) := by decide +kernel
theorem dX3_init_1 : decode cX3_init 1 = .ok (.invokespecial 3, 3) := by decide +kernel
theorem dX3_init_4 : decode cX3_init 4 = .ok (.aload_n 0, 1) := by decide +kernel
theorem dX3_init_5 : decode cX3_init 5 = .ok (.iconst 1, 1) := by decide +kernel
theorem dX3_init_6 : decode cX3_init 6 = .ok (.putfield 9, 3) := by decide +kernel
theorem dX3_init_9 : decode cX3_init 9 = .ok (.aload_n 0, 1) := by decide +kernel
theorem dX3_init_10 : decode cX3_init 10 = .ok (.bipush 9, 2) := by decide +kernel
theorem dX3_init_12 : decode cX3_init 12 = .ok (.newarray .int, 2) := by decide +kernel
theorem dX3_init_14 : decode cX3_init 14 = .ok (.putfield 15, 3) := by decide +kernel
theorem dX3_init_17 : decode cX3_init 17 = .ok (.aload_n 0, 1) := by decide +kernel
theorem dX3_init_18 : decode cX3_init 18 = .ok (.bipush 9, 2) := by decide +kernel
theorem dX3_init_20 : decode cX3_init 20 = .ok (.newarray .int, 2) := by decide +kernel
theorem dX3_init_22 : decode cX3_init 22 = .ok (.putfield 19, 3) := by decide +kernel
theorem dX3_init_25 : decode cX3_init 25 = .ok (.aload_n 0, 1) := by decide +kernel
theorem dX3_init_26 : decode cX3_init 26 = .ok (.bipush 9, 2) := by decide +kernel
theorem dX3_init_28 : decode cX3_init 28 = .ok (.newarray .int, 2) := by decide +kernel
theorem dX3_init_30 : decode cX3_init 30 = .ok (.putfield 22, 3) := by decide +kernel
theorem dX3_init_33 : decode cX3_init 33 = .ok (.return_, 1) := by decide +kernel
theorem dX3_become_0 : decode cX3_become 0 = .ok (.aload_n 0, 1) := by decide +kernel
theorem dX3_become_1 : decode cX3_become 1 = .ok (.aload_n 1, 1) := by decide +kernel
theorem dX3_become_2 : decode cX3_become 2 = .ok (.getfield 9, 3) := by decide +kernel
theorem dX3_become_5 : decode cX3_become 5 = .ok (.putfield 9, 3) := by decide +kernel
theorem dX3_become_8 : decode cX3_become 8 = .ok (.aload_n 0, 1) := by decide +kernel
theorem dX3_become_9 : decode cX3_become 9 = .ok (.aload_n 1, 1) := by decide +kernel
theorem dX3_become_10 : decode cX3_become 10 = .ok (.getfield 25, 3) := by decide +kernel
theorem dX3_become_13 : decode cX3_become 13 = .ok (.putfield 25, 3) := by decide +kernel
theorem dX3_become_16 : decode cX3_become 16 = .ok (.aload_n 0, 1) := by decide +kernel
theorem dX3_become_17 : decode cX3_become 17 = .ok (.aload_n 1, 1) := by decide +kernel
theorem dX3_become_18 : decode cX3_become 18 = .ok (.getfield 28, 3) := by decide +kernel
theorem dX3_become_21 : decode cX3_become 21 = .ok (.putfield 28, 3) := by decide +kernel
theorem dX3_become_24 : decode cX3_become 24 = .ok (.aload_n 1, 1) := by decide +kernel
theorem dX3_become_25 : decode cX3_become 25 = .ok (.getfield 15, 3) := by decide +kernel
theorem dX3_become_28 : decode cX3_become 28 = .ok (.iconst 0, 1) := by decide +kernel
theorem dX3_become_29 : decode cX3_become 29 = .ok (.aload_n 0, 1) := by decide +kernel
theorem dX3_become_30 : decode cX3_become 30 = .ok (.getfield 15, 3) := by decide +kernel
theorem dX3_become_33 : decode cX3_become 33 = .ok (.iconst 0, 1) := by decide +kernel
theorem dX3_become_34 : decode cX3_become 34 = .ok (.bipush 9, 2) := by decide +kernel
theorem dX3_become_36 : decode cX3_become 36 = .ok (.invokestatic 31, 3) := by decide +kernel
theorem dX3_become_39 : decode cX3_become 39 = .ok (.aload_n 1, 1) := by decide +kernel
end
section
theorem dX3_become_40 : decode cX3_become 40 = .ok (.getfield 19, 3) := by decide +kernel
theorem dX3_become_43 : decode cX3_become 43 = .ok (.iconst 0, 1) := by decide +kernel
theorem dX3_become_44 : decode cX3_become 44 = .ok (.aload_n 0, 1) := by decide +kernel
theorem dX3_become_45 : decode cX3_become 45 = .ok (.getfield 19, 3) := by decide +kernel
theorem dX3_become_48 : decode cX3_become 48 = .ok (.iconst 0, 1) := by decide +kernel
theorem dX3_become_49 : decode cX3_become 49 = .ok (.bipush 9, 2) := by decide +kernel
theorem dX3_become_51 : decode cX3_become 51 = .ok (.invokestatic 31, 3) := by decide +kernel
theorem dX3_become_54 : decode cX3_become 54 = .ok (.aload_n 1, 1) := by decide +kernel
theorem dX3_become_55 : decode cX3_become 55 = .ok (.getfield 22, 3) := by decide +kernel
theorem dX3_become_58 : decode cX3_become 58 = .ok (.iconst 0, 1) := by decide +kernel
theorem dX3_become_59 : decode cX3_become 59 = .ok (.aload_n 0, 1) := by decide +kernel
theorem dX3_become_60 : decode cX3_become 60 = .ok (.getfield 22, 3) := by decide +kernel
theorem dX3_become_63 : decode cX3_become 63 = .ok (.iconst 0, 1) := by decide +kernel
theorem dX3_become_64 : decode cX3_become 64 = .ok (.bipush 9, 2) := by decide +kernel
theorem dX3_become_66 : decode cX3_become 66 = .ok (.invokestatic 31, 3) := by decide +kernel
theorem dX3_become_69 : decode cX3_become 69 = .ok (.return_, 1) := by decide +kernel
theorem dX3_has_0 : decode cX3_has 0 = .ok (.iload_n 1, 1) := by decide +kernel
theorem dX3_has_1 : decode cX3_has 1 = .ok (.ifCond .lt 15, 3) := by decide +kernel
theorem dX3_has_4 : decode cX3_has 4 = .ok (.iload_n 1, 1) := by decide +kernel
theorem dX3_has_5 : decode cX3_has 5 = .ok (.aload_n 0, 1) := by decide +kernel
theorem dX3_has_6 : decode cX3_has 6 = .ok (.getfield 9, 3) := by decide +kernel
theorem dX3_has_9 : decode cX3_has 9 = .ok (.if_icmp .ge 7, 3) := by decide +kernel
theorem dX3_has_12 : decode cX3_has 12 = .ok (.iconst 1, 1) := by decide +kernel
theorem dX3_has_13 : decode cX3_has 13 = .ok (.goto 4, 3) := by decide +kernel
theorem dX3_has_16 : decode cX3_has 16 = .ok (.iconst 0, 1) := by decide +kernel
theorem dX3_has_17 : decode cX3_has 17 = .ok (.ireturn, 1) := by decide +kernel
set_option maxRecDepth 20000 in
theorem ggX3_hasLink_X3_has : GoodIn wsX3_hasLink wsX3_has := goodIn_r _ [6, 7, 11, 12, 13, 14, 15, 16] (by decide +kernel) (by decide +kernel)
set_option maxRecDepth 20000 in
theorem gX3_hasLink_X3_has : GoodIn wsX3_hasLink (wsV RX3 37 RX3 yX3_has wsX3_has) := goodIn_app (goodIn_of _ (by decide +kernel)) ggX3_hasLink_X3_has
set_option maxRecDepth 20000 in
theorem ggX3_hasLink_X7_isIn : GoodIn wsX3_hasLink wsX7_isIn := goodIn_r _ [10] (by decide +kernel) (by decide +kernel)
set_option maxRecDepth 20000 in
theorem gX3_hasLink_X7_isIn_n41 : GoodIn wsX3_hasLink (wsX7_isIn) := ggX3_hasLink_X7_isIn
theorem dX3_hasLink_0 : decode cX3_hasLink 0 = .ok (.aload_n 0, 1) := by decide +kernel
theorem dX3_hasLink_1 : decode cX3_hasLink 1 = .ok (.iload_n 1, 1) := by decide +kernel
theorem dX3_hasLink_2 : decode cX3_hasLink 2 = .ok (.invokevirtual 37, 3) := by decide +kernel
theorem dX3_hasLink_5 : decode cX3_hasLink 5 = .ok (.ifCond .eq 28, 3) := by decide +kernel
theorem dX3_hasLink_8 : decode cX3_hasLink 8 = .ok (.aload_n 0, 1) := by decide +kernel
theorem dX3_hasLink_9 : decode cX3_hasLink 9 = .ok (.iload_n 2, 1) := by decide +kernel
theorem dX3_hasLink_10 : decode cX3_hasLink 10 = .ok (.invokevirtual 37, 3) := by decide +kernel
theorem dX3_hasLink_13 : decode cX3_hasLink 13 = .ok (.ifCond .eq 20, 3) := by decide +kernel
theorem dX3_hasLink_16 : decode cX3_hasLink 16 = .ok (.aload_n 0, 1) := by decide +kernel
theorem dX3_hasLink_17 : decode cX3_hasLink 17 = .ok (.getfield 15, 3) := by decide +kernel
theorem dX3_hasLink_20 : decode cX3_hasLink 20 = .ok (.iload_n 1, 1) := by decide +kernel
theorem dX3_hasLink_21 : decode cX3_hasLink 21 = .ok (.iaload, 1) := by decide +kernel
theorem dX3_hasLink_22 : decode cX3_hasLink 22 = .ok (.iload_n 2, 1) := by decide +kernel
theorem dX3_hasLink_23 : decode cX3_hasLink 23 = .ok (.invokestatic 41, 3) := by decide +kernel
theorem dX3_hasLink_26 : decode cX3_hasLink 26 = .ok (.ifCond .eq 7, 3) := by decide +kernel
theorem dX3_hasLink_29 : decode cX3_hasLink 29 = .ok (.iconst 1, 1) := by decide +kernel
theorem dX3_hasLink_30 : decode cX3_hasLink 30 = .ok (.goto 4, 3) := by decide +kernel
theorem dX3_hasLink_33 : decode cX3_hasLink 33 = .ok (.iconst 0, 1) := by decide +kernel
theorem dX3_hasLink_34 : decode cX3_hasLink 34 = .ok (.ireturn, 1) := by decide +kernel
set_option maxRecDepth 20000 in
theorem ggX3_hasLost_X3_has : GoodIn wsX3_hasLost wsX3_has := goodIn_r _ [6, 7, 11, 12, 13, 14, 15, 16] (by decide +kernel) (by decide +kernel)
set_option maxRecDepth 20000 in
theorem gX3_hasLost_X3_has : GoodIn wsX3_hasLost (wsV RX3 37 RX3 yX3_has wsX3_has) := goodIn_app (goodIn_of _ (by decide +kernel)) ggX3_hasLost_X3_has
set_option maxRecDepth 20000 in
theorem ggX3_hasLost_X7_isIn : GoodIn wsX3_hasLost wsX7_isIn := goodIn_r _ [10] (by decide +kernel) (by decide +kernel)
set_option maxRecDepth 20000 in
theorem gX3_hasLost_X7_isIn_n41 : GoodIn wsX3_hasLost (wsX7_isIn) := ggX3_hasLost_X7_isIn
theorem dX3_hasLost_0 : decode cX3_hasLost 0 = .ok (.aload_n 0, 1) := by decide +kernel
theorem dX3_hasLost_1 : decode cX3_hasLost 1 = .ok (.iload_n 1, 1) := by decide +kernel
theorem dX3_hasLost_2 : decode cX3_hasLost 2 = .ok (.invokevirtual 37, 3) := by decide +kernel
theorem dX3_hasLost_5 : decode cX3_hasLost 5 = .ok (.ifCond .eq 28, 3) := by decide +kernel
theorem dX3_hasLost_8 : decode cX3_hasLost 8 = .ok (.aload_n 0, 1) := by decide +kernel
theorem dX3_hasLost_9 : decode cX3_hasLost 9 = .ok (.iload_n 2, 1) := by decide +kernel
theorem dX3_hasLost_10 : decode cX3_hasLost 10 = .ok (.invokevirtual 37, 3) := by decide +kernel
theorem dX3_hasLost_13 : decode cX3_hasLost 13 = .ok (.ifCond .eq 20, 3) := by decide +kernel
theorem dX3_hasLost_16 : decode cX3_hasLost 16 = .ok (.aload_n 0, 1) := by decide +kernel
theorem dX3_hasLost_17 : decode cX3_hasLost 17 = .ok (.getfield 19, 3) := by decide +kernel
theorem dX3_hasLost_20 : decode cX3_hasLost 20 = .ok (.iload_n 1, 1) := by decide +kernel
theorem dX3_hasLost_21 : decode cX3_hasLost 21 = .ok (.iaload, 1) := by decide +kernel
theorem dX3_hasLost_22 : decode cX3_hasLost 22 = .ok (.iload_n 2, 1) := by decide +kernel
theorem dX3_hasLost_23 : decode cX3_hasLost 23 = .ok (.invokestatic 41, 3) := by decide +kernel
theorem dX3_hasLost_26 : decode cX3_hasLost 26 = .ok (.ifCond .eq 7, 3) := by decide +kernel
theorem dX3_hasLost_29 : decode cX3_hasLost 29 = .ok (.iconst 1, 1) := by decide +kernel
theorem dX3_hasLost_30 : decode cX3_hasLost 30 = .ok (.goto 4, 3) := by decide +kernel
theorem dX3_hasLost_33 : decode cX3_hasLost 33 = .ok (.iconst 0, 1) := by decide +kernel
theorem dX3_hasLost_34 : decode cX3_hasLost 34 = .ok (.ireturn, 1) := by decide +kernel
theorem dX3_everyone_0 : decode cX3_everyone 0 = .ok (.iconst 1, 1) := by decide +kernel
theorem dX3_everyone_1 : decode cX3_everyone 1 = .ok (.aload_n 0, 1) := by decide +kernel
theorem dX3_everyone_2 : decode cX3_everyone 2 = .ok (.getfield 9, 3) := by decide +kernel
theorem dX3_everyone_5 : decode cX3_everyone 5 = .ok (.ishl, 1) := by decide +kernel
theorem dX3_everyone_6 : decode cX3_everyone 6 = .ok (.iconst 1, 1) := by decide +kernel
theorem dX3_everyone_7 : decode cX3_everyone 7 = .ok (.isub, 1) := by decide +kernel
theorem dX3_everyone_8 : decode cX3_everyone 8 = .ok (.ireturn, 1) := by decide +kernel
set_option maxRecDepth 20000 in
theorem ggX3_add_X7_isIn : GoodIn wsX3_add wsX7_isIn := goodIn_r _ [7] (by decide +kernel) (by decide +kernel)
set_option maxRecDepth 20000 in
theorem gX3_add_X7_isIn_n41 : GoodIn wsX3_add (wsX7_isIn) := ggX3_add_X7_isIn
theorem dX3_add_0 : decode cX3_add 0 = .ok (.aload_n 0, 1) := by decide +kernel
theorem dX3_add_1 : decode cX3_add 1 = .ok (.getfield 9, 3) := by decide +kernel
theorem dX3_add_4 : decode cX3_add 4 = .ok (.istore_n 3, 1) := by decide +kernel
theorem dX3_add_5 : decode cX3_add 5 = .ok (.iload_n 3, 1) := by decide +kernel
theorem dX3_add_6 : decode cX3_add 6 = .ok (.bipush 9, 2) := by decide +kernel
theorem dX3_add_8 : decode cX3_add 8 = .ok (.if_icmp .lt 4, 3) := by decide +kernel
theorem dX3_add_11 : decode cX3_add 11 = .ok (.return_, 1) := by decide +kernel
theorem dX3_add_12 : decode cX3_add 12 = .ok (.aload_n 0, 1) := by decide +kernel
theorem dX3_add_13 : decode cX3_add 13 = .ok (.getfield 15, 3) := by decide +kernel
theorem dX3_add_16 : decode cX3_add 16 = .ok (.iload_n 3, 1) := by decide +kernel
theorem dX3_add_17 : decode cX3_add 17 = .ok (.iload_n 1, 1) := by decide +kernel
theorem dX3_add_18 : decode cX3_add 18 = .ok (.iastore, 1) := by decide +kernel
theorem dX3_add_19 : decode cX3_add 19 = .ok (.aload_n 0, 1) := by decide +kernel
theorem dX3_add_20 : decode cX3_add 20 = .ok (.getfield 19, 3) := by decide +kernel
theorem dX3_add_23 : decode cX3_add 23 = .ok (.iload_n 3, 1) := by decide +kernel
theorem dX3_add_24 : decode cX3_add 24 = .ok (.iconst 0, 1) := by decide +kernel
theorem dX3_add_25 : decode cX3_add 25 = .ok (.iastore, 1) := by decide +kernel
theorem dX3_add_26 : decode cX3_add 26 = .ok (.aload_n 0, 1) := by decide +kernel
theorem dX3_add_27 : decode cX3_add 27 = .ok (.getfield 22, 3) := by decide +kernel
theorem dX3_add_30 : decode cX3_add 30 = .ok (.iload_n 3, 1) := by decide +kernel
theorem dX3_add_31 : decode cX3_add 31 = .ok (.iload_n 2, 1) := by decide +kernel
theorem dX3_add_32 : decode cX3_add 32 = .ok (.iastore, 1) := by decide +kernel
theorem dX3_add_33 : decode cX3_add 33 = .ok (.iconst 0, 1) := by decide +kernel
theorem dX3_add_34 : decode cX3_add 34 = .ok (.istore 4, 2) := by decide +kernel
theorem dX3_add_36 : decode cX3_add 36 = .ok (.iload 4, 2) := by decide +kernel
theorem dX3_add_38 : decode cX3_add 38 = .ok (.iload_n 3, 1) := by decide +kernel
theorem dX3_add_39 : decode cX3_add 39 = .ok (.if_icmp .ge 31, 3) := by decide +kernel
theorem dX3_add_42 : decode cX3_add 42 = .ok (.iload_n 1, 1) := by decide +kernel
theorem dX3_add_43 : decode cX3_add 43 = .ok (.iload 4, 2) := by decide +kernel
theorem dX3_add_45 : decode cX3_add 45 = .ok (.invokestatic 41, 3) := by decide +kernel
theorem dX3_add_48 : decode cX3_add 48 = .ok (.ifCond .eq 16, 3) := by decide +kernel
theorem dX3_add_51 : decode cX3_add 51 = .ok (.aload_n 0, 1) := by decide +kernel
theorem dX3_add_52 : decode cX3_add 52 = .ok (.getfield 15, 3) := by decide +kernel
theorem dX3_add_55 : decode cX3_add 55 = .ok (.iload 4, 2) := by decide +kernel
theorem dX3_add_57 : decode cX3_add 57 = .ok (.dup2, 1) := by decide +kernel
theorem dX3_add_58 : decode cX3_add 58 = .ok (.iaload, 1) := by decide +kernel
theorem dX3_add_59 : decode cX3_add 59 = .ok (.iconst 1, 1) := by decide +kernel
theorem dX3_add_60 : decode cX3_add 60 = .ok (.iload_n 3, 1) := by decide +kernel
theorem dX3_add_61 : decode cX3_add 61 = .ok (.ishl, 1) := by decide +kernel
theorem dX3_add_62 : decode cX3_add 62 = .ok (.ior, 1) := by decide +kernel
theorem dX3_add_63 : decode cX3_add 63 = .ok (.iastore, 1) := by decide +kernel
theorem dX3_add_64 : decode cX3_add 64 = .ok (.iinc 4 1, 3) := by decide +kernel
theorem dX3_add_67 : decode cX3_add 67 = .ok (.goto (-31), 3) := by decide +kernel
theorem dX3_add_70 : decode cX3_add 70 = .ok (.aload_n 0, 1) := by decide +kernel
theorem dX3_add_71 : decode cX3_add 71 = .ok (.dup, 1) := by decide +kernel
theorem dX3_add_72 : decode cX3_add 72 = .ok (.getfield 9, 3) := by decide +kernel
theorem dX3_add_75 : decode cX3_add 75 = .ok (.iconst 1, 1) := by decide +kernel
theorem dX3_add_76 : decode cX3_add 76 = .ok (.iadd, 1) := by decide +kernel
theorem dX3_add_77 : decode cX3_add 77 = .ok (.putfield 9, 3) := by decide +kernel
theorem dX3_add_80 : decode cX3_add 80 = .ok (.return_, 1) := by decide +kernel
set_option maxRecDepth 20000 in
theorem ggX3_dropLatest_X3_everyone : GoodIn wsX3_dropLatest wsX3_everyone := goodIn_r _ [9, 1, 10, 11, 12, 13, 14, 15] (by decide +kernel) (by decide +kernel)
set_option maxRecDepth 20000 in
theorem gX3_dropLatest_X3_everyone : GoodIn wsX3_dropLatest (wsV RX3 45 RX3 yX3_everyone wsX3_everyone) := goodIn_app (goodIn_of _ (by decide +kernel)) ggX3_dropLatest_X3_everyone
theorem dX3_dropLatest_0 : decode cX3_dropLatest 0 = .ok (.aload_n 0, 1) := by decide +kernel
theorem dX3_dropLatest_1 : decode cX3_dropLatest 1 = .ok (.getfield 9, 3) := by decide +kernel
theorem dX3_dropLatest_4 : decode cX3_dropLatest 4 = .ok (.iconst 1, 1) := by decide +kernel
theorem dX3_dropLatest_5 : decode cX3_dropLatest 5 = .ok (.if_icmp .gt 4, 3) := by decide +kernel
theorem dX3_dropLatest_8 : decode cX3_dropLatest 8 = .ok (.return_, 1) := by decide +kernel
theorem dX3_dropLatest_9 : decode cX3_dropLatest 9 = .ok (.aload_n 0, 1) := by decide +kernel
theorem dX3_dropLatest_10 : decode cX3_dropLatest 10 = .ok (.dup, 1) := by decide +kernel
theorem dX3_dropLatest_11 : decode cX3_dropLatest 11 = .ok (.getfield 9, 3) := by decide +kernel
theorem dX3_dropLatest_14 : decode cX3_dropLatest 14 = .ok (.iconst 1, 1) := by decide +kernel
theorem dX3_dropLatest_15 : decode cX3_dropLatest 15 = .ok (.isub, 1) := by decide +kernel
theorem dX3_dropLatest_16 : decode cX3_dropLatest 16 = .ok (.putfield 9, 3) := by decide +kernel
theorem dX3_dropLatest_19 : decode cX3_dropLatest 19 = .ok (.aload_n 0, 1) := by decide +kernel
theorem dX3_dropLatest_20 : decode cX3_dropLatest 20 = .ok (.getfield 15, 3) := by decide +kernel
theorem dX3_dropLatest_23 : decode cX3_dropLatest 23 = .ok (.aload_n 0, 1) := by decide +kernel
theorem dX3_dropLatest_24 : decode cX3_dropLatest 24 = .ok (.getfield 9, 3) := by decide +kernel
theorem dX3_dropLatest_27 : decode cX3_dropLatest 27 = .ok (.iconst 0, 1) := by decide +kernel
theorem dX3_dropLatest_28 : decode cX3_dropLatest 28 = .ok (.iastore, 1) := by decide +kernel
theorem dX3_dropLatest_29 : decode cX3_dropLatest 29 = .ok (.aload_n 0, 1) := by decide +kernel
theorem dX3_dropLatest_30 : decode cX3_dropLatest 30 = .ok (.getfield 19, 3) := by decide +kernel
theorem dX3_dropLatest_33 : decode cX3_dropLatest 33 = .ok (.aload_n 0, 1) := by decide +kernel
theorem dX3_dropLatest_34 : decode cX3_dropLatest 34 = .ok (.getfield 9, 3) := by decide +kernel
theorem dX3_dropLatest_37 : decode cX3_dropLatest 37 = .ok (.iconst 0, 1) := by decide +kernel
theorem dX3_dropLatest_38 : decode cX3_dropLatest 38 = .ok (.iastore, 1) := by decide +kernel
theorem dX3_dropLatest_39 : decode cX3_dropLatest 39 = .ok (.aload_n 0, 1) := by decide +kernel
theorem dX3_dropLatest_40 : decode cX3_dropLatest 40 = .ok (.getfield 22, 3) := by decide +kernel
theorem dX3_dropLatest_43 : decode cX3_dropLatest 43 = .ok (.aload_n 0, 1) := by decide +kernel
theorem dX3_dropLatest_44 : decode cX3_dropLatest 44 = .ok (.getfield 9, 3) := by decide +kernel
theorem dX3_dropLatest_47 : decode cX3_dropLatest 47 = .ok (.iconst 0, 1) := by decide +kernel
theorem dX3_dropLatest_48 : decode cX3_dropLatest 48 = .ok (.iastore, 1) := by decide +kernel
theorem dX3_dropLatest_49 : decode cX3_dropLatest 49 = .ok (.aload_n 0, 1) := by decide +kernel
theorem dX3_dropLatest_50 : decode cX3_dropLatest 50 = .ok (.invokevirtual 45, 3) := by decide +kernel
theorem dX3_dropLatest_53 : decode cX3_dropLatest 53 = .ok (.istore_n 1, 1) := by decide +kernel
theorem dX3_dropLatest_54 : decode cX3_dropLatest 54 = .ok (.iconst 0, 1) := by decide +kernel
theorem dX3_dropLatest_55 : decode cX3_dropLatest 55 = .ok (.istore_n 2, 1) := by decide +kernel
theorem dX3_dropLatest_56 : decode cX3_dropLatest 56 = .ok (.iload_n 2, 1) := by decide +kernel
theorem dX3_dropLatest_57 : decode cX3_dropLatest 57 = .ok (.aload_n 0, 1) := by decide +kernel
theorem dX3_dropLatest_58 : decode cX3_dropLatest 58 = .ok (.getfield 9, 3) := by decide +kernel
theorem dX3_dropLatest_61 : decode cX3_dropLatest 61 = .ok (.if_icmp .ge 29, 3) := by decide +kernel
theorem dX3_dropLatest_64 : decode cX3_dropLatest 64 = .ok (.aload_n 0, 1) := by decide +kernel
theorem dX3_dropLatest_65 : decode cX3_dropLatest 65 = .ok (.getfield 15, 3) := by decide +kernel
theorem dX3_dropLatest_68 : decode cX3_dropLatest 68 = .ok (.iload_n 2, 1) := by decide +kernel
theorem dX3_dropLatest_69 : decode cX3_dropLatest 69 = .ok (.dup2, 1) := by decide +kernel
theorem dX3_dropLatest_70 : decode cX3_dropLatest 70 = .ok (.iaload, 1) := by decide +kernel
theorem dX3_dropLatest_71 : decode cX3_dropLatest 71 = .ok (.iload_n 1, 1) := by decide +kernel
theorem dX3_dropLatest_72 : decode cX3_dropLatest 72 = .ok (.iand, 1) := by decide +kernel
theorem dX3_dropLatest_73 : decode cX3_dropLatest 73 = .ok (.iastore, 1) := by decide +kernel
theorem dX3_dropLatest_74 : decode cX3_dropLatest 74 = .ok (.aload_n 0, 1) := by decide +kernel
theorem dX3_dropLatest_75 : decode cX3_dropLatest 75 = .ok (.getfield 19, 3) := by decide +kernel
theorem dX3_dropLatest_78 : decode cX3_dropLatest 78 = .ok (.iload_n 2, 1) := by decide +kernel
theorem dX3_dropLatest_79 : decode cX3_dropLatest 79 = .ok (.dup2, 1) := by decide +kernel
theorem dX3_dropLatest_80 : decode cX3_dropLatest 80 = .ok (.iaload, 1) := by decide +kernel
theorem dX3_dropLatest_81 : decode cX3_dropLatest 81 = .ok (.iload_n 1, 1) := by decide +kernel
theorem dX3_dropLatest_82 : decode cX3_dropLatest 82 = .ok (.iand, 1) := by decide +kernel
theorem dX3_dropLatest_83 : decode cX3_dropLatest 83 = .ok (.iastore, 1) := by decide +kernel
theorem dX3_dropLatest_84 : decode cX3_dropLatest 84 = .ok (.iinc 2 1, 3) := by decide +kernel
theorem dX3_dropLatest_87 : decode cX3_dropLatest 87 = .ok (.goto (-31), 3) := by decide +kernel
theorem dX3_dropLatest_90 : decode cX3_dropLatest 90 = .ok (.return_, 1) := by decide +kernel
theorem dX3_turnLink_0 : decode cX3_turnLink 0 = .ok (.aload_n 0, 1) := by decide +kernel
theorem dX3_turnLink_1 : decode cX3_turnLink 1 = .ok (.getfield 15, 3) := by decide +kernel
theorem dX3_turnLink_4 : decode cX3_turnLink 4 = .ok (.iload_n 1, 1) := by decide +kernel
theorem dX3_turnLink_5 : decode cX3_turnLink 5 = .ok (.dup2, 1) := by decide +kernel
theorem dX3_turnLink_6 : decode cX3_turnLink 6 = .ok (.iaload, 1) := by decide +kernel
theorem dX3_turnLink_7 : decode cX3_turnLink 7 = .ok (.iconst 1, 1) := by decide +kernel
theorem dX3_turnLink_8 : decode cX3_turnLink 8 = .ok (.iload_n 2, 1) := by decide +kernel
theorem dX3_turnLink_9 : decode cX3_turnLink 9 = .ok (.ishl, 1) := by decide +kernel
theorem dX3_turnLink_10 : decode cX3_turnLink 10 = .ok (.ixor, 1) := by decide +kernel
theorem dX3_turnLink_11 : decode cX3_turnLink 11 = .ok (.iastore, 1) := by decide +kernel
theorem dX3_turnLink_12 : decode cX3_turnLink 12 = .ok (.aload_n 0, 1) := by decide +kernel
theorem dX3_turnLink_13 : decode cX3_turnLink 13 = .ok (.getfield 15, 3) := by decide +kernel
theorem dX3_turnLink_16 : decode cX3_turnLink 16 = .ok (.iload_n 2, 1) := by decide +kernel
theorem dX3_turnLink_17 : decode cX3_turnLink 17 = .ok (.dup2, 1) := by decide +kernel
theorem dX3_turnLink_18 : decode cX3_turnLink 18 = .ok (.iaload, 1) := by decide +kernel
theorem dX3_turnLink_19 : decode cX3_turnLink 19 = .ok (.iconst 1, 1) := by decide +kernel
theorem dX3_turnLink_20 : decode cX3_turnLink 20 = .ok (.iload_n 1, 1) := by decide +kernel
theorem dX3_turnLink_21 : decode cX3_turnLink 21 = .ok (.ishl, 1) := by decide +kernel
theorem dX3_turnLink_22 : decode cX3_turnLink 22 = .ok (.ixor, 1) := by decide +kernel
theorem dX3_turnLink_23 : decode cX3_turnLink 23 = .ok (.iastore, 1) := by decide +kernel
theorem dX3_turnLink_24 : decode cX3_turnLink 24 = .ok (.aload_n 0, 1) := by decide +kernel
theorem dX3_turnLink_25 : decode cX3_turnLink 25 = .ok (.getfield 19, 3) := by decide +kernel
theorem dX3_turnLink_28 : decode cX3_turnLink 28 = .ok (.iload_n 1, 1) := by decide +kernel
theorem dX3_turnLink_29 : decode cX3_turnLink 29 = .ok (.dup2, 1) := by decide +kernel
theorem dX3_turnLink_30 : decode cX3_turnLink 30 = .ok (.iaload, 1) := by decide +kernel
theorem dX3_turnLink_31 : decode cX3_turnLink 31 = .ok (.aload_n 0, 1) := by decide +kernel
theorem dX3_turnLink_32 : decode cX3_turnLink 32 = .ok (.getfield 15, 3) := by decide +kernel
theorem dX3_turnLink_35 : decode cX3_turnLink 35 = .ok (.iload_n 1, 1) := by decide +kernel
theorem dX3_turnLink_36 : decode cX3_turnLink 36 = .ok (.iaload, 1) := by decide +kernel
theorem dX3_turnLink_37 : decode cX3_turnLink 37 = .ok (.iand, 1) := by decide +kernel
theorem dX3_turnLink_38 : decode cX3_turnLink 38 = .ok (.iastore, 1) := by decide +kernel
theorem dX3_turnLink_39 : decode cX3_turnLink 39 = .ok (.aload_n 0, 1) := by decide +kernel
theorem dX3_turnLink_40 : decode cX3_turnLink 40 = .ok (.getfield 19, 3) := by decide +kernel
theorem dX3_turnLink_43 : decode cX3_turnLink 43 = .ok (.iload_n 2, 1) := by decide +kernel
theorem dX3_turnLink_44 : decode cX3_turnLink 44 = .ok (.dup2, 1) := by decide +kernel
theorem dX3_turnLink_45 : decode cX3_turnLink 45 = .ok (.iaload, 1) := by decide +kernel
theorem dX3_turnLink_46 : decode cX3_turnLink 46 = .ok (.aload_n 0, 1) := by decide +kernel
theorem dX3_turnLink_47 : decode cX3_turnLink 47 = .ok (.getfield 15, 3) := by decide +kernel
theorem dX3_turnLink_50 : decode cX3_turnLink 50 = .ok (.iload_n 2, 1) := by decide +kernel
theorem dX3_turnLink_51 : decode cX3_turnLink 51 = .ok (.iaload, 1) := by decide +kernel
theorem dX3_turnLink_52 : decode cX3_turnLink 52 = .ok (.iand, 1) := by decide +kernel
theorem dX3_turnLink_53 : decode cX3_turnLink 53 = .ok (.iastore, 1) := by decide +kernel
theorem dX3_turnLink_54 : decode cX3_turnLink 54 = .ok (.return_, 1) := by decide +kernel
theorem dX3_turnLost_0 : decode cX3_turnLost 0 = .ok (.aload_n 0, 1) := by decide +kernel
theorem dX3_turnLost_1 : decode cX3_turnLost 1 = .ok (.getfield 19, 3) := by decide +kernel
theorem dX3_turnLost_4 : decode cX3_turnLost 4 = .ok (.iload_n 1, 1) := by decide +kernel
theorem dX3_turnLost_5 : decode cX3_turnLost 5 = .ok (.dup2, 1) := by decide +kernel
theorem dX3_turnLost_6 : decode cX3_turnLost 6 = .ok (.iaload, 1) := by decide +kernel
theorem dX3_turnLost_7 : decode cX3_turnLost 7 = .ok (.iconst 1, 1) := by decide +kernel
theorem dX3_turnLost_8 : decode cX3_turnLost 8 = .ok (.iload_n 2, 1) := by decide +kernel
theorem dX3_turnLost_9 : decode cX3_turnLost 9 = .ok (.ishl, 1) := by decide +kernel
theorem dX3_turnLost_10 : decode cX3_turnLost 10 = .ok (.ixor, 1) := by decide +kernel
theorem dX3_turnLost_11 : decode cX3_turnLost 11 = .ok (.iastore, 1) := by decide +kernel
theorem dX3_turnLost_12 : decode cX3_turnLost 12 = .ok (.aload_n 0, 1) := by decide +kernel
theorem dX3_turnLost_13 : decode cX3_turnLost 13 = .ok (.getfield 19, 3) := by decide +kernel
theorem dX3_turnLost_16 : decode cX3_turnLost 16 = .ok (.iload_n 2, 1) := by decide +kernel
theorem dX3_turnLost_17 : decode cX3_turnLost 17 = .ok (.dup2, 1) := by decide +kernel
theorem dX3_turnLost_18 : decode cX3_turnLost 18 = .ok (.iaload, 1) := by decide +kernel
theorem dX3_turnLost_19 : decode cX3_turnLost 19 = .ok (.iconst 1, 1) := by decide +kernel
theorem dX3_turnLost_20 : decode cX3_turnLost 20 = .ok (.iload_n 1, 1) := by decide +kernel
theorem dX3_turnLost_21 : decode cX3_turnLost 21 = .ok (.ishl, 1) := by decide +kernel
theorem dX3_turnLost_22 : decode cX3_turnLost 22 = .ok (.ixor, 1) := by decide +kernel
theorem dX3_turnLost_23 : decode cX3_turnLost 23 = .ok (.iastore, 1) := by decide +kernel
theorem dX3_turnLost_24 : decode cX3_turnLost 24 = .ok (.return_, 1) := by decide +kernel
theorem dX3_turnItem_0 : decode cX3_turnItem 0 = .ok (.aload_n 0, 1) := by decide +kernel
theorem dX3_turnItem_1 : decode cX3_turnItem 1 = .ok (.getfield 22, 3) := by decide +kernel
theorem dX3_turnItem_4 : decode cX3_turnItem 4 = .ok (.iload_n 1, 1) := by decide +kernel
theorem dX3_turnItem_5 : decode cX3_turnItem 5 = .ok (.dup2, 1) := by decide +kernel
theorem dX3_turnItem_6 : decode cX3_turnItem 6 = .ok (.iaload, 1) := by decide +kernel
theorem dX3_turnItem_7 : decode cX3_turnItem 7 = .ok (.iconst 1, 1) := by decide +kernel
theorem dX3_turnItem_8 : decode cX3_turnItem 8 = .ok (.iload_n 2, 1) := by decide +kernel
theorem dX3_turnItem_9 : decode cX3_turnItem 9 = .ok (.ishl, 1) := by decide +kernel
theorem dX3_turnItem_10 : decode cX3_turnItem 10 = .ok (.ixor, 1) := by decide +kernel
theorem dX3_turnItem_11 : decode cX3_turnItem 11 = .ok (.iastore, 1) := by decide +kernel
theorem dX3_turnItem_12 : decode cX3_turnItem 12 = .ok (.return_, 1) := by decide +kernel
set_option maxRecDepth 20000 in
theorem ggX4_init_X3_init : GoodIn wsX4_init wsX3_init := goodIn_r _ [10, 11, 2, 3, 12, 13, 14, 15, 16, 20, 21, 22, 23, 24, 25] (by decide +kernel) (by decide +kernel)
set_option maxRecDepth 20000 in
theorem gX4_init_X3_init : GoodIn wsX4_init (wsX3_init) := ggX4_init_X3_init
theorem dX4_init_0 : decode cX4_init 0 = .ok (.aload_n 0, 1) := by decide +kernel
theorem dX4_init_1 : decode cX4_init 1 = .ok (.invokespecial 3, 3) := by decide +kernel
theorem dX4_init_4 : decode cX4_init 4 = .ok (.aload_n 0, 1) := by decide +kernel
theorem dX4_init_5 : decode cX4_init 5 = .ok (.bipush 16, 2) := by decide +kernel
theorem dX4_init_7 : decode cX4_init 7 = .ok (.anewarray 9, 3) := by decide +kernel
theorem dX4_init_10 : decode cX4_init 10 = .ok (.putfield 11, 3) := by decide +kernel
theorem dX4_init_13 : decode cX4_init 13 = .ok (.iconst 0, 1) := by decide +kernel
theorem dX4_init_14 : decode cX4_init 14 = .ok (.istore_n 1, 1) := by decide +kernel
theorem dX4_init_15 : decode cX4_init 15 = .ok (.iload_n 1, 1) := by decide +kernel
theorem dX4_init_16 : decode cX4_init 16 = .ok (.bipush 16, 2) := by decide +kernel
theorem dX4_init_18 : decode cX4_init 18 = .ok (.if_icmp .ge 22, 3) := by decide +kernel
theorem dX4_init_21 : decode cX4_init 21 = .ok (.aload_n 0, 1) := by decide +kernel
theorem dX4_init_22 : decode cX4_init 22 = .ok (.getfield 11, 3) := by decide +kernel
theorem dX4_init_25 : decode cX4_init 25 = .ok (.iload_n 1, 1) := by decide +kernel
theorem dX4_init_26 : decode cX4_init 26 = .ok (.new 9, 3) := by decide +kernel
theorem dX4_init_29 : decode cX4_init 29 = .ok (.dup, 1) := by decide +kernel
theorem dX4_init_30 : decode cX4_init 30 = .ok (.invokespecial 17, 3) := by decide +kernel
theorem dX4_init_33 : decode cX4_init 33 = .ok (.aastore, 1) := by decide +kernel
theorem dX4_init_34 : decode cX4_init 34 = .ok (.iinc 1 1, 3) := by decide +kernel
theorem dX4_init_37 : decode cX4_init 37 = .ok (.goto (-22), 3) := by decide +kernel
theorem dX4_init_40 : decode cX4_init 40 = .ok (.return_, 1) := by decide +kernel
set_option maxRecDepth 20000 in
theorem ggX4_remember_X3_become : GoodIn wsX4_remember wsX3_become := goodIn_r _ [12, 13, 14, 15, 16, 17, 18, 19, 20, 21, 22, 26, 27, 28, 29, 30, 31] (by decide +kernel) (by decide +kernel)
set_option maxRecDepth 20000 in
theorem gX4_remember_X3_become : GoodIn wsX4_remember (wsV RX4 22 RX3 yX3_become wsX3_become) := goodIn_app (goodIn_of _ (by decide +kernel)) ggX4_remember_X3_become
theorem dX4_remember_0 : decode cX4_remember 0 = .ok (.aload_n 0, 1) := by decide +kernel
theorem dX4_remember_1 : decode cX4_remember 1 = .ok (.getfield 11, 3) := by decide +kernel
theorem dX4_remember_4 : decode cX4_remember 4 = .ok (.aload_n 0, 1) := by decide +kernel
theorem dX4_remember_5 : decode cX4_remember 5 = .ok (.getfield 18, 3) := by decide +kernel
theorem dX4_remember_8 : decode cX4_remember 8 = .ok (.aaload, 1) := by decide +kernel
theorem dX4_remember_9 : decode cX4_remember 9 = .ok (.aload_n 1, 1) := by decide +kernel
theorem dX4_remember_10 : decode cX4_remember 10 = .ok (.invokevirtual 22, 3) := by decide +kernel
theorem dX4_remember_13 : decode cX4_remember 13 = .ok (.aload_n 0, 1) := by decide +kernel
theorem dX4_remember_14 : decode cX4_remember 14 = .ok (.aload_n 0, 1) := by decide +kernel
theorem dX4_remember_15 : decode cX4_remember 15 = .ok (.getfield 18, 3) := by decide +kernel
theorem dX4_remember_18 : decode cX4_remember 18 = .ok (.iconst 1, 1) := by decide +kernel
theorem dX4_remember_19 : decode cX4_remember 19 = .ok (.iadd, 1) := by decide +kernel
theorem dX4_remember_20 : decode cX4_remember 20 = .ok (.bipush 16, 2) := by decide +kernel
theorem dX4_remember_22 : decode cX4_remember 22 = .ok (.irem, 1) := by decide +kernel
theorem dX4_remember_23 : decode cX4_remember 23 = .ok (.putfield 18, 3) := by decide +kernel
theorem dX4_remember_26 : decode cX4_remember 26 = .ok (.aload_n 0, 1) := by decide +kernel
theorem dX4_remember_27 : decode cX4_remember 27 = .ok (.aload_n 0, 1) := by decide +kernel
theorem dX4_remember_28 : decode cX4_remember 28 = .ok (.getfield 26, 3) := by decide +kernel
theorem dX4_remember_31 : decode cX4_remember 31 = .ok (.iconst 1, 1) := by decide +kernel
theorem dX4_remember_32 : decode cX4_remember 32 = .ok (.iadd, 1) := by decide +kernel
theorem dX4_remember_33 : decode cX4_remember 33 = .ok (.bipush 16, 2) := by decide +kernel
theorem dX4_remember_35 : decode cX4_remember 35 = .ok (.invokestatic 29, 3) := by decide +kernel
theorem dX4_remember_38 : decode cX4_remember 38 = .ok (.putfield 26, 3) := by decide +kernel
theorem dX4_remember_41 : decode cX4_remember 41 = .ok (.return_, 1) := by decide +kernel
set_option maxRecDepth 20000 in
theorem ggX4_restore_X3_become : GoodIn wsX4_restore wsX3_become := goodIn_r _ [8, 9, 10, 11, 12, 13, 14, 15, 16, 17, 18, 22, 23, 24, 25, 26, 27] (by decide +kernel) (by decide +kernel)
set_option maxRecDepth 20000 in
theorem gX4_restore_X3_become : GoodIn wsX4_restore (wsV RX4 22 RX3 yX3_become wsX3_become) := goodIn_app (goodIn_of _ (by decide +kernel)) ggX4_restore_X3_become
theorem dX4_restore_0 : decode cX4_restore 0 = .ok (.iload_n 2, 1) := by decide +kernel
theorem dX4_restore_1 : decode cX4_restore 1 = .ok (.iconst 1, 1) := by decide +kernel
theorem dX4_restore_2 : decode cX4_restore 2 = .ok (.if_icmp .lt 11, 3) := by decide +kernel
theorem dX4_restore_5 : decode cX4_restore 5 = .ok (.iload_n 2, 1) := by decide +kernel
theorem dX4_restore_6 : decode cX4_restore 6 = .ok (.aload_n 0, 1) := by decide +kernel
theorem dX4_restore_7 : decode cX4_restore 7 = .ok (.getfield 26, 3) := by decide +kernel
theorem dX4_restore_10 : decode cX4_restore 10 = .ok (.if_icmp .le 4, 3) := by decide +kernel
theorem dX4_restore_13 : decode cX4_restore 13 = .ok (.return_, 1) := by decide +kernel
theorem dX4_restore_14 : decode cX4_restore 14 = .ok (.aload_n 0, 1) := by decide +kernel
theorem dX4_restore_15 : decode cX4_restore 15 = .ok (.aload_n 0, 1) := by decide +kernel
theorem dX4_restore_16 : decode cX4_restore 16 = .ok (.getfield 18, 3) := by decide +kernel
theorem dX4_restore_19 : decode cX4_restore 19 = .ok (.bipush 16, 2) := by decide +kernel
theorem dX4_restore_21 : decode cX4_restore 21 = .ok (.iadd, 1) := by decide +kernel
theorem dX4_restore_22 : decode cX4_restore 22 = .ok (.iload_n 2, 1) := by decide +kernel
theorem dX4_restore_23 : decode cX4_restore 23 = .ok (.isub, 1) := by decide +kernel
theorem dX4_restore_24 : decode cX4_restore 24 = .ok (.bipush 16, 2) := by decide +kernel
theorem dX4_restore_26 : decode cX4_restore 26 = .ok (.irem, 1) := by decide +kernel
theorem dX4_restore_27 : decode cX4_restore 27 = .ok (.putfield 18, 3) := by decide +kernel
theorem dX4_restore_30 : decode cX4_restore 30 = .ok (.aload_n 0, 1) := by decide +kernel
theorem dX4_restore_31 : decode cX4_restore 31 = .ok (.dup, 1) := by decide +kernel
theorem dX4_restore_32 : decode cX4_restore 32 = .ok (.getfield 26, 3) := by decide +kernel
theorem dX4_restore_35 : decode cX4_restore 35 = .ok (.iload_n 2, 1) := by decide +kernel
theorem dX4_restore_36 : decode cX4_restore 36 = .ok (.isub, 1) := by decide +kernel
theorem dX4_restore_37 : decode cX4_restore 37 = .ok (.putfield 26, 3) := by decide +kernel
theorem dX4_restore_40 : decode cX4_restore 40 = .ok (.aload_n 1, 1) := by decide +kernel
theorem dX4_restore_41 : decode cX4_restore 41 = .ok (.aload_n 0, 1) := by decide +kernel
theorem dX4_restore_42 : decode cX4_restore 42 = .ok (.getfield 11, 3) := by decide +kernel
theorem dX4_restore_45 : decode cX4_restore 45 = .ok (.aload_n 0, 1) := by decide +kernel
theorem dX4_restore_46 : decode cX4_restore 46 = .ok (.getfield 18, 3) := by decide +kernel
theorem dX4_restore_49 : decode cX4_restore 49 = .ok (.aaload, 1) := by decide +kernel
theorem dX4_restore_50 : decode cX4_restore 50 = .ok (.invokevirtual 22, 3) := by decide +kernel
theorem dX4_restore_53 : decode cX4_restore 53 = .ok (.return_, 1) := by decide +kernel
theorem dX4_forget_0 : decode cX4_forget 0 = .ok (.aload_n 0, 1) := by decide +kernel
theorem dX4_forget_1 : decode cX4_forget 1 = .ok (.iconst 0, 1) := by decide +kernel
theorem dX4_forget_2 : decode cX4_forget 2 = .ok (.putfield 26, 3) := by decide +kernel
theorem dX4_forget_5 : decode cX4_forget 5 = .ok (.return_, 1) := by decide +kernel
set_option maxRecDepth 20000 in
theorem ggX5_ofItems_J6_bitCount_0f7a4 : GoodIn wsX5_ofItems wsJ6_bitCount_0f7a4 := goodIn_r _ [5, 6, 7, 8] (by decide +kernel) (by decide +kernel)
set_option maxRecDepth 20000 in
theorem gX5_ofItems_J6_bitCount_0f7a4 : GoodIn wsX5_ofItems (va_wsS RX5 11 yJ6_bitCount_0f7a4 wsJ6_bitCount_0f7a4) := goodIn_app (goodIn_of _ (by decide +kernel)) ggX5_ofItems_J6_bitCount_0f7a4
set_option maxRecDepth 20000 in
theorem ggX5_ofItems_X7_isIn : GoodIn wsX5_ofItems wsX7_isIn := goodIn_r _ [11] (by decide +kernel) (by decide +kernel)
set_option maxRecDepth 20000 in
theorem gX5_ofItems_X7_isIn_n19 : GoodIn wsX5_ofItems (wsX7_isIn) := ggX5_ofItems_X7_isIn
set_option maxRecDepth 20000 in
theorem ggX5_ofItems_X7_markOf : GoodIn wsX5_ofItems wsX7_markOf := goodIn_r _ [13, 14, 15, 16, 17] (by decide +kernel) (by decide +kernel)
set_option maxRecDepth 20000 in
theorem gX5_ofItems_X7_markOf_n23 : GoodIn wsX5_ofItems (wsX7_markOf) := ggX5_ofItems_X7_markOf
set_option maxRecDepth 20000 in
theorem ggX5_ofItems_X5_withMark : GoodIn wsX5_ofItems wsX5_withMark := goodIn_r _ [21, 22, 23, 24, 25, 20, 26, 27, 28, 29, 30, 31, 32] (by decide +kernel) (by decide +kernel)
set_option maxRecDepth 20000 in
theorem gX5_ofItems_X5_withMark : GoodIn wsX5_ofItems (va_wsS RX5 27 yX5_withMark wsX5_withMark) := goodIn_app (goodIn_of _ (by decide +kernel)) ggX5_ofItems_X5_withMark
set_option maxRecDepth 20000 in
theorem ggX5_ofItems_X7_rankOf : GoodIn wsX5_ofItems wsX7_rankOf := goodIn_r _ [34] (by decide +kernel) (by decide +kernel)
set_option maxRecDepth 20000 in
theorem gX5_ofItems_X7_rankOf_n31 : GoodIn wsX5_ofItems (wsX7_rankOf) := ggX5_ofItems_X7_rankOf
theorem dX5_ofItems_0 : decode cX5_ofItems 0 = .ok (.iload_n 1, 1) := by decide +kernel
theorem dX5_ofItems_1 : decode cX5_ofItems 1 = .ok (.ifCond .ne 9, 3) := by decide +kernel
theorem dX5_ofItems_4 : decode cX5_ofItems 4 = .ok (.iload_n 0, 1) := by decide +kernel
theorem dX5_ofItems_5 : decode cX5_ofItems 5 = .ok (.invokestatic 11, 3) := by decide +kernel
theorem dX5_ofItems_8 : decode cX5_ofItems 8 = .ok (.i2l, 1) := by decide +kernel
theorem dX5_ofItems_9 : decode cX5_ofItems 9 = .ok (.lreturn, 1) := by decide +kernel
theorem dX5_ofItems_10 : decode cX5_ofItems 10 = .ok (.iload_n 1, 1) := by decide +kernel
theorem dX5_ofItems_11 : decode cX5_ofItems 11 = .ok (.iconst 3, 1) := by decide +kernel
theorem dX5_ofItems_12 : decode cX5_ofItems 12 = .ok (.if_icmp .ne 6, 3) := by decide +kernel
theorem dX5_ofItems_15 : decode cX5_ofItems 15 = .ok (.iload_n 0, 1) := by decide +kernel
theorem dX5_ofItems_16 : decode cX5_ofItems 16 = .ok (.i2l, 1) := by decide +kernel
theorem dX5_ofItems_17 : decode cX5_ofItems 17 = .ok (.lreturn, 1) := by decide +kernel
theorem dX5_ofItems_18 : decode cX5_ofItems 18 = .ok (.iload_n 1, 1) := by decide +kernel
theorem dX5_ofItems_19 : decode cX5_ofItems 19 = .ok (.iconst 2, 1) := by decide +kernel
theorem dX5_ofItems_20 : decode cX5_ofItems 20 = .ok (.if_icmp .ne 9, 3) := by decide +kernel
theorem dX5_ofItems_23 : decode cX5_ofItems 23 = .ok (.ldc2_w 17, 3) := by decide +kernel
theorem dX5_ofItems_26 : decode cX5_ofItems 26 = .ok (.goto 4, 3) := by decide +kernel
theorem dX5_ofItems_29 : decode cX5_ofItems 29 = .ok (.lconst 0, 1) := by decide +kernel
theorem dX5_ofItems_30 : decode cX5_ofItems 30 = .ok (.lstore_n 3, 1) := by decide +kernel
theorem dX5_ofItems_31 : decode cX5_ofItems 31 = .ok (.iconst 0, 1) := by decide +kernel
theorem dX5_ofItems_32 : decode cX5_ofItems 32 = .ok (.istore 5, 2) := by decide +kernel
theorem dX5_ofItems_34 : decode cX5_ofItems 34 = .ok (.iload 5, 2) := by decide +kernel
theorem dX5_ofItems_36 : decode cX5_ofItems 36 = .ok (.bipush 16, 2) := by decide +kernel
theorem dX5_ofItems_38 : decode cX5_ofItems 38 = .ok (.if_icmp .ge 51, 3) := by decide +kernel
theorem dX5_ofItems_41 : decode cX5_ofItems 41 = .ok (.iload_n 0, 1) := by decide +kernel
theorem dX5_ofItems_42 : decode cX5_ofItems 42 = .ok (.iload 5, 2) := by decide +kernel
theorem dX5_ofItems_44 : decode cX5_ofItems 44 = .ok (.invokestatic 19, 3) := by decide +kernel
theorem dX5_ofItems_47 : decode cX5_ofItems 47 = .ok (.ifCond .eq 36, 3) := by decide +kernel
theorem dX5_ofItems_50 : decode cX5_ofItems 50 = .ok (.iload 5, 2) := by decide +kernel
theorem dX5_ofItems_52 : decode cX5_ofItems 52 = .ok (.iload_n 2, 1) := by decide +kernel
theorem dX5_ofItems_53 : decode cX5_ofItems 53 = .ok (.invokestatic 23, 3) := by decide +kernel
theorem dX5_ofItems_56 : decode cX5_ofItems 56 = .ok (.istore 6, 2) := by decide +kernel
theorem dX5_ofItems_58 : decode cX5_ofItems 58 = .ok (.iload_n 1, 1) := by decide +kernel
theorem dX5_ofItems_59 : decode cX5_ofItems 59 = .ok (.iconst 2, 1) := by decide +kernel
theorem dX5_ofItems_60 : decode cX5_ofItems 60 = .ok (.if_icmp .ne 13, 3) := by decide +kernel
theorem dX5_ofItems_63 : decode cX5_ofItems 63 = .ok (.lload_n 3, 1) := by decide +kernel
theorem dX5_ofItems_64 : decode cX5_ofItems 64 = .ok (.iload 6, 2) := by decide +kernel
theorem dX5_ofItems_66 : decode cX5_ofItems 66 = .ok (.i2l, 1) := by decide +kernel
theorem dX5_ofItems_67 : decode cX5_ofItems 67 = .ok (.invokestatic 27, 3) := by decide +kernel
theorem dX5_ofItems_70 : decode cX5_ofItems 70 = .ok (.goto 12, 3) := by decide +kernel
theorem dX5_ofItems_73 : decode cX5_ofItems 73 = .ok (.lload_n 3, 1) := by decide +kernel
theorem dX5_ofItems_74 : decode cX5_ofItems 74 = .ok (.lconst 1, 1) := by decide +kernel
theorem dX5_ofItems_75 : decode cX5_ofItems 75 = .ok (.iload 6, 2) := by decide +kernel
theorem dX5_ofItems_77 : decode cX5_ofItems 77 = .ok (.invokestatic 31, 3) := by decide +kernel
theorem dX5_ofItems_80 : decode cX5_ofItems 80 = .ok (.lshl, 1) := by decide +kernel
theorem dX5_ofItems_81 : decode cX5_ofItems 81 = .ok (.lor, 1) := by decide +kernel
theorem dX5_ofItems_82 : decode cX5_ofItems 82 = .ok (.lstore_n 3, 1) := by decide +kernel
theorem dX5_ofItems_83 : decode cX5_ofItems 83 = .ok (.iinc 5 1, 3) := by decide +kernel
theorem dX5_ofItems_86 : decode cX5_ofItems 86 = .ok (.goto (-52), 3) := by decide +kernel
theorem dX5_ofItems_89 : decode cX5_ofItems 89 = .ok (.lload_n 3, 1) := by decide +kernel
theorem dX5_ofItems_90 : decode cX5_ofItems 90 = .ok (.lreturn, 1) := by decide +kernel
set_option maxRecDepth 20000 in
theorem ggX5_together_X5_first : GoodIn wsX5_together wsX5_first := goodIn_r _ [4, 5] (by decide +kernel) (by decide +kernel)
set_option maxRecDepth 20000 in
theorem gX5_together_X5_first : GoodIn wsX5_together (va_wsS RX5 34 yX5_first wsX5_first) := goodIn_app (goodIn_of _ (by decide +kernel)) ggX5_together_X5_first
set_option maxRecDepth 20000 in
theorem ggX5_together_X5_withMark : GoodIn wsX5_together wsX5_withMark := goodIn_r _ [8, 5, 9, 1, 2, 3, 4, 10, 11, 12, 13, 14, 15] (by decide +kernel) (by decide +kernel)
set_option maxRecDepth 20000 in
theorem gX5_together_X5_withMark : GoodIn wsX5_together (va_wsS RX5 27 yX5_withMark wsX5_withMark) := goodIn_app (goodIn_of _ (by decide +kernel)) ggX5_together_X5_withMark
set_option maxRecDepth 20000 in
theorem ggX5_together_X5_second : GoodIn wsX5_together wsX5_second := goodIn_r _ [12, 5] (by decide +kernel) (by decide +kernel)
set_option maxRecDepth 20000 in
theorem gX5_together_X5_second : GoodIn wsX5_together (va_wsS RX5 38 yX5_second wsX5_second) := goodIn_app (goodIn_of _ (by decide +kernel)) ggX5_together_X5_second
set_option maxRecDepth 20000 in
theorem ggX5_together_X5_third : GoodIn wsX5_together wsX5_third := goodIn_r _ [15, 9] (by decide +kernel) (by decide +kernel)
set_option maxRecDepth 20000 in
theorem gX5_together_X5_third : GoodIn wsX5_together (va_wsS RX5 41 yX5_third wsX5_third) := goodIn_app (goodIn_of _ (by decide +kernel)) ggX5_together_X5_third
theorem dX5_together_0 : decode cX5_together 0 = .ok (.iload 4, 2) := by decide +kernel
theorem dX5_together_2 : decode cX5_together 2 = .ok (.ifCond .ne 7, 3) := by decide +kernel
theorem dX5_together_5 : decode cX5_together 5 = .ok (.lload_n 0, 1) := by decide +kernel
theorem dX5_together_6 : decode cX5_together 6 = .ok (.lload_n 2, 1) := by decide +kernel
theorem dX5_together_7 : decode cX5_together 7 = .ok (.ladd, 1) := by decide +kernel
theorem dX5_together_8 : decode cX5_together 8 = .ok (.lreturn, 1) := by decide +kernel
theorem dX5_together_9 : decode cX5_together 9 = .ok (.iload 4, 2) := by decide +kernel
theorem dX5_together_11 : decode cX5_together 11 = .ok (.iconst 2, 1) := by decide +kernel
theorem dX5_together_12 : decode cX5_together 12 = .ok (.if_icmp .eq 7, 3) := by decide +kernel
theorem dX5_together_15 : decode cX5_together 15 = .ok (.lload_n 0, 1) := by decide +kernel
theorem dX5_together_16 : decode cX5_together 16 = .ok (.lload_n 2, 1) := by decide +kernel
theorem dX5_together_17 : decode cX5_together 17 = .ok (.lor, 1) := by decide +kernel
theorem dX5_together_18 : decode cX5_together 18 = .ok (.lreturn, 1) := by decide +kernel
theorem dX5_together_19 : decode cX5_together 19 = .ok (.lload_n 0, 1) := by decide +kernel
theorem dX5_together_20 : decode cX5_together 20 = .ok (.lload_n 2, 1) := by decide +kernel
theorem dX5_together_21 : decode cX5_together 21 = .ok (.invokestatic 34, 3) := by decide +kernel
theorem dX5_together_24 : decode cX5_together 24 = .ok (.invokestatic 27, 3) := by decide +kernel
theorem dX5_together_27 : decode cX5_together 27 = .ok (.lload_n 2, 1) := by decide +kernel
theorem dX5_together_28 : decode cX5_together 28 = .ok (.invokestatic 38, 3) := by decide +kernel
theorem dX5_together_31 : decode cX5_together 31 = .ok (.invokestatic 27, 3) := by decide +kernel
theorem dX5_together_34 : decode cX5_together 34 = .ok (.lload_n 2, 1) := by decide +kernel
theorem dX5_together_35 : decode cX5_together 35 = .ok (.invokestatic 41, 3) := by decide +kernel
theorem dX5_together_38 : decode cX5_together 38 = .ok (.invokestatic 27, 3) := by decide +kernel
theorem dX5_together_41 : decode cX5_together 41 = .ok (.lreturn, 1) := by decide +kernel
set_option maxRecDepth 20000 in
theorem ggX5_withMark_X5_first : GoodIn wsX5_withMark wsX5_first := goodIn_r _ [6, 1] (by decide +kernel) (by decide +kernel)
set_option maxRecDepth 20000 in
theorem gX5_withMark_X5_first : GoodIn wsX5_withMark (va_wsS RX5 34 yX5_first wsX5_first) := goodIn_app (goodIn_of _ (by decide +kernel)) ggX5_withMark_X5_first
set_option maxRecDepth 20000 in
theorem ggX5_withMark_X5_second : GoodIn wsX5_withMark wsX5_second := goodIn_r _ [9, 1] (by decide +kernel) (by decide +kernel)
set_option maxRecDepth 20000 in
theorem gX5_withMark_X5_second : GoodIn wsX5_withMark (va_wsS RX5 38 yX5_second wsX5_second) := goodIn_app (goodIn_of _ (by decide +kernel)) ggX5_withMark_X5_second
set_option maxRecDepth 20000 in
theorem ggX5_withMark_X5_third : GoodIn wsX5_withMark wsX5_third := goodIn_r _ [12, 2] (by decide +kernel) (by decide +kernel)
set_option maxRecDepth 20000 in
theorem gX5_withMark_X5_third : GoodIn wsX5_withMark (va_wsS RX5 41 yX5_third wsX5_third) := goodIn_app (goodIn_of _ (by decide +kernel)) ggX5_withMark_X5_third
theorem dX5_withMark_0 : decode cX5_withMark 0 = .ok (.lload_n 0, 1) := by decide +kernel
theorem dX5_withMark_1 : decode cX5_withMark 1 = .ok (.invokestatic 34, 3) := by decide +kernel
theorem dX5_withMark_4 : decode cX5_withMark 4 = .ok (.lstore 4, 2) := by decide +kernel
theorem dX5_withMark_6 : decode cX5_withMark 6 = .ok (.lload_n 0, 1) := by decide +kernel
theorem dX5_withMark_7 : decode cX5_withMark 7 = .ok (.invokestatic 38, 3) := by decide +kernel
theorem dX5_withMark_10 : decode cX5_withMark 10 = .ok (.lstore 6, 2) := by decide +kernel
theorem dX5_withMark_12 : decode cX5_withMark 12 = .ok (.lload_n 0, 1) := by decide +kernel
theorem dX5_withMark_13 : decode cX5_withMark 13 = .ok (.invokestatic 41, 3) := by decide +kernel
theorem dX5_withMark_16 : decode cX5_withMark 16 = .ok (.lstore 8, 2) := by decide +kernel
theorem dX5_withMark_18 : decode cX5_withMark 18 = .ok (.lload_n 2, 1) := by decide +kernel
theorem dX5_withMark_19 : decode cX5_withMark 19 = .ok (.lload 4, 2) := by decide +kernel
theorem dX5_withMark_21 : decode cX5_withMark 21 = .ok (.lcmp, 1) := by decide +kernel
theorem dX5_withMark_22 : decode cX5_withMark 22 = .ok (.ifCond .eq 17, 3) := by decide +kernel
theorem dX5_withMark_25 : decode cX5_withMark 25 = .ok (.lload_n 2, 1) := by decide +kernel
theorem dX5_withMark_26 : decode cX5_withMark 26 = .ok (.lload 6, 2) := by decide +kernel
theorem dX5_withMark_28 : decode cX5_withMark 28 = .ok (.lcmp, 1) := by decide +kernel
theorem dX5_withMark_29 : decode cX5_withMark 29 = .ok (.ifCond .eq 10, 3) := by decide +kernel
theorem dX5_withMark_32 : decode cX5_withMark 32 = .ok (.lload_n 2, 1) := by decide +kernel
theorem dX5_withMark_33 : decode cX5_withMark 33 = .ok (.lload 8, 2) := by decide +kernel
theorem dX5_withMark_35 : decode cX5_withMark 35 = .ok (.lcmp, 1) := by decide +kernel
theorem dX5_withMark_36 : decode cX5_withMark 36 = .ok (.ifCond .lt 5, 3) := by decide +kernel
theorem dX5_withMark_39 : decode cX5_withMark 39 = .ok (.lload_n 0, 1) := by decide +kernel
theorem dX5_withMark_40 : decode cX5_withMark 40 = .ok (.lreturn, 1) := by decide +kernel
theorem dX5_withMark_41 : decode cX5_withMark 41 = .ok (.lload_n 2, 1) := by decide +kernel
theorem dX5_withMark_42 : decode cX5_withMark 42 = .ok (.lload 4, 2) := by decide +kernel
theorem dX5_withMark_44 : decode cX5_withMark 44 = .ok (.lcmp, 1) := by decide +kernel
theorem dX5_withMark_45 : decode cX5_withMark 45 = .ok (.ifCond .ge 19, 3) := by decide +kernel
theorem dX5_withMark_48 : decode cX5_withMark 48 = .ok (.lload_n 2, 1) := by decide +kernel
theorem dX5_withMark_49 : decode cX5_withMark 49 = .ok (.ldc2_w 44, 3) := by decide +kernel
theorem dX5_withMark_52 : decode cX5_withMark 52 = .ok (.lload 4, 2) := by decide +kernel
theorem dX5_withMark_54 : decode cX5_withMark 54 = .ok (.lmul, 1) := by decide +kernel
theorem dX5_withMark_55 : decode cX5_withMark 55 = .ok (.ladd, 1) := by decide +kernel
theorem dX5_withMark_56 : decode cX5_withMark 56 = .ok (.ldc2_w 46, 3) := by decide +kernel
theorem dX5_withMark_59 : decode cX5_withMark 59 = .ok (.lload 6, 2) := by decide +kernel
theorem dX5_withMark_61 : decode cX5_withMark 61 = .ok (.lmul, 1) := by decide +kernel
theorem dX5_withMark_62 : decode cX5_withMark 62 = .ok (.ladd, 1) := by decide +kernel
theorem dX5_withMark_63 : decode cX5_withMark 63 = .ok (.lreturn, 1) := by decide +kernel
theorem dX5_withMark_64 : decode cX5_withMark 64 = .ok (.lload_n 2, 1) := by decide +kernel
theorem dX5_withMark_65 : decode cX5_withMark 65 = .ok (.lload 6, 2) := by decide +kernel
theorem dX5_withMark_67 : decode cX5_withMark 67 = .ok (.lcmp, 1) := by decide +kernel
theorem dX5_withMark_68 : decode cX5_withMark 68 = .ok (.ifCond .ge 21, 3) := by decide +kernel
theorem dX5_withMark_71 : decode cX5_withMark 71 = .ok (.lload 4, 2) := by decide +kernel
theorem dX5_withMark_73 : decode cX5_withMark 73 = .ok (.ldc2_w 44, 3) := by decide +kernel
theorem dX5_withMark_76 : decode cX5_withMark 76 = .ok (.lload_n 2, 1) := by decide +kernel
theorem dX5_withMark_77 : decode cX5_withMark 77 = .ok (.lmul, 1) := by decide +kernel
theorem dX5_withMark_78 : decode cX5_withMark 78 = .ok (.ladd, 1) := by decide +kernel
theorem dX5_withMark_79 : decode cX5_withMark 79 = .ok (.ldc2_w 46, 3) := by decide +kernel
theorem dX5_withMark_82 : decode cX5_withMark 82 = .ok (.lload 6, 2) := by decide +kernel
theorem dX5_withMark_84 : decode cX5_withMark 84 = .ok (.lmul, 1) := by decide +kernel
theorem dX5_withMark_85 : decode cX5_withMark 85 = .ok (.ladd, 1) := by decide +kernel
theorem dX5_withMark_86 : decode cX5_withMark 86 = .ok (.goto 18, 3) := by decide +kernel
theorem dX5_withMark_89 : decode cX5_withMark 89 = .ok (.lload 4, 2) := by decide +kernel
theorem dX5_withMark_91 : decode cX5_withMark 91 = .ok (.ldc2_w 44, 3) := by decide +kernel
theorem dX5_withMark_94 : decode cX5_withMark 94 = .ok (.lload 6, 2) := by decide +kernel
theorem dX5_withMark_96 : decode cX5_withMark 96 = .ok (.lmul, 1) := by decide +kernel
theorem dX5_withMark_97 : decode cX5_withMark 97 = .ok (.ladd, 1) := by decide +kernel
theorem dX5_withMark_98 : decode cX5_withMark 98 = .ok (.ldc2_w 46, 3) := by decide +kernel
theorem dX5_withMark_101 : decode cX5_withMark 101 = .ok (.lload_n 2, 1) := by decide +kernel
theorem dX5_withMark_102 : decode cX5_withMark 102 = .ok (.lmul, 1) := by decide +kernel
theorem dX5_withMark_103 : decode cX5_withMark 103 = .ok (.ladd, 1) := by decide +kernel
theorem dX5_withMark_104 : decode cX5_withMark 104 = .ok (.lreturn, 1) := by decide +kernel
theorem dX5_first_0 : decode cX5_first 0 = .ok (.lload_n 0, 1) := by decide +kernel
theorem dX5_first_1 : decode cX5_first 1 = .ok (.ldc2_w 44, 3) := by decide +kernel
theorem dX5_first_4 : decode cX5_first 4 = .ok (.lrem, 1) := by decide +kernel
theorem dX5_first_5 : decode cX5_first 5 = .ok (.lreturn, 1) := by decide +kernel
theorem dX5_second_0 : decode cX5_second 0 = .ok (.lload_n 0, 1) := by decide +kernel
theorem dX5_second_1 : decode cX5_second 1 = .ok (.ldc2_w 44, 3) := by decide +kernel
theorem dX5_second_4 : decode cX5_second 4 = .ok (.ldiv, 1) := by decide +kernel
theorem dX5_second_5 : decode cX5_second 5 = .ok (.ldc2_w 44, 3) := by decide +kernel
theorem dX5_second_8 : decode cX5_second 8 = .ok (.lrem, 1) := by decide +kernel
theorem dX5_second_9 : decode cX5_second 9 = .ok (.lreturn, 1) := by decide +kernel
theorem dX5_third_0 : decode cX5_third 0 = .ok (.lload_n 0, 1) := by decide +kernel
theorem dX5_third_1 : decode cX5_third 1 = .ok (.ldc2_w 46, 3) := by decide +kernel
theorem dX5_third_4 : decode cX5_third 4 = .ok (.ldiv, 1) := by decide +kernel
theorem dX5_third_5 : decode cX5_third 5 = .ok (.lreturn, 1) := by decide +kernel
theorem dX5_guessByBits_0 : decode cX5_guessByBits 0 = .ok (.lload_n 0, 1) := by decide +kernel
theorem dX5_guessByBits_1 : decode cX5_guessByBits 1 = .ok (.lconst 0, 1) := by decide +kernel
theorem dX5_guessByBits_2 : decode cX5_guessByBits 2 = .ok (.lcmp, 1) := by decide +kernel
theorem dX5_guessByBits_3 : decode cX5_guessByBits 3 = .ok (.ifCond .ne 5, 3) := by decide +kernel
theorem dX5_guessByBits_6 : decode cX5_guessByBits 6 = .ok (.iconst 0, 1) := by decide +kernel
theorem dX5_guessByBits_7 : decode cX5_guessByBits 7 = .ok (.ireturn, 1) := by decide +kernel
theorem dX5_guessByBits_8 : decode cX5_guessByBits 8 = .ok (.iconst 0, 1) := by decide +kernel
theorem dX5_guessByBits_9 : decode cX5_guessByBits 9 = .ok (.istore_n 2, 1) := by decide +kernel
theorem dX5_guessByBits_10 : decode cX5_guessByBits 10 = .ok (.iload_n 2, 1) := by decide +kernel
theorem dX5_guessByBits_11 : decode cX5_guessByBits 11 = .ok (.bipush 7, 2) := by decide +kernel
theorem dX5_guessByBits_13 : decode cX5_guessByBits 13 = .ok (.if_icmp .gt 19, 3) := by decide +kernel
theorem dX5_guessByBits_16 : decode cX5_guessByBits 16 = .ok (.lload_n 0, 1) := by decide +kernel
theorem dX5_guessByBits_17 : decode cX5_guessByBits 17 = .ok (.iload_n 2, 1) := by decide +kernel
theorem dX5_guessByBits_18 : decode cX5_guessByBits 18 = .ok (.lshr, 1) := by decide +kernel
theorem dX5_guessByBits_19 : decode cX5_guessByBits 19 = .ok (.lconst 1, 1) := by decide +kernel
theorem dX5_guessByBits_20 : decode cX5_guessByBits 20 = .ok (.land, 1) := by decide +kernel
theorem dX5_guessByBits_21 : decode cX5_guessByBits 21 = .ok (.lconst 1, 1) := by decide +kernel
theorem dX5_guessByBits_22 : decode cX5_guessByBits 22 = .ok (.lcmp, 1) := by decide +kernel
theorem dX5_guessByBits_23 : decode cX5_guessByBits 23 = .ok (.ifCond .ne 9, 3) := by decide +kernel
theorem dX5_guessByBits_26 : decode cX5_guessByBits 26 = .ok (.iinc 2 1, 3) := by decide +kernel
theorem dX5_guessByBits_29 : decode cX5_guessByBits 29 = .ok (.goto (-19), 3) := by decide +kernel
theorem dX5_guessByBits_32 : decode cX5_guessByBits 32 = .ok (.iconst 1, 1) := by decide +kernel
theorem dX5_guessByBits_33 : decode cX5_guessByBits 33 = .ok (.iload_n 2, 1) := by decide +kernel
theorem dX5_guessByBits_34 : decode cX5_guessByBits 34 = .ok (.ishl, 1) := by decide +kernel
theorem dX5_guessByBits_35 : decode cX5_guessByBits 35 = .ok (.sipush 1000, 3) := by decide +kernel
theorem dX5_guessByBits_38 : decode cX5_guessByBits 38 = .ok (.imul, 1) := by decide +kernel
theorem dX5_guessByBits_39 : decode cX5_guessByBits 39 = .ok (.sipush 773, 3) := by decide +kernel
theorem dX5_guessByBits_42 : decode cX5_guessByBits 42 = .ok (.idiv, 1) := by decide +kernel
theorem dX5_guessByBits_43 : decode cX5_guessByBits 43 = .ok (.ireturn, 1) := by decide +kernel
set_option maxRecDepth 20000 in
theorem ggX5_guessByLeast_X5_first : GoodIn wsX5_guessByLeast wsX5_first := goodIn_r _ [6, 7] (by decide +kernel) (by decide +kernel)
set_option maxRecDepth 20000 in
theorem gX5_guessByLeast_X5_first : GoodIn wsX5_guessByLeast (va_wsS RX5 34 yX5_first wsX5_first) := goodIn_app (goodIn_of _ (by decide +kernel)) ggX5_guessByLeast_X5_first
set_option maxRecDepth 20000 in
theorem ggX5_guessByLeast_X5_second : GoodIn wsX5_guessByLeast wsX5_second := goodIn_r _ [10, 7] (by decide +kernel) (by decide +kernel)
set_option maxRecDepth 20000 in
theorem gX5_guessByLeast_X5_second : GoodIn wsX5_guessByLeast (va_wsS RX5 38 yX5_second wsX5_second) := goodIn_app (goodIn_of _ (by decide +kernel)) ggX5_guessByLeast_X5_second
set_option maxRecDepth 20000 in
theorem ggX5_guessByLeast_X5_third : GoodIn wsX5_guessByLeast wsX5_third := goodIn_r _ [13, 14] (by decide +kernel) (by decide +kernel)
set_option maxRecDepth 20000 in
theorem gX5_guessByLeast_X5_third : GoodIn wsX5_guessByLeast (va_wsS RX5 41 yX5_third wsX5_third) := goodIn_app (goodIn_of _ (by decide +kernel)) ggX5_guessByLeast_X5_third
theorem dX5_guessByLeast_0 : decode cX5_guessByLeast 0 = .ok (.lload_n 0, 1) := by decide +kernel
theorem dX5_guessByLeast_1 : decode cX5_guessByLeast 1 = .ok (.invokestatic 34, 3) := by decide +kernel
theorem dX5_guessByLeast_4 : decode cX5_guessByLeast 4 = .ok (.ldc2_w 48, 3) := by decide +kernel
theorem dX5_guessByLeast_7 : decode cX5_guessByLeast 7 = .ok (.lcmp, 1) := by decide +kernel
theorem dX5_guessByLeast_8 : decode cX5_guessByLeast 8 = .ok (.ifCond .ne 5, 3) := by decide +kernel
theorem dX5_guessByLeast_11 : decode cX5_guessByLeast 11 = .ok (.iconst 0, 1) := by decide +kernel
theorem dX5_guessByLeast_12 : decode cX5_guessByLeast 12 = .ok (.ireturn, 1) := by decide +kernel
theorem dX5_guessByLeast_13 : decode cX5_guessByLeast 13 = .ok (.lload_n 0, 1) := by decide +kernel
theorem dX5_guessByLeast_14 : decode cX5_guessByLeast 14 = .ok (.invokestatic 38, 3) := by decide +kernel
theorem dX5_guessByLeast_17 : decode cX5_guessByLeast 17 = .ok (.ldc2_w 48, 3) := by decide +kernel
theorem dX5_guessByLeast_20 : decode cX5_guessByLeast 20 = .ok (.lcmp, 1) := by decide +kernel
theorem dX5_guessByLeast_21 : decode cX5_guessByLeast 21 = .ok (.ifCond .ne 5, 3) := by decide +kernel
theorem dX5_guessByLeast_24 : decode cX5_guessByLeast 24 = .ok (.iconst 1, 1) := by decide +kernel
theorem dX5_guessByLeast_25 : decode cX5_guessByLeast 25 = .ok (.ireturn, 1) := by decide +kernel
theorem dX5_guessByLeast_26 : decode cX5_guessByLeast 26 = .ok (.lload_n 0, 1) := by decide +kernel
theorem dX5_guessByLeast_27 : decode cX5_guessByLeast 27 = .ok (.invokestatic 41, 3) := by decide +kernel
theorem dX5_guessByLeast_30 : decode cX5_guessByLeast 30 = .ok (.lstore_n 2, 1) := by decide +kernel
theorem dX5_guessByLeast_31 : decode cX5_guessByLeast 31 = .ok (.lload_n 2, 1) := by decide +kernel
theorem dX5_guessByLeast_32 : decode cX5_guessByLeast 32 = .ok (.ldc2_w 48, 3) := by decide +kernel
theorem dX5_guessByLeast_35 : decode cX5_guessByLeast 35 = .ok (.lcmp, 1) := by decide +kernel
theorem dX5_guessByLeast_36 : decode cX5_guessByLeast 36 = .ok (.ifCond .ne 5, 3) := by decide +kernel
theorem dX5_guessByLeast_39 : decode cX5_guessByLeast 39 = .ok (.iconst 2, 1) := by decide +kernel
theorem dX5_guessByLeast_40 : decode cX5_guessByLeast 40 = .ok (.ireturn, 1) := by decide +kernel
theorem dX5_guessByLeast_41 : decode cX5_guessByLeast 41 = .ok (.lload_n 2, 1) := by decide +kernel
theorem dX5_guessByLeast_42 : decode cX5_guessByLeast 42 = .ok (.lconst 0, 1) := by decide +kernel
theorem dX5_guessByLeast_43 : decode cX5_guessByLeast 43 = .ok (.lcmp, 1) := by decide +kernel
theorem dX5_guessByLeast_44 : decode cX5_guessByLeast 44 = .ok (.ifCond .ge 7, 3) := by decide +kernel
theorem dX5_guessByLeast_47 : decode cX5_guessByLeast 47 = .ok (.iconst 0, 1) := by decide +kernel
theorem dX5_guessByLeast_48 : decode cX5_guessByLeast 48 = .ok (.goto 11, 3) := by decide +kernel
theorem dX5_guessByLeast_51 : decode cX5_guessByLeast 51 = .ok (.ldc2_w 50, 3) := by decide +kernel
theorem dX5_guessByLeast_54 : decode cX5_guessByLeast 54 = .ok (.lload_n 2, 1) := by decide +kernel
theorem dX5_guessByLeast_55 : decode cX5_guessByLeast 55 = .ok (.lconst 1, 1) := by decide +kernel
theorem dX5_guessByLeast_56 : decode cX5_guessByLeast 56 = .ok (.ladd, 1) := by decide +kernel
theorem dX5_guessByLeast_57 : decode cX5_guessByLeast 57 = .ok (.ldiv, 1) := by decide +kernel
theorem dX5_guessByLeast_58 : decode cX5_guessByLeast 58 = .ok (.l2i, 1) := by decide +kernel
theorem dX5_guessByLeast_59 : decode cX5_guessByLeast 59 = .ok (.ireturn, 1) := by decide +kernel
theorem dX6_init_0 : decode cX6_init 0 = .ok (.aload_n 0, 1) := by decide +kernel
theorem dX6_init_1 : decode cX6_init 1 = .ok (.invokespecial 3, 3) := by decide +kernel
theorem dX6_init_4 : decode cX6_init 4 = .ok (.aload_n 0, 1) := by decide +kernel
theorem dX6_init_5 : decode cX6_init 5 = .ok (.bipush 9, 2) := by decide +kernel
theorem dX6_init_7 : decode cX6_init 7 = .ok (.newarray .int, 2) := by decide +kernel
theorem dX6_init_9 : decode cX6_init 9 = .ok (.putfield 9, 3) := by decide +kernel
theorem dX6_init_12 : decode cX6_init 12 = .ok (.aload_n 0, 1) := by decide +kernel
theorem dX6_init_13 : decode cX6_init 13 = .ok (.bipush 9, 2) := by decide +kernel
theorem dX6_init_15 : decode cX6_init 15 = .ok (.newarray .int, 2) := by decide +kernel
theorem dX6_init_17 : decode cX6_init 17 = .ok (.putfield 15, 3) := by decide +kernel
theorem dX6_init_20 : decode cX6_init 20 = .ok (.aload_n 0, 1) := by decide +kernel
theorem dX6_init_21 : decode cX6_init 21 = .ok (.bipush 36, 2) := by decide +kernel
theorem dX6_init_23 : decode cX6_init 23 = .ok (.newarray .int, 2) := by decide +kernel
theorem dX6_init_25 : decode cX6_init 25 = .ok (.putfield 18, 3) := by decide +kernel
theorem dX6_init_28 : decode cX6_init 28 = .ok (.aload_n 0, 1) := by decide +kernel
theorem dX6_init_29 : decode cX6_init 29 = .ok (.bipush 36, 2) := by decide +kernel
theorem dX6_init_31 : decode cX6_init 31 = .ok (.newarray .int, 2) := by decide +kernel
theorem dX6_init_33 : decode cX6_init 33 = .ok (.putfield 21, 3) := by decide +kernel
theorem dX6_init_36 : decode cX6_init 36 = .ok (.aload_n 0, 1) := by decide +kernel
theorem dX6_init_37 : decode cX6_init 37 = .ok (.bipush 36, 2) := by decide +kernel
theorem dX6_init_39 : decode cX6_init 39 = .ok (.newarray .boolean, 2) := by decide +kernel
theorem dX6_init_41 : decode cX6_init 41 = .ok (.putfield 24, 3) := by decide +kernel
theorem dX6_init_44 : decode cX6_init 44 = .ok (.aload_n 0, 1) := by decide +kernel
theorem dX6_init_45 : decode cX6_init 45 = .ok (.bipush 9, 2) := by decide +kernel
theorem dX6_init_47 : decode cX6_init 47 = .ok (.newarray .int, 2) := by decide +kernel
theorem dX6_init_49 : decode cX6_init 49 = .ok (.putfield 28, 3) := by decide +kernel
theorem dX6_init_52 : decode cX6_init 52 = .ok (.aload_n 0, 1) := by decide +kernel
theorem dX6_init_53 : decode cX6_init 53 = .ok (.bipush 9, 2) := by decide +kernel
theorem dX6_init_55 : decode cX6_init 55 = .ok (.newarray .int, 2) := by decide +kernel
theorem dX6_init_57 : decode cX6_init 57 = .ok (.putfield 31, 3) := by decide +kernel
theorem dX6_init_60 : decode cX6_init 60 = .ok (.aload_n 0, 1) := by decide +kernel
theorem dX6_init_61 : decode cX6_init 61 = .ok (.bipush 9, 2) := by decide +kernel
theorem dX6_init_63 : decode cX6_init 63 = .ok (.newarray .long, 2) := by decide +kernel
theorem dX6_init_65 : decode cX6_init 65 = .ok (.putfield 34, 3) := by decide +kernel
theorem dX6_init_68 : decode cX6_init 68 = .ok (.return_, 1) := by decide +kernel
set_option maxRecDepth 20000 in
theorem ggX6_trace_X6_layRings : GoodIn wsX6_trace wsX6_layRings := goodIn_r _ [5, 6, 7, 8, 9, 10, 11, 12, 13, 14, 15, 4, 16, 17, 18, 19, 20, 21, 46, 47, 48, 49, 50, 51, 52, 53, 54, 55, 56, 57, 58, 59, 60, 61] (by decide +kernel) (by decide +kernel)
set_option maxRecDepth 20000 in
theorem gX6_trace_X6_layRings : GoodIn wsX6_trace (wsV RX6 38 RX6 yX6_layRings wsX6_layRings) := goodIn_app (goodIn_of _ (by decide +kernel)) ggX6_trace_X6_layRings
set_option maxRecDepth 20000 in
theorem ggX6_trace_X6_writeLetters : GoodIn wsX6_trace wsX6_writeLetters := goodIn_r _ [25, 26, 7, 17, 6, 27, 28, 29, 4, 30, 31, 32, 33, 34, 35, 36, 37, 38, 39, 18, 8, 19, 20, 21, 46, 47, 48, 49, 50, 51, 52, 53, 54, 55, 56, 57, 58, 59, 60, 61] (by decide +kernel) (by decide +kernel)
set_option maxRecDepth 20000 in
theorem gX6_trace_X6_writeLetters : GoodIn wsX6_trace (wsV RX6 42 RX6 yX6_writeLetters wsX6_writeLetters) := goodIn_app (goodIn_of _ (by decide +kernel)) ggX6_trace_X6_writeLetters
set_option maxRecDepth 20000 in
theorem ggX6_trace_X6_countWays : GoodIn wsX6_trace wsX6_countWays := goodIn_r _ [43, 44, 45, 26, 34, 32, 33, 9, 10, 11, 12, 46, 47, 48, 49, 50, 51, 52, 53, 54, 55] (by decide +kernel) (by decide +kernel)
set_option maxRecDepth 20000 in
theorem gX6_trace_X6_countWays : GoodIn wsX6_trace (wsV RX6 45 RX6 yX6_countWays wsX6_countWays) := goodIn_app (goodIn_of _ (by decide +kernel)) ggX6_trace_X6_countWays
theorem dX6_trace_0 : decode cX6_trace 0 = .ok (.aload_n 0, 1) := by decide +kernel
theorem dX6_trace_1 : decode cX6_trace 1 = .ok (.aload_n 1, 1) := by decide +kernel
theorem dX6_trace_2 : decode cX6_trace 2 = .ok (.invokevirtual 38, 3) := by decide +kernel
theorem dX6_trace_5 : decode cX6_trace 5 = .ok (.aload_n 0, 1) := by decide +kernel
theorem dX6_trace_6 : decode cX6_trace 6 = .ok (.aload_n 1, 1) := by decide +kernel
theorem dX6_trace_7 : decode cX6_trace 7 = .ok (.invokevirtual 42, 3) := by decide +kernel
theorem dX6_trace_10 : decode cX6_trace 10 = .ok (.aload_n 0, 1) := by decide +kernel
theorem dX6_trace_11 : decode cX6_trace 11 = .ok (.invokevirtual 45, 3) := by decide +kernel
theorem dX6_trace_14 : decode cX6_trace 14 = .ok (.return_, 1) := by decide +kernel
set_option maxRecDepth 20000 in
theorem ggX6_layRings_J7_fill_53178 : GoodIn wsX6_layRings wsJ7_fill_53178 := goodIn_r _ [7] (by decide +kernel) (by decide +kernel)
set_option maxRecDepth 20000 in
theorem gX6_layRings_J7_fill_53178 : GoodIn wsX6_layRings (va_wsS RX6 48 yJ7_fill_53178 wsJ7_fill_53178) := goodIn_app (goodIn_of _ (by decide +kernel)) ggX6_layRings_J7_fill_53178
set_option maxRecDepth 20000 in
theorem ggX6_layRings_X6_settle : GoodIn wsX6_layRings wsX6_settle := goodIn_r _ [12, 13, 1, 14, 15, 16, 17, 28, 29, 30, 31, 32, 33, 18, 19, 20, 21, 22, 23, 24, 25, 26, 27] (by decide +kernel) (by decide +kernel)
set_option maxRecDepth 20000 in
theorem gX6_layRings_X6_settle : GoodIn wsX6_layRings (wsV RX6 58 RX6 yX6_settle wsX6_settle) := goodIn_app (goodIn_of _ (by decide +kernel)) ggX6_layRings_X6_settle
theorem dX6_layRings_0 : decode cX6_layRings 0 = .ok (.aload_n 0, 1) := by decide +kernel
theorem dX6_layRings_1 : decode cX6_layRings 1 = .ok (.getfield 9, 3) := by decide +kernel
theorem dX6_layRings_4 : decode cX6_layRings 4 = .ok (.iconst (-1), 1) := by decide +kernel
theorem dX6_layRings_5 : decode cX6_layRings 5 = .ok (.invokestatic 48, 3) := by decide +kernel
theorem dX6_layRings_8 : decode cX6_layRings 8 = .ok (.aload_n 0, 1) := by decide +kernel
theorem dX6_layRings_9 : decode cX6_layRings 9 = .ok (.iconst 0, 1) := by decide +kernel
theorem dX6_layRings_10 : decode cX6_layRings 10 = .ok (.putfield 54, 3) := by decide +kernel
theorem dX6_layRings_13 : decode cX6_layRings 13 = .ok (.iconst 1, 1) := by decide +kernel
theorem dX6_layRings_14 : decode cX6_layRings 14 = .ok (.istore_n 2, 1) := by decide +kernel
theorem dX6_layRings_15 : decode cX6_layRings 15 = .ok (.iconst 1, 1) := by decide +kernel
theorem dX6_layRings_16 : decode cX6_layRings 16 = .ok (.istore_n 3, 1) := by decide +kernel
theorem dX6_layRings_17 : decode cX6_layRings 17 = .ok (.iconst 0, 1) := by decide +kernel
theorem dX6_layRings_18 : decode cX6_layRings 18 = .ok (.istore 4, 2) := by decide +kernel
theorem dX6_layRings_20 : decode cX6_layRings 20 = .ok (.iload 4, 2) := by decide +kernel
theorem dX6_layRings_22 : decode cX6_layRings 22 = .ok (.bipush 9, 2) := by decide +kernel
theorem dX6_layRings_24 : decode cX6_layRings 24 = .ok (.if_icmp .ge 44, 3) := by decide +kernel
theorem dX6_layRings_27 : decode cX6_layRings 27 = .ok (.aload_n 0, 1) := by decide +kernel
theorem dX6_layRings_28 : decode cX6_layRings 28 = .ok (.getfield 15, 3) := by decide +kernel
theorem dX6_layRings_31 : decode cX6_layRings 31 = .ok (.iload 4, 2) := by decide +kernel
theorem dX6_layRings_33 : decode cX6_layRings 33 = .ok (.iload_n 3, 1) := by decide +kernel
theorem dX6_layRings_34 : decode cX6_layRings 34 = .ok (.iastore, 1) := by decide +kernel
theorem dX6_layRings_35 : decode cX6_layRings 35 = .ok (.iload_n 3, 1) := by decide +kernel
theorem dX6_layRings_36 : decode cX6_layRings 36 = .ok (.ifCond .eq 9, 3) := by decide +kernel
theorem dX6_layRings_39 : decode cX6_layRings 39 = .ok (.aload_n 0, 1) := by decide +kernel
theorem dX6_layRings_40 : decode cX6_layRings 40 = .ok (.iload 4, 2) := by decide +kernel
theorem dX6_layRings_42 : decode cX6_layRings 42 = .ok (.putfield 54, 3) := by decide +kernel
theorem dX6_layRings_45 : decode cX6_layRings 45 = .ok (.aload_n 0, 1) := by decide +kernel
theorem dX6_layRings_46 : decode cX6_layRings 46 = .ok (.aload_n 1, 1) := by decide +kernel
theorem dX6_layRings_47 : decode cX6_layRings 47 = .ok (.iload_n 3, 1) := by decide +kernel
theorem dX6_layRings_48 : decode cX6_layRings 48 = .ok (.iload 4, 2) := by decide +kernel
theorem dX6_layRings_50 : decode cX6_layRings 50 = .ok (.invokevirtual 58, 3) := by decide +kernel
theorem dX6_layRings_53 : decode cX6_layRings 53 = .ok (.iload_n 2, 1) := by decide +kernel
theorem dX6_layRings_54 : decode cX6_layRings 54 = .ok (.iconst (-1), 1) := by decide +kernel
theorem dX6_layRings_55 : decode cX6_layRings 55 = .ok (.ixor, 1) := by decide +kernel
theorem dX6_layRings_56 : decode cX6_layRings 56 = .ok (.iand, 1) := by decide +kernel
theorem dX6_layRings_57 : decode cX6_layRings 57 = .ok (.istore_n 3, 1) := by decide +kernel
theorem dX6_layRings_58 : decode cX6_layRings 58 = .ok (.iload_n 2, 1) := by decide +kernel
theorem dX6_layRings_59 : decode cX6_layRings 59 = .ok (.iload_n 3, 1) := by decide +kernel
theorem dX6_layRings_60 : decode cX6_layRings 60 = .ok (.ior, 1) := by decide +kernel
theorem dX6_layRings_61 : decode cX6_layRings 61 = .ok (.istore_n 2, 1) := by decide +kernel
theorem dX6_layRings_62 : decode cX6_layRings 62 = .ok (.iinc 4 1, 3) := by decide +kernel
theorem dX6_layRings_65 : decode cX6_layRings 65 = .ok (.goto (-45), 3) := by decide +kernel
theorem dX6_layRings_68 : decode cX6_layRings 68 = .ok (.return_, 1) := by decide +kernel
set_option maxRecDepth 20000 in
theorem ggX6_settle_X7_isIn : GoodIn wsX6_settle wsX7_isIn := goodIn_r _ [6] (by decide +kernel) (by decide +kernel)
set_option maxRecDepth 20000 in
theorem gX6_settle_X7_isIn_n67 : GoodIn wsX6_settle (wsX7_isIn) := ggX6_settle_X7_isIn
theorem dX6_settle_0 : decode cX6_settle 0 = .ok (.iconst 0, 1) := by decide +kernel
theorem dX6_settle_1 : decode cX6_settle 1 = .ok (.istore 4, 2) := by decide +kernel
theorem dX6_settle_3 : decode cX6_settle 3 = .ok (.iconst 0, 1) := by decide +kernel
theorem dX6_settle_4 : decode cX6_settle 4 = .ok (.istore 5, 2) := by decide +kernel
theorem dX6_settle_6 : decode cX6_settle 6 = .ok (.iload 5, 2) := by decide +kernel
theorem dX6_settle_8 : decode cX6_settle 8 = .ok (.aload_n 1, 1) := by decide +kernel
theorem dX6_settle_9 : decode cX6_settle 9 = .ok (.getfield 62, 3) := by decide +kernel
theorem dX6_settle_12 : decode cX6_settle 12 = .ok (.if_icmp .ge 38, 3) := by decide +kernel
theorem dX6_settle_15 : decode cX6_settle 15 = .ok (.iload_n 2, 1) := by decide +kernel
theorem dX6_settle_16 : decode cX6_settle 16 = .ok (.iload 5, 2) := by decide +kernel
theorem dX6_settle_18 : decode cX6_settle 18 = .ok (.invokestatic 67, 3) := by decide +kernel
theorem dX6_settle_21 : decode cX6_settle 21 = .ok (.ifCond .eq 23, 3) := by decide +kernel
theorem dX6_settle_24 : decode cX6_settle 24 = .ok (.aload_n 0, 1) := by decide +kernel
theorem dX6_settle_25 : decode cX6_settle 25 = .ok (.getfield 9, 3) := by decide +kernel
theorem dX6_settle_28 : decode cX6_settle 28 = .ok (.iload 5, 2) := by decide +kernel
theorem dX6_settle_30 : decode cX6_settle 30 = .ok (.iload_n 3, 1) := by decide +kernel
theorem dX6_settle_31 : decode cX6_settle 31 = .ok (.iastore, 1) := by decide +kernel
theorem dX6_settle_32 : decode cX6_settle 32 = .ok (.iload 4, 2) := by decide +kernel
theorem dX6_settle_34 : decode cX6_settle 34 = .ok (.aload_n 1, 1) := by decide +kernel
theorem dX6_settle_35 : decode cX6_settle 35 = .ok (.getfield 71, 3) := by decide +kernel
theorem dX6_settle_38 : decode cX6_settle 38 = .ok (.iload 5, 2) := by decide +kernel
theorem dX6_settle_40 : decode cX6_settle 40 = .ok (.iaload, 1) := by decide +kernel
theorem dX6_settle_41 : decode cX6_settle 41 = .ok (.ior, 1) := by decide +kernel
theorem dX6_settle_42 : decode cX6_settle 42 = .ok (.istore 4, 2) := by decide +kernel
theorem dX6_settle_44 : decode cX6_settle 44 = .ok (.iinc 5 1, 3) := by decide +kernel
theorem dX6_settle_47 : decode cX6_settle 47 = .ok (.goto (-41), 3) := by decide +kernel
theorem dX6_settle_50 : decode cX6_settle 50 = .ok (.iload 4, 2) := by decide +kernel
theorem dX6_settle_52 : decode cX6_settle 52 = .ok (.ireturn, 1) := by decide +kernel
theorem dX6_uppers_0 : decode cX6_uppers 0 = .ok (.aload_n 0, 1) := by decide +kernel
theorem dX6_uppers_1 : decode cX6_uppers 1 = .ok (.getfield 9, 3) := by decide +kernel
theorem dX6_uppers_4 : decode cX6_uppers 4 = .ok (.iload_n 2, 1) := by decide +kernel
theorem dX6_uppers_5 : decode cX6_uppers 5 = .ok (.iaload, 1) := by decide +kernel
theorem dX6_uppers_6 : decode cX6_uppers 6 = .ok (.iconst 1, 1) := by decide +kernel
theorem dX6_uppers_7 : decode cX6_uppers 7 = .ok (.if_icmp .ge 7, 3) := by decide +kernel
theorem dX6_uppers_10 : decode cX6_uppers 10 = .ok (.iconst 0, 1) := by decide +kernel
theorem dX6_uppers_11 : decode cX6_uppers 11 = .ok (.goto 23, 3) := by decide +kernel
theorem dX6_uppers_14 : decode cX6_uppers 14 = .ok (.aload_n 1, 1) := by decide +kernel
theorem dX6_uppers_15 : decode cX6_uppers 15 = .ok (.getfield 71, 3) := by decide +kernel
theorem dX6_uppers_18 : decode cX6_uppers 18 = .ok (.iload_n 2, 1) := by decide +kernel
theorem dX6_uppers_19 : decode cX6_uppers 19 = .ok (.iaload, 1) := by decide +kernel
theorem dX6_uppers_20 : decode cX6_uppers 20 = .ok (.aload_n 0, 1) := by decide +kernel
theorem dX6_uppers_21 : decode cX6_uppers 21 = .ok (.getfield 15, 3) := by decide +kernel
theorem dX6_uppers_24 : decode cX6_uppers 24 = .ok (.aload_n 0, 1) := by decide +kernel
theorem dX6_uppers_25 : decode cX6_uppers 25 = .ok (.getfield 9, 3) := by decide +kernel
theorem dX6_uppers_28 : decode cX6_uppers 28 = .ok (.iload_n 2, 1) := by decide +kernel
theorem dX6_uppers_29 : decode cX6_uppers 29 = .ok (.iaload, 1) := by decide +kernel
theorem dX6_uppers_30 : decode cX6_uppers 30 = .ok (.iconst 1, 1) := by decide +kernel
theorem dX6_uppers_31 : decode cX6_uppers 31 = .ok (.isub, 1) := by decide +kernel
theorem dX6_uppers_32 : decode cX6_uppers 32 = .ok (.iaload, 1) := by decide +kernel
theorem dX6_uppers_33 : decode cX6_uppers 33 = .ok (.iand, 1) := by decide +kernel
theorem dX6_uppers_34 : decode cX6_uppers 34 = .ok (.ireturn, 1) := by decide +kernel
set_option maxRecDepth 20000 in
theorem ggX6_writeLetters_X6_writeFrom : GoodIn wsX6_writeLetters wsX6_writeFrom := goodIn_r _ [9, 10, 3, 1, 11, 12, 13, 14, 15, 16, 17, 8, 18, 4, 19, 20, 21, 22, 23, 34, 35, 36, 37, 38, 39, 24, 25, 26, 27, 28, 29, 30, 31, 32, 33] (by decide +kernel) (by decide +kernel)
set_option maxRecDepth 20000 in
theorem gX6_writeLetters_X6_writeFrom : GoodIn wsX6_writeLetters (wsV RX6 77 RX6 yX6_writeFrom wsX6_writeFrom) := goodIn_app (goodIn_of _ (by decide +kernel)) ggX6_writeLetters_X6_writeFrom
theorem dX6_writeLetters_0 : decode cX6_writeLetters 0 = .ok (.aload_n 0, 1) := by decide +kernel
theorem dX6_writeLetters_1 : decode cX6_writeLetters 1 = .ok (.iconst 0, 1) := by decide +kernel
theorem dX6_writeLetters_2 : decode cX6_writeLetters 2 = .ok (.putfield 74, 3) := by decide +kernel
theorem dX6_writeLetters_5 : decode cX6_writeLetters 5 = .ok (.aload_n 0, 1) := by decide +kernel
theorem dX6_writeLetters_6 : decode cX6_writeLetters 6 = .ok (.getfield 54, 3) := by decide +kernel
theorem dX6_writeLetters_9 : decode cX6_writeLetters 9 = .ok (.istore_n 2, 1) := by decide +kernel
theorem dX6_writeLetters_10 : decode cX6_writeLetters 10 = .ok (.iload_n 2, 1) := by decide +kernel
theorem dX6_writeLetters_11 : decode cX6_writeLetters 11 = .ok (.iconst 1, 1) := by decide +kernel
theorem dX6_writeLetters_12 : decode cX6_writeLetters 12 = .ok (.if_icmp .lt 41, 3) := by decide +kernel
theorem dX6_writeLetters_15 : decode cX6_writeLetters 15 = .ok (.iconst 0, 1) := by decide +kernel
theorem dX6_writeLetters_16 : decode cX6_writeLetters 16 = .ok (.istore_n 3, 1) := by decide +kernel
theorem dX6_writeLetters_17 : decode cX6_writeLetters 17 = .ok (.iload_n 3, 1) := by decide +kernel
theorem dX6_writeLetters_18 : decode cX6_writeLetters 18 = .ok (.aload_n 1, 1) := by decide +kernel
theorem dX6_writeLetters_19 : decode cX6_writeLetters 19 = .ok (.getfield 62, 3) := by decide +kernel
theorem dX6_writeLetters_22 : decode cX6_writeLetters 22 = .ok (.if_icmp .ge 25, 3) := by decide +kernel
theorem dX6_writeLetters_25 : decode cX6_writeLetters 25 = .ok (.aload_n 0, 1) := by decide +kernel
theorem dX6_writeLetters_26 : decode cX6_writeLetters 26 = .ok (.getfield 9, 3) := by decide +kernel
theorem dX6_writeLetters_29 : decode cX6_writeLetters 29 = .ok (.iload_n 3, 1) := by decide +kernel
theorem dX6_writeLetters_30 : decode cX6_writeLetters 30 = .ok (.iaload, 1) := by decide +kernel
theorem dX6_writeLetters_31 : decode cX6_writeLetters 31 = .ok (.iload_n 2, 1) := by decide +kernel
theorem dX6_writeLetters_32 : decode cX6_writeLetters 32 = .ok (.if_icmp .ne 9, 3) := by decide +kernel
theorem dX6_writeLetters_35 : decode cX6_writeLetters 35 = .ok (.aload_n 0, 1) := by decide +kernel
theorem dX6_writeLetters_36 : decode cX6_writeLetters 36 = .ok (.aload_n 1, 1) := by decide +kernel
theorem dX6_writeLetters_37 : decode cX6_writeLetters 37 = .ok (.iload_n 3, 1) := by decide +kernel
theorem dX6_writeLetters_38 : decode cX6_writeLetters 38 = .ok (.invokevirtual 77, 3) := by decide +kernel
theorem dX6_writeLetters_41 : decode cX6_writeLetters 41 = .ok (.iinc 3 1, 3) := by decide +kernel
theorem dX6_writeLetters_44 : decode cX6_writeLetters 44 = .ok (.goto (-27), 3) := by decide +kernel
theorem dX6_writeLetters_47 : decode cX6_writeLetters 47 = .ok (.iinc 2 (-1), 3) := by decide +kernel
theorem dX6_writeLetters_50 : decode cX6_writeLetters 50 = .ok (.goto (-40), 3) := by decide +kernel
theorem dX6_writeLetters_53 : decode cX6_writeLetters 53 = .ok (.return_, 1) := by decide +kernel
set_option maxRecDepth 20000 in
theorem ggX6_writeFrom_X6_uppers : GoodIn wsX6_writeFrom wsX6_uppers := goodIn_r _ [12, 13, 14, 15, 25, 26, 27, 28, 29, 30, 31, 32, 33, 34, 19, 20, 21, 22, 23, 24] (by decide +kernel) (by decide +kernel)
set_option maxRecDepth 20000 in
theorem gX6_writeFrom_X6_uppers : GoodIn wsX6_writeFrom (wsV RX6 81 RX6 yX6_uppers wsX6_uppers) := goodIn_app (goodIn_of _ (by decide +kernel)) ggX6_writeFrom_X6_uppers
set_option maxRecDepth 20000 in
theorem ggX6_writeFrom_X7_isIn : GoodIn wsX6_writeFrom wsX7_isIn := goodIn_r _ [18] (by decide +kernel) (by decide +kernel)
set_option maxRecDepth 20000 in
theorem gX6_writeFrom_X7_isIn_n67 : GoodIn wsX6_writeFrom (wsX7_isIn) := ggX6_writeFrom_X7_isIn
theorem dX6_writeFrom_0 : decode cX6_writeFrom 0 = .ok (.aload_n 0, 1) := by decide +kernel
theorem dX6_writeFrom_1 : decode cX6_writeFrom 1 = .ok (.aload_n 1, 1) := by decide +kernel
theorem dX6_writeFrom_2 : decode cX6_writeFrom 2 = .ok (.iload_n 2, 1) := by decide +kernel
theorem dX6_writeFrom_3 : decode cX6_writeFrom 3 = .ok (.invokevirtual 81, 3) := by decide +kernel
theorem dX6_writeFrom_6 : decode cX6_writeFrom 6 = .ok (.istore_n 3, 1) := by decide +kernel
theorem dX6_writeFrom_7 : decode cX6_writeFrom 7 = .ok (.aload_n 1, 1) := by decide +kernel
theorem dX6_writeFrom_8 : decode cX6_writeFrom 8 = .ok (.getfield 85, 3) := by decide +kernel
theorem dX6_writeFrom_11 : decode cX6_writeFrom 11 = .ok (.iconst 1, 1) := by decide +kernel
theorem dX6_writeFrom_12 : decode cX6_writeFrom 12 = .ok (.if_icmp .ne 8, 3) := by decide +kernel
theorem dX6_writeFrom_15 : decode cX6_writeFrom 15 = .ok (.iload_n 3, 1) := by decide +kernel
theorem dX6_writeFrom_16 : decode cX6_writeFrom 16 = .ok (.iload_n 3, 1) := by decide +kernel
theorem dX6_writeFrom_17 : decode cX6_writeFrom 17 = .ok (.ineg, 1) := by decide +kernel
theorem dX6_writeFrom_18 : decode cX6_writeFrom 18 = .ok (.iand, 1) := by decide +kernel
theorem dX6_writeFrom_19 : decode cX6_writeFrom 19 = .ok (.istore_n 3, 1) := by decide +kernel
theorem dX6_writeFrom_20 : decode cX6_writeFrom 20 = .ok (.iconst 0, 1) := by decide +kernel
theorem dX6_writeFrom_21 : decode cX6_writeFrom 21 = .ok (.istore 4, 2) := by decide +kernel
theorem dX6_writeFrom_23 : decode cX6_writeFrom 23 = .ok (.iload 4, 2) := by decide +kernel
theorem dX6_writeFrom_25 : decode cX6_writeFrom 25 = .ok (.aload_n 1, 1) := by decide +kernel
theorem dX6_writeFrom_26 : decode cX6_writeFrom 26 = .ok (.getfield 62, 3) := by decide +kernel
theorem dX6_writeFrom_29 : decode cX6_writeFrom 29 = .ok (.if_icmp .ge 86, 3) := by decide +kernel
theorem dX6_writeFrom_32 : decode cX6_writeFrom 32 = .ok (.aload_n 0, 1) := by decide +kernel
theorem dX6_writeFrom_33 : decode cX6_writeFrom 33 = .ok (.getfield 74, 3) := by decide +kernel
theorem dX6_writeFrom_36 : decode cX6_writeFrom 36 = .ok (.bipush 36, 2) := by decide +kernel
theorem dX6_writeFrom_38 : decode cX6_writeFrom 38 = .ok (.if_icmp .ge 77, 3) := by decide +kernel
theorem dX6_writeFrom_41 : decode cX6_writeFrom 41 = .ok (.iload_n 3, 1) := by decide +kernel
theorem dX6_writeFrom_42 : decode cX6_writeFrom 42 = .ok (.iload 4, 2) := by decide +kernel
theorem dX6_writeFrom_44 : decode cX6_writeFrom 44 = .ok (.invokestatic 67, 3) := by decide +kernel
theorem dX6_writeFrom_47 : decode cX6_writeFrom 47 = .ok (.ifCond .eq 62, 3) := by decide +kernel
theorem dX6_writeFrom_50 : decode cX6_writeFrom 50 = .ok (.aload_n 0, 1) := by decide +kernel
theorem dX6_writeFrom_51 : decode cX6_writeFrom 51 = .ok (.getfield 18, 3) := by decide +kernel
theorem dX6_writeFrom_54 : decode cX6_writeFrom 54 = .ok (.aload_n 0, 1) := by decide +kernel
theorem dX6_writeFrom_55 : decode cX6_writeFrom 55 = .ok (.getfield 74, 3) := by decide +kernel
theorem dX6_writeFrom_58 : decode cX6_writeFrom 58 = .ok (.iload_n 2, 1) := by decide +kernel
theorem dX6_writeFrom_59 : decode cX6_writeFrom 59 = .ok (.iastore, 1) := by decide +kernel
theorem dX6_writeFrom_60 : decode cX6_writeFrom 60 = .ok (.aload_n 0, 1) := by decide +kernel
theorem dX6_writeFrom_61 : decode cX6_writeFrom 61 = .ok (.getfield 21, 3) := by decide +kernel
theorem dX6_writeFrom_64 : decode cX6_writeFrom 64 = .ok (.aload_n 0, 1) := by decide +kernel
theorem dX6_writeFrom_65 : decode cX6_writeFrom 65 = .ok (.getfield 74, 3) := by decide +kernel
theorem dX6_writeFrom_68 : decode cX6_writeFrom 68 = .ok (.iload 4, 2) := by decide +kernel
theorem dX6_writeFrom_70 : decode cX6_writeFrom 70 = .ok (.iastore, 1) := by decide +kernel
theorem dX6_writeFrom_71 : decode cX6_writeFrom 71 = .ok (.aload_n 0, 1) := by decide +kernel
theorem dX6_writeFrom_72 : decode cX6_writeFrom 72 = .ok (.getfield 24, 3) := by decide +kernel
theorem dX6_writeFrom_75 : decode cX6_writeFrom 75 = .ok (.aload_n 0, 1) := by decide +kernel
theorem dX6_writeFrom_76 : decode cX6_writeFrom 76 = .ok (.getfield 74, 3) := by decide +kernel
theorem dX6_writeFrom_79 : decode cX6_writeFrom 79 = .ok (.aload_n 1, 1) := by decide +kernel
theorem dX6_writeFrom_80 : decode cX6_writeFrom 80 = .ok (.getfield 88, 3) := by decide +kernel
theorem dX6_writeFrom_83 : decode cX6_writeFrom 83 = .ok (.iload_n 2, 1) := by decide +kernel
theorem dX6_writeFrom_84 : decode cX6_writeFrom 84 = .ok (.iaload, 1) := by decide +kernel
theorem dX6_writeFrom_85 : decode cX6_writeFrom 85 = .ok (.iload 4, 2) := by decide +kernel
theorem dX6_writeFrom_87 : decode cX6_writeFrom 87 = .ok (.invokestatic 67, 3) := by decide +kernel
theorem dX6_writeFrom_90 : decode cX6_writeFrom 90 = .ok (.ifCond .ne 7, 3) := by decide +kernel
theorem dX6_writeFrom_93 : decode cX6_writeFrom 93 = .ok (.iconst 1, 1) := by decide +kernel
theorem dX6_writeFrom_94 : decode cX6_writeFrom 94 = .ok (.goto 4, 3) := by decide +kernel
theorem dX6_writeFrom_97 : decode cX6_writeFrom 97 = .ok (.iconst 0, 1) := by decide +kernel
theorem dX6_writeFrom_98 : decode cX6_writeFrom 98 = .ok (.bastore, 1) := by decide +kernel
theorem dX6_writeFrom_99 : decode cX6_writeFrom 99 = .ok (.aload_n 0, 1) := by decide +kernel
theorem dX6_writeFrom_100 : decode cX6_writeFrom 100 = .ok (.dup, 1) := by decide +kernel
theorem dX6_writeFrom_101 : decode cX6_writeFrom 101 = .ok (.getfield 74, 3) := by decide +kernel
theorem dX6_writeFrom_104 : decode cX6_writeFrom 104 = .ok (.iconst 1, 1) := by decide +kernel
theorem dX6_writeFrom_105 : decode cX6_writeFrom 105 = .ok (.iadd, 1) := by decide +kernel
theorem dX6_writeFrom_106 : decode cX6_writeFrom 106 = .ok (.putfield 74, 3) := by decide +kernel
theorem dX6_writeFrom_109 : decode cX6_writeFrom 109 = .ok (.iinc 4 1, 3) := by decide +kernel
theorem dX6_writeFrom_112 : decode cX6_writeFrom 112 = .ok (.goto (-89), 3) := by decide +kernel
theorem dX6_writeFrom_115 : decode cX6_writeFrom 115 = .ok (.return_, 1) := by decide +kernel
set_option maxRecDepth 20000 in
theorem ggX6_countWays_J7_fill_53178 : GoodIn wsX6_countWays wsJ7_fill_53178 := goodIn_r _ [10] (by decide +kernel) (by decide +kernel)
set_option maxRecDepth 20000 in
theorem gX6_countWays_J7_fill_53178 : GoodIn wsX6_countWays (va_wsS RX6 48 yJ7_fill_53178 wsJ7_fill_53178) := goodIn_app (goodIn_of _ (by decide +kernel)) ggX6_countWays_J7_fill_53178
theorem dX6_countWays_0 : decode cX6_countWays 0 = .ok (.aload_n 0, 1) := by decide +kernel
theorem dX6_countWays_1 : decode cX6_countWays 1 = .ok (.getfield 28, 3) := by decide +kernel
theorem dX6_countWays_4 : decode cX6_countWays 4 = .ok (.iconst 0, 1) := by decide +kernel
theorem dX6_countWays_5 : decode cX6_countWays 5 = .ok (.invokestatic 48, 3) := by decide +kernel
theorem dX6_countWays_8 : decode cX6_countWays 8 = .ok (.aload_n 0, 1) := by decide +kernel
theorem dX6_countWays_9 : decode cX6_countWays 9 = .ok (.getfield 31, 3) := by decide +kernel
theorem dX6_countWays_12 : decode cX6_countWays 12 = .ok (.iconst 0, 1) := by decide +kernel
theorem dX6_countWays_13 : decode cX6_countWays 13 = .ok (.invokestatic 48, 3) := by decide +kernel
theorem dX6_countWays_16 : decode cX6_countWays 16 = .ok (.aload_n 0, 1) := by decide +kernel
theorem dX6_countWays_17 : decode cX6_countWays 17 = .ok (.getfield 28, 3) := by decide +kernel
theorem dX6_countWays_20 : decode cX6_countWays 20 = .ok (.iconst 0, 1) := by decide +kernel
theorem dX6_countWays_21 : decode cX6_countWays 21 = .ok (.iconst 1, 1) := by decide +kernel
theorem dX6_countWays_22 : decode cX6_countWays 22 = .ok (.iastore, 1) := by decide +kernel
theorem dX6_countWays_23 : decode cX6_countWays 23 = .ok (.aload_n 0, 1) := by decide +kernel
theorem dX6_countWays_24 : decode cX6_countWays 24 = .ok (.getfield 74, 3) := by decide +kernel
theorem dX6_countWays_27 : decode cX6_countWays 27 = .ok (.iconst 1, 1) := by decide +kernel
theorem dX6_countWays_28 : decode cX6_countWays 28 = .ok (.isub, 1) := by decide +kernel
theorem dX6_countWays_29 : decode cX6_countWays 29 = .ok (.istore_n 1, 1) := by decide +kernel
theorem dX6_countWays_30 : decode cX6_countWays 30 = .ok (.iload_n 1, 1) := by decide +kernel
theorem dX6_countWays_31 : decode cX6_countWays 31 = .ok (.ifCond .lt 58, 3) := by decide +kernel
theorem dX6_countWays_34 : decode cX6_countWays 34 = .ok (.aload_n 0, 1) := by decide +kernel
theorem dX6_countWays_35 : decode cX6_countWays 35 = .ok (.getfield 24, 3) := by decide +kernel
theorem dX6_countWays_38 : decode cX6_countWays 38 = .ok (.iload_n 1, 1) := by decide +kernel
theorem dX6_countWays_39 : decode cX6_countWays 39 = .ok (.baload, 1) := by decide +kernel
theorem dX6_countWays_40 : decode cX6_countWays 40 = .ok (.ifCond .eq 43, 3) := by decide +kernel
theorem dX6_countWays_43 : decode cX6_countWays 43 = .ok (.aload_n 0, 1) := by decide +kernel
theorem dX6_countWays_44 : decode cX6_countWays 44 = .ok (.getfield 28, 3) := by decide +kernel
theorem dX6_countWays_47 : decode cX6_countWays 47 = .ok (.aload_n 0, 1) := by decide +kernel
theorem dX6_countWays_48 : decode cX6_countWays 48 = .ok (.getfield 18, 3) := by decide +kernel
theorem dX6_countWays_51 : decode cX6_countWays 51 = .ok (.iload_n 1, 1) := by decide +kernel
theorem dX6_countWays_52 : decode cX6_countWays 52 = .ok (.iaload, 1) := by decide +kernel
theorem dX6_countWays_53 : decode cX6_countWays 53 = .ok (.dup2, 1) := by decide +kernel
theorem dX6_countWays_54 : decode cX6_countWays 54 = .ok (.iaload, 1) := by decide +kernel
end
section
theorem dX6_countWays_55 : decode cX6_countWays 55 = .ok (.aload_n 0, 1) := by decide +kernel
theorem dX6_countWays_56 : decode cX6_countWays 56 = .ok (.getfield 28, 3) := by decide +kernel
theorem dX6_countWays_59 : decode cX6_countWays 59 = .ok (.aload_n 0, 1) := by decide +kernel
theorem dX6_countWays_60 : decode cX6_countWays 60 = .ok (.getfield 21, 3) := by decide +kernel
theorem dX6_countWays_63 : decode cX6_countWays 63 = .ok (.iload_n 1, 1) := by decide +kernel
theorem dX6_countWays_64 : decode cX6_countWays 64 = .ok (.iaload, 1) := by decide +kernel
theorem dX6_countWays_65 : decode cX6_countWays 65 = .ok (.iaload, 1) := by decide +kernel
theorem dX6_countWays_66 : decode cX6_countWays 66 = .ok (.iadd, 1) := by decide +kernel
theorem dX6_countWays_67 : decode cX6_countWays 67 = .ok (.iastore, 1) := by decide +kernel
theorem dX6_countWays_68 : decode cX6_countWays 68 = .ok (.aload_n 0, 1) := by decide +kernel
theorem dX6_countWays_69 : decode cX6_countWays 69 = .ok (.getfield 31, 3) := by decide +kernel
theorem dX6_countWays_72 : decode cX6_countWays 72 = .ok (.aload_n 0, 1) := by decide +kernel
theorem dX6_countWays_73 : decode cX6_countWays 73 = .ok (.getfield 21, 3) := by decide +kernel
theorem dX6_countWays_76 : decode cX6_countWays 76 = .ok (.iload_n 1, 1) := by decide +kernel
theorem dX6_countWays_77 : decode cX6_countWays 77 = .ok (.iaload, 1) := by decide +kernel
theorem dX6_countWays_78 : decode cX6_countWays 78 = .ok (.dup2, 1) := by decide +kernel
theorem dX6_countWays_79 : decode cX6_countWays 79 = .ok (.iaload, 1) := by decide +kernel
theorem dX6_countWays_80 : decode cX6_countWays 80 = .ok (.iconst 1, 1) := by decide +kernel
theorem dX6_countWays_81 : decode cX6_countWays 81 = .ok (.iadd, 1) := by decide +kernel
theorem dX6_countWays_82 : decode cX6_countWays 82 = .ok (.iastore, 1) := by decide +kernel
theorem dX6_countWays_83 : decode cX6_countWays 83 = .ok (.iinc 1 (-1), 3) := by decide +kernel
theorem dX6_countWays_86 : decode cX6_countWays 86 = .ok (.goto (-56), 3) := by decide +kernel
theorem dX6_countWays_89 : decode cX6_countWays 89 = .ok (.return_, 1) := by decide +kernel
set_option maxRecDepth 20000 in
theorem ggX6_gather_X5_ofItems : GoodIn wsX6_gather wsX5_ofItems := goodIn_r _ [14, 15, 16, 17, 18, 19, 20, 21, 22, 23, 24, 25, 26, 27, 28, 29, 30, 31, 32, 33, 13, 34, 35, 36, 37, 38, 39, 40, 41, 42, 43, 44, 45, 46, 47] (by decide +kernel) (by decide +kernel)
set_option maxRecDepth 20000 in
theorem gX6_gather_X5_ofItems : GoodIn wsX6_gather (va_wsS RX6 99 yX5_ofItems wsX5_ofItems) := goodIn_app (goodIn_of _ (by decide +kernel)) ggX6_gather_X5_ofItems
set_option maxRecDepth 20000 in
theorem ggX6_gather_X5_together : GoodIn wsX6_gather wsX5_together := goodIn_r _ [50, 37, 38, 13, 39, 35, 32, 33, 34, 36, 40, 41, 42, 43, 44, 45] (by decide +kernel) (by decide +kernel)
set_option maxRecDepth 20000 in
theorem gX6_gather_X5_together : GoodIn wsX6_gather (va_wsS RX6 105 yX5_together wsX5_together) := goodIn_app (goodIn_of _ (by decide +kernel)) ggX6_gather_X5_together
theorem dX6_gather_0 : decode cX6_gather 0 = .ok (.iconst 0, 1) := by decide +kernel
theorem dX6_gather_1 : decode cX6_gather 1 = .ok (.istore_n 3, 1) := by decide +kernel
theorem dX6_gather_2 : decode cX6_gather 2 = .ok (.iload_n 3, 1) := by decide +kernel
theorem dX6_gather_3 : decode cX6_gather 3 = .ok (.aload_n 1, 1) := by decide +kernel
theorem dX6_gather_4 : decode cX6_gather 4 = .ok (.getfield 62, 3) := by decide +kernel
theorem dX6_gather_7 : decode cX6_gather 7 = .ok (.if_icmp .ge 45, 3) := by decide +kernel
theorem dX6_gather_10 : decode cX6_gather 10 = .ok (.aload_n 0, 1) := by decide +kernel
theorem dX6_gather_11 : decode cX6_gather 11 = .ok (.getfield 34, 3) := by decide +kernel
theorem dX6_gather_14 : decode cX6_gather 14 = .ok (.iload_n 3, 1) := by decide +kernel
theorem dX6_gather_15 : decode cX6_gather 15 = .ok (.aload_n 0, 1) := by decide +kernel
theorem dX6_gather_16 : decode cX6_gather 16 = .ok (.getfield 9, 3) := by decide +kernel
theorem dX6_gather_19 : decode cX6_gather 19 = .ok (.iload_n 3, 1) := by decide +kernel
theorem dX6_gather_20 : decode cX6_gather 20 = .ok (.iaload, 1) := by decide +kernel
theorem dX6_gather_21 : decode cX6_gather 21 = .ok (.iconst (-1), 1) := by decide +kernel
theorem dX6_gather_22 : decode cX6_gather 22 = .ok (.if_icmp .ne 9, 3) := by decide +kernel
theorem dX6_gather_25 : decode cX6_gather 25 = .ok (.ldc2_w 91, 3) := by decide +kernel
theorem dX6_gather_28 : decode cX6_gather 28 = .ok (.goto 17, 3) := by decide +kernel
theorem dX6_gather_31 : decode cX6_gather 31 = .ok (.aload_n 1, 1) := by decide +kernel
theorem dX6_gather_32 : decode cX6_gather 32 = .ok (.getfield 93, 3) := by decide +kernel
theorem dX6_gather_35 : decode cX6_gather 35 = .ok (.iload_n 3, 1) := by decide +kernel
theorem dX6_gather_36 : decode cX6_gather 36 = .ok (.iaload, 1) := by decide +kernel
theorem dX6_gather_37 : decode cX6_gather 37 = .ok (.iload_n 2, 1) := by decide +kernel
theorem dX6_gather_38 : decode cX6_gather 38 = .ok (.aload_n 1, 1) := by decide +kernel
theorem dX6_gather_39 : decode cX6_gather 39 = .ok (.getfield 96, 3) := by decide +kernel
theorem dX6_gather_42 : decode cX6_gather 42 = .ok (.invokestatic 99, 3) := by decide +kernel
theorem dX6_gather_45 : decode cX6_gather 45 = .ok (.lastore, 1) := by decide +kernel
theorem dX6_gather_46 : decode cX6_gather 46 = .ok (.iinc 3 1, 3) := by decide +kernel
theorem dX6_gather_49 : decode cX6_gather 49 = .ok (.goto (-47), 3) := by decide +kernel
theorem dX6_gather_52 : decode cX6_gather 52 = .ok (.iconst 0, 1) := by decide +kernel
theorem dX6_gather_53 : decode cX6_gather 53 = .ok (.istore_n 3, 1) := by decide +kernel
theorem dX6_gather_54 : decode cX6_gather 54 = .ok (.iload_n 3, 1) := by decide +kernel
theorem dX6_gather_55 : decode cX6_gather 55 = .ok (.aload_n 0, 1) := by decide +kernel
theorem dX6_gather_56 : decode cX6_gather 56 = .ok (.getfield 74, 3) := by decide +kernel
theorem dX6_gather_59 : decode cX6_gather 59 = .ok (.if_icmp .ge 55, 3) := by decide +kernel
theorem dX6_gather_62 : decode cX6_gather 62 = .ok (.aload_n 0, 1) := by decide +kernel
theorem dX6_gather_63 : decode cX6_gather 63 = .ok (.getfield 24, 3) := by decide +kernel
theorem dX6_gather_66 : decode cX6_gather 66 = .ok (.iload_n 3, 1) := by decide +kernel
theorem dX6_gather_67 : decode cX6_gather 67 = .ok (.baload, 1) := by decide +kernel
theorem dX6_gather_68 : decode cX6_gather 68 = .ok (.ifCond .eq 40, 3) := by decide +kernel
theorem dX6_gather_71 : decode cX6_gather 71 = .ok (.aload_n 0, 1) := by decide +kernel
theorem dX6_gather_72 : decode cX6_gather 72 = .ok (.getfield 34, 3) := by decide +kernel
theorem dX6_gather_75 : decode cX6_gather 75 = .ok (.aload_n 0, 1) := by decide +kernel
theorem dX6_gather_76 : decode cX6_gather 76 = .ok (.getfield 21, 3) := by decide +kernel
theorem dX6_gather_79 : decode cX6_gather 79 = .ok (.iload_n 3, 1) := by decide +kernel
theorem dX6_gather_80 : decode cX6_gather 80 = .ok (.iaload, 1) := by decide +kernel
theorem dX6_gather_81 : decode cX6_gather 81 = .ok (.aload_n 0, 1) := by decide +kernel
theorem dX6_gather_82 : decode cX6_gather 82 = .ok (.getfield 34, 3) := by decide +kernel
theorem dX6_gather_85 : decode cX6_gather 85 = .ok (.aload_n 0, 1) := by decide +kernel
theorem dX6_gather_86 : decode cX6_gather 86 = .ok (.getfield 21, 3) := by decide +kernel
theorem dX6_gather_89 : decode cX6_gather 89 = .ok (.iload_n 3, 1) := by decide +kernel
theorem dX6_gather_90 : decode cX6_gather 90 = .ok (.iaload, 1) := by decide +kernel
theorem dX6_gather_91 : decode cX6_gather 91 = .ok (.laload, 1) := by decide +kernel
theorem dX6_gather_92 : decode cX6_gather 92 = .ok (.aload_n 0, 1) := by decide +kernel
theorem dX6_gather_93 : decode cX6_gather 93 = .ok (.getfield 34, 3) := by decide +kernel
theorem dX6_gather_96 : decode cX6_gather 96 = .ok (.aload_n 0, 1) := by decide +kernel
theorem dX6_gather_97 : decode cX6_gather 97 = .ok (.getfield 18, 3) := by decide +kernel
theorem dX6_gather_100 : decode cX6_gather 100 = .ok (.iload_n 3, 1) := by decide +kernel
theorem dX6_gather_101 : decode cX6_gather 101 = .ok (.iaload, 1) := by decide +kernel
theorem dX6_gather_102 : decode cX6_gather 102 = .ok (.laload, 1) := by decide +kernel
theorem dX6_gather_103 : decode cX6_gather 103 = .ok (.iload_n 2, 1) := by decide +kernel
theorem dX6_gather_104 : decode cX6_gather 104 = .ok (.invokestatic 105, 3) := by decide +kernel
theorem dX6_gather_107 : decode cX6_gather 107 = .ok (.lastore, 1) := by decide +kernel
theorem dX6_gather_108 : decode cX6_gather 108 = .ok (.iinc 3 1, 3) := by decide +kernel
theorem dX6_gather_111 : decode cX6_gather 111 = .ok (.goto (-57), 3) := by decide +kernel
theorem dX6_gather_114 : decode cX6_gather 114 = .ok (.return_, 1) := by decide +kernel
theorem dX6_comers_0 : decode cX6_comers 0 = .ok (.iconst 0, 1) := by decide +kernel
theorem dX6_comers_1 : decode cX6_comers 1 = .ok (.istore_n 1, 1) := by decide +kernel
theorem dX6_comers_2 : decode cX6_comers 2 = .ok (.iconst 0, 1) := by decide +kernel
theorem dX6_comers_3 : decode cX6_comers 3 = .ok (.istore_n 2, 1) := by decide +kernel
theorem dX6_comers_4 : decode cX6_comers 4 = .ok (.iload_n 2, 1) := by decide +kernel
theorem dX6_comers_5 : decode cX6_comers 5 = .ok (.bipush 9, 2) := by decide +kernel
theorem dX6_comers_7 : decode cX6_comers 7 = .ok (.if_icmp .ge 25, 3) := by decide +kernel
theorem dX6_comers_10 : decode cX6_comers 10 = .ok (.aload_n 0, 1) := by decide +kernel
theorem dX6_comers_11 : decode cX6_comers 11 = .ok (.getfield 28, 3) := by decide +kernel
theorem dX6_comers_14 : decode cX6_comers 14 = .ok (.iload_n 2, 1) := by decide +kernel
theorem dX6_comers_15 : decode cX6_comers 15 = .ok (.iaload, 1) := by decide +kernel
theorem dX6_comers_16 : decode cX6_comers 16 = .ok (.iconst 1, 1) := by decide +kernel
theorem dX6_comers_17 : decode cX6_comers 17 = .ok (.if_icmp .lt 9, 3) := by decide +kernel
theorem dX6_comers_20 : decode cX6_comers 20 = .ok (.iload_n 1, 1) := by decide +kernel
theorem dX6_comers_21 : decode cX6_comers 21 = .ok (.iconst 1, 1) := by decide +kernel
theorem dX6_comers_22 : decode cX6_comers 22 = .ok (.iload_n 2, 1) := by decide +kernel
theorem dX6_comers_23 : decode cX6_comers 23 = .ok (.ishl, 1) := by decide +kernel
theorem dX6_comers_24 : decode cX6_comers 24 = .ok (.ior, 1) := by decide +kernel
theorem dX6_comers_25 : decode cX6_comers 25 = .ok (.istore_n 1, 1) := by decide +kernel
theorem dX6_comers_26 : decode cX6_comers 26 = .ok (.iinc 2 1, 3) := by decide +kernel
theorem dX6_comers_29 : decode cX6_comers 29 = .ok (.goto (-25), 3) := by decide +kernel
theorem dX6_comers_32 : decode cX6_comers 32 = .ok (.iload_n 1, 1) := by decide +kernel
theorem dX6_comers_33 : decode cX6_comers 33 = .ok (.ireturn, 1) := by decide +kernel
theorem dX6_allArrivals_0 : decode cX6_allArrivals 0 = .ok (.iconst 0, 1) := by decide +kernel
theorem dX6_allArrivals_1 : decode cX6_allArrivals 1 = .ok (.istore_n 1, 1) := by decide +kernel
theorem dX6_allArrivals_2 : decode cX6_allArrivals 2 = .ok (.aload_n 0, 1) := by decide +kernel
theorem dX6_allArrivals_3 : decode cX6_allArrivals 3 = .ok (.getfield 31, 3) := by decide +kernel
theorem dX6_allArrivals_6 : decode cX6_allArrivals 6 = .ok (.astore_n 2, 1) := by decide +kernel
theorem dX6_allArrivals_7 : decode cX6_allArrivals 7 = .ok (.aload_n 2, 1) := by decide +kernel
theorem dX6_allArrivals_8 : decode cX6_allArrivals 8 = .ok (.arraylength, 1) := by decide +kernel
theorem dX6_allArrivals_9 : decode cX6_allArrivals 9 = .ok (.istore_n 3, 1) := by decide +kernel
theorem dX6_allArrivals_10 : decode cX6_allArrivals 10 = .ok (.iconst 0, 1) := by decide +kernel
theorem dX6_allArrivals_11 : decode cX6_allArrivals 11 = .ok (.istore 4, 2) := by decide +kernel
theorem dX6_allArrivals_13 : decode cX6_allArrivals 13 = .ok (.iload 4, 2) := by decide +kernel
theorem dX6_allArrivals_15 : decode cX6_allArrivals 15 = .ok (.iload_n 3, 1) := by decide +kernel
theorem dX6_allArrivals_16 : decode cX6_allArrivals 16 = .ok (.if_icmp .ge 20, 3) := by decide +kernel
theorem dX6_allArrivals_19 : decode cX6_allArrivals 19 = .ok (.aload_n 2, 1) := by decide +kernel
theorem dX6_allArrivals_20 : decode cX6_allArrivals 20 = .ok (.iload 4, 2) := by decide +kernel
theorem dX6_allArrivals_22 : decode cX6_allArrivals 22 = .ok (.iaload, 1) := by decide +kernel
theorem dX6_allArrivals_23 : decode cX6_allArrivals 23 = .ok (.istore 5, 2) := by decide +kernel
theorem dX6_allArrivals_25 : decode cX6_allArrivals 25 = .ok (.iload_n 1, 1) := by decide +kernel
theorem dX6_allArrivals_26 : decode cX6_allArrivals 26 = .ok (.iload 5, 2) := by decide +kernel
theorem dX6_allArrivals_28 : decode cX6_allArrivals 28 = .ok (.iadd, 1) := by decide +kernel
theorem dX6_allArrivals_29 : decode cX6_allArrivals 29 = .ok (.istore_n 1, 1) := by decide +kernel
theorem dX6_allArrivals_30 : decode cX6_allArrivals 30 = .ok (.iinc 4 1, 3) := by decide +kernel
theorem dX6_allArrivals_33 : decode cX6_allArrivals 33 = .ok (.goto (-20), 3) := by decide +kernel
theorem dX6_allArrivals_36 : decode cX6_allArrivals 36 = .ok (.iload_n 1, 1) := by decide +kernel
theorem dX6_allArrivals_37 : decode cX6_allArrivals 37 = .ok (.ireturn, 1) := by decide +kernel
set_option maxRecDepth 20000 in
theorem ggX6_trueCount_J6_bitCount_0f7a4 : GoodIn wsX6_trueCount wsJ6_bitCount_0f7a4 := goodIn_r _ [7, 8, 9, 10] (by decide +kernel) (by decide +kernel)
set_option maxRecDepth 20000 in
theorem gX6_trueCount_J6_bitCount_0f7a4 : GoodIn wsX6_trueCount (va_wsS RX6 109 yJ6_bitCount_0f7a4 wsJ6_bitCount_0f7a4) := goodIn_app (goodIn_of _ (by decide +kernel)) ggX6_trueCount_J6_bitCount_0f7a4
theorem dX6_trueCount_0 : decode cX6_trueCount 0 = .ok (.iconst 0, 1) := by decide +kernel
theorem dX6_trueCount_1 : decode cX6_trueCount 1 = .ok (.istore_n 2, 1) := by decide +kernel
theorem dX6_trueCount_2 : decode cX6_trueCount 2 = .ok (.iconst 0, 1) := by decide +kernel
theorem dX6_trueCount_3 : decode cX6_trueCount 3 = .ok (.istore_n 3, 1) := by decide +kernel
theorem dX6_trueCount_4 : decode cX6_trueCount 4 = .ok (.iload_n 3, 1) := by decide +kernel
theorem dX6_trueCount_5 : decode cX6_trueCount 5 = .ok (.aload_n 1, 1) := by decide +kernel
theorem dX6_trueCount_6 : decode cX6_trueCount 6 = .ok (.getfield 62, 3) := by decide +kernel
theorem dX6_trueCount_9 : decode cX6_trueCount 9 = .ok (.if_icmp .ge 28, 3) := by decide +kernel
theorem dX6_trueCount_12 : decode cX6_trueCount 12 = .ok (.aload_n 0, 1) := by decide +kernel
theorem dX6_trueCount_13 : decode cX6_trueCount 13 = .ok (.getfield 9, 3) := by decide +kernel
theorem dX6_trueCount_16 : decode cX6_trueCount 16 = .ok (.iload_n 3, 1) := by decide +kernel
theorem dX6_trueCount_17 : decode cX6_trueCount 17 = .ok (.iaload, 1) := by decide +kernel
theorem dX6_trueCount_18 : decode cX6_trueCount 18 = .ok (.iconst (-1), 1) := by decide +kernel
theorem dX6_trueCount_19 : decode cX6_trueCount 19 = .ok (.if_icmp .eq 12, 3) := by decide +kernel
theorem dX6_trueCount_22 : decode cX6_trueCount 22 = .ok (.iload_n 2, 1) := by decide +kernel
theorem dX6_trueCount_23 : decode cX6_trueCount 23 = .ok (.aload_n 1, 1) := by decide +kernel
theorem dX6_trueCount_24 : decode cX6_trueCount 24 = .ok (.getfield 93, 3) := by decide +kernel
theorem dX6_trueCount_27 : decode cX6_trueCount 27 = .ok (.iload_n 3, 1) := by decide +kernel
theorem dX6_trueCount_28 : decode cX6_trueCount 28 = .ok (.iaload, 1) := by decide +kernel
theorem dX6_trueCount_29 : decode cX6_trueCount 29 = .ok (.ior, 1) := by decide +kernel
theorem dX6_trueCount_30 : decode cX6_trueCount 30 = .ok (.istore_n 2, 1) := by decide +kernel
theorem dX6_trueCount_31 : decode cX6_trueCount 31 = .ok (.iinc 3 1, 3) := by decide +kernel
theorem dX6_trueCount_34 : decode cX6_trueCount 34 = .ok (.goto (-30), 3) := by decide +kernel
theorem dX6_trueCount_37 : decode cX6_trueCount 37 = .ok (.iload_n 2, 1) := by decide +kernel
theorem dX6_trueCount_38 : decode cX6_trueCount 38 = .ok (.invokestatic 109, 3) := by decide +kernel
theorem dX6_trueCount_41 : decode cX6_trueCount 41 = .ok (.ireturn, 1) := by decide +kernel
set_option maxRecDepth 20000 in
theorem ggX7_init_X3_init : GoodIn wsX7_init wsX3_init := goodIn_r _ [32, 33, 2, 3, 34, 35, 36, 37, 38, 75, 76, 77, 78, 79, 80] (by decide +kernel) (by decide +kernel)
set_option maxRecDepth 20000 in
theorem gX7_init_X3_init : GoodIn wsX7_init (wsX3_init) := ggX7_init_X3_init
set_option maxRecDepth 20000 in
theorem ggX7_init_X4_init : GoodIn wsX7_init wsX4_init := goodIn_r _ [41, 42, 2, 3, 43, 44, 5, 6, 45, 31, 32, 33, 34, 35, 36, 37, 38, 88, 89, 90, 75, 76, 77, 78, 79, 80] (by decide +kernel) (by decide +kernel)
set_option maxRecDepth 20000 in
theorem gX7_init_X4_init : GoodIn wsX7_init (wsX4_init) := ggX7_init_X4_init
set_option maxRecDepth 20000 in
theorem ggX7_init_X6_init : GoodIn wsX7_init wsX6_init := goodIn_r _ [48, 49, 2, 3, 35, 50, 51, 52, 53, 54, 55, 56, 57, 28, 58, 91, 92, 93, 94, 95, 96, 97, 98, 99, 100] (by decide +kernel) (by decide +kernel)
set_option maxRecDepth 20000 in
theorem gX7_init_X6_init : GoodIn wsX7_init (wsX6_init) := ggX7_init_X6_init
set_option maxRecDepth 20000 in
theorem ggX7_init_X0_init : GoodIn wsX7_init wsX0_init := goodIn_r _ [61, 62, 2, 3, 35, 63, 64, 101, 102, 103] (by decide +kernel) (by decide +kernel)
set_option maxRecDepth 20000 in
theorem gX7_init_X0_init : GoodIn wsX7_init (wsX0_init) := ggX7_init_X0_init
set_option maxRecDepth 20000 in
theorem ggX7_init_X1_init : GoodIn wsX7_init wsX1_init := goodIn_r _ [66, 67, 2, 3] (by decide +kernel) (by decide +kernel)
set_option maxRecDepth 20000 in
theorem gX7_init_X1_init_n39 : GoodIn wsX7_init (wsX1_init) := ggX7_init_X1_init
set_option maxRecDepth 20000 in
theorem ggX7_init_X2_init : GoodIn wsX7_init wsX2_init := goodIn_r _ [70, 71, 2, 3, 72, 5, 6, 73, 74, 31, 32, 33, 34, 35, 36, 37, 38, 75, 76, 77, 78, 79, 80, 105, 106, 107] (by decide +kernel) (by decide +kernel)
set_option maxRecDepth 20000 in
theorem gX7_init_X2_init : GoodIn wsX7_init (wsX2_init) := ggX7_init_X2_init
theorem dX7_init_0 : decode cX7_init 0 = .ok (.aload_n 0, 1) := by decide +kernel
theorem dX7_init_1 : decode cX7_init 1 = .ok (.invokespecial 1, 3) := by decide +kernel
theorem dX7_init_4 : decode cX7_init 4 = .ok (.aload_n 0, 1) := by decide +kernel
theorem dX7_init_5 : decode cX7_init 5 = .ok (.new 7, 3) := by decide +kernel
theorem dX7_init_8 : decode cX7_init 8 = .ok (.dup, 1) := by decide +kernel
theorem dX7_init_9 : decode cX7_init 9 = .ok (.invokespecial 9, 3) := by decide +kernel
theorem dX7_init_12 : decode cX7_init 12 = .ok (.putfield 10, 3) := by decide +kernel
theorem dX7_init_15 : decode cX7_init 15 = .ok (.aload_n 0, 1) := by decide +kernel
theorem dX7_init_16 : decode cX7_init 16 = .ok (.new 16, 3) := by decide +kernel
theorem dX7_init_19 : decode cX7_init 19 = .ok (.dup, 1) := by decide +kernel
theorem dX7_init_20 : decode cX7_init 20 = .ok (.invokespecial 18, 3) := by decide +kernel
theorem dX7_init_23 : decode cX7_init 23 = .ok (.putfield 19, 3) := by decide +kernel
theorem dX7_init_26 : decode cX7_init 26 = .ok (.aload_n 0, 1) := by decide +kernel
theorem dX7_init_27 : decode cX7_init 27 = .ok (.new 23, 3) := by decide +kernel
theorem dX7_init_30 : decode cX7_init 30 = .ok (.dup, 1) := by decide +kernel
theorem dX7_init_31 : decode cX7_init 31 = .ok (.invokespecial 25, 3) := by decide +kernel
theorem dX7_init_34 : decode cX7_init 34 = .ok (.putfield 26, 3) := by decide +kernel
theorem dX7_init_37 : decode cX7_init 37 = .ok (.aload_n 0, 1) := by decide +kernel
theorem dX7_init_38 : decode cX7_init 38 = .ok (.new 30, 3) := by decide +kernel
theorem dX7_init_41 : decode cX7_init 41 = .ok (.dup, 1) := by decide +kernel
theorem dX7_init_42 : decode cX7_init 42 = .ok (.invokespecial 32, 3) := by decide +kernel
theorem dX7_init_45 : decode cX7_init 45 = .ok (.putfield 33, 3) := by decide +kernel
theorem dX7_init_48 : decode cX7_init 48 = .ok (.aload_n 0, 1) := by decide +kernel
theorem dX7_init_49 : decode cX7_init 49 = .ok (.new 37, 3) := by decide +kernel
theorem dX7_init_52 : decode cX7_init 52 = .ok (.dup, 1) := by decide +kernel
theorem dX7_init_53 : decode cX7_init 53 = .ok (.invokespecial 39, 3) := by decide +kernel
theorem dX7_init_56 : decode cX7_init 56 = .ok (.putfield 40, 3) := by decide +kernel
theorem dX7_init_59 : decode cX7_init 59 = .ok (.aload_n 0, 1) := by decide +kernel
theorem dX7_init_60 : decode cX7_init 60 = .ok (.iconst 2, 1) := by decide +kernel
theorem dX7_init_61 : decode cX7_init 61 = .ok (.anewarray 44, 3) := by decide +kernel
theorem dX7_init_64 : decode cX7_init 64 = .ok (.putfield 46, 3) := by decide +kernel
theorem dX7_init_67 : decode cX7_init 67 = .ok (.iconst 0, 1) := by decide +kernel
theorem dX7_init_68 : decode cX7_init 68 = .ok (.istore_n 1, 1) := by decide +kernel
theorem dX7_init_69 : decode cX7_init 69 = .ok (.iload_n 1, 1) := by decide +kernel
theorem dX7_init_70 : decode cX7_init 70 = .ok (.iconst 2, 1) := by decide +kernel
theorem dX7_init_71 : decode cX7_init 71 = .ok (.if_icmp .ge 22, 3) := by decide +kernel
theorem dX7_init_74 : decode cX7_init 74 = .ok (.aload_n 0, 1) := by decide +kernel
theorem dX7_init_75 : decode cX7_init 75 = .ok (.getfield 46, 3) := by decide +kernel
theorem dX7_init_78 : decode cX7_init 78 = .ok (.iload_n 1, 1) := by decide +kernel
theorem dX7_init_79 : decode cX7_init 79 = .ok (.new 44, 3) := by decide +kernel
theorem dX7_init_82 : decode cX7_init 82 = .ok (.dup, 1) := by decide +kernel
theorem dX7_init_83 : decode cX7_init 83 = .ok (.invokespecial 50, 3) := by decide +kernel
theorem dX7_init_86 : decode cX7_init 86 = .ok (.aastore, 1) := by decide +kernel
theorem dX7_init_87 : decode cX7_init 87 = .ok (.iinc 1 1, 3) := by decide +kernel
theorem dX7_init_90 : decode cX7_init 90 = .ok (.goto (-21), 3) := by decide +kernel
theorem dX7_init_93 : decode cX7_init 93 = .ok (.aload_n 0, 1) := by decide +kernel
theorem dX7_init_94 : decode cX7_init 94 = .ok (.bipush 9, 2) := by decide +kernel
theorem dX7_init_96 : decode cX7_init 96 = .ok (.newarray .long, 2) := by decide +kernel
theorem dX7_init_98 : decode cX7_init 98 = .ok (.putfield 51, 3) := by decide +kernel
theorem dX7_init_101 : decode cX7_init 101 = .ok (.return_, 1) := by decide +kernel
set_option maxRecDepth 20000 in
theorem ggX7_told_X6_trace : GoodIn wsX7_told wsX6_trace := goodIn_r _ [21, 22, 23, 24, 20, 25, 26, 27, 28, 29, 30, 31, 32, 33, 34, 35, 36, 37, 38, 39, 40, 41, 42, 43, 44, 45, 46, 47, 48, 49, 50, 51, 52, 53, 54, 55, 56, 57, 58, 59, 60, 61, 62, 63, 64, 65, 167, 168, 169, 170, 171, 172, 173, 174, 175, 176, 161, 162, 163, 164, 165, 166] (by decide +kernel) (by decide +kernel)
set_option maxRecDepth 20000 in
theorem gX7_told_X6_trace : GoodIn wsX7_told (wsV RX7 55 RX6 yX6_trace wsX6_trace) := goodIn_app (goodIn_of _ (by decide +kernel)) ggX7_told_X6_trace
set_option maxRecDepth 20000 in
theorem ggX7_told_X7_pairsIn : GoodIn wsX7_told wsX7_pairsIn := goodIn_r _ [68, 69, 70, 71, 72, 73, 74, 75] (by decide +kernel) (by decide +kernel)
set_option maxRecDepth 20000 in
theorem gX7_told_X7_pairsIn : GoodIn wsX7_told (va_wsS RX7 67 yX7_pairsIn wsX7_pairsIn) := goodIn_app (goodIn_of _ (by decide +kernel)) ggX7_told_X7_pairsIn
set_option maxRecDepth 20000 in
theorem ggX7_told_X6_comers : GoodIn wsX7_told wsX6_comers := goodIn_r _ [79, 64, 167, 168, 169, 170, 171, 172, 173, 174, 175, 176] (by decide +kernel) (by decide +kernel)
set_option maxRecDepth 20000 in
theorem gX7_told_X6_comers : GoodIn wsX7_told (wsV RX7 83 RX6 yX6_comers wsX6_comers) := goodIn_app (goodIn_of _ (by decide +kernel)) ggX7_told_X6_comers
set_option maxRecDepth 20000 in
theorem ggX7_told_X6_trueCount : GoodIn wsX7_told wsX6_trueCount := goodIn_r _ [83, 37, 26, 84, 85, 70, 71, 72, 73, 74, 75, 161, 162, 163, 164, 165, 166, 167, 168, 169, 170, 171, 172, 173, 174, 175, 176] (by decide +kernel) (by decide +kernel)
set_option maxRecDepth 20000 in
theorem gX7_told_X6_trueCount : GoodIn wsX7_told (wsV RX7 87 RX6 yX6_trueCount wsX6_trueCount) := goodIn_app (goodIn_of _ (by decide +kernel)) ggX7_told_X6_trueCount
set_option maxRecDepth 20000 in
theorem ggX7_told_X6_allArrivals : GoodIn wsX7_told wsX6_allArrivals := goodIn_r _ [89, 65, 167, 168, 169, 170, 171, 172, 173, 174, 175, 176] (by decide +kernel) (by decide +kernel)
set_option maxRecDepth 20000 in
theorem gX7_told_X6_allArrivals : GoodIn wsX7_told (wsV RX7 94 RX6 yX6_allArrivals wsX6_allArrivals) := goodIn_app (goodIn_of _ (by decide +kernel)) ggX7_told_X6_allArrivals
set_option maxRecDepth 20000 in
theorem ggX7_told_X7_firstWrong : GoodIn wsX7_told wsX7_firstWrong := goodIn_r _ [93, 1, 2, 10, 11, 94, 95, 96, 97, 98, 99, 20, 100, 37, 101, 26, 102, 84, 103, 46, 54, 53, 52, 104, 105, 106, 107, 108, 109, 70, 71, 72, 73, 74, 75, 39, 40, 41, 110, 111, 112, 113, 114, 115, 116, 117, 118, 119, 120, 121, 122, 123, 124, 125, 126, 127, 128, 129, 130, 131, 132, 133, 134, 135, 136, 137, 138, 139, 140, 141, 142, 143, 144, 145, 146, 147, 148, 149, 150, 151, 152, 153, 154, 155, 156, 157, 158, 159, 160, 177, 178, 179, 167, 168, 169, 170, 171, 172, 173, 174, 175, 176, 161, 162, 163, 164, 165, 166] (by decide +kernel) (by decide +kernel)
set_option maxRecDepth 20000 in
theorem gX7_told_X7_firstWrong : GoodIn wsX7_told (wsV RX7 98 RX7 yX7_firstWrong wsX7_firstWrong) := goodIn_app (goodIn_of _ (by decide +kernel)) ggX7_told_X7_firstWrong
theorem dX7_told_0 : decode cX7_told 0 = .ok (.aload_n 0, 1) := by decide +kernel
theorem dX7_told_1 : decode cX7_told 1 = .ok (.getfield 26, 3) := by decide +kernel
theorem dX7_told_4 : decode cX7_told 4 = .ok (.aload_n 0, 1) := by decide +kernel
theorem dX7_told_5 : decode cX7_told 5 = .ok (.getfield 10, 3) := by decide +kernel
theorem dX7_told_8 : decode cX7_told 8 = .ok (.invokevirtual 55, 3) := by decide +kernel
theorem dX7_told_11 : decode cX7_told 11 = .ok (.iload_n 1, 1) := by decide +kernel
theorem dX7_told_12 : decode cX7_told 12 = .ok (.tableswitch 199 0 13 #[72, 80, 91, 102, 110, 118, 126, 134, 146, 154, 170, 178, 183, 191], 72) := by decide +kernel
theorem dX7_told_84 : decode cX7_told 84 = .ok (.aload_n 0, 1) := by decide +kernel
theorem dX7_told_85 : decode cX7_told 85 = .ok (.getfield 10, 3) := by decide +kernel
theorem dX7_told_88 : decode cX7_told 88 = .ok (.getfield 59, 3) := by decide +kernel
theorem dX7_told_91 : decode cX7_told 91 = .ok (.ireturn, 1) := by decide +kernel
theorem dX7_told_92 : decode cX7_told 92 = .ok (.aload_n 0, 1) := by decide +kernel
theorem dX7_told_93 : decode cX7_told 93 = .ok (.getfield 10, 3) := by decide +kernel
theorem dX7_told_96 : decode cX7_told 96 = .ok (.getfield 63, 3) := by decide +kernel
theorem dX7_told_99 : decode cX7_told 99 = .ok (.invokestatic 67, 3) := by decide +kernel
theorem dX7_told_102 : decode cX7_told 102 = .ok (.ireturn, 1) := by decide +kernel
theorem dX7_told_103 : decode cX7_told 103 = .ok (.aload_n 0, 1) := by decide +kernel
theorem dX7_told_104 : decode cX7_told 104 = .ok (.getfield 10, 3) := by decide +kernel
theorem dX7_told_107 : decode cX7_told 107 = .ok (.getfield 71, 3) := by decide +kernel
theorem dX7_told_110 : decode cX7_told 110 = .ok (.invokestatic 67, 3) := by decide +kernel
theorem dX7_told_113 : decode cX7_told 113 = .ok (.ireturn, 1) := by decide +kernel
theorem dX7_told_114 : decode cX7_told 114 = .ok (.aload_n 0, 1) := by decide +kernel
theorem dX7_told_115 : decode cX7_told 115 = .ok (.getfield 10, 3) := by decide +kernel
theorem dX7_told_118 : decode cX7_told 118 = .ok (.getfield 74, 3) := by decide +kernel
theorem dX7_told_121 : decode cX7_told 121 = .ok (.ireturn, 1) := by decide +kernel
theorem dX7_told_122 : decode cX7_told 122 = .ok (.aload_n 0, 1) := by decide +kernel
theorem dX7_told_123 : decode cX7_told 123 = .ok (.getfield 10, 3) := by decide +kernel
theorem dX7_told_126 : decode cX7_told 126 = .ok (.getfield 77, 3) := by decide +kernel
theorem dX7_told_129 : decode cX7_told 129 = .ok (.ireturn, 1) := by decide +kernel
theorem dX7_told_130 : decode cX7_told 130 = .ok (.aload_n 0, 1) := by decide +kernel
theorem dX7_told_131 : decode cX7_told 131 = .ok (.getfield 26, 3) := by decide +kernel
theorem dX7_told_134 : decode cX7_told 134 = .ok (.getfield 80, 3) := by decide +kernel
theorem dX7_told_137 : decode cX7_told 137 = .ok (.ireturn, 1) := by decide +kernel
theorem dX7_told_138 : decode cX7_told 138 = .ok (.aload_n 0, 1) := by decide +kernel
theorem dX7_told_139 : decode cX7_told 139 = .ok (.getfield 26, 3) := by decide +kernel
theorem dX7_told_142 : decode cX7_told 142 = .ok (.invokevirtual 83, 3) := by decide +kernel
theorem dX7_told_145 : decode cX7_told 145 = .ok (.ireturn, 1) := by decide +kernel
theorem dX7_told_146 : decode cX7_told 146 = .ok (.aload_n 0, 1) := by decide +kernel
theorem dX7_told_147 : decode cX7_told 147 = .ok (.getfield 26, 3) := by decide +kernel
theorem dX7_told_150 : decode cX7_told 150 = .ok (.aload_n 0, 1) := by decide +kernel
theorem dX7_told_151 : decode cX7_told 151 = .ok (.getfield 10, 3) := by decide +kernel
theorem dX7_told_154 : decode cX7_told 154 = .ok (.invokevirtual 87, 3) := by decide +kernel
theorem dX7_told_157 : decode cX7_told 157 = .ok (.ireturn, 1) := by decide +kernel
theorem dX7_told_158 : decode cX7_told 158 = .ok (.aload_n 0, 1) := by decide +kernel
theorem dX7_told_159 : decode cX7_told 159 = .ok (.getfield 26, 3) := by decide +kernel
theorem dX7_told_162 : decode cX7_told 162 = .ok (.getfield 91, 3) := by decide +kernel
theorem dX7_told_165 : decode cX7_told 165 = .ok (.ireturn, 1) := by decide +kernel
theorem dX7_told_166 : decode cX7_told 166 = .ok (.aload_n 0, 1) := by decide +kernel
theorem dX7_told_167 : decode cX7_told 167 = .ok (.getfield 26, 3) := by decide +kernel
theorem dX7_told_170 : decode cX7_told 170 = .ok (.getfield 91, 3) := by decide +kernel
theorem dX7_told_173 : decode cX7_told 173 = .ok (.aload_n 0, 1) := by decide +kernel
theorem dX7_told_174 : decode cX7_told 174 = .ok (.getfield 26, 3) := by decide +kernel
theorem dX7_told_177 : decode cX7_told 177 = .ok (.invokevirtual 94, 3) := by decide +kernel
theorem dX7_told_180 : decode cX7_told 180 = .ok (.isub, 1) := by decide +kernel
theorem dX7_told_181 : decode cX7_told 181 = .ok (.ireturn, 1) := by decide +kernel
theorem dX7_told_182 : decode cX7_told 182 = .ok (.aload_n 0, 1) := by decide +kernel
theorem dX7_told_183 : decode cX7_told 183 = .ok (.getfield 33, 3) := by decide +kernel
theorem dX7_told_186 : decode cX7_told 186 = .ok (.getfield 97, 3) := by decide +kernel
theorem dX7_told_189 : decode cX7_told 189 = .ok (.ireturn, 1) := by decide +kernel
theorem dX7_told_190 : decode cX7_told 190 = .ok (.aload_n 0, 1) := by decide +kernel
theorem dX7_told_191 : decode cX7_told 191 = .ok (.invokevirtual 98, 3) := by decide +kernel
theorem dX7_told_194 : decode cX7_told 194 = .ok (.ireturn, 1) := by decide +kernel
theorem dX7_told_195 : decode cX7_told 195 = .ok (.aload_n 0, 1) := by decide +kernel
theorem dX7_told_196 : decode cX7_told 196 = .ok (.getfield 19, 3) := by decide +kernel
theorem dX7_told_199 : decode cX7_told 199 = .ok (.getfield 101, 3) := by decide +kernel
theorem dX7_told_202 : decode cX7_told 202 = .ok (.ireturn, 1) := by decide +kernel
theorem dX7_told_203 : decode cX7_told 203 = .ok (.aload_n 0, 1) := by decide +kernel
theorem dX7_told_204 : decode cX7_told 204 = .ok (.getfield 40, 3) := by decide +kernel
theorem dX7_told_207 : decode cX7_told 207 = .ok (.getfield 102, 3) := by decide +kernel
theorem dX7_told_210 : decode cX7_told 210 = .ok (.ireturn, 1) := by decide +kernel
theorem dX7_told_211 : decode cX7_told 211 = .ok (.ldc 105, 2) := by decide +kernel
theorem dX7_told_213 : decode cX7_told 213 = .ok (.ireturn, 1) := by decide +kernel
set_option maxRecDepth 20000 in
theorem ggX7_at_X3_has : GoodIn wsX7_at wsX3_has := goodIn_r _ [14, 15, 83, 84, 85, 86, 87, 88] (by decide +kernel) (by decide +kernel)
set_option maxRecDepth 20000 in
theorem gX7_at_X3_has : GoodIn wsX7_at (wsV RX7 106 RX3 yX3_has wsX3_has) := goodIn_app (goodIn_of _ (by decide +kernel)) ggX7_at_X3_has
set_option maxRecDepth 20000 in
theorem ggX7_at_X6_trace : GoodIn wsX7_at wsX6_trace := goodIn_r _ [20, 21, 22, 23, 19, 24, 25, 26, 27, 28, 29, 30, 31, 32, 33, 34, 35, 36, 37, 38, 39, 40, 41, 42, 43, 44, 45, 46, 47, 48, 49, 50, 51, 52, 53, 54, 55, 56, 57, 58, 59, 60, 61, 62, 63, 64, 73, 74, 75, 76, 77, 78, 79, 80, 81, 82, 83, 84, 85, 86, 87, 88] (by decide +kernel) (by decide +kernel)
set_option maxRecDepth 20000 in
theorem gX7_at_X6_trace : GoodIn wsX7_at (wsV RX7 55 RX6 yX6_trace wsX6_trace) := goodIn_app (goodIn_of _ (by decide +kernel)) ggX7_at_X6_trace
set_option maxRecDepth 20000 in
theorem ggX7_at_X6_uppers : GoodIn wsX7_at wsX6_uppers := goodIn_r _ [58, 25, 37, 27, 73, 74, 75, 76, 77, 78, 79, 80, 81, 82, 83, 84, 85, 86, 87, 88] (by decide +kernel) (by decide +kernel)
set_option maxRecDepth 20000 in
theorem gX7_at_X6_uppers : GoodIn wsX7_at (wsV RX7 114 RX6 yX6_uppers wsX6_uppers) := goodIn_app (goodIn_of _ (by decide +kernel)) ggX7_at_X6_uppers
theorem dX7_at_0 : decode cX7_at 0 = .ok (.aload_n 0, 1) := by decide +kernel
theorem dX7_at_1 : decode cX7_at 1 = .ok (.getfield 10, 3) := by decide +kernel
theorem dX7_at_4 : decode cX7_at 4 = .ok (.iload_n 1, 1) := by decide +kernel
theorem dX7_at_5 : decode cX7_at 5 = .ok (.invokevirtual 106, 3) := by decide +kernel
theorem dX7_at_8 : decode cX7_at 8 = .ok (.ifCond .ne 6, 3) := by decide +kernel
theorem dX7_at_11 : decode cX7_at 11 = .ok (.ldc 110, 2) := by decide +kernel
theorem dX7_at_13 : decode cX7_at 13 = .ok (.ireturn, 1) := by decide +kernel
theorem dX7_at_14 : decode cX7_at 14 = .ok (.aload_n 0, 1) := by decide +kernel
theorem dX7_at_15 : decode cX7_at 15 = .ok (.getfield 26, 3) := by decide +kernel
theorem dX7_at_18 : decode cX7_at 18 = .ok (.aload_n 0, 1) := by decide +kernel
theorem dX7_at_19 : decode cX7_at 19 = .ok (.getfield 10, 3) := by decide +kernel
theorem dX7_at_22 : decode cX7_at 22 = .ok (.invokevirtual 55, 3) := by decide +kernel
theorem dX7_at_25 : decode cX7_at 25 = .ok (.iload_n 2, 1) := by decide +kernel
theorem dX7_at_26 : decode cX7_at 26 = .ok (.tableswitch 101 0 5 #[38, 48, 58, 71, 81, 91], 38) := by decide +kernel
theorem dX7_at_64 : decode cX7_at 64 = .ok (.aload_n 0, 1) := by decide +kernel
theorem dX7_at_65 : decode cX7_at 65 = .ok (.getfield 26, 3) := by decide +kernel
theorem dX7_at_68 : decode cX7_at 68 = .ok (.getfield 111, 3) := by decide +kernel
theorem dX7_at_71 : decode cX7_at 71 = .ok (.iload_n 1, 1) := by decide +kernel
theorem dX7_at_72 : decode cX7_at 72 = .ok (.iaload, 1) := by decide +kernel
theorem dX7_at_73 : decode cX7_at 73 = .ok (.ireturn, 1) := by decide +kernel
theorem dX7_at_74 : decode cX7_at 74 = .ok (.aload_n 0, 1) := by decide +kernel
theorem dX7_at_75 : decode cX7_at 75 = .ok (.getfield 10, 3) := by decide +kernel
theorem dX7_at_78 : decode cX7_at 78 = .ok (.getfield 63, 3) := by decide +kernel
theorem dX7_at_81 : decode cX7_at 81 = .ok (.iload_n 1, 1) := by decide +kernel
theorem dX7_at_82 : decode cX7_at 82 = .ok (.iaload, 1) := by decide +kernel
theorem dX7_at_83 : decode cX7_at 83 = .ok (.ireturn, 1) := by decide +kernel
theorem dX7_at_84 : decode cX7_at 84 = .ok (.aload_n 0, 1) := by decide +kernel
theorem dX7_at_85 : decode cX7_at 85 = .ok (.getfield 26, 3) := by decide +kernel
theorem dX7_at_88 : decode cX7_at 88 = .ok (.aload_n 0, 1) := by decide +kernel
theorem dX7_at_89 : decode cX7_at 89 = .ok (.getfield 10, 3) := by decide +kernel
theorem dX7_at_92 : decode cX7_at 92 = .ok (.iload_n 1, 1) := by decide +kernel
theorem dX7_at_93 : decode cX7_at 93 = .ok (.invokevirtual 114, 3) := by decide +kernel
theorem dX7_at_96 : decode cX7_at 96 = .ok (.ireturn, 1) := by decide +kernel
theorem dX7_at_97 : decode cX7_at 97 = .ok (.aload_n 0, 1) := by decide +kernel
theorem dX7_at_98 : decode cX7_at 98 = .ok (.getfield 10, 3) := by decide +kernel
theorem dX7_at_101 : decode cX7_at 101 = .ok (.getfield 118, 3) := by decide +kernel
theorem dX7_at_104 : decode cX7_at 104 = .ok (.iload_n 1, 1) := by decide +kernel
theorem dX7_at_105 : decode cX7_at 105 = .ok (.iaload, 1) := by decide +kernel
theorem dX7_at_106 : decode cX7_at 106 = .ok (.ireturn, 1) := by decide +kernel
theorem dX7_at_107 : decode cX7_at 107 = .ok (.aload_n 0, 1) := by decide +kernel
theorem dX7_at_108 : decode cX7_at 108 = .ok (.getfield 26, 3) := by decide +kernel
theorem dX7_at_111 : decode cX7_at 111 = .ok (.getfield 121, 3) := by decide +kernel
theorem dX7_at_114 : decode cX7_at 114 = .ok (.iload_n 1, 1) := by decide +kernel
theorem dX7_at_115 : decode cX7_at 115 = .ok (.iaload, 1) := by decide +kernel
theorem dX7_at_116 : decode cX7_at 116 = .ok (.ireturn, 1) := by decide +kernel
theorem dX7_at_117 : decode cX7_at 117 = .ok (.aload_n 0, 1) := by decide +kernel
theorem dX7_at_118 : decode cX7_at 118 = .ok (.getfield 26, 3) := by decide +kernel
theorem dX7_at_121 : decode cX7_at 121 = .ok (.getfield 124, 3) := by decide +kernel
theorem dX7_at_124 : decode cX7_at 124 = .ok (.iload_n 1, 1) := by decide +kernel
theorem dX7_at_125 : decode cX7_at 125 = .ok (.iaload, 1) := by decide +kernel
theorem dX7_at_126 : decode cX7_at 126 = .ok (.ireturn, 1) := by decide +kernel
theorem dX7_at_127 : decode cX7_at 127 = .ok (.ldc 105, 2) := by decide +kernel
theorem dX7_at_129 : decode cX7_at 129 = .ok (.ireturn, 1) := by decide +kernel
set_option maxRecDepth 20000 in
theorem ggX7_isLost_X3_hasLink : GoodIn wsX7_isLost wsX3_hasLink := goodIn_r _ [7, 8, 9, 10, 11, 6, 12, 13, 14, 15, 16, 29, 30, 31, 32, 33, 34] (by decide +kernel) (by decide +kernel)
set_option maxRecDepth 20000 in
theorem gX7_isLost_X3_hasLink : GoodIn wsX7_isLost (wsV RX7 127 RX3 yX3_hasLink wsX3_hasLink) := goodIn_app (goodIn_of _ (by decide +kernel)) ggX7_isLost_X3_hasLink
set_option maxRecDepth 20000 in
theorem ggX7_isLost_X3_hasLost : GoodIn wsX7_isLost wsX3_hasLost := goodIn_r _ [20, 21, 9, 10, 11, 6, 12, 13, 14, 15, 16, 29, 30, 31, 32, 33, 34] (by decide +kernel) (by decide +kernel)
set_option maxRecDepth 20000 in
theorem gX7_isLost_X3_hasLost : GoodIn wsX7_isLost (wsV RX7 131 RX3 yX3_hasLost wsX3_hasLost) := goodIn_app (goodIn_of _ (by decide +kernel)) ggX7_isLost_X3_hasLost
theorem dX7_isLost_0 : decode cX7_isLost 0 = .ok (.aload_n 0, 1) := by decide +kernel
theorem dX7_isLost_1 : decode cX7_isLost 1 = .ok (.getfield 10, 3) := by decide +kernel
theorem dX7_isLost_4 : decode cX7_isLost 4 = .ok (.iload_n 1, 1) := by decide +kernel
theorem dX7_isLost_5 : decode cX7_isLost 5 = .ok (.iload_n 2, 1) := by decide +kernel
theorem dX7_isLost_6 : decode cX7_isLost 6 = .ok (.invokevirtual 127, 3) := by decide +kernel
theorem dX7_isLost_9 : decode cX7_isLost 9 = .ok (.ifCond .ne 6, 3) := by decide +kernel
theorem dX7_isLost_12 : decode cX7_isLost 12 = .ok (.ldc 110, 2) := by decide +kernel
theorem dX7_isLost_14 : decode cX7_isLost 14 = .ok (.ireturn, 1) := by decide +kernel
theorem dX7_isLost_15 : decode cX7_isLost 15 = .ok (.aload_n 0, 1) := by decide +kernel
theorem dX7_isLost_16 : decode cX7_isLost 16 = .ok (.getfield 10, 3) := by decide +kernel
theorem dX7_isLost_19 : decode cX7_isLost 19 = .ok (.iload_n 1, 1) := by decide +kernel
theorem dX7_isLost_20 : decode cX7_isLost 20 = .ok (.iload_n 2, 1) := by decide +kernel
theorem dX7_isLost_21 : decode cX7_isLost 21 = .ok (.invokevirtual 131, 3) := by decide +kernel
theorem dX7_isLost_24 : decode cX7_isLost 24 = .ok (.ifCond .eq 7, 3) := by decide +kernel
theorem dX7_isLost_27 : decode cX7_isLost 27 = .ok (.iconst 1, 1) := by decide +kernel
theorem dX7_isLost_28 : decode cX7_isLost 28 = .ok (.goto 4, 3) := by decide +kernel
theorem dX7_isLost_31 : decode cX7_isLost 31 = .ok (.iconst 0, 1) := by decide +kernel
theorem dX7_isLost_32 : decode cX7_isLost 32 = .ok (.ireturn, 1) := by decide +kernel
set_option maxRecDepth 20000 in
theorem ggX7_mark_X7_within : GoodIn wsX7_mark wsX7_within := goodIn_r _ [7] (by decide +kernel) (by decide +kernel)
set_option maxRecDepth 20000 in
theorem gX7_mark_X7_within : GoodIn wsX7_mark (va_wsS RX7 134 yX7_within wsX7_within) := goodIn_app (goodIn_of _ (by decide +kernel)) ggX7_mark_X7_within
set_option maxRecDepth 20000 in
theorem ggX7_mark_X7_markOf : GoodIn wsX7_mark wsX7_markOf := goodIn_r _ [10, 11, 12, 13, 14] (by decide +kernel) (by decide +kernel)
set_option maxRecDepth 20000 in
theorem gX7_mark_X7_markOf : GoodIn wsX7_mark (va_wsS RX7 138 yX7_markOf wsX7_markOf) := goodIn_app (goodIn_of _ (by decide +kernel)) ggX7_mark_X7_markOf
set_option maxRecDepth 20000 in
theorem ggX7_mark_X7_rankOf : GoodIn wsX7_mark wsX7_rankOf := goodIn_r _ [17] (by decide +kernel) (by decide +kernel)
set_option maxRecDepth 20000 in
theorem gX7_mark_X7_rankOf : GoodIn wsX7_mark (va_wsS RX7 142 yX7_rankOf wsX7_rankOf) := goodIn_app (goodIn_of _ (by decide +kernel)) ggX7_mark_X7_rankOf
theorem dX7_mark_0 : decode cX7_mark 0 = .ok (.iload_n 1, 1) := by decide +kernel
theorem dX7_mark_1 : decode cX7_mark 1 = .ok (.iconst 0, 1) := by decide +kernel
theorem dX7_mark_2 : decode cX7_mark 2 = .ok (.bipush 15, 2) := by decide +kernel
theorem dX7_mark_4 : decode cX7_mark 4 = .ok (.invokestatic 134, 3) := by decide +kernel
theorem dX7_mark_7 : decode cX7_mark 7 = .ok (.ifCond .eq 12, 3) := by decide +kernel
theorem dX7_mark_10 : decode cX7_mark 10 = .ok (.iload_n 2, 1) := by decide +kernel
theorem dX7_mark_11 : decode cX7_mark 11 = .ok (.iconst 0, 1) := by decide +kernel
theorem dX7_mark_12 : decode cX7_mark 12 = .ok (.iconst 1, 1) := by decide +kernel
theorem dX7_mark_13 : decode cX7_mark 13 = .ok (.invokestatic 134, 3) := by decide +kernel
theorem dX7_mark_16 : decode cX7_mark 16 = .ok (.ifCond .ne 6, 3) := by decide +kernel
theorem dX7_mark_19 : decode cX7_mark 19 = .ok (.ldc 105, 2) := by decide +kernel
theorem dX7_mark_21 : decode cX7_mark 21 = .ok (.ireturn, 1) := by decide +kernel
theorem dX7_mark_22 : decode cX7_mark 22 = .ok (.iload_n 1, 1) := by decide +kernel
theorem dX7_mark_23 : decode cX7_mark 23 = .ok (.aload_n 0, 1) := by decide +kernel
theorem dX7_mark_24 : decode cX7_mark 24 = .ok (.getfield 10, 3) := by decide +kernel
theorem dX7_mark_27 : decode cX7_mark 27 = .ok (.getfield 74, 3) := by decide +kernel
theorem dX7_mark_30 : decode cX7_mark 30 = .ok (.invokestatic 138, 3) := by decide +kernel
theorem dX7_mark_33 : decode cX7_mark 33 = .ok (.istore_n 3, 1) := by decide +kernel
theorem dX7_mark_34 : decode cX7_mark 34 = .ok (.iload_n 2, 1) := by decide +kernel
theorem dX7_mark_35 : decode cX7_mark 35 = .ok (.ifCond .ne 7, 3) := by decide +kernel
theorem dX7_mark_38 : decode cX7_mark 38 = .ok (.iload_n 3, 1) := by decide +kernel
theorem dX7_mark_39 : decode cX7_mark 39 = .ok (.goto 7, 3) := by decide +kernel
theorem dX7_mark_42 : decode cX7_mark 42 = .ok (.iload_n 3, 1) := by decide +kernel
theorem dX7_mark_43 : decode cX7_mark 43 = .ok (.invokestatic 142, 3) := by decide +kernel
theorem dX7_mark_46 : decode cX7_mark 46 = .ok (.ireturn, 1) := by decide +kernel
set_option maxRecDepth 20000 in
theorem ggX7_holds_X3_has : GoodIn wsX7_holds wsX3_has := goodIn_r _ [10, 11, 126, 127, 128, 129, 130, 131] (by decide +kernel) (by decide +kernel)
set_option maxRecDepth 20000 in
theorem gX7_holds_X3_has : GoodIn wsX7_holds (wsV RX7 106 RX3 yX3_has wsX3_has) := goodIn_app (goodIn_of _ (by decide +kernel)) ggX7_holds_X3_has
set_option maxRecDepth 20000 in
theorem ggX7_holds_X7_within : GoodIn wsX7_holds wsX7_within := goodIn_r _ [15] (by decide +kernel) (by decide +kernel)
set_option maxRecDepth 20000 in
theorem gX7_holds_X7_within : GoodIn wsX7_holds (va_wsS RX7 134 yX7_within wsX7_within) := goodIn_app (goodIn_of _ (by decide +kernel)) ggX7_holds_X7_within
set_option maxRecDepth 20000 in
theorem ggX7_holds_X6_trace : GoodIn wsX7_holds wsX6_trace := goodIn_r _ [20, 21, 22, 23, 19, 24, 25, 26, 27, 28, 29, 30, 31, 32, 33, 34, 35, 36, 37, 38, 14, 39, 40, 41, 42, 43, 44, 45, 46, 47, 48, 49, 50, 51, 52, 53, 54, 55, 56, 57, 58, 59, 60, 61, 62, 63, 116, 117, 118, 119, 120, 121, 122, 123, 124, 125, 126, 127, 128, 129, 130, 131] (by decide +kernel) (by decide +kernel)
set_option maxRecDepth 20000 in
theorem gX7_holds_X6_trace : GoodIn wsX7_holds (wsV RX7 55 RX6 yX6_trace wsX6_trace) := goodIn_app (goodIn_of _ (by decide +kernel)) ggX7_holds_X6_trace
set_option maxRecDepth 20000 in
theorem ggX7_holds_X6_gather : GoodIn wsX7_holds wsX6_gather := goodIn_r _ [67, 36, 68, 25, 69, 70, 71, 44, 52, 51, 50, 72, 73, 74, 75, 76, 77, 78, 79, 80, 81, 82, 83, 38, 14, 39, 84, 85, 86, 87, 88, 89, 90, 91, 92, 93, 94, 95, 96, 97, 98, 99, 100, 101, 102, 103, 104, 105, 106, 107, 108, 126, 127, 128, 129, 130, 131, 116, 117, 118, 119, 120, 121, 122, 123, 124, 125] (by decide +kernel) (by decide +kernel)
set_option maxRecDepth 20000 in
theorem gX7_holds_X6_gather : GoodIn wsX7_holds (wsV RX7 150 RX6 yX6_gather wsX6_gather) := goodIn_app (goodIn_of _ (by decide +kernel)) ggX7_holds_X6_gather
theorem dX7_holds_0 : decode cX7_holds 0 = .ok (.aload_n 0, 1) := by decide +kernel
theorem dX7_holds_1 : decode cX7_holds 1 = .ok (.getfield 10, 3) := by decide +kernel
theorem dX7_holds_4 : decode cX7_holds 4 = .ok (.iload_n 1, 1) := by decide +kernel
theorem dX7_holds_5 : decode cX7_holds 5 = .ok (.invokevirtual 106, 3) := by decide +kernel
theorem dX7_holds_8 : decode cX7_holds 8 = .ok (.ifCond .ne 7, 3) := by decide +kernel
theorem dX7_holds_11 : decode cX7_holds 11 = .ok (.ldc2_w 146, 3) := by decide +kernel
theorem dX7_holds_14 : decode cX7_holds 14 = .ok (.lreturn, 1) := by decide +kernel
theorem dX7_holds_15 : decode cX7_holds 15 = .ok (.iload_n 2, 1) := by decide +kernel
theorem dX7_holds_16 : decode cX7_holds 16 = .ok (.iconst 0, 1) := by decide +kernel
theorem dX7_holds_17 : decode cX7_holds 17 = .ok (.iconst 3, 1) := by decide +kernel
theorem dX7_holds_18 : decode cX7_holds 18 = .ok (.invokestatic 134, 3) := by decide +kernel
theorem dX7_holds_21 : decode cX7_holds 21 = .ok (.ifCond .ne 7, 3) := by decide +kernel
theorem dX7_holds_24 : decode cX7_holds 24 = .ok (.ldc2_w 148, 3) := by decide +kernel
theorem dX7_holds_27 : decode cX7_holds 27 = .ok (.lreturn, 1) := by decide +kernel
theorem dX7_holds_28 : decode cX7_holds 28 = .ok (.aload_n 0, 1) := by decide +kernel
theorem dX7_holds_29 : decode cX7_holds 29 = .ok (.getfield 26, 3) := by decide +kernel
theorem dX7_holds_32 : decode cX7_holds 32 = .ok (.aload_n 0, 1) := by decide +kernel
theorem dX7_holds_33 : decode cX7_holds 33 = .ok (.getfield 10, 3) := by decide +kernel
theorem dX7_holds_36 : decode cX7_holds 36 = .ok (.invokevirtual 55, 3) := by decide +kernel
theorem dX7_holds_39 : decode cX7_holds 39 = .ok (.aload_n 0, 1) := by decide +kernel
theorem dX7_holds_40 : decode cX7_holds 40 = .ok (.getfield 26, 3) := by decide +kernel
theorem dX7_holds_43 : decode cX7_holds 43 = .ok (.aload_n 0, 1) := by decide +kernel
theorem dX7_holds_44 : decode cX7_holds 44 = .ok (.getfield 10, 3) := by decide +kernel
theorem dX7_holds_47 : decode cX7_holds 47 = .ok (.iload_n 2, 1) := by decide +kernel
theorem dX7_holds_48 : decode cX7_holds 48 = .ok (.invokevirtual 150, 3) := by decide +kernel
theorem dX7_holds_51 : decode cX7_holds 51 = .ok (.aload_n 0, 1) := by decide +kernel
theorem dX7_holds_52 : decode cX7_holds 52 = .ok (.getfield 26, 3) := by decide +kernel
theorem dX7_holds_55 : decode cX7_holds 55 = .ok (.getfield 154, 3) := by decide +kernel
theorem dX7_holds_58 : decode cX7_holds 58 = .ok (.iload_n 1, 1) := by decide +kernel
theorem dX7_holds_59 : decode cX7_holds 59 = .ok (.laload, 1) := by decide +kernel
theorem dX7_holds_60 : decode cX7_holds 60 = .ok (.lreturn, 1) := by decide +kernel
set_option maxRecDepth 20000 in
theorem ggX7_guess_X3_has : GoodIn wsX7_guess wsX3_has := goodIn_r _ [9, 10, 129, 130, 131, 132, 133, 134] (by decide +kernel) (by decide +kernel)
set_option maxRecDepth 20000 in
theorem gX7_guess_X3_has : GoodIn wsX7_guess (wsV RX7 106 RX3 yX3_has wsX3_has) := goodIn_app (goodIn_of _ (by decide +kernel)) ggX7_guess_X3_has
set_option maxRecDepth 20000 in
theorem ggX7_guess_X7_within : GoodIn wsX7_guess wsX7_within := goodIn_r _ [14] (by decide +kernel) (by decide +kernel)
set_option maxRecDepth 20000 in
theorem gX7_guess_X7_within : GoodIn wsX7_guess (va_wsS RX7 134 yX7_within wsX7_within) := goodIn_app (goodIn_of _ (by decide +kernel)) ggX7_guess_X7_within
set_option maxRecDepth 20000 in
theorem ggX7_guess_X6_trace : GoodIn wsX7_guess wsX6_trace := goodIn_r _ [19, 20, 21, 22, 18, 23, 24, 25, 26, 27, 28, 29, 30, 31, 32, 33, 34, 35, 36, 37, 13, 38, 39, 40, 41, 42, 43, 44, 45, 46, 47, 48, 49, 50, 51, 52, 53, 54, 55, 56, 57, 58, 59, 60, 61, 62, 135, 136, 137, 138, 139, 140, 141, 142, 143, 144, 129, 130, 131, 132, 133, 134] (by decide +kernel) (by decide +kernel)
set_option maxRecDepth 20000 in
theorem gX7_guess_X6_trace : GoodIn wsX7_guess (wsV RX7 55 RX6 yX6_trace wsX6_trace) := goodIn_app (goodIn_of _ (by decide +kernel)) ggX7_guess_X6_trace
set_option maxRecDepth 20000 in
theorem ggX7_guess_X6_gather : GoodIn wsX7_guess wsX6_gather := goodIn_r _ [66, 35, 67, 24, 68, 69, 70, 43, 51, 50, 49, 71, 72, 73, 74, 75, 76, 77, 78, 79, 80, 81, 82, 37, 13, 38, 83, 84, 85, 86, 87, 88, 89, 90, 91, 92, 93, 94, 95, 96, 97, 98, 99, 100, 101, 102, 103, 104, 105, 106, 107, 129, 130, 131, 132, 133, 134, 135, 136, 137, 138, 139, 140, 141, 142, 143, 144] (by decide +kernel) (by decide +kernel)
set_option maxRecDepth 20000 in
theorem gX7_guess_X6_gather : GoodIn wsX7_guess (wsV RX7 150 RX6 yX6_gather wsX6_gather) := goodIn_app (goodIn_of _ (by decide +kernel)) ggX7_guess_X6_gather
set_option maxRecDepth 20000 in
theorem ggX7_guess_X7_guessOf : GoodIn wsX7_guess wsX7_guessOf := goodIn_r _ [111, 4, 112, 113, 114, 115, 73, 116, 117, 118, 119, 120, 121, 94, 95, 96, 92, 97, 98, 99, 100, 101, 102, 93, 122, 123, 124, 125, 126, 127, 128, 135, 136, 137, 138, 139, 140, 141, 142, 143, 144] (by decide +kernel) (by decide +kernel)
set_option maxRecDepth 20000 in
theorem gX7_guess_X7_guessOf : GoodIn wsX7_guess (wsV RX7 157 RX7 yX7_guessOf wsX7_guessOf) := goodIn_app (goodIn_of _ (by decide +kernel)) ggX7_guess_X7_guessOf
theorem dX7_guess_0 : decode cX7_guess 0 = .ok (.aload_n 0, 1) := by decide +kernel
theorem dX7_guess_1 : decode cX7_guess 1 = .ok (.getfield 10, 3) := by decide +kernel
theorem dX7_guess_4 : decode cX7_guess 4 = .ok (.iload_n 1, 1) := by decide +kernel
theorem dX7_guess_5 : decode cX7_guess 5 = .ok (.invokevirtual 106, 3) := by decide +kernel
theorem dX7_guess_8 : decode cX7_guess 8 = .ok (.ifCond .ne 6, 3) := by decide +kernel
theorem dX7_guess_11 : decode cX7_guess 11 = .ok (.ldc 110, 2) := by decide +kernel
theorem dX7_guess_13 : decode cX7_guess 13 = .ok (.ireturn, 1) := by decide +kernel
theorem dX7_guess_14 : decode cX7_guess 14 = .ok (.iload_n 2, 1) := by decide +kernel
theorem dX7_guess_15 : decode cX7_guess 15 = .ok (.iconst 1, 1) := by decide +kernel
theorem dX7_guess_16 : decode cX7_guess 16 = .ok (.iconst 2, 1) := by decide +kernel
theorem dX7_guess_17 : decode cX7_guess 17 = .ok (.invokestatic 134, 3) := by decide +kernel
theorem dX7_guess_20 : decode cX7_guess 20 = .ok (.ifCond .ne 6, 3) := by decide +kernel
theorem dX7_guess_23 : decode cX7_guess 23 = .ok (.ldc 105, 2) := by decide +kernel
theorem dX7_guess_25 : decode cX7_guess 25 = .ok (.ireturn, 1) := by decide +kernel
theorem dX7_guess_26 : decode cX7_guess 26 = .ok (.aload_n 0, 1) := by decide +kernel
theorem dX7_guess_27 : decode cX7_guess 27 = .ok (.getfield 26, 3) := by decide +kernel
theorem dX7_guess_30 : decode cX7_guess 30 = .ok (.aload_n 0, 1) := by decide +kernel
theorem dX7_guess_31 : decode cX7_guess 31 = .ok (.getfield 10, 3) := by decide +kernel
theorem dX7_guess_34 : decode cX7_guess 34 = .ok (.invokevirtual 55, 3) := by decide +kernel
theorem dX7_guess_37 : decode cX7_guess 37 = .ok (.aload_n 0, 1) := by decide +kernel
theorem dX7_guess_38 : decode cX7_guess 38 = .ok (.getfield 26, 3) := by decide +kernel
theorem dX7_guess_41 : decode cX7_guess 41 = .ok (.aload_n 0, 1) := by decide +kernel
theorem dX7_guess_42 : decode cX7_guess 42 = .ok (.getfield 10, 3) := by decide +kernel
theorem dX7_guess_45 : decode cX7_guess 45 = .ok (.iload_n 2, 1) := by decide +kernel
theorem dX7_guess_46 : decode cX7_guess 46 = .ok (.invokevirtual 150, 3) := by decide +kernel
theorem dX7_guess_49 : decode cX7_guess 49 = .ok (.aload_n 0, 1) := by decide +kernel
theorem dX7_guess_50 : decode cX7_guess 50 = .ok (.iload_n 1, 1) := by decide +kernel
theorem dX7_guess_51 : decode cX7_guess 51 = .ok (.iload_n 2, 1) := by decide +kernel
theorem dX7_guess_52 : decode cX7_guess 52 = .ok (.invokevirtual 157, 3) := by decide +kernel
theorem dX7_guess_55 : decode cX7_guess 55 = .ok (.ireturn, 1) := by decide +kernel
set_option maxRecDepth 20000 in
theorem ggX7_off_X7_within : GoodIn wsX7_off wsX7_within := goodIn_r _ [8] (by decide +kernel) (by decide +kernel)
set_option maxRecDepth 20000 in
theorem gX7_off_X7_within : GoodIn wsX7_off (va_wsS RX7 134 yX7_within wsX7_within) := goodIn_app (goodIn_of _ (by decide +kernel)) ggX7_off_X7_within
set_option maxRecDepth 20000 in
theorem ggX7_off_X6_trace : GoodIn wsX7_off wsX6_trace := goodIn_r _ [13, 14, 15, 16, 12, 17, 18, 19, 20, 21, 22, 23, 24, 25, 26, 27, 28, 29, 30, 31, 7, 32, 33, 34, 35, 36, 37, 38, 39, 40, 41, 42, 43, 44, 45, 46, 47, 48, 49, 50, 51, 52, 53, 54, 55, 56, 128, 129, 130, 131, 132, 133, 134, 135, 136, 137, 138, 139, 140, 141, 142, 143] (by decide +kernel) (by decide +kernel)
set_option maxRecDepth 20000 in
theorem gX7_off_X6_trace : GoodIn wsX7_off (wsV RX7 55 RX6 yX6_trace wsX6_trace) := goodIn_app (goodIn_of _ (by decide +kernel)) ggX7_off_X6_trace
set_option maxRecDepth 20000 in
theorem ggX7_off_X6_gather : GoodIn wsX7_off wsX6_gather := goodIn_r _ [60, 29, 61, 18, 62, 63, 64, 37, 45, 44, 43, 65, 66, 67, 68, 69, 70, 71, 72, 73, 74, 75, 76, 31, 7, 32, 77, 78, 79, 80, 81, 82, 83, 84, 85, 86, 87, 88, 89, 90, 91, 92, 93, 94, 95, 96, 97, 98, 99, 100, 101, 138, 139, 140, 141, 142, 143, 128, 129, 130, 131, 132, 133, 134, 135, 136, 137] (by decide +kernel) (by decide +kernel)
set_option maxRecDepth 20000 in
theorem gX7_off_X6_gather : GoodIn wsX7_off (wsV RX7 150 RX6 yX6_gather wsX6_gather) := goodIn_app (goodIn_of _ (by decide +kernel)) ggX7_off_X6_gather
set_option maxRecDepth 20000 in
theorem ggX7_off_X7_guessOf : GoodIn wsX7_off wsX7_guessOf := goodIn_r _ [105, 2, 106, 107, 108, 109, 67, 110, 111, 112, 113, 114, 115, 88, 89, 90, 86, 91, 92, 93, 94, 95, 96, 87, 121, 122, 123, 124, 125, 126, 127, 128, 129, 130, 131, 132, 133, 134, 135, 136, 137] (by decide +kernel) (by decide +kernel)
set_option maxRecDepth 20000 in
theorem gX7_off_X7_guessOf : GoodIn wsX7_off (wsV RX7 157 RX7 yX7_guessOf wsX7_guessOf) := goodIn_app (goodIn_of _ (by decide +kernel)) ggX7_off_X7_guessOf
set_option maxRecDepth 20000 in
theorem ggX7_off_X6_trueCount : GoodIn wsX7_off wsX6_trueCount := goodIn_r _ [119, 29, 18, 63, 120, 71, 72, 73, 74, 75, 76, 138, 139, 140, 141, 142, 143, 128, 129, 130, 131, 132, 133, 134, 135, 136, 137] (by decide +kernel) (by decide +kernel)
set_option maxRecDepth 20000 in
theorem gX7_off_X6_trueCount : GoodIn wsX7_off (wsV RX7 87 RX6 yX6_trueCount wsX6_trueCount) := goodIn_app (goodIn_of _ (by decide +kernel)) ggX7_off_X6_trueCount
theorem dX7_off_0 : decode cX7_off 0 = .ok (.iload_n 1, 1) := by decide +kernel
theorem dX7_off_1 : decode cX7_off 1 = .ok (.iconst 1, 1) := by decide +kernel
theorem dX7_off_2 : decode cX7_off 2 = .ok (.iconst 2, 1) := by decide +kernel
theorem dX7_off_3 : decode cX7_off 3 = .ok (.invokestatic 134, 3) := by decide +kernel
theorem dX7_off_6 : decode cX7_off 6 = .ok (.ifCond .ne 6, 3) := by decide +kernel
theorem dX7_off_9 : decode cX7_off 9 = .ok (.ldc 105, 2) := by decide +kernel
theorem dX7_off_11 : decode cX7_off 11 = .ok (.ireturn, 1) := by decide +kernel
theorem dX7_off_12 : decode cX7_off 12 = .ok (.aload_n 0, 1) := by decide +kernel
theorem dX7_off_13 : decode cX7_off 13 = .ok (.getfield 26, 3) := by decide +kernel
theorem dX7_off_16 : decode cX7_off 16 = .ok (.aload_n 0, 1) := by decide +kernel
theorem dX7_off_17 : decode cX7_off 17 = .ok (.getfield 10, 3) := by decide +kernel
theorem dX7_off_20 : decode cX7_off 20 = .ok (.invokevirtual 55, 3) := by decide +kernel
theorem dX7_off_23 : decode cX7_off 23 = .ok (.aload_n 0, 1) := by decide +kernel
theorem dX7_off_24 : decode cX7_off 24 = .ok (.getfield 26, 3) := by decide +kernel
theorem dX7_off_27 : decode cX7_off 27 = .ok (.aload_n 0, 1) := by decide +kernel
theorem dX7_off_28 : decode cX7_off 28 = .ok (.getfield 10, 3) := by decide +kernel
theorem dX7_off_31 : decode cX7_off 31 = .ok (.iload_n 1, 1) := by decide +kernel
theorem dX7_off_32 : decode cX7_off 32 = .ok (.invokevirtual 150, 3) := by decide +kernel
theorem dX7_off_35 : decode cX7_off 35 = .ok (.aload_n 0, 1) := by decide +kernel
theorem dX7_off_36 : decode cX7_off 36 = .ok (.iconst 0, 1) := by decide +kernel
theorem dX7_off_37 : decode cX7_off 37 = .ok (.iload_n 1, 1) := by decide +kernel
theorem dX7_off_38 : decode cX7_off 38 = .ok (.invokevirtual 157, 3) := by decide +kernel
theorem dX7_off_41 : decode cX7_off 41 = .ok (.aload_n 0, 1) := by decide +kernel
theorem dX7_off_42 : decode cX7_off 42 = .ok (.getfield 26, 3) := by decide +kernel
theorem dX7_off_45 : decode cX7_off 45 = .ok (.aload_n 0, 1) := by decide +kernel
theorem dX7_off_46 : decode cX7_off 46 = .ok (.getfield 10, 3) := by decide +kernel
theorem dX7_off_49 : decode cX7_off 49 = .ok (.invokevirtual 87, 3) := by decide +kernel
theorem dX7_off_52 : decode cX7_off 52 = .ok (.isub, 1) := by decide +kernel
theorem dX7_off_53 : decode cX7_off 53 = .ok (.ldc 160, 2) := by decide +kernel
theorem dX7_off_55 : decode cX7_off 55 = .ok (.iadd, 1) := by decide +kernel
theorem dX7_off_56 : decode cX7_off 56 = .ok (.ireturn, 1) := by decide +kernel
set_option maxRecDepth 20000 in
theorem ggX7_letter_X6_trace : GoodIn wsX7_letter wsX6_trace := goodIn_r _ [13, 14, 15, 16, 12, 17, 18, 19, 20, 21, 22, 23, 24, 25, 26, 27, 28, 29, 30, 31, 32, 33, 34, 35, 36, 37, 38, 39, 40, 41, 42, 43, 44, 45, 46, 47, 48, 49, 50, 51, 52, 53, 54, 55, 56, 57, 68, 69, 70, 71, 72, 73, 74, 75, 76, 77, 78, 79, 80, 81, 82, 83] (by decide +kernel) (by decide +kernel)
set_option maxRecDepth 20000 in
theorem gX7_letter_X6_trace : GoodIn wsX7_letter (wsV RX7 55 RX6 yX6_trace wsX6_trace) := goodIn_app (goodIn_of _ (by decide +kernel)) ggX7_letter_X6_trace
set_option maxRecDepth 20000 in
theorem ggX7_letter_X7_within : GoodIn wsX7_letter wsX7_within := goodIn_r _ [60] (by decide +kernel) (by decide +kernel)
set_option maxRecDepth 20000 in
theorem gX7_letter_X7_within : GoodIn wsX7_letter (va_wsS RX7 134 yX7_within wsX7_within) := goodIn_app (goodIn_of _ (by decide +kernel)) ggX7_letter_X7_within
theorem dX7_letter_0 : decode cX7_letter 0 = .ok (.aload_n 0, 1) := by decide +kernel
theorem dX7_letter_1 : decode cX7_letter 1 = .ok (.getfield 26, 3) := by decide +kernel
theorem dX7_letter_4 : decode cX7_letter 4 = .ok (.aload_n 0, 1) := by decide +kernel
theorem dX7_letter_5 : decode cX7_letter 5 = .ok (.getfield 10, 3) := by decide +kernel
theorem dX7_letter_8 : decode cX7_letter 8 = .ok (.invokevirtual 55, 3) := by decide +kernel
theorem dX7_letter_11 : decode cX7_letter 11 = .ok (.iload_n 1, 1) := by decide +kernel
theorem dX7_letter_12 : decode cX7_letter 12 = .ok (.iconst 0, 1) := by decide +kernel
theorem dX7_letter_13 : decode cX7_letter 13 = .ok (.aload_n 0, 1) := by decide +kernel
theorem dX7_letter_14 : decode cX7_letter 14 = .ok (.getfield 26, 3) := by decide +kernel
theorem dX7_letter_17 : decode cX7_letter 17 = .ok (.getfield 91, 3) := by decide +kernel
theorem dX7_letter_20 : decode cX7_letter 20 = .ok (.iconst 1, 1) := by decide +kernel
theorem dX7_letter_21 : decode cX7_letter 21 = .ok (.isub, 1) := by decide +kernel
theorem dX7_letter_22 : decode cX7_letter 22 = .ok (.invokestatic 134, 3) := by decide +kernel
theorem dX7_letter_25 : decode cX7_letter 25 = .ok (.ifCond .ne 6, 3) := by decide +kernel
theorem dX7_letter_28 : decode cX7_letter 28 = .ok (.ldc 110, 2) := by decide +kernel
theorem dX7_letter_30 : decode cX7_letter 30 = .ok (.ireturn, 1) := by decide +kernel
theorem dX7_letter_31 : decode cX7_letter 31 = .ok (.iload_n 2, 1) := by decide +kernel
theorem dX7_letter_32 : decode cX7_letter 32 = .ok (.tableswitch 66 0 2 #[28, 38, 48], 28) := by decide +kernel
theorem dX7_letter_60 : decode cX7_letter 60 = .ok (.aload_n 0, 1) := by decide +kernel
theorem dX7_letter_61 : decode cX7_letter 61 = .ok (.getfield 26, 3) := by decide +kernel
theorem dX7_letter_64 : decode cX7_letter 64 = .ok (.getfield 161, 3) := by decide +kernel
theorem dX7_letter_67 : decode cX7_letter 67 = .ok (.iload_n 1, 1) := by decide +kernel
theorem dX7_letter_68 : decode cX7_letter 68 = .ok (.iaload, 1) := by decide +kernel
theorem dX7_letter_69 : decode cX7_letter 69 = .ok (.ireturn, 1) := by decide +kernel
theorem dX7_letter_70 : decode cX7_letter 70 = .ok (.aload_n 0, 1) := by decide +kernel
theorem dX7_letter_71 : decode cX7_letter 71 = .ok (.getfield 26, 3) := by decide +kernel
theorem dX7_letter_74 : decode cX7_letter 74 = .ok (.getfield 164, 3) := by decide +kernel
theorem dX7_letter_77 : decode cX7_letter 77 = .ok (.iload_n 1, 1) := by decide +kernel
theorem dX7_letter_78 : decode cX7_letter 78 = .ok (.iaload, 1) := by decide +kernel
theorem dX7_letter_79 : decode cX7_letter 79 = .ok (.ireturn, 1) := by decide +kernel
theorem dX7_letter_80 : decode cX7_letter 80 = .ok (.aload_n 0, 1) := by decide +kernel
theorem dX7_letter_81 : decode cX7_letter 81 = .ok (.getfield 26, 3) := by decide +kernel
theorem dX7_letter_84 : decode cX7_letter 84 = .ok (.getfield 167, 3) := by decide +kernel
theorem dX7_letter_87 : decode cX7_letter 87 = .ok (.iload_n 1, 1) := by decide +kernel
theorem dX7_letter_88 : decode cX7_letter 88 = .ok (.baload, 1) := by decide +kernel
theorem dX7_letter_89 : decode cX7_letter 89 = .ok (.ifCond .eq 7, 3) := by decide +kernel
theorem dX7_letter_92 : decode cX7_letter 92 = .ok (.iconst 1, 1) := by decide +kernel
theorem dX7_letter_93 : decode cX7_letter 93 = .ok (.goto 4, 3) := by decide +kernel
theorem dX7_letter_96 : decode cX7_letter 96 = .ok (.iconst 0, 1) := by decide +kernel
theorem dX7_letter_97 : decode cX7_letter 97 = .ok (.ireturn, 1) := by decide +kernel
theorem dX7_letter_98 : decode cX7_letter 98 = .ok (.ldc 105, 2) := by decide +kernel
theorem dX7_letter_100 : decode cX7_letter 100 = .ok (.ireturn, 1) := by decide +kernel
set_option maxRecDepth 20000 in
theorem ggX7_sent_X6_trace : GoodIn wsX7_sent wsX6_trace := goodIn_r _ [12, 13, 14, 15, 11, 16, 17, 18, 19, 20, 21, 22, 23, 24, 25, 26, 27, 28, 29, 30, 31, 32, 33, 34, 35, 36, 37, 38, 39, 40, 41, 42, 43, 44, 45, 46, 47, 48, 49, 50, 51, 52, 53, 54, 55, 56, 112, 113, 114, 115, 116, 117, 118, 119, 120, 121, 122, 123, 124, 125, 126, 127] (by decide +kernel) (by decide +kernel)
set_option maxRecDepth 20000 in
theorem gX7_sent_X6_trace : GoodIn wsX7_sent (wsV RX7 55 RX6 yX6_trace wsX6_trace) := goodIn_app (goodIn_of _ (by decide +kernel)) ggX7_sent_X6_trace
set_option maxRecDepth 20000 in
theorem ggX7_sent_X7_within : GoodIn wsX7_sent wsX7_within := goodIn_r _ [59] (by decide +kernel) (by decide +kernel)
set_option maxRecDepth 20000 in
theorem gX7_sent_X7_within : GoodIn wsX7_sent (va_wsS RX7 134 yX7_within wsX7_within) := goodIn_app (goodIn_of _ (by decide +kernel)) ggX7_sent_X7_within
set_option maxRecDepth 20000 in
theorem ggX7_sent_X6_gather : GoodIn wsX7_sent wsX6_gather := goodIn_r _ [63, 28, 64, 17, 65, 66, 67, 37, 45, 44, 43, 68, 69, 70, 71, 72, 73, 74, 75, 76, 77, 78, 79, 30, 31, 32, 80, 81, 82, 83, 84, 85, 86, 87, 88, 89, 90, 91, 92, 93, 94, 95, 96, 97, 98, 99, 100, 101, 102, 103, 104, 122, 123, 124, 125, 126, 127, 112, 113, 114, 115, 116, 117, 118, 119, 120, 121] (by decide +kernel) (by decide +kernel)
set_option maxRecDepth 20000 in
theorem gX7_sent_X6_gather : GoodIn wsX7_sent (wsV RX7 150 RX6 yX6_gather wsX6_gather) := goodIn_app (goodIn_of _ (by decide +kernel)) ggX7_sent_X6_gather
theorem dX7_sent_0 : decode cX7_sent 0 = .ok (.aload_n 0, 1) := by decide +kernel
theorem dX7_sent_1 : decode cX7_sent 1 = .ok (.getfield 26, 3) := by decide +kernel
theorem dX7_sent_4 : decode cX7_sent 4 = .ok (.aload_n 0, 1) := by decide +kernel
theorem dX7_sent_5 : decode cX7_sent 5 = .ok (.getfield 10, 3) := by decide +kernel
theorem dX7_sent_8 : decode cX7_sent 8 = .ok (.invokevirtual 55, 3) := by decide +kernel
theorem dX7_sent_11 : decode cX7_sent 11 = .ok (.iload_n 1, 1) := by decide +kernel
theorem dX7_sent_12 : decode cX7_sent 12 = .ok (.iconst 0, 1) := by decide +kernel
theorem dX7_sent_13 : decode cX7_sent 13 = .ok (.aload_n 0, 1) := by decide +kernel
theorem dX7_sent_14 : decode cX7_sent 14 = .ok (.getfield 26, 3) := by decide +kernel
theorem dX7_sent_17 : decode cX7_sent 17 = .ok (.getfield 91, 3) := by decide +kernel
theorem dX7_sent_20 : decode cX7_sent 20 = .ok (.iconst 1, 1) := by decide +kernel
theorem dX7_sent_21 : decode cX7_sent 21 = .ok (.isub, 1) := by decide +kernel
theorem dX7_sent_22 : decode cX7_sent 22 = .ok (.invokestatic 134, 3) := by decide +kernel
theorem dX7_sent_25 : decode cX7_sent 25 = .ok (.ifCond .ne 7, 3) := by decide +kernel
theorem dX7_sent_28 : decode cX7_sent 28 = .ok (.ldc2_w 146, 3) := by decide +kernel
theorem dX7_sent_31 : decode cX7_sent 31 = .ok (.lreturn, 1) := by decide +kernel
theorem dX7_sent_32 : decode cX7_sent 32 = .ok (.iload_n 2, 1) := by decide +kernel
theorem dX7_sent_33 : decode cX7_sent 33 = .ok (.iconst 0, 1) := by decide +kernel
theorem dX7_sent_34 : decode cX7_sent 34 = .ok (.iconst 3, 1) := by decide +kernel
theorem dX7_sent_35 : decode cX7_sent 35 = .ok (.invokestatic 134, 3) := by decide +kernel
theorem dX7_sent_38 : decode cX7_sent 38 = .ok (.ifCond .ne 7, 3) := by decide +kernel
theorem dX7_sent_41 : decode cX7_sent 41 = .ok (.ldc2_w 148, 3) := by decide +kernel
theorem dX7_sent_44 : decode cX7_sent 44 = .ok (.lreturn, 1) := by decide +kernel
theorem dX7_sent_45 : decode cX7_sent 45 = .ok (.aload_n 0, 1) := by decide +kernel
theorem dX7_sent_46 : decode cX7_sent 46 = .ok (.getfield 26, 3) := by decide +kernel
theorem dX7_sent_49 : decode cX7_sent 49 = .ok (.aload_n 0, 1) := by decide +kernel
theorem dX7_sent_50 : decode cX7_sent 50 = .ok (.getfield 10, 3) := by decide +kernel
theorem dX7_sent_53 : decode cX7_sent 53 = .ok (.iload_n 2, 1) := by decide +kernel
theorem dX7_sent_54 : decode cX7_sent 54 = .ok (.invokevirtual 150, 3) := by decide +kernel
theorem dX7_sent_57 : decode cX7_sent 57 = .ok (.aload_n 0, 1) := by decide +kernel
theorem dX7_sent_58 : decode cX7_sent 58 = .ok (.getfield 26, 3) := by decide +kernel
theorem dX7_sent_61 : decode cX7_sent 61 = .ok (.getfield 154, 3) := by decide +kernel
theorem dX7_sent_64 : decode cX7_sent 64 = .ok (.aload_n 0, 1) := by decide +kernel
theorem dX7_sent_65 : decode cX7_sent 65 = .ok (.getfield 26, 3) := by decide +kernel
theorem dX7_sent_68 : decode cX7_sent 68 = .ok (.getfield 161, 3) := by decide +kernel
theorem dX7_sent_71 : decode cX7_sent 71 = .ok (.iload_n 1, 1) := by decide +kernel
theorem dX7_sent_72 : decode cX7_sent 72 = .ok (.iaload, 1) := by decide +kernel
theorem dX7_sent_73 : decode cX7_sent 73 = .ok (.laload, 1) := by decide +kernel
theorem dX7_sent_74 : decode cX7_sent 74 = .ok (.lreturn, 1) := by decide +kernel
set_option maxRecDepth 20000 in
theorem ggX7_rows_X7_within : GoodIn wsX7_rows wsX7_within := goodIn_r _ [6] (by decide +kernel) (by decide +kernel)
set_option maxRecDepth 20000 in
theorem gX7_rows_X7_within : GoodIn wsX7_rows (va_wsS RX7 134 yX7_within wsX7_within) := goodIn_app (goodIn_of _ (by decide +kernel)) ggX7_rows_X7_within
set_option maxRecDepth 20000 in
theorem ggX7_rows_J7_fill_d0a16 : GoodIn wsX7_rows wsJ7_fill_d0a16 := goodIn_r _ [10] (by decide +kernel) (by decide +kernel)
set_option maxRecDepth 20000 in
theorem gX7_rows_J7_fill_d0a16 : GoodIn wsX7_rows (va_wsS RX7 171 yJ7_fill_d0a16 wsJ7_fill_d0a16) := goodIn_app (goodIn_of _ (by decide +kernel)) ggX7_rows_J7_fill_d0a16
set_option maxRecDepth 20000 in
theorem ggX7_rows_X7_waysOfRank : GoodIn wsX7_rows wsX7_waysOfRank := goodIn_r _ [13] (by decide +kernel) (by decide +kernel)
set_option maxRecDepth 20000 in
theorem gX7_rows_X7_waysOfRank : GoodIn wsX7_rows (va_wsS RX7 177 yX7_waysOfRank wsX7_waysOfRank) := goodIn_app (goodIn_of _ (by decide +kernel)) ggX7_rows_X7_waysOfRank
set_option maxRecDepth 20000 in
theorem ggX7_rows_X7_rowsJoined : GoodIn wsX7_rows wsX7_rowsJoined := goodIn_r _ [17, 2, 21, 22, 23, 24, 25, 26, 27] (by decide +kernel) (by decide +kernel)
set_option maxRecDepth 20000 in
theorem gX7_rows_X7_rowsJoined : GoodIn wsX7_rows (wsV RX7 181 RX7 yX7_rowsJoined wsX7_rowsJoined) := goodIn_app (goodIn_of _ (by decide +kernel)) ggX7_rows_X7_rowsJoined
set_option maxRecDepth 20000 in
theorem ggX7_rows_X7_waysAboveRank : GoodIn wsX7_rows wsX7_waysAboveRank := goodIn_r _ [20] (by decide +kernel) (by decide +kernel)
set_option maxRecDepth 20000 in
theorem gX7_rows_X7_waysAboveRank : GoodIn wsX7_rows (va_wsS RX7 185 yX7_waysAboveRank wsX7_waysAboveRank) := goodIn_app (goodIn_of _ (by decide +kernel)) ggX7_rows_X7_waysAboveRank
theorem dX7_rows_0 : decode cX7_rows 0 = .ok (.iload_n 1, 1) := by decide +kernel
theorem dX7_rows_1 : decode cX7_rows 1 = .ok (.iconst 1, 1) := by decide +kernel
theorem dX7_rows_2 : decode cX7_rows 2 = .ok (.bipush 8, 2) := by decide +kernel
theorem dX7_rows_4 : decode cX7_rows 4 = .ok (.invokestatic 134, 3) := by decide +kernel
theorem dX7_rows_7 : decode cX7_rows 7 = .ok (.ifCond .eq 13, 3) := by decide +kernel
theorem dX7_rows_10 : decode cX7_rows 10 = .ok (.iload_n 2, 1) := by decide +kernel
theorem dX7_rows_11 : decode cX7_rows 11 = .ok (.iconst 0, 1) := by decide +kernel
theorem dX7_rows_12 : decode cX7_rows 12 = .ok (.bipush 8, 2) := by decide +kernel
theorem dX7_rows_14 : decode cX7_rows 14 = .ok (.invokestatic 134, 3) := by decide +kernel
theorem dX7_rows_17 : decode cX7_rows 17 = .ok (.ifCond .ne 7, 3) := by decide +kernel
theorem dX7_rows_20 : decode cX7_rows 20 = .ok (.ldc2_w 148, 3) := by decide +kernel
theorem dX7_rows_23 : decode cX7_rows 23 = .ok (.lreturn, 1) := by decide +kernel
theorem dX7_rows_24 : decode cX7_rows 24 = .ok (.aload_n 0, 1) := by decide +kernel
theorem dX7_rows_25 : decode cX7_rows 25 = .ok (.getfield 51, 3) := by decide +kernel
theorem dX7_rows_28 : decode cX7_rows 28 = .ok (.lconst 0, 1) := by decide +kernel
theorem dX7_rows_29 : decode cX7_rows 29 = .ok (.invokestatic 171, 3) := by decide +kernel
theorem dX7_rows_32 : decode cX7_rows 32 = .ok (.aload_n 0, 1) := by decide +kernel
theorem dX7_rows_33 : decode cX7_rows 33 = .ok (.getfield 51, 3) := by decide +kernel
theorem dX7_rows_36 : decode cX7_rows 36 = .ok (.iconst 0, 1) := by decide +kernel
theorem dX7_rows_37 : decode cX7_rows 37 = .ok (.lconst 1, 1) := by decide +kernel
theorem dX7_rows_38 : decode cX7_rows 38 = .ok (.lastore, 1) := by decide +kernel
theorem dX7_rows_39 : decode cX7_rows 39 = .ok (.iconst 0, 1) := by decide +kernel
theorem dX7_rows_40 : decode cX7_rows 40 = .ok (.istore_n 3, 1) := by decide +kernel
theorem dX7_rows_41 : decode cX7_rows 41 = .ok (.iload_n 3, 1) := by decide +kernel
theorem dX7_rows_42 : decode cX7_rows 42 = .ok (.iload_n 2, 1) := by decide +kernel
theorem dX7_rows_43 : decode cX7_rows 43 = .ok (.if_icmp .ge 41, 3) := by decide +kernel
theorem dX7_rows_46 : decode cX7_rows 46 = .ok (.iload_n 1, 1) := by decide +kernel
theorem dX7_rows_47 : decode cX7_rows 47 = .ok (.istore 4, 2) := by decide +kernel
theorem dX7_rows_49 : decode cX7_rows 49 = .ok (.iload 4, 2) := by decide +kernel
theorem dX7_rows_51 : decode cX7_rows 51 = .ok (.ifCond .lt 27, 3) := by decide +kernel
theorem dX7_rows_54 : decode cX7_rows 54 = .ok (.aload_n 0, 1) := by decide +kernel
theorem dX7_rows_55 : decode cX7_rows 55 = .ok (.getfield 51, 3) := by decide +kernel
theorem dX7_rows_58 : decode cX7_rows 58 = .ok (.iload 4, 2) := by decide +kernel
theorem dX7_rows_60 : decode cX7_rows 60 = .ok (.aload_n 0, 1) := by decide +kernel
theorem dX7_rows_61 : decode cX7_rows 61 = .ok (.iload 4, 2) := by decide +kernel
theorem dX7_rows_63 : decode cX7_rows 63 = .ok (.iconst 1, 1) := by decide +kernel
theorem dX7_rows_64 : decode cX7_rows 64 = .ok (.iload_n 3, 1) := by decide +kernel
theorem dX7_rows_65 : decode cX7_rows 65 = .ok (.invokestatic 177, 3) := by decide +kernel
theorem dX7_rows_68 : decode cX7_rows 68 = .ok (.invokevirtual 181, 3) := by decide +kernel
theorem dX7_rows_71 : decode cX7_rows 71 = .ok (.lastore, 1) := by decide +kernel
theorem dX7_rows_72 : decode cX7_rows 72 = .ok (.iinc 4 (-1), 3) := by decide +kernel
theorem dX7_rows_75 : decode cX7_rows 75 = .ok (.goto (-26), 3) := by decide +kernel
theorem dX7_rows_78 : decode cX7_rows 78 = .ok (.iinc 3 1, 3) := by decide +kernel
theorem dX7_rows_81 : decode cX7_rows 81 = .ok (.goto (-40), 3) := by decide +kernel
theorem dX7_rows_84 : decode cX7_rows 84 = .ok (.aload_n 0, 1) := by decide +kernel
theorem dX7_rows_85 : decode cX7_rows 85 = .ok (.iload_n 1, 1) := by decide +kernel
theorem dX7_rows_86 : decode cX7_rows 86 = .ok (.iconst 0, 1) := by decide +kernel
theorem dX7_rows_87 : decode cX7_rows 87 = .ok (.iload_n 2, 1) := by decide +kernel
theorem dX7_rows_88 : decode cX7_rows 88 = .ok (.invokestatic 185, 3) := by decide +kernel
theorem dX7_rows_91 : decode cX7_rows 91 = .ok (.invokevirtual 181, 3) := by decide +kernel
theorem dX7_rows_94 : decode cX7_rows 94 = .ok (.lreturn, 1) := by decide +kernel
set_option maxRecDepth 20000 in
theorem ggX7_node_X3_everyone : GoodIn wsX7_node wsX3_everyone := goodIn_r _ [12, 13, 56, 57, 58, 59, 60, 61] (by decide +kernel) (by decide +kernel)
set_option maxRecDepth 20000 in
theorem gX7_node_X3_everyone : GoodIn wsX7_node (wsV RX7 188 RX3 yX3_everyone wsX3_everyone) := goodIn_app (goodIn_of _ (by decide +kernel)) ggX7_node_X3_everyone
set_option maxRecDepth 20000 in
theorem ggX7_node_X7_within : GoodIn wsX7_node wsX7_within := goodIn_r _ [17] (by decide +kernel) (by decide +kernel)
set_option maxRecDepth 20000 in
theorem gX7_node_X7_within : GoodIn wsX7_node (va_wsS RX7 134 yX7_within wsX7_within) := goodIn_app (goodIn_of _ (by decide +kernel)) ggX7_node_X7_within
set_option maxRecDepth 20000 in
theorem ggX7_node_X4_remember : GoodIn wsX7_node wsX4_remember := goodIn_r _ [22, 23, 24, 25, 26, 27, 28, 29, 30, 31, 32, 11, 33, 13, 34, 35, 36, 37, 38, 39, 40, 41, 42, 62, 63, 64, 56, 57, 58, 59, 60, 61] (by decide +kernel) (by decide +kernel)
set_option maxRecDepth 20000 in
theorem gX7_node_X4_remember : GoodIn wsX7_node (wsV RX7 193 RX4 yX4_remember wsX4_remember) := goodIn_app (goodIn_of _ (by decide +kernel)) ggX7_node_X4_remember
set_option maxRecDepth 20000 in
theorem ggX7_node_X3_add : GoodIn wsX7_node wsX3_add := goodIn_r _ [46, 13, 36, 41, 42, 47, 16, 48, 56, 57, 58, 59, 60, 61] (by decide +kernel) (by decide +kernel)
set_option maxRecDepth 20000 in
theorem gX7_node_X3_add : GoodIn wsX7_node (wsV RX7 196 RX3 yX3_add wsX3_add) := goodIn_app (goodIn_of _ (by decide +kernel)) ggX7_node_X3_add
theorem dX7_node_0 : decode cX7_node 0 = .ok (.iload_n 1, 1) := by decide +kernel
theorem dX7_node_1 : decode cX7_node 1 = .ok (.aload_n 0, 1) := by decide +kernel
theorem dX7_node_2 : decode cX7_node 2 = .ok (.getfield 10, 3) := by decide +kernel
theorem dX7_node_5 : decode cX7_node 5 = .ok (.invokevirtual 188, 3) := by decide +kernel
theorem dX7_node_8 : decode cX7_node 8 = .ok (.iconst (-1), 1) := by decide +kernel
theorem dX7_node_9 : decode cX7_node 9 = .ok (.ixor, 1) := by decide +kernel
theorem dX7_node_10 : decode cX7_node 10 = .ok (.iand, 1) := by decide +kernel
theorem dX7_node_11 : decode cX7_node 11 = .ok (.ifCond .eq 6, 3) := by decide +kernel
theorem dX7_node_14 : decode cX7_node 14 = .ok (.ldc 110, 2) := by decide +kernel
theorem dX7_node_16 : decode cX7_node 16 = .ok (.ireturn, 1) := by decide +kernel
theorem dX7_node_17 : decode cX7_node 17 = .ok (.iload_n 2, 1) := by decide +kernel
theorem dX7_node_18 : decode cX7_node 18 = .ok (.iconst 0, 1) := by decide +kernel
theorem dX7_node_19 : decode cX7_node 19 = .ok (.ldc 191, 2) := by decide +kernel
theorem dX7_node_21 : decode cX7_node 21 = .ok (.invokestatic 134, 3) := by decide +kernel
theorem dX7_node_24 : decode cX7_node 24 = .ok (.ifCond .ne 6, 3) := by decide +kernel
theorem dX7_node_27 : decode cX7_node 27 = .ok (.ldc 105, 2) := by decide +kernel
theorem dX7_node_29 : decode cX7_node 29 = .ok (.ireturn, 1) := by decide +kernel
theorem dX7_node_30 : decode cX7_node 30 = .ok (.aload_n 0, 1) := by decide +kernel
theorem dX7_node_31 : decode cX7_node 31 = .ok (.getfield 10, 3) := by decide +kernel
theorem dX7_node_34 : decode cX7_node 34 = .ok (.getfield 59, 3) := by decide +kernel
theorem dX7_node_37 : decode cX7_node 37 = .ok (.bipush 9, 2) := by decide +kernel
theorem dX7_node_39 : decode cX7_node 39 = .ok (.if_icmp .lt 6, 3) := by decide +kernel
theorem dX7_node_42 : decode cX7_node 42 = .ok (.ldc 192, 2) := by decide +kernel
theorem dX7_node_44 : decode cX7_node 44 = .ok (.ireturn, 1) := by decide +kernel
theorem dX7_node_45 : decode cX7_node 45 = .ok (.aload_n 0, 1) := by decide +kernel
theorem dX7_node_46 : decode cX7_node 46 = .ok (.getfield 19, 3) := by decide +kernel
theorem dX7_node_49 : decode cX7_node 49 = .ok (.aload_n 0, 1) := by decide +kernel
theorem dX7_node_50 : decode cX7_node 50 = .ok (.getfield 10, 3) := by decide +kernel
theorem dX7_node_53 : decode cX7_node 53 = .ok (.invokevirtual 193, 3) := by decide +kernel
theorem dX7_node_56 : decode cX7_node 56 = .ok (.aload_n 0, 1) := by decide +kernel
theorem dX7_node_57 : decode cX7_node 57 = .ok (.getfield 10, 3) := by decide +kernel
theorem dX7_node_60 : decode cX7_node 60 = .ok (.iload_n 1, 1) := by decide +kernel
theorem dX7_node_61 : decode cX7_node 61 = .ok (.iload_n 2, 1) := by decide +kernel
theorem dX7_node_62 : decode cX7_node 62 = .ok (.invokevirtual 196, 3) := by decide +kernel
theorem dX7_node_65 : decode cX7_node 65 = .ok (.aload_n 0, 1) := by decide +kernel
theorem dX7_node_66 : decode cX7_node 66 = .ok (.getfield 10, 3) := by decide +kernel
theorem dX7_node_69 : decode cX7_node 69 = .ok (.getfield 59, 3) := by decide +kernel
theorem dX7_node_72 : decode cX7_node 72 = .ok (.iconst 1, 1) := by decide +kernel
theorem dX7_node_73 : decode cX7_node 73 = .ok (.isub, 1) := by decide +kernel
theorem dX7_node_74 : decode cX7_node 74 = .ok (.ireturn, 1) := by decide +kernel
set_option maxRecDepth 20000 in
theorem ggX7_take_X4_remember : GoodIn wsX7_take wsX4_remember := goodIn_r _ [9, 10, 11, 12, 13, 14, 15, 16, 17, 18, 19, 20, 21, 22, 23, 24, 25, 26, 27, 28, 29, 30, 31, 53, 54, 55, 47, 48, 49, 50, 51, 52] (by decide +kernel) (by decide +kernel)
set_option maxRecDepth 20000 in
theorem gX7_take_X4_remember : GoodIn wsX7_take (wsV RX7 193 RX4 yX4_remember wsX4_remember) := goodIn_app (goodIn_of _ (by decide +kernel)) ggX7_take_X4_remember
set_option maxRecDepth 20000 in
theorem ggX7_take_X3_dropLatest : GoodIn wsX7_take wsX3_dropLatest := goodIn_r _ [35, 22, 25, 30, 31, 36, 37, 38, 20, 39, 47, 48, 49, 50, 51, 52] (by decide +kernel) (by decide +kernel)
set_option maxRecDepth 20000 in
theorem gX7_take_X3_dropLatest : GoodIn wsX7_take (wsV RX7 201 RX3 yX3_dropLatest wsX3_dropLatest) := goodIn_app (goodIn_of _ (by decide +kernel)) ggX7_take_X3_dropLatest
theorem dX7_take_0 : decode cX7_take 0 = .ok (.aload_n 0, 1) := by decide +kernel
theorem dX7_take_1 : decode cX7_take 1 = .ok (.getfield 10, 3) := by decide +kernel
theorem dX7_take_4 : decode cX7_take 4 = .ok (.getfield 59, 3) := by decide +kernel
theorem dX7_take_7 : decode cX7_take 7 = .ok (.iconst 1, 1) := by decide +kernel
theorem dX7_take_8 : decode cX7_take 8 = .ok (.if_icmp .gt 6, 3) := by decide +kernel
theorem dX7_take_11 : decode cX7_take 11 = .ok (.ldc 200, 2) := by decide +kernel
theorem dX7_take_13 : decode cX7_take 13 = .ok (.ireturn, 1) := by decide +kernel
theorem dX7_take_14 : decode cX7_take 14 = .ok (.aload_n 0, 1) := by decide +kernel
theorem dX7_take_15 : decode cX7_take 15 = .ok (.getfield 19, 3) := by decide +kernel
theorem dX7_take_18 : decode cX7_take 18 = .ok (.aload_n 0, 1) := by decide +kernel
theorem dX7_take_19 : decode cX7_take 19 = .ok (.getfield 10, 3) := by decide +kernel
theorem dX7_take_22 : decode cX7_take 22 = .ok (.invokevirtual 193, 3) := by decide +kernel
theorem dX7_take_25 : decode cX7_take 25 = .ok (.aload_n 0, 1) := by decide +kernel
theorem dX7_take_26 : decode cX7_take 26 = .ok (.getfield 10, 3) := by decide +kernel
theorem dX7_take_29 : decode cX7_take 29 = .ok (.invokevirtual 201, 3) := by decide +kernel
theorem dX7_take_32 : decode cX7_take 32 = .ok (.aload_n 0, 1) := by decide +kernel
theorem dX7_take_33 : decode cX7_take 33 = .ok (.getfield 10, 3) := by decide +kernel
theorem dX7_take_36 : decode cX7_take 36 = .ok (.getfield 59, 3) := by decide +kernel
theorem dX7_take_39 : decode cX7_take 39 = .ok (.ireturn, 1) := by decide +kernel
set_option maxRecDepth 20000 in
theorem ggX7_link_X3_has : GoodIn wsX7_link wsX3_has := goodIn_r _ [8, 9, 54, 55, 56, 57, 58, 59] (by decide +kernel) (by decide +kernel)
set_option maxRecDepth 20000 in
theorem gX7_link_X3_has : GoodIn wsX7_link (wsV RX7 106 RX3 yX3_has wsX3_has) := goodIn_app (goodIn_of _ (by decide +kernel)) ggX7_link_X3_has
set_option maxRecDepth 20000 in
theorem ggX7_link_X4_remember : GoodIn wsX7_link wsX4_remember := goodIn_r _ [14, 15, 16, 17, 18, 19, 20, 21, 22, 23, 24, 7, 25, 9, 26, 27, 28, 29, 30, 31, 32, 33, 34, 60, 61, 62, 54, 55, 56, 57, 58, 59] (by decide +kernel) (by decide +kernel)
set_option maxRecDepth 20000 in
theorem gX7_link_X4_remember : GoodIn wsX7_link (wsV RX7 193 RX4 yX4_remember wsX4_remember) := goodIn_app (goodIn_of _ (by decide +kernel)) ggX7_link_X4_remember
set_option maxRecDepth 20000 in
theorem ggX7_link_X3_turnLink : GoodIn wsX7_link wsX3_turnLink := goodIn_r _ [38, 28, 33, 54, 55, 56, 57, 58, 59] (by decide +kernel) (by decide +kernel)
set_option maxRecDepth 20000 in
theorem gX7_link_X3_turnLink : GoodIn wsX7_link (wsV RX7 204 RX3 yX3_turnLink wsX3_turnLink) := goodIn_app (goodIn_of _ (by decide +kernel)) ggX7_link_X3_turnLink
set_option maxRecDepth 20000 in
theorem ggX7_link_X3_hasLink : GoodIn wsX7_link wsX3_hasLink := goodIn_r _ [42, 28, 43, 5, 6, 7, 8, 9, 44, 45, 46, 54, 55, 56, 57, 58, 59] (by decide +kernel) (by decide +kernel)
set_option maxRecDepth 20000 in
theorem gX7_link_X3_hasLink : GoodIn wsX7_link (wsV RX7 127 RX3 yX3_hasLink wsX3_hasLink) := goodIn_app (goodIn_of _ (by decide +kernel)) ggX7_link_X3_hasLink
theorem dX7_link_0 : decode cX7_link 0 = .ok (.aload_n 0, 1) := by decide +kernel
theorem dX7_link_1 : decode cX7_link 1 = .ok (.getfield 10, 3) := by decide +kernel
theorem dX7_link_4 : decode cX7_link 4 = .ok (.iload_n 1, 1) := by decide +kernel
theorem dX7_link_5 : decode cX7_link 5 = .ok (.invokevirtual 106, 3) := by decide +kernel
theorem dX7_link_8 : decode cX7_link 8 = .ok (.ifCond .eq 19, 3) := by decide +kernel
theorem dX7_link_11 : decode cX7_link 11 = .ok (.aload_n 0, 1) := by decide +kernel
theorem dX7_link_12 : decode cX7_link 12 = .ok (.getfield 10, 3) := by decide +kernel
theorem dX7_link_15 : decode cX7_link 15 = .ok (.iload_n 2, 1) := by decide +kernel
theorem dX7_link_16 : decode cX7_link 16 = .ok (.invokevirtual 106, 3) := by decide +kernel
theorem dX7_link_19 : decode cX7_link 19 = .ok (.ifCond .eq 8, 3) := by decide +kernel
theorem dX7_link_22 : decode cX7_link 22 = .ok (.iload_n 1, 1) := by decide +kernel
theorem dX7_link_23 : decode cX7_link 23 = .ok (.iload_n 2, 1) := by decide +kernel
theorem dX7_link_24 : decode cX7_link 24 = .ok (.if_icmp .ne 6, 3) := by decide +kernel
theorem dX7_link_27 : decode cX7_link 27 = .ok (.ldc 110, 2) := by decide +kernel
theorem dX7_link_29 : decode cX7_link 29 = .ok (.ireturn, 1) := by decide +kernel
theorem dX7_link_30 : decode cX7_link 30 = .ok (.aload_n 0, 1) := by decide +kernel
theorem dX7_link_31 : decode cX7_link 31 = .ok (.getfield 19, 3) := by decide +kernel
theorem dX7_link_34 : decode cX7_link 34 = .ok (.aload_n 0, 1) := by decide +kernel
theorem dX7_link_35 : decode cX7_link 35 = .ok (.getfield 10, 3) := by decide +kernel
theorem dX7_link_38 : decode cX7_link 38 = .ok (.invokevirtual 193, 3) := by decide +kernel
theorem dX7_link_41 : decode cX7_link 41 = .ok (.aload_n 0, 1) := by decide +kernel
theorem dX7_link_42 : decode cX7_link 42 = .ok (.getfield 10, 3) := by decide +kernel
theorem dX7_link_45 : decode cX7_link 45 = .ok (.iload_n 1, 1) := by decide +kernel
theorem dX7_link_46 : decode cX7_link 46 = .ok (.iload_n 2, 1) := by decide +kernel
theorem dX7_link_47 : decode cX7_link 47 = .ok (.invokevirtual 204, 3) := by decide +kernel
theorem dX7_link_50 : decode cX7_link 50 = .ok (.aload_n 0, 1) := by decide +kernel
theorem dX7_link_51 : decode cX7_link 51 = .ok (.getfield 10, 3) := by decide +kernel
theorem dX7_link_54 : decode cX7_link 54 = .ok (.iload_n 1, 1) := by decide +kernel
theorem dX7_link_55 : decode cX7_link 55 = .ok (.iload_n 2, 1) := by decide +kernel
theorem dX7_link_56 : decode cX7_link 56 = .ok (.invokevirtual 127, 3) := by decide +kernel
theorem dX7_link_59 : decode cX7_link 59 = .ok (.ifCond .eq 7, 3) := by decide +kernel
theorem dX7_link_62 : decode cX7_link 62 = .ok (.iconst 1, 1) := by decide +kernel
theorem dX7_link_63 : decode cX7_link 63 = .ok (.goto 4, 3) := by decide +kernel
theorem dX7_link_66 : decode cX7_link 66 = .ok (.iconst 0, 1) := by decide +kernel
theorem dX7_link_67 : decode cX7_link 67 = .ok (.ireturn, 1) := by decide +kernel
set_option maxRecDepth 20000 in
theorem ggX7_lose_X3_hasLink : GoodIn wsX7_lose wsX3_hasLink := goodIn_r _ [8, 9, 10, 11, 12, 7, 13, 14, 15, 16, 17, 57, 58, 59, 60, 61, 62] (by decide +kernel) (by decide +kernel)
set_option maxRecDepth 20000 in
theorem gX7_lose_X3_hasLink : GoodIn wsX7_lose (wsV RX7 127 RX3 yX3_hasLink wsX3_hasLink) := goodIn_app (goodIn_of _ (by decide +kernel)) ggX7_lose_X3_hasLink
set_option maxRecDepth 20000 in
theorem ggX7_lose_X4_remember : GoodIn wsX7_lose wsX4_remember := goodIn_r _ [22, 23, 24, 25, 26, 27, 28, 29, 30, 31, 32, 7, 33, 14, 34, 35, 9, 36, 37, 38, 39, 40, 41, 63, 64, 65, 57, 58, 59, 60, 61, 62] (by decide +kernel) (by decide +kernel)
set_option maxRecDepth 20000 in
theorem gX7_lose_X4_remember : GoodIn wsX7_lose (wsV RX7 193 RX4 yX4_remember wsX4_remember) := goodIn_app (goodIn_of _ (by decide +kernel)) ggX7_lose_X4_remember
set_option maxRecDepth 20000 in
theorem ggX7_lose_X3_turnLost : GoodIn wsX7_lose wsX3_turnLost := goodIn_r _ [45, 40, 57, 58, 59, 60, 61, 62] (by decide +kernel) (by decide +kernel)
set_option maxRecDepth 20000 in
theorem gX7_lose_X3_turnLost : GoodIn wsX7_lose (wsV RX7 207 RX3 yX3_turnLost wsX3_turnLost) := goodIn_app (goodIn_of _ (by decide +kernel)) ggX7_lose_X3_turnLost
set_option maxRecDepth 20000 in
theorem ggX7_lose_X3_hasLost : GoodIn wsX7_lose wsX3_hasLost := goodIn_r _ [49, 40, 10, 11, 12, 7, 13, 14, 15, 16, 17, 57, 58, 59, 60, 61, 62] (by decide +kernel) (by decide +kernel)
set_option maxRecDepth 20000 in
theorem gX7_lose_X3_hasLost : GoodIn wsX7_lose (wsV RX7 131 RX3 yX3_hasLost wsX3_hasLost) := goodIn_app (goodIn_of _ (by decide +kernel)) ggX7_lose_X3_hasLost
theorem dX7_lose_0 : decode cX7_lose 0 = .ok (.aload_n 0, 1) := by decide +kernel
theorem dX7_lose_1 : decode cX7_lose 1 = .ok (.getfield 10, 3) := by decide +kernel
theorem dX7_lose_4 : decode cX7_lose 4 = .ok (.iload_n 1, 1) := by decide +kernel
theorem dX7_lose_5 : decode cX7_lose 5 = .ok (.iload_n 2, 1) := by decide +kernel
theorem dX7_lose_6 : decode cX7_lose 6 = .ok (.invokevirtual 127, 3) := by decide +kernel
theorem dX7_lose_9 : decode cX7_lose 9 = .ok (.ifCond .ne 6, 3) := by decide +kernel
theorem dX7_lose_12 : decode cX7_lose 12 = .ok (.ldc 110, 2) := by decide +kernel
theorem dX7_lose_14 : decode cX7_lose 14 = .ok (.ireturn, 1) := by decide +kernel
end
section
theorem dX7_lose_15 : decode cX7_lose 15 = .ok (.aload_n 0, 1) := by decide +kernel
theorem dX7_lose_16 : decode cX7_lose 16 = .ok (.getfield 19, 3) := by decide +kernel
theorem dX7_lose_19 : decode cX7_lose 19 = .ok (.aload_n 0, 1) := by decide +kernel
theorem dX7_lose_20 : decode cX7_lose 20 = .ok (.getfield 10, 3) := by decide +kernel
theorem dX7_lose_23 : decode cX7_lose 23 = .ok (.invokevirtual 193, 3) := by decide +kernel
theorem dX7_lose_26 : decode cX7_lose 26 = .ok (.aload_n 0, 1) := by decide +kernel
theorem dX7_lose_27 : decode cX7_lose 27 = .ok (.getfield 10, 3) := by decide +kernel
theorem dX7_lose_30 : decode cX7_lose 30 = .ok (.iload_n 1, 1) := by decide +kernel
theorem dX7_lose_31 : decode cX7_lose 31 = .ok (.iload_n 2, 1) := by decide +kernel
theorem dX7_lose_32 : decode cX7_lose 32 = .ok (.invokevirtual 207, 3) := by decide +kernel
theorem dX7_lose_35 : decode cX7_lose 35 = .ok (.aload_n 0, 1) := by decide +kernel
theorem dX7_lose_36 : decode cX7_lose 36 = .ok (.getfield 10, 3) := by decide +kernel
theorem dX7_lose_39 : decode cX7_lose 39 = .ok (.iload_n 1, 1) := by decide +kernel
theorem dX7_lose_40 : decode cX7_lose 40 = .ok (.iload_n 2, 1) := by decide +kernel
theorem dX7_lose_41 : decode cX7_lose 41 = .ok (.invokevirtual 131, 3) := by decide +kernel
theorem dX7_lose_44 : decode cX7_lose 44 = .ok (.ifCond .eq 7, 3) := by decide +kernel
theorem dX7_lose_47 : decode cX7_lose 47 = .ok (.iconst 1, 1) := by decide +kernel
theorem dX7_lose_48 : decode cX7_lose 48 = .ok (.goto 4, 3) := by decide +kernel
theorem dX7_lose_51 : decode cX7_lose 51 = .ok (.iconst 0, 1) := by decide +kernel
theorem dX7_lose_52 : decode cX7_lose 52 = .ok (.ireturn, 1) := by decide +kernel
set_option maxRecDepth 20000 in
theorem ggX7_hear_X3_has : GoodIn wsX7_hear wsX3_has := goodIn_r _ [11, 12, 49, 50, 51, 52, 53, 54] (by decide +kernel) (by decide +kernel)
set_option maxRecDepth 20000 in
theorem gX7_hear_X3_has : GoodIn wsX7_hear (wsV RX7 106 RX3 yX3_has wsX3_has) := goodIn_app (goodIn_of _ (by decide +kernel)) ggX7_hear_X3_has
set_option maxRecDepth 20000 in
theorem ggX7_hear_X7_within : GoodIn wsX7_hear wsX7_within := goodIn_r _ [16] (by decide +kernel) (by decide +kernel)
set_option maxRecDepth 20000 in
theorem gX7_hear_X7_within : GoodIn wsX7_hear (va_wsS RX7 134 yX7_within wsX7_within) := goodIn_app (goodIn_of _ (by decide +kernel)) ggX7_hear_X7_within
set_option maxRecDepth 20000 in
theorem ggX7_hear_X4_remember : GoodIn wsX7_hear wsX4_remember := goodIn_r _ [21, 22, 23, 24, 25, 26, 27, 28, 29, 30, 31, 10, 32, 12, 33, 34, 35, 36, 37, 38, 39, 40, 41, 55, 56, 57, 49, 50, 51, 52, 53, 54] (by decide +kernel) (by decide +kernel)
set_option maxRecDepth 20000 in
theorem gX7_hear_X4_remember : GoodIn wsX7_hear (wsV RX7 193 RX4 yX4_remember wsX4_remember) := goodIn_app (goodIn_of _ (by decide +kernel)) ggX7_hear_X4_remember
theorem dX7_hear_0 : decode cX7_hear 0 = .ok (.aload_n 0, 1) := by decide +kernel
theorem dX7_hear_1 : decode cX7_hear 1 = .ok (.getfield 10, 3) := by decide +kernel
theorem dX7_hear_4 : decode cX7_hear 4 = .ok (.iload_n 1, 1) := by decide +kernel
theorem dX7_hear_5 : decode cX7_hear 5 = .ok (.invokevirtual 106, 3) := by decide +kernel
theorem dX7_hear_8 : decode cX7_hear 8 = .ok (.ifCond .ne 6, 3) := by decide +kernel
theorem dX7_hear_11 : decode cX7_hear 11 = .ok (.ldc 110, 2) := by decide +kernel
theorem dX7_hear_13 : decode cX7_hear 13 = .ok (.ireturn, 1) := by decide +kernel
theorem dX7_hear_14 : decode cX7_hear 14 = .ok (.iload_n 2, 1) := by decide +kernel
theorem dX7_hear_15 : decode cX7_hear 15 = .ok (.iconst 0, 1) := by decide +kernel
theorem dX7_hear_16 : decode cX7_hear 16 = .ok (.ldc 191, 2) := by decide +kernel
theorem dX7_hear_18 : decode cX7_hear 18 = .ok (.invokestatic 134, 3) := by decide +kernel
theorem dX7_hear_21 : decode cX7_hear 21 = .ok (.ifCond .ne 6, 3) := by decide +kernel
theorem dX7_hear_24 : decode cX7_hear 24 = .ok (.ldc 105, 2) := by decide +kernel
theorem dX7_hear_26 : decode cX7_hear 26 = .ok (.ireturn, 1) := by decide +kernel
theorem dX7_hear_27 : decode cX7_hear 27 = .ok (.aload_n 0, 1) := by decide +kernel
theorem dX7_hear_28 : decode cX7_hear 28 = .ok (.getfield 19, 3) := by decide +kernel
theorem dX7_hear_31 : decode cX7_hear 31 = .ok (.aload_n 0, 1) := by decide +kernel
theorem dX7_hear_32 : decode cX7_hear 32 = .ok (.getfield 10, 3) := by decide +kernel
theorem dX7_hear_35 : decode cX7_hear 35 = .ok (.invokevirtual 193, 3) := by decide +kernel
theorem dX7_hear_38 : decode cX7_hear 38 = .ok (.aload_n 0, 1) := by decide +kernel
theorem dX7_hear_39 : decode cX7_hear 39 = .ok (.getfield 10, 3) := by decide +kernel
theorem dX7_hear_42 : decode cX7_hear 42 = .ok (.getfield 118, 3) := by decide +kernel
theorem dX7_hear_45 : decode cX7_hear 45 = .ok (.iload_n 1, 1) := by decide +kernel
theorem dX7_hear_46 : decode cX7_hear 46 = .ok (.iaload, 1) := by decide +kernel
theorem dX7_hear_47 : decode cX7_hear 47 = .ok (.istore_n 3, 1) := by decide +kernel
theorem dX7_hear_48 : decode cX7_hear 48 = .ok (.aload_n 0, 1) := by decide +kernel
theorem dX7_hear_49 : decode cX7_hear 49 = .ok (.getfield 10, 3) := by decide +kernel
theorem dX7_hear_52 : decode cX7_hear 52 = .ok (.getfield 118, 3) := by decide +kernel
theorem dX7_hear_55 : decode cX7_hear 55 = .ok (.iload_n 1, 1) := by decide +kernel
theorem dX7_hear_56 : decode cX7_hear 56 = .ok (.iload_n 2, 1) := by decide +kernel
theorem dX7_hear_57 : decode cX7_hear 57 = .ok (.iastore, 1) := by decide +kernel
theorem dX7_hear_58 : decode cX7_hear 58 = .ok (.iload_n 3, 1) := by decide +kernel
theorem dX7_hear_59 : decode cX7_hear 59 = .ok (.ireturn, 1) := by decide +kernel
set_option maxRecDepth 20000 in
theorem ggX7_salt_X7_within : GoodIn wsX7_salt wsX7_within := goodIn_r _ [9] (by decide +kernel) (by decide +kernel)
set_option maxRecDepth 20000 in
theorem gX7_salt_X7_within : GoodIn wsX7_salt (va_wsS RX7 134 yX7_within wsX7_within) := goodIn_app (goodIn_of _ (by decide +kernel)) ggX7_salt_X7_within
set_option maxRecDepth 20000 in
theorem ggX7_salt_X4_remember : GoodIn wsX7_salt wsX4_remember := goodIn_r _ [14, 15, 16, 17, 18, 19, 20, 21, 22, 23, 24, 25, 26, 27, 28, 29, 30, 31, 32, 33, 34, 35, 36, 50, 51, 52, 44, 45, 46, 47, 48, 49] (by decide +kernel) (by decide +kernel)
set_option maxRecDepth 20000 in
theorem gX7_salt_X4_remember : GoodIn wsX7_salt (wsV RX7 193 RX4 yX4_remember wsX4_remember) := goodIn_app (goodIn_of _ (by decide +kernel)) ggX7_salt_X4_remember
theorem dX7_salt_0 : decode cX7_salt 0 = .ok (.iload_n 1, 1) := by decide +kernel
theorem dX7_salt_1 : decode cX7_salt 1 = .ok (.iconst 0, 1) := by decide +kernel
theorem dX7_salt_2 : decode cX7_salt 2 = .ok (.ldc 191, 2) := by decide +kernel
theorem dX7_salt_4 : decode cX7_salt 4 = .ok (.invokestatic 134, 3) := by decide +kernel
theorem dX7_salt_7 : decode cX7_salt 7 = .ok (.ifCond .ne 6, 3) := by decide +kernel
theorem dX7_salt_10 : decode cX7_salt 10 = .ok (.ldc 105, 2) := by decide +kernel
theorem dX7_salt_12 : decode cX7_salt 12 = .ok (.ireturn, 1) := by decide +kernel
theorem dX7_salt_13 : decode cX7_salt 13 = .ok (.aload_n 0, 1) := by decide +kernel
theorem dX7_salt_14 : decode cX7_salt 14 = .ok (.getfield 19, 3) := by decide +kernel
theorem dX7_salt_17 : decode cX7_salt 17 = .ok (.aload_n 0, 1) := by decide +kernel
theorem dX7_salt_18 : decode cX7_salt 18 = .ok (.getfield 10, 3) := by decide +kernel
theorem dX7_salt_21 : decode cX7_salt 21 = .ok (.invokevirtual 193, 3) := by decide +kernel
theorem dX7_salt_24 : decode cX7_salt 24 = .ok (.aload_n 0, 1) := by decide +kernel
theorem dX7_salt_25 : decode cX7_salt 25 = .ok (.getfield 10, 3) := by decide +kernel
theorem dX7_salt_28 : decode cX7_salt 28 = .ok (.getfield 74, 3) := by decide +kernel
theorem dX7_salt_31 : decode cX7_salt 31 = .ok (.istore_n 2, 1) := by decide +kernel
theorem dX7_salt_32 : decode cX7_salt 32 = .ok (.aload_n 0, 1) := by decide +kernel
theorem dX7_salt_33 : decode cX7_salt 33 = .ok (.getfield 10, 3) := by decide +kernel
theorem dX7_salt_36 : decode cX7_salt 36 = .ok (.iload_n 1, 1) := by decide +kernel
theorem dX7_salt_37 : decode cX7_salt 37 = .ok (.putfield 74, 3) := by decide +kernel
theorem dX7_salt_40 : decode cX7_salt 40 = .ok (.iload_n 2, 1) := by decide +kernel
theorem dX7_salt_41 : decode cX7_salt 41 = .ok (.ireturn, 1) := by decide +kernel
set_option maxRecDepth 20000 in
theorem ggX7_mode_X7_within : GoodIn wsX7_mode wsX7_within := goodIn_r _ [8] (by decide +kernel) (by decide +kernel)
set_option maxRecDepth 20000 in
theorem gX7_mode_X7_within : GoodIn wsX7_mode (va_wsS RX7 134 yX7_within wsX7_within) := goodIn_app (goodIn_of _ (by decide +kernel)) ggX7_mode_X7_within
set_option maxRecDepth 20000 in
theorem ggX7_mode_X4_remember : GoodIn wsX7_mode wsX4_remember := goodIn_r _ [13, 14, 15, 16, 17, 18, 19, 20, 21, 22, 23, 24, 25, 26, 27, 28, 29, 30, 31, 32, 33, 34, 35, 49, 50, 51, 43, 44, 45, 46, 47, 48] (by decide +kernel) (by decide +kernel)
set_option maxRecDepth 20000 in
theorem gX7_mode_X4_remember : GoodIn wsX7_mode (wsV RX7 193 RX4 yX4_remember wsX4_remember) := goodIn_app (goodIn_of _ (by decide +kernel)) ggX7_mode_X4_remember
theorem dX7_mode_0 : decode cX7_mode 0 = .ok (.iload_n 1, 1) := by decide +kernel
theorem dX7_mode_1 : decode cX7_mode 1 = .ok (.iconst 0, 1) := by decide +kernel
theorem dX7_mode_2 : decode cX7_mode 2 = .ok (.iconst 1, 1) := by decide +kernel
theorem dX7_mode_3 : decode cX7_mode 3 = .ok (.invokestatic 134, 3) := by decide +kernel
theorem dX7_mode_6 : decode cX7_mode 6 = .ok (.ifCond .ne 6, 3) := by decide +kernel
theorem dX7_mode_9 : decode cX7_mode 9 = .ok (.ldc 105, 2) := by decide +kernel
theorem dX7_mode_11 : decode cX7_mode 11 = .ok (.ireturn, 1) := by decide +kernel
theorem dX7_mode_12 : decode cX7_mode 12 = .ok (.aload_n 0, 1) := by decide +kernel
theorem dX7_mode_13 : decode cX7_mode 13 = .ok (.getfield 19, 3) := by decide +kernel
theorem dX7_mode_16 : decode cX7_mode 16 = .ok (.aload_n 0, 1) := by decide +kernel
theorem dX7_mode_17 : decode cX7_mode 17 = .ok (.getfield 10, 3) := by decide +kernel
theorem dX7_mode_20 : decode cX7_mode 20 = .ok (.invokevirtual 193, 3) := by decide +kernel
theorem dX7_mode_23 : decode cX7_mode 23 = .ok (.aload_n 0, 1) := by decide +kernel
theorem dX7_mode_24 : decode cX7_mode 24 = .ok (.getfield 10, 3) := by decide +kernel
theorem dX7_mode_27 : decode cX7_mode 27 = .ok (.getfield 77, 3) := by decide +kernel
theorem dX7_mode_30 : decode cX7_mode 30 = .ok (.istore_n 2, 1) := by decide +kernel
theorem dX7_mode_31 : decode cX7_mode 31 = .ok (.aload_n 0, 1) := by decide +kernel
theorem dX7_mode_32 : decode cX7_mode 32 = .ok (.getfield 10, 3) := by decide +kernel
theorem dX7_mode_35 : decode cX7_mode 35 = .ok (.iload_n 1, 1) := by decide +kernel
theorem dX7_mode_36 : decode cX7_mode 36 = .ok (.putfield 77, 3) := by decide +kernel
theorem dX7_mode_39 : decode cX7_mode 39 = .ok (.iload_n 2, 1) := by decide +kernel
theorem dX7_mode_40 : decode cX7_mode 40 = .ok (.ireturn, 1) := by decide +kernel
set_option maxRecDepth 20000 in
theorem ggX7_drift_X7_within : GoodIn wsX7_drift wsX7_within := goodIn_r _ [10] (by decide +kernel) (by decide +kernel)
set_option maxRecDepth 20000 in
theorem gX7_drift_X7_within : GoodIn wsX7_drift (va_wsS RX7 134 yX7_within wsX7_within) := goodIn_app (goodIn_of _ (by decide +kernel)) ggX7_drift_X7_within
set_option maxRecDepth 20000 in
theorem ggX7_drift_X4_remember : GoodIn wsX7_drift wsX4_remember := goodIn_r _ [15, 16, 17, 18, 19, 20, 21, 22, 23, 24, 25, 26, 27, 28, 29, 30, 31, 32, 33, 34, 35, 36, 37, 125, 126, 127, 119, 120, 121, 122, 123, 124] (by decide +kernel) (by decide +kernel)
set_option maxRecDepth 20000 in
theorem gX7_drift_X4_remember : GoodIn wsX7_drift (wsV RX7 193 RX4 yX4_remember wsX4_remember) := goodIn_app (goodIn_of _ (by decide +kernel)) ggX7_drift_X4_remember
set_option maxRecDepth 20000 in
theorem ggX7_drift_X1_next : GoodIn wsX7_drift wsX1_next := goodIn_r _ [42, 43, 44, 45, 46, 47, 128] (by decide +kernel) (by decide +kernel)
set_option maxRecDepth 20000 in
theorem gX7_drift_X1_next : GoodIn wsX7_drift (wsV RX7 210 RX1 yX1_next wsX1_next) := goodIn_app (goodIn_of _ (by decide +kernel)) ggX7_drift_X1_next
set_option maxRecDepth 20000 in
theorem ggX7_drift_X3_turnItem : GoodIn wsX7_drift wsX3_turnItem := goodIn_r _ [51, 37, 119, 120, 121, 122, 123, 124] (by decide +kernel) (by decide +kernel)
set_option maxRecDepth 20000 in
theorem gX7_drift_X3_turnItem : GoodIn wsX7_drift (wsV RX7 213 RX3 yX3_turnItem wsX3_turnItem) := goodIn_app (goodIn_of _ (by decide +kernel)) ggX7_drift_X3_turnItem
set_option maxRecDepth 20000 in
theorem ggX7_drift_X6_trace : GoodIn wsX7_drift wsX6_trace := goodIn_r _ [56, 57, 58, 59, 55, 60, 61, 62, 63, 64, 65, 66, 67, 68, 69, 70, 71, 72, 73, 74, 9, 75, 76, 77, 78, 79, 80, 81, 82, 83, 84, 85, 86, 87, 88, 89, 90, 91, 92, 93, 94, 95, 96, 97, 98, 99, 129, 130, 131, 132, 133, 134, 135, 136, 137, 138, 119, 120, 121, 122, 123, 124] (by decide +kernel) (by decide +kernel)
set_option maxRecDepth 20000 in
theorem gX7_drift_X6_trace : GoodIn wsX7_drift (wsV RX7 55 RX6 yX6_trace wsX6_trace) := goodIn_app (goodIn_of _ (by decide +kernel)) ggX7_drift_X6_trace
set_option maxRecDepth 20000 in
theorem ggX7_drift_X6_trueCount : GoodIn wsX7_drift wsX6_trueCount := goodIn_r _ [103, 72, 61, 104, 105, 106, 107, 108, 109, 110, 111, 119, 120, 121, 122, 123, 124, 129, 130, 131, 132, 133, 134, 135, 136, 137, 138] (by decide +kernel) (by decide +kernel)
set_option maxRecDepth 20000 in
theorem gX7_drift_X6_trueCount : GoodIn wsX7_drift (wsV RX7 87 RX6 yX6_trueCount wsX6_trueCount) := goodIn_app (goodIn_of _ (by decide +kernel)) ggX7_drift_X6_trueCount
theorem dX7_drift_0 : decode cX7_drift 0 = .ok (.iload_n 1, 1) := by decide +kernel
theorem dX7_drift_1 : decode cX7_drift 1 = .ok (.iconst 1, 1) := by decide +kernel
theorem dX7_drift_2 : decode cX7_drift 2 = .ok (.bipush 12, 2) := by decide +kernel
theorem dX7_drift_4 : decode cX7_drift 4 = .ok (.invokestatic 134, 3) := by decide +kernel
theorem dX7_drift_7 : decode cX7_drift 7 = .ok (.ifCond .ne 6, 3) := by decide +kernel
theorem dX7_drift_10 : decode cX7_drift 10 = .ok (.ldc 105, 2) := by decide +kernel
theorem dX7_drift_12 : decode cX7_drift 12 = .ok (.ireturn, 1) := by decide +kernel
theorem dX7_drift_13 : decode cX7_drift 13 = .ok (.iconst 0, 1) := by decide +kernel
theorem dX7_drift_14 : decode cX7_drift 14 = .ok (.istore_n 2, 1) := by decide +kernel
theorem dX7_drift_15 : decode cX7_drift 15 = .ok (.iload_n 2, 1) := by decide +kernel
theorem dX7_drift_16 : decode cX7_drift 16 = .ok (.iload_n 1, 1) := by decide +kernel
theorem dX7_drift_17 : decode cX7_drift 17 = .ok (.if_icmp .ge 56, 3) := by decide +kernel
theorem dX7_drift_20 : decode cX7_drift 20 = .ok (.aload_n 0, 1) := by decide +kernel
theorem dX7_drift_21 : decode cX7_drift 21 = .ok (.getfield 19, 3) := by decide +kernel
theorem dX7_drift_24 : decode cX7_drift 24 = .ok (.aload_n 0, 1) := by decide +kernel
theorem dX7_drift_25 : decode cX7_drift 25 = .ok (.getfield 10, 3) := by decide +kernel
theorem dX7_drift_28 : decode cX7_drift 28 = .ok (.invokevirtual 193, 3) := by decide +kernel
theorem dX7_drift_31 : decode cX7_drift 31 = .ok (.aload_n 0, 1) := by decide +kernel
theorem dX7_drift_32 : decode cX7_drift 32 = .ok (.getfield 40, 3) := by decide +kernel
theorem dX7_drift_35 : decode cX7_drift 35 = .ok (.aload_n 0, 1) := by decide +kernel
theorem dX7_drift_36 : decode cX7_drift 36 = .ok (.getfield 10, 3) := by decide +kernel
theorem dX7_drift_39 : decode cX7_drift 39 = .ok (.getfield 59, 3) := by decide +kernel
theorem dX7_drift_42 : decode cX7_drift 42 = .ok (.invokevirtual 210, 3) := by decide +kernel
theorem dX7_drift_45 : decode cX7_drift 45 = .ok (.istore_n 3, 1) := by decide +kernel
theorem dX7_drift_46 : decode cX7_drift 46 = .ok (.aload_n 0, 1) := by decide +kernel
theorem dX7_drift_47 : decode cX7_drift 47 = .ok (.getfield 40, 3) := by decide +kernel
theorem dX7_drift_50 : decode cX7_drift 50 = .ok (.bipush 16, 2) := by decide +kernel
theorem dX7_drift_52 : decode cX7_drift 52 = .ok (.invokevirtual 210, 3) := by decide +kernel
theorem dX7_drift_55 : decode cX7_drift 55 = .ok (.istore 4, 2) := by decide +kernel
theorem dX7_drift_57 : decode cX7_drift 57 = .ok (.aload_n 0, 1) := by decide +kernel
theorem dX7_drift_58 : decode cX7_drift 58 = .ok (.getfield 10, 3) := by decide +kernel
theorem dX7_drift_61 : decode cX7_drift 61 = .ok (.iload_n 3, 1) := by decide +kernel
theorem dX7_drift_62 : decode cX7_drift 62 = .ok (.iload 4, 2) := by decide +kernel
theorem dX7_drift_64 : decode cX7_drift 64 = .ok (.invokevirtual 213, 3) := by decide +kernel
theorem dX7_drift_67 : decode cX7_drift 67 = .ok (.iinc 2 1, 3) := by decide +kernel
theorem dX7_drift_70 : decode cX7_drift 70 = .ok (.goto (-55), 3) := by decide +kernel
theorem dX7_drift_73 : decode cX7_drift 73 = .ok (.aload_n 0, 1) := by decide +kernel
theorem dX7_drift_74 : decode cX7_drift 74 = .ok (.getfield 26, 3) := by decide +kernel
theorem dX7_drift_77 : decode cX7_drift 77 = .ok (.aload_n 0, 1) := by decide +kernel
theorem dX7_drift_78 : decode cX7_drift 78 = .ok (.getfield 10, 3) := by decide +kernel
theorem dX7_drift_81 : decode cX7_drift 81 = .ok (.invokevirtual 55, 3) := by decide +kernel
theorem dX7_drift_84 : decode cX7_drift 84 = .ok (.aload_n 0, 1) := by decide +kernel
theorem dX7_drift_85 : decode cX7_drift 85 = .ok (.getfield 26, 3) := by decide +kernel
theorem dX7_drift_88 : decode cX7_drift 88 = .ok (.aload_n 0, 1) := by decide +kernel
theorem dX7_drift_89 : decode cX7_drift 89 = .ok (.getfield 10, 3) := by decide +kernel
theorem dX7_drift_92 : decode cX7_drift 92 = .ok (.invokevirtual 87, 3) := by decide +kernel
theorem dX7_drift_95 : decode cX7_drift 95 = .ok (.ireturn, 1) := by decide +kernel
set_option maxRecDepth 20000 in
theorem ggX7_undo_X7_within : GoodIn wsX7_undo wsX7_within := goodIn_r _ [9] (by decide +kernel) (by decide +kernel)
set_option maxRecDepth 20000 in
theorem gX7_undo_X7_within : GoodIn wsX7_undo (va_wsS RX7 134 yX7_within wsX7_within) := goodIn_app (goodIn_of _ (by decide +kernel)) ggX7_undo_X7_within
set_option maxRecDepth 20000 in
theorem ggX7_undo_X4_restore : GoodIn wsX7_undo wsX4_restore := goodIn_r _ [14, 15, 16, 17, 18, 19, 20, 21, 22, 23, 24, 25, 26, 27, 28, 29, 30, 31, 32, 40, 41, 42, 43, 44, 45, 46, 47, 48] (by decide +kernel) (by decide +kernel)
set_option maxRecDepth 20000 in
theorem gX7_undo_X4_restore : GoodIn wsX7_undo (wsV RX7 216 RX4 yX4_restore wsX4_restore) := goodIn_app (goodIn_of _ (by decide +kernel)) ggX7_undo_X4_restore
theorem dX7_undo_0 : decode cX7_undo 0 = .ok (.iload_n 1, 1) := by decide +kernel
theorem dX7_undo_1 : decode cX7_undo 1 = .ok (.iconst 1, 1) := by decide +kernel
theorem dX7_undo_2 : decode cX7_undo 2 = .ok (.bipush 16, 2) := by decide +kernel
theorem dX7_undo_4 : decode cX7_undo 4 = .ok (.invokestatic 134, 3) := by decide +kernel
theorem dX7_undo_7 : decode cX7_undo 7 = .ok (.ifCond .ne 6, 3) := by decide +kernel
theorem dX7_undo_10 : decode cX7_undo 10 = .ok (.ldc 105, 2) := by decide +kernel
theorem dX7_undo_12 : decode cX7_undo 12 = .ok (.ireturn, 1) := by decide +kernel
theorem dX7_undo_13 : decode cX7_undo 13 = .ok (.iload_n 1, 1) := by decide +kernel
theorem dX7_undo_14 : decode cX7_undo 14 = .ok (.aload_n 0, 1) := by decide +kernel
theorem dX7_undo_15 : decode cX7_undo 15 = .ok (.getfield 19, 3) := by decide +kernel
theorem dX7_undo_18 : decode cX7_undo 18 = .ok (.getfield 101, 3) := by decide +kernel
theorem dX7_undo_21 : decode cX7_undo 21 = .ok (.if_icmp .le 6, 3) := by decide +kernel
theorem dX7_undo_24 : decode cX7_undo 24 = .ok (.ldc 200, 2) := by decide +kernel
theorem dX7_undo_26 : decode cX7_undo 26 = .ok (.ireturn, 1) := by decide +kernel
theorem dX7_undo_27 : decode cX7_undo 27 = .ok (.aload_n 0, 1) := by decide +kernel
theorem dX7_undo_28 : decode cX7_undo 28 = .ok (.getfield 19, 3) := by decide +kernel
theorem dX7_undo_31 : decode cX7_undo 31 = .ok (.aload_n 0, 1) := by decide +kernel
theorem dX7_undo_32 : decode cX7_undo 32 = .ok (.getfield 10, 3) := by decide +kernel
theorem dX7_undo_35 : decode cX7_undo 35 = .ok (.iload_n 1, 1) := by decide +kernel
theorem dX7_undo_36 : decode cX7_undo 36 = .ok (.invokevirtual 216, 3) := by decide +kernel
theorem dX7_undo_39 : decode cX7_undo 39 = .ok (.aload_n 0, 1) := by decide +kernel
theorem dX7_undo_40 : decode cX7_undo 40 = .ok (.getfield 19, 3) := by decide +kernel
theorem dX7_undo_43 : decode cX7_undo 43 = .ok (.getfield 101, 3) := by decide +kernel
theorem dX7_undo_46 : decode cX7_undo 46 = .ok (.ireturn, 1) := by decide +kernel
set_option maxRecDepth 20000 in
theorem ggX7_write_X3_has : GoodIn wsX7_write wsX3_has := goodIn_r _ [10, 11, 30, 31, 32, 33, 34, 35] (by decide +kernel) (by decide +kernel)
set_option maxRecDepth 20000 in
theorem gX7_write_X3_has : GoodIn wsX7_write (wsV RX7 106 RX3 yX3_has wsX3_has) := goodIn_app (goodIn_of _ (by decide +kernel)) ggX7_write_X3_has
set_option maxRecDepth 20000 in
theorem ggX7_write_X0_enter : GoodIn wsX7_write wsX0_enter := goodIn_r _ [16, 17, 18, 19, 27, 28, 29] (by decide +kernel) (by decide +kernel)
set_option maxRecDepth 20000 in
theorem gX7_write_X0_enter : GoodIn wsX7_write (wsV RX7 219 RX0 yX0_enter wsX0_enter) := goodIn_app (goodIn_of _ (by decide +kernel)) ggX7_write_X0_enter
theorem dX7_write_0 : decode cX7_write 0 = .ok (.aload_n 0, 1) := by decide +kernel
theorem dX7_write_1 : decode cX7_write 1 = .ok (.getfield 10, 3) := by decide +kernel
theorem dX7_write_4 : decode cX7_write 4 = .ok (.iload_n 1, 1) := by decide +kernel
theorem dX7_write_5 : decode cX7_write 5 = .ok (.invokevirtual 106, 3) := by decide +kernel
theorem dX7_write_8 : decode cX7_write 8 = .ok (.ifCond .ne 6, 3) := by decide +kernel
theorem dX7_write_11 : decode cX7_write 11 = .ok (.ldc 110, 2) := by decide +kernel
theorem dX7_write_13 : decode cX7_write 13 = .ok (.ireturn, 1) := by decide +kernel
theorem dX7_write_14 : decode cX7_write 14 = .ok (.aload_n 0, 1) := by decide +kernel
theorem dX7_write_15 : decode cX7_write 15 = .ok (.getfield 33, 3) := by decide +kernel
theorem dX7_write_18 : decode cX7_write 18 = .ok (.getfield 97, 3) := by decide +kernel
theorem dX7_write_21 : decode cX7_write 21 = .ok (.bipush 20, 2) := by decide +kernel
theorem dX7_write_23 : decode cX7_write 23 = .ok (.if_icmp .lt 6, 3) := by decide +kernel
theorem dX7_write_26 : decode cX7_write 26 = .ok (.ldc 192, 2) := by decide +kernel
theorem dX7_write_28 : decode cX7_write 28 = .ok (.ireturn, 1) := by decide +kernel
theorem dX7_write_29 : decode cX7_write 29 = .ok (.aload_n 0, 1) := by decide +kernel
theorem dX7_write_30 : decode cX7_write 30 = .ok (.getfield 33, 3) := by decide +kernel
theorem dX7_write_33 : decode cX7_write 33 = .ok (.iload_n 1, 1) := by decide +kernel
theorem dX7_write_34 : decode cX7_write 34 = .ok (.iload_n 2, 1) := by decide +kernel
theorem dX7_write_35 : decode cX7_write 35 = .ok (.invokevirtual 219, 3) := by decide +kernel
theorem dX7_write_38 : decode cX7_write 38 = .ok (.aload_n 0, 1) := by decide +kernel
theorem dX7_write_39 : decode cX7_write 39 = .ok (.getfield 33, 3) := by decide +kernel
theorem dX7_write_42 : decode cX7_write 42 = .ok (.getfield 97, 3) := by decide +kernel
theorem dX7_write_45 : decode cX7_write 45 = .ok (.ireturn, 1) := by decide +kernel
theorem dX7_tear_0 : decode cX7_tear 0 = .ok (.aload_n 0, 1) := by decide +kernel
theorem dX7_tear_1 : decode cX7_tear 1 = .ok (.getfield 33, 3) := by decide +kernel
theorem dX7_tear_4 : decode cX7_tear 4 = .ok (.getfield 97, 3) := by decide +kernel
theorem dX7_tear_7 : decode cX7_tear 7 = .ok (.istore_n 1, 1) := by decide +kernel
theorem dX7_tear_8 : decode cX7_tear 8 = .ok (.aload_n 0, 1) := by decide +kernel
theorem dX7_tear_9 : decode cX7_tear 9 = .ok (.getfield 33, 3) := by decide +kernel
theorem dX7_tear_12 : decode cX7_tear 12 = .ok (.iconst 0, 1) := by decide +kernel
theorem dX7_tear_13 : decode cX7_tear 13 = .ok (.putfield 97, 3) := by decide +kernel
theorem dX7_tear_16 : decode cX7_tear 16 = .ok (.iload_n 1, 1) := by decide +kernel
theorem dX7_tear_17 : decode cX7_tear 17 = .ok (.ireturn, 1) := by decide +kernel
theorem dX7_seed_0 : decode cX7_seed 0 = .ok (.iload_n 1, 1) := by decide +kernel
theorem dX7_seed_1 : decode cX7_seed 1 = .ok (.ifCond .ge 6, 3) := by decide +kernel
theorem dX7_seed_4 : decode cX7_seed 4 = .ok (.ldc 105, 2) := by decide +kernel
theorem dX7_seed_6 : decode cX7_seed 6 = .ok (.ireturn, 1) := by decide +kernel
theorem dX7_seed_7 : decode cX7_seed 7 = .ok (.aload_n 0, 1) := by decide +kernel
theorem dX7_seed_8 : decode cX7_seed 8 = .ok (.getfield 40, 3) := by decide +kernel
theorem dX7_seed_11 : decode cX7_seed 11 = .ok (.getfield 102, 3) := by decide +kernel
theorem dX7_seed_14 : decode cX7_seed 14 = .ok (.istore_n 2, 1) := by decide +kernel
theorem dX7_seed_15 : decode cX7_seed 15 = .ok (.aload_n 0, 1) := by decide +kernel
theorem dX7_seed_16 : decode cX7_seed 16 = .ok (.getfield 40, 3) := by decide +kernel
theorem dX7_seed_19 : decode cX7_seed 19 = .ok (.iload_n 1, 1) := by decide +kernel
theorem dX7_seed_20 : decode cX7_seed 20 = .ok (.putfield 102, 3) := by decide +kernel
theorem dX7_seed_23 : decode cX7_seed 23 = .ok (.iload_n 2, 1) := by decide +kernel
theorem dX7_seed_24 : decode cX7_seed 24 = .ok (.ireturn, 1) := by decide +kernel
set_option maxRecDepth 20000 in
theorem ggX7_keep_X7_within : GoodIn wsX7_keep wsX7_within := goodIn_r _ [13] (by decide +kernel) (by decide +kernel)
set_option maxRecDepth 20000 in
theorem gX7_keep_X7_within : GoodIn wsX7_keep (va_wsS RX7 134 yX7_within wsX7_within) := goodIn_app (goodIn_of _ (by decide +kernel)) ggX7_keep_X7_within
set_option maxRecDepth 20000 in
theorem ggX7_keep_X3_become : GoodIn wsX7_keep wsX3_become := goodIn_r _ [18, 19, 20, 21, 22, 23, 24, 25, 26, 27, 28, 46, 47, 48, 49, 50, 51] (by decide +kernel) (by decide +kernel)
set_option maxRecDepth 20000 in
theorem gX7_keep_X3_become : GoodIn wsX7_keep (wsV RX7 228 RX3 yX3_become wsX3_become) := goodIn_app (goodIn_of _ (by decide +kernel)) ggX7_keep_X3_become
set_option maxRecDepth 20000 in
theorem ggX7_keep_X4_forget : GoodIn wsX7_keep wsX4_forget := goodIn_r _ [33, 34, 52, 53, 54] (by decide +kernel) (by decide +kernel)
set_option maxRecDepth 20000 in
theorem gX7_keep_X4_forget : GoodIn wsX7_keep (wsV RX7 231 RX4 yX4_forget wsX4_forget) := goodIn_app (goodIn_of _ (by decide +kernel)) ggX7_keep_X4_forget
theorem dX7_keep_0 : decode cX7_keep 0 = .ok (.iload_n 1, 1) := by decide +kernel
theorem dX7_keep_1 : decode cX7_keep 1 = .ok (.iconst 0, 1) := by decide +kernel
theorem dX7_keep_2 : decode cX7_keep 2 = .ok (.iconst 1, 1) := by decide +kernel
theorem dX7_keep_3 : decode cX7_keep 3 = .ok (.invokestatic 134, 3) := by decide +kernel
theorem dX7_keep_6 : decode cX7_keep 6 = .ok (.ifCond .ne 6, 3) := by decide +kernel
theorem dX7_keep_9 : decode cX7_keep 9 = .ok (.ldc 110, 2) := by decide +kernel
theorem dX7_keep_11 : decode cX7_keep 11 = .ok (.ireturn, 1) := by decide +kernel
theorem dX7_keep_12 : decode cX7_keep 12 = .ok (.aload_n 0, 1) := by decide +kernel
theorem dX7_keep_13 : decode cX7_keep 13 = .ok (.getfield 46, 3) := by decide +kernel
theorem dX7_keep_16 : decode cX7_keep 16 = .ok (.iload_n 1, 1) := by decide +kernel
theorem dX7_keep_17 : decode cX7_keep 17 = .ok (.aaload, 1) := by decide +kernel
theorem dX7_keep_18 : decode cX7_keep 18 = .ok (.iconst 1, 1) := by decide +kernel
theorem dX7_keep_19 : decode cX7_keep 19 = .ok (.putfield 222, 3) := by decide +kernel
theorem dX7_keep_22 : decode cX7_keep 22 = .ok (.aload_n 0, 1) := by decide +kernel
theorem dX7_keep_23 : decode cX7_keep 23 = .ok (.getfield 46, 3) := by decide +kernel
theorem dX7_keep_26 : decode cX7_keep 26 = .ok (.iload_n 1, 1) := by decide +kernel
theorem dX7_keep_27 : decode cX7_keep 27 = .ok (.aaload, 1) := by decide +kernel
theorem dX7_keep_28 : decode cX7_keep 28 = .ok (.aload_n 0, 1) := by decide +kernel
theorem dX7_keep_29 : decode cX7_keep 29 = .ok (.getfield 40, 3) := by decide +kernel
theorem dX7_keep_32 : decode cX7_keep 32 = .ok (.getfield 102, 3) := by decide +kernel
theorem dX7_keep_35 : decode cX7_keep 35 = .ok (.putfield 226, 3) := by decide +kernel
theorem dX7_keep_38 : decode cX7_keep 38 = .ok (.aload_n 0, 1) := by decide +kernel
theorem dX7_keep_39 : decode cX7_keep 39 = .ok (.getfield 46, 3) := by decide +kernel
theorem dX7_keep_42 : decode cX7_keep 42 = .ok (.iload_n 1, 1) := by decide +kernel
theorem dX7_keep_43 : decode cX7_keep 43 = .ok (.aaload, 1) := by decide +kernel
theorem dX7_keep_44 : decode cX7_keep 44 = .ok (.getfield 227, 3) := by decide +kernel
theorem dX7_keep_47 : decode cX7_keep 47 = .ok (.aload_n 0, 1) := by decide +kernel
theorem dX7_keep_48 : decode cX7_keep 48 = .ok (.getfield 10, 3) := by decide +kernel
theorem dX7_keep_51 : decode cX7_keep 51 = .ok (.invokevirtual 228, 3) := by decide +kernel
theorem dX7_keep_54 : decode cX7_keep 54 = .ok (.aload_n 0, 1) := by decide +kernel
theorem dX7_keep_55 : decode cX7_keep 55 = .ok (.getfield 19, 3) := by decide +kernel
theorem dX7_keep_58 : decode cX7_keep 58 = .ok (.invokevirtual 231, 3) := by decide +kernel
theorem dX7_keep_61 : decode cX7_keep 61 = .ok (.iconst 1, 1) := by decide +kernel
theorem dX7_keep_62 : decode cX7_keep 62 = .ok (.ireturn, 1) := by decide +kernel
set_option maxRecDepth 20000 in
theorem ggX7_goBack_X7_within : GoodIn wsX7_goBack wsX7_within := goodIn_r _ [14] (by decide +kernel) (by decide +kernel)
set_option maxRecDepth 20000 in
theorem gX7_goBack_X7_within : GoodIn wsX7_goBack (va_wsS RX7 134 yX7_within wsX7_within) := goodIn_app (goodIn_of _ (by decide +kernel)) ggX7_goBack_X7_within
set_option maxRecDepth 20000 in
theorem ggX7_goBack_X3_become : GoodIn wsX7_goBack wsX3_become := goodIn_r _ [19, 20, 21, 22, 23, 24, 25, 26, 27, 28, 29, 47, 48, 49, 50, 51, 52] (by decide +kernel) (by decide +kernel)
set_option maxRecDepth 20000 in
theorem gX7_goBack_X3_become : GoodIn wsX7_goBack (wsV RX7 228 RX3 yX3_become wsX3_become) := goodIn_app (goodIn_of _ (by decide +kernel)) ggX7_goBack_X3_become
set_option maxRecDepth 20000 in
theorem ggX7_goBack_X4_forget : GoodIn wsX7_goBack wsX4_forget := goodIn_r _ [34, 35, 53, 54, 55] (by decide +kernel) (by decide +kernel)
set_option maxRecDepth 20000 in
theorem gX7_goBack_X4_forget : GoodIn wsX7_goBack (wsV RX7 231 RX4 yX4_forget wsX4_forget) := goodIn_app (goodIn_of _ (by decide +kernel)) ggX7_goBack_X4_forget
theorem dX7_goBack_0 : decode cX7_goBack 0 = .ok (.iload_n 1, 1) := by decide +kernel
theorem dX7_goBack_1 : decode cX7_goBack 1 = .ok (.iconst 0, 1) := by decide +kernel
theorem dX7_goBack_2 : decode cX7_goBack 2 = .ok (.iconst 1, 1) := by decide +kernel
theorem dX7_goBack_3 : decode cX7_goBack 3 = .ok (.invokestatic 134, 3) := by decide +kernel
theorem dX7_goBack_6 : decode cX7_goBack 6 = .ok (.ifCond .ne 6, 3) := by decide +kernel
theorem dX7_goBack_9 : decode cX7_goBack 9 = .ok (.ldc 110, 2) := by decide +kernel
theorem dX7_goBack_11 : decode cX7_goBack 11 = .ok (.ireturn, 1) := by decide +kernel
theorem dX7_goBack_12 : decode cX7_goBack 12 = .ok (.aload_n 0, 1) := by decide +kernel
theorem dX7_goBack_13 : decode cX7_goBack 13 = .ok (.getfield 46, 3) := by decide +kernel
theorem dX7_goBack_16 : decode cX7_goBack 16 = .ok (.iload_n 1, 1) := by decide +kernel
theorem dX7_goBack_17 : decode cX7_goBack 17 = .ok (.aaload, 1) := by decide +kernel
theorem dX7_goBack_18 : decode cX7_goBack 18 = .ok (.getfield 222, 3) := by decide +kernel
theorem dX7_goBack_21 : decode cX7_goBack 21 = .ok (.ifCond .ne 6, 3) := by decide +kernel
theorem dX7_goBack_24 : decode cX7_goBack 24 = .ok (.ldc 200, 2) := by decide +kernel
theorem dX7_goBack_26 : decode cX7_goBack 26 = .ok (.ireturn, 1) := by decide +kernel
theorem dX7_goBack_27 : decode cX7_goBack 27 = .ok (.aload_n 0, 1) := by decide +kernel
theorem dX7_goBack_28 : decode cX7_goBack 28 = .ok (.getfield 40, 3) := by decide +kernel
theorem dX7_goBack_31 : decode cX7_goBack 31 = .ok (.aload_n 0, 1) := by decide +kernel
theorem dX7_goBack_32 : decode cX7_goBack 32 = .ok (.getfield 46, 3) := by decide +kernel
theorem dX7_goBack_35 : decode cX7_goBack 35 = .ok (.iload_n 1, 1) := by decide +kernel
theorem dX7_goBack_36 : decode cX7_goBack 36 = .ok (.aaload, 1) := by decide +kernel
theorem dX7_goBack_37 : decode cX7_goBack 37 = .ok (.getfield 226, 3) := by decide +kernel
theorem dX7_goBack_40 : decode cX7_goBack 40 = .ok (.putfield 102, 3) := by decide +kernel
theorem dX7_goBack_43 : decode cX7_goBack 43 = .ok (.aload_n 0, 1) := by decide +kernel
theorem dX7_goBack_44 : decode cX7_goBack 44 = .ok (.getfield 10, 3) := by decide +kernel
theorem dX7_goBack_47 : decode cX7_goBack 47 = .ok (.aload_n 0, 1) := by decide +kernel
theorem dX7_goBack_48 : decode cX7_goBack 48 = .ok (.getfield 46, 3) := by decide +kernel
theorem dX7_goBack_51 : decode cX7_goBack 51 = .ok (.iload_n 1, 1) := by decide +kernel
theorem dX7_goBack_52 : decode cX7_goBack 52 = .ok (.aaload, 1) := by decide +kernel
theorem dX7_goBack_53 : decode cX7_goBack 53 = .ok (.getfield 227, 3) := by decide +kernel
theorem dX7_goBack_56 : decode cX7_goBack 56 = .ok (.invokevirtual 228, 3) := by decide +kernel
theorem dX7_goBack_59 : decode cX7_goBack 59 = .ok (.aload_n 0, 1) := by decide +kernel
theorem dX7_goBack_60 : decode cX7_goBack 60 = .ok (.getfield 19, 3) := by decide +kernel
theorem dX7_goBack_63 : decode cX7_goBack 63 = .ok (.invokevirtual 231, 3) := by decide +kernel
theorem dX7_goBack_66 : decode cX7_goBack 66 = .ok (.iconst 1, 1) := by decide +kernel
theorem dX7_goBack_67 : decode cX7_goBack 67 = .ok (.ireturn, 1) := by decide +kernel
theorem dX7_within_0 : decode cX7_within 0 = .ok (.iload_n 0, 1) := by decide +kernel
theorem dX7_within_1 : decode cX7_within 1 = .ok (.iload_n 1, 1) := by decide +kernel
theorem dX7_within_2 : decode cX7_within 2 = .ok (.if_icmp .lt 12, 3) := by decide +kernel
theorem dX7_within_5 : decode cX7_within 5 = .ok (.iload_n 0, 1) := by decide +kernel
theorem dX7_within_6 : decode cX7_within 6 = .ok (.iload_n 2, 1) := by decide +kernel
theorem dX7_within_7 : decode cX7_within 7 = .ok (.if_icmp .gt 7, 3) := by decide +kernel
theorem dX7_within_10 : decode cX7_within 10 = .ok (.iconst 1, 1) := by decide +kernel
theorem dX7_within_11 : decode cX7_within 11 = .ok (.goto 4, 3) := by decide +kernel
theorem dX7_within_14 : decode cX7_within 14 = .ok (.iconst 0, 1) := by decide +kernel
theorem dX7_within_15 : decode cX7_within 15 = .ok (.ireturn, 1) := by decide +kernel
theorem dX7_isIn_0 : decode cX7_isIn 0 = .ok (.iload_n 0, 1) := by decide +kernel
theorem dX7_isIn_1 : decode cX7_isIn 1 = .ok (.iload_n 1, 1) := by decide +kernel
theorem dX7_isIn_2 : decode cX7_isIn 2 = .ok (.ishr, 1) := by decide +kernel
theorem dX7_isIn_3 : decode cX7_isIn 3 = .ok (.iconst 1, 1) := by decide +kernel
theorem dX7_isIn_4 : decode cX7_isIn 4 = .ok (.iand, 1) := by decide +kernel
theorem dX7_isIn_5 : decode cX7_isIn 5 = .ok (.iconst 1, 1) := by decide +kernel
theorem dX7_isIn_6 : decode cX7_isIn 6 = .ok (.if_icmp .ne 7, 3) := by decide +kernel
theorem dX7_isIn_9 : decode cX7_isIn 9 = .ok (.iconst 1, 1) := by decide +kernel
theorem dX7_isIn_10 : decode cX7_isIn 10 = .ok (.goto 4, 3) := by decide +kernel
theorem dX7_isIn_13 : decode cX7_isIn 13 = .ok (.iconst 0, 1) := by decide +kernel
theorem dX7_isIn_14 : decode cX7_isIn 14 = .ok (.ireturn, 1) := by decide +kernel
set_option maxRecDepth 20000 in
theorem ggX7_pairsIn_J6_bitCount_0f7a4 : GoodIn wsX7_pairsIn wsJ6_bitCount_0f7a4 := goodIn_r _ [4, 5, 6, 7] (by decide +kernel) (by decide +kernel)
set_option maxRecDepth 20000 in
theorem gX7_pairsIn_J6_bitCount_0f7a4 : GoodIn wsX7_pairsIn (va_wsS RX7 234 yJ6_bitCount_0f7a4 wsJ6_bitCount_0f7a4) := goodIn_app (goodIn_of _ (by decide +kernel)) ggX7_pairsIn_J6_bitCount_0f7a4
theorem dX7_pairsIn_0 : decode cX7_pairsIn 0 = .ok (.iconst 0, 1) := by decide +kernel
theorem dX7_pairsIn_1 : decode cX7_pairsIn 1 = .ok (.istore_n 1, 1) := by decide +kernel
theorem dX7_pairsIn_2 : decode cX7_pairsIn 2 = .ok (.aload_n 0, 1) := by decide +kernel
theorem dX7_pairsIn_3 : decode cX7_pairsIn 3 = .ok (.astore_n 2, 1) := by decide +kernel
theorem dX7_pairsIn_4 : decode cX7_pairsIn 4 = .ok (.aload_n 2, 1) := by decide +kernel
theorem dX7_pairsIn_5 : decode cX7_pairsIn 5 = .ok (.arraylength, 1) := by decide +kernel
theorem dX7_pairsIn_6 : decode cX7_pairsIn 6 = .ok (.istore_n 3, 1) := by decide +kernel
theorem dX7_pairsIn_7 : decode cX7_pairsIn 7 = .ok (.iconst 0, 1) := by decide +kernel
theorem dX7_pairsIn_8 : decode cX7_pairsIn 8 = .ok (.istore 4, 2) := by decide +kernel
theorem dX7_pairsIn_10 : decode cX7_pairsIn 10 = .ok (.iload 4, 2) := by decide +kernel
theorem dX7_pairsIn_12 : decode cX7_pairsIn 12 = .ok (.iload_n 3, 1) := by decide +kernel
theorem dX7_pairsIn_13 : decode cX7_pairsIn 13 = .ok (.if_icmp .ge 23, 3) := by decide +kernel
theorem dX7_pairsIn_16 : decode cX7_pairsIn 16 = .ok (.aload_n 2, 1) := by decide +kernel
theorem dX7_pairsIn_17 : decode cX7_pairsIn 17 = .ok (.iload 4, 2) := by decide +kernel
theorem dX7_pairsIn_19 : decode cX7_pairsIn 19 = .ok (.iaload, 1) := by decide +kernel
theorem dX7_pairsIn_20 : decode cX7_pairsIn 20 = .ok (.istore 5, 2) := by decide +kernel
theorem dX7_pairsIn_22 : decode cX7_pairsIn 22 = .ok (.iload_n 1, 1) := by decide +kernel
theorem dX7_pairsIn_23 : decode cX7_pairsIn 23 = .ok (.iload 5, 2) := by decide +kernel
theorem dX7_pairsIn_25 : decode cX7_pairsIn 25 = .ok (.invokestatic 234, 3) := by decide +kernel
theorem dX7_pairsIn_28 : decode cX7_pairsIn 28 = .ok (.iadd, 1) := by decide +kernel
theorem dX7_pairsIn_29 : decode cX7_pairsIn 29 = .ok (.istore_n 1, 1) := by decide +kernel
theorem dX7_pairsIn_30 : decode cX7_pairsIn 30 = .ok (.iinc 4 1, 3) := by decide +kernel
theorem dX7_pairsIn_33 : decode cX7_pairsIn 33 = .ok (.goto (-23), 3) := by decide +kernel
theorem dX7_pairsIn_36 : decode cX7_pairsIn 36 = .ok (.iload_n 1, 1) := by decide +kernel
theorem dX7_pairsIn_37 : decode cX7_pairsIn 37 = .ok (.iconst 2, 1) := by decide +kernel
theorem dX7_pairsIn_38 : decode cX7_pairsIn 38 = .ok (.idiv, 1) := by decide +kernel
theorem dX7_pairsIn_39 : decode cX7_pairsIn 39 = .ok (.ireturn, 1) := by decide +kernel
theorem dX7_markOf_0 : decode cX7_markOf 0 = .ok (.iload_n 0, 1) := by decide +kernel
theorem dX7_markOf_1 : decode cX7_markOf 1 = .ok (.i2l, 1) := by decide +kernel
theorem dX7_markOf_2 : decode cX7_markOf 2 = .ok (.lconst 1, 1) := by decide +kernel
theorem dX7_markOf_3 : decode cX7_markOf 3 = .ok (.ladd, 1) := by decide +kernel
theorem dX7_markOf_4 : decode cX7_markOf 4 = .ok (.ldc2_w 239, 3) := by decide +kernel
theorem dX7_markOf_7 : decode cX7_markOf 7 = .ok (.iload_n 1, 1) := by decide +kernel
theorem dX7_markOf_8 : decode cX7_markOf 8 = .ok (.i2l, 1) := by decide +kernel
theorem dX7_markOf_9 : decode cX7_markOf 9 = .ok (.lmul, 1) := by decide +kernel
theorem dX7_markOf_10 : decode cX7_markOf 10 = .ok (.lconst 1, 1) := by decide +kernel
theorem dX7_markOf_11 : decode cX7_markOf 11 = .ok (.ladd, 1) := by decide +kernel
theorem dX7_markOf_12 : decode cX7_markOf 12 = .ok (.lmul, 1) := by decide +kernel
theorem dX7_markOf_13 : decode cX7_markOf 13 = .ok (.ldc2_w 241, 3) := by decide +kernel
theorem dX7_markOf_16 : decode cX7_markOf 16 = .ok (.lmul, 1) := by decide +kernel
theorem dX7_markOf_17 : decode cX7_markOf 17 = .ok (.lstore_n 2, 1) := by decide +kernel
theorem dX7_markOf_18 : decode cX7_markOf 18 = .ok (.lload_n 2, 1) := by decide +kernel
theorem dX7_markOf_19 : decode cX7_markOf 19 = .ok (.ldc2_w 243, 3) := by decide +kernel
theorem dX7_markOf_22 : decode cX7_markOf 22 = .ok (.lrem, 1) := by decide +kernel
theorem dX7_markOf_23 : decode cX7_markOf 23 = .ok (.ldc2_w 245, 3) := by decide +kernel
theorem dX7_markOf_26 : decode cX7_markOf 26 = .ok (.ldiv, 1) := by decide +kernel
theorem dX7_markOf_27 : decode cX7_markOf 27 = .ok (.l2i, 1) := by decide +kernel
theorem dX7_markOf_28 : decode cX7_markOf 28 = .ok (.ireturn, 1) := by decide +kernel
theorem dX7_rankOf_0 : decode cX7_rankOf 0 = .ok (.iconst 0, 1) := by decide +kernel
theorem dX7_rankOf_1 : decode cX7_rankOf 1 = .ok (.istore_n 1, 1) := by decide +kernel
theorem dX7_rankOf_2 : decode cX7_rankOf 2 = .ok (.iload_n 0, 1) := by decide +kernel
theorem dX7_rankOf_3 : decode cX7_rankOf 3 = .ok (.istore_n 2, 1) := by decide +kernel
theorem dX7_rankOf_4 : decode cX7_rankOf 4 = .ok (.iload_n 1, 1) := by decide +kernel
theorem dX7_rankOf_5 : decode cX7_rankOf 5 = .ok (.bipush 7, 2) := by decide +kernel
theorem dX7_rankOf_7 : decode cX7_rankOf 7 = .ok (.if_icmp .ge 19, 3) := by decide +kernel
theorem dX7_rankOf_10 : decode cX7_rankOf 10 = .ok (.iload_n 2, 1) := by decide +kernel
theorem dX7_rankOf_11 : decode cX7_rankOf 11 = .ok (.iconst 2, 1) := by decide +kernel
theorem dX7_rankOf_12 : decode cX7_rankOf 12 = .ok (.irem, 1) := by decide +kernel
theorem dX7_rankOf_13 : decode cX7_rankOf 13 = .ok (.ifCond .ne 13, 3) := by decide +kernel
theorem dX7_rankOf_16 : decode cX7_rankOf 16 = .ok (.iinc 1 1, 3) := by decide +kernel
theorem dX7_rankOf_19 : decode cX7_rankOf 19 = .ok (.iload_n 2, 1) := by decide +kernel
theorem dX7_rankOf_20 : decode cX7_rankOf 20 = .ok (.iconst 2, 1) := by decide +kernel
theorem dX7_rankOf_21 : decode cX7_rankOf 21 = .ok (.idiv, 1) := by decide +kernel
theorem dX7_rankOf_22 : decode cX7_rankOf 22 = .ok (.istore_n 2, 1) := by decide +kernel
theorem dX7_rankOf_23 : decode cX7_rankOf 23 = .ok (.goto (-19), 3) := by decide +kernel
theorem dX7_rankOf_26 : decode cX7_rankOf 26 = .ok (.iload_n 1, 1) := by decide +kernel
theorem dX7_rankOf_27 : decode cX7_rankOf 27 = .ok (.ireturn, 1) := by decide +kernel
set_option maxRecDepth 20000 in
theorem ggX7_guessOf_X5_guessByBits : GoodIn wsX7_guessOf wsX5_guessByBits := goodIn_r _ [7] (by decide +kernel) (by decide +kernel)
set_option maxRecDepth 20000 in
theorem gX7_guessOf_X5_guessByBits : GoodIn wsX7_guessOf (va_wsS RX7 247 yX5_guessByBits wsX5_guessByBits) := goodIn_app (goodIn_of _ (by decide +kernel)) ggX7_guessOf_X5_guessByBits
set_option maxRecDepth 20000 in
theorem ggX7_guessOf_X5_guessByLeast : GoodIn wsX7_guessOf wsX5_guessByLeast := goodIn_r _ [10, 11, 12, 13, 14, 6, 15, 16, 17, 18, 19, 20, 21, 22, 23] (by decide +kernel) (by decide +kernel)
set_option maxRecDepth 20000 in
theorem gX7_guessOf_X5_guessByLeast : GoodIn wsX7_guessOf (va_wsS RX7 253 yX5_guessByLeast wsX5_guessByLeast) := goodIn_app (goodIn_of _ (by decide +kernel)) ggX7_guessOf_X5_guessByLeast
theorem dX7_guessOf_0 : decode cX7_guessOf 0 = .ok (.aload_n 0, 1) := by decide +kernel
theorem dX7_guessOf_1 : decode cX7_guessOf 1 = .ok (.getfield 26, 3) := by decide +kernel
theorem dX7_guessOf_4 : decode cX7_guessOf 4 = .ok (.getfield 111, 3) := by decide +kernel
theorem dX7_guessOf_7 : decode cX7_guessOf 7 = .ok (.iload_n 1, 1) := by decide +kernel
theorem dX7_guessOf_8 : decode cX7_guessOf 8 = .ok (.iaload, 1) := by decide +kernel
theorem dX7_guessOf_9 : decode cX7_guessOf 9 = .ok (.iconst (-1), 1) := by decide +kernel
theorem dX7_guessOf_10 : decode cX7_guessOf 10 = .ok (.if_icmp .ne 5, 3) := by decide +kernel
theorem dX7_guessOf_13 : decode cX7_guessOf 13 = .ok (.iconst (-1), 1) := by decide +kernel
theorem dX7_guessOf_14 : decode cX7_guessOf 14 = .ok (.ireturn, 1) := by decide +kernel
theorem dX7_guessOf_15 : decode cX7_guessOf 15 = .ok (.iload_n 2, 1) := by decide +kernel
theorem dX7_guessOf_16 : decode cX7_guessOf 16 = .ok (.iconst 1, 1) := by decide +kernel
theorem dX7_guessOf_17 : decode cX7_guessOf 17 = .ok (.if_icmp .ne 18, 3) := by decide +kernel
theorem dX7_guessOf_20 : decode cX7_guessOf 20 = .ok (.aload_n 0, 1) := by decide +kernel
theorem dX7_guessOf_21 : decode cX7_guessOf 21 = .ok (.getfield 26, 3) := by decide +kernel
theorem dX7_guessOf_24 : decode cX7_guessOf 24 = .ok (.getfield 154, 3) := by decide +kernel
theorem dX7_guessOf_27 : decode cX7_guessOf 27 = .ok (.iload_n 1, 1) := by decide +kernel
theorem dX7_guessOf_28 : decode cX7_guessOf 28 = .ok (.laload, 1) := by decide +kernel
theorem dX7_guessOf_29 : decode cX7_guessOf 29 = .ok (.invokestatic 247, 3) := by decide +kernel
theorem dX7_guessOf_32 : decode cX7_guessOf 32 = .ok (.goto 15, 3) := by decide +kernel
theorem dX7_guessOf_35 : decode cX7_guessOf 35 = .ok (.aload_n 0, 1) := by decide +kernel
theorem dX7_guessOf_36 : decode cX7_guessOf 36 = .ok (.getfield 26, 3) := by decide +kernel
theorem dX7_guessOf_39 : decode cX7_guessOf 39 = .ok (.getfield 154, 3) := by decide +kernel
theorem dX7_guessOf_42 : decode cX7_guessOf 42 = .ok (.iload_n 1, 1) := by decide +kernel
theorem dX7_guessOf_43 : decode cX7_guessOf 43 = .ok (.laload, 1) := by decide +kernel
theorem dX7_guessOf_44 : decode cX7_guessOf 44 = .ok (.invokestatic 253, 3) := by decide +kernel
theorem dX7_guessOf_47 : decode cX7_guessOf 47 = .ok (.ireturn, 1) := by decide +kernel
set_option maxRecDepth 20000 in
theorem ggX7_firstWrong_X6_gather : GoodIn wsX7_firstWrong wsX6_gather := goodIn_r _ [12, 13, 14, 15, 16, 17, 18, 19, 20, 21, 22, 23, 24, 25, 26, 27, 28, 29, 30, 31, 32, 33, 34, 35, 36, 37, 38, 39, 40, 41, 42, 43, 44, 45, 46, 47, 48, 49, 50, 51, 52, 53, 54, 55, 56, 57, 58, 59, 60, 61, 62, 102, 103, 104, 105, 106, 107, 92, 93, 94, 95, 96, 97, 98, 99, 100, 101] (by decide +kernel) (by decide +kernel)
set_option maxRecDepth 20000 in
theorem gX7_firstWrong_X6_gather : GoodIn wsX7_firstWrong (wsV RX7 150 RX6 yX6_gather wsX6_gather) := goodIn_app (goodIn_of _ (by decide +kernel)) ggX7_firstWrong_X6_gather
set_option maxRecDepth 20000 in
theorem ggX7_firstWrong_X3_has : GoodIn wsX7_firstWrong wsX3_has := goodIn_r _ [67, 68, 102, 103, 104, 105, 106, 107] (by decide +kernel) (by decide +kernel)
set_option maxRecDepth 20000 in
theorem gX7_firstWrong_X3_has : GoodIn wsX7_firstWrong (wsV RX7 106 RX3 yX3_has wsX3_has) := goodIn_app (goodIn_of _ (by decide +kernel)) ggX7_firstWrong_X3_has
set_option maxRecDepth 20000 in
theorem ggX7_firstWrong_X7_guessOf : GoodIn wsX7_firstWrong wsX7_guessOf := goodIn_r _ [72, 1, 6, 73, 74, 75, 25, 76, 77, 78, 79, 80, 81, 49, 50, 51, 47, 52, 53, 54, 55, 56, 57, 48, 82, 83, 84, 85, 86, 87, 88, 92, 93, 94, 95, 96, 97, 98, 99, 100, 101] (by decide +kernel) (by decide +kernel)
set_option maxRecDepth 20000 in
theorem gX7_firstWrong_X7_guessOf : GoodIn wsX7_firstWrong (wsV RX7 157 RX7 yX7_guessOf wsX7_guessOf) := goodIn_app (goodIn_of _ (by decide +kernel)) ggX7_firstWrong_X7_guessOf
theorem dX7_firstWrong_0 : decode cX7_firstWrong 0 = .ok (.aload_n 0, 1) := by decide +kernel
theorem dX7_firstWrong_1 : decode cX7_firstWrong 1 = .ok (.getfield 26, 3) := by decide +kernel
theorem dX7_firstWrong_4 : decode cX7_firstWrong 4 = .ok (.aload_n 0, 1) := by decide +kernel
theorem dX7_firstWrong_5 : decode cX7_firstWrong 5 = .ok (.getfield 10, 3) := by decide +kernel
theorem dX7_firstWrong_8 : decode cX7_firstWrong 8 = .ok (.iconst 1, 1) := by decide +kernel
theorem dX7_firstWrong_9 : decode cX7_firstWrong 9 = .ok (.invokevirtual 150, 3) := by decide +kernel
theorem dX7_firstWrong_12 : decode cX7_firstWrong 12 = .ok (.iconst 0, 1) := by decide +kernel
theorem dX7_firstWrong_13 : decode cX7_firstWrong 13 = .ok (.istore_n 1, 1) := by decide +kernel
theorem dX7_firstWrong_14 : decode cX7_firstWrong 14 = .ok (.iload_n 1, 1) := by decide +kernel
theorem dX7_firstWrong_15 : decode cX7_firstWrong 15 = .ok (.aload_n 0, 1) := by decide +kernel
theorem dX7_firstWrong_16 : decode cX7_firstWrong 16 = .ok (.getfield 33, 3) := by decide +kernel
theorem dX7_firstWrong_19 : decode cX7_firstWrong 19 = .ok (.getfield 97, 3) := by decide +kernel
theorem dX7_firstWrong_22 : decode cX7_firstWrong 22 = .ok (.if_icmp .ge 63, 3) := by decide +kernel
theorem dX7_firstWrong_25 : decode cX7_firstWrong 25 = .ok (.aload_n 0, 1) := by decide +kernel
theorem dX7_firstWrong_26 : decode cX7_firstWrong 26 = .ok (.getfield 33, 3) := by decide +kernel
theorem dX7_firstWrong_29 : decode cX7_firstWrong 29 = .ok (.getfield 256, 3) := by decide +kernel
theorem dX7_firstWrong_32 : decode cX7_firstWrong 32 = .ok (.iload_n 1, 1) := by decide +kernel
theorem dX7_firstWrong_33 : decode cX7_firstWrong 33 = .ok (.iaload, 1) := by decide +kernel
theorem dX7_firstWrong_34 : decode cX7_firstWrong 34 = .ok (.istore_n 2, 1) := by decide +kernel
theorem dX7_firstWrong_35 : decode cX7_firstWrong 35 = .ok (.aload_n 0, 1) := by decide +kernel
theorem dX7_firstWrong_36 : decode cX7_firstWrong 36 = .ok (.getfield 10, 3) := by decide +kernel
theorem dX7_firstWrong_39 : decode cX7_firstWrong 39 = .ok (.iload_n 2, 1) := by decide +kernel
theorem dX7_firstWrong_40 : decode cX7_firstWrong 40 = .ok (.invokevirtual 106, 3) := by decide +kernel
theorem dX7_firstWrong_43 : decode cX7_firstWrong 43 = .ok (.ifCond .eq 34, 3) := by decide +kernel
theorem dX7_firstWrong_46 : decode cX7_firstWrong 46 = .ok (.aload_n 0, 1) := by decide +kernel
theorem dX7_firstWrong_47 : decode cX7_firstWrong 47 = .ok (.getfield 26, 3) := by decide +kernel
theorem dX7_firstWrong_50 : decode cX7_firstWrong 50 = .ok (.getfield 111, 3) := by decide +kernel
theorem dX7_firstWrong_53 : decode cX7_firstWrong 53 = .ok (.iload_n 2, 1) := by decide +kernel
theorem dX7_firstWrong_54 : decode cX7_firstWrong 54 = .ok (.iaload, 1) := by decide +kernel
theorem dX7_firstWrong_55 : decode cX7_firstWrong 55 = .ok (.iconst (-1), 1) := by decide +kernel
theorem dX7_firstWrong_56 : decode cX7_firstWrong 56 = .ok (.if_icmp .eq 21, 3) := by decide +kernel
theorem dX7_firstWrong_59 : decode cX7_firstWrong 59 = .ok (.aload_n 0, 1) := by decide +kernel
theorem dX7_firstWrong_60 : decode cX7_firstWrong 60 = .ok (.iload_n 2, 1) := by decide +kernel
theorem dX7_firstWrong_61 : decode cX7_firstWrong 61 = .ok (.iconst 1, 1) := by decide +kernel
theorem dX7_firstWrong_62 : decode cX7_firstWrong 62 = .ok (.invokevirtual 157, 3) := by decide +kernel
theorem dX7_firstWrong_65 : decode cX7_firstWrong 65 = .ok (.aload_n 0, 1) := by decide +kernel
theorem dX7_firstWrong_66 : decode cX7_firstWrong 66 = .ok (.getfield 33, 3) := by decide +kernel
theorem dX7_firstWrong_69 : decode cX7_firstWrong 69 = .ok (.getfield 259, 3) := by decide +kernel
theorem dX7_firstWrong_72 : decode cX7_firstWrong 72 = .ok (.iload_n 1, 1) := by decide +kernel
theorem dX7_firstWrong_73 : decode cX7_firstWrong 73 = .ok (.iaload, 1) := by decide +kernel
theorem dX7_firstWrong_74 : decode cX7_firstWrong 74 = .ok (.if_icmp .eq 5, 3) := by decide +kernel
theorem dX7_firstWrong_77 : decode cX7_firstWrong 77 = .ok (.iload_n 1, 1) := by decide +kernel
theorem dX7_firstWrong_78 : decode cX7_firstWrong 78 = .ok (.ireturn, 1) := by decide +kernel
theorem dX7_firstWrong_79 : decode cX7_firstWrong 79 = .ok (.iinc 1 1, 3) := by decide +kernel
theorem dX7_firstWrong_82 : decode cX7_firstWrong 82 = .ok (.goto (-68), 3) := by decide +kernel
theorem dX7_firstWrong_85 : decode cX7_firstWrong 85 = .ok (.iconst (-1), 1) := by decide +kernel
theorem dX7_firstWrong_86 : decode cX7_firstWrong 86 = .ok (.ireturn, 1) := by decide +kernel
theorem dX7_waysOfRank_0 : decode cX7_waysOfRank 0 = .ok (.iload_n 0, 1) := by decide +kernel
theorem dX7_waysOfRank_1 : decode cX7_waysOfRank 1 = .ok (.bipush 7, 2) := by decide +kernel
theorem dX7_waysOfRank_3 : decode cX7_waysOfRank 3 = .ok (.if_icmp .ge 12, 3) := by decide +kernel
theorem dX7_waysOfRank_6 : decode cX7_waysOfRank 6 = .ok (.lconst 1, 1) := by decide +kernel
theorem dX7_waysOfRank_7 : decode cX7_waysOfRank 7 = .ok (.bipush 6, 2) := by decide +kernel
theorem dX7_waysOfRank_9 : decode cX7_waysOfRank 9 = .ok (.iload_n 0, 1) := by decide +kernel
theorem dX7_waysOfRank_10 : decode cX7_waysOfRank 10 = .ok (.isub, 1) := by decide +kernel
theorem dX7_waysOfRank_11 : decode cX7_waysOfRank 11 = .ok (.lshl, 1) := by decide +kernel
theorem dX7_waysOfRank_12 : decode cX7_waysOfRank 12 = .ok (.goto 4, 3) := by decide +kernel
theorem dX7_waysOfRank_15 : decode cX7_waysOfRank 15 = .ok (.lconst 1, 1) := by decide +kernel
theorem dX7_waysOfRank_16 : decode cX7_waysOfRank 16 = .ok (.lreturn, 1) := by decide +kernel
theorem dX7_waysAboveRank_0 : decode cX7_waysAboveRank 0 = .ok (.iload_n 0, 1) := by decide +kernel
theorem dX7_waysAboveRank_1 : decode cX7_waysAboveRank 1 = .ok (.bipush 7, 2) := by decide +kernel
theorem dX7_waysAboveRank_3 : decode cX7_waysAboveRank 3 = .ok (.if_icmp .ge 12, 3) := by decide +kernel
theorem dX7_waysAboveRank_6 : decode cX7_waysAboveRank 6 = .ok (.lconst 1, 1) := by decide +kernel
theorem dX7_waysAboveRank_7 : decode cX7_waysAboveRank 7 = .ok (.bipush 6, 2) := by decide +kernel
theorem dX7_waysAboveRank_9 : decode cX7_waysAboveRank 9 = .ok (.iload_n 0, 1) := by decide +kernel
theorem dX7_waysAboveRank_10 : decode cX7_waysAboveRank 10 = .ok (.isub, 1) := by decide +kernel
theorem dX7_waysAboveRank_11 : decode cX7_waysAboveRank 11 = .ok (.lshl, 1) := by decide +kernel
theorem dX7_waysAboveRank_12 : decode cX7_waysAboveRank 12 = .ok (.goto 4, 3) := by decide +kernel
theorem dX7_waysAboveRank_15 : decode cX7_waysAboveRank 15 = .ok (.lconst 0, 1) := by decide +kernel
theorem dX7_waysAboveRank_16 : decode cX7_waysAboveRank 16 = .ok (.lreturn, 1) := by decide +kernel
theorem dX7_rowsJoined_0 : decode cX7_rowsJoined 0 = .ok (.lconst 0, 1) := by decide +kernel
theorem dX7_rowsJoined_1 : decode cX7_rowsJoined 1 = .ok (.lstore 5, 2) := by decide +kernel
theorem dX7_rowsJoined_3 : decode cX7_rowsJoined 3 = .ok (.lconst 1, 1) := by decide +kernel
theorem dX7_rowsJoined_4 : decode cX7_rowsJoined 4 = .ok (.lstore 7, 2) := by decide +kernel
theorem dX7_rowsJoined_6 : decode cX7_rowsJoined 6 = .ok (.lconst 1, 1) := by decide +kernel
theorem dX7_rowsJoined_7 : decode cX7_rowsJoined 7 = .ok (.lstore 9, 2) := by decide +kernel
theorem dX7_rowsJoined_9 : decode cX7_rowsJoined 9 = .ok (.iconst 0, 1) := by decide +kernel
theorem dX7_rowsJoined_10 : decode cX7_rowsJoined 10 = .ok (.istore 11, 2) := by decide +kernel
theorem dX7_rowsJoined_12 : decode cX7_rowsJoined 12 = .ok (.iload 11, 2) := by decide +kernel
theorem dX7_rowsJoined_14 : decode cX7_rowsJoined 14 = .ok (.iload_n 1, 1) := by decide +kernel
theorem dX7_rowsJoined_15 : decode cX7_rowsJoined 15 = .ok (.if_icmp .gt 57, 3) := by decide +kernel
theorem dX7_rowsJoined_18 : decode cX7_rowsJoined 18 = .ok (.iload 11, 2) := by decide +kernel
theorem dX7_rowsJoined_20 : decode cX7_rowsJoined 20 = .ok (.iload_n 2, 1) := by decide +kernel
theorem dX7_rowsJoined_21 : decode cX7_rowsJoined 21 = .ok (.if_icmp .lt 23, 3) := by decide +kernel
theorem dX7_rowsJoined_24 : decode cX7_rowsJoined 24 = .ok (.lload 5, 2) := by decide +kernel
theorem dX7_rowsJoined_26 : decode cX7_rowsJoined 26 = .ok (.lload 7, 2) := by decide +kernel
theorem dX7_rowsJoined_28 : decode cX7_rowsJoined 28 = .ok (.lload 9, 2) := by decide +kernel
theorem dX7_rowsJoined_30 : decode cX7_rowsJoined 30 = .ok (.lmul, 1) := by decide +kernel
theorem dX7_rowsJoined_31 : decode cX7_rowsJoined 31 = .ok (.aload_n 0, 1) := by decide +kernel
theorem dX7_rowsJoined_32 : decode cX7_rowsJoined 32 = .ok (.getfield 51, 3) := by decide +kernel
theorem dX7_rowsJoined_35 : decode cX7_rowsJoined 35 = .ok (.iload_n 1, 1) := by decide +kernel
theorem dX7_rowsJoined_36 : decode cX7_rowsJoined 36 = .ok (.iload 11, 2) := by decide +kernel
theorem dX7_rowsJoined_38 : decode cX7_rowsJoined 38 = .ok (.isub, 1) := by decide +kernel
theorem dX7_rowsJoined_39 : decode cX7_rowsJoined 39 = .ok (.laload, 1) := by decide +kernel
theorem dX7_rowsJoined_40 : decode cX7_rowsJoined 40 = .ok (.lmul, 1) := by decide +kernel
theorem dX7_rowsJoined_41 : decode cX7_rowsJoined 41 = .ok (.ladd, 1) := by decide +kernel
theorem dX7_rowsJoined_42 : decode cX7_rowsJoined 42 = .ok (.lstore 5, 2) := by decide +kernel
theorem dX7_rowsJoined_44 : decode cX7_rowsJoined 44 = .ok (.lload 7, 2) := by decide +kernel
theorem dX7_rowsJoined_46 : decode cX7_rowsJoined 46 = .ok (.iload_n 1, 1) := by decide +kernel
theorem dX7_rowsJoined_47 : decode cX7_rowsJoined 47 = .ok (.iload 11, 2) := by decide +kernel
theorem dX7_rowsJoined_49 : decode cX7_rowsJoined 49 = .ok (.isub, 1) := by decide +kernel
theorem dX7_rowsJoined_50 : decode cX7_rowsJoined 50 = .ok (.i2l, 1) := by decide +kernel
theorem dX7_rowsJoined_51 : decode cX7_rowsJoined 51 = .ok (.lmul, 1) := by decide +kernel
theorem dX7_rowsJoined_52 : decode cX7_rowsJoined 52 = .ok (.iload 11, 2) := by decide +kernel
theorem dX7_rowsJoined_54 : decode cX7_rowsJoined 54 = .ok (.iconst 1, 1) := by decide +kernel
theorem dX7_rowsJoined_55 : decode cX7_rowsJoined 55 = .ok (.iadd, 1) := by decide +kernel
theorem dX7_rowsJoined_56 : decode cX7_rowsJoined 56 = .ok (.i2l, 1) := by decide +kernel
theorem dX7_rowsJoined_57 : decode cX7_rowsJoined 57 = .ok (.ldiv, 1) := by decide +kernel
theorem dX7_rowsJoined_58 : decode cX7_rowsJoined 58 = .ok (.lstore 7, 2) := by decide +kernel
theorem dX7_rowsJoined_60 : decode cX7_rowsJoined 60 = .ok (.lload 9, 2) := by decide +kernel
theorem dX7_rowsJoined_62 : decode cX7_rowsJoined 62 = .ok (.lload_n 3, 1) := by decide +kernel
theorem dX7_rowsJoined_63 : decode cX7_rowsJoined 63 = .ok (.lmul, 1) := by decide +kernel
theorem dX7_rowsJoined_64 : decode cX7_rowsJoined 64 = .ok (.lstore 9, 2) := by decide +kernel
theorem dX7_rowsJoined_66 : decode cX7_rowsJoined 66 = .ok (.iinc 11 1, 3) := by decide +kernel
theorem dX7_rowsJoined_69 : decode cX7_rowsJoined 69 = .ok (.goto (-57), 3) := by decide +kernel
theorem dX7_rowsJoined_72 : decode cX7_rowsJoined 72 = .ok (.lload 5, 2) := by decide +kernel
theorem dX7_rowsJoined_74 : decode cX7_rowsJoined 74 = .ok (.lreturn, 1) := by decide +kernel
theorem dX8_init_0 : decode cX8_init 0 = .ok (.aload_n 0, 1) := by decide +kernel
theorem dX8_init_1 : decode cX8_init 1 = .ok (.invokespecial 3, 3) := by decide +kernel
theorem dX8_init_4 : decode cX8_init 4 = .ok (.aload_n 0, 1) := by decide +kernel
theorem dX8_init_5 : decode cX8_init 5 = .ok (.sipush 570, 3) := by decide +kernel
theorem dX8_init_8 : decode cX8_init 8 = .ok (.newarray .int, 2) := by decide +kernel
theorem dX8_init_10 : decode cX8_init 10 = .ok (.putfield 9, 3) := by decide +kernel
theorem dX8_init_13 : decode cX8_init 13 = .ok (.aload_n 0, 1) := by decide +kernel
theorem dX8_init_14 : decode cX8_init 14 = .ok (.iconst 2, 1) := by decide +kernel
theorem dX8_init_15 : decode cX8_init 15 = .ok (.newarray .int, 2) := by decide +kernel
theorem dX8_init_17 : decode cX8_init 17 = .ok (.putfield 13, 3) := by decide +kernel
theorem dX8_init_20 : decode cX8_init 20 = .ok (.aload_n 0, 1) := by decide +kernel
theorem dX8_init_21 : decode cX8_init 21 = .ok (.bipush 20, 2) := by decide +kernel
theorem dX8_init_23 : decode cX8_init 23 = .ok (.newarray .int, 2) := by decide +kernel
theorem dX8_init_25 : decode cX8_init 25 = .ok (.putfield 16, 3) := by decide +kernel
theorem dX8_init_28 : decode cX8_init 28 = .ok (.aload_n 0, 1) := by decide +kernel
theorem dX8_init_29 : decode cX8_init 29 = .ok (.bipush 20, 2) := by decide +kernel
theorem dX8_init_31 : decode cX8_init 31 = .ok (.newarray .int, 2) := by decide +kernel
theorem dX8_init_33 : decode cX8_init 33 = .ok (.putfield 19, 3) := by decide +kernel
theorem dX8_init_36 : decode cX8_init 36 = .ok (.aload_n 0, 1) := by decide +kernel
theorem dX8_init_37 : decode cX8_init 37 = .ok (.bipush 9, 2) := by decide +kernel
theorem dX8_init_39 : decode cX8_init 39 = .ok (.newarray .int, 2) := by decide +kernel
theorem dX8_init_41 : decode cX8_init 41 = .ok (.putfield 22, 3) := by decide +kernel
theorem dX8_init_44 : decode cX8_init 44 = .ok (.aload_n 0, 1) := by decide +kernel
theorem dX8_init_45 : decode cX8_init 45 = .ok (.bipush 40, 2) := by decide +kernel
theorem dX8_init_47 : decode cX8_init 47 = .ok (.newarray .int, 2) := by decide +kernel
theorem dX8_init_49 : decode cX8_init 49 = .ok (.putfield 25, 3) := by decide +kernel
theorem dX8_init_52 : decode cX8_init 52 = .ok (.aload_n 0, 1) := by decide +kernel
theorem dX8_init_53 : decode cX8_init 53 = .ok (.bipush 40, 2) := by decide +kernel
theorem dX8_init_55 : decode cX8_init 55 = .ok (.newarray .int, 2) := by decide +kernel
theorem dX8_init_57 : decode cX8_init 57 = .ok (.putfield 28, 3) := by decide +kernel
theorem dX8_init_60 : decode cX8_init 60 = .ok (.aload_n 0, 1) := by decide +kernel
theorem dX8_init_61 : decode cX8_init 61 = .ok (.bipush 9, 2) := by decide +kernel
theorem dX8_init_63 : decode cX8_init 63 = .ok (.newarray .int, 2) := by decide +kernel
theorem dX8_init_65 : decode cX8_init 65 = .ok (.putfield 31, 3) := by decide +kernel
theorem dX8_init_68 : decode cX8_init 68 = .ok (.aload_n 0, 1) := by decide +kernel
theorem dX8_init_69 : decode cX8_init 69 = .ok (.bipush 9, 2) := by decide +kernel
theorem dX8_init_71 : decode cX8_init 71 = .ok (.newarray .long, 2) := by decide +kernel
theorem dX8_init_73 : decode cX8_init 73 = .ok (.putfield 34, 3) := by decide +kernel
theorem dX8_init_76 : decode cX8_init 76 = .ok (.aload_n 0, 1) := by decide +kernel
theorem dX8_init_77 : decode cX8_init 77 = .ok (.bipush 6, 2) := by decide +kernel
theorem dX8_init_79 : decode cX8_init 79 = .ok (.newarray .int, 2) := by decide +kernel
theorem dX8_init_81 : decode cX8_init 81 = .ok (.putfield 38, 3) := by decide +kernel
theorem dX8_init_84 : decode cX8_init 84 = .ok (.aload_n 0, 1) := by decide +kernel
theorem dX8_init_85 : decode cX8_init 85 = .ok (.sipush 256, 3) := by decide +kernel
theorem dX8_init_88 : decode cX8_init 88 = .ok (.newarray .long, 2) := by decide +kernel
theorem dX8_init_90 : decode cX8_init 90 = .ok (.putfield 41, 3) := by decide +kernel
theorem dX8_init_93 : decode cX8_init 93 = .ok (.aload_n 0, 1) := by decide +kernel
theorem dX8_init_94 : decode cX8_init 94 = .ok (.sipush 256, 3) := by decide +kernel
theorem dX8_init_97 : decode cX8_init 97 = .ok (.newarray .long, 2) := by decide +kernel
theorem dX8_init_99 : decode cX8_init 99 = .ok (.putfield 44, 3) := by decide +kernel
theorem dX8_init_102 : decode cX8_init 102 = .ok (.aload_n 0, 1) := by decide +kernel
theorem dX8_init_103 : decode cX8_init 103 = .ok (.getfield 9, 3) := by decide +kernel
theorem dX8_init_106 : decode cX8_init 106 = .ok (.iconst 0, 1) := by decide +kernel
theorem dX8_init_107 : decode cX8_init 107 = .ok (.iconst 1, 1) := by decide +kernel
theorem dX8_init_108 : decode cX8_init 108 = .ok (.iastore, 1) := by decide +kernel
theorem dX8_init_109 : decode cX8_init 109 = .ok (.return_, 1) := by decide +kernel
theorem dX8_in_0 : decode cX8_in 0 = .ok (.iload_n 0, 1) := by decide +kernel
theorem dX8_in_1 : decode cX8_in 1 = .ok (.iload_n 1, 1) := by decide +kernel
theorem dX8_in_2 : decode cX8_in 2 = .ok (.if_icmp .lt 12, 3) := by decide +kernel
theorem dX8_in_5 : decode cX8_in 5 = .ok (.iload_n 0, 1) := by decide +kernel
theorem dX8_in_6 : decode cX8_in 6 = .ok (.iload_n 2, 1) := by decide +kernel
theorem dX8_in_7 : decode cX8_in 7 = .ok (.if_icmp .gt 7, 3) := by decide +kernel
theorem dX8_in_10 : decode cX8_in 10 = .ok (.iconst 1, 1) := by decide +kernel
theorem dX8_in_11 : decode cX8_in 11 = .ok (.goto 4, 3) := by decide +kernel
theorem dX8_in_14 : decode cX8_in 14 = .ok (.iconst 0, 1) := by decide +kernel
theorem dX8_in_15 : decode cX8_in 15 = .ok (.ireturn, 1) := by decide +kernel
theorem dX8_has_0 : decode cX8_has 0 = .ok (.iload_n 0, 1) := by decide +kernel
theorem dX8_has_1 : decode cX8_has 1 = .ok (.iload_n 1, 1) := by decide +kernel
theorem dX8_has_2 : decode cX8_has 2 = .ok (.ishr, 1) := by decide +kernel
theorem dX8_has_3 : decode cX8_has 3 = .ok (.iconst 1, 1) := by decide +kernel
theorem dX8_has_4 : decode cX8_has 4 = .ok (.iand, 1) := by decide +kernel
theorem dX8_has_5 : decode cX8_has 5 = .ok (.iconst 1, 1) := by decide +kernel
theorem dX8_has_6 : decode cX8_has 6 = .ok (.if_icmp .ne 7, 3) := by decide +kernel
theorem dX8_has_9 : decode cX8_has 9 = .ok (.iconst 1, 1) := by decide +kernel
theorem dX8_has_10 : decode cX8_has 10 = .ok (.goto 4, 3) := by decide +kernel
theorem dX8_has_13 : decode cX8_has 13 = .ok (.iconst 0, 1) := by decide +kernel
theorem dX8_has_14 : decode cX8_has 14 = .ok (.ireturn, 1) := by decide +kernel
theorem dX8_copyRow_0 : decode cX8_copyRow 0 = .ok (.iconst 0, 1) := by decide +kernel
theorem dX8_copyRow_1 : decode cX8_copyRow 1 = .ok (.istore_n 3, 1) := by decide +kernel
theorem dX8_copyRow_2 : decode cX8_copyRow 2 = .ok (.iload_n 3, 1) := by decide +kernel
theorem dX8_copyRow_3 : decode cX8_copyRow 3 = .ok (.bipush 30, 2) := by decide +kernel
theorem dX8_copyRow_5 : decode cX8_copyRow 5 = .ok (.if_icmp .ge 25, 3) := by decide +kernel
theorem dX8_copyRow_8 : decode cX8_copyRow 8 = .ok (.aload_n 0, 1) := by decide +kernel
theorem dX8_copyRow_9 : decode cX8_copyRow 9 = .ok (.getfield 9, 3) := by decide +kernel
theorem dX8_copyRow_12 : decode cX8_copyRow 12 = .ok (.iload_n 2, 1) := by decide +kernel
theorem dX8_copyRow_13 : decode cX8_copyRow 13 = .ok (.iload_n 3, 1) := by decide +kernel
theorem dX8_copyRow_14 : decode cX8_copyRow 14 = .ok (.iadd, 1) := by decide +kernel
theorem dX8_copyRow_15 : decode cX8_copyRow 15 = .ok (.aload_n 0, 1) := by decide +kernel
theorem dX8_copyRow_16 : decode cX8_copyRow 16 = .ok (.getfield 9, 3) := by decide +kernel
theorem dX8_copyRow_19 : decode cX8_copyRow 19 = .ok (.iload_n 1, 1) := by decide +kernel
theorem dX8_copyRow_20 : decode cX8_copyRow 20 = .ok (.iload_n 3, 1) := by decide +kernel
theorem dX8_copyRow_21 : decode cX8_copyRow 21 = .ok (.iadd, 1) := by decide +kernel
theorem dX8_copyRow_22 : decode cX8_copyRow 22 = .ok (.iaload, 1) := by decide +kernel
theorem dX8_copyRow_23 : decode cX8_copyRow 23 = .ok (.iastore, 1) := by decide +kernel
theorem dX8_copyRow_24 : decode cX8_copyRow 24 = .ok (.iinc 3 1, 3) := by decide +kernel
theorem dX8_copyRow_27 : decode cX8_copyRow 27 = .ok (.goto (-25), 3) := by decide +kernel
theorem dX8_copyRow_30 : decode cX8_copyRow 30 = .ok (.return_, 1) := by decide +kernel
set_option maxRecDepth 20000 in
theorem ggX8_isNode_X8_in : GoodIn wsX8_isNode wsX8_in := goodIn_r _ [5] (by decide +kernel) (by decide +kernel)
set_option maxRecDepth 20000 in
theorem gX8_isNode_X8_in : GoodIn wsX8_isNode (va_wsS RX8 47 yX8_in wsX8_in) := goodIn_app (goodIn_of _ (by decide +kernel)) ggX8_isNode_X8_in
theorem dX8_isNode_0 : decode cX8_isNode 0 = .ok (.iload_n 1, 1) := by decide +kernel
theorem dX8_isNode_1 : decode cX8_isNode 1 = .ok (.iconst 0, 1) := by decide +kernel
theorem dX8_isNode_2 : decode cX8_isNode 2 = .ok (.aload_n 0, 1) := by decide +kernel
theorem dX8_isNode_3 : decode cX8_isNode 3 = .ok (.getfield 9, 3) := by decide +kernel
theorem dX8_isNode_6 : decode cX8_isNode 6 = .ok (.iconst 0, 1) := by decide +kernel
theorem dX8_isNode_7 : decode cX8_isNode 7 = .ok (.iaload, 1) := by decide +kernel
theorem dX8_isNode_8 : decode cX8_isNode 8 = .ok (.iconst 1, 1) := by decide +kernel
theorem dX8_isNode_9 : decode cX8_isNode 9 = .ok (.isub, 1) := by decide +kernel
theorem dX8_isNode_10 : decode cX8_isNode 10 = .ok (.invokestatic 47, 3) := by decide +kernel
theorem dX8_isNode_13 : decode cX8_isNode 13 = .ok (.ireturn, 1) := by decide +kernel
set_option maxRecDepth 20000 in
theorem ggX8_isLinked_X8_isNode : GoodIn wsX8_isLinked wsX8_isNode := goodIn_r _ [6, 1, 7, 8, 5, 9, 13, 14, 15, 16, 17, 18, 19, 20, 21, 22, 23, 24, 25, 26, 27, 28, 29] (by decide +kernel) (by decide +kernel)
set_option maxRecDepth 20000 in
theorem gX8_isLinked_X8_isNode : GoodIn wsX8_isLinked (wsV RX8 51 RX8 yX8_isNode wsX8_isNode) := goodIn_app (goodIn_of _ (by decide +kernel)) ggX8_isLinked_X8_isNode
set_option maxRecDepth 20000 in
theorem ggX8_isLinked_X8_has : GoodIn wsX8_isLinked wsX8_has := goodIn_r _ [12] (by decide +kernel) (by decide +kernel)
set_option maxRecDepth 20000 in
theorem gX8_isLinked_X8_has : GoodIn wsX8_isLinked (va_wsS RX8 55 yX8_has wsX8_has) := goodIn_app (goodIn_of _ (by decide +kernel)) ggX8_isLinked_X8_has
theorem dX8_isLinked_0 : decode cX8_isLinked 0 = .ok (.aload_n 0, 1) := by decide +kernel
theorem dX8_isLinked_1 : decode cX8_isLinked 1 = .ok (.iload_n 1, 1) := by decide +kernel
theorem dX8_isLinked_2 : decode cX8_isLinked 2 = .ok (.invokevirtual 51, 3) := by decide +kernel
theorem dX8_isLinked_5 : decode cX8_isLinked 5 = .ok (.ifCond .eq 30, 3) := by decide +kernel
theorem dX8_isLinked_8 : decode cX8_isLinked 8 = .ok (.aload_n 0, 1) := by decide +kernel
theorem dX8_isLinked_9 : decode cX8_isLinked 9 = .ok (.iload_n 2, 1) := by decide +kernel
theorem dX8_isLinked_10 : decode cX8_isLinked 10 = .ok (.invokevirtual 51, 3) := by decide +kernel
theorem dX8_isLinked_13 : decode cX8_isLinked 13 = .ok (.ifCond .eq 22, 3) := by decide +kernel
theorem dX8_isLinked_16 : decode cX8_isLinked 16 = .ok (.aload_n 0, 1) := by decide +kernel
theorem dX8_isLinked_17 : decode cX8_isLinked 17 = .ok (.getfield 9, 3) := by decide +kernel
theorem dX8_isLinked_20 : decode cX8_isLinked 20 = .ok (.iconst 3, 1) := by decide +kernel
theorem dX8_isLinked_21 : decode cX8_isLinked 21 = .ok (.iload_n 1, 1) := by decide +kernel
theorem dX8_isLinked_22 : decode cX8_isLinked 22 = .ok (.iadd, 1) := by decide +kernel
theorem dX8_isLinked_23 : decode cX8_isLinked 23 = .ok (.iaload, 1) := by decide +kernel
theorem dX8_isLinked_24 : decode cX8_isLinked 24 = .ok (.iload_n 2, 1) := by decide +kernel
theorem dX8_isLinked_25 : decode cX8_isLinked 25 = .ok (.invokestatic 55, 3) := by decide +kernel
theorem dX8_isLinked_28 : decode cX8_isLinked 28 = .ok (.ifCond .eq 7, 3) := by decide +kernel
theorem dX8_isLinked_31 : decode cX8_isLinked 31 = .ok (.iconst 1, 1) := by decide +kernel
theorem dX8_isLinked_32 : decode cX8_isLinked 32 = .ok (.goto 4, 3) := by decide +kernel
theorem dX8_isLinked_35 : decode cX8_isLinked 35 = .ok (.iconst 0, 1) := by decide +kernel
theorem dX8_isLinked_36 : decode cX8_isLinked 36 = .ok (.ireturn, 1) := by decide +kernel
set_option maxRecDepth 20000 in
theorem ggX8_ones_X8_has : GoodIn wsX8_ones wsX8_has := goodIn_r _ [4] (by decide +kernel) (by decide +kernel)
set_option maxRecDepth 20000 in
theorem gX8_ones_X8_has : GoodIn wsX8_ones (va_wsS RX8 55 yX8_has wsX8_has) := goodIn_app (goodIn_of _ (by decide +kernel)) ggX8_ones_X8_has
theorem dX8_ones_0 : decode cX8_ones 0 = .ok (.iconst 0, 1) := by decide +kernel
theorem dX8_ones_1 : decode cX8_ones 1 = .ok (.istore_n 1, 1) := by decide +kernel
theorem dX8_ones_2 : decode cX8_ones 2 = .ok (.iconst 0, 1) := by decide +kernel
theorem dX8_ones_3 : decode cX8_ones 3 = .ok (.istore_n 2, 1) := by decide +kernel
theorem dX8_ones_4 : decode cX8_ones 4 = .ok (.iload_n 2, 1) := by decide +kernel
theorem dX8_ones_5 : decode cX8_ones 5 = .ok (.bipush 16, 2) := by decide +kernel
theorem dX8_ones_7 : decode cX8_ones 7 = .ok (.if_icmp .ge 25, 3) := by decide +kernel
theorem dX8_ones_10 : decode cX8_ones 10 = .ok (.iload_n 1, 1) := by decide +kernel
theorem dX8_ones_11 : decode cX8_ones 11 = .ok (.iload_n 0, 1) := by decide +kernel
theorem dX8_ones_12 : decode cX8_ones 12 = .ok (.iload_n 2, 1) := by decide +kernel
theorem dX8_ones_13 : decode cX8_ones 13 = .ok (.invokestatic 55, 3) := by decide +kernel
theorem dX8_ones_16 : decode cX8_ones 16 = .ok (.ifCond .eq 7, 3) := by decide +kernel
theorem dX8_ones_19 : decode cX8_ones 19 = .ok (.iconst 1, 1) := by decide +kernel
theorem dX8_ones_20 : decode cX8_ones 20 = .ok (.goto 4, 3) := by decide +kernel
theorem dX8_ones_23 : decode cX8_ones 23 = .ok (.iconst 0, 1) := by decide +kernel
theorem dX8_ones_24 : decode cX8_ones 24 = .ok (.iadd, 1) := by decide +kernel
theorem dX8_ones_25 : decode cX8_ones 25 = .ok (.istore_n 1, 1) := by decide +kernel
theorem dX8_ones_26 : decode cX8_ones 26 = .ok (.iinc 2 1, 3) := by decide +kernel
theorem dX8_ones_29 : decode cX8_ones 29 = .ok (.goto (-25), 3) := by decide +kernel
theorem dX8_ones_32 : decode cX8_ones 32 = .ok (.iload_n 1, 1) := by decide +kernel
theorem dX8_ones_33 : decode cX8_ones 33 = .ok (.ireturn, 1) := by decide +kernel
theorem dX8_markOf_0 : decode cX8_markOf 0 = .ok (.iload_n 1, 1) := by decide +kernel
theorem dX8_markOf_1 : decode cX8_markOf 1 = .ok (.iconst 1, 1) := by decide +kernel
theorem dX8_markOf_2 : decode cX8_markOf 2 = .ok (.iadd, 1) := by decide +kernel
theorem dX8_markOf_3 : decode cX8_markOf 3 = .ok (.i2l, 1) := by decide +kernel
theorem dX8_markOf_4 : decode cX8_markOf 4 = .ok (.ldc2_w 59, 3) := by decide +kernel
theorem dX8_markOf_7 : decode cX8_markOf 7 = .ok (.aload_n 0, 1) := by decide +kernel
theorem dX8_markOf_8 : decode cX8_markOf 8 = .ok (.getfield 9, 3) := by decide +kernel
theorem dX8_markOf_11 : decode cX8_markOf 11 = .ok (.iconst 1, 1) := by decide +kernel
theorem dX8_markOf_12 : decode cX8_markOf 12 = .ok (.iaload, 1) := by decide +kernel
theorem dX8_markOf_13 : decode cX8_markOf 13 = .ok (.i2l, 1) := by decide +kernel
theorem dX8_markOf_14 : decode cX8_markOf 14 = .ok (.lmul, 1) := by decide +kernel
theorem dX8_markOf_15 : decode cX8_markOf 15 = .ok (.lconst 1, 1) := by decide +kernel
theorem dX8_markOf_16 : decode cX8_markOf 16 = .ok (.ladd, 1) := by decide +kernel
theorem dX8_markOf_17 : decode cX8_markOf 17 = .ok (.lmul, 1) := by decide +kernel
theorem dX8_markOf_18 : decode cX8_markOf 18 = .ok (.ldc2_w 61, 3) := by decide +kernel
theorem dX8_markOf_21 : decode cX8_markOf 21 = .ok (.lmul, 1) := by decide +kernel
theorem dX8_markOf_22 : decode cX8_markOf 22 = .ok (.ldc2_w 63, 3) := by decide +kernel
theorem dX8_markOf_25 : decode cX8_markOf 25 = .ok (.lrem, 1) := by decide +kernel
theorem dX8_markOf_26 : decode cX8_markOf 26 = .ok (.lstore_n 2, 1) := by decide +kernel
theorem dX8_markOf_27 : decode cX8_markOf 27 = .ok (.lload_n 2, 1) := by decide +kernel
theorem dX8_markOf_28 : decode cX8_markOf 28 = .ok (.ldc2_w 65, 3) := by decide +kernel
theorem dX8_markOf_31 : decode cX8_markOf 31 = .ok (.ldiv, 1) := by decide +kernel
theorem dX8_markOf_32 : decode cX8_markOf 32 = .ok (.l2i, 1) := by decide +kernel
theorem dX8_markOf_33 : decode cX8_markOf 33 = .ok (.ireturn, 1) := by decide +kernel
set_option maxRecDepth 20000 in
theorem ggX8_rankOf_X8_markOf : GoodIn wsX8_rankOf wsX8_markOf := goodIn_r _ [5, 6, 7, 8, 9, 10, 11, 12, 13, 14, 15, 16, 17, 18, 19, 20, 21, 22, 23, 24, 25, 26, 27] (by decide +kernel) (by decide +kernel)
set_option maxRecDepth 20000 in
theorem gX8_rankOf_X8_markOf : GoodIn wsX8_rankOf (wsV RX8 67 RX8 yX8_markOf wsX8_markOf) := goodIn_app (goodIn_of _ (by decide +kernel)) ggX8_rankOf_X8_markOf
theorem dX8_rankOf_0 : decode cX8_rankOf 0 = .ok (.aload_n 0, 1) := by decide +kernel
theorem dX8_rankOf_1 : decode cX8_rankOf 1 = .ok (.iload_n 1, 1) := by decide +kernel
theorem dX8_rankOf_2 : decode cX8_rankOf 2 = .ok (.invokevirtual 67, 3) := by decide +kernel
theorem dX8_rankOf_5 : decode cX8_rankOf 5 = .ok (.istore_n 2, 1) := by decide +kernel
theorem dX8_rankOf_6 : decode cX8_rankOf 6 = .ok (.iconst 0, 1) := by decide +kernel
theorem dX8_rankOf_7 : decode cX8_rankOf 7 = .ok (.istore_n 3, 1) := by decide +kernel
theorem dX8_rankOf_8 : decode cX8_rankOf 8 = .ok (.iload_n 3, 1) := by decide +kernel
theorem dX8_rankOf_9 : decode cX8_rankOf 9 = .ok (.bipush 7, 2) := by decide +kernel
theorem dX8_rankOf_11 : decode cX8_rankOf 11 = .ok (.if_icmp .ge 19, 3) := by decide +kernel
theorem dX8_rankOf_14 : decode cX8_rankOf 14 = .ok (.iload_n 2, 1) := by decide +kernel
theorem dX8_rankOf_15 : decode cX8_rankOf 15 = .ok (.iconst 2, 1) := by decide +kernel
theorem dX8_rankOf_16 : decode cX8_rankOf 16 = .ok (.irem, 1) := by decide +kernel
theorem dX8_rankOf_17 : decode cX8_rankOf 17 = .ok (.ifCond .ne 13, 3) := by decide +kernel
theorem dX8_rankOf_20 : decode cX8_rankOf 20 = .ok (.iload_n 2, 1) := by decide +kernel
theorem dX8_rankOf_21 : decode cX8_rankOf 21 = .ok (.iconst 2, 1) := by decide +kernel
theorem dX8_rankOf_22 : decode cX8_rankOf 22 = .ok (.idiv, 1) := by decide +kernel
theorem dX8_rankOf_23 : decode cX8_rankOf 23 = .ok (.istore_n 2, 1) := by decide +kernel
theorem dX8_rankOf_24 : decode cX8_rankOf 24 = .ok (.iinc 3 1, 3) := by decide +kernel
theorem dX8_rankOf_27 : decode cX8_rankOf 27 = .ok (.goto (-19), 3) := by decide +kernel
theorem dX8_rankOf_30 : decode cX8_rankOf 30 = .ok (.iload_n 3, 1) := by decide +kernel
theorem dX8_rankOf_31 : decode cX8_rankOf 31 = .ok (.ireturn, 1) := by decide +kernel
set_option maxRecDepth 20000 in
theorem ggX8_spread_X8_has : GoodIn wsX8_spread wsX8_has := goodIn_r _ [6] (by decide +kernel) (by decide +kernel)
set_option maxRecDepth 20000 in
theorem gX8_spread_X8_has : GoodIn wsX8_spread (va_wsS RX8 55 yX8_has wsX8_has) := goodIn_app (goodIn_of _ (by decide +kernel)) ggX8_spread_X8_has
theorem dX8_spread_0 : decode cX8_spread 0 = .ok (.iconst 0, 1) := by decide +kernel
theorem dX8_spread_1 : decode cX8_spread 1 = .ok (.istore_n 2, 1) := by decide +kernel
theorem dX8_spread_2 : decode cX8_spread 2 = .ok (.iconst 0, 1) := by decide +kernel
theorem dX8_spread_3 : decode cX8_spread 3 = .ok (.istore_n 3, 1) := by decide +kernel
theorem dX8_spread_4 : decode cX8_spread 4 = .ok (.iload_n 3, 1) := by decide +kernel
theorem dX8_spread_5 : decode cX8_spread 5 = .ok (.aload_n 0, 1) := by decide +kernel
theorem dX8_spread_6 : decode cX8_spread 6 = .ok (.getfield 9, 3) := by decide +kernel
theorem dX8_spread_9 : decode cX8_spread 9 = .ok (.iconst 0, 1) := by decide +kernel
theorem dX8_spread_10 : decode cX8_spread 10 = .ok (.iaload, 1) := by decide +kernel
theorem dX8_spread_11 : decode cX8_spread 11 = .ok (.if_icmp .ge 77, 3) := by decide +kernel
theorem dX8_spread_14 : decode cX8_spread 14 = .ok (.iconst 0, 1) := by decide +kernel
theorem dX8_spread_15 : decode cX8_spread 15 = .ok (.istore 4, 2) := by decide +kernel
theorem dX8_spread_17 : decode cX8_spread 17 = .ok (.iload 4, 2) := by decide +kernel
theorem dX8_spread_19 : decode cX8_spread 19 = .ok (.aload_n 0, 1) := by decide +kernel
theorem dX8_spread_20 : decode cX8_spread 20 = .ok (.getfield 9, 3) := by decide +kernel
theorem dX8_spread_23 : decode cX8_spread 23 = .ok (.iconst 0, 1) := by decide +kernel
theorem dX8_spread_24 : decode cX8_spread 24 = .ok (.iaload, 1) := by decide +kernel
theorem dX8_spread_25 : decode cX8_spread 25 = .ok (.if_icmp .ge 57, 3) := by decide +kernel
theorem dX8_spread_28 : decode cX8_spread 28 = .ok (.aload_n 0, 1) := by decide +kernel
theorem dX8_spread_29 : decode cX8_spread 29 = .ok (.getfield 22, 3) := by decide +kernel
theorem dX8_spread_32 : decode cX8_spread 32 = .ok (.iload_n 3, 1) := by decide +kernel
theorem dX8_spread_33 : decode cX8_spread 33 = .ok (.iaload, 1) := by decide +kernel
theorem dX8_spread_34 : decode cX8_spread 34 = .ok (.iconst (-1), 1) := by decide +kernel
theorem dX8_spread_35 : decode cX8_spread 35 = .ok (.if_icmp .ne 47, 3) := by decide +kernel
theorem dX8_spread_38 : decode cX8_spread 38 = .ok (.aload_n 0, 1) := by decide +kernel
theorem dX8_spread_39 : decode cX8_spread 39 = .ok (.getfield 9, 3) := by decide +kernel
theorem dX8_spread_42 : decode cX8_spread 42 = .ok (.iconst 3, 1) := by decide +kernel
theorem dX8_spread_43 : decode cX8_spread 43 = .ok (.iload_n 3, 1) := by decide +kernel
theorem dX8_spread_44 : decode cX8_spread 44 = .ok (.iadd, 1) := by decide +kernel
theorem dX8_spread_45 : decode cX8_spread 45 = .ok (.iaload, 1) := by decide +kernel
theorem dX8_spread_46 : decode cX8_spread 46 = .ok (.iload 4, 2) := by decide +kernel
theorem dX8_spread_48 : decode cX8_spread 48 = .ok (.invokestatic 55, 3) := by decide +kernel
theorem dX8_spread_51 : decode cX8_spread 51 = .ok (.ifCond .eq 25, 3) := by decide +kernel
theorem dX8_spread_54 : decode cX8_spread 54 = .ok (.aload_n 0, 1) := by decide +kernel
theorem dX8_spread_55 : decode cX8_spread 55 = .ok (.getfield 22, 3) := by decide +kernel
theorem dX8_spread_58 : decode cX8_spread 58 = .ok (.iload 4, 2) := by decide +kernel
theorem dX8_spread_60 : decode cX8_spread 60 = .ok (.iaload, 1) := by decide +kernel
theorem dX8_spread_61 : decode cX8_spread 61 = .ok (.iload_n 1, 1) := by decide +kernel
theorem dX8_spread_62 : decode cX8_spread 62 = .ok (.if_icmp .ne 14, 3) := by decide +kernel
theorem dX8_spread_65 : decode cX8_spread 65 = .ok (.aload_n 0, 1) := by decide +kernel
theorem dX8_spread_66 : decode cX8_spread 66 = .ok (.getfield 22, 3) := by decide +kernel
theorem dX8_spread_69 : decode cX8_spread 69 = .ok (.iload_n 3, 1) := by decide +kernel
theorem dX8_spread_70 : decode cX8_spread 70 = .ok (.iload_n 1, 1) := by decide +kernel
theorem dX8_spread_71 : decode cX8_spread 71 = .ok (.iconst 1, 1) := by decide +kernel
theorem dX8_spread_72 : decode cX8_spread 72 = .ok (.iadd, 1) := by decide +kernel
theorem dX8_spread_73 : decode cX8_spread 73 = .ok (.iastore, 1) := by decide +kernel
theorem dX8_spread_74 : decode cX8_spread 74 = .ok (.iconst 1, 1) := by decide +kernel
theorem dX8_spread_75 : decode cX8_spread 75 = .ok (.istore_n 2, 1) := by decide +kernel
theorem dX8_spread_76 : decode cX8_spread 76 = .ok (.iinc 4 1, 3) := by decide +kernel
theorem dX8_spread_79 : decode cX8_spread 79 = .ok (.goto (-62), 3) := by decide +kernel
theorem dX8_spread_82 : decode cX8_spread 82 = .ok (.iinc 3 1, 3) := by decide +kernel
theorem dX8_spread_85 : decode cX8_spread 85 = .ok (.goto (-81), 3) := by decide +kernel
theorem dX8_spread_88 : decode cX8_spread 88 = .ok (.iload_n 2, 1) := by decide +kernel
theorem dX8_spread_89 : decode cX8_spread 89 = .ok (.ireturn, 1) := by decide +kernel
set_option maxRecDepth 20000 in
theorem ggX8_layRings_X8_spread : GoodIn wsX8_layRings wsX8_spread := goodIn_r _ [6, 7, 1, 8, 9, 5, 10, 11, 12, 13, 14, 15, 16, 17, 18, 19, 20, 21, 22, 23, 24, 25, 26, 27] (by decide +kernel) (by decide +kernel)
set_option maxRecDepth 20000 in
theorem gX8_layRings_X8_spread : GoodIn wsX8_layRings (wsV RX8 71 RX8 yX8_spread wsX8_spread) := goodIn_app (goodIn_of _ (by decide +kernel)) ggX8_layRings_X8_spread
theorem dX8_layRings_0 : decode cX8_layRings 0 = .ok (.iconst 0, 1) := by decide +kernel
theorem dX8_layRings_1 : decode cX8_layRings 1 = .ok (.istore_n 1, 1) := by decide +kernel
theorem dX8_layRings_2 : decode cX8_layRings 2 = .ok (.iload_n 1, 1) := by decide +kernel
theorem dX8_layRings_3 : decode cX8_layRings 3 = .ok (.bipush 9, 2) := by decide +kernel
theorem dX8_layRings_5 : decode cX8_layRings 5 = .ok (.if_icmp .ge 16, 3) := by decide +kernel
theorem dX8_layRings_8 : decode cX8_layRings 8 = .ok (.aload_n 0, 1) := by decide +kernel
theorem dX8_layRings_9 : decode cX8_layRings 9 = .ok (.getfield 22, 3) := by decide +kernel
theorem dX8_layRings_12 : decode cX8_layRings 12 = .ok (.iload_n 1, 1) := by decide +kernel
theorem dX8_layRings_13 : decode cX8_layRings 13 = .ok (.iconst (-1), 1) := by decide +kernel
theorem dX8_layRings_14 : decode cX8_layRings 14 = .ok (.iastore, 1) := by decide +kernel
theorem dX8_layRings_15 : decode cX8_layRings 15 = .ok (.iinc 1 1, 3) := by decide +kernel
theorem dX8_layRings_18 : decode cX8_layRings 18 = .ok (.goto (-16), 3) := by decide +kernel
theorem dX8_layRings_21 : decode cX8_layRings 21 = .ok (.aload_n 0, 1) := by decide +kernel
theorem dX8_layRings_22 : decode cX8_layRings 22 = .ok (.getfield 22, 3) := by decide +kernel
theorem dX8_layRings_25 : decode cX8_layRings 25 = .ok (.iconst 0, 1) := by decide +kernel
theorem dX8_layRings_26 : decode cX8_layRings 26 = .ok (.iconst 0, 1) := by decide +kernel
theorem dX8_layRings_27 : decode cX8_layRings 27 = .ok (.iastore, 1) := by decide +kernel
theorem dX8_layRings_28 : decode cX8_layRings 28 = .ok (.iconst 0, 1) := by decide +kernel
theorem dX8_layRings_29 : decode cX8_layRings 29 = .ok (.istore_n 1, 1) := by decide +kernel
theorem dX8_layRings_30 : decode cX8_layRings 30 = .ok (.iload_n 1, 1) := by decide +kernel
theorem dX8_layRings_31 : decode cX8_layRings 31 = .ok (.bipush 9, 2) := by decide +kernel
theorem dX8_layRings_33 : decode cX8_layRings 33 = .ok (.if_icmp .ge 17, 3) := by decide +kernel
theorem dX8_layRings_36 : decode cX8_layRings 36 = .ok (.aload_n 0, 1) := by decide +kernel
theorem dX8_layRings_37 : decode cX8_layRings 37 = .ok (.iload_n 1, 1) := by decide +kernel
theorem dX8_layRings_38 : decode cX8_layRings 38 = .ok (.invokevirtual 71, 3) := by decide +kernel
theorem dX8_layRings_41 : decode cX8_layRings 41 = .ok (.ifCond .eq 9, 3) := by decide +kernel
theorem dX8_layRings_44 : decode cX8_layRings 44 = .ok (.iinc 1 1, 3) := by decide +kernel
theorem dX8_layRings_47 : decode cX8_layRings 47 = .ok (.goto (-17), 3) := by decide +kernel
theorem dX8_layRings_50 : decode cX8_layRings 50 = .ok (.return_, 1) := by decide +kernel
set_option maxRecDepth 20000 in
theorem ggX8_upper_X8_has : GoodIn wsX8_upper wsX8_has := goodIn_r _ [6] (by decide +kernel) (by decide +kernel)
set_option maxRecDepth 20000 in
theorem gX8_upper_X8_has : GoodIn wsX8_upper (va_wsS RX8 55 yX8_has wsX8_has) := goodIn_app (goodIn_of _ (by decide +kernel)) ggX8_upper_X8_has
theorem dX8_upper_0 : decode cX8_upper 0 = .ok (.iconst 0, 1) := by decide +kernel
theorem dX8_upper_1 : decode cX8_upper 1 = .ok (.istore_n 2, 1) := by decide +kernel
theorem dX8_upper_2 : decode cX8_upper 2 = .ok (.iconst 0, 1) := by decide +kernel
theorem dX8_upper_3 : decode cX8_upper 3 = .ok (.istore_n 3, 1) := by decide +kernel
theorem dX8_upper_4 : decode cX8_upper 4 = .ok (.iload_n 3, 1) := by decide +kernel
theorem dX8_upper_5 : decode cX8_upper 5 = .ok (.aload_n 0, 1) := by decide +kernel
theorem dX8_upper_6 : decode cX8_upper 6 = .ok (.getfield 9, 3) := by decide +kernel
theorem dX8_upper_9 : decode cX8_upper 9 = .ok (.iconst 0, 1) := by decide +kernel
theorem dX8_upper_10 : decode cX8_upper 10 = .ok (.iaload, 1) := by decide +kernel
theorem dX8_upper_11 : decode cX8_upper 11 = .ok (.if_icmp .ge 60, 3) := by decide +kernel
end
section
theorem dX8_upper_14 : decode cX8_upper 14 = .ok (.iload_n 2, 1) := by decide +kernel
theorem dX8_upper_15 : decode cX8_upper 15 = .ok (.aload_n 0, 1) := by decide +kernel
theorem dX8_upper_16 : decode cX8_upper 16 = .ok (.getfield 22, 3) := by decide +kernel
theorem dX8_upper_19 : decode cX8_upper 19 = .ok (.iload_n 1, 1) := by decide +kernel
theorem dX8_upper_20 : decode cX8_upper 20 = .ok (.iaload, 1) := by decide +kernel
theorem dX8_upper_21 : decode cX8_upper 21 = .ok (.ifCond .le 41, 3) := by decide +kernel
theorem dX8_upper_24 : decode cX8_upper 24 = .ok (.aload_n 0, 1) := by decide +kernel
theorem dX8_upper_25 : decode cX8_upper 25 = .ok (.getfield 9, 3) := by decide +kernel
theorem dX8_upper_28 : decode cX8_upper 28 = .ok (.iconst 3, 1) := by decide +kernel
theorem dX8_upper_29 : decode cX8_upper 29 = .ok (.iload_n 1, 1) := by decide +kernel
theorem dX8_upper_30 : decode cX8_upper 30 = .ok (.iadd, 1) := by decide +kernel
theorem dX8_upper_31 : decode cX8_upper 31 = .ok (.iaload, 1) := by decide +kernel
theorem dX8_upper_32 : decode cX8_upper 32 = .ok (.iload_n 3, 1) := by decide +kernel
theorem dX8_upper_33 : decode cX8_upper 33 = .ok (.invokestatic 55, 3) := by decide +kernel
theorem dX8_upper_36 : decode cX8_upper 36 = .ok (.ifCond .eq 26, 3) := by decide +kernel
theorem dX8_upper_39 : decode cX8_upper 39 = .ok (.aload_n 0, 1) := by decide +kernel
theorem dX8_upper_40 : decode cX8_upper 40 = .ok (.getfield 22, 3) := by decide +kernel
theorem dX8_upper_43 : decode cX8_upper 43 = .ok (.iload_n 3, 1) := by decide +kernel
theorem dX8_upper_44 : decode cX8_upper 44 = .ok (.iaload, 1) := by decide +kernel
theorem dX8_upper_45 : decode cX8_upper 45 = .ok (.aload_n 0, 1) := by decide +kernel
theorem dX8_upper_46 : decode cX8_upper 46 = .ok (.getfield 22, 3) := by decide +kernel
theorem dX8_upper_49 : decode cX8_upper 49 = .ok (.iload_n 1, 1) := by decide +kernel
theorem dX8_upper_50 : decode cX8_upper 50 = .ok (.iaload, 1) := by decide +kernel
theorem dX8_upper_51 : decode cX8_upper 51 = .ok (.iconst 1, 1) := by decide +kernel
theorem dX8_upper_52 : decode cX8_upper 52 = .ok (.isub, 1) := by decide +kernel
theorem dX8_upper_53 : decode cX8_upper 53 = .ok (.if_icmp .ne 9, 3) := by decide +kernel
theorem dX8_upper_56 : decode cX8_upper 56 = .ok (.iconst 1, 1) := by decide +kernel
theorem dX8_upper_57 : decode cX8_upper 57 = .ok (.iload_n 3, 1) := by decide +kernel
theorem dX8_upper_58 : decode cX8_upper 58 = .ok (.ishl, 1) := by decide +kernel
theorem dX8_upper_59 : decode cX8_upper 59 = .ok (.goto 4, 3) := by decide +kernel
theorem dX8_upper_62 : decode cX8_upper 62 = .ok (.iconst 0, 1) := by decide +kernel
theorem dX8_upper_63 : decode cX8_upper 63 = .ok (.ior, 1) := by decide +kernel
theorem dX8_upper_64 : decode cX8_upper 64 = .ok (.istore_n 2, 1) := by decide +kernel
theorem dX8_upper_65 : decode cX8_upper 65 = .ok (.iinc 3 1, 3) := by decide +kernel
theorem dX8_upper_68 : decode cX8_upper 68 = .ok (.goto (-64), 3) := by decide +kernel
theorem dX8_upper_71 : decode cX8_upper 71 = .ok (.iload_n 2, 1) := by decide +kernel
theorem dX8_upper_72 : decode cX8_upper 72 = .ok (.ireturn, 1) := by decide +kernel
theorem dX8_greatestRing_0 : decode cX8_greatestRing 0 = .ok (.iconst 0, 1) := by decide +kernel
theorem dX8_greatestRing_1 : decode cX8_greatestRing 1 = .ok (.istore_n 1, 1) := by decide +kernel
theorem dX8_greatestRing_2 : decode cX8_greatestRing 2 = .ok (.iconst 0, 1) := by decide +kernel
theorem dX8_greatestRing_3 : decode cX8_greatestRing 3 = .ok (.istore_n 2, 1) := by decide +kernel
theorem dX8_greatestRing_4 : decode cX8_greatestRing 4 = .ok (.iload_n 2, 1) := by decide +kernel
theorem dX8_greatestRing_5 : decode cX8_greatestRing 5 = .ok (.aload_n 0, 1) := by decide +kernel
theorem dX8_greatestRing_6 : decode cX8_greatestRing 6 = .ok (.getfield 9, 3) := by decide +kernel
theorem dX8_greatestRing_9 : decode cX8_greatestRing 9 = .ok (.iconst 0, 1) := by decide +kernel
theorem dX8_greatestRing_10 : decode cX8_greatestRing 10 = .ok (.iaload, 1) := by decide +kernel
theorem dX8_greatestRing_11 : decode cX8_greatestRing 11 = .ok (.if_icmp .ge 30, 3) := by decide +kernel
theorem dX8_greatestRing_14 : decode cX8_greatestRing 14 = .ok (.aload_n 0, 1) := by decide +kernel
theorem dX8_greatestRing_15 : decode cX8_greatestRing 15 = .ok (.getfield 22, 3) := by decide +kernel
theorem dX8_greatestRing_18 : decode cX8_greatestRing 18 = .ok (.iload_n 2, 1) := by decide +kernel
theorem dX8_greatestRing_19 : decode cX8_greatestRing 19 = .ok (.iaload, 1) := by decide +kernel
theorem dX8_greatestRing_20 : decode cX8_greatestRing 20 = .ok (.iload_n 1, 1) := by decide +kernel
theorem dX8_greatestRing_21 : decode cX8_greatestRing 21 = .ok (.if_icmp .le 12, 3) := by decide +kernel
theorem dX8_greatestRing_24 : decode cX8_greatestRing 24 = .ok (.aload_n 0, 1) := by decide +kernel
theorem dX8_greatestRing_25 : decode cX8_greatestRing 25 = .ok (.getfield 22, 3) := by decide +kernel
theorem dX8_greatestRing_28 : decode cX8_greatestRing 28 = .ok (.iload_n 2, 1) := by decide +kernel
theorem dX8_greatestRing_29 : decode cX8_greatestRing 29 = .ok (.iaload, 1) := by decide +kernel
theorem dX8_greatestRing_30 : decode cX8_greatestRing 30 = .ok (.goto 4, 3) := by decide +kernel
theorem dX8_greatestRing_33 : decode cX8_greatestRing 33 = .ok (.iload_n 1, 1) := by decide +kernel
theorem dX8_greatestRing_34 : decode cX8_greatestRing 34 = .ok (.istore_n 1, 1) := by decide +kernel
theorem dX8_greatestRing_35 : decode cX8_greatestRing 35 = .ok (.iinc 2 1, 3) := by decide +kernel
theorem dX8_greatestRing_38 : decode cX8_greatestRing 38 = .ok (.goto (-34), 3) := by decide +kernel
theorem dX8_greatestRing_41 : decode cX8_greatestRing 41 = .ok (.iload_n 1, 1) := by decide +kernel
theorem dX8_greatestRing_42 : decode cX8_greatestRing 42 = .ok (.ireturn, 1) := by decide +kernel
set_option maxRecDepth 20000 in
theorem ggX8_sendFrom_X8_upper : GoodIn wsX8_sendFrom wsX8_upper := goodIn_r _ [9, 1, 10, 11, 12, 8, 13, 14, 15, 16, 17, 18, 19, 20, 21, 22, 23, 24, 25, 26, 27, 28, 29, 30] (by decide +kernel) (by decide +kernel)
set_option maxRecDepth 20000 in
theorem gX8_sendFrom_X8_upper : GoodIn wsX8_sendFrom (wsV RX8 74 RX8 yX8_upper wsX8_upper) := goodIn_app (goodIn_of _ (by decide +kernel)) ggX8_sendFrom_X8_upper
set_option maxRecDepth 20000 in
theorem ggX8_sendFrom_X8_has : GoodIn wsX8_sendFrom wsX8_has := goodIn_r _ [13] (by decide +kernel) (by decide +kernel)
set_option maxRecDepth 20000 in
theorem gX8_sendFrom_X8_has : GoodIn wsX8_sendFrom (va_wsS RX8 55 yX8_has wsX8_has) := goodIn_app (goodIn_of _ (by decide +kernel)) ggX8_sendFrom_X8_has
theorem dX8_sendFrom_0 : decode cX8_sendFrom 0 = .ok (.aload_n 0, 1) := by decide +kernel
theorem dX8_sendFrom_1 : decode cX8_sendFrom 1 = .ok (.iload_n 1, 1) := by decide +kernel
theorem dX8_sendFrom_2 : decode cX8_sendFrom 2 = .ok (.invokevirtual 74, 3) := by decide +kernel
theorem dX8_sendFrom_5 : decode cX8_sendFrom 5 = .ok (.istore_n 2, 1) := by decide +kernel
theorem dX8_sendFrom_6 : decode cX8_sendFrom 6 = .ok (.iconst 1, 1) := by decide +kernel
theorem dX8_sendFrom_7 : decode cX8_sendFrom 7 = .ok (.istore_n 3, 1) := by decide +kernel
theorem dX8_sendFrom_8 : decode cX8_sendFrom 8 = .ok (.iconst 0, 1) := by decide +kernel
theorem dX8_sendFrom_9 : decode cX8_sendFrom 9 = .ok (.istore 4, 2) := by decide +kernel
theorem dX8_sendFrom_11 : decode cX8_sendFrom 11 = .ok (.iload 4, 2) := by decide +kernel
theorem dX8_sendFrom_13 : decode cX8_sendFrom 13 = .ok (.aload_n 0, 1) := by decide +kernel
theorem dX8_sendFrom_14 : decode cX8_sendFrom 14 = .ok (.getfield 9, 3) := by decide +kernel
theorem dX8_sendFrom_17 : decode cX8_sendFrom 17 = .ok (.iconst 0, 1) := by decide +kernel
theorem dX8_sendFrom_18 : decode cX8_sendFrom 18 = .ok (.iaload, 1) := by decide +kernel
theorem dX8_sendFrom_19 : decode cX8_sendFrom 19 = .ok (.if_icmp .ge 68, 3) := by decide +kernel
theorem dX8_sendFrom_22 : decode cX8_sendFrom 22 = .ok (.iload_n 2, 1) := by decide +kernel
theorem dX8_sendFrom_23 : decode cX8_sendFrom 23 = .ok (.iload 4, 2) := by decide +kernel
theorem dX8_sendFrom_25 : decode cX8_sendFrom 25 = .ok (.invokestatic 55, 3) := by decide +kernel
theorem dX8_sendFrom_28 : decode cX8_sendFrom 28 = .ok (.ifCond .eq 53, 3) := by decide +kernel
theorem dX8_sendFrom_31 : decode cX8_sendFrom 31 = .ok (.iload_n 3, 1) := by decide +kernel
theorem dX8_sendFrom_32 : decode cX8_sendFrom 32 = .ok (.ifCond .eq 49, 3) := by decide +kernel
theorem dX8_sendFrom_35 : decode cX8_sendFrom 35 = .ok (.aload_n 0, 1) := by decide +kernel
theorem dX8_sendFrom_36 : decode cX8_sendFrom 36 = .ok (.getfield 25, 3) := by decide +kernel
theorem dX8_sendFrom_39 : decode cX8_sendFrom 39 = .ok (.aload_n 0, 1) := by decide +kernel
theorem dX8_sendFrom_40 : decode cX8_sendFrom 40 = .ok (.getfield 77, 3) := by decide +kernel
theorem dX8_sendFrom_43 : decode cX8_sendFrom 43 = .ok (.iload_n 1, 1) := by decide +kernel
theorem dX8_sendFrom_44 : decode cX8_sendFrom 44 = .ok (.iastore, 1) := by decide +kernel
theorem dX8_sendFrom_45 : decode cX8_sendFrom 45 = .ok (.aload_n 0, 1) := by decide +kernel
theorem dX8_sendFrom_46 : decode cX8_sendFrom 46 = .ok (.getfield 28, 3) := by decide +kernel
theorem dX8_sendFrom_49 : decode cX8_sendFrom 49 = .ok (.aload_n 0, 1) := by decide +kernel
theorem dX8_sendFrom_50 : decode cX8_sendFrom 50 = .ok (.getfield 77, 3) := by decide +kernel
theorem dX8_sendFrom_53 : decode cX8_sendFrom 53 = .ok (.iload 4, 2) := by decide +kernel
theorem dX8_sendFrom_55 : decode cX8_sendFrom 55 = .ok (.iastore, 1) := by decide +kernel
theorem dX8_sendFrom_56 : decode cX8_sendFrom 56 = .ok (.aload_n 0, 1) := by decide +kernel
theorem dX8_sendFrom_57 : decode cX8_sendFrom 57 = .ok (.dup, 1) := by decide +kernel
theorem dX8_sendFrom_58 : decode cX8_sendFrom 58 = .ok (.getfield 77, 3) := by decide +kernel
theorem dX8_sendFrom_61 : decode cX8_sendFrom 61 = .ok (.iconst 1, 1) := by decide +kernel
theorem dX8_sendFrom_62 : decode cX8_sendFrom 62 = .ok (.iadd, 1) := by decide +kernel
theorem dX8_sendFrom_63 : decode cX8_sendFrom 63 = .ok (.putfield 77, 3) := by decide +kernel
theorem dX8_sendFrom_66 : decode cX8_sendFrom 66 = .ok (.aload_n 0, 1) := by decide +kernel
theorem dX8_sendFrom_67 : decode cX8_sendFrom 67 = .ok (.getfield 9, 3) := by decide +kernel
theorem dX8_sendFrom_70 : decode cX8_sendFrom 70 = .ok (.iconst 2, 1) := by decide +kernel
theorem dX8_sendFrom_71 : decode cX8_sendFrom 71 = .ok (.iaload, 1) := by decide +kernel
theorem dX8_sendFrom_72 : decode cX8_sendFrom 72 = .ok (.ifCond .ne 7, 3) := by decide +kernel
theorem dX8_sendFrom_75 : decode cX8_sendFrom 75 = .ok (.iconst 1, 1) := by decide +kernel
theorem dX8_sendFrom_76 : decode cX8_sendFrom 76 = .ok (.goto 4, 3) := by decide +kernel
theorem dX8_sendFrom_79 : decode cX8_sendFrom 79 = .ok (.iconst 0, 1) := by decide +kernel
theorem dX8_sendFrom_80 : decode cX8_sendFrom 80 = .ok (.istore_n 3, 1) := by decide +kernel
theorem dX8_sendFrom_81 : decode cX8_sendFrom 81 = .ok (.iinc 4 1, 3) := by decide +kernel
theorem dX8_sendFrom_84 : decode cX8_sendFrom 84 = .ok (.goto (-73), 3) := by decide +kernel
theorem dX8_sendFrom_87 : decode cX8_sendFrom 87 = .ok (.return_, 1) := by decide +kernel
set_option maxRecDepth 20000 in
theorem ggX8_layLetters_X8_layRings : GoodIn wsX8_layLetters wsX8_layRings := goodIn_r _ [8, 3, 9, 10, 11, 7, 12, 2, 13, 14, 15, 30, 31, 32, 33, 34, 35, 36, 37, 38, 39, 40, 41, 42, 43, 44, 45, 46] (by decide +kernel) (by decide +kernel)
set_option maxRecDepth 20000 in
theorem gX8_layLetters_X8_layRings : GoodIn wsX8_layLetters (wsV RX8 81 RX8 yX8_layRings wsX8_layRings) := goodIn_app (goodIn_of _ (by decide +kernel)) ggX8_layLetters_X8_layRings
set_option maxRecDepth 20000 in
theorem ggX8_layLetters_X8_greatestRing : GoodIn wsX8_layLetters wsX8_greatestRing := goodIn_r _ [19, 2, 3, 30, 31, 32, 33, 34, 35, 36, 37, 38, 39, 40, 41, 42, 43, 44, 45, 46] (by decide +kernel) (by decide +kernel)
set_option maxRecDepth 20000 in
theorem gX8_layLetters_X8_greatestRing : GoodIn wsX8_layLetters (wsV RX8 84 RX8 yX8_greatestRing wsX8_greatestRing) := goodIn_app (goodIn_of _ (by decide +kernel)) ggX8_layLetters_X8_greatestRing
set_option maxRecDepth 20000 in
theorem ggX8_layLetters_X8_sendFrom : GoodIn wsX8_layLetters wsX8_sendFrom := goodIn_r _ [23, 2, 24, 1, 25, 26, 27, 28, 7, 29, 3, 13, 14, 15, 30, 31, 32, 33, 34, 35, 36, 37, 38, 39, 40, 41, 42, 43, 44, 45, 46] (by decide +kernel) (by decide +kernel)
set_option maxRecDepth 20000 in
theorem gX8_layLetters_X8_sendFrom : GoodIn wsX8_layLetters (wsV RX8 88 RX8 yX8_sendFrom wsX8_sendFrom) := goodIn_app (goodIn_of _ (by decide +kernel)) ggX8_layLetters_X8_sendFrom
theorem dX8_layLetters_0 : decode cX8_layLetters 0 = .ok (.aload_n 0, 1) := by decide +kernel
theorem dX8_layLetters_1 : decode cX8_layLetters 1 = .ok (.invokevirtual 81, 3) := by decide +kernel
theorem dX8_layLetters_4 : decode cX8_layLetters 4 = .ok (.aload_n 0, 1) := by decide +kernel
theorem dX8_layLetters_5 : decode cX8_layLetters 5 = .ok (.iconst 0, 1) := by decide +kernel
theorem dX8_layLetters_6 : decode cX8_layLetters 6 = .ok (.putfield 77, 3) := by decide +kernel
theorem dX8_layLetters_9 : decode cX8_layLetters 9 = .ok (.aload_n 0, 1) := by decide +kernel
theorem dX8_layLetters_10 : decode cX8_layLetters 10 = .ok (.invokevirtual 84, 3) := by decide +kernel
theorem dX8_layLetters_13 : decode cX8_layLetters 13 = .ok (.istore_n 1, 1) := by decide +kernel
theorem dX8_layLetters_14 : decode cX8_layLetters 14 = .ok (.iload_n 1, 1) := by decide +kernel
theorem dX8_layLetters_15 : decode cX8_layLetters 15 = .ok (.ifCond .le 42, 3) := by decide +kernel
theorem dX8_layLetters_18 : decode cX8_layLetters 18 = .ok (.iconst 0, 1) := by decide +kernel
theorem dX8_layLetters_19 : decode cX8_layLetters 19 = .ok (.istore_n 2, 1) := by decide +kernel
theorem dX8_layLetters_20 : decode cX8_layLetters 20 = .ok (.iload_n 2, 1) := by decide +kernel
theorem dX8_layLetters_21 : decode cX8_layLetters 21 = .ok (.aload_n 0, 1) := by decide +kernel
theorem dX8_layLetters_22 : decode cX8_layLetters 22 = .ok (.getfield 9, 3) := by decide +kernel
theorem dX8_layLetters_25 : decode cX8_layLetters 25 = .ok (.iconst 0, 1) := by decide +kernel
theorem dX8_layLetters_26 : decode cX8_layLetters 26 = .ok (.iaload, 1) := by decide +kernel
theorem dX8_layLetters_27 : decode cX8_layLetters 27 = .ok (.if_icmp .ge 24, 3) := by decide +kernel
theorem dX8_layLetters_30 : decode cX8_layLetters 30 = .ok (.aload_n 0, 1) := by decide +kernel
theorem dX8_layLetters_31 : decode cX8_layLetters 31 = .ok (.getfield 22, 3) := by decide +kernel
theorem dX8_layLetters_34 : decode cX8_layLetters 34 = .ok (.iload_n 2, 1) := by decide +kernel
theorem dX8_layLetters_35 : decode cX8_layLetters 35 = .ok (.iaload, 1) := by decide +kernel
theorem dX8_layLetters_36 : decode cX8_layLetters 36 = .ok (.iload_n 1, 1) := by decide +kernel
theorem dX8_layLetters_37 : decode cX8_layLetters 37 = .ok (.if_icmp .ne 8, 3) := by decide +kernel
theorem dX8_layLetters_40 : decode cX8_layLetters 40 = .ok (.aload_n 0, 1) := by decide +kernel
theorem dX8_layLetters_41 : decode cX8_layLetters 41 = .ok (.iload_n 2, 1) := by decide +kernel
theorem dX8_layLetters_42 : decode cX8_layLetters 42 = .ok (.invokevirtual 88, 3) := by decide +kernel
theorem dX8_layLetters_45 : decode cX8_layLetters 45 = .ok (.iinc 2 1, 3) := by decide +kernel
theorem dX8_layLetters_48 : decode cX8_layLetters 48 = .ok (.goto (-28), 3) := by decide +kernel
theorem dX8_layLetters_51 : decode cX8_layLetters 51 = .ok (.iinc 1 (-1), 3) := by decide +kernel
theorem dX8_layLetters_54 : decode cX8_layLetters 54 = .ok (.goto (-40), 3) := by decide +kernel
theorem dX8_layLetters_57 : decode cX8_layLetters 57 = .ok (.return_, 1) := by decide +kernel
set_option maxRecDepth 20000 in
theorem ggX8_comes_X8_has : GoodIn wsX8_comes wsX8_has := goodIn_r _ [7] (by decide +kernel) (by decide +kernel)
set_option maxRecDepth 20000 in
theorem gX8_comes_X8_has : GoodIn wsX8_comes (va_wsS RX8 55 yX8_has wsX8_has) := goodIn_app (goodIn_of _ (by decide +kernel)) ggX8_comes_X8_has
theorem dX8_comes_0 : decode cX8_comes 0 = .ok (.aload_n 0, 1) := by decide +kernel
theorem dX8_comes_1 : decode cX8_comes 1 = .ok (.getfield 9, 3) := by decide +kernel
theorem dX8_comes_4 : decode cX8_comes 4 = .ok (.bipush 12, 2) := by decide +kernel
theorem dX8_comes_6 : decode cX8_comes 6 = .ok (.aload_n 0, 1) := by decide +kernel
theorem dX8_comes_7 : decode cX8_comes 7 = .ok (.getfield 25, 3) := by decide +kernel
theorem dX8_comes_10 : decode cX8_comes 10 = .ok (.iload_n 1, 1) := by decide +kernel
theorem dX8_comes_11 : decode cX8_comes 11 = .ok (.iaload, 1) := by decide +kernel
theorem dX8_comes_12 : decode cX8_comes 12 = .ok (.iadd, 1) := by decide +kernel
theorem dX8_comes_13 : decode cX8_comes 13 = .ok (.iaload, 1) := by decide +kernel
theorem dX8_comes_14 : decode cX8_comes 14 = .ok (.aload_n 0, 1) := by decide +kernel
theorem dX8_comes_15 : decode cX8_comes 15 = .ok (.getfield 28, 3) := by decide +kernel
theorem dX8_comes_18 : decode cX8_comes 18 = .ok (.iload_n 1, 1) := by decide +kernel
theorem dX8_comes_19 : decode cX8_comes 19 = .ok (.iaload, 1) := by decide +kernel
theorem dX8_comes_20 : decode cX8_comes 20 = .ok (.invokestatic 55, 3) := by decide +kernel
theorem dX8_comes_23 : decode cX8_comes 23 = .ok (.ifCond .ne 7, 3) := by decide +kernel
theorem dX8_comes_26 : decode cX8_comes 26 = .ok (.iconst 1, 1) := by decide +kernel
theorem dX8_comes_27 : decode cX8_comes 27 = .ok (.goto 4, 3) := by decide +kernel
theorem dX8_comes_30 : decode cX8_comes 30 = .ok (.iconst 0, 1) := by decide +kernel
theorem dX8_comes_31 : decode cX8_comes 31 = .ok (.ireturn, 1) := by decide +kernel
set_option maxRecDepth 20000 in
theorem ggX8_lostLetters_X8_layLetters : GoodIn wsX8_lostLetters wsX8_layLetters := goodIn_r _ [6, 1, 7, 8, 9, 10, 11, 5, 12, 13, 14, 15, 16, 17, 18, 19, 20, 21, 22, 23, 24, 25, 26, 27, 28, 29, 30, 31, 32, 33, 38, 39, 40, 41, 42, 43, 44, 45, 46, 47, 48, 49, 50, 51, 52, 53, 54] (by decide +kernel) (by decide +kernel)
set_option maxRecDepth 20000 in
theorem gX8_lostLetters_X8_layLetters : GoodIn wsX8_lostLetters (wsV RX8 92 RX8 yX8_layLetters wsX8_layLetters) := goodIn_app (goodIn_of _ (by decide +kernel)) ggX8_lostLetters_X8_layLetters
set_option maxRecDepth 20000 in
theorem ggX8_lostLetters_X8_comes : GoodIn wsX8_lostLetters wsX8_comes := goodIn_r _ [37, 7, 28, 29, 17, 18, 5, 19, 38, 39, 40, 41, 42, 43, 44, 45, 46, 47, 48, 49, 50, 51, 52, 53, 54] (by decide +kernel) (by decide +kernel)
set_option maxRecDepth 20000 in
theorem gX8_lostLetters_X8_comes : GoodIn wsX8_lostLetters (wsV RX8 95 RX8 yX8_comes wsX8_comes) := goodIn_app (goodIn_of _ (by decide +kernel)) ggX8_lostLetters_X8_comes
theorem dX8_lostLetters_0 : decode cX8_lostLetters 0 = .ok (.aload_n 0, 1) := by decide +kernel
theorem dX8_lostLetters_1 : decode cX8_lostLetters 1 = .ok (.invokevirtual 92, 3) := by decide +kernel
theorem dX8_lostLetters_4 : decode cX8_lostLetters 4 = .ok (.iconst 0, 1) := by decide +kernel
theorem dX8_lostLetters_5 : decode cX8_lostLetters 5 = .ok (.istore_n 1, 1) := by decide +kernel
theorem dX8_lostLetters_6 : decode cX8_lostLetters 6 = .ok (.iconst 0, 1) := by decide +kernel
theorem dX8_lostLetters_7 : decode cX8_lostLetters 7 = .ok (.istore_n 2, 1) := by decide +kernel
theorem dX8_lostLetters_8 : decode cX8_lostLetters 8 = .ok (.iload_n 2, 1) := by decide +kernel
theorem dX8_lostLetters_9 : decode cX8_lostLetters 9 = .ok (.aload_n 0, 1) := by decide +kernel
theorem dX8_lostLetters_10 : decode cX8_lostLetters 10 = .ok (.getfield 77, 3) := by decide +kernel
theorem dX8_lostLetters_13 : decode cX8_lostLetters 13 = .ok (.if_icmp .ge 25, 3) := by decide +kernel
theorem dX8_lostLetters_16 : decode cX8_lostLetters 16 = .ok (.iload_n 1, 1) := by decide +kernel
theorem dX8_lostLetters_17 : decode cX8_lostLetters 17 = .ok (.aload_n 0, 1) := by decide +kernel
theorem dX8_lostLetters_18 : decode cX8_lostLetters 18 = .ok (.iload_n 2, 1) := by decide +kernel
theorem dX8_lostLetters_19 : decode cX8_lostLetters 19 = .ok (.invokevirtual 95, 3) := by decide +kernel
theorem dX8_lostLetters_22 : decode cX8_lostLetters 22 = .ok (.ifCond .eq 7, 3) := by decide +kernel
theorem dX8_lostLetters_25 : decode cX8_lostLetters 25 = .ok (.iconst 0, 1) := by decide +kernel
theorem dX8_lostLetters_26 : decode cX8_lostLetters 26 = .ok (.goto 4, 3) := by decide +kernel
theorem dX8_lostLetters_29 : decode cX8_lostLetters 29 = .ok (.iconst 1, 1) := by decide +kernel
theorem dX8_lostLetters_30 : decode cX8_lostLetters 30 = .ok (.iadd, 1) := by decide +kernel
theorem dX8_lostLetters_31 : decode cX8_lostLetters 31 = .ok (.istore_n 1, 1) := by decide +kernel
theorem dX8_lostLetters_32 : decode cX8_lostLetters 32 = .ok (.iinc 2 1, 3) := by decide +kernel
theorem dX8_lostLetters_35 : decode cX8_lostLetters 35 = .ok (.goto (-27), 3) := by decide +kernel
theorem dX8_lostLetters_38 : decode cX8_lostLetters 38 = .ok (.iload_n 1, 1) := by decide +kernel
theorem dX8_lostLetters_39 : decode cX8_lostLetters 39 = .ok (.ireturn, 1) := by decide +kernel
set_option maxRecDepth 20000 in
theorem ggX8_lettersTo_X8_layLetters : GoodIn wsX8_lettersTo wsX8_layLetters := goodIn_r _ [7, 1, 8, 9, 10, 11, 12, 6, 13, 14, 15, 16, 17, 18, 19, 20, 21, 22, 23, 24, 25, 26, 27, 28, 29, 2, 30, 31, 32, 33, 38, 39, 40, 41, 42, 43, 44, 45, 46, 47, 48, 49, 50, 51, 52, 53, 54] (by decide +kernel) (by decide +kernel)
set_option maxRecDepth 20000 in
theorem gX8_lettersTo_X8_layLetters : GoodIn wsX8_lettersTo (wsV RX8 92 RX8 yX8_layLetters wsX8_layLetters) := goodIn_app (goodIn_of _ (by decide +kernel)) ggX8_lettersTo_X8_layLetters
set_option maxRecDepth 20000 in
theorem ggX8_lettersTo_X8_comes : GoodIn wsX8_lettersTo wsX8_comes := goodIn_r _ [37, 8, 29, 2, 18, 19, 6, 20, 38, 39, 40, 41, 42, 43, 44, 45, 46, 47, 48, 49, 50, 51, 52, 53, 54] (by decide +kernel) (by decide +kernel)
set_option maxRecDepth 20000 in
theorem gX8_lettersTo_X8_comes : GoodIn wsX8_lettersTo (wsV RX8 95 RX8 yX8_comes wsX8_comes) := goodIn_app (goodIn_of _ (by decide +kernel)) ggX8_lettersTo_X8_comes
theorem dX8_lettersTo_0 : decode cX8_lettersTo 0 = .ok (.aload_n 0, 1) := by decide +kernel
theorem dX8_lettersTo_1 : decode cX8_lettersTo 1 = .ok (.invokevirtual 92, 3) := by decide +kernel
theorem dX8_lettersTo_4 : decode cX8_lettersTo 4 = .ok (.iconst 0, 1) := by decide +kernel
theorem dX8_lettersTo_5 : decode cX8_lettersTo 5 = .ok (.istore_n 2, 1) := by decide +kernel
theorem dX8_lettersTo_6 : decode cX8_lettersTo 6 = .ok (.iconst 0, 1) := by decide +kernel
theorem dX8_lettersTo_7 : decode cX8_lettersTo 7 = .ok (.istore_n 3, 1) := by decide +kernel
theorem dX8_lettersTo_8 : decode cX8_lettersTo 8 = .ok (.iload_n 3, 1) := by decide +kernel
theorem dX8_lettersTo_9 : decode cX8_lettersTo 9 = .ok (.aload_n 0, 1) := by decide +kernel
theorem dX8_lettersTo_10 : decode cX8_lettersTo 10 = .ok (.getfield 77, 3) := by decide +kernel
theorem dX8_lettersTo_13 : decode cX8_lettersTo 13 = .ok (.if_icmp .ge 35, 3) := by decide +kernel
theorem dX8_lettersTo_16 : decode cX8_lettersTo 16 = .ok (.iload_n 2, 1) := by decide +kernel
theorem dX8_lettersTo_17 : decode cX8_lettersTo 17 = .ok (.aload_n 0, 1) := by decide +kernel
theorem dX8_lettersTo_18 : decode cX8_lettersTo 18 = .ok (.getfield 28, 3) := by decide +kernel
theorem dX8_lettersTo_21 : decode cX8_lettersTo 21 = .ok (.iload_n 3, 1) := by decide +kernel
theorem dX8_lettersTo_22 : decode cX8_lettersTo 22 = .ok (.iaload, 1) := by decide +kernel
theorem dX8_lettersTo_23 : decode cX8_lettersTo 23 = .ok (.iload_n 1, 1) := by decide +kernel
theorem dX8_lettersTo_24 : decode cX8_lettersTo 24 = .ok (.if_icmp .ne 15, 3) := by decide +kernel
theorem dX8_lettersTo_27 : decode cX8_lettersTo 27 = .ok (.aload_n 0, 1) := by decide +kernel
theorem dX8_lettersTo_28 : decode cX8_lettersTo 28 = .ok (.iload_n 3, 1) := by decide +kernel
theorem dX8_lettersTo_29 : decode cX8_lettersTo 29 = .ok (.invokevirtual 95, 3) := by decide +kernel
theorem dX8_lettersTo_32 : decode cX8_lettersTo 32 = .ok (.ifCond .eq 7, 3) := by decide +kernel
theorem dX8_lettersTo_35 : decode cX8_lettersTo 35 = .ok (.iconst 1, 1) := by decide +kernel
theorem dX8_lettersTo_36 : decode cX8_lettersTo 36 = .ok (.goto 4, 3) := by decide +kernel
theorem dX8_lettersTo_39 : decode cX8_lettersTo 39 = .ok (.iconst 0, 1) := by decide +kernel
theorem dX8_lettersTo_40 : decode cX8_lettersTo 40 = .ok (.iadd, 1) := by decide +kernel
theorem dX8_lettersTo_41 : decode cX8_lettersTo 41 = .ok (.istore_n 2, 1) := by decide +kernel
theorem dX8_lettersTo_42 : decode cX8_lettersTo 42 = .ok (.iinc 3 1, 3) := by decide +kernel
theorem dX8_lettersTo_45 : decode cX8_lettersTo 45 = .ok (.goto (-37), 3) := by decide +kernel
theorem dX8_lettersTo_48 : decode cX8_lettersTo 48 = .ok (.iload_n 2, 1) := by decide +kernel
theorem dX8_lettersTo_49 : decode cX8_lettersTo 49 = .ok (.ireturn, 1) := by decide +kernel
set_option maxRecDepth 20000 in
theorem ggX8_layWays_X8_layLetters : GoodIn wsX8_layWays wsX8_layLetters := goodIn_r _ [9, 2, 10, 11, 12, 13, 14, 8, 15, 16, 17, 18, 19, 20, 21, 22, 23, 24, 25, 26, 27, 28, 29, 30, 3, 4, 31, 32, 33, 34, 39, 40, 41, 42, 43, 44, 45, 46, 47, 48, 49, 50, 51, 52, 53, 54, 55] (by decide +kernel) (by decide +kernel)
set_option maxRecDepth 20000 in
theorem gX8_layWays_X8_layLetters : GoodIn wsX8_layWays (wsV RX8 92 RX8 yX8_layLetters wsX8_layLetters) := goodIn_app (goodIn_of _ (by decide +kernel)) ggX8_layWays_X8_layLetters
set_option maxRecDepth 20000 in
theorem ggX8_layWays_X8_comes : GoodIn wsX8_layWays wsX8_comes := goodIn_r _ [38, 10, 3, 4, 20, 21, 8, 22, 39, 40, 41, 42, 43, 44, 45, 46, 47, 48, 49, 50, 51, 52, 53, 54, 55] (by decide +kernel) (by decide +kernel)
set_option maxRecDepth 20000 in
theorem gX8_layWays_X8_comes : GoodIn wsX8_layWays (wsV RX8 95 RX8 yX8_comes wsX8_comes) := goodIn_app (goodIn_of _ (by decide +kernel)) ggX8_layWays_X8_comes
theorem dX8_layWays_0 : decode cX8_layWays 0 = .ok (.aload_n 0, 1) := by decide +kernel
theorem dX8_layWays_1 : decode cX8_layWays 1 = .ok (.invokevirtual 92, 3) := by decide +kernel
theorem dX8_layWays_4 : decode cX8_layWays 4 = .ok (.iconst 0, 1) := by decide +kernel
theorem dX8_layWays_5 : decode cX8_layWays 5 = .ok (.istore_n 1, 1) := by decide +kernel
theorem dX8_layWays_6 : decode cX8_layWays 6 = .ok (.iload_n 1, 1) := by decide +kernel
theorem dX8_layWays_7 : decode cX8_layWays 7 = .ok (.bipush 9, 2) := by decide +kernel
theorem dX8_layWays_9 : decode cX8_layWays 9 = .ok (.if_icmp .ge 24, 3) := by decide +kernel
theorem dX8_layWays_12 : decode cX8_layWays 12 = .ok (.aload_n 0, 1) := by decide +kernel
theorem dX8_layWays_13 : decode cX8_layWays 13 = .ok (.getfield 31, 3) := by decide +kernel
theorem dX8_layWays_16 : decode cX8_layWays 16 = .ok (.iload_n 1, 1) := by decide +kernel
theorem dX8_layWays_17 : decode cX8_layWays 17 = .ok (.iload_n 1, 1) := by decide +kernel
theorem dX8_layWays_18 : decode cX8_layWays 18 = .ok (.ifCond .ne 7, 3) := by decide +kernel
theorem dX8_layWays_21 : decode cX8_layWays 21 = .ok (.iconst 1, 1) := by decide +kernel
theorem dX8_layWays_22 : decode cX8_layWays 22 = .ok (.goto 4, 3) := by decide +kernel
theorem dX8_layWays_25 : decode cX8_layWays 25 = .ok (.iconst 0, 1) := by decide +kernel
theorem dX8_layWays_26 : decode cX8_layWays 26 = .ok (.iastore, 1) := by decide +kernel
theorem dX8_layWays_27 : decode cX8_layWays 27 = .ok (.iinc 1 1, 3) := by decide +kernel
theorem dX8_layWays_30 : decode cX8_layWays 30 = .ok (.goto (-24), 3) := by decide +kernel
theorem dX8_layWays_33 : decode cX8_layWays 33 = .ok (.aload_n 0, 1) := by decide +kernel
theorem dX8_layWays_34 : decode cX8_layWays 34 = .ok (.getfield 77, 3) := by decide +kernel
theorem dX8_layWays_37 : decode cX8_layWays 37 = .ok (.iconst 1, 1) := by decide +kernel
theorem dX8_layWays_38 : decode cX8_layWays 38 = .ok (.isub, 1) := by decide +kernel
theorem dX8_layWays_39 : decode cX8_layWays 39 = .ok (.istore_n 1, 1) := by decide +kernel
theorem dX8_layWays_40 : decode cX8_layWays 40 = .ok (.iload_n 1, 1) := by decide +kernel
theorem dX8_layWays_41 : decode cX8_layWays 41 = .ok (.ifCond .lt 46, 3) := by decide +kernel
theorem dX8_layWays_44 : decode cX8_layWays 44 = .ok (.aload_n 0, 1) := by decide +kernel
theorem dX8_layWays_45 : decode cX8_layWays 45 = .ok (.getfield 31, 3) := by decide +kernel
theorem dX8_layWays_48 : decode cX8_layWays 48 = .ok (.aload_n 0, 1) := by decide +kernel
theorem dX8_layWays_49 : decode cX8_layWays 49 = .ok (.getfield 25, 3) := by decide +kernel
theorem dX8_layWays_52 : decode cX8_layWays 52 = .ok (.iload_n 1, 1) := by decide +kernel
theorem dX8_layWays_53 : decode cX8_layWays 53 = .ok (.iaload, 1) := by decide +kernel
theorem dX8_layWays_54 : decode cX8_layWays 54 = .ok (.dup2, 1) := by decide +kernel
theorem dX8_layWays_55 : decode cX8_layWays 55 = .ok (.iaload, 1) := by decide +kernel
theorem dX8_layWays_56 : decode cX8_layWays 56 = .ok (.aload_n 0, 1) := by decide +kernel
theorem dX8_layWays_57 : decode cX8_layWays 57 = .ok (.iload_n 1, 1) := by decide +kernel
theorem dX8_layWays_58 : decode cX8_layWays 58 = .ok (.invokevirtual 95, 3) := by decide +kernel
theorem dX8_layWays_61 : decode cX8_layWays 61 = .ok (.ifCond .eq 17, 3) := by decide +kernel
theorem dX8_layWays_64 : decode cX8_layWays 64 = .ok (.aload_n 0, 1) := by decide +kernel
theorem dX8_layWays_65 : decode cX8_layWays 65 = .ok (.getfield 31, 3) := by decide +kernel
theorem dX8_layWays_68 : decode cX8_layWays 68 = .ok (.aload_n 0, 1) := by decide +kernel
theorem dX8_layWays_69 : decode cX8_layWays 69 = .ok (.getfield 28, 3) := by decide +kernel
theorem dX8_layWays_72 : decode cX8_layWays 72 = .ok (.iload_n 1, 1) := by decide +kernel
theorem dX8_layWays_73 : decode cX8_layWays 73 = .ok (.iaload, 1) := by decide +kernel
theorem dX8_layWays_74 : decode cX8_layWays 74 = .ok (.iaload, 1) := by decide +kernel
theorem dX8_layWays_75 : decode cX8_layWays 75 = .ok (.goto 4, 3) := by decide +kernel
theorem dX8_layWays_78 : decode cX8_layWays 78 = .ok (.iconst 0, 1) := by decide +kernel
theorem dX8_layWays_79 : decode cX8_layWays 79 = .ok (.iadd, 1) := by decide +kernel
theorem dX8_layWays_80 : decode cX8_layWays 80 = .ok (.iastore, 1) := by decide +kernel
theorem dX8_layWays_81 : decode cX8_layWays 81 = .ok (.iinc 1 (-1), 3) := by decide +kernel
theorem dX8_layWays_84 : decode cX8_layWays 84 = .ok (.goto (-44), 3) := by decide +kernel
theorem dX8_layWays_87 : decode cX8_layWays 87 = .ok (.return_, 1) := by decide +kernel
set_option maxRecDepth 20000 in
theorem ggX8_comesSet_X8_layWays : GoodIn wsX8_comesSet wsX8_layWays := goodIn_r _ [7, 2, 8, 9, 10, 11, 12, 13, 6, 14, 1, 15, 16, 17, 18, 19, 20, 21, 22, 23, 24, 25, 26, 27, 28, 29, 30, 31, 32, 33, 34, 35, 36, 37, 38, 39, 40, 41, 42, 43, 44, 45, 46, 47, 48, 49, 50, 51, 52, 53, 54, 55, 56, 57, 58, 59] (by decide +kernel) (by decide +kernel)
set_option maxRecDepth 20000 in
theorem gX8_comesSet_X8_layWays : GoodIn wsX8_comesSet (wsV RX8 98 RX8 yX8_layWays wsX8_layWays) := goodIn_app (goodIn_of _ (by decide +kernel)) ggX8_comesSet_X8_layWays
theorem dX8_comesSet_0 : decode cX8_comesSet 0 = .ok (.aload_n 0, 1) := by decide +kernel
theorem dX8_comesSet_1 : decode cX8_comesSet 1 = .ok (.invokevirtual 98, 3) := by decide +kernel
theorem dX8_comesSet_4 : decode cX8_comesSet 4 = .ok (.iconst 0, 1) := by decide +kernel
theorem dX8_comesSet_5 : decode cX8_comesSet 5 = .ok (.istore_n 1, 1) := by decide +kernel
theorem dX8_comesSet_6 : decode cX8_comesSet 6 = .ok (.iconst 0, 1) := by decide +kernel
theorem dX8_comesSet_7 : decode cX8_comesSet 7 = .ok (.istore_n 2, 1) := by decide +kernel
theorem dX8_comesSet_8 : decode cX8_comesSet 8 = .ok (.iload_n 2, 1) := by decide +kernel
theorem dX8_comesSet_9 : decode cX8_comesSet 9 = .ok (.aload_n 0, 1) := by decide +kernel
theorem dX8_comesSet_10 : decode cX8_comesSet 10 = .ok (.getfield 9, 3) := by decide +kernel
theorem dX8_comesSet_13 : decode cX8_comesSet 13 = .ok (.iconst 0, 1) := by decide +kernel
theorem dX8_comesSet_14 : decode cX8_comesSet 14 = .ok (.iaload, 1) := by decide +kernel
theorem dX8_comesSet_15 : decode cX8_comesSet 15 = .ok (.if_icmp .ge 28, 3) := by decide +kernel
theorem dX8_comesSet_18 : decode cX8_comesSet 18 = .ok (.iload_n 1, 1) := by decide +kernel
theorem dX8_comesSet_19 : decode cX8_comesSet 19 = .ok (.aload_n 0, 1) := by decide +kernel
theorem dX8_comesSet_20 : decode cX8_comesSet 20 = .ok (.getfield 31, 3) := by decide +kernel
theorem dX8_comesSet_23 : decode cX8_comesSet 23 = .ok (.iload_n 2, 1) := by decide +kernel
theorem dX8_comesSet_24 : decode cX8_comesSet 24 = .ok (.iaload, 1) := by decide +kernel
theorem dX8_comesSet_25 : decode cX8_comesSet 25 = .ok (.ifCond .le 9, 3) := by decide +kernel
theorem dX8_comesSet_28 : decode cX8_comesSet 28 = .ok (.iconst 1, 1) := by decide +kernel
theorem dX8_comesSet_29 : decode cX8_comesSet 29 = .ok (.iload_n 2, 1) := by decide +kernel
theorem dX8_comesSet_30 : decode cX8_comesSet 30 = .ok (.ishl, 1) := by decide +kernel
theorem dX8_comesSet_31 : decode cX8_comesSet 31 = .ok (.goto 4, 3) := by decide +kernel
theorem dX8_comesSet_34 : decode cX8_comesSet 34 = .ok (.iconst 0, 1) := by decide +kernel
theorem dX8_comesSet_35 : decode cX8_comesSet 35 = .ok (.ior, 1) := by decide +kernel
theorem dX8_comesSet_36 : decode cX8_comesSet 36 = .ok (.istore_n 1, 1) := by decide +kernel
theorem dX8_comesSet_37 : decode cX8_comesSet 37 = .ok (.iinc 2 1, 3) := by decide +kernel
theorem dX8_comesSet_40 : decode cX8_comesSet 40 = .ok (.goto (-32), 3) := by decide +kernel
theorem dX8_comesSet_43 : decode cX8_comesSet 43 = .ok (.iload_n 1, 1) := by decide +kernel
theorem dX8_comesSet_44 : decode cX8_comesSet 44 = .ok (.ireturn, 1) := by decide +kernel
theorem dX8_unpack_0 : decode cX8_unpack 0 = .ok (.aload_n 0, 1) := by decide +kernel
theorem dX8_unpack_1 : decode cX8_unpack 1 = .ok (.getfield 38, 3) := by decide +kernel
theorem dX8_unpack_4 : decode cX8_unpack 4 = .ok (.iload_n 3, 1) := by decide +kernel
theorem dX8_unpack_5 : decode cX8_unpack 5 = .ok (.lload_n 1, 1) := by decide +kernel
theorem dX8_unpack_6 : decode cX8_unpack 6 = .ok (.ldc2_w 101, 3) := by decide +kernel
theorem dX8_unpack_9 : decode cX8_unpack 9 = .ok (.lrem, 1) := by decide +kernel
theorem dX8_unpack_10 : decode cX8_unpack 10 = .ok (.l2i, 1) := by decide +kernel
theorem dX8_unpack_11 : decode cX8_unpack 11 = .ok (.iastore, 1) := by decide +kernel
theorem dX8_unpack_12 : decode cX8_unpack 12 = .ok (.aload_n 0, 1) := by decide +kernel
theorem dX8_unpack_13 : decode cX8_unpack 13 = .ok (.getfield 38, 3) := by decide +kernel
theorem dX8_unpack_16 : decode cX8_unpack 16 = .ok (.iload_n 3, 1) := by decide +kernel
theorem dX8_unpack_17 : decode cX8_unpack 17 = .ok (.iconst 1, 1) := by decide +kernel
theorem dX8_unpack_18 : decode cX8_unpack 18 = .ok (.iadd, 1) := by decide +kernel
theorem dX8_unpack_19 : decode cX8_unpack 19 = .ok (.lload_n 1, 1) := by decide +kernel
theorem dX8_unpack_20 : decode cX8_unpack 20 = .ok (.ldc2_w 101, 3) := by decide +kernel
theorem dX8_unpack_23 : decode cX8_unpack 23 = .ok (.ldiv, 1) := by decide +kernel
theorem dX8_unpack_24 : decode cX8_unpack 24 = .ok (.ldc2_w 101, 3) := by decide +kernel
theorem dX8_unpack_27 : decode cX8_unpack 27 = .ok (.lrem, 1) := by decide +kernel
theorem dX8_unpack_28 : decode cX8_unpack 28 = .ok (.l2i, 1) := by decide +kernel
theorem dX8_unpack_29 : decode cX8_unpack 29 = .ok (.iastore, 1) := by decide +kernel
theorem dX8_unpack_30 : decode cX8_unpack 30 = .ok (.aload_n 0, 1) := by decide +kernel
theorem dX8_unpack_31 : decode cX8_unpack 31 = .ok (.getfield 38, 3) := by decide +kernel
theorem dX8_unpack_34 : decode cX8_unpack 34 = .ok (.iload_n 3, 1) := by decide +kernel
theorem dX8_unpack_35 : decode cX8_unpack 35 = .ok (.iconst 2, 1) := by decide +kernel
theorem dX8_unpack_36 : decode cX8_unpack 36 = .ok (.iadd, 1) := by decide +kernel
theorem dX8_unpack_37 : decode cX8_unpack 37 = .ok (.lload_n 1, 1) := by decide +kernel
theorem dX8_unpack_38 : decode cX8_unpack 38 = .ok (.ldc2_w 103, 3) := by decide +kernel
theorem dX8_unpack_41 : decode cX8_unpack 41 = .ok (.ldiv, 1) := by decide +kernel
theorem dX8_unpack_42 : decode cX8_unpack 42 = .ok (.l2i, 1) := by decide +kernel
theorem dX8_unpack_43 : decode cX8_unpack 43 = .ok (.iastore, 1) := by decide +kernel
theorem dX8_unpack_44 : decode cX8_unpack 44 = .ok (.return_, 1) := by decide +kernel
theorem dX8_leastAbove_0 : decode cX8_leastAbove 0 = .ok (.sipush 1024, 3) := by decide +kernel
theorem dX8_leastAbove_3 : decode cX8_leastAbove 3 = .ok (.istore_n 2, 1) := by decide +kernel
theorem dX8_leastAbove_4 : decode cX8_leastAbove 4 = .ok (.iconst 0, 1) := by decide +kernel
theorem dX8_leastAbove_5 : decode cX8_leastAbove 5 = .ok (.istore_n 3, 1) := by decide +kernel
theorem dX8_leastAbove_6 : decode cX8_leastAbove 6 = .ok (.iload_n 3, 1) := by decide +kernel
theorem dX8_leastAbove_7 : decode cX8_leastAbove 7 = .ok (.bipush 6, 2) := by decide +kernel
theorem dX8_leastAbove_9 : decode cX8_leastAbove 9 = .ok (.if_icmp .ge 40, 3) := by decide +kernel
theorem dX8_leastAbove_12 : decode cX8_leastAbove 12 = .ok (.aload_n 0, 1) := by decide +kernel
theorem dX8_leastAbove_13 : decode cX8_leastAbove 13 = .ok (.getfield 38, 3) := by decide +kernel
theorem dX8_leastAbove_16 : decode cX8_leastAbove 16 = .ok (.iload_n 3, 1) := by decide +kernel
theorem dX8_leastAbove_17 : decode cX8_leastAbove 17 = .ok (.iaload, 1) := by decide +kernel
theorem dX8_leastAbove_18 : decode cX8_leastAbove 18 = .ok (.iload_n 1, 1) := by decide +kernel
theorem dX8_leastAbove_19 : decode cX8_leastAbove 19 = .ok (.if_icmp .le 22, 3) := by decide +kernel
theorem dX8_leastAbove_22 : decode cX8_leastAbove 22 = .ok (.aload_n 0, 1) := by decide +kernel
theorem dX8_leastAbove_23 : decode cX8_leastAbove 23 = .ok (.getfield 38, 3) := by decide +kernel
theorem dX8_leastAbove_26 : decode cX8_leastAbove 26 = .ok (.iload_n 3, 1) := by decide +kernel
theorem dX8_leastAbove_27 : decode cX8_leastAbove 27 = .ok (.iaload, 1) := by decide +kernel
theorem dX8_leastAbove_28 : decode cX8_leastAbove 28 = .ok (.iload_n 2, 1) := by decide +kernel
theorem dX8_leastAbove_29 : decode cX8_leastAbove 29 = .ok (.if_icmp .ge 12, 3) := by decide +kernel
theorem dX8_leastAbove_32 : decode cX8_leastAbove 32 = .ok (.aload_n 0, 1) := by decide +kernel
theorem dX8_leastAbove_33 : decode cX8_leastAbove 33 = .ok (.getfield 38, 3) := by decide +kernel
theorem dX8_leastAbove_36 : decode cX8_leastAbove 36 = .ok (.iload_n 3, 1) := by decide +kernel
theorem dX8_leastAbove_37 : decode cX8_leastAbove 37 = .ok (.iaload, 1) := by decide +kernel
theorem dX8_leastAbove_38 : decode cX8_leastAbove 38 = .ok (.goto 4, 3) := by decide +kernel
theorem dX8_leastAbove_41 : decode cX8_leastAbove 41 = .ok (.iload_n 2, 1) := by decide +kernel
theorem dX8_leastAbove_42 : decode cX8_leastAbove 42 = .ok (.istore_n 2, 1) := by decide +kernel
theorem dX8_leastAbove_43 : decode cX8_leastAbove 43 = .ok (.iinc 3 1, 3) := by decide +kernel
theorem dX8_leastAbove_46 : decode cX8_leastAbove 46 = .ok (.goto (-40), 3) := by decide +kernel
theorem dX8_leastAbove_49 : decode cX8_leastAbove 49 = .ok (.iload_n 2, 1) := by decide +kernel
theorem dX8_leastAbove_50 : decode cX8_leastAbove 50 = .ok (.ireturn, 1) := by decide +kernel
set_option maxRecDepth 20000 in
theorem ggX8_threeOf_X8_unpack : GoodIn wsX8_threeOf wsX8_unpack := goodIn_r _ [7, 8, 1, 2, 13, 14, 15, 16, 17, 18, 19, 20, 21, 22, 23, 24, 25, 26, 27, 28, 29] (by decide +kernel) (by decide +kernel)
set_option maxRecDepth 20000 in
theorem gX8_threeOf_X8_unpack : GoodIn wsX8_threeOf (wsV RX8 105 RX8 yX8_unpack wsX8_unpack) := goodIn_app (goodIn_of _ (by decide +kernel)) ggX8_threeOf_X8_unpack
set_option maxRecDepth 20000 in
theorem ggX8_threeOf_X8_leastAbove : GoodIn wsX8_threeOf wsX8_leastAbove := goodIn_r _ [12, 8, 13, 14, 15, 16, 17, 18, 19, 20, 21, 22, 23, 24, 25, 26, 27, 28, 29] (by decide +kernel) (by decide +kernel)
set_option maxRecDepth 20000 in
theorem gX8_threeOf_X8_leastAbove : GoodIn wsX8_threeOf (wsV RX8 109 RX8 yX8_leastAbove wsX8_leastAbove) := goodIn_app (goodIn_of _ (by decide +kernel)) ggX8_threeOf_X8_leastAbove
theorem dX8_threeOf_0 : decode cX8_threeOf 0 = .ok (.aload_n 0, 1) := by decide +kernel
theorem dX8_threeOf_1 : decode cX8_threeOf 1 = .ok (.lload_n 1, 1) := by decide +kernel
theorem dX8_threeOf_2 : decode cX8_threeOf 2 = .ok (.iconst 0, 1) := by decide +kernel
theorem dX8_threeOf_3 : decode cX8_threeOf 3 = .ok (.invokevirtual 105, 3) := by decide +kernel
theorem dX8_threeOf_6 : decode cX8_threeOf 6 = .ok (.aload_n 0, 1) := by decide +kernel
theorem dX8_threeOf_7 : decode cX8_threeOf 7 = .ok (.lload_n 3, 1) := by decide +kernel
theorem dX8_threeOf_8 : decode cX8_threeOf 8 = .ok (.iconst 3, 1) := by decide +kernel
theorem dX8_threeOf_9 : decode cX8_threeOf 9 = .ok (.invokevirtual 105, 3) := by decide +kernel
theorem dX8_threeOf_12 : decode cX8_threeOf 12 = .ok (.aload_n 0, 1) := by decide +kernel
theorem dX8_threeOf_13 : decode cX8_threeOf 13 = .ok (.iconst (-1), 1) := by decide +kernel
theorem dX8_threeOf_14 : decode cX8_threeOf 14 = .ok (.invokevirtual 109, 3) := by decide +kernel
theorem dX8_threeOf_17 : decode cX8_threeOf 17 = .ok (.istore 5, 2) := by decide +kernel
theorem dX8_threeOf_19 : decode cX8_threeOf 19 = .ok (.aload_n 0, 1) := by decide +kernel
theorem dX8_threeOf_20 : decode cX8_threeOf 20 = .ok (.iload 5, 2) := by decide +kernel
theorem dX8_threeOf_22 : decode cX8_threeOf 22 = .ok (.invokevirtual 109, 3) := by decide +kernel
theorem dX8_threeOf_25 : decode cX8_threeOf 25 = .ok (.istore 6, 2) := by decide +kernel
theorem dX8_threeOf_27 : decode cX8_threeOf 27 = .ok (.aload_n 0, 1) := by decide +kernel
theorem dX8_threeOf_28 : decode cX8_threeOf 28 = .ok (.iload 6, 2) := by decide +kernel
theorem dX8_threeOf_30 : decode cX8_threeOf 30 = .ok (.invokevirtual 109, 3) := by decide +kernel
theorem dX8_threeOf_33 : decode cX8_threeOf 33 = .ok (.istore 7, 2) := by decide +kernel
theorem dX8_threeOf_35 : decode cX8_threeOf 35 = .ok (.iload 5, 2) := by decide +kernel
theorem dX8_threeOf_37 : decode cX8_threeOf 37 = .ok (.i2l, 1) := by decide +kernel
theorem dX8_threeOf_38 : decode cX8_threeOf 38 = .ok (.ldc2_w 101, 3) := by decide +kernel
theorem dX8_threeOf_41 : decode cX8_threeOf 41 = .ok (.iload 6, 2) := by decide +kernel
theorem dX8_threeOf_43 : decode cX8_threeOf 43 = .ok (.i2l, 1) := by decide +kernel
theorem dX8_threeOf_44 : decode cX8_threeOf 44 = .ok (.lmul, 1) := by decide +kernel
theorem dX8_threeOf_45 : decode cX8_threeOf 45 = .ok (.ladd, 1) := by decide +kernel
theorem dX8_threeOf_46 : decode cX8_threeOf 46 = .ok (.ldc2_w 103, 3) := by decide +kernel
theorem dX8_threeOf_49 : decode cX8_threeOf 49 = .ok (.iload 7, 2) := by decide +kernel
theorem dX8_threeOf_51 : decode cX8_threeOf 51 = .ok (.i2l, 1) := by decide +kernel
theorem dX8_threeOf_52 : decode cX8_threeOf 52 = .ok (.lmul, 1) := by decide +kernel
theorem dX8_threeOf_53 : decode cX8_threeOf 53 = .ok (.ladd, 1) := by decide +kernel
theorem dX8_threeOf_54 : decode cX8_threeOf 54 = .ok (.lreturn, 1) := by decide +kernel
set_option maxRecDepth 20000 in
theorem ggX8_threeOfItem_X8_markOf : GoodIn wsX8_threeOfItem wsX8_markOf := goodIn_r _ [7, 8, 9, 10, 11, 12, 13, 14, 15, 16, 17, 18, 19, 20, 21, 22, 23, 24, 25, 26, 27, 28, 29] (by decide +kernel) (by decide +kernel)
set_option maxRecDepth 20000 in
theorem gX8_threeOfItem_X8_markOf : GoodIn wsX8_threeOfItem (wsV RX8 67 RX8 yX8_markOf wsX8_markOf) := goodIn_app (goodIn_of _ (by decide +kernel)) ggX8_threeOfItem_X8_markOf
theorem dX8_threeOfItem_0 : decode cX8_threeOfItem 0 = .ok (.aload_n 0, 1) := by decide +kernel
theorem dX8_threeOfItem_1 : decode cX8_threeOfItem 1 = .ok (.iload_n 1, 1) := by decide +kernel
theorem dX8_threeOfItem_2 : decode cX8_threeOfItem 2 = .ok (.invokevirtual 67, 3) := by decide +kernel
theorem dX8_threeOfItem_5 : decode cX8_threeOfItem 5 = .ok (.i2l, 1) := by decide +kernel
theorem dX8_threeOfItem_6 : decode cX8_threeOfItem 6 = .ok (.ldc2_w 112, 3) := by decide +kernel
theorem dX8_threeOfItem_9 : decode cX8_threeOfItem 9 = .ok (.ladd, 1) := by decide +kernel
theorem dX8_threeOfItem_10 : decode cX8_threeOfItem 10 = .ok (.ldc2_w 114, 3) := by decide +kernel
theorem dX8_threeOfItem_13 : decode cX8_threeOfItem 13 = .ok (.ladd, 1) := by decide +kernel
theorem dX8_threeOfItem_14 : decode cX8_threeOfItem 14 = .ok (.lreturn, 1) := by decide +kernel
set_option maxRecDepth 20000 in
theorem ggX8_both_X8_threeOf : GoodIn wsX8_both wsX8_threeOf := goodIn_r _ [5, 6, 7, 8, 9, 10, 4, 11, 12, 13, 14, 15, 16, 17, 18, 19, 20, 21, 22, 23, 24, 25, 26, 27, 28, 29, 30, 31, 32, 33] (by decide +kernel) (by decide +kernel)
set_option maxRecDepth 20000 in
theorem gX8_both_X8_threeOf : GoodIn wsX8_both (wsV RX8 116 RX8 yX8_threeOf wsX8_threeOf) := goodIn_app (goodIn_of _ (by decide +kernel)) ggX8_both_X8_threeOf
theorem dX8_both_0 : decode cX8_both 0 = .ok (.iload_n 1, 1) := by decide +kernel
theorem dX8_both_1 : decode cX8_both 1 = .ok (.ifCond .ne 10, 3) := by decide +kernel
theorem dX8_both_4 : decode cX8_both 4 = .ok (.lload_n 2, 1) := by decide +kernel
theorem dX8_both_5 : decode cX8_both 5 = .ok (.lload 4, 2) := by decide +kernel
theorem dX8_both_7 : decode cX8_both 7 = .ok (.ladd, 1) := by decide +kernel
theorem dX8_both_8 : decode cX8_both 8 = .ok (.goto 22, 3) := by decide +kernel
theorem dX8_both_11 : decode cX8_both 11 = .ok (.iload_n 1, 1) := by decide +kernel
theorem dX8_both_12 : decode cX8_both 12 = .ok (.iconst 2, 1) := by decide +kernel
theorem dX8_both_13 : decode cX8_both 13 = .ok (.if_icmp .ne 13, 3) := by decide +kernel
theorem dX8_both_16 : decode cX8_both 16 = .ok (.aload_n 0, 1) := by decide +kernel
theorem dX8_both_17 : decode cX8_both 17 = .ok (.lload_n 2, 1) := by decide +kernel
theorem dX8_both_18 : decode cX8_both 18 = .ok (.lload 4, 2) := by decide +kernel
theorem dX8_both_20 : decode cX8_both 20 = .ok (.invokevirtual 116, 3) := by decide +kernel
theorem dX8_both_23 : decode cX8_both 23 = .ok (.goto 7, 3) := by decide +kernel
theorem dX8_both_26 : decode cX8_both 26 = .ok (.lload_n 2, 1) := by decide +kernel
theorem dX8_both_27 : decode cX8_both 27 = .ok (.lload 4, 2) := by decide +kernel
theorem dX8_both_29 : decode cX8_both 29 = .ok (.lor, 1) := by decide +kernel
theorem dX8_both_30 : decode cX8_both 30 = .ok (.lreturn, 1) := by decide +kernel
set_option maxRecDepth 20000 in
theorem ggX8_summary_X8_has : GoodIn wsX8_summary wsX8_has := goodIn_r _ [5] (by decide +kernel) (by decide +kernel)
set_option maxRecDepth 20000 in
theorem gX8_summary_X8_has : GoodIn wsX8_summary (va_wsS RX8 55 yX8_has wsX8_has) := goodIn_app (goodIn_of _ (by decide +kernel)) ggX8_summary_X8_has
set_option maxRecDepth 20000 in
theorem ggX8_summary_X8_rankOf : GoodIn wsX8_summary wsX8_rankOf := goodIn_r _ [9, 10, 11, 12, 4, 13, 14, 15, 16, 17, 18, 44, 45, 46, 47, 48, 49, 50, 51, 52, 53, 54, 55, 56, 57, 58, 59, 60] (by decide +kernel) (by decide +kernel)
set_option maxRecDepth 20000 in
theorem gX8_summary_X8_rankOf : GoodIn wsX8_summary (wsV RX8 122 RX8 yX8_rankOf wsX8_rankOf) := goodIn_app (goodIn_of _ (by decide +kernel)) ggX8_summary_X8_rankOf
set_option maxRecDepth 20000 in
theorem ggX8_summary_X8_threeOfItem : GoodIn wsX8_summary wsX8_threeOfItem := goodIn_r _ [22, 23, 24, 10, 11, 12, 4, 13, 14, 15, 16, 17, 18, 44, 45, 46, 47, 48, 49, 50, 51, 52, 53, 54, 55, 56, 57, 58, 59, 60] (by decide +kernel) (by decide +kernel)
set_option maxRecDepth 20000 in
theorem gX8_summary_X8_threeOfItem : GoodIn wsX8_summary (wsV RX8 125 RX8 yX8_threeOfItem wsX8_threeOfItem) := goodIn_app (goodIn_of _ (by decide +kernel)) ggX8_summary_X8_threeOfItem
set_option maxRecDepth 20000 in
theorem ggX8_summary_X8_both : GoodIn wsX8_summary wsX8_both := goodIn_r _ [28, 29, 30, 31, 4, 32, 33, 34, 35, 36, 37, 38, 39, 40, 41, 42, 43, 44, 45, 46, 47, 48, 49, 50, 51, 52, 53, 54, 55, 56, 57, 58, 59, 60] (by decide +kernel) (by decide +kernel)
set_option maxRecDepth 20000 in
theorem gX8_summary_X8_both : GoodIn wsX8_summary (wsV RX8 129 RX8 yX8_both wsX8_both) := goodIn_app (goodIn_of _ (by decide +kernel)) ggX8_summary_X8_both
theorem dX8_summary_0 : decode cX8_summary 0 = .ok (.iload_n 1, 1) := by decide +kernel
theorem dX8_summary_1 : decode cX8_summary 1 = .ok (.iconst 2, 1) := by decide +kernel
theorem dX8_summary_2 : decode cX8_summary 2 = .ok (.if_icmp .ne 9, 3) := by decide +kernel
theorem dX8_summary_5 : decode cX8_summary 5 = .ok (.ldc2_w 120, 3) := by decide +kernel
theorem dX8_summary_8 : decode cX8_summary 8 = .ok (.goto 4, 3) := by decide +kernel
theorem dX8_summary_11 : decode cX8_summary 11 = .ok (.lconst 0, 1) := by decide +kernel
theorem dX8_summary_12 : decode cX8_summary 12 = .ok (.lstore_n 3, 1) := by decide +kernel
theorem dX8_summary_13 : decode cX8_summary 13 = .ok (.iconst 0, 1) := by decide +kernel
theorem dX8_summary_14 : decode cX8_summary 14 = .ok (.istore 5, 2) := by decide +kernel
theorem dX8_summary_16 : decode cX8_summary 16 = .ok (.iload 5, 2) := by decide +kernel
theorem dX8_summary_18 : decode cX8_summary 18 = .ok (.bipush 16, 2) := by decide +kernel
theorem dX8_summary_20 : decode cX8_summary 20 = .ok (.if_icmp .ge 71, 3) := by decide +kernel
theorem dX8_summary_23 : decode cX8_summary 23 = .ok (.iload_n 2, 1) := by decide +kernel
theorem dX8_summary_24 : decode cX8_summary 24 = .ok (.iload 5, 2) := by decide +kernel
theorem dX8_summary_26 : decode cX8_summary 26 = .ok (.invokestatic 55, 3) := by decide +kernel
theorem dX8_summary_29 : decode cX8_summary 29 = .ok (.ifCond .eq 56, 3) := by decide +kernel
theorem dX8_summary_32 : decode cX8_summary 32 = .ok (.iload_n 1, 1) := by decide +kernel
theorem dX8_summary_33 : decode cX8_summary 33 = .ok (.ifCond .ne 7, 3) := by decide +kernel
theorem dX8_summary_36 : decode cX8_summary 36 = .ok (.lconst 1, 1) := by decide +kernel
theorem dX8_summary_37 : decode cX8_summary 37 = .ok (.goto 37, 3) := by decide +kernel
theorem dX8_summary_40 : decode cX8_summary 40 = .ok (.iload_n 1, 1) := by decide +kernel
theorem dX8_summary_41 : decode cX8_summary 41 = .ok (.iconst 1, 1) := by decide +kernel
theorem dX8_summary_42 : decode cX8_summary 42 = .ok (.if_icmp .ne 14, 3) := by decide +kernel
theorem dX8_summary_45 : decode cX8_summary 45 = .ok (.lconst 1, 1) := by decide +kernel
theorem dX8_summary_46 : decode cX8_summary 46 = .ok (.aload_n 0, 1) := by decide +kernel
theorem dX8_summary_47 : decode cX8_summary 47 = .ok (.iload 5, 2) := by decide +kernel
theorem dX8_summary_49 : decode cX8_summary 49 = .ok (.invokevirtual 122, 3) := by decide +kernel
theorem dX8_summary_52 : decode cX8_summary 52 = .ok (.lshl, 1) := by decide +kernel
theorem dX8_summary_53 : decode cX8_summary 53 = .ok (.goto 21, 3) := by decide +kernel
theorem dX8_summary_56 : decode cX8_summary 56 = .ok (.iload_n 1, 1) := by decide +kernel
theorem dX8_summary_57 : decode cX8_summary 57 = .ok (.iconst 2, 1) := by decide +kernel
theorem dX8_summary_58 : decode cX8_summary 58 = .ok (.if_icmp .ne 12, 3) := by decide +kernel
theorem dX8_summary_61 : decode cX8_summary 61 = .ok (.aload_n 0, 1) := by decide +kernel
theorem dX8_summary_62 : decode cX8_summary 62 = .ok (.iload 5, 2) := by decide +kernel
theorem dX8_summary_64 : decode cX8_summary 64 = .ok (.invokevirtual 125, 3) := by decide +kernel
theorem dX8_summary_67 : decode cX8_summary 67 = .ok (.goto 7, 3) := by decide +kernel
theorem dX8_summary_70 : decode cX8_summary 70 = .ok (.lconst 1, 1) := by decide +kernel
theorem dX8_summary_71 : decode cX8_summary 71 = .ok (.iload 5, 2) := by decide +kernel
theorem dX8_summary_73 : decode cX8_summary 73 = .ok (.lshl, 1) := by decide +kernel
theorem dX8_summary_74 : decode cX8_summary 74 = .ok (.lstore 6, 2) := by decide +kernel
theorem dX8_summary_76 : decode cX8_summary 76 = .ok (.aload_n 0, 1) := by decide +kernel
theorem dX8_summary_77 : decode cX8_summary 77 = .ok (.iload_n 1, 1) := by decide +kernel
theorem dX8_summary_78 : decode cX8_summary 78 = .ok (.lload_n 3, 1) := by decide +kernel
theorem dX8_summary_79 : decode cX8_summary 79 = .ok (.lload 6, 2) := by decide +kernel
theorem dX8_summary_81 : decode cX8_summary 81 = .ok (.invokevirtual 129, 3) := by decide +kernel
theorem dX8_summary_84 : decode cX8_summary 84 = .ok (.lstore_n 3, 1) := by decide +kernel
theorem dX8_summary_85 : decode cX8_summary 85 = .ok (.iinc 5 1, 3) := by decide +kernel
theorem dX8_summary_88 : decode cX8_summary 88 = .ok (.goto (-72), 3) := by decide +kernel
theorem dX8_summary_91 : decode cX8_summary 91 = .ok (.lload_n 3, 1) := by decide +kernel
theorem dX8_summary_92 : decode cX8_summary 92 = .ok (.lreturn, 1) := by decide +kernel
set_option maxRecDepth 20000 in
theorem ggX8_layHeld_X8_layLetters : GoodIn wsX8_layHeld wsX8_layLetters := goodIn_r _ [10, 3, 1, 11, 12, 13, 14, 9, 15, 16, 17, 18, 19, 20, 21, 22, 23, 24, 25, 26, 27, 28, 29, 30, 5, 4, 31, 32, 33, 34, 81, 82, 83, 84, 85, 86, 87, 88, 89, 90, 91, 92, 93, 94, 95, 96, 97] (by decide +kernel) (by decide +kernel)
set_option maxRecDepth 20000 in
theorem gX8_layHeld_X8_layLetters : GoodIn wsX8_layHeld (wsV RX8 92 RX8 yX8_layLetters wsX8_layLetters) := goodIn_app (goodIn_of _ (by decide +kernel)) ggX8_layHeld_X8_layLetters
set_option maxRecDepth 20000 in
theorem ggX8_layHeld_X8_summary : GoodIn wsX8_layHeld wsX8_summary := goodIn_r _ [38, 39, 20, 21, 9, 22, 40, 41, 42, 43, 44, 45, 46, 47, 48, 1, 49, 50, 51, 52, 53, 54, 55, 56, 57, 58, 59, 60, 61, 62, 63, 64, 65, 66, 67, 68, 69, 70, 71, 72, 73, 74, 75, 76, 81, 82, 83, 84, 85, 86, 87, 88, 89, 90, 91, 92, 93, 94, 95, 96, 97] (by decide +kernel) (by decide +kernel)
set_option maxRecDepth 20000 in
theorem gX8_layHeld_X8_summary : GoodIn wsX8_layHeld (wsV RX8 133 RX8 yX8_summary wsX8_summary) := goodIn_app (goodIn_of _ (by decide +kernel)) ggX8_layHeld_X8_summary
set_option maxRecDepth 20000 in
theorem ggX8_layHeld_X8_comes : GoodIn wsX8_layHeld wsX8_comes := goodIn_r _ [80, 1, 5, 4, 20, 21, 9, 22, 81, 82, 83, 84, 85, 86, 87, 88, 89, 90, 91, 92, 93, 94, 95, 96, 97] (by decide +kernel) (by decide +kernel)
set_option maxRecDepth 20000 in
theorem gX8_layHeld_X8_comes : GoodIn wsX8_layHeld (wsV RX8 95 RX8 yX8_comes wsX8_comes) := goodIn_app (goodIn_of _ (by decide +kernel)) ggX8_layHeld_X8_comes
set_option maxRecDepth 20000 in
theorem ggX8_layHeld_X8_both : GoodIn wsX8_layHeld wsX8_both := goodIn_r _ [61, 62, 63, 64, 9, 65, 66, 67, 68, 69, 70, 71, 72, 73, 74, 75, 76, 81, 82, 83, 84, 85, 86, 87, 88, 89, 90, 91, 92, 93, 94, 95, 96, 97] (by decide +kernel) (by decide +kernel)
set_option maxRecDepth 20000 in
theorem gX8_layHeld_X8_both : GoodIn wsX8_layHeld (wsV RX8 129 RX8 yX8_both wsX8_both) := goodIn_app (goodIn_of _ (by decide +kernel)) ggX8_layHeld_X8_both
theorem dX8_layHeld_0 : decode cX8_layHeld 0 = .ok (.aload_n 0, 1) := by decide +kernel
theorem dX8_layHeld_1 : decode cX8_layHeld 1 = .ok (.invokevirtual 92, 3) := by decide +kernel
theorem dX8_layHeld_4 : decode cX8_layHeld 4 = .ok (.iconst 0, 1) := by decide +kernel
theorem dX8_layHeld_5 : decode cX8_layHeld 5 = .ok (.istore_n 2, 1) := by decide +kernel
theorem dX8_layHeld_6 : decode cX8_layHeld 6 = .ok (.iload_n 2, 1) := by decide +kernel
theorem dX8_layHeld_7 : decode cX8_layHeld 7 = .ok (.aload_n 0, 1) := by decide +kernel
theorem dX8_layHeld_8 : decode cX8_layHeld 8 = .ok (.getfield 9, 3) := by decide +kernel
theorem dX8_layHeld_11 : decode cX8_layHeld 11 = .ok (.iconst 0, 1) := by decide +kernel
theorem dX8_layHeld_12 : decode cX8_layHeld 12 = .ok (.iaload, 1) := by decide +kernel
theorem dX8_layHeld_13 : decode cX8_layHeld 13 = .ok (.if_icmp .ge 29, 3) := by decide +kernel
theorem dX8_layHeld_16 : decode cX8_layHeld 16 = .ok (.aload_n 0, 1) := by decide +kernel
theorem dX8_layHeld_17 : decode cX8_layHeld 17 = .ok (.getfield 34, 3) := by decide +kernel
theorem dX8_layHeld_20 : decode cX8_layHeld 20 = .ok (.iload_n 2, 1) := by decide +kernel
theorem dX8_layHeld_21 : decode cX8_layHeld 21 = .ok (.aload_n 0, 1) := by decide +kernel
theorem dX8_layHeld_22 : decode cX8_layHeld 22 = .ok (.iload_n 1, 1) := by decide +kernel
theorem dX8_layHeld_23 : decode cX8_layHeld 23 = .ok (.aload_n 0, 1) := by decide +kernel
theorem dX8_layHeld_24 : decode cX8_layHeld 24 = .ok (.getfield 9, 3) := by decide +kernel
theorem dX8_layHeld_27 : decode cX8_layHeld 27 = .ok (.bipush 21, 2) := by decide +kernel
theorem dX8_layHeld_29 : decode cX8_layHeld 29 = .ok (.iload_n 2, 1) := by decide +kernel
theorem dX8_layHeld_30 : decode cX8_layHeld 30 = .ok (.iadd, 1) := by decide +kernel
theorem dX8_layHeld_31 : decode cX8_layHeld 31 = .ok (.iaload, 1) := by decide +kernel
theorem dX8_layHeld_32 : decode cX8_layHeld 32 = .ok (.invokevirtual 133, 3) := by decide +kernel
theorem dX8_layHeld_35 : decode cX8_layHeld 35 = .ok (.lastore, 1) := by decide +kernel
theorem dX8_layHeld_36 : decode cX8_layHeld 36 = .ok (.iinc 2 1, 3) := by decide +kernel
theorem dX8_layHeld_39 : decode cX8_layHeld 39 = .ok (.goto (-33), 3) := by decide +kernel
theorem dX8_layHeld_42 : decode cX8_layHeld 42 = .ok (.iconst 0, 1) := by decide +kernel
theorem dX8_layHeld_43 : decode cX8_layHeld 43 = .ok (.istore_n 2, 1) := by decide +kernel
theorem dX8_layHeld_44 : decode cX8_layHeld 44 = .ok (.iload_n 2, 1) := by decide +kernel
theorem dX8_layHeld_45 : decode cX8_layHeld 45 = .ok (.aload_n 0, 1) := by decide +kernel
theorem dX8_layHeld_46 : decode cX8_layHeld 46 = .ok (.getfield 77, 3) := by decide +kernel
theorem dX8_layHeld_49 : decode cX8_layHeld 49 = .ok (.if_icmp .ge 69, 3) := by decide +kernel
theorem dX8_layHeld_52 : decode cX8_layHeld 52 = .ok (.aload_n 0, 1) := by decide +kernel
theorem dX8_layHeld_53 : decode cX8_layHeld 53 = .ok (.getfield 34, 3) := by decide +kernel
theorem dX8_layHeld_56 : decode cX8_layHeld 56 = .ok (.aload_n 0, 1) := by decide +kernel
theorem dX8_layHeld_57 : decode cX8_layHeld 57 = .ok (.getfield 28, 3) := by decide +kernel
theorem dX8_layHeld_60 : decode cX8_layHeld 60 = .ok (.iload_n 2, 1) := by decide +kernel
theorem dX8_layHeld_61 : decode cX8_layHeld 61 = .ok (.iaload, 1) := by decide +kernel
theorem dX8_layHeld_62 : decode cX8_layHeld 62 = .ok (.aload_n 0, 1) := by decide +kernel
theorem dX8_layHeld_63 : decode cX8_layHeld 63 = .ok (.iload_n 2, 1) := by decide +kernel
theorem dX8_layHeld_64 : decode cX8_layHeld 64 = .ok (.invokevirtual 95, 3) := by decide +kernel
theorem dX8_layHeld_67 : decode cX8_layHeld 67 = .ok (.ifCond .eq 33, 3) := by decide +kernel
theorem dX8_layHeld_70 : decode cX8_layHeld 70 = .ok (.aload_n 0, 1) := by decide +kernel
theorem dX8_layHeld_71 : decode cX8_layHeld 71 = .ok (.iload_n 1, 1) := by decide +kernel
theorem dX8_layHeld_72 : decode cX8_layHeld 72 = .ok (.aload_n 0, 1) := by decide +kernel
theorem dX8_layHeld_73 : decode cX8_layHeld 73 = .ok (.getfield 34, 3) := by decide +kernel
theorem dX8_layHeld_76 : decode cX8_layHeld 76 = .ok (.aload_n 0, 1) := by decide +kernel
theorem dX8_layHeld_77 : decode cX8_layHeld 77 = .ok (.getfield 28, 3) := by decide +kernel
theorem dX8_layHeld_80 : decode cX8_layHeld 80 = .ok (.iload_n 2, 1) := by decide +kernel
theorem dX8_layHeld_81 : decode cX8_layHeld 81 = .ok (.iaload, 1) := by decide +kernel
theorem dX8_layHeld_82 : decode cX8_layHeld 82 = .ok (.laload, 1) := by decide +kernel
theorem dX8_layHeld_83 : decode cX8_layHeld 83 = .ok (.aload_n 0, 1) := by decide +kernel
theorem dX8_layHeld_84 : decode cX8_layHeld 84 = .ok (.getfield 34, 3) := by decide +kernel
theorem dX8_layHeld_87 : decode cX8_layHeld 87 = .ok (.aload_n 0, 1) := by decide +kernel
theorem dX8_layHeld_88 : decode cX8_layHeld 88 = .ok (.getfield 25, 3) := by decide +kernel
theorem dX8_layHeld_91 : decode cX8_layHeld 91 = .ok (.iload_n 2, 1) := by decide +kernel
theorem dX8_layHeld_92 : decode cX8_layHeld 92 = .ok (.iaload, 1) := by decide +kernel
theorem dX8_layHeld_93 : decode cX8_layHeld 93 = .ok (.laload, 1) := by decide +kernel
theorem dX8_layHeld_94 : decode cX8_layHeld 94 = .ok (.invokevirtual 129, 3) := by decide +kernel
theorem dX8_layHeld_97 : decode cX8_layHeld 97 = .ok (.goto 14, 3) := by decide +kernel
theorem dX8_layHeld_100 : decode cX8_layHeld 100 = .ok (.aload_n 0, 1) := by decide +kernel
theorem dX8_layHeld_101 : decode cX8_layHeld 101 = .ok (.getfield 34, 3) := by decide +kernel
theorem dX8_layHeld_104 : decode cX8_layHeld 104 = .ok (.aload_n 0, 1) := by decide +kernel
theorem dX8_layHeld_105 : decode cX8_layHeld 105 = .ok (.getfield 28, 3) := by decide +kernel
theorem dX8_layHeld_108 : decode cX8_layHeld 108 = .ok (.iload_n 2, 1) := by decide +kernel
theorem dX8_layHeld_109 : decode cX8_layHeld 109 = .ok (.iaload, 1) := by decide +kernel
theorem dX8_layHeld_110 : decode cX8_layHeld 110 = .ok (.laload, 1) := by decide +kernel
theorem dX8_layHeld_111 : decode cX8_layHeld 111 = .ok (.lastore, 1) := by decide +kernel
theorem dX8_layHeld_112 : decode cX8_layHeld 112 = .ok (.iinc 2 1, 3) := by decide +kernel
theorem dX8_layHeld_115 : decode cX8_layHeld 115 = .ok (.goto (-71), 3) := by decide +kernel
theorem dX8_layHeld_118 : decode cX8_layHeld 118 = .ok (.return_, 1) := by decide +kernel
set_option maxRecDepth 20000 in
theorem ggX8_byBits_X8_layHeld : GoodIn wsX8_byBits wsX8_layHeld := goodIn_r _ [6, 7, 1, 8, 9, 10, 11, 12, 13, 5, 14, 15, 16, 17, 18, 19, 20, 21, 22, 23, 24, 25, 26, 27, 28, 29, 30, 31, 32, 33, 34, 35, 36, 37, 38, 39, 40, 41, 42, 43, 44, 45, 46, 47, 48, 49, 50, 51, 52, 53, 54, 55, 56, 57, 58, 59, 60, 61, 62, 63, 64, 65, 66, 67, 68, 69, 70, 71, 72, 73, 74, 75, 76, 77, 78, 79, 80, 81, 82, 83, 84, 85, 86, 87, 88, 89, 90, 91, 92, 93, 94, 95, 96, 97, 98, 99, 100, 101] (by decide +kernel) (by decide +kernel)
set_option maxRecDepth 20000 in
theorem gX8_byBits_X8_layHeld : GoodIn wsX8_byBits (wsV RX8 137 RX8 yX8_layHeld wsX8_layHeld) := goodIn_app (goodIn_of _ (by decide +kernel)) ggX8_byBits_X8_layHeld
theorem dX8_byBits_0 : decode cX8_byBits 0 = .ok (.aload_n 0, 1) := by decide +kernel
theorem dX8_byBits_1 : decode cX8_byBits 1 = .ok (.iconst 1, 1) := by decide +kernel
theorem dX8_byBits_2 : decode cX8_byBits 2 = .ok (.invokevirtual 137, 3) := by decide +kernel
theorem dX8_byBits_5 : decode cX8_byBits 5 = .ok (.iconst 0, 1) := by decide +kernel
theorem dX8_byBits_6 : decode cX8_byBits 6 = .ok (.istore_n 2, 1) := by decide +kernel
theorem dX8_byBits_7 : decode cX8_byBits 7 = .ok (.iload_n 2, 1) := by decide +kernel
theorem dX8_byBits_8 : decode cX8_byBits 8 = .ok (.bipush 8, 2) := by decide +kernel
theorem dX8_byBits_10 : decode cX8_byBits 10 = .ok (.if_icmp .ge 24, 3) := by decide +kernel
theorem dX8_byBits_13 : decode cX8_byBits 13 = .ok (.aload_n 0, 1) := by decide +kernel
theorem dX8_byBits_14 : decode cX8_byBits 14 = .ok (.getfield 34, 3) := by decide +kernel
theorem dX8_byBits_17 : decode cX8_byBits 17 = .ok (.iload_n 1, 1) := by decide +kernel
theorem dX8_byBits_18 : decode cX8_byBits 18 = .ok (.laload, 1) := by decide +kernel
theorem dX8_byBits_19 : decode cX8_byBits 19 = .ok (.iload_n 2, 1) := by decide +kernel
theorem dX8_byBits_20 : decode cX8_byBits 20 = .ok (.lshr, 1) := by decide +kernel
theorem dX8_byBits_21 : decode cX8_byBits 21 = .ok (.lconst 1, 1) := by decide +kernel
theorem dX8_byBits_22 : decode cX8_byBits 22 = .ok (.land, 1) := by decide +kernel
theorem dX8_byBits_23 : decode cX8_byBits 23 = .ok (.lconst 1, 1) := by decide +kernel
theorem dX8_byBits_24 : decode cX8_byBits 24 = .ok (.lcmp, 1) := by decide +kernel
theorem dX8_byBits_25 : decode cX8_byBits 25 = .ok (.ifCond .ne 9, 3) := by decide +kernel
theorem dX8_byBits_28 : decode cX8_byBits 28 = .ok (.iinc 2 1, 3) := by decide +kernel
theorem dX8_byBits_31 : decode cX8_byBits 31 = .ok (.goto (-24), 3) := by decide +kernel
theorem dX8_byBits_34 : decode cX8_byBits 34 = .ok (.aload_n 0, 1) := by decide +kernel
theorem dX8_byBits_35 : decode cX8_byBits 35 = .ok (.getfield 34, 3) := by decide +kernel
theorem dX8_byBits_38 : decode cX8_byBits 38 = .ok (.iload_n 1, 1) := by decide +kernel
theorem dX8_byBits_39 : decode cX8_byBits 39 = .ok (.laload, 1) := by decide +kernel
theorem dX8_byBits_40 : decode cX8_byBits 40 = .ok (.lconst 0, 1) := by decide +kernel
theorem dX8_byBits_41 : decode cX8_byBits 41 = .ok (.lcmp, 1) := by decide +kernel
theorem dX8_byBits_42 : decode cX8_byBits 42 = .ok (.ifCond .ne 7, 3) := by decide +kernel
theorem dX8_byBits_45 : decode cX8_byBits 45 = .ok (.iconst 0, 1) := by decide +kernel
theorem dX8_byBits_46 : decode cX8_byBits 46 = .ok (.goto 14, 3) := by decide +kernel
theorem dX8_byBits_49 : decode cX8_byBits 49 = .ok (.iconst 1, 1) := by decide +kernel
theorem dX8_byBits_50 : decode cX8_byBits 50 = .ok (.iload_n 2, 1) := by decide +kernel
theorem dX8_byBits_51 : decode cX8_byBits 51 = .ok (.ishl, 1) := by decide +kernel
theorem dX8_byBits_52 : decode cX8_byBits 52 = .ok (.sipush 1000, 3) := by decide +kernel
theorem dX8_byBits_55 : decode cX8_byBits 55 = .ok (.imul, 1) := by decide +kernel
theorem dX8_byBits_56 : decode cX8_byBits 56 = .ok (.sipush 773, 3) := by decide +kernel
theorem dX8_byBits_59 : decode cX8_byBits 59 = .ok (.idiv, 1) := by decide +kernel
theorem dX8_byBits_60 : decode cX8_byBits 60 = .ok (.ireturn, 1) := by decide +kernel
set_option maxRecDepth 20000 in
theorem ggX8_byLeast_X8_layHeld : GoodIn wsX8_byLeast wsX8_layHeld := goodIn_r _ [7, 8, 1, 9, 10, 11, 12, 13, 14, 6, 15, 16, 17, 18, 19, 20, 21, 22, 23, 24, 25, 26, 27, 28, 29, 30, 31, 32, 33, 34, 35, 36, 37, 38, 39, 40, 41, 42, 43, 44, 45, 46, 47, 48, 49, 50, 51, 52, 53, 54, 55, 56, 57, 58, 59, 60, 61, 62, 63, 64, 65, 66, 67, 68, 69, 70, 71, 72, 73, 74, 75, 76, 2, 77, 78, 79, 80, 81, 82, 83, 84, 85, 86, 87, 88, 89, 90, 91, 92, 93, 94, 95, 96, 97, 98, 99, 100, 101] (by decide +kernel) (by decide +kernel)
set_option maxRecDepth 20000 in
theorem gX8_byLeast_X8_layHeld : GoodIn wsX8_byLeast (wsV RX8 137 RX8 yX8_layHeld wsX8_layHeld) := goodIn_app (goodIn_of _ (by decide +kernel)) ggX8_byLeast_X8_layHeld
set_option maxRecDepth 20000 in
theorem ggX8_byLeast_X8_unpack : GoodIn wsX8_byLeast wsX8_unpack := goodIn_r _ [76, 2, 71, 72, 85, 86, 87, 88, 89, 90, 91, 92, 93, 94, 95, 96, 97, 98, 99, 100, 101] (by decide +kernel) (by decide +kernel)
set_option maxRecDepth 20000 in
theorem gX8_byLeast_X8_unpack : GoodIn wsX8_byLeast (wsV RX8 105 RX8 yX8_unpack wsX8_unpack) := goodIn_app (goodIn_of _ (by decide +kernel)) ggX8_byLeast_X8_unpack
theorem dX8_byLeast_0 : decode cX8_byLeast 0 = .ok (.aload_n 0, 1) := by decide +kernel
theorem dX8_byLeast_1 : decode cX8_byLeast 1 = .ok (.iconst 2, 1) := by decide +kernel
theorem dX8_byLeast_2 : decode cX8_byLeast 2 = .ok (.invokevirtual 137, 3) := by decide +kernel
theorem dX8_byLeast_5 : decode cX8_byLeast 5 = .ok (.aload_n 0, 1) := by decide +kernel
theorem dX8_byLeast_6 : decode cX8_byLeast 6 = .ok (.aload_n 0, 1) := by decide +kernel
theorem dX8_byLeast_7 : decode cX8_byLeast 7 = .ok (.getfield 34, 3) := by decide +kernel
theorem dX8_byLeast_10 : decode cX8_byLeast 10 = .ok (.iload_n 1, 1) := by decide +kernel
theorem dX8_byLeast_11 : decode cX8_byLeast 11 = .ok (.laload, 1) := by decide +kernel
theorem dX8_byLeast_12 : decode cX8_byLeast 12 = .ok (.iconst 0, 1) := by decide +kernel
theorem dX8_byLeast_13 : decode cX8_byLeast 13 = .ok (.invokevirtual 105, 3) := by decide +kernel
theorem dX8_byLeast_16 : decode cX8_byLeast 16 = .ok (.aload_n 0, 1) := by decide +kernel
theorem dX8_byLeast_17 : decode cX8_byLeast 17 = .ok (.getfield 38, 3) := by decide +kernel
theorem dX8_byLeast_20 : decode cX8_byLeast 20 = .ok (.iconst 0, 1) := by decide +kernel
theorem dX8_byLeast_21 : decode cX8_byLeast 21 = .ok (.iaload, 1) := by decide +kernel
theorem dX8_byLeast_22 : decode cX8_byLeast 22 = .ok (.sipush 1024, 3) := by decide +kernel
theorem dX8_byLeast_25 : decode cX8_byLeast 25 = .ok (.if_icmp .ge 7, 3) := by decide +kernel
theorem dX8_byLeast_28 : decode cX8_byLeast 28 = .ok (.iconst 1, 1) := by decide +kernel
theorem dX8_byLeast_29 : decode cX8_byLeast 29 = .ok (.goto 4, 3) := by decide +kernel
theorem dX8_byLeast_32 : decode cX8_byLeast 32 = .ok (.iconst 0, 1) := by decide +kernel
theorem dX8_byLeast_33 : decode cX8_byLeast 33 = .ok (.aload_n 0, 1) := by decide +kernel
theorem dX8_byLeast_34 : decode cX8_byLeast 34 = .ok (.getfield 38, 3) := by decide +kernel
theorem dX8_byLeast_37 : decode cX8_byLeast 37 = .ok (.iconst 1, 1) := by decide +kernel
theorem dX8_byLeast_38 : decode cX8_byLeast 38 = .ok (.iaload, 1) := by decide +kernel
theorem dX8_byLeast_39 : decode cX8_byLeast 39 = .ok (.sipush 1024, 3) := by decide +kernel
theorem dX8_byLeast_42 : decode cX8_byLeast 42 = .ok (.if_icmp .ge 7, 3) := by decide +kernel
theorem dX8_byLeast_45 : decode cX8_byLeast 45 = .ok (.iconst 1, 1) := by decide +kernel
theorem dX8_byLeast_46 : decode cX8_byLeast 46 = .ok (.goto 4, 3) := by decide +kernel
theorem dX8_byLeast_49 : decode cX8_byLeast 49 = .ok (.iconst 0, 1) := by decide +kernel
theorem dX8_byLeast_50 : decode cX8_byLeast 50 = .ok (.iadd, 1) := by decide +kernel
theorem dX8_byLeast_51 : decode cX8_byLeast 51 = .ok (.aload_n 0, 1) := by decide +kernel
theorem dX8_byLeast_52 : decode cX8_byLeast 52 = .ok (.getfield 38, 3) := by decide +kernel
theorem dX8_byLeast_55 : decode cX8_byLeast 55 = .ok (.iconst 2, 1) := by decide +kernel
theorem dX8_byLeast_56 : decode cX8_byLeast 56 = .ok (.iaload, 1) := by decide +kernel
theorem dX8_byLeast_57 : decode cX8_byLeast 57 = .ok (.sipush 1024, 3) := by decide +kernel
theorem dX8_byLeast_60 : decode cX8_byLeast 60 = .ok (.if_icmp .ge 7, 3) := by decide +kernel
theorem dX8_byLeast_63 : decode cX8_byLeast 63 = .ok (.iconst 1, 1) := by decide +kernel
theorem dX8_byLeast_64 : decode cX8_byLeast 64 = .ok (.goto 4, 3) := by decide +kernel
theorem dX8_byLeast_67 : decode cX8_byLeast 67 = .ok (.iconst 0, 1) := by decide +kernel
theorem dX8_byLeast_68 : decode cX8_byLeast 68 = .ok (.iadd, 1) := by decide +kernel
theorem dX8_byLeast_69 : decode cX8_byLeast 69 = .ok (.istore_n 2, 1) := by decide +kernel
theorem dX8_byLeast_70 : decode cX8_byLeast 70 = .ok (.iload_n 2, 1) := by decide +kernel
theorem dX8_byLeast_71 : decode cX8_byLeast 71 = .ok (.iconst 3, 1) := by decide +kernel
theorem dX8_byLeast_72 : decode cX8_byLeast 72 = .ok (.if_icmp .ge 7, 3) := by decide +kernel
theorem dX8_byLeast_75 : decode cX8_byLeast 75 = .ok (.iload_n 2, 1) := by decide +kernel
theorem dX8_byLeast_76 : decode cX8_byLeast 76 = .ok (.goto 15, 3) := by decide +kernel
theorem dX8_byLeast_79 : decode cX8_byLeast 79 = .ok (.sipush 2048, 3) := by decide +kernel
theorem dX8_byLeast_82 : decode cX8_byLeast 82 = .ok (.aload_n 0, 1) := by decide +kernel
theorem dX8_byLeast_83 : decode cX8_byLeast 83 = .ok (.getfield 38, 3) := by decide +kernel
theorem dX8_byLeast_86 : decode cX8_byLeast 86 = .ok (.iconst 2, 1) := by decide +kernel
theorem dX8_byLeast_87 : decode cX8_byLeast 87 = .ok (.iaload, 1) := by decide +kernel
theorem dX8_byLeast_88 : decode cX8_byLeast 88 = .ok (.iconst 1, 1) := by decide +kernel
theorem dX8_byLeast_89 : decode cX8_byLeast 89 = .ok (.iadd, 1) := by decide +kernel
theorem dX8_byLeast_90 : decode cX8_byLeast 90 = .ok (.idiv, 1) := by decide +kernel
theorem dX8_byLeast_91 : decode cX8_byLeast 91 = .ok (.ireturn, 1) := by decide +kernel
set_option maxRecDepth 20000 in
theorem ggX8_truth_X8_layRings : GoodIn wsX8_truth wsX8_layRings := goodIn_r _ [7, 2, 8, 9, 10, 6, 11, 1, 12, 13, 14, 18, 19, 20, 21, 22, 23, 24, 25, 26, 27, 28, 29, 30, 31, 32, 33, 34] (by decide +kernel) (by decide +kernel)
set_option maxRecDepth 20000 in
theorem gX8_truth_X8_layRings : GoodIn wsX8_truth (wsV RX8 81 RX8 yX8_layRings wsX8_layRings) := goodIn_app (goodIn_of _ (by decide +kernel)) ggX8_truth_X8_layRings
set_option maxRecDepth 20000 in
theorem ggX8_truth_X8_ones : GoodIn wsX8_truth wsX8_ones := goodIn_r _ [17, 12, 13, 6, 14] (by decide +kernel) (by decide +kernel)
set_option maxRecDepth 20000 in
theorem gX8_truth_X8_ones : GoodIn wsX8_truth (va_wsS RX8 140 yX8_ones wsX8_ones) := goodIn_app (goodIn_of _ (by decide +kernel)) ggX8_truth_X8_ones
theorem dX8_truth_0 : decode cX8_truth 0 = .ok (.aload_n 0, 1) := by decide +kernel
theorem dX8_truth_1 : decode cX8_truth 1 = .ok (.invokevirtual 81, 3) := by decide +kernel
theorem dX8_truth_4 : decode cX8_truth 4 = .ok (.iconst 0, 1) := by decide +kernel
theorem dX8_truth_5 : decode cX8_truth 5 = .ok (.istore_n 1, 1) := by decide +kernel
theorem dX8_truth_6 : decode cX8_truth 6 = .ok (.iconst 0, 1) := by decide +kernel
theorem dX8_truth_7 : decode cX8_truth 7 = .ok (.istore_n 2, 1) := by decide +kernel
theorem dX8_truth_8 : decode cX8_truth 8 = .ok (.iload_n 2, 1) := by decide +kernel
theorem dX8_truth_9 : decode cX8_truth 9 = .ok (.aload_n 0, 1) := by decide +kernel
theorem dX8_truth_10 : decode cX8_truth 10 = .ok (.getfield 9, 3) := by decide +kernel
theorem dX8_truth_13 : decode cX8_truth 13 = .ok (.iconst 0, 1) := by decide +kernel
theorem dX8_truth_14 : decode cX8_truth 14 = .ok (.iaload, 1) := by decide +kernel
theorem dX8_truth_15 : decode cX8_truth 15 = .ok (.if_icmp .ge 35, 3) := by decide +kernel
theorem dX8_truth_18 : decode cX8_truth 18 = .ok (.iload_n 1, 1) := by decide +kernel
theorem dX8_truth_19 : decode cX8_truth 19 = .ok (.aload_n 0, 1) := by decide +kernel
theorem dX8_truth_20 : decode cX8_truth 20 = .ok (.getfield 22, 3) := by decide +kernel
theorem dX8_truth_23 : decode cX8_truth 23 = .ok (.iload_n 2, 1) := by decide +kernel
theorem dX8_truth_24 : decode cX8_truth 24 = .ok (.iaload, 1) := by decide +kernel
theorem dX8_truth_25 : decode cX8_truth 25 = .ok (.iconst (-1), 1) := by decide +kernel
theorem dX8_truth_26 : decode cX8_truth 26 = .ok (.if_icmp .ne 7, 3) := by decide +kernel
theorem dX8_truth_29 : decode cX8_truth 29 = .ok (.iconst 0, 1) := by decide +kernel
theorem dX8_truth_30 : decode cX8_truth 30 = .ok (.goto 12, 3) := by decide +kernel
theorem dX8_truth_33 : decode cX8_truth 33 = .ok (.aload_n 0, 1) := by decide +kernel
theorem dX8_truth_34 : decode cX8_truth 34 = .ok (.getfield 9, 3) := by decide +kernel
theorem dX8_truth_37 : decode cX8_truth 37 = .ok (.bipush 21, 2) := by decide +kernel
theorem dX8_truth_39 : decode cX8_truth 39 = .ok (.iload_n 2, 1) := by decide +kernel
theorem dX8_truth_40 : decode cX8_truth 40 = .ok (.iadd, 1) := by decide +kernel
theorem dX8_truth_41 : decode cX8_truth 41 = .ok (.iaload, 1) := by decide +kernel
theorem dX8_truth_42 : decode cX8_truth 42 = .ok (.ior, 1) := by decide +kernel
theorem dX8_truth_43 : decode cX8_truth 43 = .ok (.istore_n 1, 1) := by decide +kernel
theorem dX8_truth_44 : decode cX8_truth 44 = .ok (.iinc 2 1, 3) := by decide +kernel
theorem dX8_truth_47 : decode cX8_truth 47 = .ok (.goto (-39), 3) := by decide +kernel
theorem dX8_truth_50 : decode cX8_truth 50 = .ok (.iload_n 1, 1) := by decide +kernel
theorem dX8_truth_51 : decode cX8_truth 51 = .ok (.invokestatic 140, 3) := by decide +kernel
theorem dX8_truth_54 : decode cX8_truth 54 = .ok (.ireturn, 1) := by decide +kernel
set_option maxRecDepth 20000 in
theorem ggX8_links_X8_ones : GoodIn wsX8_links wsX8_ones := goodIn_r _ [5, 6, 7, 4, 8] (by decide +kernel) (by decide +kernel)
set_option maxRecDepth 20000 in
theorem gX8_links_X8_ones : GoodIn wsX8_links (va_wsS RX8 140 yX8_ones wsX8_ones) := goodIn_app (goodIn_of _ (by decide +kernel)) ggX8_links_X8_ones
theorem dX8_links_0 : decode cX8_links 0 = .ok (.iconst 0, 1) := by decide +kernel
theorem dX8_links_1 : decode cX8_links 1 = .ok (.istore_n 1, 1) := by decide +kernel
theorem dX8_links_2 : decode cX8_links 2 = .ok (.iconst 0, 1) := by decide +kernel
theorem dX8_links_3 : decode cX8_links 3 = .ok (.istore_n 2, 1) := by decide +kernel
theorem dX8_links_4 : decode cX8_links 4 = .ok (.iload_n 2, 1) := by decide +kernel
theorem dX8_links_5 : decode cX8_links 5 = .ok (.aload_n 0, 1) := by decide +kernel
theorem dX8_links_6 : decode cX8_links 6 = .ok (.getfield 9, 3) := by decide +kernel
theorem dX8_links_9 : decode cX8_links 9 = .ok (.iconst 0, 1) := by decide +kernel
theorem dX8_links_10 : decode cX8_links 10 = .ok (.iaload, 1) := by decide +kernel
theorem dX8_links_11 : decode cX8_links 11 = .ok (.if_icmp .ge 23, 3) := by decide +kernel
theorem dX8_links_14 : decode cX8_links 14 = .ok (.iload_n 1, 1) := by decide +kernel
theorem dX8_links_15 : decode cX8_links 15 = .ok (.aload_n 0, 1) := by decide +kernel
theorem dX8_links_16 : decode cX8_links 16 = .ok (.getfield 9, 3) := by decide +kernel
theorem dX8_links_19 : decode cX8_links 19 = .ok (.iconst 3, 1) := by decide +kernel
theorem dX8_links_20 : decode cX8_links 20 = .ok (.iload_n 2, 1) := by decide +kernel
theorem dX8_links_21 : decode cX8_links 21 = .ok (.iadd, 1) := by decide +kernel
theorem dX8_links_22 : decode cX8_links 22 = .ok (.iaload, 1) := by decide +kernel
theorem dX8_links_23 : decode cX8_links 23 = .ok (.invokestatic 140, 3) := by decide +kernel
theorem dX8_links_26 : decode cX8_links 26 = .ok (.iadd, 1) := by decide +kernel
theorem dX8_links_27 : decode cX8_links 27 = .ok (.istore_n 1, 1) := by decide +kernel
theorem dX8_links_28 : decode cX8_links 28 = .ok (.iinc 2 1, 3) := by decide +kernel
theorem dX8_links_31 : decode cX8_links 31 = .ok (.goto (-27), 3) := by decide +kernel
theorem dX8_links_34 : decode cX8_links 34 = .ok (.iload_n 1, 1) := by decide +kernel
theorem dX8_links_35 : decode cX8_links 35 = .ok (.iconst 2, 1) := by decide +kernel
theorem dX8_links_36 : decode cX8_links 36 = .ok (.idiv, 1) := by decide +kernel
theorem dX8_links_37 : decode cX8_links 37 = .ok (.ireturn, 1) := by decide +kernel
set_option maxRecDepth 20000 in
theorem ggX8_lostLinks_X8_ones : GoodIn wsX8_lostLinks wsX8_ones := goodIn_r _ [5, 6, 7, 4, 8] (by decide +kernel) (by decide +kernel)
set_option maxRecDepth 20000 in
theorem gX8_lostLinks_X8_ones : GoodIn wsX8_lostLinks (va_wsS RX8 140 yX8_ones wsX8_ones) := goodIn_app (goodIn_of _ (by decide +kernel)) ggX8_lostLinks_X8_ones
theorem dX8_lostLinks_0 : decode cX8_lostLinks 0 = .ok (.iconst 0, 1) := by decide +kernel
theorem dX8_lostLinks_1 : decode cX8_lostLinks 1 = .ok (.istore_n 1, 1) := by decide +kernel
theorem dX8_lostLinks_2 : decode cX8_lostLinks 2 = .ok (.iconst 0, 1) := by decide +kernel
theorem dX8_lostLinks_3 : decode cX8_lostLinks 3 = .ok (.istore_n 2, 1) := by decide +kernel
theorem dX8_lostLinks_4 : decode cX8_lostLinks 4 = .ok (.iload_n 2, 1) := by decide +kernel
theorem dX8_lostLinks_5 : decode cX8_lostLinks 5 = .ok (.aload_n 0, 1) := by decide +kernel
theorem dX8_lostLinks_6 : decode cX8_lostLinks 6 = .ok (.getfield 9, 3) := by decide +kernel
theorem dX8_lostLinks_9 : decode cX8_lostLinks 9 = .ok (.iconst 0, 1) := by decide +kernel
theorem dX8_lostLinks_10 : decode cX8_lostLinks 10 = .ok (.iaload, 1) := by decide +kernel
theorem dX8_lostLinks_11 : decode cX8_lostLinks 11 = .ok (.if_icmp .ge 24, 3) := by decide +kernel
theorem dX8_lostLinks_14 : decode cX8_lostLinks 14 = .ok (.iload_n 1, 1) := by decide +kernel
theorem dX8_lostLinks_15 : decode cX8_lostLinks 15 = .ok (.aload_n 0, 1) := by decide +kernel
theorem dX8_lostLinks_16 : decode cX8_lostLinks 16 = .ok (.getfield 9, 3) := by decide +kernel
theorem dX8_lostLinks_19 : decode cX8_lostLinks 19 = .ok (.bipush 12, 2) := by decide +kernel
theorem dX8_lostLinks_21 : decode cX8_lostLinks 21 = .ok (.iload_n 2, 1) := by decide +kernel
theorem dX8_lostLinks_22 : decode cX8_lostLinks 22 = .ok (.iadd, 1) := by decide +kernel
theorem dX8_lostLinks_23 : decode cX8_lostLinks 23 = .ok (.iaload, 1) := by decide +kernel
theorem dX8_lostLinks_24 : decode cX8_lostLinks 24 = .ok (.invokestatic 140, 3) := by decide +kernel
theorem dX8_lostLinks_27 : decode cX8_lostLinks 27 = .ok (.iadd, 1) := by decide +kernel
theorem dX8_lostLinks_28 : decode cX8_lostLinks 28 = .ok (.istore_n 1, 1) := by decide +kernel
theorem dX8_lostLinks_29 : decode cX8_lostLinks 29 = .ok (.iinc 2 1, 3) := by decide +kernel
theorem dX8_lostLinks_32 : decode cX8_lostLinks 32 = .ok (.goto (-28), 3) := by decide +kernel
theorem dX8_lostLinks_35 : decode cX8_lostLinks 35 = .ok (.iload_n 1, 1) := by decide +kernel
theorem dX8_lostLinks_36 : decode cX8_lostLinks 36 = .ok (.iconst 2, 1) := by decide +kernel
theorem dX8_lostLinks_37 : decode cX8_lostLinks 37 = .ok (.idiv, 1) := by decide +kernel
theorem dX8_lostLinks_38 : decode cX8_lostLinks 38 = .ok (.ireturn, 1) := by decide +kernel
set_option maxRecDepth 20000 in
theorem ggX8_wrongEntry_X8_layRings : GoodIn wsX8_wrongEntry wsX8_layRings := goodIn_r _ [9, 3, 10, 11, 12, 8, 13, 14, 15, 16, 17, 99, 100, 101, 102, 103, 104, 105, 106, 107, 108, 109, 110, 111, 112, 113, 114, 115] (by decide +kernel) (by decide +kernel)
set_option maxRecDepth 20000 in
theorem gX8_wrongEntry_X8_layRings : GoodIn wsX8_wrongEntry (wsV RX8 81 RX8 yX8_layRings wsX8_layRings) := goodIn_app (goodIn_of _ (by decide +kernel)) ggX8_wrongEntry_X8_layRings
set_option maxRecDepth 20000 in
theorem ggX8_wrongEntry_X8_isNode : GoodIn wsX8_wrongEntry wsX8_isNode := goodIn_r _ [21, 14, 22, 23, 8, 24, 99, 100, 101, 102, 103, 104, 105, 106, 107, 108, 109, 110, 111, 112, 113, 114, 115] (by decide +kernel) (by decide +kernel)
set_option maxRecDepth 20000 in
theorem gX8_wrongEntry_X8_isNode : GoodIn wsX8_wrongEntry (wsV RX8 51 RX8 yX8_isNode wsX8_isNode) := goodIn_app (goodIn_of _ (by decide +kernel)) ggX8_wrongEntry_X8_isNode
set_option maxRecDepth 20000 in
theorem ggX8_wrongEntry_X8_byBits : GoodIn wsX8_wrongEntry wsX8_byBits := goodIn_r _ [28, 29, 30, 31, 32, 8, 33, 14, 34, 35, 36, 37, 38, 39, 40, 3, 5, 6, 7, 9, 10, 11, 12, 13, 15, 16, 17, 41, 42, 43, 44, 45, 46, 47, 48, 49, 50, 51, 52, 53, 54, 55, 56, 57, 58, 59, 60, 61, 62, 63, 64, 65, 66, 67, 68, 69, 70, 71, 72, 73, 74, 75, 76, 77, 78, 79, 80, 81, 82, 83, 84, 85, 86, 87, 88, 89, 90, 91, 92, 93, 94, 95, 96, 97, 98, 99, 100, 101, 102, 103, 104, 105, 106, 107, 108, 109, 110, 111, 112, 113, 114, 115] (by decide +kernel) (by decide +kernel)
set_option maxRecDepth 20000 in
theorem gX8_wrongEntry_X8_byBits : GoodIn wsX8_wrongEntry (wsV RX8 146 RX8 yX8_byBits wsX8_byBits) := goodIn_app (goodIn_of _ (by decide +kernel)) ggX8_wrongEntry_X8_byBits
theorem dX8_wrongEntry_0 : decode cX8_wrongEntry 0 = .ok (.iconst 0, 1) := by decide +kernel
theorem dX8_wrongEntry_1 : decode cX8_wrongEntry 1 = .ok (.istore_n 1, 1) := by decide +kernel
theorem dX8_wrongEntry_2 : decode cX8_wrongEntry 2 = .ok (.iload_n 1, 1) := by decide +kernel
theorem dX8_wrongEntry_3 : decode cX8_wrongEntry 3 = .ok (.aload_n 0, 1) := by decide +kernel
theorem dX8_wrongEntry_4 : decode cX8_wrongEntry 4 = .ok (.getfield 143, 3) := by decide +kernel
theorem dX8_wrongEntry_7 : decode cX8_wrongEntry 7 = .ok (.if_icmp .ge 62, 3) := by decide +kernel
theorem dX8_wrongEntry_10 : decode cX8_wrongEntry 10 = .ok (.aload_n 0, 1) := by decide +kernel
theorem dX8_wrongEntry_11 : decode cX8_wrongEntry 11 = .ok (.invokevirtual 81, 3) := by decide +kernel
theorem dX8_wrongEntry_14 : decode cX8_wrongEntry 14 = .ok (.aload_n 0, 1) := by decide +kernel
theorem dX8_wrongEntry_15 : decode cX8_wrongEntry 15 = .ok (.aload_n 0, 1) := by decide +kernel
theorem dX8_wrongEntry_16 : decode cX8_wrongEntry 16 = .ok (.getfield 16, 3) := by decide +kernel
theorem dX8_wrongEntry_19 : decode cX8_wrongEntry 19 = .ok (.iload_n 1, 1) := by decide +kernel
theorem dX8_wrongEntry_20 : decode cX8_wrongEntry 20 = .ok (.iaload, 1) := by decide +kernel
theorem dX8_wrongEntry_21 : decode cX8_wrongEntry 21 = .ok (.invokevirtual 51, 3) := by decide +kernel
theorem dX8_wrongEntry_24 : decode cX8_wrongEntry 24 = .ok (.ifCond .eq 37, 3) := by decide +kernel
theorem dX8_wrongEntry_27 : decode cX8_wrongEntry 27 = .ok (.aload_n 0, 1) := by decide +kernel
theorem dX8_wrongEntry_28 : decode cX8_wrongEntry 28 = .ok (.getfield 22, 3) := by decide +kernel
theorem dX8_wrongEntry_31 : decode cX8_wrongEntry 31 = .ok (.aload_n 0, 1) := by decide +kernel
theorem dX8_wrongEntry_32 : decode cX8_wrongEntry 32 = .ok (.getfield 16, 3) := by decide +kernel
theorem dX8_wrongEntry_35 : decode cX8_wrongEntry 35 = .ok (.iload_n 1, 1) := by decide +kernel
theorem dX8_wrongEntry_36 : decode cX8_wrongEntry 36 = .ok (.iaload, 1) := by decide +kernel
theorem dX8_wrongEntry_37 : decode cX8_wrongEntry 37 = .ok (.iaload, 1) := by decide +kernel
theorem dX8_wrongEntry_38 : decode cX8_wrongEntry 38 = .ok (.iconst (-1), 1) := by decide +kernel
theorem dX8_wrongEntry_39 : decode cX8_wrongEntry 39 = .ok (.if_icmp .eq 22, 3) := by decide +kernel
theorem dX8_wrongEntry_42 : decode cX8_wrongEntry 42 = .ok (.aload_n 0, 1) := by decide +kernel
theorem dX8_wrongEntry_43 : decode cX8_wrongEntry 43 = .ok (.aload_n 0, 1) := by decide +kernel
theorem dX8_wrongEntry_44 : decode cX8_wrongEntry 44 = .ok (.getfield 16, 3) := by decide +kernel
theorem dX8_wrongEntry_47 : decode cX8_wrongEntry 47 = .ok (.iload_n 1, 1) := by decide +kernel
theorem dX8_wrongEntry_48 : decode cX8_wrongEntry 48 = .ok (.iaload, 1) := by decide +kernel
theorem dX8_wrongEntry_49 : decode cX8_wrongEntry 49 = .ok (.invokevirtual 146, 3) := by decide +kernel
theorem dX8_wrongEntry_52 : decode cX8_wrongEntry 52 = .ok (.aload_n 0, 1) := by decide +kernel
theorem dX8_wrongEntry_53 : decode cX8_wrongEntry 53 = .ok (.getfield 19, 3) := by decide +kernel
theorem dX8_wrongEntry_56 : decode cX8_wrongEntry 56 = .ok (.iload_n 1, 1) := by decide +kernel
theorem dX8_wrongEntry_57 : decode cX8_wrongEntry 57 = .ok (.iaload, 1) := by decide +kernel
theorem dX8_wrongEntry_58 : decode cX8_wrongEntry 58 = .ok (.if_icmp .eq 5, 3) := by decide +kernel
theorem dX8_wrongEntry_61 : decode cX8_wrongEntry 61 = .ok (.iload_n 1, 1) := by decide +kernel
theorem dX8_wrongEntry_62 : decode cX8_wrongEntry 62 = .ok (.ireturn, 1) := by decide +kernel
theorem dX8_wrongEntry_63 : decode cX8_wrongEntry 63 = .ok (.iinc 1 1, 3) := by decide +kernel
theorem dX8_wrongEntry_66 : decode cX8_wrongEntry 66 = .ok (.goto (-64), 3) := by decide +kernel
theorem dX8_wrongEntry_69 : decode cX8_wrongEntry 69 = .ok (.iconst (-1), 1) := by decide +kernel
theorem dX8_wrongEntry_70 : decode cX8_wrongEntry 70 = .ok (.ireturn, 1) := by decide +kernel
set_option maxRecDepth 20000 in
theorem ggX8_outermost_X8_layRings : GoodIn wsX8_outermost wsX8_layRings := goodIn_r _ [5, 6, 7, 8, 9, 4, 10, 11, 12, 13, 14, 19, 20, 21, 22, 23, 24, 25, 26, 27, 28, 29, 30, 31, 32, 33, 34, 35] (by decide +kernel) (by decide +kernel)
set_option maxRecDepth 20000 in
theorem gX8_outermost_X8_layRings : GoodIn wsX8_outermost (wsV RX8 81 RX8 yX8_layRings wsX8_layRings) := goodIn_app (goodIn_of _ (by decide +kernel)) ggX8_outermost_X8_layRings
set_option maxRecDepth 20000 in
theorem ggX8_outermost_X8_greatestRing : GoodIn wsX8_outermost wsX8_greatestRing := goodIn_r _ [18, 11, 6, 19, 20, 21, 22, 23, 24, 25, 26, 27, 28, 29, 30, 31, 32, 33, 34, 35] (by decide +kernel) (by decide +kernel)
set_option maxRecDepth 20000 in
theorem gX8_outermost_X8_greatestRing : GoodIn wsX8_outermost (wsV RX8 84 RX8 yX8_greatestRing wsX8_greatestRing) := goodIn_app (goodIn_of _ (by decide +kernel)) ggX8_outermost_X8_greatestRing
theorem dX8_outermost_0 : decode cX8_outermost 0 = .ok (.aload_n 0, 1) := by decide +kernel
theorem dX8_outermost_1 : decode cX8_outermost 1 = .ok (.invokevirtual 81, 3) := by decide +kernel
theorem dX8_outermost_4 : decode cX8_outermost 4 = .ok (.aload_n 0, 1) := by decide +kernel
theorem dX8_outermost_5 : decode cX8_outermost 5 = .ok (.invokevirtual 84, 3) := by decide +kernel
theorem dX8_outermost_8 : decode cX8_outermost 8 = .ok (.ireturn, 1) := by decide +kernel
set_option maxRecDepth 20000 in
theorem ggX8_letterMany_X8_layLetters : GoodIn wsX8_letterMany wsX8_layLetters := goodIn_r _ [6, 1, 7, 8, 9, 10, 11, 5, 12, 13, 14, 15, 16, 17, 18, 19, 20, 21, 22, 23, 24, 25, 26, 27, 28, 29, 30, 31, 32, 33, 34, 35, 36, 37, 38, 39, 40, 41, 42, 43, 44, 45, 46, 47, 48, 49, 50] (by decide +kernel) (by decide +kernel)
set_option maxRecDepth 20000 in
theorem gX8_letterMany_X8_layLetters : GoodIn wsX8_letterMany (wsV RX8 92 RX8 yX8_layLetters wsX8_layLetters) := goodIn_app (goodIn_of _ (by decide +kernel)) ggX8_letterMany_X8_layLetters
theorem dX8_letterMany_0 : decode cX8_letterMany 0 = .ok (.aload_n 0, 1) := by decide +kernel
theorem dX8_letterMany_1 : decode cX8_letterMany 1 = .ok (.invokevirtual 92, 3) := by decide +kernel
theorem dX8_letterMany_4 : decode cX8_letterMany 4 = .ok (.aload_n 0, 1) := by decide +kernel
theorem dX8_letterMany_5 : decode cX8_letterMany 5 = .ok (.getfield 77, 3) := by decide +kernel
theorem dX8_letterMany_8 : decode cX8_letterMany 8 = .ok (.ireturn, 1) := by decide +kernel
set_option maxRecDepth 20000 in
theorem ggX8_told_X8_links : GoodIn wsX8_told wsX8_links := goodIn_r _ [10, 1, 11, 12, 9, 13, 14, 15, 16, 142, 143, 144, 145, 146, 147, 148, 149, 150, 151, 152, 153, 154, 155, 156, 157, 158] (by decide +kernel) (by decide +kernel)
set_option maxRecDepth 20000 in
theorem gX8_told_X8_links : GoodIn wsX8_told (wsV RX8 149 RX8 yX8_links wsX8_links) := goodIn_app (goodIn_of _ (by decide +kernel)) ggX8_told_X8_links
set_option maxRecDepth 20000 in
theorem ggX8_told_X8_lostLinks : GoodIn wsX8_told wsX8_lostLinks := goodIn_r _ [20, 1, 11, 12, 9, 13, 14, 15, 16, 142, 143, 144, 145, 146, 147, 148, 149, 150, 151, 152, 153, 154, 155, 156, 157, 158] (by decide +kernel) (by decide +kernel)
set_option maxRecDepth 20000 in
theorem gX8_told_X8_lostLinks : GoodIn wsX8_told (wsV RX8 152 RX8 yX8_lostLinks wsX8_lostLinks) := goodIn_app (goodIn_of _ (by decide +kernel)) ggX8_told_X8_lostLinks
set_option maxRecDepth 20000 in
theorem ggX8_told_X8_outermost : GoodIn wsX8_told wsX8_outermost := goodIn_r _ [24, 25, 26, 27, 9, 28, 29, 30, 31, 32, 33, 1, 14, 15, 16, 34, 35, 36, 37, 142, 143, 144, 145, 146, 147, 148, 149, 150, 151, 152, 153, 154, 155, 156, 157, 158] (by decide +kernel) (by decide +kernel)
set_option maxRecDepth 20000 in
theorem gX8_told_X8_outermost : GoodIn wsX8_told (wsV RX8 155 RX8 yX8_outermost wsX8_outermost) := goodIn_app (goodIn_of _ (by decide +kernel)) ggX8_told_X8_outermost
set_option maxRecDepth 20000 in
theorem ggX8_told_X8_comesSet : GoodIn wsX8_told wsX8_comesSet := goodIn_r _ [41, 1, 42, 43, 44, 45, 9, 46, 47, 48, 49, 50, 51, 52, 53, 29, 25, 26, 27, 28, 30, 31, 32, 33, 14, 15, 16, 34, 35, 36, 37, 54, 55, 56, 57, 58, 59, 60, 61, 62, 63, 64, 65, 142, 143, 144, 145, 146, 147, 148, 149, 150, 151, 152, 153, 154, 155, 156, 157, 158] (by decide +kernel) (by decide +kernel)
set_option maxRecDepth 20000 in
theorem gX8_told_X8_comesSet : GoodIn wsX8_told (wsV RX8 158 RX8 yX8_comesSet wsX8_comesSet) := goodIn_app (goodIn_of _ (by decide +kernel)) ggX8_told_X8_comesSet
set_option maxRecDepth 20000 in
theorem ggX8_told_X8_truth : GoodIn wsX8_told wsX8_truth := goodIn_r _ [69, 1, 29, 25, 26, 27, 9, 28, 30, 31, 32, 33, 14, 15, 16, 11, 12, 13, 142, 143, 144, 145, 146, 147, 148, 149, 150, 151, 152, 153, 154, 155, 156, 157, 158] (by decide +kernel) (by decide +kernel)
set_option maxRecDepth 20000 in
theorem gX8_told_X8_truth : GoodIn wsX8_told (wsV RX8 161 RX8 yX8_truth wsX8_truth) := goodIn_app (goodIn_of _ (by decide +kernel)) ggX8_told_X8_truth
set_option maxRecDepth 20000 in
theorem ggX8_told_X8_letterMany : GoodIn wsX8_told wsX8_letterMany := goodIn_r _ [73, 47, 50, 51, 52, 9, 53, 1, 29, 25, 26, 27, 28, 30, 31, 32, 33, 14, 15, 16, 34, 35, 36, 37, 54, 55, 56, 57, 48, 49, 58, 59, 60, 61, 142, 143, 144, 145, 146, 147, 148, 149, 150, 151, 152, 153, 154, 155, 156, 157, 158] (by decide +kernel) (by decide +kernel)
set_option maxRecDepth 20000 in
theorem gX8_told_X8_letterMany : GoodIn wsX8_told (wsV RX8 164 RX8 yX8_letterMany wsX8_letterMany) := goodIn_app (goodIn_of _ (by decide +kernel)) ggX8_told_X8_letterMany
set_option maxRecDepth 20000 in
theorem ggX8_told_X8_lostLetters : GoodIn wsX8_told wsX8_lostLetters := goodIn_r _ [77, 47, 50, 51, 52, 9, 53, 1, 29, 25, 26, 27, 28, 30, 31, 32, 33, 14, 15, 16, 34, 35, 36, 37, 54, 55, 56, 57, 48, 49, 58, 59, 60, 61, 62, 63, 64, 65, 142, 143, 144, 145, 146, 147, 148, 149, 150, 151, 152, 153, 154, 155, 156, 157, 158] (by decide +kernel) (by decide +kernel)
set_option maxRecDepth 20000 in
theorem gX8_told_X8_lostLetters : GoodIn wsX8_told (wsV RX8 167 RX8 yX8_lostLetters wsX8_lostLetters) := goodIn_app (goodIn_of _ (by decide +kernel)) ggX8_told_X8_lostLetters
set_option maxRecDepth 20000 in
theorem ggX8_told_X8_wrongEntry : GoodIn wsX8_told wsX8_wrongEntry := goodIn_r _ [81, 2, 82, 29, 83, 25, 26, 27, 9, 28, 30, 31, 32, 33, 1, 14, 15, 16, 84, 85, 86, 87, 88, 89, 90, 91, 92, 93, 94, 95, 96, 97, 98, 99, 47, 49, 48, 50, 51, 52, 53, 34, 35, 36, 37, 54, 55, 56, 57, 58, 59, 60, 61, 100, 101, 102, 103, 104, 105, 106, 107, 108, 109, 110, 111, 112, 113, 114, 115, 116, 117, 118, 119, 120, 121, 122, 123, 124, 125, 126, 127, 128, 129, 130, 131, 132, 133, 134, 135, 136, 137, 138, 139, 140, 141, 62, 63, 64, 65, 142, 143, 144, 145, 146, 147, 148, 149, 150, 151, 152, 153, 154, 155, 156, 157, 158] (by decide +kernel) (by decide +kernel)
end
section
set_option maxRecDepth 20000 in
theorem gX8_told_X8_wrongEntry : GoodIn wsX8_told (wsV RX8 170 RX8 yX8_wrongEntry wsX8_wrongEntry) := goodIn_app (goodIn_of _ (by decide +kernel)) ggX8_told_X8_wrongEntry
theorem dX8_told_0 : decode cX8_told 0 = .ok (.iload_n 1, 1) := by decide +kernel
theorem dX8_told_1 : decode cX8_told 1 = .ok (.tableswitch 147 0 13 #[71, 78, 83, 88, 95, 102, 107, 112, 117, 122, 127, 132, 137, 142], 71) := by decide +kernel
theorem dX8_told_72 : decode cX8_told 72 = .ok (.aload_n 0, 1) := by decide +kernel
theorem dX8_told_73 : decode cX8_told 73 = .ok (.getfield 9, 3) := by decide +kernel
theorem dX8_told_76 : decode cX8_told 76 = .ok (.iconst 0, 1) := by decide +kernel
theorem dX8_told_77 : decode cX8_told 77 = .ok (.iaload, 1) := by decide +kernel
theorem dX8_told_78 : decode cX8_told 78 = .ok (.ireturn, 1) := by decide +kernel
theorem dX8_told_79 : decode cX8_told 79 = .ok (.aload_n 0, 1) := by decide +kernel
theorem dX8_told_80 : decode cX8_told 80 = .ok (.invokevirtual 149, 3) := by decide +kernel
theorem dX8_told_83 : decode cX8_told 83 = .ok (.ireturn, 1) := by decide +kernel
theorem dX8_told_84 : decode cX8_told 84 = .ok (.aload_n 0, 1) := by decide +kernel
theorem dX8_told_85 : decode cX8_told 85 = .ok (.invokevirtual 152, 3) := by decide +kernel
theorem dX8_told_88 : decode cX8_told 88 = .ok (.ireturn, 1) := by decide +kernel
theorem dX8_told_89 : decode cX8_told 89 = .ok (.aload_n 0, 1) := by decide +kernel
theorem dX8_told_90 : decode cX8_told 90 = .ok (.getfield 9, 3) := by decide +kernel
theorem dX8_told_93 : decode cX8_told 93 = .ok (.iconst 1, 1) := by decide +kernel
theorem dX8_told_94 : decode cX8_told 94 = .ok (.iaload, 1) := by decide +kernel
theorem dX8_told_95 : decode cX8_told 95 = .ok (.ireturn, 1) := by decide +kernel
theorem dX8_told_96 : decode cX8_told 96 = .ok (.aload_n 0, 1) := by decide +kernel
theorem dX8_told_97 : decode cX8_told 97 = .ok (.getfield 9, 3) := by decide +kernel
theorem dX8_told_100 : decode cX8_told 100 = .ok (.iconst 2, 1) := by decide +kernel
theorem dX8_told_101 : decode cX8_told 101 = .ok (.iaload, 1) := by decide +kernel
theorem dX8_told_102 : decode cX8_told 102 = .ok (.ireturn, 1) := by decide +kernel
theorem dX8_told_103 : decode cX8_told 103 = .ok (.aload_n 0, 1) := by decide +kernel
theorem dX8_told_104 : decode cX8_told 104 = .ok (.invokevirtual 155, 3) := by decide +kernel
theorem dX8_told_107 : decode cX8_told 107 = .ok (.ireturn, 1) := by decide +kernel
theorem dX8_told_108 : decode cX8_told 108 = .ok (.aload_n 0, 1) := by decide +kernel
theorem dX8_told_109 : decode cX8_told 109 = .ok (.invokevirtual 158, 3) := by decide +kernel
theorem dX8_told_112 : decode cX8_told 112 = .ok (.ireturn, 1) := by decide +kernel
theorem dX8_told_113 : decode cX8_told 113 = .ok (.aload_n 0, 1) := by decide +kernel
theorem dX8_told_114 : decode cX8_told 114 = .ok (.invokevirtual 161, 3) := by decide +kernel
theorem dX8_told_117 : decode cX8_told 117 = .ok (.ireturn, 1) := by decide +kernel
theorem dX8_told_118 : decode cX8_told 118 = .ok (.aload_n 0, 1) := by decide +kernel
theorem dX8_told_119 : decode cX8_told 119 = .ok (.invokevirtual 164, 3) := by decide +kernel
theorem dX8_told_122 : decode cX8_told 122 = .ok (.ireturn, 1) := by decide +kernel
theorem dX8_told_123 : decode cX8_told 123 = .ok (.aload_n 0, 1) := by decide +kernel
theorem dX8_told_124 : decode cX8_told 124 = .ok (.invokevirtual 167, 3) := by decide +kernel
theorem dX8_told_127 : decode cX8_told 127 = .ok (.ireturn, 1) := by decide +kernel
theorem dX8_told_128 : decode cX8_told 128 = .ok (.aload_n 0, 1) := by decide +kernel
theorem dX8_told_129 : decode cX8_told 129 = .ok (.getfield 143, 3) := by decide +kernel
theorem dX8_told_132 : decode cX8_told 132 = .ok (.ireturn, 1) := by decide +kernel
theorem dX8_told_133 : decode cX8_told 133 = .ok (.aload_n 0, 1) := by decide +kernel
theorem dX8_told_134 : decode cX8_told 134 = .ok (.invokevirtual 170, 3) := by decide +kernel
theorem dX8_told_137 : decode cX8_told 137 = .ok (.ireturn, 1) := by decide +kernel
theorem dX8_told_138 : decode cX8_told 138 = .ok (.aload_n 0, 1) := by decide +kernel
theorem dX8_told_139 : decode cX8_told 139 = .ok (.getfield 173, 3) := by decide +kernel
theorem dX8_told_142 : decode cX8_told 142 = .ok (.ireturn, 1) := by decide +kernel
theorem dX8_told_143 : decode cX8_told 143 = .ok (.aload_n 0, 1) := by decide +kernel
theorem dX8_told_144 : decode cX8_told 144 = .ok (.getfield 176, 3) := by decide +kernel
theorem dX8_told_147 : decode cX8_told 147 = .ok (.ireturn, 1) := by decide +kernel
theorem dX8_told_148 : decode cX8_told 148 = .ok (.ldc 179, 2) := by decide +kernel
theorem dX8_told_150 : decode cX8_told 150 = .ok (.ireturn, 1) := by decide +kernel
set_option maxRecDepth 20000 in
theorem ggX8_at_X8_isNode : GoodIn wsX8_at wsX8_isNode := goodIn_r _ [10, 3, 11, 12, 9, 13, 56, 57, 58, 59, 60, 61, 62, 63, 64, 65, 66, 67, 68, 69, 70, 71, 72] (by decide +kernel) (by decide +kernel)
set_option maxRecDepth 20000 in
theorem gX8_at_X8_isNode : GoodIn wsX8_at (wsV RX8 51 RX8 yX8_isNode wsX8_isNode) := goodIn_app (goodIn_of _ (by decide +kernel)) ggX8_at_X8_isNode
set_option maxRecDepth 20000 in
theorem ggX8_at_X8_layWays : GoodIn wsX8_at wsX8_layWays := goodIn_r _ [17, 4, 18, 19, 20, 21, 22, 23, 9, 24, 3, 2, 25, 26, 27, 28, 29, 30, 31, 32, 33, 34, 35, 36, 37, 38, 39, 40, 41, 42, 43, 44, 45, 46, 47, 48, 49, 50, 51, 56, 57, 58, 59, 60, 61, 62, 63, 64, 65, 66, 67, 68, 69, 70, 71, 72] (by decide +kernel) (by decide +kernel)
set_option maxRecDepth 20000 in
theorem gX8_at_X8_layWays : GoodIn wsX8_at (wsV RX8 98 RX8 yX8_layWays wsX8_layWays) := goodIn_app (goodIn_of _ (by decide +kernel)) ggX8_at_X8_layWays
set_option maxRecDepth 20000 in
theorem ggX8_at_X8_upper : GoodIn wsX8_at wsX8_upper := goodIn_r _ [47, 3, 2, 33, 34, 9, 35, 56, 57, 58, 59, 60, 61, 62, 63, 64, 65, 66, 67, 68, 69, 70, 71, 72] (by decide +kernel) (by decide +kernel)
set_option maxRecDepth 20000 in
theorem gX8_at_X8_upper : GoodIn wsX8_at (wsV RX8 74 RX8 yX8_upper wsX8_upper) := goodIn_app (goodIn_of _ (by decide +kernel)) ggX8_at_X8_upper
set_option maxRecDepth 20000 in
theorem ggX8_at_X8_lettersTo : GoodIn wsX8_at wsX8_lettersTo := goodIn_r _ [55, 18, 20, 21, 22, 23, 9, 24, 3, 2, 25, 26, 27, 28, 29, 30, 31, 32, 33, 34, 35, 36, 37, 38, 39, 40, 41, 42, 43, 19, 44, 45, 46, 47, 48, 49, 50, 51, 56, 57, 58, 59, 60, 61, 62, 63, 64, 65, 66, 67, 68, 69, 70, 71, 72] (by decide +kernel) (by decide +kernel)
set_option maxRecDepth 20000 in
theorem gX8_at_X8_lettersTo : GoodIn wsX8_at (wsV RX8 181 RX8 yX8_lettersTo wsX8_lettersTo) := goodIn_app (goodIn_of _ (by decide +kernel)) ggX8_at_X8_lettersTo
theorem dX8_at_0 : decode cX8_at 0 = .ok (.aload_n 0, 1) := by decide +kernel
theorem dX8_at_1 : decode cX8_at 1 = .ok (.iload_n 1, 1) := by decide +kernel
theorem dX8_at_2 : decode cX8_at 2 = .ok (.invokevirtual 51, 3) := by decide +kernel
theorem dX8_at_5 : decode cX8_at 5 = .ok (.ifCond .ne 6, 3) := by decide +kernel
theorem dX8_at_8 : decode cX8_at 8 = .ok (.ldc 180, 2) := by decide +kernel
theorem dX8_at_10 : decode cX8_at 10 = .ok (.ireturn, 1) := by decide +kernel
theorem dX8_at_11 : decode cX8_at 11 = .ok (.aload_n 0, 1) := by decide +kernel
theorem dX8_at_12 : decode cX8_at 12 = .ok (.invokevirtual 98, 3) := by decide +kernel
theorem dX8_at_15 : decode cX8_at 15 = .ok (.iload_n 2, 1) := by decide +kernel
theorem dX8_at_16 : decode cX8_at 16 = .ok (.tableswitch 85 0 5 #[40, 47, 56, 62, 72, 79], 40) := by decide +kernel
theorem dX8_at_56 : decode cX8_at 56 = .ok (.aload_n 0, 1) := by decide +kernel
theorem dX8_at_57 : decode cX8_at 57 = .ok (.getfield 22, 3) := by decide +kernel
theorem dX8_at_60 : decode cX8_at 60 = .ok (.iload_n 1, 1) := by decide +kernel
theorem dX8_at_61 : decode cX8_at 61 = .ok (.iaload, 1) := by decide +kernel
theorem dX8_at_62 : decode cX8_at 62 = .ok (.ireturn, 1) := by decide +kernel
theorem dX8_at_63 : decode cX8_at 63 = .ok (.aload_n 0, 1) := by decide +kernel
theorem dX8_at_64 : decode cX8_at 64 = .ok (.getfield 9, 3) := by decide +kernel
theorem dX8_at_67 : decode cX8_at 67 = .ok (.iconst 3, 1) := by decide +kernel
theorem dX8_at_68 : decode cX8_at 68 = .ok (.iload_n 1, 1) := by decide +kernel
theorem dX8_at_69 : decode cX8_at 69 = .ok (.iadd, 1) := by decide +kernel
theorem dX8_at_70 : decode cX8_at 70 = .ok (.iaload, 1) := by decide +kernel
theorem dX8_at_71 : decode cX8_at 71 = .ok (.ireturn, 1) := by decide +kernel
theorem dX8_at_72 : decode cX8_at 72 = .ok (.aload_n 0, 1) := by decide +kernel
theorem dX8_at_73 : decode cX8_at 73 = .ok (.iload_n 1, 1) := by decide +kernel
theorem dX8_at_74 : decode cX8_at 74 = .ok (.invokevirtual 74, 3) := by decide +kernel
theorem dX8_at_77 : decode cX8_at 77 = .ok (.ireturn, 1) := by decide +kernel
theorem dX8_at_78 : decode cX8_at 78 = .ok (.aload_n 0, 1) := by decide +kernel
theorem dX8_at_79 : decode cX8_at 79 = .ok (.getfield 9, 3) := by decide +kernel
theorem dX8_at_82 : decode cX8_at 82 = .ok (.bipush 21, 2) := by decide +kernel
theorem dX8_at_84 : decode cX8_at 84 = .ok (.iload_n 1, 1) := by decide +kernel
theorem dX8_at_85 : decode cX8_at 85 = .ok (.iadd, 1) := by decide +kernel
theorem dX8_at_86 : decode cX8_at 86 = .ok (.iaload, 1) := by decide +kernel
theorem dX8_at_87 : decode cX8_at 87 = .ok (.ireturn, 1) := by decide +kernel
theorem dX8_at_88 : decode cX8_at 88 = .ok (.aload_n 0, 1) := by decide +kernel
theorem dX8_at_89 : decode cX8_at 89 = .ok (.getfield 31, 3) := by decide +kernel
theorem dX8_at_92 : decode cX8_at 92 = .ok (.iload_n 1, 1) := by decide +kernel
theorem dX8_at_93 : decode cX8_at 93 = .ok (.iaload, 1) := by decide +kernel
theorem dX8_at_94 : decode cX8_at 94 = .ok (.ireturn, 1) := by decide +kernel
theorem dX8_at_95 : decode cX8_at 95 = .ok (.aload_n 0, 1) := by decide +kernel
theorem dX8_at_96 : decode cX8_at 96 = .ok (.iload_n 1, 1) := by decide +kernel
theorem dX8_at_97 : decode cX8_at 97 = .ok (.invokevirtual 181, 3) := by decide +kernel
theorem dX8_at_100 : decode cX8_at 100 = .ok (.ireturn, 1) := by decide +kernel
theorem dX8_at_101 : decode cX8_at 101 = .ok (.ldc 179, 2) := by decide +kernel
theorem dX8_at_103 : decode cX8_at 103 = .ok (.ireturn, 1) := by decide +kernel
set_option maxRecDepth 20000 in
theorem ggX8_isLost_X8_isLinked : GoodIn wsX8_isLost wsX8_isLinked := goodIn_r _ [7, 1, 8, 9, 10, 6, 11, 12, 13, 14, 15, 16, 17, 18, 19, 20, 21, 22, 23, 24, 25, 26, 27, 28, 29, 30, 31, 32, 33, 34] (by decide +kernel) (by decide +kernel)
set_option maxRecDepth 20000 in
theorem gX8_isLost_X8_isLinked : GoodIn wsX8_isLost (wsV RX8 184 RX8 yX8_isLinked wsX8_isLinked) := goodIn_app (goodIn_of _ (by decide +kernel)) ggX8_isLost_X8_isLinked
set_option maxRecDepth 20000 in
theorem ggX8_isLost_X8_has : GoodIn wsX8_isLost wsX8_has := goodIn_r _ [17] (by decide +kernel) (by decide +kernel)
set_option maxRecDepth 20000 in
theorem gX8_isLost_X8_has : GoodIn wsX8_isLost (va_wsS RX8 55 yX8_has wsX8_has) := goodIn_app (goodIn_of _ (by decide +kernel)) ggX8_isLost_X8_has
theorem dX8_isLost_0 : decode cX8_isLost 0 = .ok (.aload_n 0, 1) := by decide +kernel
theorem dX8_isLost_1 : decode cX8_isLost 1 = .ok (.iload_n 1, 1) := by decide +kernel
theorem dX8_isLost_2 : decode cX8_isLost 2 = .ok (.iload_n 2, 1) := by decide +kernel
theorem dX8_isLost_3 : decode cX8_isLost 3 = .ok (.invokevirtual 184, 3) := by decide +kernel
theorem dX8_isLost_6 : decode cX8_isLost 6 = .ok (.ifCond .eq 27, 3) := by decide +kernel
theorem dX8_isLost_9 : decode cX8_isLost 9 = .ok (.aload_n 0, 1) := by decide +kernel
theorem dX8_isLost_10 : decode cX8_isLost 10 = .ok (.getfield 9, 3) := by decide +kernel
theorem dX8_isLost_13 : decode cX8_isLost 13 = .ok (.bipush 12, 2) := by decide +kernel
theorem dX8_isLost_15 : decode cX8_isLost 15 = .ok (.iload_n 1, 1) := by decide +kernel
theorem dX8_isLost_16 : decode cX8_isLost 16 = .ok (.iadd, 1) := by decide +kernel
theorem dX8_isLost_17 : decode cX8_isLost 17 = .ok (.iaload, 1) := by decide +kernel
theorem dX8_isLost_18 : decode cX8_isLost 18 = .ok (.iload_n 2, 1) := by decide +kernel
theorem dX8_isLost_19 : decode cX8_isLost 19 = .ok (.invokestatic 55, 3) := by decide +kernel
theorem dX8_isLost_22 : decode cX8_isLost 22 = .ok (.ifCond .eq 7, 3) := by decide +kernel
theorem dX8_isLost_25 : decode cX8_isLost 25 = .ok (.iconst 1, 1) := by decide +kernel
theorem dX8_isLost_26 : decode cX8_isLost 26 = .ok (.goto 9, 3) := by decide +kernel
theorem dX8_isLost_29 : decode cX8_isLost 29 = .ok (.iconst 0, 1) := by decide +kernel
theorem dX8_isLost_30 : decode cX8_isLost 30 = .ok (.goto 5, 3) := by decide +kernel
theorem dX8_isLost_33 : decode cX8_isLost 33 = .ok (.ldc 180, 2) := by decide +kernel
theorem dX8_isLost_35 : decode cX8_isLost 35 = .ok (.ireturn, 1) := by decide +kernel
set_option maxRecDepth 20000 in
theorem ggX8_mark_X8_in : GoodIn wsX8_mark wsX8_in := goodIn_r _ [5] (by decide +kernel) (by decide +kernel)
set_option maxRecDepth 20000 in
theorem gX8_mark_X8_in : GoodIn wsX8_mark (va_wsS RX8 47 yX8_in wsX8_in) := goodIn_app (goodIn_of _ (by decide +kernel)) ggX8_mark_X8_in
set_option maxRecDepth 20000 in
theorem ggX8_mark_X8_markOf : GoodIn wsX8_mark wsX8_markOf := goodIn_r _ [9, 10, 11, 12, 13, 14, 19, 20, 21, 22, 23, 24, 25, 26, 27, 28, 29, 30, 31, 32, 33, 34, 35] (by decide +kernel) (by decide +kernel)
set_option maxRecDepth 20000 in
theorem gX8_mark_X8_markOf : GoodIn wsX8_mark (wsV RX8 67 RX8 yX8_markOf wsX8_markOf) := goodIn_app (goodIn_of _ (by decide +kernel)) ggX8_mark_X8_markOf
set_option maxRecDepth 20000 in
theorem ggX8_mark_X8_rankOf : GoodIn wsX8_mark wsX8_rankOf := goodIn_r _ [18, 6, 7, 8, 4, 9, 10, 11, 12, 13, 14, 19, 20, 21, 22, 23, 24, 25, 26, 27, 28, 29, 30, 31, 32, 33, 34, 35] (by decide +kernel) (by decide +kernel)
set_option maxRecDepth 20000 in
theorem gX8_mark_X8_rankOf : GoodIn wsX8_mark (wsV RX8 122 RX8 yX8_rankOf wsX8_rankOf) := goodIn_app (goodIn_of _ (by decide +kernel)) ggX8_mark_X8_rankOf
theorem dX8_mark_0 : decode cX8_mark 0 = .ok (.iload_n 1, 1) := by decide +kernel
theorem dX8_mark_1 : decode cX8_mark 1 = .ok (.iconst 0, 1) := by decide +kernel
theorem dX8_mark_2 : decode cX8_mark 2 = .ok (.bipush 15, 2) := by decide +kernel
theorem dX8_mark_4 : decode cX8_mark 4 = .ok (.invokestatic 47, 3) := by decide +kernel
theorem dX8_mark_7 : decode cX8_mark 7 = .ok (.ifCond .eq 12, 3) := by decide +kernel
theorem dX8_mark_10 : decode cX8_mark 10 = .ok (.iload_n 2, 1) := by decide +kernel
theorem dX8_mark_11 : decode cX8_mark 11 = .ok (.iconst 0, 1) := by decide +kernel
theorem dX8_mark_12 : decode cX8_mark 12 = .ok (.iconst 1, 1) := by decide +kernel
theorem dX8_mark_13 : decode cX8_mark 13 = .ok (.invokestatic 47, 3) := by decide +kernel
theorem dX8_mark_16 : decode cX8_mark 16 = .ok (.ifCond .ne 6, 3) := by decide +kernel
theorem dX8_mark_19 : decode cX8_mark 19 = .ok (.ldc 179, 2) := by decide +kernel
theorem dX8_mark_21 : decode cX8_mark 21 = .ok (.ireturn, 1) := by decide +kernel
theorem dX8_mark_22 : decode cX8_mark 22 = .ok (.iload_n 2, 1) := by decide +kernel
theorem dX8_mark_23 : decode cX8_mark 23 = .ok (.ifCond .ne 11, 3) := by decide +kernel
theorem dX8_mark_26 : decode cX8_mark 26 = .ok (.aload_n 0, 1) := by decide +kernel
theorem dX8_mark_27 : decode cX8_mark 27 = .ok (.iload_n 1, 1) := by decide +kernel
theorem dX8_mark_28 : decode cX8_mark 28 = .ok (.invokevirtual 67, 3) := by decide +kernel
theorem dX8_mark_31 : decode cX8_mark 31 = .ok (.goto 8, 3) := by decide +kernel
theorem dX8_mark_34 : decode cX8_mark 34 = .ok (.aload_n 0, 1) := by decide +kernel
theorem dX8_mark_35 : decode cX8_mark 35 = .ok (.iload_n 1, 1) := by decide +kernel
theorem dX8_mark_36 : decode cX8_mark 36 = .ok (.invokevirtual 122, 3) := by decide +kernel
theorem dX8_mark_39 : decode cX8_mark 39 = .ok (.ireturn, 1) := by decide +kernel
set_option maxRecDepth 20000 in
theorem ggX8_holds_X8_isNode : GoodIn wsX8_holds wsX8_isNode := goodIn_r _ [10, 11, 12, 13, 9, 14, 95, 96, 97, 98, 99, 100, 101, 102, 103, 104, 105, 106, 107, 108, 109, 110, 111] (by decide +kernel) (by decide +kernel)
set_option maxRecDepth 20000 in
theorem gX8_holds_X8_isNode : GoodIn wsX8_holds (wsV RX8 51 RX8 yX8_isNode wsX8_isNode) := goodIn_app (goodIn_of _ (by decide +kernel)) ggX8_holds_X8_isNode
set_option maxRecDepth 20000 in
theorem ggX8_holds_X8_in : GoodIn wsX8_holds wsX8_in := goodIn_r _ [14] (by decide +kernel) (by decide +kernel)
set_option maxRecDepth 20000 in
theorem gX8_holds_X8_in : GoodIn wsX8_holds (va_wsS RX8 47 yX8_in wsX8_in) := goodIn_app (goodIn_of _ (by decide +kernel)) ggX8_holds_X8_in
set_option maxRecDepth 20000 in
theorem ggX8_holds_X8_layHeld : GoodIn wsX8_holds wsX8_layHeld := goodIn_r _ [18, 11, 5, 19, 20, 21, 22, 23, 24, 9, 25, 3, 26, 27, 28, 29, 30, 31, 32, 33, 34, 35, 36, 37, 38, 39, 40, 41, 42, 43, 44, 45, 46, 47, 48, 49, 50, 51, 52, 53, 54, 55, 56, 57, 58, 59, 60, 61, 62, 63, 64, 65, 66, 67, 68, 69, 70, 71, 72, 73, 74, 75, 76, 77, 78, 79, 80, 81, 82, 83, 84, 85, 86, 87, 88, 89, 90, 91, 92, 93, 94, 95, 96, 97, 98, 99, 100, 101, 102, 103, 104, 105, 106, 107, 108, 109, 110, 111] (by decide +kernel) (by decide +kernel)
set_option maxRecDepth 20000 in
theorem gX8_holds_X8_layHeld : GoodIn wsX8_holds (wsV RX8 137 RX8 yX8_layHeld wsX8_layHeld) := goodIn_app (goodIn_of _ (by decide +kernel)) ggX8_holds_X8_layHeld
theorem dX8_holds_0 : decode cX8_holds 0 = .ok (.aload_n 0, 1) := by decide +kernel
theorem dX8_holds_1 : decode cX8_holds 1 = .ok (.iload_n 1, 1) := by decide +kernel
theorem dX8_holds_2 : decode cX8_holds 2 = .ok (.invokevirtual 51, 3) := by decide +kernel
theorem dX8_holds_5 : decode cX8_holds 5 = .ok (.ifCond .ne 7, 3) := by decide +kernel
theorem dX8_holds_8 : decode cX8_holds 8 = .ok (.ldc2_w 187, 3) := by decide +kernel
theorem dX8_holds_11 : decode cX8_holds 11 = .ok (.lreturn, 1) := by decide +kernel
theorem dX8_holds_12 : decode cX8_holds 12 = .ok (.iload_n 2, 1) := by decide +kernel
theorem dX8_holds_13 : decode cX8_holds 13 = .ok (.iconst 0, 1) := by decide +kernel
theorem dX8_holds_14 : decode cX8_holds 14 = .ok (.iconst 3, 1) := by decide +kernel
theorem dX8_holds_15 : decode cX8_holds 15 = .ok (.invokestatic 47, 3) := by decide +kernel
theorem dX8_holds_18 : decode cX8_holds 18 = .ok (.ifCond .ne 7, 3) := by decide +kernel
theorem dX8_holds_21 : decode cX8_holds 21 = .ok (.ldc2_w 189, 3) := by decide +kernel
theorem dX8_holds_24 : decode cX8_holds 24 = .ok (.lreturn, 1) := by decide +kernel
theorem dX8_holds_25 : decode cX8_holds 25 = .ok (.aload_n 0, 1) := by decide +kernel
theorem dX8_holds_26 : decode cX8_holds 26 = .ok (.iload_n 2, 1) := by decide +kernel
theorem dX8_holds_27 : decode cX8_holds 27 = .ok (.invokevirtual 137, 3) := by decide +kernel
theorem dX8_holds_30 : decode cX8_holds 30 = .ok (.aload_n 0, 1) := by decide +kernel
theorem dX8_holds_31 : decode cX8_holds 31 = .ok (.getfield 22, 3) := by decide +kernel
theorem dX8_holds_34 : decode cX8_holds 34 = .ok (.iload_n 1, 1) := by decide +kernel
theorem dX8_holds_35 : decode cX8_holds 35 = .ok (.iaload, 1) := by decide +kernel
theorem dX8_holds_36 : decode cX8_holds 36 = .ok (.iconst (-1), 1) := by decide +kernel
theorem dX8_holds_37 : decode cX8_holds 37 = .ok (.if_icmp .ne 9, 3) := by decide +kernel
theorem dX8_holds_40 : decode cX8_holds 40 = .ok (.ldc2_w 191, 3) := by decide +kernel
theorem dX8_holds_43 : decode cX8_holds 43 = .ok (.goto 9, 3) := by decide +kernel
theorem dX8_holds_46 : decode cX8_holds 46 = .ok (.aload_n 0, 1) := by decide +kernel
theorem dX8_holds_47 : decode cX8_holds 47 = .ok (.getfield 34, 3) := by decide +kernel
theorem dX8_holds_50 : decode cX8_holds 50 = .ok (.iload_n 1, 1) := by decide +kernel
theorem dX8_holds_51 : decode cX8_holds 51 = .ok (.laload, 1) := by decide +kernel
theorem dX8_holds_52 : decode cX8_holds 52 = .ok (.lreturn, 1) := by decide +kernel
set_option maxRecDepth 20000 in
theorem ggX8_guess_X8_isNode : GoodIn wsX8_guess wsX8_isNode := goodIn_r _ [8, 9, 10, 11, 7, 12, 102, 103, 104, 105, 106, 107, 108, 109, 110, 111, 112, 113, 114, 115, 116, 117, 118] (by decide +kernel) (by decide +kernel)
set_option maxRecDepth 20000 in
theorem gX8_guess_X8_isNode : GoodIn wsX8_guess (wsV RX8 51 RX8 yX8_isNode wsX8_isNode) := goodIn_app (goodIn_of _ (by decide +kernel)) ggX8_guess_X8_isNode
set_option maxRecDepth 20000 in
theorem ggX8_guess_X8_in : GoodIn wsX8_guess wsX8_in := goodIn_r _ [12] (by decide +kernel) (by decide +kernel)
set_option maxRecDepth 20000 in
theorem gX8_guess_X8_in : GoodIn wsX8_guess (va_wsS RX8 47 yX8_in wsX8_in) := goodIn_app (goodIn_of _ (by decide +kernel)) ggX8_guess_X8_in
set_option maxRecDepth 20000 in
theorem ggX8_guess_X8_layRings : GoodIn wsX8_guess wsX8_layRings := goodIn_r _ [16, 3, 17, 18, 19, 7, 20, 9, 21, 22, 23, 102, 103, 104, 105, 106, 107, 108, 109, 110, 111, 112, 113, 114, 115, 116, 117, 118] (by decide +kernel) (by decide +kernel)
set_option maxRecDepth 20000 in
theorem gX8_guess_X8_layRings : GoodIn wsX8_guess (wsV RX8 81 RX8 yX8_layRings wsX8_layRings) := goodIn_app (goodIn_of _ (by decide +kernel)) ggX8_guess_X8_layRings
set_option maxRecDepth 20000 in
theorem ggX8_guess_X8_byBits : GoodIn wsX8_guess wsX8_byBits := goodIn_r _ [27, 28, 29, 30, 31, 7, 32, 9, 33, 34, 35, 36, 37, 38, 39, 3, 13, 14, 15, 16, 17, 18, 19, 20, 21, 22, 23, 40, 41, 42, 43, 44, 45, 46, 47, 48, 49, 50, 51, 52, 53, 54, 55, 56, 57, 58, 59, 60, 61, 62, 63, 64, 65, 66, 67, 68, 69, 70, 71, 72, 73, 74, 75, 76, 77, 78, 79, 80, 81, 82, 83, 84, 85, 86, 87, 88, 89, 90, 91, 92, 93, 94, 95, 96, 97, 102, 103, 104, 105, 106, 107, 108, 109, 110, 111, 112, 113, 114, 115, 116, 117, 118] (by decide +kernel) (by decide +kernel)
set_option maxRecDepth 20000 in
theorem gX8_guess_X8_byBits : GoodIn wsX8_guess (wsV RX8 146 RX8 yX8_byBits wsX8_byBits) := goodIn_app (goodIn_of _ (by decide +kernel)) ggX8_guess_X8_byBits
set_option maxRecDepth 20000 in
theorem ggX8_guess_X8_byLeast : GoodIn wsX8_guess wsX8_byLeast := goodIn_r _ [101, 28, 89, 29, 30, 31, 7, 32, 9, 33, 34, 35, 36, 37, 38, 39, 3, 13, 14, 15, 16, 17, 18, 19, 20, 21, 22, 23, 40, 41, 42, 43, 44, 45, 46, 47, 48, 49, 50, 51, 52, 53, 54, 55, 56, 57, 58, 59, 60, 61, 62, 63, 64, 65, 66, 67, 68, 69, 70, 71, 72, 73, 74, 75, 76, 77, 78, 79, 80, 81, 82, 83, 84, 85, 86, 87, 88, 90, 91, 92, 93, 94, 95, 96, 97, 102, 103, 104, 105, 106, 107, 108, 109, 110, 111, 112, 113, 114, 115, 116, 117, 118] (by decide +kernel) (by decide +kernel)
set_option maxRecDepth 20000 in
theorem gX8_guess_X8_byLeast : GoodIn wsX8_guess (wsV RX8 193 RX8 yX8_byLeast wsX8_byLeast) := goodIn_app (goodIn_of _ (by decide +kernel)) ggX8_guess_X8_byLeast
theorem dX8_guess_0 : decode cX8_guess 0 = .ok (.aload_n 0, 1) := by decide +kernel
theorem dX8_guess_1 : decode cX8_guess 1 = .ok (.iload_n 1, 1) := by decide +kernel
theorem dX8_guess_2 : decode cX8_guess 2 = .ok (.invokevirtual 51, 3) := by decide +kernel
theorem dX8_guess_5 : decode cX8_guess 5 = .ok (.ifCond .ne 6, 3) := by decide +kernel
theorem dX8_guess_8 : decode cX8_guess 8 = .ok (.ldc 180, 2) := by decide +kernel
theorem dX8_guess_10 : decode cX8_guess 10 = .ok (.ireturn, 1) := by decide +kernel
theorem dX8_guess_11 : decode cX8_guess 11 = .ok (.iload_n 2, 1) := by decide +kernel
theorem dX8_guess_12 : decode cX8_guess 12 = .ok (.iconst 1, 1) := by decide +kernel
theorem dX8_guess_13 : decode cX8_guess 13 = .ok (.iconst 2, 1) := by decide +kernel
theorem dX8_guess_14 : decode cX8_guess 14 = .ok (.invokestatic 47, 3) := by decide +kernel
theorem dX8_guess_17 : decode cX8_guess 17 = .ok (.ifCond .ne 6, 3) := by decide +kernel
theorem dX8_guess_20 : decode cX8_guess 20 = .ok (.ldc 179, 2) := by decide +kernel
theorem dX8_guess_22 : decode cX8_guess 22 = .ok (.ireturn, 1) := by decide +kernel
theorem dX8_guess_23 : decode cX8_guess 23 = .ok (.aload_n 0, 1) := by decide +kernel
theorem dX8_guess_24 : decode cX8_guess 24 = .ok (.invokevirtual 81, 3) := by decide +kernel
theorem dX8_guess_27 : decode cX8_guess 27 = .ok (.aload_n 0, 1) := by decide +kernel
theorem dX8_guess_28 : decode cX8_guess 28 = .ok (.getfield 22, 3) := by decide +kernel
theorem dX8_guess_31 : decode cX8_guess 31 = .ok (.iload_n 1, 1) := by decide +kernel
theorem dX8_guess_32 : decode cX8_guess 32 = .ok (.iaload, 1) := by decide +kernel
theorem dX8_guess_33 : decode cX8_guess 33 = .ok (.iconst (-1), 1) := by decide +kernel
theorem dX8_guess_34 : decode cX8_guess 34 = .ok (.if_icmp .ne 5, 3) := by decide +kernel
theorem dX8_guess_37 : decode cX8_guess 37 = .ok (.iconst (-1), 1) := by decide +kernel
theorem dX8_guess_38 : decode cX8_guess 38 = .ok (.ireturn, 1) := by decide +kernel
theorem dX8_guess_39 : decode cX8_guess 39 = .ok (.iload_n 2, 1) := by decide +kernel
theorem dX8_guess_40 : decode cX8_guess 40 = .ok (.iconst 1, 1) := by decide +kernel
theorem dX8_guess_41 : decode cX8_guess 41 = .ok (.if_icmp .ne 11, 3) := by decide +kernel
theorem dX8_guess_44 : decode cX8_guess 44 = .ok (.aload_n 0, 1) := by decide +kernel
theorem dX8_guess_45 : decode cX8_guess 45 = .ok (.iload_n 1, 1) := by decide +kernel
theorem dX8_guess_46 : decode cX8_guess 46 = .ok (.invokevirtual 146, 3) := by decide +kernel
theorem dX8_guess_49 : decode cX8_guess 49 = .ok (.goto 8, 3) := by decide +kernel
theorem dX8_guess_52 : decode cX8_guess 52 = .ok (.aload_n 0, 1) := by decide +kernel
theorem dX8_guess_53 : decode cX8_guess 53 = .ok (.iload_n 1, 1) := by decide +kernel
theorem dX8_guess_54 : decode cX8_guess 54 = .ok (.invokevirtual 193, 3) := by decide +kernel
theorem dX8_guess_57 : decode cX8_guess 57 = .ok (.ireturn, 1) := by decide +kernel
set_option maxRecDepth 20000 in
theorem ggX8_off_X8_in : GoodIn wsX8_off wsX8_in := goodIn_r _ [6] (by decide +kernel) (by decide +kernel)
set_option maxRecDepth 20000 in
theorem gX8_off_X8_in : GoodIn wsX8_off (va_wsS RX8 47 yX8_in wsX8_in) := goodIn_app (goodIn_of _ (by decide +kernel)) ggX8_off_X8_in
set_option maxRecDepth 20000 in
theorem ggX8_off_X8_byBits : GoodIn wsX8_off wsX8_byBits := goodIn_r _ [10, 11, 12, 13, 14, 5, 15, 16, 17, 18, 19, 20, 21, 22, 23, 24, 25, 26, 27, 28, 29, 30, 31, 32, 33, 34, 35, 36, 37, 38, 39, 40, 41, 42, 43, 44, 45, 46, 47, 48, 49, 50, 51, 52, 53, 54, 55, 56, 57, 58, 59, 60, 61, 62, 63, 64, 65, 66, 67, 68, 69, 70, 71, 72, 73, 74, 75, 76, 77, 78, 79, 80, 81, 82, 83, 84, 85, 86, 87, 88, 89, 90, 91, 92, 93, 105, 106, 107, 108, 109, 110, 111, 112, 113, 114, 115, 116, 117, 118, 119, 120, 121] (by decide +kernel) (by decide +kernel)
set_option maxRecDepth 20000 in
theorem gX8_off_X8_byBits : GoodIn wsX8_off (wsV RX8 146 RX8 yX8_byBits wsX8_byBits) := goodIn_app (goodIn_of _ (by decide +kernel)) ggX8_off_X8_byBits
set_option maxRecDepth 20000 in
theorem ggX8_off_X8_byLeast : GoodIn wsX8_off wsX8_byLeast := goodIn_r _ [97, 11, 85, 12, 13, 14, 5, 15, 16, 17, 18, 19, 20, 21, 22, 23, 24, 25, 26, 27, 28, 29, 30, 31, 32, 33, 34, 35, 36, 37, 38, 39, 40, 41, 42, 43, 44, 45, 46, 47, 48, 49, 50, 51, 52, 53, 54, 55, 56, 57, 58, 59, 60, 61, 62, 63, 64, 65, 66, 67, 68, 69, 70, 71, 72, 73, 74, 75, 76, 77, 78, 79, 80, 81, 82, 83, 84, 86, 87, 88, 89, 90, 91, 92, 93, 105, 106, 107, 108, 109, 110, 111, 112, 113, 114, 115, 116, 117, 118, 119, 120, 121] (by decide +kernel) (by decide +kernel)
set_option maxRecDepth 20000 in
theorem gX8_off_X8_byLeast : GoodIn wsX8_off (wsV RX8 193 RX8 yX8_byLeast wsX8_byLeast) := goodIn_app (goodIn_of _ (by decide +kernel)) ggX8_off_X8_byLeast
set_option maxRecDepth 20000 in
theorem ggX8_off_X8_truth : GoodIn wsX8_off wsX8_truth := goodIn_r _ [101, 16, 24, 25, 26, 27, 5, 28, 29, 30, 31, 32, 33, 34, 35, 102, 103, 104, 105, 106, 107, 108, 109, 110, 111, 112, 113, 114, 115, 116, 117, 118, 119, 120, 121] (by decide +kernel) (by decide +kernel)
set_option maxRecDepth 20000 in
theorem gX8_off_X8_truth : GoodIn wsX8_off (wsV RX8 161 RX8 yX8_truth wsX8_truth) := goodIn_app (goodIn_of _ (by decide +kernel)) ggX8_off_X8_truth
theorem dX8_off_0 : decode cX8_off 0 = .ok (.iload_n 1, 1) := by decide +kernel
theorem dX8_off_1 : decode cX8_off 1 = .ok (.iconst 1, 1) := by decide +kernel
theorem dX8_off_2 : decode cX8_off 2 = .ok (.iconst 2, 1) := by decide +kernel
theorem dX8_off_3 : decode cX8_off 3 = .ok (.invokestatic 47, 3) := by decide +kernel
theorem dX8_off_6 : decode cX8_off 6 = .ok (.ifCond .ne 6, 3) := by decide +kernel
theorem dX8_off_9 : decode cX8_off 9 = .ok (.ldc 179, 2) := by decide +kernel
theorem dX8_off_11 : decode cX8_off 11 = .ok (.ireturn, 1) := by decide +kernel
theorem dX8_off_12 : decode cX8_off 12 = .ok (.iload_n 1, 1) := by decide +kernel
theorem dX8_off_13 : decode cX8_off 13 = .ok (.iconst 1, 1) := by decide +kernel
theorem dX8_off_14 : decode cX8_off 14 = .ok (.if_icmp .ne 11, 3) := by decide +kernel
theorem dX8_off_17 : decode cX8_off 17 = .ok (.aload_n 0, 1) := by decide +kernel
theorem dX8_off_18 : decode cX8_off 18 = .ok (.iconst 0, 1) := by decide +kernel
theorem dX8_off_19 : decode cX8_off 19 = .ok (.invokevirtual 146, 3) := by decide +kernel
theorem dX8_off_22 : decode cX8_off 22 = .ok (.goto 8, 3) := by decide +kernel
theorem dX8_off_25 : decode cX8_off 25 = .ok (.aload_n 0, 1) := by decide +kernel
theorem dX8_off_26 : decode cX8_off 26 = .ok (.iconst 0, 1) := by decide +kernel
theorem dX8_off_27 : decode cX8_off 27 = .ok (.invokevirtual 193, 3) := by decide +kernel
theorem dX8_off_30 : decode cX8_off 30 = .ok (.istore_n 2, 1) := by decide +kernel
theorem dX8_off_31 : decode cX8_off 31 = .ok (.iload_n 2, 1) := by decide +kernel
theorem dX8_off_32 : decode cX8_off 32 = .ok (.aload_n 0, 1) := by decide +kernel
theorem dX8_off_33 : decode cX8_off 33 = .ok (.invokevirtual 161, 3) := by decide +kernel
theorem dX8_off_36 : decode cX8_off 36 = .ok (.isub, 1) := by decide +kernel
theorem dX8_off_37 : decode cX8_off 37 = .ok (.ldc 196, 2) := by decide +kernel
theorem dX8_off_39 : decode cX8_off 39 = .ok (.iadd, 1) := by decide +kernel
theorem dX8_off_40 : decode cX8_off 40 = .ok (.ireturn, 1) := by decide +kernel
set_option maxRecDepth 20000 in
theorem ggX8_letter_X8_layLetters : GoodIn wsX8_letter wsX8_layLetters := goodIn_r _ [10, 1, 11, 12, 13, 14, 15, 9, 16, 17, 18, 19, 20, 21, 22, 23, 24, 25, 26, 27, 28, 29, 30, 31, 3, 4, 32, 33, 34, 35, 43, 44, 45, 46, 47, 48, 49, 50, 51, 52, 53, 54, 55, 56, 57, 58, 59] (by decide +kernel) (by decide +kernel)
set_option maxRecDepth 20000 in
theorem gX8_letter_X8_layLetters : GoodIn wsX8_letter (wsV RX8 92 RX8 yX8_layLetters wsX8_layLetters) := goodIn_app (goodIn_of _ (by decide +kernel)) ggX8_letter_X8_layLetters
set_option maxRecDepth 20000 in
theorem ggX8_letter_X8_in : GoodIn wsX8_letter wsX8_in := goodIn_r _ [38] (by decide +kernel) (by decide +kernel)
set_option maxRecDepth 20000 in
theorem gX8_letter_X8_in : GoodIn wsX8_letter (va_wsS RX8 47 yX8_in wsX8_in) := goodIn_app (goodIn_of _ (by decide +kernel)) ggX8_letter_X8_in
set_option maxRecDepth 20000 in
theorem ggX8_letter_X8_comes : GoodIn wsX8_letter wsX8_comes := goodIn_r _ [42, 11, 3, 4, 21, 22, 9, 23, 43, 44, 45, 46, 47, 48, 49, 50, 51, 52, 53, 54, 55, 56, 57, 58, 59] (by decide +kernel) (by decide +kernel)
set_option maxRecDepth 20000 in
theorem gX8_letter_X8_comes : GoodIn wsX8_letter (wsV RX8 95 RX8 yX8_comes wsX8_comes) := goodIn_app (goodIn_of _ (by decide +kernel)) ggX8_letter_X8_comes
theorem dX8_letter_0 : decode cX8_letter 0 = .ok (.aload_n 0, 1) := by decide +kernel
theorem dX8_letter_1 : decode cX8_letter 1 = .ok (.invokevirtual 92, 3) := by decide +kernel
theorem dX8_letter_4 : decode cX8_letter 4 = .ok (.iload_n 1, 1) := by decide +kernel
theorem dX8_letter_5 : decode cX8_letter 5 = .ok (.iconst 0, 1) := by decide +kernel
theorem dX8_letter_6 : decode cX8_letter 6 = .ok (.aload_n 0, 1) := by decide +kernel
theorem dX8_letter_7 : decode cX8_letter 7 = .ok (.getfield 77, 3) := by decide +kernel
theorem dX8_letter_10 : decode cX8_letter 10 = .ok (.iconst 1, 1) := by decide +kernel
theorem dX8_letter_11 : decode cX8_letter 11 = .ok (.isub, 1) := by decide +kernel
theorem dX8_letter_12 : decode cX8_letter 12 = .ok (.invokestatic 47, 3) := by decide +kernel
theorem dX8_letter_15 : decode cX8_letter 15 = .ok (.ifCond .ne 6, 3) := by decide +kernel
theorem dX8_letter_18 : decode cX8_letter 18 = .ok (.ldc 180, 2) := by decide +kernel
theorem dX8_letter_20 : decode cX8_letter 20 = .ok (.ireturn, 1) := by decide +kernel
theorem dX8_letter_21 : decode cX8_letter 21 = .ok (.iload_n 2, 1) := by decide +kernel
theorem dX8_letter_22 : decode cX8_letter 22 = .ok (.tableswitch 54 0 2 #[26, 33, 40], 26) := by decide +kernel
theorem dX8_letter_48 : decode cX8_letter 48 = .ok (.aload_n 0, 1) := by decide +kernel
theorem dX8_letter_49 : decode cX8_letter 49 = .ok (.getfield 25, 3) := by decide +kernel
theorem dX8_letter_52 : decode cX8_letter 52 = .ok (.iload_n 1, 1) := by decide +kernel
theorem dX8_letter_53 : decode cX8_letter 53 = .ok (.iaload, 1) := by decide +kernel
theorem dX8_letter_54 : decode cX8_letter 54 = .ok (.ireturn, 1) := by decide +kernel
theorem dX8_letter_55 : decode cX8_letter 55 = .ok (.aload_n 0, 1) := by decide +kernel
theorem dX8_letter_56 : decode cX8_letter 56 = .ok (.getfield 28, 3) := by decide +kernel
theorem dX8_letter_59 : decode cX8_letter 59 = .ok (.iload_n 1, 1) := by decide +kernel
theorem dX8_letter_60 : decode cX8_letter 60 = .ok (.iaload, 1) := by decide +kernel
theorem dX8_letter_61 : decode cX8_letter 61 = .ok (.ireturn, 1) := by decide +kernel
theorem dX8_letter_62 : decode cX8_letter 62 = .ok (.aload_n 0, 1) := by decide +kernel
theorem dX8_letter_63 : decode cX8_letter 63 = .ok (.iload_n 1, 1) := by decide +kernel
theorem dX8_letter_64 : decode cX8_letter 64 = .ok (.invokevirtual 95, 3) := by decide +kernel
theorem dX8_letter_67 : decode cX8_letter 67 = .ok (.ifCond .eq 7, 3) := by decide +kernel
theorem dX8_letter_70 : decode cX8_letter 70 = .ok (.iconst 1, 1) := by decide +kernel
theorem dX8_letter_71 : decode cX8_letter 71 = .ok (.goto 4, 3) := by decide +kernel
theorem dX8_letter_74 : decode cX8_letter 74 = .ok (.iconst 0, 1) := by decide +kernel
theorem dX8_letter_75 : decode cX8_letter 75 = .ok (.ireturn, 1) := by decide +kernel
theorem dX8_letter_76 : decode cX8_letter 76 = .ok (.ldc 179, 2) := by decide +kernel
theorem dX8_letter_78 : decode cX8_letter 78 = .ok (.ireturn, 1) := by decide +kernel
set_option maxRecDepth 20000 in
theorem ggX8_sent_X8_layLetters : GoodIn wsX8_sent wsX8_layLetters := goodIn_r _ [10, 1, 11, 12, 13, 14, 15, 9, 16, 17, 18, 19, 20, 21, 22, 23, 24, 25, 26, 27, 28, 29, 30, 31, 5, 32, 33, 34, 35, 36, 90, 91, 92, 93, 94, 95, 96, 97, 98, 99, 100, 101, 102, 103, 104, 105, 106] (by decide +kernel) (by decide +kernel)
set_option maxRecDepth 20000 in
theorem gX8_sent_X8_layLetters : GoodIn wsX8_sent (wsV RX8 92 RX8 yX8_layLetters wsX8_layLetters) := goodIn_app (goodIn_of _ (by decide +kernel)) ggX8_sent_X8_layLetters
set_option maxRecDepth 20000 in
theorem ggX8_sent_X8_in : GoodIn wsX8_sent wsX8_in := goodIn_r _ [39] (by decide +kernel) (by decide +kernel)
set_option maxRecDepth 20000 in
theorem gX8_sent_X8_in : GoodIn wsX8_sent (va_wsS RX8 47 yX8_in wsX8_in) := goodIn_app (goodIn_of _ (by decide +kernel)) ggX8_sent_X8_in
set_option maxRecDepth 20000 in
theorem ggX8_sent_X8_layHeld : GoodIn wsX8_sent wsX8_layHeld := goodIn_r _ [43, 11, 4, 1, 32, 5, 6, 7, 8, 9, 10, 12, 13, 14, 15, 16, 17, 18, 19, 20, 21, 22, 23, 24, 25, 26, 27, 28, 29, 30, 31, 33, 34, 35, 36, 44, 45, 46, 47, 48, 49, 50, 51, 52, 53, 54, 55, 56, 57, 58, 59, 60, 61, 62, 63, 64, 65, 66, 67, 68, 69, 70, 71, 72, 73, 74, 75, 76, 77, 78, 79, 80, 81, 82, 83, 84, 85, 86, 87, 88, 89, 90, 91, 92, 93, 94, 95, 96, 97, 98, 99, 100, 101, 102, 103, 104, 105, 106] (by decide +kernel) (by decide +kernel)
set_option maxRecDepth 20000 in
theorem gX8_sent_X8_layHeld : GoodIn wsX8_sent (wsV RX8 137 RX8 yX8_layHeld wsX8_layHeld) := goodIn_app (goodIn_of _ (by decide +kernel)) ggX8_sent_X8_layHeld
theorem dX8_sent_0 : decode cX8_sent 0 = .ok (.aload_n 0, 1) := by decide +kernel
theorem dX8_sent_1 : decode cX8_sent 1 = .ok (.invokevirtual 92, 3) := by decide +kernel
theorem dX8_sent_4 : decode cX8_sent 4 = .ok (.iload_n 1, 1) := by decide +kernel
theorem dX8_sent_5 : decode cX8_sent 5 = .ok (.iconst 0, 1) := by decide +kernel
theorem dX8_sent_6 : decode cX8_sent 6 = .ok (.aload_n 0, 1) := by decide +kernel
theorem dX8_sent_7 : decode cX8_sent 7 = .ok (.getfield 77, 3) := by decide +kernel
theorem dX8_sent_10 : decode cX8_sent 10 = .ok (.iconst 1, 1) := by decide +kernel
theorem dX8_sent_11 : decode cX8_sent 11 = .ok (.isub, 1) := by decide +kernel
theorem dX8_sent_12 : decode cX8_sent 12 = .ok (.invokestatic 47, 3) := by decide +kernel
theorem dX8_sent_15 : decode cX8_sent 15 = .ok (.ifCond .ne 7, 3) := by decide +kernel
theorem dX8_sent_18 : decode cX8_sent 18 = .ok (.ldc2_w 187, 3) := by decide +kernel
theorem dX8_sent_21 : decode cX8_sent 21 = .ok (.lreturn, 1) := by decide +kernel
theorem dX8_sent_22 : decode cX8_sent 22 = .ok (.iload_n 2, 1) := by decide +kernel
theorem dX8_sent_23 : decode cX8_sent 23 = .ok (.iconst 0, 1) := by decide +kernel
theorem dX8_sent_24 : decode cX8_sent 24 = .ok (.iconst 3, 1) := by decide +kernel
theorem dX8_sent_25 : decode cX8_sent 25 = .ok (.invokestatic 47, 3) := by decide +kernel
theorem dX8_sent_28 : decode cX8_sent 28 = .ok (.ifCond .ne 7, 3) := by decide +kernel
theorem dX8_sent_31 : decode cX8_sent 31 = .ok (.ldc2_w 189, 3) := by decide +kernel
theorem dX8_sent_34 : decode cX8_sent 34 = .ok (.lreturn, 1) := by decide +kernel
theorem dX8_sent_35 : decode cX8_sent 35 = .ok (.aload_n 0, 1) := by decide +kernel
theorem dX8_sent_36 : decode cX8_sent 36 = .ok (.iload_n 2, 1) := by decide +kernel
theorem dX8_sent_37 : decode cX8_sent 37 = .ok (.invokevirtual 137, 3) := by decide +kernel
theorem dX8_sent_40 : decode cX8_sent 40 = .ok (.aload_n 0, 1) := by decide +kernel
theorem dX8_sent_41 : decode cX8_sent 41 = .ok (.getfield 34, 3) := by decide +kernel
theorem dX8_sent_44 : decode cX8_sent 44 = .ok (.aload_n 0, 1) := by decide +kernel
theorem dX8_sent_45 : decode cX8_sent 45 = .ok (.getfield 25, 3) := by decide +kernel
theorem dX8_sent_48 : decode cX8_sent 48 = .ok (.iload_n 1, 1) := by decide +kernel
theorem dX8_sent_49 : decode cX8_sent 49 = .ok (.iaload, 1) := by decide +kernel
theorem dX8_sent_50 : decode cX8_sent 50 = .ok (.laload, 1) := by decide +kernel
theorem dX8_sent_51 : decode cX8_sent 51 = .ok (.lreturn, 1) := by decide +kernel
theorem dX8_oneMore_0 : decode cX8_oneMore 0 = .ok (.iconst 0, 1) := by decide +kernel
theorem dX8_oneMore_1 : decode cX8_oneMore 1 = .ok (.istore_n 1, 1) := by decide +kernel
theorem dX8_oneMore_2 : decode cX8_oneMore 2 = .ok (.iload_n 1, 1) := by decide +kernel
theorem dX8_oneMore_3 : decode cX8_oneMore 3 = .ok (.sipush 256, 3) := by decide +kernel
theorem dX8_oneMore_6 : decode cX8_oneMore 6 = .ok (.if_icmp .ge 16, 3) := by decide +kernel
theorem dX8_oneMore_9 : decode cX8_oneMore 9 = .ok (.aload_n 0, 1) := by decide +kernel
theorem dX8_oneMore_10 : decode cX8_oneMore 10 = .ok (.getfield 44, 3) := by decide +kernel
theorem dX8_oneMore_13 : decode cX8_oneMore 13 = .ok (.iload_n 1, 1) := by decide +kernel
theorem dX8_oneMore_14 : decode cX8_oneMore 14 = .ok (.lconst 0, 1) := by decide +kernel
theorem dX8_oneMore_15 : decode cX8_oneMore 15 = .ok (.lastore, 1) := by decide +kernel
theorem dX8_oneMore_16 : decode cX8_oneMore 16 = .ok (.iinc 1 1, 3) := by decide +kernel
theorem dX8_oneMore_19 : decode cX8_oneMore 19 = .ok (.goto (-17), 3) := by decide +kernel
theorem dX8_oneMore_22 : decode cX8_oneMore 22 = .ok (.iconst 0, 1) := by decide +kernel
theorem dX8_oneMore_23 : decode cX8_oneMore 23 = .ok (.istore_n 1, 1) := by decide +kernel
theorem dX8_oneMore_24 : decode cX8_oneMore 24 = .ok (.iload_n 1, 1) := by decide +kernel
theorem dX8_oneMore_25 : decode cX8_oneMore 25 = .ok (.sipush 256, 3) := by decide +kernel
theorem dX8_oneMore_28 : decode cX8_oneMore 28 = .ok (.if_icmp .ge 61, 3) := by decide +kernel
theorem dX8_oneMore_31 : decode cX8_oneMore 31 = .ok (.iconst 0, 1) := by decide +kernel
theorem dX8_oneMore_32 : decode cX8_oneMore 32 = .ok (.istore_n 2, 1) := by decide +kernel
theorem dX8_oneMore_33 : decode cX8_oneMore 33 = .ok (.iload_n 2, 1) := by decide +kernel
theorem dX8_oneMore_34 : decode cX8_oneMore 34 = .ok (.bipush 8, 2) := by decide +kernel
theorem dX8_oneMore_36 : decode cX8_oneMore 36 = .ok (.if_icmp .ge 47, 3) := by decide +kernel
theorem dX8_oneMore_39 : decode cX8_oneMore 39 = .ok (.iload_n 2, 1) := by decide +kernel
theorem dX8_oneMore_40 : decode cX8_oneMore 40 = .ok (.bipush 7, 2) := by decide +kernel
theorem dX8_oneMore_42 : decode cX8_oneMore 42 = .ok (.if_icmp .ne 7, 3) := by decide +kernel
theorem dX8_oneMore_45 : decode cX8_oneMore 45 = .ok (.lconst 1, 1) := by decide +kernel
theorem dX8_oneMore_46 : decode cX8_oneMore 46 = .ok (.goto 9, 3) := by decide +kernel
theorem dX8_oneMore_49 : decode cX8_oneMore 49 = .ok (.lconst 1, 1) := by decide +kernel
theorem dX8_oneMore_50 : decode cX8_oneMore 50 = .ok (.bipush 6, 2) := by decide +kernel
theorem dX8_oneMore_52 : decode cX8_oneMore 52 = .ok (.iload_n 2, 1) := by decide +kernel
theorem dX8_oneMore_53 : decode cX8_oneMore 53 = .ok (.isub, 1) := by decide +kernel
theorem dX8_oneMore_54 : decode cX8_oneMore 54 = .ok (.lshl, 1) := by decide +kernel
theorem dX8_oneMore_55 : decode cX8_oneMore 55 = .ok (.lstore_n 3, 1) := by decide +kernel
theorem dX8_oneMore_56 : decode cX8_oneMore 56 = .ok (.aload_n 0, 1) := by decide +kernel
theorem dX8_oneMore_57 : decode cX8_oneMore 57 = .ok (.getfield 44, 3) := by decide +kernel
theorem dX8_oneMore_60 : decode cX8_oneMore 60 = .ok (.iload_n 1, 1) := by decide +kernel
theorem dX8_oneMore_61 : decode cX8_oneMore 61 = .ok (.iconst 1, 1) := by decide +kernel
theorem dX8_oneMore_62 : decode cX8_oneMore 62 = .ok (.iload_n 2, 1) := by decide +kernel
theorem dX8_oneMore_63 : decode cX8_oneMore 63 = .ok (.ishl, 1) := by decide +kernel
theorem dX8_oneMore_64 : decode cX8_oneMore 64 = .ok (.ior, 1) := by decide +kernel
theorem dX8_oneMore_65 : decode cX8_oneMore 65 = .ok (.dup2, 1) := by decide +kernel
theorem dX8_oneMore_66 : decode cX8_oneMore 66 = .ok (.laload, 1) := by decide +kernel
theorem dX8_oneMore_67 : decode cX8_oneMore 67 = .ok (.lload_n 3, 1) := by decide +kernel
theorem dX8_oneMore_68 : decode cX8_oneMore 68 = .ok (.aload_n 0, 1) := by decide +kernel
theorem dX8_oneMore_69 : decode cX8_oneMore 69 = .ok (.getfield 41, 3) := by decide +kernel
theorem dX8_oneMore_72 : decode cX8_oneMore 72 = .ok (.iload_n 1, 1) := by decide +kernel
theorem dX8_oneMore_73 : decode cX8_oneMore 73 = .ok (.laload, 1) := by decide +kernel
theorem dX8_oneMore_74 : decode cX8_oneMore 74 = .ok (.lmul, 1) := by decide +kernel
theorem dX8_oneMore_75 : decode cX8_oneMore 75 = .ok (.ladd, 1) := by decide +kernel
theorem dX8_oneMore_76 : decode cX8_oneMore 76 = .ok (.lastore, 1) := by decide +kernel
theorem dX8_oneMore_77 : decode cX8_oneMore 77 = .ok (.iinc 2 1, 3) := by decide +kernel
theorem dX8_oneMore_80 : decode cX8_oneMore 80 = .ok (.goto (-47), 3) := by decide +kernel
theorem dX8_oneMore_83 : decode cX8_oneMore 83 = .ok (.iinc 1 1, 3) := by decide +kernel
theorem dX8_oneMore_86 : decode cX8_oneMore 86 = .ok (.goto (-62), 3) := by decide +kernel
theorem dX8_oneMore_89 : decode cX8_oneMore 89 = .ok (.iconst 0, 1) := by decide +kernel
theorem dX8_oneMore_90 : decode cX8_oneMore 90 = .ok (.istore_n 1, 1) := by decide +kernel
theorem dX8_oneMore_91 : decode cX8_oneMore 91 = .ok (.iload_n 1, 1) := by decide +kernel
theorem dX8_oneMore_92 : decode cX8_oneMore 92 = .ok (.sipush 256, 3) := by decide +kernel
theorem dX8_oneMore_95 : decode cX8_oneMore 95 = .ok (.if_icmp .ge 21, 3) := by decide +kernel
theorem dX8_oneMore_98 : decode cX8_oneMore 98 = .ok (.aload_n 0, 1) := by decide +kernel
theorem dX8_oneMore_99 : decode cX8_oneMore 99 = .ok (.getfield 41, 3) := by decide +kernel
theorem dX8_oneMore_102 : decode cX8_oneMore 102 = .ok (.iload_n 1, 1) := by decide +kernel
theorem dX8_oneMore_103 : decode cX8_oneMore 103 = .ok (.aload_n 0, 1) := by decide +kernel
theorem dX8_oneMore_104 : decode cX8_oneMore 104 = .ok (.getfield 44, 3) := by decide +kernel
theorem dX8_oneMore_107 : decode cX8_oneMore 107 = .ok (.iload_n 1, 1) := by decide +kernel
theorem dX8_oneMore_108 : decode cX8_oneMore 108 = .ok (.laload, 1) := by decide +kernel
theorem dX8_oneMore_109 : decode cX8_oneMore 109 = .ok (.lastore, 1) := by decide +kernel
theorem dX8_oneMore_110 : decode cX8_oneMore 110 = .ok (.iinc 1 1, 3) := by decide +kernel
theorem dX8_oneMore_113 : decode cX8_oneMore 113 = .ok (.goto (-22), 3) := by decide +kernel
theorem dX8_oneMore_116 : decode cX8_oneMore 116 = .ok (.return_, 1) := by decide +kernel
set_option maxRecDepth 20000 in
theorem ggX8_leastNot_X8_has : GoodIn wsX8_leastNot wsX8_has := goodIn_r _ [4] (by decide +kernel) (by decide +kernel)
set_option maxRecDepth 20000 in
theorem gX8_leastNot_X8_has : GoodIn wsX8_leastNot (va_wsS RX8 55 yX8_has wsX8_has) := goodIn_app (goodIn_of _ (by decide +kernel)) ggX8_leastNot_X8_has
theorem dX8_leastNot_0 : decode cX8_leastNot 0 = .ok (.iconst 0, 1) := by decide +kernel
theorem dX8_leastNot_1 : decode cX8_leastNot 1 = .ok (.istore_n 1, 1) := by decide +kernel
theorem dX8_leastNot_2 : decode cX8_leastNot 2 = .ok (.iload_n 1, 1) := by decide +kernel
theorem dX8_leastNot_3 : decode cX8_leastNot 3 = .ok (.bipush 8, 2) := by decide +kernel
theorem dX8_leastNot_5 : decode cX8_leastNot 5 = .ok (.if_icmp .ge 17, 3) := by decide +kernel
theorem dX8_leastNot_8 : decode cX8_leastNot 8 = .ok (.iload_n 0, 1) := by decide +kernel
theorem dX8_leastNot_9 : decode cX8_leastNot 9 = .ok (.iload_n 1, 1) := by decide +kernel
theorem dX8_leastNot_10 : decode cX8_leastNot 10 = .ok (.invokestatic 55, 3) := by decide +kernel
theorem dX8_leastNot_13 : decode cX8_leastNot 13 = .ok (.ifCond .eq 9, 3) := by decide +kernel
theorem dX8_leastNot_16 : decode cX8_leastNot 16 = .ok (.iinc 1 1, 3) := by decide +kernel
theorem dX8_leastNot_19 : decode cX8_leastNot 19 = .ok (.goto (-17), 3) := by decide +kernel
theorem dX8_leastNot_22 : decode cX8_leastNot 22 = .ok (.iload_n 1, 1) := by decide +kernel
theorem dX8_leastNot_23 : decode cX8_leastNot 23 = .ok (.ireturn, 1) := by decide +kernel
set_option maxRecDepth 20000 in
theorem ggX8_rows_X8_in : GoodIn wsX8_rows wsX8_in := goodIn_r _ [6] (by decide +kernel) (by decide +kernel)
set_option maxRecDepth 20000 in
theorem gX8_rows_X8_in : GoodIn wsX8_rows (va_wsS RX8 47 yX8_in wsX8_in) := goodIn_app (goodIn_of _ (by decide +kernel)) ggX8_rows_X8_in
set_option maxRecDepth 20000 in
theorem ggX8_rows_X8_oneMore : GoodIn wsX8_rows wsX8_oneMore := goodIn_r _ [10, 11, 2, 18, 19, 20, 21, 22, 23, 24, 25, 26, 27, 28, 29, 30, 31, 32, 33, 34] (by decide +kernel) (by decide +kernel)
set_option maxRecDepth 20000 in
theorem gX8_rows_X8_oneMore : GoodIn wsX8_rows (wsV RX8 197 RX8 yX8_oneMore wsX8_oneMore) := goodIn_app (goodIn_of _ (by decide +kernel)) ggX8_rows_X8_oneMore
set_option maxRecDepth 20000 in
theorem ggX8_rows_X8_leastNot : GoodIn wsX8_rows wsX8_leastNot := goodIn_r _ [14, 15, 16, 5, 17] (by decide +kernel) (by decide +kernel)
set_option maxRecDepth 20000 in
theorem gX8_rows_X8_leastNot : GoodIn wsX8_rows (va_wsS RX8 200 yX8_leastNot wsX8_leastNot) := goodIn_app (goodIn_of _ (by decide +kernel)) ggX8_rows_X8_leastNot
theorem dX8_rows_0 : decode cX8_rows 0 = .ok (.iload_n 1, 1) := by decide +kernel
theorem dX8_rows_1 : decode cX8_rows 1 = .ok (.iconst 1, 1) := by decide +kernel
theorem dX8_rows_2 : decode cX8_rows 2 = .ok (.bipush 8, 2) := by decide +kernel
theorem dX8_rows_4 : decode cX8_rows 4 = .ok (.invokestatic 47, 3) := by decide +kernel
theorem dX8_rows_7 : decode cX8_rows 7 = .ok (.ifCond .eq 13, 3) := by decide +kernel
theorem dX8_rows_10 : decode cX8_rows 10 = .ok (.iload_n 2, 1) := by decide +kernel
theorem dX8_rows_11 : decode cX8_rows 11 = .ok (.iconst 0, 1) := by decide +kernel
theorem dX8_rows_12 : decode cX8_rows 12 = .ok (.bipush 8, 2) := by decide +kernel
theorem dX8_rows_14 : decode cX8_rows 14 = .ok (.invokestatic 47, 3) := by decide +kernel
theorem dX8_rows_17 : decode cX8_rows 17 = .ok (.ifCond .ne 7, 3) := by decide +kernel
theorem dX8_rows_20 : decode cX8_rows 20 = .ok (.ldc2_w 189, 3) := by decide +kernel
theorem dX8_rows_23 : decode cX8_rows 23 = .ok (.lreturn, 1) := by decide +kernel
theorem dX8_rows_24 : decode cX8_rows 24 = .ok (.iconst 0, 1) := by decide +kernel
theorem dX8_rows_25 : decode cX8_rows 25 = .ok (.istore_n 3, 1) := by decide +kernel
theorem dX8_rows_26 : decode cX8_rows 26 = .ok (.iload_n 3, 1) := by decide +kernel
theorem dX8_rows_27 : decode cX8_rows 27 = .ok (.sipush 256, 3) := by decide +kernel
theorem dX8_rows_30 : decode cX8_rows 30 = .ok (.if_icmp .ge 24, 3) := by decide +kernel
theorem dX8_rows_33 : decode cX8_rows 33 = .ok (.aload_n 0, 1) := by decide +kernel
theorem dX8_rows_34 : decode cX8_rows 34 = .ok (.getfield 41, 3) := by decide +kernel
theorem dX8_rows_37 : decode cX8_rows 37 = .ok (.iload_n 3, 1) := by decide +kernel
theorem dX8_rows_38 : decode cX8_rows 38 = .ok (.iload_n 3, 1) := by decide +kernel
theorem dX8_rows_39 : decode cX8_rows 39 = .ok (.ifCond .ne 7, 3) := by decide +kernel
theorem dX8_rows_42 : decode cX8_rows 42 = .ok (.lconst 1, 1) := by decide +kernel
theorem dX8_rows_43 : decode cX8_rows 43 = .ok (.goto 4, 3) := by decide +kernel
theorem dX8_rows_46 : decode cX8_rows 46 = .ok (.lconst 0, 1) := by decide +kernel
theorem dX8_rows_47 : decode cX8_rows 47 = .ok (.lastore, 1) := by decide +kernel
theorem dX8_rows_48 : decode cX8_rows 48 = .ok (.iinc 3 1, 3) := by decide +kernel
theorem dX8_rows_51 : decode cX8_rows 51 = .ok (.goto (-25), 3) := by decide +kernel
theorem dX8_rows_54 : decode cX8_rows 54 = .ok (.iconst 0, 1) := by decide +kernel
theorem dX8_rows_55 : decode cX8_rows 55 = .ok (.istore_n 3, 1) := by decide +kernel
theorem dX8_rows_56 : decode cX8_rows 56 = .ok (.iload_n 3, 1) := by decide +kernel
theorem dX8_rows_57 : decode cX8_rows 57 = .ok (.iload_n 1, 1) := by decide +kernel
theorem dX8_rows_58 : decode cX8_rows 58 = .ok (.if_icmp .ge 13, 3) := by decide +kernel
theorem dX8_rows_61 : decode cX8_rows 61 = .ok (.aload_n 0, 1) := by decide +kernel
theorem dX8_rows_62 : decode cX8_rows 62 = .ok (.invokevirtual 197, 3) := by decide +kernel
theorem dX8_rows_65 : decode cX8_rows 65 = .ok (.iinc 3 1, 3) := by decide +kernel
theorem dX8_rows_68 : decode cX8_rows 68 = .ok (.goto (-12), 3) := by decide +kernel
theorem dX8_rows_71 : decode cX8_rows 71 = .ok (.lconst 0, 1) := by decide +kernel
theorem dX8_rows_72 : decode cX8_rows 72 = .ok (.lstore_n 3, 1) := by decide +kernel
theorem dX8_rows_73 : decode cX8_rows 73 = .ok (.iconst 0, 1) := by decide +kernel
theorem dX8_rows_74 : decode cX8_rows 74 = .ok (.istore 5, 2) := by decide +kernel
theorem dX8_rows_76 : decode cX8_rows 76 = .ok (.iload 5, 2) := by decide +kernel
theorem dX8_rows_78 : decode cX8_rows 78 = .ok (.sipush 256, 3) := by decide +kernel
theorem dX8_rows_81 : decode cX8_rows 81 = .ok (.if_icmp .ge 32, 3) := by decide +kernel
theorem dX8_rows_84 : decode cX8_rows 84 = .ok (.lload_n 3, 1) := by decide +kernel
theorem dX8_rows_85 : decode cX8_rows 85 = .ok (.iload 5, 2) := by decide +kernel
theorem dX8_rows_87 : decode cX8_rows 87 = .ok (.invokestatic 200, 3) := by decide +kernel
theorem dX8_rows_90 : decode cX8_rows 90 = .ok (.iload_n 2, 1) := by decide +kernel
theorem dX8_rows_91 : decode cX8_rows 91 = .ok (.if_icmp .ne 13, 3) := by decide +kernel
theorem dX8_rows_94 : decode cX8_rows 94 = .ok (.aload_n 0, 1) := by decide +kernel
theorem dX8_rows_95 : decode cX8_rows 95 = .ok (.getfield 41, 3) := by decide +kernel
theorem dX8_rows_98 : decode cX8_rows 98 = .ok (.iload 5, 2) := by decide +kernel
theorem dX8_rows_100 : decode cX8_rows 100 = .ok (.laload, 1) := by decide +kernel
theorem dX8_rows_101 : decode cX8_rows 101 = .ok (.goto 4, 3) := by decide +kernel
theorem dX8_rows_104 : decode cX8_rows 104 = .ok (.lconst 0, 1) := by decide +kernel
theorem dX8_rows_105 : decode cX8_rows 105 = .ok (.ladd, 1) := by decide +kernel
theorem dX8_rows_106 : decode cX8_rows 106 = .ok (.lstore_n 3, 1) := by decide +kernel
theorem dX8_rows_107 : decode cX8_rows 107 = .ok (.iinc 5 1, 3) := by decide +kernel
theorem dX8_rows_110 : decode cX8_rows 110 = .ok (.goto (-34), 3) := by decide +kernel
theorem dX8_rows_113 : decode cX8_rows 113 = .ok (.lload_n 3, 1) := by decide +kernel
theorem dX8_rows_114 : decode cX8_rows 114 = .ok (.lreturn, 1) := by decide +kernel
set_option maxRecDepth 20000 in
theorem ggX8_remember_X8_copyRow : GoodIn wsX8_remember wsX8_copyRow := goodIn_r _ [6, 7, 8, 9, 10, 11, 12, 13, 14, 15, 16, 17, 18, 19, 20, 21, 22, 23, 24] (by decide +kernel) (by decide +kernel)
set_option maxRecDepth 20000 in
theorem gX8_remember_X8_copyRow : GoodIn wsX8_remember (wsV RX8 203 RX8 yX8_copyRow wsX8_copyRow) := goodIn_app (goodIn_of _ (by decide +kernel)) ggX8_remember_X8_copyRow
theorem dX8_remember_0 : decode cX8_remember 0 = .ok (.aload_n 0, 1) := by decide +kernel
theorem dX8_remember_1 : decode cX8_remember 1 = .ok (.getfield 173, 3) := by decide +kernel
theorem dX8_remember_4 : decode cX8_remember 4 = .ok (.bipush 16, 2) := by decide +kernel
theorem dX8_remember_6 : decode cX8_remember 6 = .ok (.if_icmp .ne 41, 3) := by decide +kernel
theorem dX8_remember_9 : decode cX8_remember 9 = .ok (.iconst 1, 1) := by decide +kernel
theorem dX8_remember_10 : decode cX8_remember 10 = .ok (.istore_n 1, 1) := by decide +kernel
theorem dX8_remember_11 : decode cX8_remember 11 = .ok (.iload_n 1, 1) := by decide +kernel
theorem dX8_remember_12 : decode cX8_remember 12 = .ok (.bipush 16, 2) := by decide +kernel
theorem dX8_remember_14 : decode cX8_remember 14 = .ok (.if_icmp .ge 23, 3) := by decide +kernel
theorem dX8_remember_17 : decode cX8_remember 17 = .ok (.aload_n 0, 1) := by decide +kernel
theorem dX8_remember_18 : decode cX8_remember 18 = .ok (.bipush 30, 2) := by decide +kernel
theorem dX8_remember_20 : decode cX8_remember 20 = .ok (.iload_n 1, 1) := by decide +kernel
theorem dX8_remember_21 : decode cX8_remember 21 = .ok (.iconst 1, 1) := by decide +kernel
theorem dX8_remember_22 : decode cX8_remember 22 = .ok (.iadd, 1) := by decide +kernel
theorem dX8_remember_23 : decode cX8_remember 23 = .ok (.imul, 1) := by decide +kernel
theorem dX8_remember_24 : decode cX8_remember 24 = .ok (.bipush 30, 2) := by decide +kernel
theorem dX8_remember_26 : decode cX8_remember 26 = .ok (.iload_n 1, 1) := by decide +kernel
theorem dX8_remember_27 : decode cX8_remember 27 = .ok (.imul, 1) := by decide +kernel
theorem dX8_remember_28 : decode cX8_remember 28 = .ok (.invokevirtual 203, 3) := by decide +kernel
theorem dX8_remember_31 : decode cX8_remember 31 = .ok (.iinc 1 1, 3) := by decide +kernel
theorem dX8_remember_34 : decode cX8_remember 34 = .ok (.goto (-23), 3) := by decide +kernel
theorem dX8_remember_37 : decode cX8_remember 37 = .ok (.aload_n 0, 1) := by decide +kernel
theorem dX8_remember_38 : decode cX8_remember 38 = .ok (.dup, 1) := by decide +kernel
theorem dX8_remember_39 : decode cX8_remember 39 = .ok (.getfield 173, 3) := by decide +kernel
theorem dX8_remember_42 : decode cX8_remember 42 = .ok (.iconst 1, 1) := by decide +kernel
theorem dX8_remember_43 : decode cX8_remember 43 = .ok (.isub, 1) := by decide +kernel
theorem dX8_remember_44 : decode cX8_remember 44 = .ok (.putfield 173, 3) := by decide +kernel
theorem dX8_remember_47 : decode cX8_remember 47 = .ok (.aload_n 0, 1) := by decide +kernel
theorem dX8_remember_48 : decode cX8_remember 48 = .ok (.iconst 0, 1) := by decide +kernel
theorem dX8_remember_49 : decode cX8_remember 49 = .ok (.bipush 30, 2) := by decide +kernel
theorem dX8_remember_51 : decode cX8_remember 51 = .ok (.aload_n 0, 1) := by decide +kernel
theorem dX8_remember_52 : decode cX8_remember 52 = .ok (.getfield 173, 3) := by decide +kernel
theorem dX8_remember_55 : decode cX8_remember 55 = .ok (.iconst 1, 1) := by decide +kernel
theorem dX8_remember_56 : decode cX8_remember 56 = .ok (.iadd, 1) := by decide +kernel
theorem dX8_remember_57 : decode cX8_remember 57 = .ok (.imul, 1) := by decide +kernel
theorem dX8_remember_58 : decode cX8_remember 58 = .ok (.invokevirtual 203, 3) := by decide +kernel
theorem dX8_remember_61 : decode cX8_remember 61 = .ok (.aload_n 0, 1) := by decide +kernel
theorem dX8_remember_62 : decode cX8_remember 62 = .ok (.dup, 1) := by decide +kernel
theorem dX8_remember_63 : decode cX8_remember 63 = .ok (.getfield 173, 3) := by decide +kernel
theorem dX8_remember_66 : decode cX8_remember 66 = .ok (.iconst 1, 1) := by decide +kernel
theorem dX8_remember_67 : decode cX8_remember 67 = .ok (.iadd, 1) := by decide +kernel
theorem dX8_remember_68 : decode cX8_remember 68 = .ok (.putfield 173, 3) := by decide +kernel
theorem dX8_remember_71 : decode cX8_remember 71 = .ok (.return_, 1) := by decide +kernel
set_option maxRecDepth 20000 in
theorem ggX8_put_X8_remember : GoodIn wsX8_put wsX8_remember := goodIn_r _ [6, 7, 8, 9, 10, 5, 11, 1, 12, 13, 14, 15, 16, 17, 18, 19, 20, 21, 22, 23, 24, 25, 26, 27, 28] (by decide +kernel) (by decide +kernel)
set_option maxRecDepth 20000 in
theorem gX8_put_X8_remember : GoodIn wsX8_put (wsV RX8 207 RX8 yX8_remember wsX8_remember) := goodIn_app (goodIn_of _ (by decide +kernel)) ggX8_put_X8_remember
theorem dX8_put_0 : decode cX8_put 0 = .ok (.aload_n 0, 1) := by decide +kernel
theorem dX8_put_1 : decode cX8_put 1 = .ok (.invokevirtual 207, 3) := by decide +kernel
theorem dX8_put_4 : decode cX8_put 4 = .ok (.aload_n 0, 1) := by decide +kernel
theorem dX8_put_5 : decode cX8_put 5 = .ok (.getfield 9, 3) := by decide +kernel
theorem dX8_put_8 : decode cX8_put 8 = .ok (.iload_n 1, 1) := by decide +kernel
theorem dX8_put_9 : decode cX8_put 9 = .ok (.iaload, 1) := by decide +kernel
theorem dX8_put_10 : decode cX8_put 10 = .ok (.istore_n 3, 1) := by decide +kernel
theorem dX8_put_11 : decode cX8_put 11 = .ok (.aload_n 0, 1) := by decide +kernel
theorem dX8_put_12 : decode cX8_put 12 = .ok (.getfield 9, 3) := by decide +kernel
theorem dX8_put_15 : decode cX8_put 15 = .ok (.iload_n 1, 1) := by decide +kernel
theorem dX8_put_16 : decode cX8_put 16 = .ok (.iload_n 2, 1) := by decide +kernel
theorem dX8_put_17 : decode cX8_put 17 = .ok (.iastore, 1) := by decide +kernel
theorem dX8_put_18 : decode cX8_put 18 = .ok (.iload_n 3, 1) := by decide +kernel
theorem dX8_put_19 : decode cX8_put 19 = .ok (.ireturn, 1) := by decide +kernel
theorem dX8_turn_0 : decode cX8_turn 0 = .ok (.aload_n 0, 1) := by decide +kernel
theorem dX8_turn_1 : decode cX8_turn 1 = .ok (.getfield 9, 3) := by decide +kernel
theorem dX8_turn_4 : decode cX8_turn 4 = .ok (.iload_n 1, 1) := by decide +kernel
theorem dX8_turn_5 : decode cX8_turn 5 = .ok (.iload_n 2, 1) := by decide +kernel
theorem dX8_turn_6 : decode cX8_turn 6 = .ok (.iadd, 1) := by decide +kernel
theorem dX8_turn_7 : decode cX8_turn 7 = .ok (.dup2, 1) := by decide +kernel
theorem dX8_turn_8 : decode cX8_turn 8 = .ok (.iaload, 1) := by decide +kernel
theorem dX8_turn_9 : decode cX8_turn 9 = .ok (.iconst 1, 1) := by decide +kernel
theorem dX8_turn_10 : decode cX8_turn 10 = .ok (.iload_n 3, 1) := by decide +kernel
theorem dX8_turn_11 : decode cX8_turn 11 = .ok (.ishl, 1) := by decide +kernel
theorem dX8_turn_12 : decode cX8_turn 12 = .ok (.ixor, 1) := by decide +kernel
theorem dX8_turn_13 : decode cX8_turn 13 = .ok (.iastore, 1) := by decide +kernel
theorem dX8_turn_14 : decode cX8_turn 14 = .ok (.aload_n 0, 1) := by decide +kernel
theorem dX8_turn_15 : decode cX8_turn 15 = .ok (.getfield 9, 3) := by decide +kernel
theorem dX8_turn_18 : decode cX8_turn 18 = .ok (.iload_n 1, 1) := by decide +kernel
theorem dX8_turn_19 : decode cX8_turn 19 = .ok (.iload_n 3, 1) := by decide +kernel
theorem dX8_turn_20 : decode cX8_turn 20 = .ok (.iadd, 1) := by decide +kernel
theorem dX8_turn_21 : decode cX8_turn 21 = .ok (.dup2, 1) := by decide +kernel
theorem dX8_turn_22 : decode cX8_turn 22 = .ok (.iaload, 1) := by decide +kernel
theorem dX8_turn_23 : decode cX8_turn 23 = .ok (.iconst 1, 1) := by decide +kernel
theorem dX8_turn_24 : decode cX8_turn 24 = .ok (.iload_n 2, 1) := by decide +kernel
theorem dX8_turn_25 : decode cX8_turn 25 = .ok (.ishl, 1) := by decide +kernel
theorem dX8_turn_26 : decode cX8_turn 26 = .ok (.ixor, 1) := by decide +kernel
theorem dX8_turn_27 : decode cX8_turn 27 = .ok (.iastore, 1) := by decide +kernel
theorem dX8_turn_28 : decode cX8_turn 28 = .ok (.return_, 1) := by decide +kernel
set_option maxRecDepth 20000 in
theorem ggX8_node_X8_in : GoodIn wsX8_node wsX8_in := goodIn_r _ [9] (by decide +kernel) (by decide +kernel)
set_option maxRecDepth 20000 in
theorem gX8_node_X8_in : GoodIn wsX8_node (va_wsS RX8 47 yX8_in wsX8_in) := goodIn_app (goodIn_of _ (by decide +kernel)) ggX8_node_X8_in
set_option maxRecDepth 20000 in
theorem ggX8_node_X8_remember : GoodIn wsX8_node wsX8_remember := goodIn_r _ [13, 14, 15, 16, 17, 8, 18, 1, 26, 27, 28, 29, 30, 31, 32, 33, 34, 35, 36, 37, 38, 39, 40, 41, 42] (by decide +kernel) (by decide +kernel)
set_option maxRecDepth 20000 in
theorem gX8_node_X8_remember : GoodIn wsX8_node (wsV RX8 207 RX8 yX8_remember wsX8_remember) := goodIn_app (goodIn_of _ (by decide +kernel)) ggX8_node_X8_remember
set_option maxRecDepth 20000 in
theorem ggX8_node_X8_has : GoodIn wsX8_node wsX8_has := goodIn_r _ [21] (by decide +kernel) (by decide +kernel)
set_option maxRecDepth 20000 in
theorem gX8_node_X8_has : GoodIn wsX8_node (va_wsS RX8 55 yX8_has wsX8_has) := goodIn_app (goodIn_of _ (by decide +kernel)) ggX8_node_X8_has
set_option maxRecDepth 20000 in
theorem ggX8_node_X8_turn : GoodIn wsX8_node wsX8_turn := goodIn_r _ [25, 1, 26, 27, 28, 29, 30, 31, 32, 33, 34, 35, 36, 37, 38, 39, 40, 41, 42] (by decide +kernel) (by decide +kernel)
set_option maxRecDepth 20000 in
theorem gX8_node_X8_turn : GoodIn wsX8_node (wsV RX8 212 RX8 yX8_turn wsX8_turn) := goodIn_app (goodIn_of _ (by decide +kernel)) ggX8_node_X8_turn
theorem dX8_node_0 : decode cX8_node 0 = .ok (.iload_n 1, 1) := by decide +kernel
theorem dX8_node_1 : decode cX8_node 1 = .ok (.iconst 0, 1) := by decide +kernel
theorem dX8_node_2 : decode cX8_node 2 = .ok (.iconst 1, 1) := by decide +kernel
theorem dX8_node_3 : decode cX8_node 3 = .ok (.aload_n 0, 1) := by decide +kernel
theorem dX8_node_4 : decode cX8_node 4 = .ok (.getfield 9, 3) := by decide +kernel
theorem dX8_node_7 : decode cX8_node 7 = .ok (.iconst 0, 1) := by decide +kernel
theorem dX8_node_8 : decode cX8_node 8 = .ok (.iaload, 1) := by decide +kernel
theorem dX8_node_9 : decode cX8_node 9 = .ok (.ishl, 1) := by decide +kernel
theorem dX8_node_10 : decode cX8_node 10 = .ok (.iconst 1, 1) := by decide +kernel
theorem dX8_node_11 : decode cX8_node 11 = .ok (.isub, 1) := by decide +kernel
theorem dX8_node_12 : decode cX8_node 12 = .ok (.invokestatic 47, 3) := by decide +kernel
theorem dX8_node_15 : decode cX8_node 15 = .ok (.ifCond .ne 6, 3) := by decide +kernel
theorem dX8_node_18 : decode cX8_node 18 = .ok (.ldc 180, 2) := by decide +kernel
theorem dX8_node_20 : decode cX8_node 20 = .ok (.ireturn, 1) := by decide +kernel
theorem dX8_node_21 : decode cX8_node 21 = .ok (.iload_n 2, 1) := by decide +kernel
theorem dX8_node_22 : decode cX8_node 22 = .ok (.iconst 0, 1) := by decide +kernel
theorem dX8_node_23 : decode cX8_node 23 = .ok (.ldc 210, 2) := by decide +kernel
theorem dX8_node_25 : decode cX8_node 25 = .ok (.invokestatic 47, 3) := by decide +kernel
theorem dX8_node_28 : decode cX8_node 28 = .ok (.ifCond .ne 6, 3) := by decide +kernel
theorem dX8_node_31 : decode cX8_node 31 = .ok (.ldc 179, 2) := by decide +kernel
theorem dX8_node_33 : decode cX8_node 33 = .ok (.ireturn, 1) := by decide +kernel
theorem dX8_node_34 : decode cX8_node 34 = .ok (.aload_n 0, 1) := by decide +kernel
theorem dX8_node_35 : decode cX8_node 35 = .ok (.getfield 9, 3) := by decide +kernel
theorem dX8_node_38 : decode cX8_node 38 = .ok (.iconst 0, 1) := by decide +kernel
theorem dX8_node_39 : decode cX8_node 39 = .ok (.iaload, 1) := by decide +kernel
theorem dX8_node_40 : decode cX8_node 40 = .ok (.bipush 9, 2) := by decide +kernel
theorem dX8_node_42 : decode cX8_node 42 = .ok (.if_icmp .ne 6, 3) := by decide +kernel
theorem dX8_node_45 : decode cX8_node 45 = .ok (.ldc 211, 2) := by decide +kernel
theorem dX8_node_47 : decode cX8_node 47 = .ok (.ireturn, 1) := by decide +kernel
theorem dX8_node_48 : decode cX8_node 48 = .ok (.aload_n 0, 1) := by decide +kernel
theorem dX8_node_49 : decode cX8_node 49 = .ok (.invokevirtual 207, 3) := by decide +kernel
theorem dX8_node_52 : decode cX8_node 52 = .ok (.aload_n 0, 1) := by decide +kernel
theorem dX8_node_53 : decode cX8_node 53 = .ok (.getfield 9, 3) := by decide +kernel
theorem dX8_node_56 : decode cX8_node 56 = .ok (.iconst 0, 1) := by decide +kernel
theorem dX8_node_57 : decode cX8_node 57 = .ok (.iaload, 1) := by decide +kernel
theorem dX8_node_58 : decode cX8_node 58 = .ok (.istore_n 3, 1) := by decide +kernel
theorem dX8_node_59 : decode cX8_node 59 = .ok (.aload_n 0, 1) := by decide +kernel
theorem dX8_node_60 : decode cX8_node 60 = .ok (.getfield 9, 3) := by decide +kernel
theorem dX8_node_63 : decode cX8_node 63 = .ok (.iconst 0, 1) := by decide +kernel
theorem dX8_node_64 : decode cX8_node 64 = .ok (.dup2, 1) := by decide +kernel
theorem dX8_node_65 : decode cX8_node 65 = .ok (.iaload, 1) := by decide +kernel
theorem dX8_node_66 : decode cX8_node 66 = .ok (.iconst 1, 1) := by decide +kernel
theorem dX8_node_67 : decode cX8_node 67 = .ok (.iadd, 1) := by decide +kernel
theorem dX8_node_68 : decode cX8_node 68 = .ok (.iastore, 1) := by decide +kernel
theorem dX8_node_69 : decode cX8_node 69 = .ok (.aload_n 0, 1) := by decide +kernel
theorem dX8_node_70 : decode cX8_node 70 = .ok (.getfield 9, 3) := by decide +kernel
theorem dX8_node_73 : decode cX8_node 73 = .ok (.iconst 3, 1) := by decide +kernel
theorem dX8_node_74 : decode cX8_node 74 = .ok (.iload_n 3, 1) := by decide +kernel
theorem dX8_node_75 : decode cX8_node 75 = .ok (.iadd, 1) := by decide +kernel
theorem dX8_node_76 : decode cX8_node 76 = .ok (.iconst 0, 1) := by decide +kernel
theorem dX8_node_77 : decode cX8_node 77 = .ok (.iastore, 1) := by decide +kernel
theorem dX8_node_78 : decode cX8_node 78 = .ok (.aload_n 0, 1) := by decide +kernel
theorem dX8_node_79 : decode cX8_node 79 = .ok (.getfield 9, 3) := by decide +kernel
theorem dX8_node_82 : decode cX8_node 82 = .ok (.bipush 12, 2) := by decide +kernel
theorem dX8_node_84 : decode cX8_node 84 = .ok (.iload_n 3, 1) := by decide +kernel
theorem dX8_node_85 : decode cX8_node 85 = .ok (.iadd, 1) := by decide +kernel
theorem dX8_node_86 : decode cX8_node 86 = .ok (.iconst 0, 1) := by decide +kernel
theorem dX8_node_87 : decode cX8_node 87 = .ok (.iastore, 1) := by decide +kernel
theorem dX8_node_88 : decode cX8_node 88 = .ok (.aload_n 0, 1) := by decide +kernel
theorem dX8_node_89 : decode cX8_node 89 = .ok (.getfield 9, 3) := by decide +kernel
theorem dX8_node_92 : decode cX8_node 92 = .ok (.bipush 21, 2) := by decide +kernel
theorem dX8_node_94 : decode cX8_node 94 = .ok (.iload_n 3, 1) := by decide +kernel
theorem dX8_node_95 : decode cX8_node 95 = .ok (.iadd, 1) := by decide +kernel
theorem dX8_node_96 : decode cX8_node 96 = .ok (.iload_n 2, 1) := by decide +kernel
theorem dX8_node_97 : decode cX8_node 97 = .ok (.iastore, 1) := by decide +kernel
theorem dX8_node_98 : decode cX8_node 98 = .ok (.iconst 0, 1) := by decide +kernel
theorem dX8_node_99 : decode cX8_node 99 = .ok (.istore 4, 2) := by decide +kernel
theorem dX8_node_101 : decode cX8_node 101 = .ok (.iload 4, 2) := by decide +kernel
theorem dX8_node_103 : decode cX8_node 103 = .ok (.iload_n 3, 1) := by decide +kernel
theorem dX8_node_104 : decode cX8_node 104 = .ok (.if_icmp .ge 26, 3) := by decide +kernel
theorem dX8_node_107 : decode cX8_node 107 = .ok (.iload_n 1, 1) := by decide +kernel
theorem dX8_node_108 : decode cX8_node 108 = .ok (.iload 4, 2) := by decide +kernel
theorem dX8_node_110 : decode cX8_node 110 = .ok (.invokestatic 55, 3) := by decide +kernel
theorem dX8_node_113 : decode cX8_node 113 = .ok (.ifCond .eq 11, 3) := by decide +kernel
theorem dX8_node_116 : decode cX8_node 116 = .ok (.aload_n 0, 1) := by decide +kernel
theorem dX8_node_117 : decode cX8_node 117 = .ok (.iconst 3, 1) := by decide +kernel
theorem dX8_node_118 : decode cX8_node 118 = .ok (.iload 4, 2) := by decide +kernel
theorem dX8_node_120 : decode cX8_node 120 = .ok (.iload_n 3, 1) := by decide +kernel
theorem dX8_node_121 : decode cX8_node 121 = .ok (.invokevirtual 212, 3) := by decide +kernel
theorem dX8_node_124 : decode cX8_node 124 = .ok (.iinc 4 1, 3) := by decide +kernel
theorem dX8_node_127 : decode cX8_node 127 = .ok (.goto (-26), 3) := by decide +kernel
theorem dX8_node_130 : decode cX8_node 130 = .ok (.iload_n 3, 1) := by decide +kernel
theorem dX8_node_131 : decode cX8_node 131 = .ok (.ireturn, 1) := by decide +kernel
set_option maxRecDepth 20000 in
theorem ggX8_take_X8_remember : GoodIn wsX8_take wsX8_remember := goodIn_r _ [7, 8, 9, 10, 11, 6, 12, 1, 13, 14, 15, 16, 17, 18, 19, 20, 21, 22, 23, 24, 25, 26, 27, 28, 29] (by decide +kernel) (by decide +kernel)
set_option maxRecDepth 20000 in
theorem gX8_take_X8_remember : GoodIn wsX8_take (wsV RX8 207 RX8 yX8_remember wsX8_remember) := goodIn_app (goodIn_of _ (by decide +kernel)) ggX8_take_X8_remember
theorem dX8_take_0 : decode cX8_take 0 = .ok (.aload_n 0, 1) := by decide +kernel
theorem dX8_take_1 : decode cX8_take 1 = .ok (.getfield 9, 3) := by decide +kernel
theorem dX8_take_4 : decode cX8_take 4 = .ok (.iconst 0, 1) := by decide +kernel
theorem dX8_take_5 : decode cX8_take 5 = .ok (.iaload, 1) := by decide +kernel
theorem dX8_take_6 : decode cX8_take 6 = .ok (.iconst 1, 1) := by decide +kernel
theorem dX8_take_7 : decode cX8_take 7 = .ok (.if_icmp .ne 6, 3) := by decide +kernel
theorem dX8_take_10 : decode cX8_take 10 = .ok (.ldc 216, 2) := by decide +kernel
theorem dX8_take_12 : decode cX8_take 12 = .ok (.ireturn, 1) := by decide +kernel
theorem dX8_take_13 : decode cX8_take 13 = .ok (.aload_n 0, 1) := by decide +kernel
theorem dX8_take_14 : decode cX8_take 14 = .ok (.invokevirtual 207, 3) := by decide +kernel
theorem dX8_take_17 : decode cX8_take 17 = .ok (.aload_n 0, 1) := by decide +kernel
theorem dX8_take_18 : decode cX8_take 18 = .ok (.getfield 9, 3) := by decide +kernel
theorem dX8_take_21 : decode cX8_take 21 = .ok (.iconst 0, 1) := by decide +kernel
theorem dX8_take_22 : decode cX8_take 22 = .ok (.dup2, 1) := by decide +kernel
theorem dX8_take_23 : decode cX8_take 23 = .ok (.iaload, 1) := by decide +kernel
theorem dX8_take_24 : decode cX8_take 24 = .ok (.iconst 1, 1) := by decide +kernel
theorem dX8_take_25 : decode cX8_take 25 = .ok (.isub, 1) := by decide +kernel
theorem dX8_take_26 : decode cX8_take 26 = .ok (.iastore, 1) := by decide +kernel
theorem dX8_take_27 : decode cX8_take 27 = .ok (.aload_n 0, 1) := by decide +kernel
theorem dX8_take_28 : decode cX8_take 28 = .ok (.getfield 9, 3) := by decide +kernel
theorem dX8_take_31 : decode cX8_take 31 = .ok (.iconst 0, 1) := by decide +kernel
theorem dX8_take_32 : decode cX8_take 32 = .ok (.iaload, 1) := by decide +kernel
theorem dX8_take_33 : decode cX8_take 33 = .ok (.istore_n 1, 1) := by decide +kernel
theorem dX8_take_34 : decode cX8_take 34 = .ok (.iconst 0, 1) := by decide +kernel
theorem dX8_take_35 : decode cX8_take 35 = .ok (.istore_n 2, 1) := by decide +kernel
theorem dX8_take_36 : decode cX8_take 36 = .ok (.iload_n 2, 1) := by decide +kernel
theorem dX8_take_37 : decode cX8_take 37 = .ok (.iload_n 1, 1) := by decide +kernel
theorem dX8_take_38 : decode cX8_take 38 = .ok (.if_icmp .ge 42, 3) := by decide +kernel
theorem dX8_take_41 : decode cX8_take 41 = .ok (.aload_n 0, 1) := by decide +kernel
theorem dX8_take_42 : decode cX8_take 42 = .ok (.getfield 9, 3) := by decide +kernel
theorem dX8_take_45 : decode cX8_take 45 = .ok (.iconst 3, 1) := by decide +kernel
theorem dX8_take_46 : decode cX8_take 46 = .ok (.iload_n 2, 1) := by decide +kernel
theorem dX8_take_47 : decode cX8_take 47 = .ok (.iadd, 1) := by decide +kernel
theorem dX8_take_48 : decode cX8_take 48 = .ok (.dup2, 1) := by decide +kernel
theorem dX8_take_49 : decode cX8_take 49 = .ok (.iaload, 1) := by decide +kernel
theorem dX8_take_50 : decode cX8_take 50 = .ok (.iconst 1, 1) := by decide +kernel
theorem dX8_take_51 : decode cX8_take 51 = .ok (.iload_n 1, 1) := by decide +kernel
theorem dX8_take_52 : decode cX8_take 52 = .ok (.ishl, 1) := by decide +kernel
theorem dX8_take_53 : decode cX8_take 53 = .ok (.iconst (-1), 1) := by decide +kernel
theorem dX8_take_54 : decode cX8_take 54 = .ok (.ixor, 1) := by decide +kernel
theorem dX8_take_55 : decode cX8_take 55 = .ok (.iand, 1) := by decide +kernel
theorem dX8_take_56 : decode cX8_take 56 = .ok (.iastore, 1) := by decide +kernel
theorem dX8_take_57 : decode cX8_take 57 = .ok (.aload_n 0, 1) := by decide +kernel
theorem dX8_take_58 : decode cX8_take 58 = .ok (.getfield 9, 3) := by decide +kernel
theorem dX8_take_61 : decode cX8_take 61 = .ok (.bipush 12, 2) := by decide +kernel
theorem dX8_take_63 : decode cX8_take 63 = .ok (.iload_n 2, 1) := by decide +kernel
theorem dX8_take_64 : decode cX8_take 64 = .ok (.iadd, 1) := by decide +kernel
theorem dX8_take_65 : decode cX8_take 65 = .ok (.dup2, 1) := by decide +kernel
theorem dX8_take_66 : decode cX8_take 66 = .ok (.iaload, 1) := by decide +kernel
theorem dX8_take_67 : decode cX8_take 67 = .ok (.iconst 1, 1) := by decide +kernel
theorem dX8_take_68 : decode cX8_take 68 = .ok (.iload_n 1, 1) := by decide +kernel
theorem dX8_take_69 : decode cX8_take 69 = .ok (.ishl, 1) := by decide +kernel
theorem dX8_take_70 : decode cX8_take 70 = .ok (.iconst (-1), 1) := by decide +kernel
theorem dX8_take_71 : decode cX8_take 71 = .ok (.ixor, 1) := by decide +kernel
theorem dX8_take_72 : decode cX8_take 72 = .ok (.iand, 1) := by decide +kernel
theorem dX8_take_73 : decode cX8_take 73 = .ok (.iastore, 1) := by decide +kernel
theorem dX8_take_74 : decode cX8_take 74 = .ok (.iinc 2 1, 3) := by decide +kernel
theorem dX8_take_77 : decode cX8_take 77 = .ok (.goto (-41), 3) := by decide +kernel
theorem dX8_take_80 : decode cX8_take 80 = .ok (.aload_n 0, 1) := by decide +kernel
theorem dX8_take_81 : decode cX8_take 81 = .ok (.getfield 9, 3) := by decide +kernel
theorem dX8_take_84 : decode cX8_take 84 = .ok (.iconst 0, 1) := by decide +kernel
theorem dX8_take_85 : decode cX8_take 85 = .ok (.iaload, 1) := by decide +kernel
theorem dX8_take_86 : decode cX8_take 86 = .ok (.ireturn, 1) := by decide +kernel
set_option maxRecDepth 20000 in
theorem ggX8_link_X8_isNode : GoodIn wsX8_link wsX8_isNode := goodIn_r _ [7, 2, 8, 9, 6, 10, 27, 28, 29, 30, 31, 32, 33, 34, 35, 36, 37, 38, 39, 40, 41, 42, 43] (by decide +kernel) (by decide +kernel)
set_option maxRecDepth 20000 in
theorem gX8_link_X8_isNode : GoodIn wsX8_link (wsV RX8 51 RX8 yX8_isNode wsX8_isNode) := goodIn_app (goodIn_of _ (by decide +kernel)) ggX8_link_X8_isNode
set_option maxRecDepth 20000 in
theorem ggX8_link_X8_remember : GoodIn wsX8_link wsX8_remember := goodIn_r _ [14, 15, 16, 17, 18, 6, 19, 2, 27, 28, 29, 30, 31, 32, 33, 34, 35, 36, 37, 38, 39, 40, 41, 42, 43] (by decide +kernel) (by decide +kernel)
set_option maxRecDepth 20000 in
theorem gX8_link_X8_remember : GoodIn wsX8_link (wsV RX8 207 RX8 yX8_remember wsX8_remember) := goodIn_app (goodIn_of _ (by decide +kernel)) ggX8_link_X8_remember
set_option maxRecDepth 20000 in
theorem ggX8_link_X8_has : GoodIn wsX8_link wsX8_has := goodIn_r _ [22] (by decide +kernel) (by decide +kernel)
set_option maxRecDepth 20000 in
theorem gX8_link_X8_has : GoodIn wsX8_link (va_wsS RX8 55 yX8_has wsX8_has) := goodIn_app (goodIn_of _ (by decide +kernel)) ggX8_link_X8_has
set_option maxRecDepth 20000 in
theorem ggX8_link_X8_turn : GoodIn wsX8_link wsX8_turn := goodIn_r _ [26, 2, 27, 28, 29, 30, 31, 32, 33, 34, 35, 36, 37, 38, 39, 40, 41, 42, 43] (by decide +kernel) (by decide +kernel)
set_option maxRecDepth 20000 in
theorem gX8_link_X8_turn : GoodIn wsX8_link (wsV RX8 212 RX8 yX8_turn wsX8_turn) := goodIn_app (goodIn_of _ (by decide +kernel)) ggX8_link_X8_turn
theorem dX8_link_0 : decode cX8_link 0 = .ok (.aload_n 0, 1) := by decide +kernel
theorem dX8_link_1 : decode cX8_link 1 = .ok (.iload_n 1, 1) := by decide +kernel
theorem dX8_link_2 : decode cX8_link 2 = .ok (.invokevirtual 51, 3) := by decide +kernel
theorem dX8_link_5 : decode cX8_link 5 = .ok (.ifCond .eq 16, 3) := by decide +kernel
theorem dX8_link_8 : decode cX8_link 8 = .ok (.aload_n 0, 1) := by decide +kernel
theorem dX8_link_9 : decode cX8_link 9 = .ok (.iload_n 2, 1) := by decide +kernel
theorem dX8_link_10 : decode cX8_link 10 = .ok (.invokevirtual 51, 3) := by decide +kernel
theorem dX8_link_13 : decode cX8_link 13 = .ok (.ifCond .eq 8, 3) := by decide +kernel
theorem dX8_link_16 : decode cX8_link 16 = .ok (.iload_n 1, 1) := by decide +kernel
theorem dX8_link_17 : decode cX8_link 17 = .ok (.iload_n 2, 1) := by decide +kernel
theorem dX8_link_18 : decode cX8_link 18 = .ok (.if_icmp .ne 6, 3) := by decide +kernel
theorem dX8_link_21 : decode cX8_link 21 = .ok (.ldc 180, 2) := by decide +kernel
theorem dX8_link_23 : decode cX8_link 23 = .ok (.ireturn, 1) := by decide +kernel
theorem dX8_link_24 : decode cX8_link 24 = .ok (.aload_n 0, 1) := by decide +kernel
theorem dX8_link_25 : decode cX8_link 25 = .ok (.invokevirtual 207, 3) := by decide +kernel
theorem dX8_link_28 : decode cX8_link 28 = .ok (.aload_n 0, 1) := by decide +kernel
theorem dX8_link_29 : decode cX8_link 29 = .ok (.getfield 9, 3) := by decide +kernel
theorem dX8_link_32 : decode cX8_link 32 = .ok (.bipush 12, 2) := by decide +kernel
theorem dX8_link_34 : decode cX8_link 34 = .ok (.iload_n 1, 1) := by decide +kernel
theorem dX8_link_35 : decode cX8_link 35 = .ok (.iadd, 1) := by decide +kernel
theorem dX8_link_36 : decode cX8_link 36 = .ok (.iaload, 1) := by decide +kernel
theorem dX8_link_37 : decode cX8_link 37 = .ok (.iload_n 2, 1) := by decide +kernel
theorem dX8_link_38 : decode cX8_link 38 = .ok (.invokestatic 55, 3) := by decide +kernel
theorem dX8_link_41 : decode cX8_link 41 = .ok (.ifCond .eq 11, 3) := by decide +kernel
theorem dX8_link_44 : decode cX8_link 44 = .ok (.aload_n 0, 1) := by decide +kernel
theorem dX8_link_45 : decode cX8_link 45 = .ok (.bipush 12, 2) := by decide +kernel
theorem dX8_link_47 : decode cX8_link 47 = .ok (.iload_n 1, 1) := by decide +kernel
theorem dX8_link_48 : decode cX8_link 48 = .ok (.iload_n 2, 1) := by decide +kernel
theorem dX8_link_49 : decode cX8_link 49 = .ok (.invokevirtual 212, 3) := by decide +kernel
theorem dX8_link_52 : decode cX8_link 52 = .ok (.aload_n 0, 1) := by decide +kernel
theorem dX8_link_53 : decode cX8_link 53 = .ok (.iconst 3, 1) := by decide +kernel
theorem dX8_link_54 : decode cX8_link 54 = .ok (.iload_n 1, 1) := by decide +kernel
theorem dX8_link_55 : decode cX8_link 55 = .ok (.iload_n 2, 1) := by decide +kernel
theorem dX8_link_56 : decode cX8_link 56 = .ok (.invokevirtual 212, 3) := by decide +kernel
theorem dX8_link_59 : decode cX8_link 59 = .ok (.aload_n 0, 1) := by decide +kernel
theorem dX8_link_60 : decode cX8_link 60 = .ok (.getfield 9, 3) := by decide +kernel
theorem dX8_link_63 : decode cX8_link 63 = .ok (.iconst 3, 1) := by decide +kernel
theorem dX8_link_64 : decode cX8_link 64 = .ok (.iload_n 1, 1) := by decide +kernel
theorem dX8_link_65 : decode cX8_link 65 = .ok (.iadd, 1) := by decide +kernel
theorem dX8_link_66 : decode cX8_link 66 = .ok (.iaload, 1) := by decide +kernel
theorem dX8_link_67 : decode cX8_link 67 = .ok (.iload_n 2, 1) := by decide +kernel
theorem dX8_link_68 : decode cX8_link 68 = .ok (.invokestatic 55, 3) := by decide +kernel
theorem dX8_link_71 : decode cX8_link 71 = .ok (.ifCond .eq 7, 3) := by decide +kernel
theorem dX8_link_74 : decode cX8_link 74 = .ok (.iconst 1, 1) := by decide +kernel
theorem dX8_link_75 : decode cX8_link 75 = .ok (.goto 4, 3) := by decide +kernel
theorem dX8_link_78 : decode cX8_link 78 = .ok (.iconst 0, 1) := by decide +kernel
theorem dX8_link_79 : decode cX8_link 79 = .ok (.ireturn, 1) := by decide +kernel
set_option maxRecDepth 20000 in
theorem ggX8_lose_X8_isLinked : GoodIn wsX8_lose wsX8_isLinked := goodIn_r _ [7, 2, 8, 9, 10, 6, 11, 12, 13, 14, 15, 16, 17, 31, 32, 33, 34, 35, 36, 37, 38, 39, 40, 41, 42, 43, 44, 45, 46, 47] (by decide +kernel) (by decide +kernel)
set_option maxRecDepth 20000 in
theorem gX8_lose_X8_isLinked : GoodIn wsX8_lose (wsV RX8 184 RX8 yX8_isLinked wsX8_isLinked) := goodIn_app (goodIn_of _ (by decide +kernel)) ggX8_lose_X8_isLinked
set_option maxRecDepth 20000 in
theorem ggX8_lose_X8_remember : GoodIn wsX8_lose wsX8_remember := goodIn_r _ [21, 22, 23, 24, 25, 6, 26, 2, 31, 32, 33, 34, 35, 36, 37, 38, 39, 40, 41, 42, 43, 44, 45, 46, 47] (by decide +kernel) (by decide +kernel)
set_option maxRecDepth 20000 in
theorem gX8_lose_X8_remember : GoodIn wsX8_lose (wsV RX8 207 RX8 yX8_remember wsX8_remember) := goodIn_app (goodIn_of _ (by decide +kernel)) ggX8_lose_X8_remember
set_option maxRecDepth 20000 in
theorem ggX8_lose_X8_turn : GoodIn wsX8_lose wsX8_turn := goodIn_r _ [30, 2, 31, 32, 33, 34, 35, 36, 37, 38, 39, 40, 41, 42, 43, 44, 45, 46, 47] (by decide +kernel) (by decide +kernel)
set_option maxRecDepth 20000 in
theorem gX8_lose_X8_turn : GoodIn wsX8_lose (wsV RX8 212 RX8 yX8_turn wsX8_turn) := goodIn_app (goodIn_of _ (by decide +kernel)) ggX8_lose_X8_turn
set_option maxRecDepth 20000 in
theorem ggX8_lose_X8_has : GoodIn wsX8_lose wsX8_has := goodIn_r _ [17] (by decide +kernel) (by decide +kernel)
set_option maxRecDepth 20000 in
theorem gX8_lose_X8_has : GoodIn wsX8_lose (va_wsS RX8 55 yX8_has wsX8_has) := goodIn_app (goodIn_of _ (by decide +kernel)) ggX8_lose_X8_has
theorem dX8_lose_0 : decode cX8_lose 0 = .ok (.aload_n 0, 1) := by decide +kernel
theorem dX8_lose_1 : decode cX8_lose 1 = .ok (.iload_n 1, 1) := by decide +kernel
theorem dX8_lose_2 : decode cX8_lose 2 = .ok (.iload_n 2, 1) := by decide +kernel
theorem dX8_lose_3 : decode cX8_lose 3 = .ok (.invokevirtual 184, 3) := by decide +kernel
theorem dX8_lose_6 : decode cX8_lose 6 = .ok (.ifCond .ne 6, 3) := by decide +kernel
theorem dX8_lose_9 : decode cX8_lose 9 = .ok (.ldc 180, 2) := by decide +kernel
theorem dX8_lose_11 : decode cX8_lose 11 = .ok (.ireturn, 1) := by decide +kernel
theorem dX8_lose_12 : decode cX8_lose 12 = .ok (.aload_n 0, 1) := by decide +kernel
theorem dX8_lose_13 : decode cX8_lose 13 = .ok (.invokevirtual 207, 3) := by decide +kernel
theorem dX8_lose_16 : decode cX8_lose 16 = .ok (.aload_n 0, 1) := by decide +kernel
theorem dX8_lose_17 : decode cX8_lose 17 = .ok (.bipush 12, 2) := by decide +kernel
theorem dX8_lose_19 : decode cX8_lose 19 = .ok (.iload_n 1, 1) := by decide +kernel
theorem dX8_lose_20 : decode cX8_lose 20 = .ok (.iload_n 2, 1) := by decide +kernel
theorem dX8_lose_21 : decode cX8_lose 21 = .ok (.invokevirtual 212, 3) := by decide +kernel
theorem dX8_lose_24 : decode cX8_lose 24 = .ok (.aload_n 0, 1) := by decide +kernel
theorem dX8_lose_25 : decode cX8_lose 25 = .ok (.getfield 9, 3) := by decide +kernel
theorem dX8_lose_28 : decode cX8_lose 28 = .ok (.bipush 12, 2) := by decide +kernel
theorem dX8_lose_30 : decode cX8_lose 30 = .ok (.iload_n 1, 1) := by decide +kernel
theorem dX8_lose_31 : decode cX8_lose 31 = .ok (.iadd, 1) := by decide +kernel
theorem dX8_lose_32 : decode cX8_lose 32 = .ok (.iaload, 1) := by decide +kernel
theorem dX8_lose_33 : decode cX8_lose 33 = .ok (.iload_n 2, 1) := by decide +kernel
theorem dX8_lose_34 : decode cX8_lose 34 = .ok (.invokestatic 55, 3) := by decide +kernel
theorem dX8_lose_37 : decode cX8_lose 37 = .ok (.ifCond .eq 7, 3) := by decide +kernel
theorem dX8_lose_40 : decode cX8_lose 40 = .ok (.iconst 1, 1) := by decide +kernel
theorem dX8_lose_41 : decode cX8_lose 41 = .ok (.goto 4, 3) := by decide +kernel
theorem dX8_lose_44 : decode cX8_lose 44 = .ok (.iconst 0, 1) := by decide +kernel
theorem dX8_lose_45 : decode cX8_lose 45 = .ok (.ireturn, 1) := by decide +kernel
set_option maxRecDepth 20000 in
theorem ggX8_hear_X8_isNode : GoodIn wsX8_hear wsX8_isNode := goodIn_r _ [8, 9, 10, 11, 7, 12, 26, 27, 28, 29, 30, 31, 32, 33, 34, 35, 36, 37, 38, 39, 40, 41, 42] (by decide +kernel) (by decide +kernel)
set_option maxRecDepth 20000 in
theorem gX8_hear_X8_isNode : GoodIn wsX8_hear (wsV RX8 51 RX8 yX8_isNode wsX8_isNode) := goodIn_app (goodIn_of _ (by decide +kernel)) ggX8_hear_X8_isNode
set_option maxRecDepth 20000 in
theorem ggX8_hear_X8_in : GoodIn wsX8_hear wsX8_in := goodIn_r _ [12] (by decide +kernel) (by decide +kernel)
set_option maxRecDepth 20000 in
theorem gX8_hear_X8_in : GoodIn wsX8_hear (va_wsS RX8 47 yX8_in wsX8_in) := goodIn_app (goodIn_of _ (by decide +kernel)) ggX8_hear_X8_in
set_option maxRecDepth 20000 in
theorem ggX8_hear_X8_put : GoodIn wsX8_hear wsX8_put := goodIn_r _ [16, 9, 17, 18, 19, 7, 20, 21, 22, 23, 24, 25, 26, 27, 28, 29, 30, 31, 32, 33, 34, 35, 36, 37, 38, 39, 40, 41, 42] (by decide +kernel) (by decide +kernel)
set_option maxRecDepth 20000 in
theorem gX8_hear_X8_put : GoodIn wsX8_hear (wsV RX8 217 RX8 yX8_put wsX8_put) := goodIn_app (goodIn_of _ (by decide +kernel)) ggX8_hear_X8_put
theorem dX8_hear_0 : decode cX8_hear 0 = .ok (.aload_n 0, 1) := by decide +kernel
theorem dX8_hear_1 : decode cX8_hear 1 = .ok (.iload_n 1, 1) := by decide +kernel
theorem dX8_hear_2 : decode cX8_hear 2 = .ok (.invokevirtual 51, 3) := by decide +kernel
theorem dX8_hear_5 : decode cX8_hear 5 = .ok (.ifCond .ne 6, 3) := by decide +kernel
theorem dX8_hear_8 : decode cX8_hear 8 = .ok (.ldc 180, 2) := by decide +kernel
theorem dX8_hear_10 : decode cX8_hear 10 = .ok (.ireturn, 1) := by decide +kernel
theorem dX8_hear_11 : decode cX8_hear 11 = .ok (.iload_n 2, 1) := by decide +kernel
theorem dX8_hear_12 : decode cX8_hear 12 = .ok (.iconst 0, 1) := by decide +kernel
theorem dX8_hear_13 : decode cX8_hear 13 = .ok (.ldc 210, 2) := by decide +kernel
theorem dX8_hear_15 : decode cX8_hear 15 = .ok (.invokestatic 47, 3) := by decide +kernel
theorem dX8_hear_18 : decode cX8_hear 18 = .ok (.ifCond .eq 15, 3) := by decide +kernel
theorem dX8_hear_21 : decode cX8_hear 21 = .ok (.aload_n 0, 1) := by decide +kernel
theorem dX8_hear_22 : decode cX8_hear 22 = .ok (.bipush 21, 2) := by decide +kernel
theorem dX8_hear_24 : decode cX8_hear 24 = .ok (.iload_n 1, 1) := by decide +kernel
theorem dX8_hear_25 : decode cX8_hear 25 = .ok (.iadd, 1) := by decide +kernel
theorem dX8_hear_26 : decode cX8_hear 26 = .ok (.iload_n 2, 1) := by decide +kernel
end
section
theorem dX8_hear_27 : decode cX8_hear 27 = .ok (.invokevirtual 217, 3) := by decide +kernel
theorem dX8_hear_30 : decode cX8_hear 30 = .ok (.goto 5, 3) := by decide +kernel
theorem dX8_hear_33 : decode cX8_hear 33 = .ok (.ldc 179, 2) := by decide +kernel
theorem dX8_hear_35 : decode cX8_hear 35 = .ok (.ireturn, 1) := by decide +kernel
set_option maxRecDepth 20000 in
theorem ggX8_salt_X8_in : GoodIn wsX8_salt wsX8_in := goodIn_r _ [6] (by decide +kernel) (by decide +kernel)
set_option maxRecDepth 20000 in
theorem gX8_salt_X8_in : GoodIn wsX8_salt (va_wsS RX8 47 yX8_in wsX8_in) := goodIn_app (goodIn_of _ (by decide +kernel)) ggX8_salt_X8_in
set_option maxRecDepth 20000 in
theorem ggX8_salt_X8_put : GoodIn wsX8_salt wsX8_put := goodIn_r _ [10, 11, 12, 13, 14, 5, 15, 16, 17, 18, 19, 20, 21, 22, 23, 24, 25, 26, 27, 28, 29, 30, 31, 32, 33, 34, 35, 36, 37] (by decide +kernel) (by decide +kernel)
set_option maxRecDepth 20000 in
theorem gX8_salt_X8_put : GoodIn wsX8_salt (wsV RX8 217 RX8 yX8_put wsX8_put) := goodIn_app (goodIn_of _ (by decide +kernel)) ggX8_salt_X8_put
theorem dX8_salt_0 : decode cX8_salt 0 = .ok (.iload_n 1, 1) := by decide +kernel
theorem dX8_salt_1 : decode cX8_salt 1 = .ok (.iconst 0, 1) := by decide +kernel
theorem dX8_salt_2 : decode cX8_salt 2 = .ok (.ldc 210, 2) := by decide +kernel
theorem dX8_salt_4 : decode cX8_salt 4 = .ok (.invokestatic 47, 3) := by decide +kernel
theorem dX8_salt_7 : decode cX8_salt 7 = .ok (.ifCond .eq 12, 3) := by decide +kernel
theorem dX8_salt_10 : decode cX8_salt 10 = .ok (.aload_n 0, 1) := by decide +kernel
theorem dX8_salt_11 : decode cX8_salt 11 = .ok (.iconst 1, 1) := by decide +kernel
theorem dX8_salt_12 : decode cX8_salt 12 = .ok (.iload_n 1, 1) := by decide +kernel
theorem dX8_salt_13 : decode cX8_salt 13 = .ok (.invokevirtual 217, 3) := by decide +kernel
theorem dX8_salt_16 : decode cX8_salt 16 = .ok (.goto 5, 3) := by decide +kernel
theorem dX8_salt_19 : decode cX8_salt 19 = .ok (.ldc 179, 2) := by decide +kernel
theorem dX8_salt_21 : decode cX8_salt 21 = .ok (.ireturn, 1) := by decide +kernel
set_option maxRecDepth 20000 in
theorem ggX8_mode_X8_in : GoodIn wsX8_mode wsX8_in := goodIn_r _ [5] (by decide +kernel) (by decide +kernel)
set_option maxRecDepth 20000 in
theorem gX8_mode_X8_in : GoodIn wsX8_mode (va_wsS RX8 47 yX8_in wsX8_in) := goodIn_app (goodIn_of _ (by decide +kernel)) ggX8_mode_X8_in
set_option maxRecDepth 20000 in
theorem ggX8_mode_X8_put : GoodIn wsX8_mode wsX8_put := goodIn_r _ [9, 10, 11, 12, 13, 4, 14, 15, 16, 17, 18, 19, 20, 21, 22, 23, 24, 25, 26, 27, 28, 29, 30, 31, 32, 33, 34, 35, 36] (by decide +kernel) (by decide +kernel)
set_option maxRecDepth 20000 in
theorem gX8_mode_X8_put : GoodIn wsX8_mode (wsV RX8 217 RX8 yX8_put wsX8_put) := goodIn_app (goodIn_of _ (by decide +kernel)) ggX8_mode_X8_put
theorem dX8_mode_0 : decode cX8_mode 0 = .ok (.iload_n 1, 1) := by decide +kernel
theorem dX8_mode_1 : decode cX8_mode 1 = .ok (.iconst 0, 1) := by decide +kernel
theorem dX8_mode_2 : decode cX8_mode 2 = .ok (.iconst 1, 1) := by decide +kernel
theorem dX8_mode_3 : decode cX8_mode 3 = .ok (.invokestatic 47, 3) := by decide +kernel
theorem dX8_mode_6 : decode cX8_mode 6 = .ok (.ifCond .eq 12, 3) := by decide +kernel
theorem dX8_mode_9 : decode cX8_mode 9 = .ok (.aload_n 0, 1) := by decide +kernel
theorem dX8_mode_10 : decode cX8_mode 10 = .ok (.iconst 2, 1) := by decide +kernel
theorem dX8_mode_11 : decode cX8_mode 11 = .ok (.iload_n 1, 1) := by decide +kernel
theorem dX8_mode_12 : decode cX8_mode 12 = .ok (.invokevirtual 217, 3) := by decide +kernel
theorem dX8_mode_15 : decode cX8_mode 15 = .ok (.goto 5, 3) := by decide +kernel
theorem dX8_mode_18 : decode cX8_mode 18 = .ok (.ldc 179, 2) := by decide +kernel
theorem dX8_mode_20 : decode cX8_mode 20 = .ok (.ireturn, 1) := by decide +kernel
theorem dX8_draw_0 : decode cX8_draw 0 = .ok (.aload_n 0, 1) := by decide +kernel
theorem dX8_draw_1 : decode cX8_draw 1 = .ok (.getfield 176, 3) := by decide +kernel
theorem dX8_draw_4 : decode cX8_draw 4 = .ok (.i2l, 1) := by decide +kernel
theorem dX8_draw_5 : decode cX8_draw 5 = .ok (.ldc2_w 221, 3) := by decide +kernel
theorem dX8_draw_8 : decode cX8_draw 8 = .ok (.lmul, 1) := by decide +kernel
theorem dX8_draw_9 : decode cX8_draw 9 = .ok (.ldc2_w 223, 3) := by decide +kernel
theorem dX8_draw_12 : decode cX8_draw 12 = .ok (.ladd, 1) := by decide +kernel
theorem dX8_draw_13 : decode cX8_draw 13 = .ok (.ldc2_w 225, 3) := by decide +kernel
theorem dX8_draw_16 : decode cX8_draw 16 = .ok (.lrem, 1) := by decide +kernel
theorem dX8_draw_17 : decode cX8_draw 17 = .ok (.lstore_n 2, 1) := by decide +kernel
theorem dX8_draw_18 : decode cX8_draw 18 = .ok (.aload_n 0, 1) := by decide +kernel
theorem dX8_draw_19 : decode cX8_draw 19 = .ok (.lload_n 2, 1) := by decide +kernel
theorem dX8_draw_20 : decode cX8_draw 20 = .ok (.l2i, 1) := by decide +kernel
theorem dX8_draw_21 : decode cX8_draw 21 = .ok (.putfield 176, 3) := by decide +kernel
theorem dX8_draw_24 : decode cX8_draw 24 = .ok (.aload_n 0, 1) := by decide +kernel
theorem dX8_draw_25 : decode cX8_draw 25 = .ok (.getfield 176, 3) := by decide +kernel
theorem dX8_draw_28 : decode cX8_draw 28 = .ok (.ldc 227, 2) := by decide +kernel
theorem dX8_draw_30 : decode cX8_draw 30 = .ok (.idiv, 1) := by decide +kernel
theorem dX8_draw_31 : decode cX8_draw 31 = .ok (.iload_n 1, 1) := by decide +kernel
theorem dX8_draw_32 : decode cX8_draw 32 = .ok (.irem, 1) := by decide +kernel
theorem dX8_draw_33 : decode cX8_draw 33 = .ok (.ireturn, 1) := by decide +kernel
set_option maxRecDepth 20000 in
theorem ggX8_drift_X8_in : GoodIn wsX8_drift wsX8_in := goodIn_r _ [6] (by decide +kernel) (by decide +kernel)
set_option maxRecDepth 20000 in
theorem gX8_drift_X8_in : GoodIn wsX8_drift (va_wsS RX8 47 yX8_in wsX8_in) := goodIn_app (goodIn_of _ (by decide +kernel)) ggX8_drift_X8_in
set_option maxRecDepth 20000 in
theorem ggX8_drift_X8_remember : GoodIn wsX8_drift wsX8_remember := goodIn_r _ [10, 11, 12, 13, 14, 5, 15, 2, 44, 45, 46, 47, 48, 49, 50, 51, 52, 53, 54, 55, 56, 57, 58, 59, 60] (by decide +kernel) (by decide +kernel)
set_option maxRecDepth 20000 in
theorem gX8_drift_X8_remember : GoodIn wsX8_drift (wsV RX8 207 RX8 yX8_remember wsX8_remember) := goodIn_app (goodIn_of _ (by decide +kernel)) ggX8_drift_X8_remember
set_option maxRecDepth 20000 in
theorem ggX8_drift_X8_draw : GoodIn wsX8_drift wsX8_draw := goodIn_r _ [19, 20, 21, 22, 23, 24, 44, 45, 46, 47, 48, 49, 50, 51, 52, 53, 54, 55, 56, 57, 58, 59, 60] (by decide +kernel) (by decide +kernel)
set_option maxRecDepth 20000 in
theorem gX8_drift_X8_draw : GoodIn wsX8_drift (wsV RX8 228 RX8 yX8_draw wsX8_draw) := goodIn_app (goodIn_of _ (by decide +kernel)) ggX8_drift_X8_draw
set_option maxRecDepth 20000 in
theorem ggX8_drift_X8_truth : GoodIn wsX8_drift wsX8_truth := goodIn_r _ [28, 2, 29, 30, 31, 32, 5, 33, 34, 35, 36, 37, 38, 39, 40, 41, 42, 43, 44, 45, 46, 47, 48, 49, 50, 51, 52, 53, 54, 55, 56, 57, 58, 59, 60] (by decide +kernel) (by decide +kernel)
set_option maxRecDepth 20000 in
theorem gX8_drift_X8_truth : GoodIn wsX8_drift (wsV RX8 161 RX8 yX8_truth wsX8_truth) := goodIn_app (goodIn_of _ (by decide +kernel)) ggX8_drift_X8_truth
theorem dX8_drift_0 : decode cX8_drift 0 = .ok (.iload_n 1, 1) := by decide +kernel
theorem dX8_drift_1 : decode cX8_drift 1 = .ok (.iconst 1, 1) := by decide +kernel
theorem dX8_drift_2 : decode cX8_drift 2 = .ok (.bipush 12, 2) := by decide +kernel
theorem dX8_drift_4 : decode cX8_drift 4 = .ok (.invokestatic 47, 3) := by decide +kernel
theorem dX8_drift_7 : decode cX8_drift 7 = .ok (.ifCond .ne 6, 3) := by decide +kernel
theorem dX8_drift_10 : decode cX8_drift 10 = .ok (.ldc 179, 2) := by decide +kernel
theorem dX8_drift_12 : decode cX8_drift 12 = .ok (.ireturn, 1) := by decide +kernel
theorem dX8_drift_13 : decode cX8_drift 13 = .ok (.iconst 0, 1) := by decide +kernel
theorem dX8_drift_14 : decode cX8_drift 14 = .ok (.istore_n 2, 1) := by decide +kernel
theorem dX8_drift_15 : decode cX8_drift 15 = .ok (.iload_n 2, 1) := by decide +kernel
theorem dX8_drift_16 : decode cX8_drift 16 = .ok (.iload_n 1, 1) := by decide +kernel
theorem dX8_drift_17 : decode cX8_drift 17 = .ok (.if_icmp .ge 48, 3) := by decide +kernel
theorem dX8_drift_20 : decode cX8_drift 20 = .ok (.aload_n 0, 1) := by decide +kernel
theorem dX8_drift_21 : decode cX8_drift 21 = .ok (.invokevirtual 207, 3) := by decide +kernel
theorem dX8_drift_24 : decode cX8_drift 24 = .ok (.aload_n 0, 1) := by decide +kernel
theorem dX8_drift_25 : decode cX8_drift 25 = .ok (.aload_n 0, 1) := by decide +kernel
theorem dX8_drift_26 : decode cX8_drift 26 = .ok (.getfield 9, 3) := by decide +kernel
theorem dX8_drift_29 : decode cX8_drift 29 = .ok (.iconst 0, 1) := by decide +kernel
theorem dX8_drift_30 : decode cX8_drift 30 = .ok (.iaload, 1) := by decide +kernel
theorem dX8_drift_31 : decode cX8_drift 31 = .ok (.invokevirtual 228, 3) := by decide +kernel
theorem dX8_drift_34 : decode cX8_drift 34 = .ok (.istore_n 3, 1) := by decide +kernel
theorem dX8_drift_35 : decode cX8_drift 35 = .ok (.aload_n 0, 1) := by decide +kernel
theorem dX8_drift_36 : decode cX8_drift 36 = .ok (.bipush 16, 2) := by decide +kernel
theorem dX8_drift_38 : decode cX8_drift 38 = .ok (.invokevirtual 228, 3) := by decide +kernel
theorem dX8_drift_41 : decode cX8_drift 41 = .ok (.istore 4, 2) := by decide +kernel
theorem dX8_drift_43 : decode cX8_drift 43 = .ok (.aload_n 0, 1) := by decide +kernel
theorem dX8_drift_44 : decode cX8_drift 44 = .ok (.getfield 9, 3) := by decide +kernel
theorem dX8_drift_47 : decode cX8_drift 47 = .ok (.bipush 21, 2) := by decide +kernel
theorem dX8_drift_49 : decode cX8_drift 49 = .ok (.iload_n 3, 1) := by decide +kernel
theorem dX8_drift_50 : decode cX8_drift 50 = .ok (.iadd, 1) := by decide +kernel
theorem dX8_drift_51 : decode cX8_drift 51 = .ok (.dup2, 1) := by decide +kernel
theorem dX8_drift_52 : decode cX8_drift 52 = .ok (.iaload, 1) := by decide +kernel
theorem dX8_drift_53 : decode cX8_drift 53 = .ok (.iconst 1, 1) := by decide +kernel
theorem dX8_drift_54 : decode cX8_drift 54 = .ok (.iload 4, 2) := by decide +kernel
theorem dX8_drift_56 : decode cX8_drift 56 = .ok (.ishl, 1) := by decide +kernel
theorem dX8_drift_57 : decode cX8_drift 57 = .ok (.ixor, 1) := by decide +kernel
theorem dX8_drift_58 : decode cX8_drift 58 = .ok (.iastore, 1) := by decide +kernel
theorem dX8_drift_59 : decode cX8_drift 59 = .ok (.iinc 2 1, 3) := by decide +kernel
theorem dX8_drift_62 : decode cX8_drift 62 = .ok (.goto (-47), 3) := by decide +kernel
theorem dX8_drift_65 : decode cX8_drift 65 = .ok (.aload_n 0, 1) := by decide +kernel
theorem dX8_drift_66 : decode cX8_drift 66 = .ok (.invokevirtual 161, 3) := by decide +kernel
theorem dX8_drift_69 : decode cX8_drift 69 = .ok (.ireturn, 1) := by decide +kernel
set_option maxRecDepth 20000 in
theorem ggX8_undo_X8_in : GoodIn wsX8_undo wsX8_in := goodIn_r _ [7] (by decide +kernel) (by decide +kernel)
set_option maxRecDepth 20000 in
theorem gX8_undo_X8_in : GoodIn wsX8_undo (va_wsS RX8 47 yX8_in wsX8_in) := goodIn_app (goodIn_of _ (by decide +kernel)) ggX8_undo_X8_in
set_option maxRecDepth 20000 in
theorem ggX8_undo_X8_copyRow : GoodIn wsX8_undo wsX8_copyRow := goodIn_r _ [11, 12, 13, 14, 15, 16, 17, 18, 19, 20, 21, 22, 23, 24, 25, 26, 27, 28, 29] (by decide +kernel) (by decide +kernel)
set_option maxRecDepth 20000 in
theorem gX8_undo_X8_copyRow : GoodIn wsX8_undo (wsV RX8 203 RX8 yX8_copyRow wsX8_copyRow) := goodIn_app (goodIn_of _ (by decide +kernel)) ggX8_undo_X8_copyRow
theorem dX8_undo_0 : decode cX8_undo 0 = .ok (.iload_n 1, 1) := by decide +kernel
theorem dX8_undo_1 : decode cX8_undo 1 = .ok (.iconst 1, 1) := by decide +kernel
theorem dX8_undo_2 : decode cX8_undo 2 = .ok (.bipush 16, 2) := by decide +kernel
theorem dX8_undo_4 : decode cX8_undo 4 = .ok (.invokestatic 47, 3) := by decide +kernel
theorem dX8_undo_7 : decode cX8_undo 7 = .ok (.ifCond .ne 6, 3) := by decide +kernel
theorem dX8_undo_10 : decode cX8_undo 10 = .ok (.ldc 179, 2) := by decide +kernel
theorem dX8_undo_12 : decode cX8_undo 12 = .ok (.ireturn, 1) := by decide +kernel
theorem dX8_undo_13 : decode cX8_undo 13 = .ok (.iload_n 1, 1) := by decide +kernel
theorem dX8_undo_14 : decode cX8_undo 14 = .ok (.aload_n 0, 1) := by decide +kernel
theorem dX8_undo_15 : decode cX8_undo 15 = .ok (.getfield 173, 3) := by decide +kernel
theorem dX8_undo_18 : decode cX8_undo 18 = .ok (.if_icmp .le 6, 3) := by decide +kernel
theorem dX8_undo_21 : decode cX8_undo 21 = .ok (.ldc 216, 2) := by decide +kernel
theorem dX8_undo_23 : decode cX8_undo 23 = .ok (.ireturn, 1) := by decide +kernel
theorem dX8_undo_24 : decode cX8_undo 24 = .ok (.aload_n 0, 1) := by decide +kernel
theorem dX8_undo_25 : decode cX8_undo 25 = .ok (.dup, 1) := by decide +kernel
theorem dX8_undo_26 : decode cX8_undo 26 = .ok (.getfield 173, 3) := by decide +kernel
theorem dX8_undo_29 : decode cX8_undo 29 = .ok (.iload_n 1, 1) := by decide +kernel
theorem dX8_undo_30 : decode cX8_undo 30 = .ok (.isub, 1) := by decide +kernel
theorem dX8_undo_31 : decode cX8_undo 31 = .ok (.putfield 173, 3) := by decide +kernel
theorem dX8_undo_34 : decode cX8_undo 34 = .ok (.aload_n 0, 1) := by decide +kernel
theorem dX8_undo_35 : decode cX8_undo 35 = .ok (.bipush 30, 2) := by decide +kernel
theorem dX8_undo_37 : decode cX8_undo 37 = .ok (.aload_n 0, 1) := by decide +kernel
theorem dX8_undo_38 : decode cX8_undo 38 = .ok (.getfield 173, 3) := by decide +kernel
theorem dX8_undo_41 : decode cX8_undo 41 = .ok (.iconst 1, 1) := by decide +kernel
theorem dX8_undo_42 : decode cX8_undo 42 = .ok (.iadd, 1) := by decide +kernel
theorem dX8_undo_43 : decode cX8_undo 43 = .ok (.imul, 1) := by decide +kernel
theorem dX8_undo_44 : decode cX8_undo 44 = .ok (.iconst 0, 1) := by decide +kernel
theorem dX8_undo_45 : decode cX8_undo 45 = .ok (.invokevirtual 203, 3) := by decide +kernel
theorem dX8_undo_48 : decode cX8_undo 48 = .ok (.aload_n 0, 1) := by decide +kernel
theorem dX8_undo_49 : decode cX8_undo 49 = .ok (.getfield 173, 3) := by decide +kernel
theorem dX8_undo_52 : decode cX8_undo 52 = .ok (.ireturn, 1) := by decide +kernel
set_option maxRecDepth 20000 in
theorem ggX8_write_X8_isNode : GoodIn wsX8_write wsX8_isNode := goodIn_r _ [10, 11, 12, 13, 9, 14, 15, 16, 17, 18, 19, 20, 21, 22, 23, 24, 25, 26, 27, 28, 29, 30, 31] (by decide +kernel) (by decide +kernel)
set_option maxRecDepth 20000 in
theorem gX8_write_X8_isNode : GoodIn wsX8_write (wsV RX8 51 RX8 yX8_isNode wsX8_isNode) := goodIn_app (goodIn_of _ (by decide +kernel)) ggX8_write_X8_isNode
theorem dX8_write_0 : decode cX8_write 0 = .ok (.aload_n 0, 1) := by decide +kernel
theorem dX8_write_1 : decode cX8_write 1 = .ok (.iload_n 1, 1) := by decide +kernel
theorem dX8_write_2 : decode cX8_write 2 = .ok (.invokevirtual 51, 3) := by decide +kernel
theorem dX8_write_5 : decode cX8_write 5 = .ok (.ifCond .ne 6, 3) := by decide +kernel
theorem dX8_write_8 : decode cX8_write 8 = .ok (.ldc 180, 2) := by decide +kernel
theorem dX8_write_10 : decode cX8_write 10 = .ok (.ireturn, 1) := by decide +kernel
theorem dX8_write_11 : decode cX8_write 11 = .ok (.aload_n 0, 1) := by decide +kernel
theorem dX8_write_12 : decode cX8_write 12 = .ok (.getfield 143, 3) := by decide +kernel
theorem dX8_write_15 : decode cX8_write 15 = .ok (.bipush 20, 2) := by decide +kernel
theorem dX8_write_17 : decode cX8_write 17 = .ok (.if_icmp .ne 6, 3) := by decide +kernel
theorem dX8_write_20 : decode cX8_write 20 = .ok (.ldc 211, 2) := by decide +kernel
theorem dX8_write_22 : decode cX8_write 22 = .ok (.ireturn, 1) := by decide +kernel
theorem dX8_write_23 : decode cX8_write 23 = .ok (.aload_n 0, 1) := by decide +kernel
theorem dX8_write_24 : decode cX8_write 24 = .ok (.getfield 16, 3) := by decide +kernel
theorem dX8_write_27 : decode cX8_write 27 = .ok (.aload_n 0, 1) := by decide +kernel
theorem dX8_write_28 : decode cX8_write 28 = .ok (.getfield 143, 3) := by decide +kernel
theorem dX8_write_31 : decode cX8_write 31 = .ok (.iload_n 1, 1) := by decide +kernel
theorem dX8_write_32 : decode cX8_write 32 = .ok (.iastore, 1) := by decide +kernel
theorem dX8_write_33 : decode cX8_write 33 = .ok (.aload_n 0, 1) := by decide +kernel
theorem dX8_write_34 : decode cX8_write 34 = .ok (.getfield 19, 3) := by decide +kernel
theorem dX8_write_37 : decode cX8_write 37 = .ok (.aload_n 0, 1) := by decide +kernel
theorem dX8_write_38 : decode cX8_write 38 = .ok (.getfield 143, 3) := by decide +kernel
theorem dX8_write_41 : decode cX8_write 41 = .ok (.iload_n 2, 1) := by decide +kernel
theorem dX8_write_42 : decode cX8_write 42 = .ok (.iastore, 1) := by decide +kernel
theorem dX8_write_43 : decode cX8_write 43 = .ok (.aload_n 0, 1) := by decide +kernel
theorem dX8_write_44 : decode cX8_write 44 = .ok (.dup, 1) := by decide +kernel
theorem dX8_write_45 : decode cX8_write 45 = .ok (.getfield 143, 3) := by decide +kernel
theorem dX8_write_48 : decode cX8_write 48 = .ok (.iconst 1, 1) := by decide +kernel
theorem dX8_write_49 : decode cX8_write 49 = .ok (.iadd, 1) := by decide +kernel
theorem dX8_write_50 : decode cX8_write 50 = .ok (.putfield 143, 3) := by decide +kernel
theorem dX8_write_53 : decode cX8_write 53 = .ok (.aload_n 0, 1) := by decide +kernel
theorem dX8_write_54 : decode cX8_write 54 = .ok (.getfield 143, 3) := by decide +kernel
theorem dX8_write_57 : decode cX8_write 57 = .ok (.ireturn, 1) := by decide +kernel
theorem dX8_tear_0 : decode cX8_tear 0 = .ok (.aload_n 0, 1) := by decide +kernel
theorem dX8_tear_1 : decode cX8_tear 1 = .ok (.getfield 143, 3) := by decide +kernel
theorem dX8_tear_4 : decode cX8_tear 4 = .ok (.istore_n 1, 1) := by decide +kernel
theorem dX8_tear_5 : decode cX8_tear 5 = .ok (.aload_n 0, 1) := by decide +kernel
theorem dX8_tear_6 : decode cX8_tear 6 = .ok (.iconst 0, 1) := by decide +kernel
theorem dX8_tear_7 : decode cX8_tear 7 = .ok (.putfield 143, 3) := by decide +kernel
theorem dX8_tear_10 : decode cX8_tear 10 = .ok (.iload_n 1, 1) := by decide +kernel
theorem dX8_tear_11 : decode cX8_tear 11 = .ok (.ireturn, 1) := by decide +kernel
theorem dX8_seed_0 : decode cX8_seed 0 = .ok (.iload_n 1, 1) := by decide +kernel
theorem dX8_seed_1 : decode cX8_seed 1 = .ok (.ifCond .ge 6, 3) := by decide +kernel
theorem dX8_seed_4 : decode cX8_seed 4 = .ok (.ldc 179, 2) := by decide +kernel
theorem dX8_seed_6 : decode cX8_seed 6 = .ok (.ireturn, 1) := by decide +kernel
theorem dX8_seed_7 : decode cX8_seed 7 = .ok (.aload_n 0, 1) := by decide +kernel
theorem dX8_seed_8 : decode cX8_seed 8 = .ok (.getfield 176, 3) := by decide +kernel
theorem dX8_seed_11 : decode cX8_seed 11 = .ok (.istore_n 2, 1) := by decide +kernel
theorem dX8_seed_12 : decode cX8_seed 12 = .ok (.aload_n 0, 1) := by decide +kernel
theorem dX8_seed_13 : decode cX8_seed 13 = .ok (.iload_n 1, 1) := by decide +kernel
theorem dX8_seed_14 : decode cX8_seed 14 = .ok (.putfield 176, 3) := by decide +kernel
theorem dX8_seed_17 : decode cX8_seed 17 = .ok (.iload_n 2, 1) := by decide +kernel
theorem dX8_seed_18 : decode cX8_seed 18 = .ok (.ireturn, 1) := by decide +kernel
set_option maxRecDepth 20000 in
theorem ggX8_keep_X8_in : GoodIn wsX8_keep wsX8_in := goodIn_r _ [9] (by decide +kernel) (by decide +kernel)
set_option maxRecDepth 20000 in
theorem gX8_keep_X8_in : GoodIn wsX8_keep (va_wsS RX8 47 yX8_in wsX8_in) := goodIn_app (goodIn_of _ (by decide +kernel)) ggX8_keep_X8_in
set_option maxRecDepth 20000 in
theorem ggX8_keep_X8_copyRow : GoodIn wsX8_keep wsX8_copyRow := goodIn_r _ [13, 14, 15, 16, 17, 18, 19, 20, 21, 22, 23, 24, 25, 26, 27, 28, 29, 30, 31] (by decide +kernel) (by decide +kernel)
set_option maxRecDepth 20000 in
theorem gX8_keep_X8_copyRow : GoodIn wsX8_keep (wsV RX8 203 RX8 yX8_copyRow wsX8_copyRow) := goodIn_app (goodIn_of _ (by decide +kernel)) ggX8_keep_X8_copyRow
theorem dX8_keep_0 : decode cX8_keep 0 = .ok (.iload_n 1, 1) := by decide +kernel
theorem dX8_keep_1 : decode cX8_keep 1 = .ok (.iconst 0, 1) := by decide +kernel
theorem dX8_keep_2 : decode cX8_keep 2 = .ok (.iconst 1, 1) := by decide +kernel
theorem dX8_keep_3 : decode cX8_keep 3 = .ok (.invokestatic 47, 3) := by decide +kernel
theorem dX8_keep_6 : decode cX8_keep 6 = .ok (.ifCond .ne 6, 3) := by decide +kernel
theorem dX8_keep_9 : decode cX8_keep 9 = .ok (.ldc 180, 2) := by decide +kernel
theorem dX8_keep_11 : decode cX8_keep 11 = .ok (.ireturn, 1) := by decide +kernel
theorem dX8_keep_12 : decode cX8_keep 12 = .ok (.aload_n 0, 1) := by decide +kernel
theorem dX8_keep_13 : decode cX8_keep 13 = .ok (.iconst 0, 1) := by decide +kernel
theorem dX8_keep_14 : decode cX8_keep 14 = .ok (.sipush 510, 3) := by decide +kernel
theorem dX8_keep_17 : decode cX8_keep 17 = .ok (.bipush 30, 2) := by decide +kernel
theorem dX8_keep_19 : decode cX8_keep 19 = .ok (.iload_n 1, 1) := by decide +kernel
theorem dX8_keep_20 : decode cX8_keep 20 = .ok (.imul, 1) := by decide +kernel
theorem dX8_keep_21 : decode cX8_keep 21 = .ok (.iadd, 1) := by decide +kernel
theorem dX8_keep_22 : decode cX8_keep 22 = .ok (.invokevirtual 203, 3) := by decide +kernel
theorem dX8_keep_25 : decode cX8_keep 25 = .ok (.aload_n 0, 1) := by decide +kernel
theorem dX8_keep_26 : decode cX8_keep 26 = .ok (.getfield 13, 3) := by decide +kernel
theorem dX8_keep_29 : decode cX8_keep 29 = .ok (.iload_n 1, 1) := by decide +kernel
theorem dX8_keep_30 : decode cX8_keep 30 = .ok (.aload_n 0, 1) := by decide +kernel
theorem dX8_keep_31 : decode cX8_keep 31 = .ok (.getfield 176, 3) := by decide +kernel
theorem dX8_keep_34 : decode cX8_keep 34 = .ok (.iastore, 1) := by decide +kernel
theorem dX8_keep_35 : decode cX8_keep 35 = .ok (.aload_n 0, 1) := by decide +kernel
theorem dX8_keep_36 : decode cX8_keep 36 = .ok (.dup, 1) := by decide +kernel
theorem dX8_keep_37 : decode cX8_keep 37 = .ok (.getfield 231, 3) := by decide +kernel
theorem dX8_keep_40 : decode cX8_keep 40 = .ok (.iconst 1, 1) := by decide +kernel
theorem dX8_keep_41 : decode cX8_keep 41 = .ok (.iload_n 1, 1) := by decide +kernel
theorem dX8_keep_42 : decode cX8_keep 42 = .ok (.ishl, 1) := by decide +kernel
theorem dX8_keep_43 : decode cX8_keep 43 = .ok (.ior, 1) := by decide +kernel
theorem dX8_keep_44 : decode cX8_keep 44 = .ok (.putfield 231, 3) := by decide +kernel
theorem dX8_keep_47 : decode cX8_keep 47 = .ok (.aload_n 0, 1) := by decide +kernel
theorem dX8_keep_48 : decode cX8_keep 48 = .ok (.iconst 0, 1) := by decide +kernel
theorem dX8_keep_49 : decode cX8_keep 49 = .ok (.putfield 173, 3) := by decide +kernel
theorem dX8_keep_52 : decode cX8_keep 52 = .ok (.iconst 1, 1) := by decide +kernel
theorem dX8_keep_53 : decode cX8_keep 53 = .ok (.ireturn, 1) := by decide +kernel
set_option maxRecDepth 20000 in
theorem ggX8_goBack_X8_in : GoodIn wsX8_goBack wsX8_in := goodIn_r _ [10] (by decide +kernel) (by decide +kernel)
set_option maxRecDepth 20000 in
theorem gX8_goBack_X8_in : GoodIn wsX8_goBack (va_wsS RX8 47 yX8_in wsX8_in) := goodIn_app (goodIn_of _ (by decide +kernel)) ggX8_goBack_X8_in
set_option maxRecDepth 20000 in
theorem ggX8_goBack_X8_copyRow : GoodIn wsX8_goBack wsX8_copyRow := goodIn_r _ [14, 15, 16, 17, 18, 19, 20, 21, 22, 23, 24, 25, 26, 27, 28, 29, 30, 31, 32] (by decide +kernel) (by decide +kernel)
set_option maxRecDepth 20000 in
theorem gX8_goBack_X8_copyRow : GoodIn wsX8_goBack (wsV RX8 203 RX8 yX8_copyRow wsX8_copyRow) := goodIn_app (goodIn_of _ (by decide +kernel)) ggX8_goBack_X8_copyRow
theorem dX8_goBack_0 : decode cX8_goBack 0 = .ok (.iload_n 1, 1) := by decide +kernel
theorem dX8_goBack_1 : decode cX8_goBack 1 = .ok (.iconst 0, 1) := by decide +kernel
theorem dX8_goBack_2 : decode cX8_goBack 2 = .ok (.iconst 1, 1) := by decide +kernel
theorem dX8_goBack_3 : decode cX8_goBack 3 = .ok (.invokestatic 47, 3) := by decide +kernel
theorem dX8_goBack_6 : decode cX8_goBack 6 = .ok (.ifCond .ne 6, 3) := by decide +kernel
theorem dX8_goBack_9 : decode cX8_goBack 9 = .ok (.ldc 180, 2) := by decide +kernel
theorem dX8_goBack_11 : decode cX8_goBack 11 = .ok (.ireturn, 1) := by decide +kernel
theorem dX8_goBack_12 : decode cX8_goBack 12 = .ok (.aload_n 0, 1) := by decide +kernel
theorem dX8_goBack_13 : decode cX8_goBack 13 = .ok (.getfield 231, 3) := by decide +kernel
theorem dX8_goBack_16 : decode cX8_goBack 16 = .ok (.iload_n 1, 1) := by decide +kernel
theorem dX8_goBack_17 : decode cX8_goBack 17 = .ok (.ishr, 1) := by decide +kernel
theorem dX8_goBack_18 : decode cX8_goBack 18 = .ok (.iconst 1, 1) := by decide +kernel
theorem dX8_goBack_19 : decode cX8_goBack 19 = .ok (.iand, 1) := by decide +kernel
theorem dX8_goBack_20 : decode cX8_goBack 20 = .ok (.ifCond .ne 6, 3) := by decide +kernel
theorem dX8_goBack_23 : decode cX8_goBack 23 = .ok (.ldc 216, 2) := by decide +kernel
theorem dX8_goBack_25 : decode cX8_goBack 25 = .ok (.ireturn, 1) := by decide +kernel
theorem dX8_goBack_26 : decode cX8_goBack 26 = .ok (.aload_n 0, 1) := by decide +kernel
theorem dX8_goBack_27 : decode cX8_goBack 27 = .ok (.sipush 510, 3) := by decide +kernel
theorem dX8_goBack_30 : decode cX8_goBack 30 = .ok (.bipush 30, 2) := by decide +kernel
theorem dX8_goBack_32 : decode cX8_goBack 32 = .ok (.iload_n 1, 1) := by decide +kernel
theorem dX8_goBack_33 : decode cX8_goBack 33 = .ok (.imul, 1) := by decide +kernel
theorem dX8_goBack_34 : decode cX8_goBack 34 = .ok (.iadd, 1) := by decide +kernel
theorem dX8_goBack_35 : decode cX8_goBack 35 = .ok (.iconst 0, 1) := by decide +kernel
theorem dX8_goBack_36 : decode cX8_goBack 36 = .ok (.invokevirtual 203, 3) := by decide +kernel
theorem dX8_goBack_39 : decode cX8_goBack 39 = .ok (.aload_n 0, 1) := by decide +kernel
theorem dX8_goBack_40 : decode cX8_goBack 40 = .ok (.aload_n 0, 1) := by decide +kernel
theorem dX8_goBack_41 : decode cX8_goBack 41 = .ok (.getfield 13, 3) := by decide +kernel
theorem dX8_goBack_44 : decode cX8_goBack 44 = .ok (.iload_n 1, 1) := by decide +kernel
theorem dX8_goBack_45 : decode cX8_goBack 45 = .ok (.iaload, 1) := by decide +kernel
theorem dX8_goBack_46 : decode cX8_goBack 46 = .ok (.putfield 176, 3) := by decide +kernel
theorem dX8_goBack_49 : decode cX8_goBack 49 = .ok (.aload_n 0, 1) := by decide +kernel
theorem dX8_goBack_50 : decode cX8_goBack 50 = .ok (.iconst 0, 1) := by decide +kernel
theorem dX8_goBack_51 : decode cX8_goBack 51 = .ok (.putfield 173, 3) := by decide +kernel
theorem dX8_goBack_54 : decode cX8_goBack 54 = .ok (.iconst 1, 1) := by decide +kernel
theorem dX8_goBack_55 : decode cX8_goBack 55 = .ok (.ireturn, 1) := by decide +kernel
theorem dJ6_bitCount_0f7a4_0 : decode cJ6_bitCount_0f7a4 0 = .ok (.iload_n 0, 1) := by decide +kernel
theorem dJ6_bitCount_0f7a4_1 : decode cJ6_bitCount_0f7a4 1 = .ok (.iload_n 0, 1) := by decide +kernel
theorem dJ6_bitCount_0f7a4_2 : decode cJ6_bitCount_0f7a4 2 = .ok (.iconst 1, 1) := by decide +kernel
theorem dJ6_bitCount_0f7a4_3 : decode cJ6_bitCount_0f7a4 3 = .ok (.iushr, 1) := by decide +kernel
theorem dJ6_bitCount_0f7a4_4 : decode cJ6_bitCount_0f7a4 4 = .ok (.ldc_w 265, 3) := by decide +kernel
theorem dJ6_bitCount_0f7a4_7 : decode cJ6_bitCount_0f7a4 7 = .ok (.iand, 1) := by decide +kernel
theorem dJ6_bitCount_0f7a4_8 : decode cJ6_bitCount_0f7a4 8 = .ok (.isub, 1) := by decide +kernel
theorem dJ6_bitCount_0f7a4_9 : decode cJ6_bitCount_0f7a4 9 = .ok (.istore_n 0, 1) := by decide +kernel
theorem dJ6_bitCount_0f7a4_10 : decode cJ6_bitCount_0f7a4 10 = .ok (.iload_n 0, 1) := by decide +kernel
theorem dJ6_bitCount_0f7a4_11 : decode cJ6_bitCount_0f7a4 11 = .ok (.ldc_w 266, 3) := by decide +kernel
theorem dJ6_bitCount_0f7a4_14 : decode cJ6_bitCount_0f7a4 14 = .ok (.iand, 1) := by decide +kernel
theorem dJ6_bitCount_0f7a4_15 : decode cJ6_bitCount_0f7a4 15 = .ok (.iload_n 0, 1) := by decide +kernel
theorem dJ6_bitCount_0f7a4_16 : decode cJ6_bitCount_0f7a4 16 = .ok (.iconst 2, 1) := by decide +kernel
theorem dJ6_bitCount_0f7a4_17 : decode cJ6_bitCount_0f7a4 17 = .ok (.iushr, 1) := by decide +kernel
theorem dJ6_bitCount_0f7a4_18 : decode cJ6_bitCount_0f7a4 18 = .ok (.ldc_w 266, 3) := by decide +kernel
theorem dJ6_bitCount_0f7a4_21 : decode cJ6_bitCount_0f7a4 21 = .ok (.iand, 1) := by decide +kernel
theorem dJ6_bitCount_0f7a4_22 : decode cJ6_bitCount_0f7a4 22 = .ok (.iadd, 1) := by decide +kernel
theorem dJ6_bitCount_0f7a4_23 : decode cJ6_bitCount_0f7a4 23 = .ok (.istore_n 0, 1) := by decide +kernel
theorem dJ6_bitCount_0f7a4_24 : decode cJ6_bitCount_0f7a4 24 = .ok (.iload_n 0, 1) := by decide +kernel
theorem dJ6_bitCount_0f7a4_25 : decode cJ6_bitCount_0f7a4 25 = .ok (.iload_n 0, 1) := by decide +kernel
theorem dJ6_bitCount_0f7a4_26 : decode cJ6_bitCount_0f7a4 26 = .ok (.iconst 4, 1) := by decide +kernel
theorem dJ6_bitCount_0f7a4_27 : decode cJ6_bitCount_0f7a4 27 = .ok (.iushr, 1) := by decide +kernel
theorem dJ6_bitCount_0f7a4_28 : decode cJ6_bitCount_0f7a4 28 = .ok (.iadd, 1) := by decide +kernel
theorem dJ6_bitCount_0f7a4_29 : decode cJ6_bitCount_0f7a4 29 = .ok (.ldc_w 267, 3) := by decide +kernel
theorem dJ6_bitCount_0f7a4_32 : decode cJ6_bitCount_0f7a4 32 = .ok (.iand, 1) := by decide +kernel
theorem dJ6_bitCount_0f7a4_33 : decode cJ6_bitCount_0f7a4 33 = .ok (.istore_n 0, 1) := by decide +kernel
theorem dJ6_bitCount_0f7a4_34 : decode cJ6_bitCount_0f7a4 34 = .ok (.iload_n 0, 1) := by decide +kernel
theorem dJ6_bitCount_0f7a4_35 : decode cJ6_bitCount_0f7a4 35 = .ok (.iload_n 0, 1) := by decide +kernel
theorem dJ6_bitCount_0f7a4_36 : decode cJ6_bitCount_0f7a4 36 = .ok (.bipush 8, 2) := by decide +kernel
theorem dJ6_bitCount_0f7a4_38 : decode cJ6_bitCount_0f7a4 38 = .ok (.iushr, 1) := by decide +kernel
theorem dJ6_bitCount_0f7a4_39 : decode cJ6_bitCount_0f7a4 39 = .ok (.iadd, 1) := by decide +kernel
theorem dJ6_bitCount_0f7a4_40 : decode cJ6_bitCount_0f7a4 40 = .ok (.istore_n 0, 1) := by decide +kernel
theorem dJ6_bitCount_0f7a4_41 : decode cJ6_bitCount_0f7a4 41 = .ok (.iload_n 0, 1) := by decide +kernel
theorem dJ6_bitCount_0f7a4_42 : decode cJ6_bitCount_0f7a4 42 = .ok (.iload_n 0, 1) := by decide +kernel
theorem dJ6_bitCount_0f7a4_43 : decode cJ6_bitCount_0f7a4 43 = .ok (.bipush 16, 2) := by decide +kernel
theorem dJ6_bitCount_0f7a4_45 : decode cJ6_bitCount_0f7a4 45 = .ok (.iushr, 1) := by decide +kernel
theorem dJ6_bitCount_0f7a4_46 : decode cJ6_bitCount_0f7a4 46 = .ok (.iadd, 1) := by decide +kernel
theorem dJ6_bitCount_0f7a4_47 : decode cJ6_bitCount_0f7a4 47 = .ok (.istore_n 0, 1) := by decide +kernel
theorem dJ6_bitCount_0f7a4_48 : decode cJ6_bitCount_0f7a4 48 = .ok (.iload_n 0, 1) := by decide +kernel
theorem dJ6_bitCount_0f7a4_49 : decode cJ6_bitCount_0f7a4 49 = .ok (.bipush 63, 2) := by decide +kernel
theorem dJ6_bitCount_0f7a4_51 : decode cJ6_bitCount_0f7a4 51 = .ok (.iand, 1) := by decide +kernel
theorem dJ6_bitCount_0f7a4_52 : decode cJ6_bitCount_0f7a4 52 = .ok (.ireturn, 1) := by decide +kernel
theorem dJ9_min_7cf53_0 : decode cJ9_min_7cf53 0 = .ok (.iload_n 0, 1) := by decide +kernel
theorem dJ9_min_7cf53_1 : decode cJ9_min_7cf53 1 = .ok (.iload_n 1, 1) := by decide +kernel
theorem dJ9_min_7cf53_2 : decode cJ9_min_7cf53 2 = .ok (.if_icmp .gt 7, 3) := by decide +kernel
theorem dJ9_min_7cf53_5 : decode cJ9_min_7cf53 5 = .ok (.iload_n 0, 1) := by decide +kernel
theorem dJ9_min_7cf53_6 : decode cJ9_min_7cf53 6 = .ok (.goto 4, 3) := by decide +kernel
theorem dJ9_min_7cf53_9 : decode cJ9_min_7cf53 9 = .ok (.iload_n 1, 1) := by decide +kernel
theorem dJ9_min_7cf53_10 : decode cJ9_min_7cf53 10 = .ok (.ireturn, 1) := by decide +kernel
theorem dJ7_fill_d0a16_0 : decode cJ7_fill_d0a16 0 = .ok (.iconst 0, 1) := by decide +kernel
theorem dJ7_fill_d0a16_1 : decode cJ7_fill_d0a16 1 = .ok (.istore_n 3, 1) := by decide +kernel
theorem dJ7_fill_d0a16_2 : decode cJ7_fill_d0a16 2 = .ok (.aload_n 0, 1) := by decide +kernel
theorem dJ7_fill_d0a16_3 : decode cJ7_fill_d0a16 3 = .ok (.arraylength, 1) := by decide +kernel
theorem dJ7_fill_d0a16_4 : decode cJ7_fill_d0a16 4 = .ok (.istore 4, 2) := by decide +kernel
theorem dJ7_fill_d0a16_6 : decode cJ7_fill_d0a16 6 = .ok (.iload_n 3, 1) := by decide +kernel
theorem dJ7_fill_d0a16_7 : decode cJ7_fill_d0a16 7 = .ok (.iload 4, 2) := by decide +kernel
theorem dJ7_fill_d0a16_9 : decode cJ7_fill_d0a16 9 = .ok (.if_icmp .ge 13, 3) := by decide +kernel
theorem dJ7_fill_d0a16_12 : decode cJ7_fill_d0a16 12 = .ok (.aload_n 0, 1) := by decide +kernel
theorem dJ7_fill_d0a16_13 : decode cJ7_fill_d0a16 13 = .ok (.iload_n 3, 1) := by decide +kernel
theorem dJ7_fill_d0a16_14 : decode cJ7_fill_d0a16 14 = .ok (.lload_n 1, 1) := by decide +kernel
theorem dJ7_fill_d0a16_15 : decode cJ7_fill_d0a16 15 = .ok (.lastore, 1) := by decide +kernel
theorem dJ7_fill_d0a16_16 : decode cJ7_fill_d0a16 16 = .ok (.iinc 3 1, 3) := by decide +kernel
theorem dJ7_fill_d0a16_19 : decode cJ7_fill_d0a16 19 = .ok (.goto (-13), 3) := by decide +kernel
theorem dJ7_fill_d0a16_22 : decode cJ7_fill_d0a16 22 = .ok (.return_, 1) := by decide +kernel
theorem dJ7_fill_53178_0 : decode cJ7_fill_53178 0 = .ok (.iconst 0, 1) := by decide +kernel
theorem dJ7_fill_53178_1 : decode cJ7_fill_53178 1 = .ok (.istore_n 2, 1) := by decide +kernel
theorem dJ7_fill_53178_2 : decode cJ7_fill_53178 2 = .ok (.aload_n 0, 1) := by decide +kernel
theorem dJ7_fill_53178_3 : decode cJ7_fill_53178 3 = .ok (.arraylength, 1) := by decide +kernel
theorem dJ7_fill_53178_4 : decode cJ7_fill_53178 4 = .ok (.istore_n 3, 1) := by decide +kernel
theorem dJ7_fill_53178_5 : decode cJ7_fill_53178 5 = .ok (.iload_n 2, 1) := by decide +kernel
theorem dJ7_fill_53178_6 : decode cJ7_fill_53178 6 = .ok (.iload_n 3, 1) := by decide +kernel
theorem dJ7_fill_53178_7 : decode cJ7_fill_53178 7 = .ok (.if_icmp .ge 13, 3) := by decide +kernel
theorem dJ7_fill_53178_10 : decode cJ7_fill_53178 10 = .ok (.aload_n 0, 1) := by decide +kernel
theorem dJ7_fill_53178_11 : decode cJ7_fill_53178 11 = .ok (.iload_n 2, 1) := by decide +kernel
theorem dJ7_fill_53178_12 : decode cJ7_fill_53178 12 = .ok (.iload_n 1, 1) := by decide +kernel
theorem dJ7_fill_53178_13 : decode cJ7_fill_53178 13 = .ok (.iastore, 1) := by decide +kernel
theorem dJ7_fill_53178_14 : decode cJ7_fill_53178 14 = .ok (.iinc 2 1, 3) := by decide +kernel
theorem dJ7_fill_53178_17 : decode cJ7_fill_53178 17 = .ok (.goto (-12), 3) := by decide +kernel
theorem dJ7_fill_53178_20 : decode cJ7_fill_53178 20 = .ok (.return_, 1) := by decide +kernel
set_option maxRecDepth 20000 in
theorem ggL_law_X7_init : GoodIn wsL_law wsX7_init := goodIn_r _ [8, 9, 10, 11, 12, 13, 14, 15, 16, 17, 18, 19, 20, 21, 22, 23, 24, 25, 26, 27, 28, 29, 30, 31, 32, 33, 34, 35, 36, 37, 38, 39, 40, 41, 42, 43, 44, 45, 46, 47, 48, 49, 50, 51, 52, 53, 54, 55, 56, 57, 58, 59, 60, 61, 62, 63, 64, 65, 66, 67, 68, 69, 70, 71, 72, 73, 74, 75, 76, 77, 78, 79, 80, 81, 82, 746, 747, 748, 749, 750, 751, 722, 723, 724, 725, 726, 727, 728, 752, 753, 754, 755, 756, 757, 758, 759, 760, 761, 762, 763, 764, 765, 766, 767, 768, 769, 770, 771] (by decide +kernel) (by decide +kernel)
set_option maxRecDepth 20000 in
theorem gL_law_X7_init : GoodIn wsL_law (wsX7_init) := ggL_law_X7_init
set_option maxRecDepth 20000 in
theorem ggL_law_X8_init : GoodIn wsL_law wsX8_init := goodIn_r _ [85, 86, 10, 11, 43, 87, 88, 89, 90, 91, 92, 93, 94, 36, 95, 96, 97, 98, 729, 730, 731, 732, 733, 734, 735, 736, 737, 738, 739, 740, 741, 742, 743, 744, 745] (by decide +kernel) (by decide +kernel)
set_option maxRecDepth 20000 in
theorem gL_law_X8_init : GoodIn wsL_law (wsX8_init) := ggL_law_X8_init
set_option maxRecDepth 20000 in
theorem ggL_law_X7_told : GoodIn wsL_law wsX7_told := goodIn_r _ [102, 23, 15, 103, 104, 105, 106, 107, 108, 109, 27, 110, 19, 111, 31, 112, 113, 114, 115, 116, 22, 117, 118, 119, 120, 121, 58, 122, 59, 123, 124, 125, 126, 127, 128, 129, 130, 131, 132, 133, 2, 134, 135, 136, 137, 138, 139, 140, 141, 142, 143, 144, 60, 61, 63, 145, 146, 147, 148, 149, 150, 151, 152, 153, 64, 65, 154, 155, 156, 157, 158, 159, 160, 161, 162, 163, 164, 165, 166, 167, 168, 169, 170, 171, 172, 173, 174, 175, 176, 177, 178, 179, 180, 181, 182, 183, 184, 185, 186, 187, 188, 66, 189, 190, 191, 192, 193, 194, 195, 196, 197, 198, 199, 200, 201, 202, 203, 204, 205, 206, 207, 208, 209, 210, 211, 212, 213, 214, 215, 216, 217, 218, 219, 220, 221, 222, 223, 224, 14, 225, 42, 226, 227, 228, 229, 230, 231, 232, 233, 234, 235, 236, 237, 238, 722, 723, 724, 725, 726, 727, 728, 746, 747, 748, 749, 750, 751, 755, 756, 757, 758, 759, 760, 761, 762, 763, 764, 765, 766, 767, 752, 753, 754, 768] (by decide +kernel) (by decide +kernel)
set_option maxRecDepth 20000 in
theorem gL_law_X7_told : GoodIn wsL_law (wsV RL 13 RX7 yX7_told wsX7_told) := goodIn_app (goodIn_of _ (by decide +kernel)) ggL_law_X7_told
set_option maxRecDepth 20000 in
theorem ggL_law_X8_told : GoodIn wsL_law wsX8_told := goodIn_r _ [242, 87, 243, 244, 245, 246, 247, 248, 249, 5, 250, 251, 252, 253, 254, 255, 256, 257, 258, 259, 260, 261, 262, 263, 264, 265, 266, 267, 268, 91, 269, 270, 271, 272, 273, 274, 275, 276, 277, 278, 279, 280, 94, 281, 282, 283, 284, 285, 92, 93, 286, 287, 288, 289, 290, 291, 292, 293, 294, 295, 296, 297, 298, 299, 300, 301, 302, 303, 304, 305, 306, 307, 308, 309, 310, 311, 312, 313, 314, 315, 316, 317, 89, 90, 318, 319, 320, 321, 322, 323, 324, 325, 326, 327, 328, 95, 329, 330, 331, 332, 333, 334, 335, 336, 337, 338, 339, 340, 341, 342, 343, 344, 345, 346, 347, 348, 349, 350, 351, 352, 353, 354, 355, 356, 357, 358, 359, 360, 361, 362, 363, 364, 365, 366, 367, 368, 369, 96, 370, 371, 372, 373, 729, 730, 731, 732, 733, 734, 735, 736, 737, 738, 739, 740, 741, 742, 743, 744, 745] (by decide +kernel) (by decide +kernel)
set_option maxRecDepth 20000 in
theorem gL_law_X8_told : GoodIn wsL_law (wsV RL 17 RX8 yX8_told wsX8_told) := goodIn_app (goodIn_of _ (by decide +kernel)) ggL_law_X8_told
set_option maxRecDepth 20000 in
theorem ggL_law_X7_at : GoodIn wsL_law wsX7_at := goodIn_r _ [377, 15, 378, 23, 183, 104, 379, 380, 381, 113, 222, 223, 224, 14, 225, 42, 114, 115, 116, 22, 117, 118, 119, 120, 121, 58, 122, 59, 123, 124, 125, 126, 127, 128, 129, 130, 131, 132, 133, 2, 134, 135, 136, 137, 138, 139, 140, 141, 142, 143, 144, 60, 61, 63, 145, 146, 147, 148, 149, 150, 151, 152, 153, 64, 65, 382, 722, 723, 724, 725, 726, 727, 728, 755, 756, 757, 758, 759, 760, 761, 762, 763, 764, 746, 747, 748, 749, 750, 751] (by decide +kernel) (by decide +kernel)
set_option maxRecDepth 20000 in
theorem gL_law_X7_at : GoodIn wsL_law (wsV RL 18 RX7 yX7_at wsX7_at) := goodIn_app (goodIn_of _ (by decide +kernel)) ggL_law_X7_at
set_option maxRecDepth 20000 in
theorem ggL_law_X8_at : GoodIn wsL_law wsX8_at := goodIn_r _ [386, 387, 91, 87, 94, 246, 318, 319, 320, 5, 321, 322, 323, 324, 281, 282, 283, 284, 285, 92, 93, 286, 287, 288, 289, 265, 266, 267, 268, 269, 270, 271, 272, 254, 255, 256, 273, 274, 275, 276, 290, 291, 292, 293, 294, 295, 296, 297, 298, 299, 300, 301, 388, 389, 390, 391, 729, 730, 731, 732, 733, 734, 735, 736, 737, 738, 739, 740, 741, 742, 743, 744, 745] (by decide +kernel) (by decide +kernel)
set_option maxRecDepth 20000 in
theorem gL_law_X8_at : GoodIn wsL_law (wsV RL 22 RX8 yX8_at wsX8_at) := goodIn_app (goodIn_of _ (by decide +kernel)) ggL_law_X8_at
set_option maxRecDepth 20000 in
theorem ggL_law_X7_isLost : GoodIn wsL_law wsX7_isLost := goodIn_r _ [395, 15, 378, 396, 397, 398, 14, 399, 44, 400, 223, 224, 225, 42, 133, 2, 134, 401, 402, 403, 404, 45, 722, 723, 724, 725, 726, 727, 728, 746, 747, 748, 749, 750, 751] (by decide +kernel) (by decide +kernel)
set_option maxRecDepth 20000 in
theorem gL_law_X7_isLost : GoodIn wsL_law (wsV RL 23 RX7 yX7_isLost wsX7_isLost) := goodIn_app (goodIn_of _ (by decide +kernel)) ggL_law_X7_isLost
set_option maxRecDepth 20000 in
theorem ggL_law_X8_isLost : GoodIn wsL_law wsX8_isLost := goodIn_r _ [408, 87, 387, 409, 410, 411, 5, 412, 318, 319, 320, 321, 322, 323, 324, 254, 255, 256, 729, 730, 731, 732, 733, 734, 735, 736, 737, 738, 739, 740, 741, 742, 743, 744, 745] (by decide +kernel) (by decide +kernel)
set_option maxRecDepth 20000 in
theorem gL_law_X8_isLost : GoodIn wsL_law (wsV RL 26 RX8 yX8_isLost wsX8_isLost) := goodIn_app (goodIn_of _ (by decide +kernel)) ggL_law_X8_isLost
set_option maxRecDepth 20000 in
theorem ggL_law_X7_mark : GoodIn wsL_law wsX7_mark := goodIn_r _ [416, 113, 15, 106, 417, 418, 2, 419, 420, 197, 198, 199, 200, 201, 202, 421, 217, 218, 722, 723, 724, 725, 726, 727, 728, 746, 747, 748, 749, 750, 751] (by decide +kernel) (by decide +kernel)
set_option maxRecDepth 20000 in
theorem gL_law_X7_mark : GoodIn wsL_law (wsV RL 27 RX7 yX7_mark wsX7_mark) := goodIn_app (goodIn_of _ (by decide +kernel)) ggL_law_X7_mark
set_option maxRecDepth 20000 in
theorem ggL_law_X8_mark : GoodIn wsL_law wsX8_mark := goodIn_r _ [425, 246, 322, 323, 5, 324, 342, 343, 344, 345, 346, 87, 347, 348, 349, 338, 339, 340, 341, 729, 730, 731, 732, 733, 734, 735, 736, 737, 738, 739, 740, 741, 742, 743, 744, 745] (by decide +kernel) (by decide +kernel)
set_option maxRecDepth 20000 in
theorem gL_law_X8_mark : GoodIn wsL_law (wsV RL 30 RX8 yX8_mark wsX8_mark) := goodIn_app (goodIn_of _ (by decide +kernel)) ggL_law_X8_mark
set_option maxRecDepth 20000 in
theorem ggL_law_X7_holds : GoodIn wsL_law wsX7_holds := goodIn_r _ [429, 15, 430, 431, 23, 230, 222, 223, 224, 14, 225, 42, 417, 418, 2, 419, 114, 115, 116, 22, 117, 118, 119, 120, 121, 58, 122, 59, 123, 124, 125, 126, 127, 128, 129, 130, 131, 132, 133, 134, 135, 136, 137, 138, 139, 140, 141, 142, 143, 144, 60, 61, 63, 145, 146, 147, 148, 149, 150, 151, 152, 153, 64, 65, 185, 186, 187, 188, 66, 189, 172, 190, 191, 192, 193, 194, 195, 196, 158, 159, 160, 161, 162, 163, 197, 198, 199, 200, 201, 202, 203, 204, 205, 206, 207, 208, 209, 210, 211, 212, 213, 214, 215, 216, 217, 218, 219, 220, 221, 722, 723, 724, 725, 726, 727, 728, 755, 756, 757, 758, 759, 760, 761, 762, 763, 764, 746, 747, 748, 749, 750, 751] (by decide +kernel) (by decide +kernel)
set_option maxRecDepth 20000 in
theorem gL_law_X7_holds : GoodIn wsL_law (wsV RL 31 RX7 yX7_holds wsX7_holds) := goodIn_app (goodIn_of _ (by decide +kernel)) ggL_law_X7_holds
set_option maxRecDepth 20000 in
theorem ggL_law_X8_holds : GoodIn wsL_law wsX8_holds := goodIn_r _ [435, 436, 437, 91, 438, 95, 318, 319, 320, 5, 321, 87, 322, 323, 324, 329, 330, 331, 332, 285, 93, 92, 286, 287, 288, 289, 265, 266, 267, 268, 269, 270, 271, 272, 254, 255, 256, 273, 274, 275, 276, 290, 291, 292, 293, 294, 295, 296, 297, 333, 334, 335, 336, 337, 338, 339, 340, 341, 342, 343, 344, 345, 346, 347, 348, 349, 350, 351, 352, 353, 354, 355, 356, 357, 358, 359, 360, 361, 362, 363, 364, 365, 366, 367, 368, 369, 96, 370, 371, 372, 373, 298, 299, 300, 301, 729, 730, 731, 732, 733, 734, 735, 736, 737, 738, 739, 740, 741, 742, 743, 744, 745] (by decide +kernel) (by decide +kernel)
set_option maxRecDepth 20000 in
theorem gL_law_X8_holds : GoodIn wsL_law (wsV RL 35 RX8 yX8_holds wsX8_holds) := goodIn_app (goodIn_of _ (by decide +kernel)) ggL_law_X8_holds
set_option maxRecDepth 20000 in
theorem ggL_law_X7_guess : GoodIn wsL_law wsX7_guess := goodIn_r _ [442, 15, 378, 113, 23, 222, 223, 224, 14, 225, 42, 417, 418, 2, 419, 114, 115, 116, 22, 117, 118, 119, 120, 121, 58, 122, 59, 123, 124, 125, 126, 127, 128, 129, 130, 131, 132, 133, 134, 135, 136, 137, 138, 139, 140, 141, 142, 143, 144, 60, 61, 63, 145, 146, 147, 148, 149, 150, 151, 152, 153, 64, 65, 185, 186, 187, 188, 66, 189, 172, 190, 191, 192, 193, 194, 195, 196, 158, 159, 160, 161, 162, 163, 197, 198, 199, 200, 201, 202, 203, 204, 205, 206, 207, 208, 209, 210, 211, 212, 213, 214, 215, 216, 217, 218, 219, 220, 221, 226, 227, 228, 229, 183, 230, 231, 232, 233, 234, 235, 236, 237, 238, 722, 723, 724, 725, 726, 727, 728, 746, 747, 748, 749, 750, 751, 755, 756, 757, 758, 759, 760, 761, 762, 763, 764] (by decide +kernel) (by decide +kernel)
set_option maxRecDepth 20000 in
theorem gL_law_X7_guess : GoodIn wsL_law (wsV RL 36 RX7 yX7_guess wsX7_guess) := goodIn_app (goodIn_of _ (by decide +kernel)) ggL_law_X7_guess
set_option maxRecDepth 20000 in
theorem ggL_law_X8_guess : GoodIn wsL_law wsX8_guess := goodIn_r _ [446, 387, 246, 91, 318, 319, 320, 5, 321, 87, 322, 323, 324, 265, 266, 267, 268, 269, 270, 271, 272, 254, 255, 256, 325, 326, 327, 328, 95, 329, 330, 331, 332, 285, 93, 92, 286, 287, 288, 289, 273, 274, 275, 276, 290, 291, 292, 293, 294, 295, 296, 297, 333, 334, 335, 336, 337, 338, 339, 340, 341, 342, 343, 344, 345, 346, 347, 348, 349, 350, 351, 352, 353, 354, 355, 356, 357, 358, 359, 360, 361, 362, 363, 364, 365, 366, 367, 368, 369, 96, 370, 371, 372, 373, 298, 299, 300, 301, 447, 448, 449, 450, 729, 730, 731, 732, 733, 734, 735, 736, 737, 738, 739, 740, 741, 742, 743, 744, 745] (by decide +kernel) (by decide +kernel)
set_option maxRecDepth 20000 in
theorem gL_law_X8_guess : GoodIn wsL_law (wsV RL 39 RX8 yX8_guess wsX8_guess) := goodIn_app (goodIn_of _ (by decide +kernel)) ggL_law_X8_guess
set_option maxRecDepth 20000 in
theorem ggL_law_X7_off : GoodIn wsL_law wsX7_off := goodIn_r _ [454, 113, 23, 15, 455, 417, 418, 2, 419, 114, 115, 116, 22, 117, 118, 119, 120, 121, 58, 122, 59, 123, 124, 125, 126, 127, 128, 129, 130, 131, 132, 133, 134, 135, 136, 137, 138, 139, 140, 141, 142, 143, 144, 60, 61, 63, 145, 146, 147, 148, 149, 150, 151, 152, 153, 64, 65, 185, 186, 187, 188, 66, 189, 172, 190, 191, 192, 193, 194, 195, 196, 158, 159, 160, 161, 162, 163, 197, 198, 199, 200, 201, 202, 203, 204, 205, 206, 207, 208, 209, 210, 211, 212, 213, 214, 215, 216, 217, 218, 219, 220, 221, 226, 227, 228, 229, 183, 230, 231, 232, 233, 234, 235, 236, 237, 238, 168, 169, 170, 171, 173, 722, 723, 724, 725, 726, 727, 728, 755, 756, 757, 758, 759, 760, 761, 762, 763, 764, 746, 747, 748, 749, 750, 751] (by decide +kernel) (by decide +kernel)
set_option maxRecDepth 20000 in
theorem gL_law_X7_off : GoodIn wsL_law (wsV RL 40 RX7 yX7_off wsX7_off) := goodIn_app (goodIn_of _ (by decide +kernel)) ggL_law_X7_off
set_option maxRecDepth 20000 in
theorem ggL_law_X8_off : GoodIn wsL_law wsX8_off := goodIn_r _ [459, 246, 460, 322, 323, 5, 324, 325, 326, 327, 328, 95, 329, 330, 331, 332, 87, 285, 93, 92, 286, 287, 288, 289, 91, 265, 266, 267, 268, 269, 270, 271, 272, 254, 255, 256, 273, 274, 275, 276, 290, 291, 292, 293, 294, 295, 296, 297, 333, 334, 335, 336, 337, 338, 339, 340, 341, 342, 343, 344, 345, 346, 347, 348, 349, 350, 351, 352, 353, 354, 355, 356, 357, 358, 359, 360, 361, 362, 363, 364, 365, 366, 367, 368, 369, 96, 370, 371, 372, 373, 298, 299, 300, 301, 447, 448, 449, 450, 302, 303, 304, 305, 251, 252, 253, 729, 730, 731, 732, 733, 734, 735, 736, 737, 738, 739, 740, 741, 742, 743, 744, 745] (by decide +kernel) (by decide +kernel)
set_option maxRecDepth 20000 in
theorem gL_law_X8_off : GoodIn wsL_law (wsV RL 43 RX8 yX8_off wsX8_off) := goodIn_app (goodIn_of _ (by decide +kernel)) ggL_law_X8_off
set_option maxRecDepth 20000 in
theorem ggL_law_X7_letter : GoodIn wsL_law wsX7_letter := goodIn_r _ [464, 23, 15, 109, 378, 465, 466, 467, 113, 114, 115, 116, 22, 117, 118, 119, 120, 121, 58, 122, 59, 123, 124, 125, 126, 127, 128, 129, 130, 131, 132, 133, 2, 134, 135, 136, 137, 138, 139, 140, 141, 142, 143, 144, 60, 61, 63, 145, 146, 147, 148, 149, 150, 151, 152, 153, 64, 65, 417, 418, 419, 722, 723, 724, 725, 726, 727, 728, 755, 756, 757, 758, 759, 760, 761, 762, 763, 764, 746, 747, 748, 749, 750, 751] (by decide +kernel) (by decide +kernel)
set_option maxRecDepth 20000 in
theorem gL_law_X7_letter : GoodIn wsL_law (wsV RL 44 RX7 yX7_letter wsX7_letter) := goodIn_app (goodIn_of _ (by decide +kernel)) ggL_law_X7_letter
set_option maxRecDepth 20000 in
theorem ggL_law_X8_letter : GoodIn wsL_law wsX8_letter := goodIn_r _ [471, 285, 387, 92, 93, 246, 286, 287, 288, 5, 289, 87, 91, 265, 266, 267, 268, 269, 270, 271, 272, 254, 255, 256, 273, 274, 275, 276, 290, 291, 292, 293, 294, 295, 296, 297, 322, 323, 324, 298, 299, 300, 301, 729, 730, 731, 732, 733, 734, 735, 736, 737, 738, 739, 740, 741, 742, 743, 744, 745] (by decide +kernel) (by decide +kernel)
set_option maxRecDepth 20000 in
theorem gL_law_X8_letter : GoodIn wsL_law (wsV RL 47 RX8 yX8_letter wsX8_letter) := goodIn_app (goodIn_of _ (by decide +kernel)) ggL_law_X8_letter
set_option maxRecDepth 20000 in
theorem ggL_law_X7_sent : GoodIn wsL_law wsX7_sent := goodIn_r _ [475, 23, 15, 109, 430, 431, 230, 465, 114, 115, 116, 22, 117, 118, 119, 120, 121, 58, 122, 59, 123, 124, 125, 126, 127, 128, 129, 130, 131, 132, 133, 2, 134, 135, 136, 137, 138, 139, 140, 141, 142, 143, 144, 60, 61, 63, 145, 146, 147, 148, 149, 150, 151, 152, 153, 64, 65, 417, 418, 419, 185, 186, 187, 188, 66, 189, 172, 190, 191, 192, 193, 194, 195, 196, 158, 159, 160, 161, 162, 163, 197, 198, 199, 200, 201, 202, 203, 204, 205, 206, 207, 208, 209, 210, 211, 212, 213, 214, 215, 216, 217, 218, 219, 220, 221, 722, 723, 724, 725, 726, 727, 728, 755, 756, 757, 758, 759, 760, 761, 762, 763, 764, 746, 747, 748, 749, 750, 751] (by decide +kernel) (by decide +kernel)
set_option maxRecDepth 20000 in
theorem gL_law_X7_sent : GoodIn wsL_law (wsV RL 48 RX7 yX7_sent wsX7_sent) := goodIn_app (goodIn_of _ (by decide +kernel)) ggL_law_X7_sent
set_option maxRecDepth 20000 in
theorem ggL_law_X8_sent : GoodIn wsL_law wsX8_sent := goodIn_r _ [479, 285, 436, 437, 95, 92, 286, 287, 288, 5, 289, 87, 91, 265, 266, 267, 268, 269, 270, 271, 272, 254, 255, 256, 273, 274, 275, 276, 290, 291, 292, 293, 93, 294, 295, 296, 297, 322, 323, 324, 329, 330, 331, 332, 333, 334, 335, 336, 337, 338, 339, 340, 341, 342, 343, 344, 345, 346, 347, 348, 349, 350, 351, 352, 353, 354, 355, 356, 357, 358, 359, 360, 361, 362, 363, 364, 365, 366, 367, 368, 369, 96, 370, 371, 372, 373, 298, 299, 300, 301, 729, 730, 731, 732, 733, 734, 735, 736, 737, 738, 739, 740, 741, 742, 743, 744, 745] (by decide +kernel) (by decide +kernel)
set_option maxRecDepth 20000 in
theorem gL_law_X8_sent : GoodIn wsL_law (wsV RL 51 RX8 yX8_sent wsX8_sent) := goodIn_app (goodIn_of _ (by decide +kernel)) ggL_law_X8_sent
set_option maxRecDepth 20000 in
theorem ggL_law_X7_rows : GoodIn wsL_law wsX7_rows := goodIn_r _ [483, 431, 37, 417, 418, 2, 419, 484, 485, 125, 486, 487, 488, 489, 490, 491, 492, 493, 494, 495, 496, 722, 723, 724, 725, 726, 727, 728] (by decide +kernel) (by decide +kernel)
set_option maxRecDepth 20000 in
theorem gL_law_X7_rows : GoodIn wsL_law (wsV RL 52 RX7 yX7_rows wsX7_rows) := goodIn_app (goodIn_of _ (by decide +kernel)) ggL_law_X7_rows
set_option maxRecDepth 20000 in
theorem ggL_law_X8_rows : GoodIn wsL_law wsX8_rows := goodIn_r _ [500, 437, 97, 322, 323, 5, 324, 501, 502, 503, 504, 98, 505, 506, 507, 254, 255, 256, 729, 730, 731, 732, 733, 734, 735, 736, 737, 738, 739, 740, 741, 742, 743, 744, 745] (by decide +kernel) (by decide +kernel)
set_option maxRecDepth 20000 in
theorem gL_law_X8_rows : GoodIn wsL_law (wsV RL 55 RX8 yX8_rows wsX8_rows) := goodIn_app (goodIn_of _ (by decide +kernel)) ggL_law_X8_rows
set_option maxRecDepth 20000 in
theorem ggL_law_X7_node : GoodIn wsL_law wsX7_node := goodIn_r _ [511, 15, 378, 512, 113, 103, 513, 19, 514, 515, 516, 14, 517, 42, 417, 418, 2, 419, 518, 519, 520, 18, 521, 52, 522, 523, 524, 525, 526, 527, 528, 529, 530, 531, 532, 533, 44, 534, 535, 536, 537, 45, 46, 538, 539, 540, 541, 133, 134, 722, 723, 724, 725, 726, 727, 728, 746, 747, 748, 749, 750, 751, 752, 753, 754] (by decide +kernel) (by decide +kernel)
set_option maxRecDepth 20000 in
theorem gL_law_X7_node : GoodIn wsL_law (wsV RL 56 RX7 yX7_node wsX7_node) := goodIn_app (goodIn_of _ (by decide +kernel)) ggL_law_X7_node
set_option maxRecDepth 20000 in
theorem ggL_law_X8_node : GoodIn wsL_law wsX8_node := goodIn_r _ [545, 87, 387, 546, 246, 547, 322, 323, 5, 324, 548, 549, 550, 551, 244, 552, 553, 554, 555, 254, 255, 256, 556, 557, 558, 559, 729, 730, 731, 732, 733, 734, 735, 736, 737, 738, 739, 740, 741, 742, 743, 744, 745] (by decide +kernel) (by decide +kernel)
set_option maxRecDepth 20000 in
theorem gL_law_X8_node : GoodIn wsL_law (wsV RL 59 RX8 yX8_node wsX8_node) := goodIn_app (goodIn_of _ (by decide +kernel)) ggL_law_X8_node
set_option maxRecDepth 20000 in
theorem ggL_law_X7_take : GoodIn wsL_law wsX7_take := goodIn_r _ [563, 15, 103, 564, 19, 518, 519, 520, 18, 521, 52, 522, 523, 524, 525, 526, 527, 528, 529, 530, 14, 531, 42, 532, 533, 44, 534, 535, 536, 537, 45, 46, 565, 566, 567, 568, 569, 515, 516, 517, 722, 723, 724, 725, 726, 727, 728, 746, 747, 748, 749, 750, 751, 752, 753, 754] (by decide +kernel) (by decide +kernel)
set_option maxRecDepth 20000 in
theorem gL_law_X7_take : GoodIn wsL_law (wsV RL 60 RX7 yX7_take wsX7_take) := goodIn_app (goodIn_of _ (by decide +kernel)) ggL_law_X7_take
set_option maxRecDepth 20000 in
theorem ggL_law_X8_take : GoodIn wsL_law wsX8_take := goodIn_r _ [573, 87, 574, 548, 549, 550, 5, 551, 244, 552, 553, 554, 555, 729, 730, 731, 732, 733, 734, 735, 736, 737, 738, 739, 740, 741, 742, 743, 744, 745] (by decide +kernel) (by decide +kernel)
set_option maxRecDepth 20000 in
theorem gL_law_X8_take : GoodIn wsL_law (wsV RL 64 RX8 yX8_take wsX8_take) := goodIn_app (goodIn_of _ (by decide +kernel)) ggL_law_X8_take
set_option maxRecDepth 20000 in
theorem ggL_law_X7_link : GoodIn wsL_law wsX7_link := goodIn_r _ [578, 15, 378, 19, 222, 223, 224, 14, 225, 42, 518, 519, 520, 18, 521, 52, 522, 523, 524, 525, 526, 527, 528, 529, 530, 531, 532, 533, 44, 534, 535, 536, 537, 45, 46, 579, 580, 581, 582, 396, 397, 398, 399, 400, 133, 2, 134, 722, 723, 724, 725, 726, 727, 728, 746, 747, 748, 749, 750, 751, 752, 753, 754] (by decide +kernel) (by decide +kernel)
set_option maxRecDepth 20000 in
theorem gL_law_X7_link : GoodIn wsL_law (wsV RL 65 RX7 yX7_link wsX7_link) := goodIn_app (goodIn_of _ (by decide +kernel)) ggL_law_X7_link
set_option maxRecDepth 20000 in
theorem ggL_law_X8_link : GoodIn wsL_law wsX8_link := goodIn_r _ [586, 387, 87, 318, 319, 320, 5, 321, 322, 323, 324, 548, 549, 550, 551, 244, 552, 553, 554, 555, 254, 255, 256, 556, 557, 558, 559, 729, 730, 731, 732, 733, 734, 735, 736, 737, 738, 739, 740, 741, 742, 743, 744, 745] (by decide +kernel) (by decide +kernel)
set_option maxRecDepth 20000 in
theorem gL_law_X8_link : GoodIn wsL_law (wsV RL 68 RX8 yX8_link wsX8_link) := goodIn_app (goodIn_of _ (by decide +kernel)) ggL_law_X8_link
set_option maxRecDepth 20000 in
theorem ggL_law_X7_lose : GoodIn wsL_law wsX7_lose := goodIn_r _ [590, 15, 378, 19, 396, 397, 398, 14, 399, 44, 400, 223, 224, 225, 42, 133, 2, 134, 518, 519, 520, 18, 521, 52, 522, 523, 524, 525, 526, 527, 528, 529, 530, 531, 532, 533, 534, 535, 536, 537, 45, 46, 591, 592, 593, 594, 401, 402, 403, 404, 722, 723, 724, 725, 726, 727, 728, 746, 747, 748, 749, 750, 751, 752, 753, 754] (by decide +kernel) (by decide +kernel)
set_option maxRecDepth 20000 in
theorem gL_law_X7_lose : GoodIn wsL_law (wsV RL 69 RX7 yX7_lose wsX7_lose) := goodIn_app (goodIn_of _ (by decide +kernel)) ggL_law_X7_lose
set_option maxRecDepth 20000 in
theorem ggL_law_X8_lose : GoodIn wsL_law wsX8_lose := goodIn_r _ [598, 387, 87, 409, 410, 411, 5, 412, 318, 319, 320, 321, 322, 323, 324, 254, 255, 256, 548, 549, 550, 551, 244, 552, 553, 554, 555, 556, 557, 558, 559, 729, 730, 731, 732, 733, 734, 735, 736, 737, 738, 739, 740, 741, 742, 743, 744, 745] (by decide +kernel) (by decide +kernel)
set_option maxRecDepth 20000 in
theorem gL_law_X8_lose : GoodIn wsL_law (wsV RL 72 RX8 yX8_lose wsX8_lose) := goodIn_app (goodIn_of _ (by decide +kernel)) ggL_law_X8_lose
set_option maxRecDepth 20000 in
theorem ggL_law_X7_hear : GoodIn wsL_law wsX7_hear := goodIn_r _ [602, 15, 378, 512, 113, 19, 379, 222, 223, 224, 14, 225, 42, 417, 418, 2, 419, 518, 519, 520, 18, 521, 52, 522, 523, 524, 525, 526, 527, 528, 529, 530, 531, 532, 533, 44, 534, 535, 536, 537, 45, 46, 722, 723, 724, 725, 726, 727, 728, 746, 747, 748, 749, 750, 751, 752, 753, 754] (by decide +kernel) (by decide +kernel)
set_option maxRecDepth 20000 in
theorem gL_law_X7_hear : GoodIn wsL_law (wsV RL 73 RX7 yX7_hear wsX7_hear) := goodIn_app (goodIn_of _ (by decide +kernel)) ggL_law_X7_hear
set_option maxRecDepth 20000 in
theorem ggL_law_X8_hear : GoodIn wsL_law wsX8_hear := goodIn_r _ [606, 387, 546, 246, 318, 319, 320, 5, 321, 87, 322, 323, 324, 607, 608, 609, 610, 548, 549, 550, 551, 244, 552, 553, 554, 555, 729, 730, 731, 732, 733, 734, 735, 736, 737, 738, 739, 740, 741, 742, 743, 744, 745] (by decide +kernel) (by decide +kernel)
set_option maxRecDepth 20000 in
theorem gL_law_X8_hear : GoodIn wsL_law (wsV RL 76 RX8 yX8_hear wsX8_hear) := goodIn_app (goodIn_of _ (by decide +kernel)) ggL_law_X8_hear
set_option maxRecDepth 20000 in
theorem ggL_law_X7_salt : GoodIn wsL_law wsX7_salt := goodIn_r _ [614, 512, 113, 19, 15, 106, 417, 418, 2, 419, 518, 519, 520, 18, 521, 52, 522, 523, 524, 525, 526, 527, 528, 529, 530, 14, 531, 42, 532, 533, 44, 534, 535, 536, 537, 45, 46, 722, 723, 724, 725, 726, 727, 728, 746, 747, 748, 749, 750, 751, 752, 753, 754] (by decide +kernel) (by decide +kernel)
set_option maxRecDepth 20000 in
theorem gL_law_X7_salt : GoodIn wsL_law (wsV RL 77 RX7 yX7_salt wsX7_salt) := goodIn_app (goodIn_of _ (by decide +kernel)) ggL_law_X7_salt
set_option maxRecDepth 20000 in
theorem ggL_law_X8_salt : GoodIn wsL_law wsX8_salt := goodIn_r _ [618, 546, 246, 322, 323, 5, 324, 607, 608, 609, 610, 87, 548, 549, 550, 551, 244, 552, 553, 554, 555, 729, 730, 731, 732, 733, 734, 735, 736, 737, 738, 739, 740, 741, 742, 743, 744, 745] (by decide +kernel) (by decide +kernel)
set_option maxRecDepth 20000 in
theorem gL_law_X8_salt : GoodIn wsL_law (wsV RL 80 RX8 yX8_salt wsX8_salt) := goodIn_app (goodIn_of _ (by decide +kernel)) ggL_law_X8_salt
set_option maxRecDepth 20000 in
theorem ggL_law_X7_mode : GoodIn wsL_law wsX7_mode := goodIn_r _ [622, 113, 19, 15, 107, 417, 418, 2, 419, 518, 519, 520, 18, 521, 52, 522, 523, 524, 525, 526, 527, 528, 529, 530, 14, 531, 42, 532, 533, 44, 534, 535, 536, 537, 45, 46, 722, 723, 724, 725, 726, 727, 728, 746, 747, 748, 749, 750, 751, 752, 753, 754] (by decide +kernel) (by decide +kernel)
set_option maxRecDepth 20000 in
theorem gL_law_X7_mode : GoodIn wsL_law (wsV RL 81 RX7 yX7_mode wsX7_mode) := goodIn_app (goodIn_of _ (by decide +kernel)) ggL_law_X7_mode
set_option maxRecDepth 20000 in
theorem ggL_law_X8_mode : GoodIn wsL_law wsX8_mode := goodIn_r _ [626, 246, 322, 323, 5, 324, 607, 608, 609, 610, 87, 548, 549, 550, 551, 244, 552, 553, 554, 555, 729, 730, 731, 732, 733, 734, 735, 736, 737, 738, 739, 740, 741, 742, 743, 744, 745] (by decide +kernel) (by decide +kernel)
set_option maxRecDepth 20000 in
theorem gL_law_X8_mode : GoodIn wsL_law (wsV RL 84 RX8 yX8_mode wsX8_mode) := goodIn_app (goodIn_of _ (by decide +kernel)) ggL_law_X8_mode
set_option maxRecDepth 20000 in
theorem ggL_law_X7_drift : GoodIn wsL_law wsX7_drift := goodIn_r _ [630, 113, 19, 15, 31, 103, 23, 417, 418, 2, 419, 518, 519, 520, 18, 521, 52, 522, 523, 524, 525, 526, 527, 528, 529, 530, 14, 531, 42, 532, 533, 44, 534, 535, 536, 537, 45, 46, 631, 632, 633, 30, 634, 635, 636, 637, 638, 639, 640, 641, 642, 643, 114, 115, 116, 22, 117, 118, 119, 120, 121, 58, 122, 59, 123, 124, 125, 126, 127, 128, 129, 130, 131, 132, 133, 134, 135, 136, 137, 138, 139, 140, 141, 142, 143, 144, 60, 61, 63, 145, 146, 147, 148, 149, 150, 151, 152, 153, 64, 65, 168, 169, 170, 171, 172, 173, 158, 159, 160, 161, 162, 163, 722, 723, 724, 725, 726, 727, 728, 746, 747, 748, 749, 750, 751, 752, 753, 754, 768, 755, 756, 757, 758, 759, 760, 761, 762, 763, 764] (by decide +kernel) (by decide +kernel)
set_option maxRecDepth 20000 in
theorem gL_law_X7_drift : GoodIn wsL_law (wsV RL 85 RX7 yX7_drift wsX7_drift) := goodIn_app (goodIn_of _ (by decide +kernel)) ggL_law_X7_drift
set_option maxRecDepth 20000 in
theorem ggL_law_X8_drift : GoodIn wsL_law wsX8_drift := goodIn_r _ [647, 246, 87, 322, 323, 5, 324, 548, 549, 550, 551, 244, 552, 553, 554, 555, 648, 649, 650, 651, 245, 652, 653, 654, 655, 302, 303, 304, 305, 91, 265, 266, 267, 268, 269, 270, 271, 272, 254, 255, 256, 251, 252, 253, 729, 730, 731, 732, 733, 734, 735, 736, 737, 738, 739, 740, 741, 742, 743, 744, 745] (by decide +kernel) (by decide +kernel)
set_option maxRecDepth 20000 in
theorem gL_law_X8_drift : GoodIn wsL_law (wsV RL 88 RX8 yX8_drift wsX8_drift) := goodIn_app (goodIn_of _ (by decide +kernel)) ggL_law_X8_drift
set_option maxRecDepth 20000 in
theorem ggL_law_X7_undo : GoodIn wsL_law wsX7_undo := goodIn_r _ [659, 113, 19, 111, 564, 15, 417, 418, 2, 419, 660, 661, 662, 18, 663, 523, 522, 52, 528, 529, 530, 14, 531, 42, 532, 533, 44, 534, 535, 536, 537, 45, 46, 722, 723, 724, 725, 726, 727, 728, 752, 753, 754, 746, 747, 748, 749, 750, 751] (by decide +kernel) (by decide +kernel)
set_option maxRecDepth 20000 in
theorem gL_law_X7_undo : GoodIn wsL_law (wsV RL 89 RX7 yX7_undo wsX7_undo) := goodIn_app (goodIn_of _ (by decide +kernel)) ggL_law_X7_undo
set_option maxRecDepth 20000 in
theorem ggL_law_X8_undo : GoodIn wsL_law wsX8_undo := goodIn_r _ [667, 246, 244, 574, 322, 323, 5, 324, 552, 553, 554, 555, 87, 729, 730, 731, 732, 733, 734, 735, 736, 737, 738, 739, 740, 741, 742, 743, 744, 745] (by decide +kernel) (by decide +kernel)
set_option maxRecDepth 20000 in
theorem gL_law_X8_undo : GoodIn wsL_law (wsV RL 92 RX8 yX8_undo wsX8_undo) := goodIn_app (goodIn_of _ (by decide +kernel)) ggL_law_X8_undo
set_option maxRecDepth 20000 in
theorem ggL_law_X7_write : GoodIn wsL_law wsX7_write := goodIn_r _ [671, 15, 378, 27, 110, 513, 222, 223, 224, 14, 225, 42, 672, 673, 674, 26, 675, 676, 71, 72, 722, 723, 724, 725, 726, 727, 728, 765, 766, 767, 746, 747, 748, 749, 750, 751] (by decide +kernel) (by decide +kernel)
set_option maxRecDepth 20000 in
theorem gL_law_X7_write : GoodIn wsL_law (wsV RL 93 RX7 yX7_write wsX7_write) := goodIn_app (goodIn_of _ (by decide +kernel)) ggL_law_X7_write
set_option maxRecDepth 20000 in
theorem ggL_law_X8_write : GoodIn wsL_law wsX8_write := goodIn_r _ [680, 387, 243, 547, 89, 90, 318, 319, 320, 5, 321, 87, 322, 323, 324, 729, 730, 731, 732, 733, 734, 735, 736, 737, 738, 739, 740, 741, 742, 743, 744, 745] (by decide +kernel) (by decide +kernel)
set_option maxRecDepth 20000 in
theorem gL_law_X8_write : GoodIn wsL_law (wsV RL 96 RX8 yX8_write wsX8_write) := goodIn_app (goodIn_of _ (by decide +kernel)) ggL_law_X8_write
set_option maxRecDepth 20000 in
theorem ggL_law_X7_tear : GoodIn wsL_law wsX7_tear := goodIn_r _ [684, 27, 110, 722, 723, 724, 725, 726, 727, 728, 765, 766, 767] (by decide +kernel) (by decide +kernel)
set_option maxRecDepth 20000 in
theorem gL_law_X7_tear : GoodIn wsL_law (wsV RL 97 RX7 yX7_tear wsX7_tear) := goodIn_app (goodIn_of _ (by decide +kernel)) ggL_law_X7_tear
set_option maxRecDepth 20000 in
theorem ggL_law_X8_tear : GoodIn wsL_law wsX8_tear := goodIn_r _ [688, 243, 729, 730, 731, 732, 733, 734, 735, 736, 737, 738, 739, 740, 741, 742, 743, 744, 745] (by decide +kernel) (by decide +kernel)
set_option maxRecDepth 20000 in
theorem gL_law_X8_tear : GoodIn wsL_law (wsV RL 100 RX8 yX8_tear wsX8_tear) := goodIn_app (goodIn_of _ (by decide +kernel)) ggL_law_X8_tear
set_option maxRecDepth 20000 in
theorem ggL_law_X7_seed : GoodIn wsL_law wsX7_seed := goodIn_r _ [692, 113, 31, 112, 722, 723, 724, 725, 726, 727, 728, 768] (by decide +kernel) (by decide +kernel)
set_option maxRecDepth 20000 in
theorem gL_law_X7_seed : GoodIn wsL_law (wsV RL 101 RX7 yX7_seed wsX7_seed) := goodIn_app (goodIn_of _ (by decide +kernel)) ggL_law_X7_seed
set_option maxRecDepth 20000 in
theorem ggL_law_X8_seed : GoodIn wsL_law wsX8_seed := goodIn_r _ [696, 246, 245, 729, 730, 731, 732, 733, 734, 735, 736, 737, 738, 739, 740, 741, 742, 743, 744, 745] (by decide +kernel) (by decide +kernel)
set_option maxRecDepth 20000 in
theorem gL_law_X8_seed : GoodIn wsL_law (wsV RL 104 RX8 yX8_seed wsX8_seed) := goodIn_app (goodIn_of _ (by decide +kernel)) ggL_law_X8_seed
set_option maxRecDepth 20000 in
theorem ggL_law_X7_keep : GoodIn wsL_law wsX7_keep := goodIn_r _ [700, 378, 33, 701, 31, 112, 702, 703, 15, 19, 417, 418, 2, 419, 704, 529, 530, 14, 531, 42, 532, 533, 44, 534, 535, 536, 537, 45, 46, 705, 706, 707, 18, 708, 523, 722, 723, 724, 725, 726, 727, 728, 769, 770, 771, 768, 746, 747, 748, 749, 750, 751, 752, 753, 754] (by decide +kernel) (by decide +kernel)
set_option maxRecDepth 20000 in
theorem gL_law_X7_keep : GoodIn wsL_law (wsV RL 105 RX7 yX7_keep wsX7_keep) := goodIn_app (goodIn_of _ (by decide +kernel)) ggL_law_X7_keep
set_option maxRecDepth 20000 in
theorem ggL_law_X8_keep : GoodIn wsL_law wsX8_keep := goodIn_r _ [712, 387, 88, 245, 713, 244, 322, 323, 5, 324, 552, 553, 554, 555, 87, 729, 730, 731, 732, 733, 734, 735, 736, 737, 738, 739, 740, 741, 742, 743, 744, 745] (by decide +kernel) (by decide +kernel)
set_option maxRecDepth 20000 in
theorem gL_law_X8_keep : GoodIn wsL_law (wsV RL 108 RX8 yX8_keep wsX8_keep) := goodIn_app (goodIn_of _ (by decide +kernel)) ggL_law_X8_keep
set_option maxRecDepth 20000 in
theorem ggL_law_X7_goBack : GoodIn wsL_law wsX7_goBack := goodIn_r _ [717, 378, 33, 701, 564, 31, 702, 112, 15, 703, 19, 417, 418, 2, 419, 704, 529, 530, 14, 531, 42, 532, 533, 44, 534, 535, 536, 537, 45, 46, 705, 706, 707, 18, 708, 523, 722, 723, 724, 725, 726, 727, 728, 769, 770, 771, 768, 746, 747, 748, 749, 750, 751, 752, 753, 754] (by decide +kernel) (by decide +kernel)
set_option maxRecDepth 20000 in
theorem gL_law_X7_goBack : GoodIn wsL_law (wsV RL 109 RX7 yX7_goBack wsX7_goBack) := goodIn_app (goodIn_of _ (by decide +kernel)) ggL_law_X7_goBack
set_option maxRecDepth 20000 in
theorem ggL_law_X8_goBack : GoodIn wsL_law wsX8_goBack := goodIn_r _ [721, 387, 713, 574, 88, 245, 244, 322, 323, 5, 324, 552, 553, 554, 555, 87, 729, 730, 731, 732, 733, 734, 735, 736, 737, 738, 739, 740, 741, 742, 743, 744, 745] (by decide +kernel) (by decide +kernel)
set_option maxRecDepth 20000 in
theorem gL_law_X8_goBack : GoodIn wsL_law (wsV RL 112 RX8 yX8_goBack wsX8_goBack) := goodIn_app (goodIn_of _ (by decide +kernel)) ggL_law_X8_goBack
theorem dL_law_0 : decode cL_law 0 = .ok (.new 7, 3) := by decide +kernel
theorem dL_law_3 : decode cL_law 3 = .ok (.dup, 1) := by decide +kernel
theorem dL_law_4 : decode cL_law 4 = .ok (.invokespecial 9, 3) := by decide +kernel
theorem dL_law_7 : decode cL_law 7 = .ok (.astore_n 1, 1) := by decide +kernel
theorem dL_law_8 : decode cL_law 8 = .ok (.new 10, 3) := by decide +kernel
theorem dL_law_11 : decode cL_law 11 = .ok (.dup, 1) := by decide +kernel
theorem dL_law_12 : decode cL_law 12 = .ok (.invokespecial 12, 3) := by decide +kernel
theorem dL_law_15 : decode cL_law 15 = .ok (.astore_n 2, 1) := by decide +kernel
theorem dL_law_16 : decode cL_law 16 = .ok (.iconst 0, 1) := by decide +kernel
theorem dL_law_17 : decode cL_law 17 = .ok (.istore_n 3, 1) := by decide +kernel
theorem dL_law_18 : decode cL_law 18 = .ok (.iload_n 3, 1) := by decide +kernel
theorem dL_law_19 : decode cL_law 19 = .ok (.aload_n 0, 1) := by decide +kernel
theorem dL_law_20 : decode cL_law 20 = .ok (.arraylength, 1) := by decide +kernel
theorem dL_law_21 : decode cL_law 21 = .ok (.iconst 3, 1) := by decide +kernel
theorem dL_law_22 : decode cL_law 22 = .ok (.isub, 1) := by decide +kernel
theorem dL_law_23 : decode cL_law 23 = .ok (.if_icmp .gt 792, 3) := by decide +kernel
theorem dL_law_26 : decode cL_law 26 = .ok (.aload_n 0, 1) := by decide +kernel
theorem dL_law_27 : decode cL_law 27 = .ok (.iload_n 3, 1) := by decide +kernel
theorem dL_law_28 : decode cL_law 28 = .ok (.iaload, 1) := by decide +kernel
theorem dL_law_29 : decode cL_law 29 = .ok (.bipush 31, 2) := by decide +kernel
theorem dL_law_31 : decode cL_law 31 = .ok (.iand, 1) := by decide +kernel
theorem dL_law_32 : decode cL_law 32 = .ok (.tableswitch 777 0 23 #[112, 135, 168, 201, 234, 268, 301, 324, 357, 391, 425, 458, 471, 504, 537, 570, 593, 616, 639, 662, 695, 708, 731, 754], 112) := by decide +kernel
theorem dL_law_144 : decode cL_law 144 = .ok (.aload_n 1, 1) := by decide +kernel
theorem dL_law_145 : decode cL_law 145 = .ok (.aload_n 0, 1) := by decide +kernel
theorem dL_law_146 : decode cL_law 146 = .ok (.iload_n 3, 1) := by decide +kernel
theorem dL_law_147 : decode cL_law 147 = .ok (.iconst 1, 1) := by decide +kernel
theorem dL_law_148 : decode cL_law 148 = .ok (.iadd, 1) := by decide +kernel
theorem dL_law_149 : decode cL_law 149 = .ok (.iaload, 1) := by decide +kernel
theorem dL_law_150 : decode cL_law 150 = .ok (.invokevirtual 13, 3) := by decide +kernel
theorem dL_law_153 : decode cL_law 153 = .ok (.aload_n 2, 1) := by decide +kernel
theorem dL_law_154 : decode cL_law 154 = .ok (.aload_n 0, 1) := by decide +kernel
theorem dL_law_155 : decode cL_law 155 = .ok (.iload_n 3, 1) := by decide +kernel
theorem dL_law_156 : decode cL_law 156 = .ok (.iconst 1, 1) := by decide +kernel
theorem dL_law_157 : decode cL_law 157 = .ok (.iadd, 1) := by decide +kernel
theorem dL_law_158 : decode cL_law 158 = .ok (.iaload, 1) := by decide +kernel
theorem dL_law_159 : decode cL_law 159 = .ok (.invokevirtual 17, 3) := by decide +kernel
theorem dL_law_162 : decode cL_law 162 = .ok (.if_icmp .eq 647, 3) := by decide +kernel
theorem dL_law_165 : decode cL_law 165 = .ok (.iconst 0, 1) := by decide +kernel
theorem dL_law_166 : decode cL_law 166 = .ok (.ireturn, 1) := by decide +kernel
theorem dL_law_167 : decode cL_law 167 = .ok (.aload_n 1, 1) := by decide +kernel
theorem dL_law_168 : decode cL_law 168 = .ok (.aload_n 0, 1) := by decide +kernel
theorem dL_law_169 : decode cL_law 169 = .ok (.iload_n 3, 1) := by decide +kernel
theorem dL_law_170 : decode cL_law 170 = .ok (.iconst 1, 1) := by decide +kernel
theorem dL_law_171 : decode cL_law 171 = .ok (.iadd, 1) := by decide +kernel
theorem dL_law_172 : decode cL_law 172 = .ok (.iaload, 1) := by decide +kernel
theorem dL_law_173 : decode cL_law 173 = .ok (.aload_n 0, 1) := by decide +kernel
theorem dL_law_174 : decode cL_law 174 = .ok (.iload_n 3, 1) := by decide +kernel
theorem dL_law_175 : decode cL_law 175 = .ok (.iconst 2, 1) := by decide +kernel
theorem dL_law_176 : decode cL_law 176 = .ok (.iadd, 1) := by decide +kernel
theorem dL_law_177 : decode cL_law 177 = .ok (.iaload, 1) := by decide +kernel
theorem dL_law_178 : decode cL_law 178 = .ok (.invokevirtual 18, 3) := by decide +kernel
theorem dL_law_181 : decode cL_law 181 = .ok (.aload_n 2, 1) := by decide +kernel
theorem dL_law_182 : decode cL_law 182 = .ok (.aload_n 0, 1) := by decide +kernel
theorem dL_law_183 : decode cL_law 183 = .ok (.iload_n 3, 1) := by decide +kernel
theorem dL_law_184 : decode cL_law 184 = .ok (.iconst 1, 1) := by decide +kernel
theorem dL_law_185 : decode cL_law 185 = .ok (.iadd, 1) := by decide +kernel
theorem dL_law_186 : decode cL_law 186 = .ok (.iaload, 1) := by decide +kernel
theorem dL_law_187 : decode cL_law 187 = .ok (.aload_n 0, 1) := by decide +kernel
theorem dL_law_188 : decode cL_law 188 = .ok (.iload_n 3, 1) := by decide +kernel
theorem dL_law_189 : decode cL_law 189 = .ok (.iconst 2, 1) := by decide +kernel
theorem dL_law_190 : decode cL_law 190 = .ok (.iadd, 1) := by decide +kernel
theorem dL_law_191 : decode cL_law 191 = .ok (.iaload, 1) := by decide +kernel
theorem dL_law_192 : decode cL_law 192 = .ok (.invokevirtual 22, 3) := by decide +kernel
theorem dL_law_195 : decode cL_law 195 = .ok (.if_icmp .eq 614, 3) := by decide +kernel
theorem dL_law_198 : decode cL_law 198 = .ok (.iconst 0, 1) := by decide +kernel
theorem dL_law_199 : decode cL_law 199 = .ok (.ireturn, 1) := by decide +kernel
theorem dL_law_200 : decode cL_law 200 = .ok (.aload_n 1, 1) := by decide +kernel
theorem dL_law_201 : decode cL_law 201 = .ok (.aload_n 0, 1) := by decide +kernel
theorem dL_law_202 : decode cL_law 202 = .ok (.iload_n 3, 1) := by decide +kernel
theorem dL_law_203 : decode cL_law 203 = .ok (.iconst 1, 1) := by decide +kernel
theorem dL_law_204 : decode cL_law 204 = .ok (.iadd, 1) := by decide +kernel
theorem dL_law_205 : decode cL_law 205 = .ok (.iaload, 1) := by decide +kernel
theorem dL_law_206 : decode cL_law 206 = .ok (.aload_n 0, 1) := by decide +kernel
theorem dL_law_207 : decode cL_law 207 = .ok (.iload_n 3, 1) := by decide +kernel
theorem dL_law_208 : decode cL_law 208 = .ok (.iconst 2, 1) := by decide +kernel
theorem dL_law_209 : decode cL_law 209 = .ok (.iadd, 1) := by decide +kernel
theorem dL_law_210 : decode cL_law 210 = .ok (.iaload, 1) := by decide +kernel
theorem dL_law_211 : decode cL_law 211 = .ok (.invokevirtual 23, 3) := by decide +kernel
theorem dL_law_214 : decode cL_law 214 = .ok (.aload_n 2, 1) := by decide +kernel
theorem dL_law_215 : decode cL_law 215 = .ok (.aload_n 0, 1) := by decide +kernel
theorem dL_law_216 : decode cL_law 216 = .ok (.iload_n 3, 1) := by decide +kernel
theorem dL_law_217 : decode cL_law 217 = .ok (.iconst 1, 1) := by decide +kernel
theorem dL_law_218 : decode cL_law 218 = .ok (.iadd, 1) := by decide +kernel
theorem dL_law_219 : decode cL_law 219 = .ok (.iaload, 1) := by decide +kernel
theorem dL_law_220 : decode cL_law 220 = .ok (.aload_n 0, 1) := by decide +kernel
theorem dL_law_221 : decode cL_law 221 = .ok (.iload_n 3, 1) := by decide +kernel
theorem dL_law_222 : decode cL_law 222 = .ok (.iconst 2, 1) := by decide +kernel
theorem dL_law_223 : decode cL_law 223 = .ok (.iadd, 1) := by decide +kernel
theorem dL_law_224 : decode cL_law 224 = .ok (.iaload, 1) := by decide +kernel
theorem dL_law_225 : decode cL_law 225 = .ok (.invokevirtual 26, 3) := by decide +kernel
theorem dL_law_228 : decode cL_law 228 = .ok (.if_icmp .eq 581, 3) := by decide +kernel
theorem dL_law_231 : decode cL_law 231 = .ok (.iconst 0, 1) := by decide +kernel
theorem dL_law_232 : decode cL_law 232 = .ok (.ireturn, 1) := by decide +kernel
theorem dL_law_233 : decode cL_law 233 = .ok (.aload_n 1, 1) := by decide +kernel
theorem dL_law_234 : decode cL_law 234 = .ok (.aload_n 0, 1) := by decide +kernel
theorem dL_law_235 : decode cL_law 235 = .ok (.iload_n 3, 1) := by decide +kernel
theorem dL_law_236 : decode cL_law 236 = .ok (.iconst 1, 1) := by decide +kernel
theorem dL_law_237 : decode cL_law 237 = .ok (.iadd, 1) := by decide +kernel
theorem dL_law_238 : decode cL_law 238 = .ok (.iaload, 1) := by decide +kernel
theorem dL_law_239 : decode cL_law 239 = .ok (.aload_n 0, 1) := by decide +kernel
theorem dL_law_240 : decode cL_law 240 = .ok (.iload_n 3, 1) := by decide +kernel
theorem dL_law_241 : decode cL_law 241 = .ok (.iconst 2, 1) := by decide +kernel
theorem dL_law_242 : decode cL_law 242 = .ok (.iadd, 1) := by decide +kernel
theorem dL_law_243 : decode cL_law 243 = .ok (.iaload, 1) := by decide +kernel
theorem dL_law_244 : decode cL_law 244 = .ok (.invokevirtual 27, 3) := by decide +kernel
theorem dL_law_247 : decode cL_law 247 = .ok (.aload_n 2, 1) := by decide +kernel
theorem dL_law_248 : decode cL_law 248 = .ok (.aload_n 0, 1) := by decide +kernel
theorem dL_law_249 : decode cL_law 249 = .ok (.iload_n 3, 1) := by decide +kernel
theorem dL_law_250 : decode cL_law 250 = .ok (.iconst 1, 1) := by decide +kernel
theorem dL_law_251 : decode cL_law 251 = .ok (.iadd, 1) := by decide +kernel
theorem dL_law_252 : decode cL_law 252 = .ok (.iaload, 1) := by decide +kernel
theorem dL_law_253 : decode cL_law 253 = .ok (.aload_n 0, 1) := by decide +kernel
theorem dL_law_254 : decode cL_law 254 = .ok (.iload_n 3, 1) := by decide +kernel
theorem dL_law_255 : decode cL_law 255 = .ok (.iconst 2, 1) := by decide +kernel
theorem dL_law_256 : decode cL_law 256 = .ok (.iadd, 1) := by decide +kernel
theorem dL_law_257 : decode cL_law 257 = .ok (.iaload, 1) := by decide +kernel
theorem dL_law_258 : decode cL_law 258 = .ok (.invokevirtual 30, 3) := by decide +kernel
theorem dL_law_261 : decode cL_law 261 = .ok (.if_icmp .eq 548, 3) := by decide +kernel
theorem dL_law_264 : decode cL_law 264 = .ok (.iconst 0, 1) := by decide +kernel
theorem dL_law_265 : decode cL_law 265 = .ok (.ireturn, 1) := by decide +kernel
theorem dL_law_266 : decode cL_law 266 = .ok (.aload_n 1, 1) := by decide +kernel
theorem dL_law_267 : decode cL_law 267 = .ok (.aload_n 0, 1) := by decide +kernel
theorem dL_law_268 : decode cL_law 268 = .ok (.iload_n 3, 1) := by decide +kernel
theorem dL_law_269 : decode cL_law 269 = .ok (.iconst 1, 1) := by decide +kernel
theorem dL_law_270 : decode cL_law 270 = .ok (.iadd, 1) := by decide +kernel
theorem dL_law_271 : decode cL_law 271 = .ok (.iaload, 1) := by decide +kernel
theorem dL_law_272 : decode cL_law 272 = .ok (.aload_n 0, 1) := by decide +kernel
theorem dL_law_273 : decode cL_law 273 = .ok (.iload_n 3, 1) := by decide +kernel
theorem dL_law_274 : decode cL_law 274 = .ok (.iconst 2, 1) := by decide +kernel
theorem dL_law_275 : decode cL_law 275 = .ok (.iadd, 1) := by decide +kernel
theorem dL_law_276 : decode cL_law 276 = .ok (.iaload, 1) := by decide +kernel
theorem dL_law_277 : decode cL_law 277 = .ok (.invokevirtual 31, 3) := by decide +kernel
theorem dL_law_280 : decode cL_law 280 = .ok (.aload_n 2, 1) := by decide +kernel
theorem dL_law_281 : decode cL_law 281 = .ok (.aload_n 0, 1) := by decide +kernel
theorem dL_law_282 : decode cL_law 282 = .ok (.iload_n 3, 1) := by decide +kernel
theorem dL_law_283 : decode cL_law 283 = .ok (.iconst 1, 1) := by decide +kernel
theorem dL_law_284 : decode cL_law 284 = .ok (.iadd, 1) := by decide +kernel
theorem dL_law_285 : decode cL_law 285 = .ok (.iaload, 1) := by decide +kernel
theorem dL_law_286 : decode cL_law 286 = .ok (.aload_n 0, 1) := by decide +kernel
theorem dL_law_287 : decode cL_law 287 = .ok (.iload_n 3, 1) := by decide +kernel
theorem dL_law_288 : decode cL_law 288 = .ok (.iconst 2, 1) := by decide +kernel
theorem dL_law_289 : decode cL_law 289 = .ok (.iadd, 1) := by decide +kernel
theorem dL_law_290 : decode cL_law 290 = .ok (.iaload, 1) := by decide +kernel
theorem dL_law_291 : decode cL_law 291 = .ok (.invokevirtual 35, 3) := by decide +kernel
theorem dL_law_294 : decode cL_law 294 = .ok (.lcmp, 1) := by decide +kernel
theorem dL_law_295 : decode cL_law 295 = .ok (.ifCond .eq 514, 3) := by decide +kernel
theorem dL_law_298 : decode cL_law 298 = .ok (.iconst 0, 1) := by decide +kernel
theorem dL_law_299 : decode cL_law 299 = .ok (.ireturn, 1) := by decide +kernel
theorem dL_law_300 : decode cL_law 300 = .ok (.aload_n 1, 1) := by decide +kernel
theorem dL_law_301 : decode cL_law 301 = .ok (.aload_n 0, 1) := by decide +kernel
theorem dL_law_302 : decode cL_law 302 = .ok (.iload_n 3, 1) := by decide +kernel
theorem dL_law_303 : decode cL_law 303 = .ok (.iconst 1, 1) := by decide +kernel
theorem dL_law_304 : decode cL_law 304 = .ok (.iadd, 1) := by decide +kernel
theorem dL_law_305 : decode cL_law 305 = .ok (.iaload, 1) := by decide +kernel
theorem dL_law_306 : decode cL_law 306 = .ok (.aload_n 0, 1) := by decide +kernel
theorem dL_law_307 : decode cL_law 307 = .ok (.iload_n 3, 1) := by decide +kernel
theorem dL_law_308 : decode cL_law 308 = .ok (.iconst 2, 1) := by decide +kernel
theorem dL_law_309 : decode cL_law 309 = .ok (.iadd, 1) := by decide +kernel
theorem dL_law_310 : decode cL_law 310 = .ok (.iaload, 1) := by decide +kernel
theorem dL_law_311 : decode cL_law 311 = .ok (.invokevirtual 36, 3) := by decide +kernel
theorem dL_law_314 : decode cL_law 314 = .ok (.aload_n 2, 1) := by decide +kernel
theorem dL_law_315 : decode cL_law 315 = .ok (.aload_n 0, 1) := by decide +kernel
theorem dL_law_316 : decode cL_law 316 = .ok (.iload_n 3, 1) := by decide +kernel
theorem dL_law_317 : decode cL_law 317 = .ok (.iconst 1, 1) := by decide +kernel
theorem dL_law_318 : decode cL_law 318 = .ok (.iadd, 1) := by decide +kernel
theorem dL_law_319 : decode cL_law 319 = .ok (.iaload, 1) := by decide +kernel
theorem dL_law_320 : decode cL_law 320 = .ok (.aload_n 0, 1) := by decide +kernel
theorem dL_law_321 : decode cL_law 321 = .ok (.iload_n 3, 1) := by decide +kernel
theorem dL_law_322 : decode cL_law 322 = .ok (.iconst 2, 1) := by decide +kernel
theorem dL_law_323 : decode cL_law 323 = .ok (.iadd, 1) := by decide +kernel
theorem dL_law_324 : decode cL_law 324 = .ok (.iaload, 1) := by decide +kernel
theorem dL_law_325 : decode cL_law 325 = .ok (.invokevirtual 39, 3) := by decide +kernel
theorem dL_law_328 : decode cL_law 328 = .ok (.if_icmp .eq 481, 3) := by decide +kernel
theorem dL_law_331 : decode cL_law 331 = .ok (.iconst 0, 1) := by decide +kernel
theorem dL_law_332 : decode cL_law 332 = .ok (.ireturn, 1) := by decide +kernel
theorem dL_law_333 : decode cL_law 333 = .ok (.aload_n 1, 1) := by decide +kernel
theorem dL_law_334 : decode cL_law 334 = .ok (.aload_n 0, 1) := by decide +kernel
theorem dL_law_335 : decode cL_law 335 = .ok (.iload_n 3, 1) := by decide +kernel
theorem dL_law_336 : decode cL_law 336 = .ok (.iconst 1, 1) := by decide +kernel
theorem dL_law_337 : decode cL_law 337 = .ok (.iadd, 1) := by decide +kernel
theorem dL_law_338 : decode cL_law 338 = .ok (.iaload, 1) := by decide +kernel
theorem dL_law_339 : decode cL_law 339 = .ok (.invokevirtual 40, 3) := by decide +kernel
theorem dL_law_342 : decode cL_law 342 = .ok (.aload_n 2, 1) := by decide +kernel
theorem dL_law_343 : decode cL_law 343 = .ok (.aload_n 0, 1) := by decide +kernel
theorem dL_law_344 : decode cL_law 344 = .ok (.iload_n 3, 1) := by decide +kernel
theorem dL_law_345 : decode cL_law 345 = .ok (.iconst 1, 1) := by decide +kernel
theorem dL_law_346 : decode cL_law 346 = .ok (.iadd, 1) := by decide +kernel
theorem dL_law_347 : decode cL_law 347 = .ok (.iaload, 1) := by decide +kernel
theorem dL_law_348 : decode cL_law 348 = .ok (.invokevirtual 43, 3) := by decide +kernel
theorem dL_law_351 : decode cL_law 351 = .ok (.if_icmp .eq 458, 3) := by decide +kernel
theorem dL_law_354 : decode cL_law 354 = .ok (.iconst 0, 1) := by decide +kernel
theorem dL_law_355 : decode cL_law 355 = .ok (.ireturn, 1) := by decide +kernel
theorem dL_law_356 : decode cL_law 356 = .ok (.aload_n 1, 1) := by decide +kernel
theorem dL_law_357 : decode cL_law 357 = .ok (.aload_n 0, 1) := by decide +kernel
theorem dL_law_358 : decode cL_law 358 = .ok (.iload_n 3, 1) := by decide +kernel
theorem dL_law_359 : decode cL_law 359 = .ok (.iconst 1, 1) := by decide +kernel
theorem dL_law_360 : decode cL_law 360 = .ok (.iadd, 1) := by decide +kernel
theorem dL_law_361 : decode cL_law 361 = .ok (.iaload, 1) := by decide +kernel
theorem dL_law_362 : decode cL_law 362 = .ok (.aload_n 0, 1) := by decide +kernel
theorem dL_law_363 : decode cL_law 363 = .ok (.iload_n 3, 1) := by decide +kernel
theorem dL_law_364 : decode cL_law 364 = .ok (.iconst 2, 1) := by decide +kernel
theorem dL_law_365 : decode cL_law 365 = .ok (.iadd, 1) := by decide +kernel
theorem dL_law_366 : decode cL_law 366 = .ok (.iaload, 1) := by decide +kernel
theorem dL_law_367 : decode cL_law 367 = .ok (.invokevirtual 44, 3) := by decide +kernel
theorem dL_law_370 : decode cL_law 370 = .ok (.aload_n 2, 1) := by decide +kernel
theorem dL_law_371 : decode cL_law 371 = .ok (.aload_n 0, 1) := by decide +kernel
theorem dL_law_372 : decode cL_law 372 = .ok (.iload_n 3, 1) := by decide +kernel
theorem dL_law_373 : decode cL_law 373 = .ok (.iconst 1, 1) := by decide +kernel
theorem dL_law_374 : decode cL_law 374 = .ok (.iadd, 1) := by decide +kernel
theorem dL_law_375 : decode cL_law 375 = .ok (.iaload, 1) := by decide +kernel
theorem dL_law_376 : decode cL_law 376 = .ok (.aload_n 0, 1) := by decide +kernel
theorem dL_law_377 : decode cL_law 377 = .ok (.iload_n 3, 1) := by decide +kernel
theorem dL_law_378 : decode cL_law 378 = .ok (.iconst 2, 1) := by decide +kernel
theorem dL_law_379 : decode cL_law 379 = .ok (.iadd, 1) := by decide +kernel
theorem dL_law_380 : decode cL_law 380 = .ok (.iaload, 1) := by decide +kernel
theorem dL_law_381 : decode cL_law 381 = .ok (.invokevirtual 47, 3) := by decide +kernel
theorem dL_law_384 : decode cL_law 384 = .ok (.if_icmp .eq 425, 3) := by decide +kernel
theorem dL_law_387 : decode cL_law 387 = .ok (.iconst 0, 1) := by decide +kernel
theorem dL_law_388 : decode cL_law 388 = .ok (.ireturn, 1) := by decide +kernel
theorem dL_law_389 : decode cL_law 389 = .ok (.aload_n 1, 1) := by decide +kernel
theorem dL_law_390 : decode cL_law 390 = .ok (.aload_n 0, 1) := by decide +kernel
theorem dL_law_391 : decode cL_law 391 = .ok (.iload_n 3, 1) := by decide +kernel
theorem dL_law_392 : decode cL_law 392 = .ok (.iconst 1, 1) := by decide +kernel
theorem dL_law_393 : decode cL_law 393 = .ok (.iadd, 1) := by decide +kernel
theorem dL_law_394 : decode cL_law 394 = .ok (.iaload, 1) := by decide +kernel
theorem dL_law_395 : decode cL_law 395 = .ok (.aload_n 0, 1) := by decide +kernel
theorem dL_law_396 : decode cL_law 396 = .ok (.iload_n 3, 1) := by decide +kernel
theorem dL_law_397 : decode cL_law 397 = .ok (.iconst 2, 1) := by decide +kernel
theorem dL_law_398 : decode cL_law 398 = .ok (.iadd, 1) := by decide +kernel
theorem dL_law_399 : decode cL_law 399 = .ok (.iaload, 1) := by decide +kernel
theorem dL_law_400 : decode cL_law 400 = .ok (.invokevirtual 48, 3) := by decide +kernel
theorem dL_law_403 : decode cL_law 403 = .ok (.aload_n 2, 1) := by decide +kernel
theorem dL_law_404 : decode cL_law 404 = .ok (.aload_n 0, 1) := by decide +kernel
theorem dL_law_405 : decode cL_law 405 = .ok (.iload_n 3, 1) := by decide +kernel
theorem dL_law_406 : decode cL_law 406 = .ok (.iconst 1, 1) := by decide +kernel
theorem dL_law_407 : decode cL_law 407 = .ok (.iadd, 1) := by decide +kernel
theorem dL_law_408 : decode cL_law 408 = .ok (.iaload, 1) := by decide +kernel
theorem dL_law_409 : decode cL_law 409 = .ok (.aload_n 0, 1) := by decide +kernel
theorem dL_law_410 : decode cL_law 410 = .ok (.iload_n 3, 1) := by decide +kernel
theorem dL_law_411 : decode cL_law 411 = .ok (.iconst 2, 1) := by decide +kernel
theorem dL_law_412 : decode cL_law 412 = .ok (.iadd, 1) := by decide +kernel
theorem dL_law_413 : decode cL_law 413 = .ok (.iaload, 1) := by decide +kernel
theorem dL_law_414 : decode cL_law 414 = .ok (.invokevirtual 51, 3) := by decide +kernel
theorem dL_law_417 : decode cL_law 417 = .ok (.lcmp, 1) := by decide +kernel
theorem dL_law_418 : decode cL_law 418 = .ok (.ifCond .eq 391, 3) := by decide +kernel
theorem dL_law_421 : decode cL_law 421 = .ok (.iconst 0, 1) := by decide +kernel
theorem dL_law_422 : decode cL_law 422 = .ok (.ireturn, 1) := by decide +kernel
theorem dL_law_423 : decode cL_law 423 = .ok (.aload_n 1, 1) := by decide +kernel
theorem dL_law_424 : decode cL_law 424 = .ok (.aload_n 0, 1) := by decide +kernel
theorem dL_law_425 : decode cL_law 425 = .ok (.iload_n 3, 1) := by decide +kernel
theorem dL_law_426 : decode cL_law 426 = .ok (.iconst 1, 1) := by decide +kernel
theorem dL_law_427 : decode cL_law 427 = .ok (.iadd, 1) := by decide +kernel
theorem dL_law_428 : decode cL_law 428 = .ok (.iaload, 1) := by decide +kernel
theorem dL_law_429 : decode cL_law 429 = .ok (.aload_n 0, 1) := by decide +kernel
theorem dL_law_430 : decode cL_law 430 = .ok (.iload_n 3, 1) := by decide +kernel
theorem dL_law_431 : decode cL_law 431 = .ok (.iconst 2, 1) := by decide +kernel
theorem dL_law_432 : decode cL_law 432 = .ok (.iadd, 1) := by decide +kernel
theorem dL_law_433 : decode cL_law 433 = .ok (.iaload, 1) := by decide +kernel
theorem dL_law_434 : decode cL_law 434 = .ok (.invokevirtual 52, 3) := by decide +kernel
theorem dL_law_437 : decode cL_law 437 = .ok (.aload_n 2, 1) := by decide +kernel
theorem dL_law_438 : decode cL_law 438 = .ok (.aload_n 0, 1) := by decide +kernel
theorem dL_law_439 : decode cL_law 439 = .ok (.iload_n 3, 1) := by decide +kernel
theorem dL_law_440 : decode cL_law 440 = .ok (.iconst 1, 1) := by decide +kernel
theorem dL_law_441 : decode cL_law 441 = .ok (.iadd, 1) := by decide +kernel
theorem dL_law_442 : decode cL_law 442 = .ok (.iaload, 1) := by decide +kernel
theorem dL_law_443 : decode cL_law 443 = .ok (.aload_n 0, 1) := by decide +kernel
theorem dL_law_444 : decode cL_law 444 = .ok (.iload_n 3, 1) := by decide +kernel
theorem dL_law_445 : decode cL_law 445 = .ok (.iconst 2, 1) := by decide +kernel
theorem dL_law_446 : decode cL_law 446 = .ok (.iadd, 1) := by decide +kernel
theorem dL_law_447 : decode cL_law 447 = .ok (.iaload, 1) := by decide +kernel
theorem dL_law_448 : decode cL_law 448 = .ok (.invokevirtual 55, 3) := by decide +kernel
theorem dL_law_451 : decode cL_law 451 = .ok (.lcmp, 1) := by decide +kernel
theorem dL_law_452 : decode cL_law 452 = .ok (.ifCond .eq 357, 3) := by decide +kernel
theorem dL_law_455 : decode cL_law 455 = .ok (.iconst 0, 1) := by decide +kernel
theorem dL_law_456 : decode cL_law 456 = .ok (.ireturn, 1) := by decide +kernel
theorem dL_law_457 : decode cL_law 457 = .ok (.aload_n 1, 1) := by decide +kernel
theorem dL_law_458 : decode cL_law 458 = .ok (.aload_n 0, 1) := by decide +kernel
theorem dL_law_459 : decode cL_law 459 = .ok (.iload_n 3, 1) := by decide +kernel
theorem dL_law_460 : decode cL_law 460 = .ok (.iconst 1, 1) := by decide +kernel
theorem dL_law_461 : decode cL_law 461 = .ok (.iadd, 1) := by decide +kernel
theorem dL_law_462 : decode cL_law 462 = .ok (.iaload, 1) := by decide +kernel
theorem dL_law_463 : decode cL_law 463 = .ok (.aload_n 0, 1) := by decide +kernel
theorem dL_law_464 : decode cL_law 464 = .ok (.iload_n 3, 1) := by decide +kernel
theorem dL_law_465 : decode cL_law 465 = .ok (.iconst 2, 1) := by decide +kernel
theorem dL_law_466 : decode cL_law 466 = .ok (.iadd, 1) := by decide +kernel
theorem dL_law_467 : decode cL_law 467 = .ok (.iaload, 1) := by decide +kernel
theorem dL_law_468 : decode cL_law 468 = .ok (.invokevirtual 56, 3) := by decide +kernel
theorem dL_law_471 : decode cL_law 471 = .ok (.aload_n 2, 1) := by decide +kernel
theorem dL_law_472 : decode cL_law 472 = .ok (.aload_n 0, 1) := by decide +kernel
theorem dL_law_473 : decode cL_law 473 = .ok (.iload_n 3, 1) := by decide +kernel
theorem dL_law_474 : decode cL_law 474 = .ok (.iconst 1, 1) := by decide +kernel
theorem dL_law_475 : decode cL_law 475 = .ok (.iadd, 1) := by decide +kernel
theorem dL_law_476 : decode cL_law 476 = .ok (.iaload, 1) := by decide +kernel
theorem dL_law_477 : decode cL_law 477 = .ok (.aload_n 0, 1) := by decide +kernel
theorem dL_law_478 : decode cL_law 478 = .ok (.iload_n 3, 1) := by decide +kernel
theorem dL_law_479 : decode cL_law 479 = .ok (.iconst 2, 1) := by decide +kernel
theorem dL_law_480 : decode cL_law 480 = .ok (.iadd, 1) := by decide +kernel
theorem dL_law_481 : decode cL_law 481 = .ok (.iaload, 1) := by decide +kernel
theorem dL_law_482 : decode cL_law 482 = .ok (.invokevirtual 59, 3) := by decide +kernel
theorem dL_law_485 : decode cL_law 485 = .ok (.if_icmp .eq 324, 3) := by decide +kernel
theorem dL_law_488 : decode cL_law 488 = .ok (.iconst 0, 1) := by decide +kernel
theorem dL_law_489 : decode cL_law 489 = .ok (.ireturn, 1) := by decide +kernel
theorem dL_law_490 : decode cL_law 490 = .ok (.aload_n 1, 1) := by decide +kernel
theorem dL_law_491 : decode cL_law 491 = .ok (.invokevirtual 60, 3) := by decide +kernel
theorem dL_law_494 : decode cL_law 494 = .ok (.aload_n 2, 1) := by decide +kernel
theorem dL_law_495 : decode cL_law 495 = .ok (.invokevirtual 64, 3) := by decide +kernel
theorem dL_law_498 : decode cL_law 498 = .ok (.if_icmp .eq 311, 3) := by decide +kernel
theorem dL_law_501 : decode cL_law 501 = .ok (.iconst 0, 1) := by decide +kernel
theorem dL_law_502 : decode cL_law 502 = .ok (.ireturn, 1) := by decide +kernel
theorem dL_law_503 : decode cL_law 503 = .ok (.aload_n 1, 1) := by decide +kernel
theorem dL_law_504 : decode cL_law 504 = .ok (.aload_n 0, 1) := by decide +kernel
theorem dL_law_505 : decode cL_law 505 = .ok (.iload_n 3, 1) := by decide +kernel
theorem dL_law_506 : decode cL_law 506 = .ok (.iconst 1, 1) := by decide +kernel
theorem dL_law_507 : decode cL_law 507 = .ok (.iadd, 1) := by decide +kernel
theorem dL_law_508 : decode cL_law 508 = .ok (.iaload, 1) := by decide +kernel
theorem dL_law_509 : decode cL_law 509 = .ok (.aload_n 0, 1) := by decide +kernel
theorem dL_law_510 : decode cL_law 510 = .ok (.iload_n 3, 1) := by decide +kernel
theorem dL_law_511 : decode cL_law 511 = .ok (.iconst 2, 1) := by decide +kernel
theorem dL_law_512 : decode cL_law 512 = .ok (.iadd, 1) := by decide +kernel
theorem dL_law_513 : decode cL_law 513 = .ok (.iaload, 1) := by decide +kernel
theorem dL_law_514 : decode cL_law 514 = .ok (.invokevirtual 65, 3) := by decide +kernel
theorem dL_law_517 : decode cL_law 517 = .ok (.aload_n 2, 1) := by decide +kernel
theorem dL_law_518 : decode cL_law 518 = .ok (.aload_n 0, 1) := by decide +kernel
theorem dL_law_519 : decode cL_law 519 = .ok (.iload_n 3, 1) := by decide +kernel
theorem dL_law_520 : decode cL_law 520 = .ok (.iconst 1, 1) := by decide +kernel
theorem dL_law_521 : decode cL_law 521 = .ok (.iadd, 1) := by decide +kernel
theorem dL_law_522 : decode cL_law 522 = .ok (.iaload, 1) := by decide +kernel
theorem dL_law_523 : decode cL_law 523 = .ok (.aload_n 0, 1) := by decide +kernel
theorem dL_law_524 : decode cL_law 524 = .ok (.iload_n 3, 1) := by decide +kernel
theorem dL_law_525 : decode cL_law 525 = .ok (.iconst 2, 1) := by decide +kernel
theorem dL_law_526 : decode cL_law 526 = .ok (.iadd, 1) := by decide +kernel
theorem dL_law_527 : decode cL_law 527 = .ok (.iaload, 1) := by decide +kernel
theorem dL_law_528 : decode cL_law 528 = .ok (.invokevirtual 68, 3) := by decide +kernel
theorem dL_law_531 : decode cL_law 531 = .ok (.if_icmp .eq 278, 3) := by decide +kernel
theorem dL_law_534 : decode cL_law 534 = .ok (.iconst 0, 1) := by decide +kernel
theorem dL_law_535 : decode cL_law 535 = .ok (.ireturn, 1) := by decide +kernel
theorem dL_law_536 : decode cL_law 536 = .ok (.aload_n 1, 1) := by decide +kernel
theorem dL_law_537 : decode cL_law 537 = .ok (.aload_n 0, 1) := by decide +kernel
theorem dL_law_538 : decode cL_law 538 = .ok (.iload_n 3, 1) := by decide +kernel
theorem dL_law_539 : decode cL_law 539 = .ok (.iconst 1, 1) := by decide +kernel
theorem dL_law_540 : decode cL_law 540 = .ok (.iadd, 1) := by decide +kernel
theorem dL_law_541 : decode cL_law 541 = .ok (.iaload, 1) := by decide +kernel
theorem dL_law_542 : decode cL_law 542 = .ok (.aload_n 0, 1) := by decide +kernel
theorem dL_law_543 : decode cL_law 543 = .ok (.iload_n 3, 1) := by decide +kernel
theorem dL_law_544 : decode cL_law 544 = .ok (.iconst 2, 1) := by decide +kernel
theorem dL_law_545 : decode cL_law 545 = .ok (.iadd, 1) := by decide +kernel
theorem dL_law_546 : decode cL_law 546 = .ok (.iaload, 1) := by decide +kernel
theorem dL_law_547 : decode cL_law 547 = .ok (.invokevirtual 69, 3) := by decide +kernel
theorem dL_law_550 : decode cL_law 550 = .ok (.aload_n 2, 1) := by decide +kernel
theorem dL_law_551 : decode cL_law 551 = .ok (.aload_n 0, 1) := by decide +kernel
theorem dL_law_552 : decode cL_law 552 = .ok (.iload_n 3, 1) := by decide +kernel
theorem dL_law_553 : decode cL_law 553 = .ok (.iconst 1, 1) := by decide +kernel
theorem dL_law_554 : decode cL_law 554 = .ok (.iadd, 1) := by decide +kernel
theorem dL_law_555 : decode cL_law 555 = .ok (.iaload, 1) := by decide +kernel
theorem dL_law_556 : decode cL_law 556 = .ok (.aload_n 0, 1) := by decide +kernel
theorem dL_law_557 : decode cL_law 557 = .ok (.iload_n 3, 1) := by decide +kernel
theorem dL_law_558 : decode cL_law 558 = .ok (.iconst 2, 1) := by decide +kernel
theorem dL_law_559 : decode cL_law 559 = .ok (.iadd, 1) := by decide +kernel
theorem dL_law_560 : decode cL_law 560 = .ok (.iaload, 1) := by decide +kernel
theorem dL_law_561 : decode cL_law 561 = .ok (.invokevirtual 72, 3) := by decide +kernel
theorem dL_law_564 : decode cL_law 564 = .ok (.if_icmp .eq 245, 3) := by decide +kernel
theorem dL_law_567 : decode cL_law 567 = .ok (.iconst 0, 1) := by decide +kernel
theorem dL_law_568 : decode cL_law 568 = .ok (.ireturn, 1) := by decide +kernel
theorem dL_law_569 : decode cL_law 569 = .ok (.aload_n 1, 1) := by decide +kernel
theorem dL_law_570 : decode cL_law 570 = .ok (.aload_n 0, 1) := by decide +kernel
theorem dL_law_571 : decode cL_law 571 = .ok (.iload_n 3, 1) := by decide +kernel
theorem dL_law_572 : decode cL_law 572 = .ok (.iconst 1, 1) := by decide +kernel
end
section
theorem dL_law_573 : decode cL_law 573 = .ok (.iadd, 1) := by decide +kernel
theorem dL_law_574 : decode cL_law 574 = .ok (.iaload, 1) := by decide +kernel
theorem dL_law_575 : decode cL_law 575 = .ok (.aload_n 0, 1) := by decide +kernel
theorem dL_law_576 : decode cL_law 576 = .ok (.iload_n 3, 1) := by decide +kernel
theorem dL_law_577 : decode cL_law 577 = .ok (.iconst 2, 1) := by decide +kernel
theorem dL_law_578 : decode cL_law 578 = .ok (.iadd, 1) := by decide +kernel
theorem dL_law_579 : decode cL_law 579 = .ok (.iaload, 1) := by decide +kernel
theorem dL_law_580 : decode cL_law 580 = .ok (.invokevirtual 73, 3) := by decide +kernel
theorem dL_law_583 : decode cL_law 583 = .ok (.aload_n 2, 1) := by decide +kernel
theorem dL_law_584 : decode cL_law 584 = .ok (.aload_n 0, 1) := by decide +kernel
theorem dL_law_585 : decode cL_law 585 = .ok (.iload_n 3, 1) := by decide +kernel
theorem dL_law_586 : decode cL_law 586 = .ok (.iconst 1, 1) := by decide +kernel
theorem dL_law_587 : decode cL_law 587 = .ok (.iadd, 1) := by decide +kernel
theorem dL_law_588 : decode cL_law 588 = .ok (.iaload, 1) := by decide +kernel
theorem dL_law_589 : decode cL_law 589 = .ok (.aload_n 0, 1) := by decide +kernel
theorem dL_law_590 : decode cL_law 590 = .ok (.iload_n 3, 1) := by decide +kernel
theorem dL_law_591 : decode cL_law 591 = .ok (.iconst 2, 1) := by decide +kernel
theorem dL_law_592 : decode cL_law 592 = .ok (.iadd, 1) := by decide +kernel
theorem dL_law_593 : decode cL_law 593 = .ok (.iaload, 1) := by decide +kernel
theorem dL_law_594 : decode cL_law 594 = .ok (.invokevirtual 76, 3) := by decide +kernel
theorem dL_law_597 : decode cL_law 597 = .ok (.if_icmp .eq 212, 3) := by decide +kernel
theorem dL_law_600 : decode cL_law 600 = .ok (.iconst 0, 1) := by decide +kernel
theorem dL_law_601 : decode cL_law 601 = .ok (.ireturn, 1) := by decide +kernel
theorem dL_law_602 : decode cL_law 602 = .ok (.aload_n 1, 1) := by decide +kernel
theorem dL_law_603 : decode cL_law 603 = .ok (.aload_n 0, 1) := by decide +kernel
theorem dL_law_604 : decode cL_law 604 = .ok (.iload_n 3, 1) := by decide +kernel
theorem dL_law_605 : decode cL_law 605 = .ok (.iconst 1, 1) := by decide +kernel
theorem dL_law_606 : decode cL_law 606 = .ok (.iadd, 1) := by decide +kernel
theorem dL_law_607 : decode cL_law 607 = .ok (.iaload, 1) := by decide +kernel
theorem dL_law_608 : decode cL_law 608 = .ok (.invokevirtual 77, 3) := by decide +kernel
theorem dL_law_611 : decode cL_law 611 = .ok (.aload_n 2, 1) := by decide +kernel
theorem dL_law_612 : decode cL_law 612 = .ok (.aload_n 0, 1) := by decide +kernel
theorem dL_law_613 : decode cL_law 613 = .ok (.iload_n 3, 1) := by decide +kernel
theorem dL_law_614 : decode cL_law 614 = .ok (.iconst 1, 1) := by decide +kernel
theorem dL_law_615 : decode cL_law 615 = .ok (.iadd, 1) := by decide +kernel
theorem dL_law_616 : decode cL_law 616 = .ok (.iaload, 1) := by decide +kernel
theorem dL_law_617 : decode cL_law 617 = .ok (.invokevirtual 80, 3) := by decide +kernel
theorem dL_law_620 : decode cL_law 620 = .ok (.if_icmp .eq 189, 3) := by decide +kernel
theorem dL_law_623 : decode cL_law 623 = .ok (.iconst 0, 1) := by decide +kernel
theorem dL_law_624 : decode cL_law 624 = .ok (.ireturn, 1) := by decide +kernel
theorem dL_law_625 : decode cL_law 625 = .ok (.aload_n 1, 1) := by decide +kernel
theorem dL_law_626 : decode cL_law 626 = .ok (.aload_n 0, 1) := by decide +kernel
theorem dL_law_627 : decode cL_law 627 = .ok (.iload_n 3, 1) := by decide +kernel
theorem dL_law_628 : decode cL_law 628 = .ok (.iconst 1, 1) := by decide +kernel
theorem dL_law_629 : decode cL_law 629 = .ok (.iadd, 1) := by decide +kernel
theorem dL_law_630 : decode cL_law 630 = .ok (.iaload, 1) := by decide +kernel
theorem dL_law_631 : decode cL_law 631 = .ok (.invokevirtual 81, 3) := by decide +kernel
theorem dL_law_634 : decode cL_law 634 = .ok (.aload_n 2, 1) := by decide +kernel
theorem dL_law_635 : decode cL_law 635 = .ok (.aload_n 0, 1) := by decide +kernel
theorem dL_law_636 : decode cL_law 636 = .ok (.iload_n 3, 1) := by decide +kernel
theorem dL_law_637 : decode cL_law 637 = .ok (.iconst 1, 1) := by decide +kernel
theorem dL_law_638 : decode cL_law 638 = .ok (.iadd, 1) := by decide +kernel
theorem dL_law_639 : decode cL_law 639 = .ok (.iaload, 1) := by decide +kernel
theorem dL_law_640 : decode cL_law 640 = .ok (.invokevirtual 84, 3) := by decide +kernel
theorem dL_law_643 : decode cL_law 643 = .ok (.if_icmp .eq 166, 3) := by decide +kernel
theorem dL_law_646 : decode cL_law 646 = .ok (.iconst 0, 1) := by decide +kernel
theorem dL_law_647 : decode cL_law 647 = .ok (.ireturn, 1) := by decide +kernel
theorem dL_law_648 : decode cL_law 648 = .ok (.aload_n 1, 1) := by decide +kernel
theorem dL_law_649 : decode cL_law 649 = .ok (.aload_n 0, 1) := by decide +kernel
theorem dL_law_650 : decode cL_law 650 = .ok (.iload_n 3, 1) := by decide +kernel
theorem dL_law_651 : decode cL_law 651 = .ok (.iconst 1, 1) := by decide +kernel
theorem dL_law_652 : decode cL_law 652 = .ok (.iadd, 1) := by decide +kernel
theorem dL_law_653 : decode cL_law 653 = .ok (.iaload, 1) := by decide +kernel
theorem dL_law_654 : decode cL_law 654 = .ok (.invokevirtual 85, 3) := by decide +kernel
theorem dL_law_657 : decode cL_law 657 = .ok (.aload_n 2, 1) := by decide +kernel
theorem dL_law_658 : decode cL_law 658 = .ok (.aload_n 0, 1) := by decide +kernel
theorem dL_law_659 : decode cL_law 659 = .ok (.iload_n 3, 1) := by decide +kernel
theorem dL_law_660 : decode cL_law 660 = .ok (.iconst 1, 1) := by decide +kernel
theorem dL_law_661 : decode cL_law 661 = .ok (.iadd, 1) := by decide +kernel
theorem dL_law_662 : decode cL_law 662 = .ok (.iaload, 1) := by decide +kernel
theorem dL_law_663 : decode cL_law 663 = .ok (.invokevirtual 88, 3) := by decide +kernel
theorem dL_law_666 : decode cL_law 666 = .ok (.if_icmp .eq 143, 3) := by decide +kernel
theorem dL_law_669 : decode cL_law 669 = .ok (.iconst 0, 1) := by decide +kernel
theorem dL_law_670 : decode cL_law 670 = .ok (.ireturn, 1) := by decide +kernel
theorem dL_law_671 : decode cL_law 671 = .ok (.aload_n 1, 1) := by decide +kernel
theorem dL_law_672 : decode cL_law 672 = .ok (.aload_n 0, 1) := by decide +kernel
theorem dL_law_673 : decode cL_law 673 = .ok (.iload_n 3, 1) := by decide +kernel
theorem dL_law_674 : decode cL_law 674 = .ok (.iconst 1, 1) := by decide +kernel
theorem dL_law_675 : decode cL_law 675 = .ok (.iadd, 1) := by decide +kernel
theorem dL_law_676 : decode cL_law 676 = .ok (.iaload, 1) := by decide +kernel
theorem dL_law_677 : decode cL_law 677 = .ok (.invokevirtual 89, 3) := by decide +kernel
theorem dL_law_680 : decode cL_law 680 = .ok (.aload_n 2, 1) := by decide +kernel
theorem dL_law_681 : decode cL_law 681 = .ok (.aload_n 0, 1) := by decide +kernel
theorem dL_law_682 : decode cL_law 682 = .ok (.iload_n 3, 1) := by decide +kernel
theorem dL_law_683 : decode cL_law 683 = .ok (.iconst 1, 1) := by decide +kernel
theorem dL_law_684 : decode cL_law 684 = .ok (.iadd, 1) := by decide +kernel
theorem dL_law_685 : decode cL_law 685 = .ok (.iaload, 1) := by decide +kernel
theorem dL_law_686 : decode cL_law 686 = .ok (.invokevirtual 92, 3) := by decide +kernel
theorem dL_law_689 : decode cL_law 689 = .ok (.if_icmp .eq 120, 3) := by decide +kernel
theorem dL_law_692 : decode cL_law 692 = .ok (.iconst 0, 1) := by decide +kernel
theorem dL_law_693 : decode cL_law 693 = .ok (.ireturn, 1) := by decide +kernel
theorem dL_law_694 : decode cL_law 694 = .ok (.aload_n 1, 1) := by decide +kernel
theorem dL_law_695 : decode cL_law 695 = .ok (.aload_n 0, 1) := by decide +kernel
theorem dL_law_696 : decode cL_law 696 = .ok (.iload_n 3, 1) := by decide +kernel
theorem dL_law_697 : decode cL_law 697 = .ok (.iconst 1, 1) := by decide +kernel
theorem dL_law_698 : decode cL_law 698 = .ok (.iadd, 1) := by decide +kernel
theorem dL_law_699 : decode cL_law 699 = .ok (.iaload, 1) := by decide +kernel
theorem dL_law_700 : decode cL_law 700 = .ok (.aload_n 0, 1) := by decide +kernel
theorem dL_law_701 : decode cL_law 701 = .ok (.iload_n 3, 1) := by decide +kernel
theorem dL_law_702 : decode cL_law 702 = .ok (.iconst 2, 1) := by decide +kernel
theorem dL_law_703 : decode cL_law 703 = .ok (.iadd, 1) := by decide +kernel
theorem dL_law_704 : decode cL_law 704 = .ok (.iaload, 1) := by decide +kernel
theorem dL_law_705 : decode cL_law 705 = .ok (.invokevirtual 93, 3) := by decide +kernel
theorem dL_law_708 : decode cL_law 708 = .ok (.aload_n 2, 1) := by decide +kernel
theorem dL_law_709 : decode cL_law 709 = .ok (.aload_n 0, 1) := by decide +kernel
theorem dL_law_710 : decode cL_law 710 = .ok (.iload_n 3, 1) := by decide +kernel
theorem dL_law_711 : decode cL_law 711 = .ok (.iconst 1, 1) := by decide +kernel
theorem dL_law_712 : decode cL_law 712 = .ok (.iadd, 1) := by decide +kernel
theorem dL_law_713 : decode cL_law 713 = .ok (.iaload, 1) := by decide +kernel
theorem dL_law_714 : decode cL_law 714 = .ok (.aload_n 0, 1) := by decide +kernel
theorem dL_law_715 : decode cL_law 715 = .ok (.iload_n 3, 1) := by decide +kernel
theorem dL_law_716 : decode cL_law 716 = .ok (.iconst 2, 1) := by decide +kernel
theorem dL_law_717 : decode cL_law 717 = .ok (.iadd, 1) := by decide +kernel
theorem dL_law_718 : decode cL_law 718 = .ok (.iaload, 1) := by decide +kernel
theorem dL_law_719 : decode cL_law 719 = .ok (.invokevirtual 96, 3) := by decide +kernel
theorem dL_law_722 : decode cL_law 722 = .ok (.if_icmp .eq 87, 3) := by decide +kernel
theorem dL_law_725 : decode cL_law 725 = .ok (.iconst 0, 1) := by decide +kernel
theorem dL_law_726 : decode cL_law 726 = .ok (.ireturn, 1) := by decide +kernel
theorem dL_law_727 : decode cL_law 727 = .ok (.aload_n 1, 1) := by decide +kernel
theorem dL_law_728 : decode cL_law 728 = .ok (.invokevirtual 97, 3) := by decide +kernel
theorem dL_law_731 : decode cL_law 731 = .ok (.aload_n 2, 1) := by decide +kernel
theorem dL_law_732 : decode cL_law 732 = .ok (.invokevirtual 100, 3) := by decide +kernel
theorem dL_law_735 : decode cL_law 735 = .ok (.if_icmp .eq 74, 3) := by decide +kernel
theorem dL_law_738 : decode cL_law 738 = .ok (.iconst 0, 1) := by decide +kernel
theorem dL_law_739 : decode cL_law 739 = .ok (.ireturn, 1) := by decide +kernel
theorem dL_law_740 : decode cL_law 740 = .ok (.aload_n 1, 1) := by decide +kernel
theorem dL_law_741 : decode cL_law 741 = .ok (.aload_n 0, 1) := by decide +kernel
theorem dL_law_742 : decode cL_law 742 = .ok (.iload_n 3, 1) := by decide +kernel
theorem dL_law_743 : decode cL_law 743 = .ok (.iconst 1, 1) := by decide +kernel
theorem dL_law_744 : decode cL_law 744 = .ok (.iadd, 1) := by decide +kernel
theorem dL_law_745 : decode cL_law 745 = .ok (.iaload, 1) := by decide +kernel
theorem dL_law_746 : decode cL_law 746 = .ok (.invokevirtual 101, 3) := by decide +kernel
theorem dL_law_749 : decode cL_law 749 = .ok (.aload_n 2, 1) := by decide +kernel
theorem dL_law_750 : decode cL_law 750 = .ok (.aload_n 0, 1) := by decide +kernel
theorem dL_law_751 : decode cL_law 751 = .ok (.iload_n 3, 1) := by decide +kernel
theorem dL_law_752 : decode cL_law 752 = .ok (.iconst 1, 1) := by decide +kernel
theorem dL_law_753 : decode cL_law 753 = .ok (.iadd, 1) := by decide +kernel
theorem dL_law_754 : decode cL_law 754 = .ok (.iaload, 1) := by decide +kernel
theorem dL_law_755 : decode cL_law 755 = .ok (.invokevirtual 104, 3) := by decide +kernel
theorem dL_law_758 : decode cL_law 758 = .ok (.if_icmp .eq 51, 3) := by decide +kernel
theorem dL_law_761 : decode cL_law 761 = .ok (.iconst 0, 1) := by decide +kernel
theorem dL_law_762 : decode cL_law 762 = .ok (.ireturn, 1) := by decide +kernel
theorem dL_law_763 : decode cL_law 763 = .ok (.aload_n 1, 1) := by decide +kernel
theorem dL_law_764 : decode cL_law 764 = .ok (.aload_n 0, 1) := by decide +kernel
theorem dL_law_765 : decode cL_law 765 = .ok (.iload_n 3, 1) := by decide +kernel
theorem dL_law_766 : decode cL_law 766 = .ok (.iconst 1, 1) := by decide +kernel
theorem dL_law_767 : decode cL_law 767 = .ok (.iadd, 1) := by decide +kernel
theorem dL_law_768 : decode cL_law 768 = .ok (.iaload, 1) := by decide +kernel
theorem dL_law_769 : decode cL_law 769 = .ok (.invokevirtual 105, 3) := by decide +kernel
theorem dL_law_772 : decode cL_law 772 = .ok (.aload_n 2, 1) := by decide +kernel
theorem dL_law_773 : decode cL_law 773 = .ok (.aload_n 0, 1) := by decide +kernel
theorem dL_law_774 : decode cL_law 774 = .ok (.iload_n 3, 1) := by decide +kernel
theorem dL_law_775 : decode cL_law 775 = .ok (.iconst 1, 1) := by decide +kernel
theorem dL_law_776 : decode cL_law 776 = .ok (.iadd, 1) := by decide +kernel
theorem dL_law_777 : decode cL_law 777 = .ok (.iaload, 1) := by decide +kernel
theorem dL_law_778 : decode cL_law 778 = .ok (.invokevirtual 108, 3) := by decide +kernel
theorem dL_law_781 : decode cL_law 781 = .ok (.if_icmp .eq 28, 3) := by decide +kernel
theorem dL_law_784 : decode cL_law 784 = .ok (.iconst 0, 1) := by decide +kernel
theorem dL_law_785 : decode cL_law 785 = .ok (.ireturn, 1) := by decide +kernel
theorem dL_law_786 : decode cL_law 786 = .ok (.aload_n 1, 1) := by decide +kernel
theorem dL_law_787 : decode cL_law 787 = .ok (.aload_n 0, 1) := by decide +kernel
theorem dL_law_788 : decode cL_law 788 = .ok (.iload_n 3, 1) := by decide +kernel
theorem dL_law_789 : decode cL_law 789 = .ok (.iconst 1, 1) := by decide +kernel
theorem dL_law_790 : decode cL_law 790 = .ok (.iadd, 1) := by decide +kernel
theorem dL_law_791 : decode cL_law 791 = .ok (.iaload, 1) := by decide +kernel
theorem dL_law_792 : decode cL_law 792 = .ok (.invokevirtual 109, 3) := by decide +kernel
theorem dL_law_795 : decode cL_law 795 = .ok (.aload_n 2, 1) := by decide +kernel
theorem dL_law_796 : decode cL_law 796 = .ok (.aload_n 0, 1) := by decide +kernel
theorem dL_law_797 : decode cL_law 797 = .ok (.iload_n 3, 1) := by decide +kernel
theorem dL_law_798 : decode cL_law 798 = .ok (.iconst 1, 1) := by decide +kernel
theorem dL_law_799 : decode cL_law 799 = .ok (.iadd, 1) := by decide +kernel
theorem dL_law_800 : decode cL_law 800 = .ok (.iaload, 1) := by decide +kernel
theorem dL_law_801 : decode cL_law 801 = .ok (.invokevirtual 112, 3) := by decide +kernel
theorem dL_law_804 : decode cL_law 804 = .ok (.if_icmp .eq 5, 3) := by decide +kernel
theorem dL_law_807 : decode cL_law 807 = .ok (.iconst 0, 1) := by decide +kernel
theorem dL_law_808 : decode cL_law 808 = .ok (.ireturn, 1) := by decide +kernel
theorem dL_law_809 : decode cL_law 809 = .ok (.iinc 3 3, 3) := by decide +kernel
theorem dL_law_812 : decode cL_law 812 = .ok (.goto (-794), 3) := by decide +kernel
theorem dL_law_815 : decode cL_law 815 = .ok (.iconst 1, 1) := by decide +kernel
theorem dL_law_816 : decode cL_law 816 = .ok (.ireturn, 1) := by decide +kernel
abbrev vwCl : List vw_C := [(RX0, TX0, 3), (RX1, TX1, 1), (RX2, TX2, 3), (RX3, TX3, 6), (RX4, TX4, 3), (RX6, TX6, 10), (RX7, TX7, 7), (RX8, TX8, 17)]
end
section
/-! reads and writes that may miss; joins; loops' ends: the words in which methods are told as functions -/
def rdI (n : Nat) (f : Nat → Int32) (i : Int32) : Option Int32 := if i < 0 ∨ n ≤ i.toNatClampNeg then none else some (f i.toNatClampNeg)
def rdL (n : Nat) (f : Nat → Int64) (i : Int32) : Option Int64 := if i < 0 ∨ n ≤ i.toNatClampNeg then none else some (f i.toNatClampNeg)
def wrI (n : Nat) (f : Nat → Int32) (i x : Int32) : Option (Nat → Int32) := if i < 0 ∨ n ≤ i.toNatClampNeg then none else some (upd f i.toNatClampNeg x)
def wrZ (n : Nat) (f : Nat → Int32) (i x : Int32) : Option (Nat → Int32) := if i < 0 ∨ n ≤ i.toNatClampNeg then none else some (upd f i.toNatClampNeg (vp_nar .boolean x))
def wrL (n : Nat) (f : Nat → Int64) (i : Int32) (x : Int64) : Option (Nat → Int64) := if i < 0 ∨ n ≤ i.toNatClampNeg then none else some (vp_updL f i.toNatClampNeg x)
def dvI (x y : Int32) : Option Int32 := if y = 0 then none else some (x / y)
def rmI (x y : Int32) : Option Int32 := if y = 0 then none else some (x - x / y * y)
def dvL (x y : Int64) : Option Int64 := if y = 0 then none else some (x / y)
def rmL (x y : Int64) : Option Int64 := if y = 0 then none else some (x - x / y * y)
def gdZ (x : Int32) : Option Int32 := if x = 0 ∨ x = 1 then some x else none
theorem rdI_e {β : Type} {n : Nat} {f : Nat → Int32} {i : Int32} {k : Int32 → Option β} {o : β} (h : (rdI n f i).bind k = some o) : vp_in i n ∧ k (f i.toNatClampNeg) = some o := by
  by_cases hc : i < 0 ∨ n ≤ i.toNatClampNeg
  · simp [rdI, hc] at h
  · rw [rdI, if_neg hc] at h
    exact ⟨hc, h⟩
theorem rdL_e {β : Type} {n : Nat} {f : Nat → Int64} {i : Int32} {k : Int64 → Option β} {o : β} (h : (rdL n f i).bind k = some o) : vp_in i n ∧ k (f i.toNatClampNeg) = some o := by
  by_cases hc : i < 0 ∨ n ≤ i.toNatClampNeg
  · simp [rdL, hc] at h
  · rw [rdL, if_neg hc] at h
    exact ⟨hc, h⟩
theorem wrI_e {β : Type} {n : Nat} {f : Nat → Int32} {i x : Int32} {k : (Nat → Int32) → Option β} {o : β} (h : (wrI n f i x).bind k = some o) : vp_in i n ∧ k (upd f i.toNatClampNeg x) = some o := by
  by_cases hc : i < 0 ∨ n ≤ i.toNatClampNeg
  · simp [wrI, hc] at h
  · rw [wrI, if_neg hc] at h
    exact ⟨hc, h⟩
theorem wrZ_e {β : Type} {n : Nat} {f : Nat → Int32} {i x : Int32} {k : (Nat → Int32) → Option β} {o : β} (h : (wrZ n f i x).bind k = some o) : vp_in i n ∧ k (upd f i.toNatClampNeg (vp_nar .boolean x)) = some o := by
  by_cases hc : i < 0 ∨ n ≤ i.toNatClampNeg
  · simp [wrZ, hc] at h
  · rw [wrZ, if_neg hc] at h
    exact ⟨hc, h⟩
theorem wrL_e {β : Type} {n : Nat} {f : Nat → Int64} {i : Int32} {x : Int64} {k : (Nat → Int64) → Option β} {o : β} (h : (wrL n f i x).bind k = some o) : vp_in i n ∧ k (vp_updL f i.toNatClampNeg x) = some o := by
  by_cases hc : i < 0 ∨ n ≤ i.toNatClampNeg
  · simp [wrL, hc] at h
  · rw [wrL, if_neg hc] at h
    exact ⟨hc, h⟩
theorem dvI_e {β : Type} {x y : Int32} {k : Int32 → Option β} {o : β} (h : (dvI x y).bind k = some o) : ¬ y = 0 ∧ k (x / y) = some o := by
  by_cases hc : y = 0
  · simp [dvI, hc] at h
  · rw [dvI, if_neg hc] at h
    exact ⟨hc, h⟩
theorem rmI_e {β : Type} {x y : Int32} {k : Int32 → Option β} {o : β} (h : (rmI x y).bind k = some o) : ¬ y = 0 ∧ k (x - x / y * y) = some o := by
  by_cases hc : y = 0
  · simp [rmI, hc] at h
  · rw [rmI, if_neg hc] at h
    exact ⟨hc, h⟩
theorem dvL_e {β : Type} {x y : Int64} {k : Int64 → Option β} {o : β} (h : (dvL x y).bind k = some o) : ¬ y = 0 ∧ k (x / y) = some o := by
  by_cases hc : y = 0
  · simp [dvL, hc] at h
  · rw [dvL, if_neg hc] at h
    exact ⟨hc, h⟩
theorem rmL_e {β : Type} {x y : Int64} {k : Int64 → Option β} {o : β} (h : (rmL x y).bind k = some o) : ¬ y = 0 ∧ k (x - x / y * y) = some o := by
  by_cases hc : y = 0
  · simp [rmL, hc] at h
  · rw [rmL, if_neg hc] at h
    exact ⟨hc, h⟩
theorem gdZ_e {β : Type} {x : Int32} {k : Int32 → Option β} {o : β} (h : (gdZ x).bind k = some o) : narrow .boolean (.int x) = .int x ∧ k x = some o := by
  by_cases hc : x = 0 ∨ x = 1
  · rw [gdZ, if_pos hc] at h
    rcases hc with rfl | rfl
    · exact ⟨by decide, h⟩
    · exact ⟨by decide, h⟩
  · simp [gdZ, hc] at h
theorem bd_e {α β : Type} {x : Option α} {k : α → Option β} {o : β} (h : x.bind k = some o) : ∃ a, x = some a ∧ k a = some o := by
  cases x with
  | none => simp at h
  | some a => exact ⟨a, rfl, h⟩
def jn0 {β : Type} (k : β) (b : β → β) : β := b k
theorem jn0_e {β : Type} {o : β} {k : Option β} {b : Option β → Option β} {G : Prop} (PJ : Prop) (h : jn0 k b = some o) (J : k = some o → PJ) (B : ∀ k1 : Option β, (k1 = some o → PJ) → b k1 = some o → G) : G := B k J h
def jn1 {A1 β : Type} (k : A1 → β) (b : (A1 → β) → β) : β := b k
theorem jn1_e {A1 β : Type} {o : β} {k : A1 → Option β} {b : (A1 → Option β) → Option β} {G : Prop} (PJ : A1 → Prop) (h : jn1 k b = some o) (J : ∀ (x1 : A1), k x1 = some o → PJ x1) (B : ∀ k1 : A1 → Option β, (∀ (x1 : A1), k1 x1 = some o → PJ x1) → b k1 = some o → G) : G := B k J h
def jn2 {A1 A2 β : Type} (k : A1 → A2 → β) (b : (A1 → A2 → β) → β) : β := b k
theorem jn2_e {A1 A2 β : Type} {o : β} {k : A1 → A2 → Option β} {b : (A1 → A2 → Option β) → Option β} {G : Prop} (PJ : A1 → A2 → Prop) (h : jn2 k b = some o) (J : ∀ (x1 : A1) (x2 : A2), k x1 x2 = some o → PJ x1 x2) (B : ∀ k1 : A1 → A2 → Option β, (∀ (x1 : A1) (x2 : A2), k1 x1 x2 = some o → PJ x1 x2) → b k1 = some o → G) : G := B k J h
def jn3 {A1 A2 A3 β : Type} (k : A1 → A2 → A3 → β) (b : (A1 → A2 → A3 → β) → β) : β := b k
theorem jn3_e {A1 A2 A3 β : Type} {o : β} {k : A1 → A2 → A3 → Option β} {b : (A1 → A2 → A3 → Option β) → Option β} {G : Prop} (PJ : A1 → A2 → A3 → Prop) (h : jn3 k b = some o) (J : ∀ (x1 : A1) (x2 : A2) (x3 : A3), k x1 x2 x3 = some o → PJ x1 x2 x3) (B : ∀ k1 : A1 → A2 → A3 → Option β, (∀ (x1 : A1) (x2 : A2) (x3 : A3), k1 x1 x2 x3 = some o → PJ x1 x2 x3) → b k1 = some o → G) : G := B k J h
def jn4 {A1 A2 A3 A4 β : Type} (k : A1 → A2 → A3 → A4 → β) (b : (A1 → A2 → A3 → A4 → β) → β) : β := b k
theorem jn4_e {A1 A2 A3 A4 β : Type} {o : β} {k : A1 → A2 → A3 → A4 → Option β} {b : (A1 → A2 → A3 → A4 → Option β) → Option β} {G : Prop} (PJ : A1 → A2 → A3 → A4 → Prop) (h : jn4 k b = some o) (J : ∀ (x1 : A1) (x2 : A2) (x3 : A3) (x4 : A4), k x1 x2 x3 x4 = some o → PJ x1 x2 x3 x4) (B : ∀ k1 : A1 → A2 → A3 → A4 → Option β, (∀ (x1 : A1) (x2 : A2) (x3 : A3) (x4 : A4), k1 x1 x2 x3 x4 = some o → PJ x1 x2 x3 x4) → b k1 = some o → G) : G := B k J h
def jn5 {A1 A2 A3 A4 A5 β : Type} (k : A1 → A2 → A3 → A4 → A5 → β) (b : (A1 → A2 → A3 → A4 → A5 → β) → β) : β := b k
theorem jn5_e {A1 A2 A3 A4 A5 β : Type} {o : β} {k : A1 → A2 → A3 → A4 → A5 → Option β} {b : (A1 → A2 → A3 → A4 → A5 → Option β) → Option β} {G : Prop} (PJ : A1 → A2 → A3 → A4 → A5 → Prop) (h : jn5 k b = some o) (J : ∀ (x1 : A1) (x2 : A2) (x3 : A3) (x4 : A4) (x5 : A5), k x1 x2 x3 x4 x5 = some o → PJ x1 x2 x3 x4 x5) (B : ∀ k1 : A1 → A2 → A3 → A4 → A5 → Option β, (∀ (x1 : A1) (x2 : A2) (x3 : A3) (x4 : A4) (x5 : A5), k1 x1 x2 x3 x4 x5 = some o → PJ x1 x2 x3 x4 x5) → b k1 = some o → G) : G := B k J h
def jn6 {A1 A2 A3 A4 A5 A6 β : Type} (k : A1 → A2 → A3 → A4 → A5 → A6 → β) (b : (A1 → A2 → A3 → A4 → A5 → A6 → β) → β) : β := b k
theorem jn6_e {A1 A2 A3 A4 A5 A6 β : Type} {o : β} {k : A1 → A2 → A3 → A4 → A5 → A6 → Option β} {b : (A1 → A2 → A3 → A4 → A5 → A6 → Option β) → Option β} {G : Prop} (PJ : A1 → A2 → A3 → A4 → A5 → A6 → Prop) (h : jn6 k b = some o) (J : ∀ (x1 : A1) (x2 : A2) (x3 : A3) (x4 : A4) (x5 : A5) (x6 : A6), k x1 x2 x3 x4 x5 x6 = some o → PJ x1 x2 x3 x4 x5 x6) (B : ∀ k1 : A1 → A2 → A3 → A4 → A5 → A6 → Option β, (∀ (x1 : A1) (x2 : A2) (x3 : A3) (x4 : A4) (x5 : A5) (x6 : A6), k1 x1 x2 x3 x4 x5 x6 = some o → PJ x1 x2 x3 x4 x5 x6) → b k1 = some o → G) : G := B k J h
def jn7 {A1 A2 A3 A4 A5 A6 A7 β : Type} (k : A1 → A2 → A3 → A4 → A5 → A6 → A7 → β) (b : (A1 → A2 → A3 → A4 → A5 → A6 → A7 → β) → β) : β := b k
theorem jn7_e {A1 A2 A3 A4 A5 A6 A7 β : Type} {o : β} {k : A1 → A2 → A3 → A4 → A5 → A6 → A7 → Option β} {b : (A1 → A2 → A3 → A4 → A5 → A6 → A7 → Option β) → Option β} {G : Prop} (PJ : A1 → A2 → A3 → A4 → A5 → A6 → A7 → Prop) (h : jn7 k b = some o) (J : ∀ (x1 : A1) (x2 : A2) (x3 : A3) (x4 : A4) (x5 : A5) (x6 : A6) (x7 : A7), k x1 x2 x3 x4 x5 x6 x7 = some o → PJ x1 x2 x3 x4 x5 x6 x7) (B : ∀ k1 : A1 → A2 → A3 → A4 → A5 → A6 → A7 → Option β, (∀ (x1 : A1) (x2 : A2) (x3 : A3) (x4 : A4) (x5 : A5) (x6 : A6) (x7 : A7), k1 x1 x2 x3 x4 x5 x6 x7 = some o → PJ x1 x2 x3 x4 x5 x6 x7) → b k1 = some o → G) : G := B k J h
def jn8 {A1 A2 A3 A4 A5 A6 A7 A8 β : Type} (k : A1 → A2 → A3 → A4 → A5 → A6 → A7 → A8 → β) (b : (A1 → A2 → A3 → A4 → A5 → A6 → A7 → A8 → β) → β) : β := b k
theorem jn8_e {A1 A2 A3 A4 A5 A6 A7 A8 β : Type} {o : β} {k : A1 → A2 → A3 → A4 → A5 → A6 → A7 → A8 → Option β} {b : (A1 → A2 → A3 → A4 → A5 → A6 → A7 → A8 → Option β) → Option β} {G : Prop} (PJ : A1 → A2 → A3 → A4 → A5 → A6 → A7 → A8 → Prop) (h : jn8 k b = some o) (J : ∀ (x1 : A1) (x2 : A2) (x3 : A3) (x4 : A4) (x5 : A5) (x6 : A6) (x7 : A7) (x8 : A8), k x1 x2 x3 x4 x5 x6 x7 x8 = some o → PJ x1 x2 x3 x4 x5 x6 x7 x8) (B : ∀ k1 : A1 → A2 → A3 → A4 → A5 → A6 → A7 → A8 → Option β, (∀ (x1 : A1) (x2 : A2) (x3 : A3) (x4 : A4) (x5 : A5) (x6 : A6) (x7 : A7) (x8 : A8), k1 x1 x2 x3 x4 x5 x6 x7 x8 = some o → PJ x1 x2 x3 x4 x5 x6 x7 x8) → b k1 = some o → G) : G := B k J h
def jn9 {A1 A2 A3 A4 A5 A6 A7 A8 A9 β : Type} (k : A1 → A2 → A3 → A4 → A5 → A6 → A7 → A8 → A9 → β) (b : (A1 → A2 → A3 → A4 → A5 → A6 → A7 → A8 → A9 → β) → β) : β := b k
theorem jn9_e {A1 A2 A3 A4 A5 A6 A7 A8 A9 β : Type} {o : β} {k : A1 → A2 → A3 → A4 → A5 → A6 → A7 → A8 → A9 → Option β} {b : (A1 → A2 → A3 → A4 → A5 → A6 → A7 → A8 → A9 → Option β) → Option β} {G : Prop} (PJ : A1 → A2 → A3 → A4 → A5 → A6 → A7 → A8 → A9 → Prop) (h : jn9 k b = some o) (J : ∀ (x1 : A1) (x2 : A2) (x3 : A3) (x4 : A4) (x5 : A5) (x6 : A6) (x7 : A7) (x8 : A8) (x9 : A9), k x1 x2 x3 x4 x5 x6 x7 x8 x9 = some o → PJ x1 x2 x3 x4 x5 x6 x7 x8 x9) (B : ∀ k1 : A1 → A2 → A3 → A4 → A5 → A6 → A7 → A8 → A9 → Option β, (∀ (x1 : A1) (x2 : A2) (x3 : A3) (x4 : A4) (x5 : A5) (x6 : A6) (x7 : A7) (x8 : A8) (x9 : A9), k1 x1 x2 x3 x4 x5 x6 x7 x8 x9 = some o → PJ x1 x2 x3 x4 x5 x6 x7 x8 x9) → b k1 = some o → G) : G := B k J h
def jn10 {A1 A2 A3 A4 A5 A6 A7 A8 A9 A10 β : Type} (k : A1 → A2 → A3 → A4 → A5 → A6 → A7 → A8 → A9 → A10 → β) (b : (A1 → A2 → A3 → A4 → A5 → A6 → A7 → A8 → A9 → A10 → β) → β) : β := b k
theorem jn10_e {A1 A2 A3 A4 A5 A6 A7 A8 A9 A10 β : Type} {o : β} {k : A1 → A2 → A3 → A4 → A5 → A6 → A7 → A8 → A9 → A10 → Option β} {b : (A1 → A2 → A3 → A4 → A5 → A6 → A7 → A8 → A9 → A10 → Option β) → Option β} {G : Prop} (PJ : A1 → A2 → A3 → A4 → A5 → A6 → A7 → A8 → A9 → A10 → Prop) (h : jn10 k b = some o) (J : ∀ (x1 : A1) (x2 : A2) (x3 : A3) (x4 : A4) (x5 : A5) (x6 : A6) (x7 : A7) (x8 : A8) (x9 : A9) (x10 : A10), k x1 x2 x3 x4 x5 x6 x7 x8 x9 x10 = some o → PJ x1 x2 x3 x4 x5 x6 x7 x8 x9 x10) (B : ∀ k1 : A1 → A2 → A3 → A4 → A5 → A6 → A7 → A8 → A9 → A10 → Option β, (∀ (x1 : A1) (x2 : A2) (x3 : A3) (x4 : A4) (x5 : A5) (x6 : A6) (x7 : A7) (x8 : A8) (x9 : A9) (x10 : A10), k1 x1 x2 x3 x4 x5 x6 x7 x8 x9 x10 = some o → PJ x1 x2 x3 x4 x5 x6 x7 x8 x9 x10) → b k1 = some o → G) : G := B k J h
def bd2 {A1 A2 β : Type} (x : Option (A1 × A2)) (k : A1 → A2 → Option β) : Option β := x.bind (fun t => k t.1 t.2)
theorem bd2_e {A1 A2 β : Type} {x : Option (A1 × A2)} {k : A1 → A2 → Option β} {o : β} (h : bd2 x k = some o) : ∃ (x1 : A1) (x2 : A2), x = some (x1, x2) ∧ k x1 x2 = some o := by
  obtain ⟨t, h1, h2⟩ := bd_e h
  exact ⟨t.1, t.2, h1, h2⟩
def bd3 {A1 A2 A3 β : Type} (x : Option (A1 × A2 × A3)) (k : A1 → A2 → A3 → Option β) : Option β := x.bind (fun t => k t.1 t.2.1 t.2.2)
theorem bd3_e {A1 A2 A3 β : Type} {x : Option (A1 × A2 × A3)} {k : A1 → A2 → A3 → Option β} {o : β} (h : bd3 x k = some o) : ∃ (x1 : A1) (x2 : A2) (x3 : A3), x = some (x1, x2, x3) ∧ k x1 x2 x3 = some o := by
  obtain ⟨t, h1, h2⟩ := bd_e h
  exact ⟨t.1, t.2.1, t.2.2, h1, h2⟩
def bd4 {A1 A2 A3 A4 β : Type} (x : Option (A1 × A2 × A3 × A4)) (k : A1 → A2 → A3 → A4 → Option β) : Option β := x.bind (fun t => k t.1 t.2.1 t.2.2.1 t.2.2.2)
theorem bd4_e {A1 A2 A3 A4 β : Type} {x : Option (A1 × A2 × A3 × A4)} {k : A1 → A2 → A3 → A4 → Option β} {o : β} (h : bd4 x k = some o) : ∃ (x1 : A1) (x2 : A2) (x3 : A3) (x4 : A4), x = some (x1, x2, x3, x4) ∧ k x1 x2 x3 x4 = some o := by
  obtain ⟨t, h1, h2⟩ := bd_e h
  exact ⟨t.1, t.2.1, t.2.2.1, t.2.2.2, h1, h2⟩
def bd5 {A1 A2 A3 A4 A5 β : Type} (x : Option (A1 × A2 × A3 × A4 × A5)) (k : A1 → A2 → A3 → A4 → A5 → Option β) : Option β := x.bind (fun t => k t.1 t.2.1 t.2.2.1 t.2.2.2.1 t.2.2.2.2)
theorem bd5_e {A1 A2 A3 A4 A5 β : Type} {x : Option (A1 × A2 × A3 × A4 × A5)} {k : A1 → A2 → A3 → A4 → A5 → Option β} {o : β} (h : bd5 x k = some o) : ∃ (x1 : A1) (x2 : A2) (x3 : A3) (x4 : A4) (x5 : A5), x = some (x1, x2, x3, x4, x5) ∧ k x1 x2 x3 x4 x5 = some o := by
  obtain ⟨t, h1, h2⟩ := bd_e h
  exact ⟨t.1, t.2.1, t.2.2.1, t.2.2.2.1, t.2.2.2.2, h1, h2⟩
def bd6 {A1 A2 A3 A4 A5 A6 β : Type} (x : Option (A1 × A2 × A3 × A4 × A5 × A6)) (k : A1 → A2 → A3 → A4 → A5 → A6 → Option β) : Option β := x.bind (fun t => k t.1 t.2.1 t.2.2.1 t.2.2.2.1 t.2.2.2.2.1 t.2.2.2.2.2)
theorem bd6_e {A1 A2 A3 A4 A5 A6 β : Type} {x : Option (A1 × A2 × A3 × A4 × A5 × A6)} {k : A1 → A2 → A3 → A4 → A5 → A6 → Option β} {o : β} (h : bd6 x k = some o) : ∃ (x1 : A1) (x2 : A2) (x3 : A3) (x4 : A4) (x5 : A5) (x6 : A6), x = some (x1, x2, x3, x4, x5, x6) ∧ k x1 x2 x3 x4 x5 x6 = some o := by
  obtain ⟨t, h1, h2⟩ := bd_e h
  exact ⟨t.1, t.2.1, t.2.2.1, t.2.2.2.1, t.2.2.2.2.1, t.2.2.2.2.2, h1, h2⟩
def bd7 {A1 A2 A3 A4 A5 A6 A7 β : Type} (x : Option (A1 × A2 × A3 × A4 × A5 × A6 × A7)) (k : A1 → A2 → A3 → A4 → A5 → A6 → A7 → Option β) : Option β := x.bind (fun t => k t.1 t.2.1 t.2.2.1 t.2.2.2.1 t.2.2.2.2.1 t.2.2.2.2.2.1 t.2.2.2.2.2.2)
theorem bd7_e {A1 A2 A3 A4 A5 A6 A7 β : Type} {x : Option (A1 × A2 × A3 × A4 × A5 × A6 × A7)} {k : A1 → A2 → A3 → A4 → A5 → A6 → A7 → Option β} {o : β} (h : bd7 x k = some o) : ∃ (x1 : A1) (x2 : A2) (x3 : A3) (x4 : A4) (x5 : A5) (x6 : A6) (x7 : A7), x = some (x1, x2, x3, x4, x5, x6, x7) ∧ k x1 x2 x3 x4 x5 x6 x7 = some o := by
  obtain ⟨t, h1, h2⟩ := bd_e h
  exact ⟨t.1, t.2.1, t.2.2.1, t.2.2.2.1, t.2.2.2.2.1, t.2.2.2.2.2.1, t.2.2.2.2.2.2, h1, h2⟩
def bd8 {A1 A2 A3 A4 A5 A6 A7 A8 β : Type} (x : Option (A1 × A2 × A3 × A4 × A5 × A6 × A7 × A8)) (k : A1 → A2 → A3 → A4 → A5 → A6 → A7 → A8 → Option β) : Option β := x.bind (fun t => k t.1 t.2.1 t.2.2.1 t.2.2.2.1 t.2.2.2.2.1 t.2.2.2.2.2.1 t.2.2.2.2.2.2.1 t.2.2.2.2.2.2.2)
theorem bd8_e {A1 A2 A3 A4 A5 A6 A7 A8 β : Type} {x : Option (A1 × A2 × A3 × A4 × A5 × A6 × A7 × A8)} {k : A1 → A2 → A3 → A4 → A5 → A6 → A7 → A8 → Option β} {o : β} (h : bd8 x k = some o) : ∃ (x1 : A1) (x2 : A2) (x3 : A3) (x4 : A4) (x5 : A5) (x6 : A6) (x7 : A7) (x8 : A8), x = some (x1, x2, x3, x4, x5, x6, x7, x8) ∧ k x1 x2 x3 x4 x5 x6 x7 x8 = some o := by
  obtain ⟨t, h1, h2⟩ := bd_e h
  exact ⟨t.1, t.2.1, t.2.2.1, t.2.2.2.1, t.2.2.2.2.1, t.2.2.2.2.2.1, t.2.2.2.2.2.2.1, t.2.2.2.2.2.2.2, h1, h2⟩
def bd9 {A1 A2 A3 A4 A5 A6 A7 A8 A9 β : Type} (x : Option (A1 × A2 × A3 × A4 × A5 × A6 × A7 × A8 × A9)) (k : A1 → A2 → A3 → A4 → A5 → A6 → A7 → A8 → A9 → Option β) : Option β := x.bind (fun t => k t.1 t.2.1 t.2.2.1 t.2.2.2.1 t.2.2.2.2.1 t.2.2.2.2.2.1 t.2.2.2.2.2.2.1 t.2.2.2.2.2.2.2.1 t.2.2.2.2.2.2.2.2)
theorem bd9_e {A1 A2 A3 A4 A5 A6 A7 A8 A9 β : Type} {x : Option (A1 × A2 × A3 × A4 × A5 × A6 × A7 × A8 × A9)} {k : A1 → A2 → A3 → A4 → A5 → A6 → A7 → A8 → A9 → Option β} {o : β} (h : bd9 x k = some o) : ∃ (x1 : A1) (x2 : A2) (x3 : A3) (x4 : A4) (x5 : A5) (x6 : A6) (x7 : A7) (x8 : A8) (x9 : A9), x = some (x1, x2, x3, x4, x5, x6, x7, x8, x9) ∧ k x1 x2 x3 x4 x5 x6 x7 x8 x9 = some o := by
  obtain ⟨t, h1, h2⟩ := bd_e h
  exact ⟨t.1, t.2.1, t.2.2.1, t.2.2.2.1, t.2.2.2.2.1, t.2.2.2.2.2.1, t.2.2.2.2.2.2.1, t.2.2.2.2.2.2.2.1, t.2.2.2.2.2.2.2.2, h1, h2⟩
def bd10 {A1 A2 A3 A4 A5 A6 A7 A8 A9 A10 β : Type} (x : Option (A1 × A2 × A3 × A4 × A5 × A6 × A7 × A8 × A9 × A10)) (k : A1 → A2 → A3 → A4 → A5 → A6 → A7 → A8 → A9 → A10 → Option β) : Option β := x.bind (fun t => k t.1 t.2.1 t.2.2.1 t.2.2.2.1 t.2.2.2.2.1 t.2.2.2.2.2.1 t.2.2.2.2.2.2.1 t.2.2.2.2.2.2.2.1 t.2.2.2.2.2.2.2.2.1 t.2.2.2.2.2.2.2.2.2)
theorem bd10_e {A1 A2 A3 A4 A5 A6 A7 A8 A9 A10 β : Type} {x : Option (A1 × A2 × A3 × A4 × A5 × A6 × A7 × A8 × A9 × A10)} {k : A1 → A2 → A3 → A4 → A5 → A6 → A7 → A8 → A9 → A10 → Option β} {o : β} (h : bd10 x k = some o) : ∃ (x1 : A1) (x2 : A2) (x3 : A3) (x4 : A4) (x5 : A5) (x6 : A6) (x7 : A7) (x8 : A8) (x9 : A9) (x10 : A10), x = some (x1, x2, x3, x4, x5, x6, x7, x8, x9, x10) ∧ k x1 x2 x3 x4 x5 x6 x7 x8 x9 x10 = some o := by
  obtain ⟨t, h1, h2⟩ := bd_e h
  exact ⟨t.1, t.2.1, t.2.2.1, t.2.2.2.1, t.2.2.2.2.1, t.2.2.2.2.2.1, t.2.2.2.2.2.2.1, t.2.2.2.2.2.2.2.1, t.2.2.2.2.2.2.2.2.1, t.2.2.2.2.2.2.2.2.2, h1, h2⟩
def bdS {α β γ : Type} (x : Option (α ⊕ β)) (k1 : α → Option γ) (k2 : β → Option γ) : Option γ := x.bind (fun t => match t with | .inl a => k1 a | .inr b => k2 b)
theorem bdS_e {α β γ : Type} {x : Option (α ⊕ β)} {k1 : α → Option γ} {k2 : β → Option γ} {o : γ} (h : bdS x k1 k2 = some o) : (∃ a, x = some (.inl a) ∧ k1 a = some o) ∨ (∃ b, x = some (.inr b) ∧ k2 b = some o) := by
  obtain ⟨t, h1, h2⟩ := bd_e h
  cases t with
  | inl a => exact Or.inl ⟨a, h1, h2⟩
  | inr b => exact Or.inr ⟨b, h1, h2⟩
end
section
/-! rows over symbolic states: cells, named locals, place, stack -/
def nwOK (U : State) : Prop := va_Nw (.methodLinkNest "TwiceHeard$Net" 41 yX7_isIn "TwiceHeard") U ∧ va_Nw (.methodLinkNest "TwiceHeard$Telling" 67 yX7_isIn "TwiceHeard") U ∧ va_Nw (.methodLinkNest "TwiceHeard$Summary" 19 yX7_isIn "TwiceHeard") U ∧ va_Nw (.methodLinkNest "TwiceHeard$Summary" 23 yX7_markOf "TwiceHeard") U ∧ va_Nw (.methodLinkNest "TwiceHeard$Summary" 31 yX7_rankOf "TwiceHeard") U ∧ va_Nw (.methodLinkNest "TwiceHeard" 39 yX1_init "TwiceHeard") U ∧ va_AO "TwiceHeard$Net" U ∧ va_AO "TwiceHeard$Image" U
theorem nwOK.warm {s U : State} (hW : s.WarmedH U.vm) (h : nwOK s) : nwOK U := ⟨va_Nw.warmM hW h.1, va_Nw.warmM hW h.2.1, va_Nw.warmM hW h.2.2.1, va_Nw.warmM hW h.2.2.2.1, va_Nw.warmM hW h.2.2.2.2.1, va_Nw.warmM hW h.2.2.2.2.2.1, va_AO.moved hW.alike h.2.2.2.2.2.2.1, va_AO.moved hW.alike h.2.2.2.2.2.2.2⟩
theorem nwOK.same {u U : State} (hv : u.vm = U.vm) (h : nwOK u) : nwOK U := ⟨va_Nw.same rfl hv h.1, va_Nw.same rfl hv h.2.1, va_Nw.same rfl hv h.2.2.1, va_Nw.same rfl hv h.2.2.2.1, va_Nw.same rfl hv h.2.2.2.2.1, va_Nw.same rfl hv h.2.2.2.2.2.1, va_AO.moved (by rw [hv]; exact Vm.Alike.refl _) h.2.2.2.2.2.2.1, va_AO.moved (by rw [hv]; exact Vm.Alike.refl _) h.2.2.2.2.2.2.2⟩
def Cx (p : Program) (s : State) (m : MethodId) (args : Array Value) (c : Code) (cc : ByteArray) (nL : Nat) (own : String) (Ts : List Cond) (D : va_G) (TY : List (ClassId × FieldType)) (A : Nat → Prop) : Prop := CallFix p m c cc nL s args Ts own ∧ va_K D vwCl TY s ∧ (∀ q, s.heap.size ≤ q → A q) ∧ nwOK s
def WW (p : Program) (l : Launch) (e : Env) (R : Room) (s : State) (m : MethodId) (args : Array Value) (below : List Frame) (meth : Method) (c : Code) (Q : State → Prop) (D : va_G) (A : Nat → Prop) (nL cs ss : Nat) (ws : va_W) (lv : List (Nat × Value)) (pc : Nat) (st : List Value) : Prop :=
  ∀ (H : Heap) (locs : List Loc) (ls : Array Slot), va_P D vwCl ws H → va_D A ws → va_S A s.heap H locs → lv_has ls nL lv → W p l e R s m args below meth c H locs cs ss Q (F0 m pc ls st)
section ROWS
variable {p : Program} {l : Launch} {e : Env} {R : Room} {s : State} {m : MethodId} {args : Array Value} {below : List Frame} {meth : Method} {c : Code} {Q : State → Prop} {cc : ByteArray} {nL cs ss : Nat} {own : String} {Ts : List Cond} {D : va_G} {TY : List (ClassId × FieldType)} {A : Nat → Prop} {ws : va_W} {lv : List (Nat × Value)} {pc : Nat} {st : List Value}
theorem q_iadd (C : Cx p s m args c cc nL own Ts D TY A) {x y : Int32} (hdg : decode cc pc = .ok (.iadd, 1)) (k : WW p l e R s m args below meth c Q D A nL cs ss ws lv (pc + 1) (.int (x + y) :: st)) : WW p l e R s m args below meth c Q D A nL cs ss ws lv pc (.int y :: .int x :: st) := fun H locs ls hP hD hS hl => lv_iadd C.1.1 C.1.2.1 hdg (k H locs ls hP hD hS hl)
theorem q_isub (C : Cx p s m args c cc nL own Ts D TY A) {x y : Int32} (hdg : decode cc pc = .ok (.isub, 1)) (k : WW p l e R s m args below meth c Q D A nL cs ss ws lv (pc + 1) (.int (x - y) :: st)) : WW p l e R s m args below meth c Q D A nL cs ss ws lv pc (.int y :: .int x :: st) := fun H locs ls hP hD hS hl => lv_isub C.1.1 C.1.2.1 hdg (k H locs ls hP hD hS hl)
theorem q_imul (C : Cx p s m args c cc nL own Ts D TY A) {x y : Int32} (hdg : decode cc pc = .ok (.imul, 1)) (k : WW p l e R s m args below meth c Q D A nL cs ss ws lv (pc + 1) (.int (x * y) :: st)) : WW p l e R s m args below meth c Q D A nL cs ss ws lv pc (.int y :: .int x :: st) := fun H locs ls hP hD hS hl => lv_imul C.1.1 C.1.2.1 hdg (k H locs ls hP hD hS hl)
theorem q_iand (C : Cx p s m args c cc nL own Ts D TY A) {x y : Int32} (hdg : decode cc pc = .ok (.iand, 1)) (k : WW p l e R s m args below meth c Q D A nL cs ss ws lv (pc + 1) (.int (x &&& y) :: st)) : WW p l e R s m args below meth c Q D A nL cs ss ws lv pc (.int y :: .int x :: st) := fun H locs ls hP hD hS hl => lv_iand C.1.1 C.1.2.1 hdg (k H locs ls hP hD hS hl)
theorem q_ior (C : Cx p s m args c cc nL own Ts D TY A) {x y : Int32} (hdg : decode cc pc = .ok (.ior, 1)) (k : WW p l e R s m args below meth c Q D A nL cs ss ws lv (pc + 1) (.int (x ||| y) :: st)) : WW p l e R s m args below meth c Q D A nL cs ss ws lv pc (.int y :: .int x :: st) := fun H locs ls hP hD hS hl => lv_ior C.1.1 C.1.2.1 hdg (k H locs ls hP hD hS hl)
theorem q_ixor (C : Cx p s m args c cc nL own Ts D TY A) {x y : Int32} (hdg : decode cc pc = .ok (.ixor, 1)) (k : WW p l e R s m args below meth c Q D A nL cs ss ws lv (pc + 1) (.int (x ^^^ y) :: st)) : WW p l e R s m args below meth c Q D A nL cs ss ws lv pc (.int y :: .int x :: st) := fun H locs ls hP hD hS hl => lv_ixor C.1.1 C.1.2.1 hdg (k H locs ls hP hD hS hl)
theorem q_ishl (C : Cx p s m args c cc nL own Ts D TY A) {x y : Int32} (hdg : decode cc pc = .ok (.ishl, 1)) (k : WW p l e R s m args below meth c Q D A nL cs ss ws lv (pc + 1) (.int (x <<< (y &&& 31)) :: st)) : WW p l e R s m args below meth c Q D A nL cs ss ws lv pc (.int y :: .int x :: st) := fun H locs ls hP hD hS hl => lv_ishl C.1.1 C.1.2.1 hdg (k H locs ls hP hD hS hl)
theorem q_ishr (C : Cx p s m args c cc nL own Ts D TY A) {x y : Int32} (hdg : decode cc pc = .ok (.ishr, 1)) (k : WW p l e R s m args below meth c Q D A nL cs ss ws lv (pc + 1) (.int (x >>> (y &&& 31)) :: st)) : WW p l e R s m args below meth c Q D A nL cs ss ws lv pc (.int y :: .int x :: st) := fun H locs ls hP hD hS hl => lv_ishr C.1.1 C.1.2.1 hdg (k H locs ls hP hD hS hl)
theorem q_iushr (C : Cx p s m args c cc nL own Ts D TY A) {x y : Int32} (hdg : decode cc pc = .ok (.iushr, 1)) (k : WW p l e R s m args below meth c Q D A nL cs ss ws lv (pc + 1) (.int ((x.toUInt32 >>> (y.toUInt32 &&& Int32.toUInt32 31)).toInt32) :: st)) : WW p l e R s m args below meth c Q D A nL cs ss ws lv pc (.int y :: .int x :: st) := fun H locs ls hP hD hS hl => lv_iushr C.1.1 C.1.2.1 hdg rfl (k H locs ls hP hD hS hl)
theorem q_ineg (C : Cx p s m args c cc nL own Ts D TY A) {x : Int32} (hdg : decode cc pc = .ok (.ineg, 1)) (k : WW p l e R s m args below meth c Q D A nL cs ss ws lv (pc + 1) (.int (-x) :: st)) : WW p l e R s m args below meth c Q D A nL cs ss ws lv pc (.int x :: st) := fun H locs ls hP hD hS hl => lv_ineg C.1.1 C.1.2.1 hdg (k H locs ls hP hD hS hl)
theorem q_ladd (C : Cx p s m args c cc nL own Ts D TY A) {x y : Int64} (hdg : decode cc pc = .ok (.ladd, 1)) (k : WW p l e R s m args below meth c Q D A nL cs ss ws lv (pc + 1) (.long (x + y) :: st)) : WW p l e R s m args below meth c Q D A nL cs ss ws lv pc (.long y :: .long x :: st) := fun H locs ls hP hD hS hl => lv_ladd C.1.1 C.1.2.1 hdg (k H locs ls hP hD hS hl)
theorem q_lsub (C : Cx p s m args c cc nL own Ts D TY A) {x y : Int64} (hdg : decode cc pc = .ok (.lsub, 1)) (k : WW p l e R s m args below meth c Q D A nL cs ss ws lv (pc + 1) (.long (x - y) :: st)) : WW p l e R s m args below meth c Q D A nL cs ss ws lv pc (.long y :: .long x :: st) := fun H locs ls hP hD hS hl => lv_lsub C.1.1 C.1.2.1 hdg (k H locs ls hP hD hS hl)
theorem q_lmul (C : Cx p s m args c cc nL own Ts D TY A) {x y : Int64} (hdg : decode cc pc = .ok (.lmul, 1)) (k : WW p l e R s m args below meth c Q D A nL cs ss ws lv (pc + 1) (.long (x * y) :: st)) : WW p l e R s m args below meth c Q D A nL cs ss ws lv pc (.long y :: .long x :: st) := fun H locs ls hP hD hS hl => lv_lmul C.1.1 C.1.2.1 hdg (k H locs ls hP hD hS hl)
theorem q_lor (C : Cx p s m args c cc nL own Ts D TY A) {x y : Int64} (hdg : decode cc pc = .ok (.lor, 1)) (k : WW p l e R s m args below meth c Q D A nL cs ss ws lv (pc + 1) (.long (x ||| y) :: st)) : WW p l e R s m args below meth c Q D A nL cs ss ws lv pc (.long y :: .long x :: st) := fun H locs ls hP hD hS hl => lv_lor C.1.1 C.1.2.1 hdg (k H locs ls hP hD hS hl)
theorem q_land (C : Cx p s m args c cc nL own Ts D TY A) {x y : Int64} (hdg : decode cc pc = .ok (.land, 1)) (k : WW p l e R s m args below meth c Q D A nL cs ss ws lv (pc + 1) (.long (x &&& y) :: st)) : WW p l e R s m args below meth c Q D A nL cs ss ws lv pc (.long y :: .long x :: st) := fun H locs ls hP hD hS hl => lv_land C.1.1 C.1.2.1 hdg (k H locs ls hP hD hS hl)
theorem q_lshl (C : Cx p s m args c cc nL own Ts D TY A) {x : Int64} {y : Int32} (hdg : decode cc pc = .ok (.lshl, 1)) (k : WW p l e R s m args below meth c Q D A nL cs ss ws lv (pc + 1) (.long (x <<< (y.toInt64 &&& 63)) :: st)) : WW p l e R s m args below meth c Q D A nL cs ss ws lv pc (.int y :: .long x :: st) := fun H locs ls hP hD hS hl => lv_lshl C.1.1 C.1.2.1 hdg rfl (k H locs ls hP hD hS hl)
theorem q_lshr (C : Cx p s m args c cc nL own Ts D TY A) {x : Int64} {y : Int32} (hdg : decode cc pc = .ok (.lshr, 1)) (k : WW p l e R s m args below meth c Q D A nL cs ss ws lv (pc + 1) (.long (x >>> (y.toInt64 &&& 63)) :: st)) : WW p l e R s m args below meth c Q D A nL cs ss ws lv pc (.int y :: .long x :: st) := fun H locs ls hP hD hS hl => lv_lshr C.1.1 C.1.2.1 hdg rfl (k H locs ls hP hD hS hl)
theorem q_i2l (C : Cx p s m args c cc nL own Ts D TY A) {x : Int32} (hdg : decode cc pc = .ok (.i2l, 1)) (k : WW p l e R s m args below meth c Q D A nL cs ss ws lv (pc + 1) (.long x.toInt64 :: st)) : WW p l e R s m args below meth c Q D A nL cs ss ws lv pc (.int x :: st) := fun H locs ls hP hD hS hl => lv_i2l C.1.1 C.1.2.1 hdg rfl (k H locs ls hP hD hS hl)
theorem q_l2i (C : Cx p s m args c cc nL own Ts D TY A) {x : Int64} (hdg : decode cc pc = .ok (.l2i, 1)) (k : WW p l e R s m args below meth c Q D A nL cs ss ws lv (pc + 1) (.int x.toInt32 :: st)) : WW p l e R s m args below meth c Q D A nL cs ss ws lv pc (.long x :: st) := fun H locs ls hP hD hS hl => lv_l2i C.1.1 C.1.2.1 hdg rfl (k H locs ls hP hD hS hl)
theorem q_lcmp (C : Cx p s m args c cc nL own Ts D TY A) {x y : Int64} (hdg : decode cc pc = .ok (.lcmp, 1)) (k : WW p l e R s m args below meth c Q D A nL cs ss ws lv (pc + 1) (.int (lg_cmp x y) :: st)) : WW p l e R s m args below meth c Q D A nL cs ss ws lv pc (.long y :: .long x :: st) := fun H locs ls hP hD hS hl => W.lcmp C.1.1 C.1.2.1 hdg (k H locs ls hP hD hS hl)
theorem q_idivC (C : Cx p s m args c cc nL own Ts D TY A) {x y : Int32} (hdg : decode cc pc = .ok (.idiv, 1)) (hne : ¬ y = 0) (k : WW p l e R s m args below meth c Q D A nL cs ss ws lv (pc + 1) (.int (x / y) :: st)) : WW p l e R s m args below meth c Q D A nL cs ss ws lv pc (.int y :: .int x :: st) := fun H locs ls hP hD hS hl => lv_idiv C.1.1 C.1.2.1 hdg hne (k H locs ls hP hD hS hl)
theorem q_iremC (C : Cx p s m args c cc nL own Ts D TY A) {x y : Int32} (hdg : decode cc pc = .ok (.irem, 1)) (hne : ¬ y = 0) (k : WW p l e R s m args below meth c Q D A nL cs ss ws lv (pc + 1) (.int (x - x / y * y) :: st)) : WW p l e R s m args below meth c Q D A nL cs ss ws lv pc (.int y :: .int x :: st) := fun H locs ls hP hD hS hl => lv_irem C.1.1 C.1.2.1 hdg hne (k H locs ls hP hD hS hl)
theorem q_ldivC (C : Cx p s m args c cc nL own Ts D TY A) {x y : Int64} (hdg : decode cc pc = .ok (.ldiv, 1)) (hne : ¬ y = 0) (k : WW p l e R s m args below meth c Q D A nL cs ss ws lv (pc + 1) (.long (x / y) :: st)) : WW p l e R s m args below meth c Q D A nL cs ss ws lv pc (.long y :: .long x :: st) := fun H locs ls hP hD hS hl => lv_ldiv C.1.1 C.1.2.1 hdg hne (k H locs ls hP hD hS hl)
theorem q_lremC (C : Cx p s m args c cc nL own Ts D TY A) {x y : Int64} (hdg : decode cc pc = .ok (.lrem, 1)) (hne : ¬ y = 0) (k : WW p l e R s m args below meth c Q D A nL cs ss ws lv (pc + 1) (.long (x - x / y * y) :: st)) : WW p l e R s m args below meth c Q D A nL cs ss ws lv pc (.long y :: .long x :: st) := fun H locs ls hP hD hS hl => lv_lrem C.1.1 C.1.2.1 hdg hne (k H locs ls hP hD hS hl)
theorem q_idiv (C : Cx p s m args c cc nL own Ts D TY A) {x y : Int32} {β : Type} {o : β} {f : Int32 → Option β} (hdg : decode cc pc = .ok (.idiv, 1)) (hf : (dvI x y).bind f = some o) (k : ∀ z : Int32, f z = some o → WW p l e R s m args below meth c Q D A nL cs ss ws lv (pc + 1) (.int z :: st)) : WW p l e R s m args below meth c Q D A nL cs ss ws lv pc (.int y :: .int x :: st) := fun H locs ls hP hD hS hl => lv_idiv C.1.1 C.1.2.1 hdg (dvI_e hf).1 (k _ (dvI_e hf).2 H locs ls hP hD hS hl)
theorem q_irem (C : Cx p s m args c cc nL own Ts D TY A) {x y : Int32} {β : Type} {o : β} {f : Int32 → Option β} (hdg : decode cc pc = .ok (.irem, 1)) (hf : (rmI x y).bind f = some o) (k : ∀ z : Int32, f z = some o → WW p l e R s m args below meth c Q D A nL cs ss ws lv (pc + 1) (.int z :: st)) : WW p l e R s m args below meth c Q D A nL cs ss ws lv pc (.int y :: .int x :: st) := fun H locs ls hP hD hS hl => lv_irem C.1.1 C.1.2.1 hdg (rmI_e hf).1 (k _ (rmI_e hf).2 H locs ls hP hD hS hl)
theorem q_ldiv (C : Cx p s m args c cc nL own Ts D TY A) {x y : Int64} {β : Type} {o : β} {f : Int64 → Option β} (hdg : decode cc pc = .ok (.ldiv, 1)) (hf : (dvL x y).bind f = some o) (k : ∀ z : Int64, f z = some o → WW p l e R s m args below meth c Q D A nL cs ss ws lv (pc + 1) (.long z :: st)) : WW p l e R s m args below meth c Q D A nL cs ss ws lv pc (.long y :: .long x :: st) := fun H locs ls hP hD hS hl => lv_ldiv C.1.1 C.1.2.1 hdg (dvL_e hf).1 (k _ (dvL_e hf).2 H locs ls hP hD hS hl)
theorem q_lrem (C : Cx p s m args c cc nL own Ts D TY A) {x y : Int64} {β : Type} {o : β} {f : Int64 → Option β} (hdg : decode cc pc = .ok (.lrem, 1)) (hf : (rmL x y).bind f = some o) (k : ∀ z : Int64, f z = some o → WW p l e R s m args below meth c Q D A nL cs ss ws lv (pc + 1) (.long z :: st)) : WW p l e R s m args below meth c Q D A nL cs ss ws lv pc (.long y :: .long x :: st) := fun H locs ls hP hD hS hl => lv_lrem C.1.1 C.1.2.1 hdg (rmL_e hf).1 (k _ (rmL_e hf).2 H locs ls hP hD hS hl)
theorem q_iconst (C : Cx p s m args c cc nL own Ts D TY A) {n : Int} (v : Int32) (hdg : decode cc pc = .ok (.iconst n, 1)) (hv : Int32.ofInt n = v) (k : WW p l e R s m args below meth c Q D A nL cs ss ws lv (pc + 1) (.int v :: st)) : WW p l e R s m args below meth c Q D A nL cs ss ws lv pc (st) := fun H locs ls hP hD hS hl => lv_iconst C.1.1 C.1.2.1 hdg hv (k H locs ls hP hD hS hl)
theorem q_bipush (C : Cx p s m args c cc nL own Ts D TY A) {n : Int} (v : Int32) (hdg : decode cc pc = .ok (.bipush n, 2)) (hv : (Int8.ofInt n).toInt32 = v) (k : WW p l e R s m args below meth c Q D A nL cs ss ws lv (pc + 2) (.int v :: st)) : WW p l e R s m args below meth c Q D A nL cs ss ws lv pc (st) := fun H locs ls hP hD hS hl => lv_bipush C.1.1 C.1.2.1 hdg hv (k H locs ls hP hD hS hl)
theorem q_sipush (C : Cx p s m args c cc nL own Ts D TY A) {n : Int} (v : Int32) (hdg : decode cc pc = .ok (.sipush n, 3)) (hv : (Int16.ofInt n).toInt32 = v) (k : WW p l e R s m args below meth c Q D A nL cs ss ws lv (pc + 3) (.int v :: st)) : WW p l e R s m args below meth c Q D A nL cs ss ws lv pc (st) := fun H locs ls hP hD hS hl => lv_sipush C.1.1 C.1.2.1 hdg hv (k H locs ls hP hD hS hl)
theorem q_lconst (C : Cx p s m args c cc nL own Ts D TY A) {n : Fin 2} (v : Int64) (hdg : decode cc pc = .ok (.lconst n, 1)) (hv : Int64.ofNat (n : Nat) = v) (k : WW p l e R s m args below meth c Q D A nL cs ss ws lv (pc + 1) (.long v :: st)) : WW p l e R s m args below meth c Q D A nL cs ss ws lv pc (st) := fun H locs ls hP hD hS hl => lv_lconst C.1.1 C.1.2.1 hdg hv (k H locs ls hP hD hS hl)
theorem q_ldc (C : Cx p s m args c cc nL own Ts D TY A) {i : Nat} {v : Int32} (hdg : decode cc pc = .ok (.ldc i, 2)) (hc : Cond.constant own i v ∈ Ts) (k : WW p l e R s m args below meth c Q D A nL cs ss ws lv (pc + 2) (.int v :: st)) : WW p l e R s m args below meth c Q D A nL cs ss ws lv pc (st) := fun H locs ls hP hD hS hl => lv_ldc C.1.1 C.1.2.1 C.1.2.2.2.1 (C.1.2.2.2.2 _ hc) hdg (k H locs ls hP hD hS hl)
theorem q_ldc2 (C : Cx p s m args c cc nL own Ts D TY A) {i : Nat} {v : Int64} (hdg : decode cc pc = .ok (.ldc2_w i, 3)) (hc : Cond.constantLong own i v ∈ Ts) (k : WW p l e R s m args below meth c Q D A nL cs ss ws lv (pc + 3) (.long v :: st)) : WW p l e R s m args below meth c Q D A nL cs ss ws lv pc (st) := fun H locs ls hP hD hS hl => lv_ldc2 C.1.1 C.1.2.1 C.1.2.2.2.1 (C.1.2.2.2.2 _ hc) hdg (k H locs ls hP hD hS hl)
theorem q_iload_n (C : Cx p s m args c cc nL own Ts D TY A) {i : Fin 4} {x : Int32} (j : Nat) (hdg : decode cc pc = .ok (.iload_n i, 1)) (hj : lv[j]? = some ((i : Nat), .int x)) (k : WW p l e R s m args below meth c Q D A nL cs ss ws lv (pc + 1) (.int x :: st)) : WW p l e R s m args below meth c Q D A nL cs ss ws lv pc (st) := fun H locs ls hP hD hS hl => lv_iload_n C.1.1 C.1.2.1 hdg rfl (lv_at hl j hj) (k H locs ls hP hD hS hl)
theorem q_iload (C : Cx p s m args c cc nL own Ts D TY A) {i : Nat} {x : Int32} (j : Nat) (hdg : decode cc pc = .ok (.iload i, 2)) (hj : lv[j]? = some (i, .int x)) (k : WW p l e R s m args below meth c Q D A nL cs ss ws lv (pc + 2) (.int x :: st)) : WW p l e R s m args below meth c Q D A nL cs ss ws lv pc (st) := fun H locs ls hP hD hS hl => lv_iload C.1.1 C.1.2.1 hdg (lv_at hl j hj) (k H locs ls hP hD hS hl)
theorem q_istore_n (C : Cx p s m args c cc nL own Ts D TY A) {i : Fin 4} {x : Int32} (lv1 : List (Nat × Value)) (hdg : decode cc pc = .ok (.istore_n i, 1)) (hn : (i : Nat) < nL) (hv : ((i : Nat), Value.int x) :: lv.filter (fun q => !(q.1 == (i : Nat)) && !(q.1 + 1 == (i : Nat) && q.2.category == 2)) = lv1) (k : WW p l e R s m args below meth c Q D A nL cs ss ws lv1 (pc + 1) st) : WW p l e R s m args below meth c Q D A nL cs ss ws lv pc (.int x :: st) := fun H locs ls hP hD hS hl => lv_istore_n C.1.1 C.1.2.1 hdg rfl hl hn hv (fun ls hl => (k H locs ls hP hD hS hl))
theorem q_istore (C : Cx p s m args c cc nL own Ts D TY A) {i : Nat} {x : Int32} (lv1 : List (Nat × Value)) (hdg : decode cc pc = .ok (.istore i, 2)) (hn : i < nL) (hv : (i, Value.int x) :: lv.filter (fun q => !(q.1 == i) && !(q.1 + 1 == i && q.2.category == 2)) = lv1) (k : WW p l e R s m args below meth c Q D A nL cs ss ws lv1 (pc + 2) st) : WW p l e R s m args below meth c Q D A nL cs ss ws lv pc (.int x :: st) := fun H locs ls hP hD hS hl => lv_istore C.1.1 C.1.2.1 hdg hl hn hv (fun ls hl => (k H locs ls hP hD hS hl))
theorem q_lload_n (C : Cx p s m args c cc nL own Ts D TY A) {i : Fin 4} {x : Int64} (j : Nat) (hdg : decode cc pc = .ok (.lload_n i, 1)) (hj : lv[j]? = some ((i : Nat), .long x)) (k : WW p l e R s m args below meth c Q D A nL cs ss ws lv (pc + 1) (.long x :: st)) : WW p l e R s m args below meth c Q D A nL cs ss ws lv pc (st) := fun H locs ls hP hD hS hl => lv_lload_n C.1.1 C.1.2.1 hdg rfl (lv_at hl j hj) (k H locs ls hP hD hS hl)
theorem q_lload (C : Cx p s m args c cc nL own Ts D TY A) {i : Nat} {x : Int64} (j : Nat) (hdg : decode cc pc = .ok (.lload i, 2)) (hj : lv[j]? = some (i, .long x)) (k : WW p l e R s m args below meth c Q D A nL cs ss ws lv (pc + 2) (.long x :: st)) : WW p l e R s m args below meth c Q D A nL cs ss ws lv pc (st) := fun H locs ls hP hD hS hl => lv_lload C.1.1 C.1.2.1 hdg (lv_at hl j hj) (k H locs ls hP hD hS hl)
theorem q_lstore_n (C : Cx p s m args c cc nL own Ts D TY A) {i : Fin 4} {x : Int64} (lv1 : List (Nat × Value)) (hdg : decode cc pc = .ok (.lstore_n i, 1)) (hn : (i : Nat) + 1 < nL) (hv : ((i : Nat), Value.long x) :: lv.filter (fun q => !(q.1 == (i : Nat)) && (!(q.1 == (i : Nat) + 1) && !(q.1 + 1 == (i : Nat) && q.2.category == 2))) = lv1) (k : WW p l e R s m args below meth c Q D A nL cs ss ws lv1 (pc + 1) st) : WW p l e R s m args below meth c Q D A nL cs ss ws lv pc (.long x :: st) := fun H locs ls hP hD hS hl => lv_lstore_n C.1.1 C.1.2.1 hdg rfl hl hn hv (fun ls hl => (k H locs ls hP hD hS hl))
theorem q_lstore (C : Cx p s m args c cc nL own Ts D TY A) {i : Nat} {x : Int64} (lv1 : List (Nat × Value)) (hdg : decode cc pc = .ok (.lstore i, 2)) (hn : i + 1 < nL) (hv : (i, Value.long x) :: lv.filter (fun q => !(q.1 == i) && (!(q.1 == i + 1) && !(q.1 + 1 == i && q.2.category == 2))) = lv1) (k : WW p l e R s m args below meth c Q D A nL cs ss ws lv1 (pc + 2) st) : WW p l e R s m args below meth c Q D A nL cs ss ws lv pc (.long x :: st) := fun H locs ls hP hD hS hl => lv_lstore C.1.1 C.1.2.1 hdg hl hn hv (fun ls hl => (k H locs ls hP hD hS hl))
theorem q_aload_n (C : Cx p s m args c cc nL own Ts D TY A) {i : Fin 4} {x : Nat} (j : Nat) (hdg : decode cc pc = .ok (.aload_n i, 1)) (hj : lv[j]? = some ((i : Nat), .ref x)) (k : WW p l e R s m args below meth c Q D A nL cs ss ws lv (pc + 1) (.ref x :: st)) : WW p l e R s m args below meth c Q D A nL cs ss ws lv pc (st) := fun H locs ls hP hD hS hl => lv_aload_n C.1.1 C.1.2.1 hdg rfl (lv_at hl j hj) (k H locs ls hP hD hS hl)
theorem q_aload (C : Cx p s m args c cc nL own Ts D TY A) {i : Nat} {x : Nat} (j : Nat) (hdg : decode cc pc = .ok (.aload i, 2)) (hj : lv[j]? = some (i, .ref x)) (k : WW p l e R s m args below meth c Q D A nL cs ss ws lv (pc + 2) (.ref x :: st)) : WW p l e R s m args below meth c Q D A nL cs ss ws lv pc (st) := fun H locs ls hP hD hS hl => lv_aload C.1.1 C.1.2.1 hdg (lv_at hl j hj) (k H locs ls hP hD hS hl)
theorem q_astore_n (C : Cx p s m args c cc nL own Ts D TY A) {i : Fin 4} {x : Nat} (lv1 : List (Nat × Value)) (hdg : decode cc pc = .ok (.astore_n i, 1)) (hn : (i : Nat) < nL) (hv : ((i : Nat), Value.ref x) :: lv.filter (fun q => !(q.1 == (i : Nat)) && !(q.1 + 1 == (i : Nat) && q.2.category == 2)) = lv1) (k : WW p l e R s m args below meth c Q D A nL cs ss ws lv1 (pc + 1) st) : WW p l e R s m args below meth c Q D A nL cs ss ws lv pc (.ref x :: st) := fun H locs ls hP hD hS hl => lv_astore_n C.1.1 C.1.2.1 hdg rfl hl hn hv (fun ls hl => (k H locs ls hP hD hS hl))
theorem q_astore (C : Cx p s m args c cc nL own Ts D TY A) {i : Nat} {x : Nat} (lv1 : List (Nat × Value)) (hdg : decode cc pc = .ok (.astore i, 2)) (hn : i < nL) (hv : (i, Value.ref x) :: lv.filter (fun q => !(q.1 == i) && !(q.1 + 1 == i && q.2.category == 2)) = lv1) (k : WW p l e R s m args below meth c Q D A nL cs ss ws lv1 (pc + 2) st) : WW p l e R s m args below meth c Q D A nL cs ss ws lv pc (.ref x :: st) := fun H locs ls hP hD hS hl => lv_astore C.1.1 C.1.2.1 hdg hl hn hv (fun ls hl => (k H locs ls hP hD hS hl))
theorem q_iinc (C : Cx p s m args c cc nL own Ts D TY A) {i : Nat} {n : Int} {x : Int32} (v : Int32) (j : Nat) (lv1 : List (Nat × Value)) (hdg : decode cc pc = .ok (.iinc i n, 3)) (hj : lv[j]? = some (i, .int x)) (hx : x + Int32.ofInt n = v) (hn : i < nL) (hv : (i, Value.int v) :: lv.filter (fun q => !(q.1 == i) && !(q.1 + 1 == i && q.2.category == 2)) = lv1) (k : WW p l e R s m args below meth c Q D A nL cs ss ws lv1 (pc + 3) st) : WW p l e R s m args below meth c Q D A nL cs ss ws lv pc st := fun H locs ls hP hD hS hl => lv_iinc C.1.1 C.1.2.1 hdg hl hj hx hn hv (fun ls hl => (k H locs ls hP hD hS hl))
theorem q_dup (C : Cx p s m args c cc nL own Ts D TY A) {v : Value} (hdg : decode cc pc = .ok (.dup, 1)) (hv : v.category = 1) (k : WW p l e R s m args below meth c Q D A nL cs ss ws lv (pc + 1) (v :: v :: st)) : WW p l e R s m args below meth c Q D A nL cs ss ws lv pc (v :: st) := fun H locs ls hP hD hS hl => lv_dup C.1.1 C.1.2.1 hdg hv (k H locs ls hP hD hS hl)
theorem q_dup_x1 (C : Cx p s m args c cc nL own Ts D TY A) {v w : Value} (hdg : decode cc pc = .ok (.dup_x1, 1)) (hv : v.category = 1) (hw : w.category = 1) (k : WW p l e R s m args below meth c Q D A nL cs ss ws lv (pc + 1) (v :: w :: v :: st)) : WW p l e R s m args below meth c Q D A nL cs ss ws lv pc (v :: w :: st) := fun H locs ls hP hD hS hl => lv_dup_x1 C.1.1 C.1.2.1 hdg hv hw (k H locs ls hP hD hS hl)
theorem q_dup2 (C : Cx p s m args c cc nL own Ts D TY A) {v w : Value} (hdg : decode cc pc = .ok (.dup2, 1)) (hv : v.category = 1) (hw : w.category = 1) (k : WW p l e R s m args below meth c Q D A nL cs ss ws lv (pc + 1) (v :: w :: v :: w :: st)) : WW p l e R s m args below meth c Q D A nL cs ss ws lv pc (v :: w :: st) := fun H locs ls hP hD hS hl => lv_dup2_11 C.1.1 C.1.2.1 hdg hv hw (k H locs ls hP hD hS hl)
theorem q_pop (C : Cx p s m args c cc nL own Ts D TY A) {v : Value} (hdg : decode cc pc = .ok (.pop, 1)) (hv : v.category = 1) (k : WW p l e R s m args below meth c Q D A nL cs ss ws lv (pc + 1) (st)) : WW p l e R s m args below meth c Q D A nL cs ss ws lv pc (v :: st) := fun H locs ls hP hD hS hl => lv_pop C.1.1 C.1.2.1 hdg hv (k H locs ls hP hD hS hl)
theorem q_goto (C : Cx p s m args c cc nL own Ts D TY A) {off : Int} (tgt : Nat) (hdg : decode cc pc = .ok (.goto off, 3)) (ht : (pc : Int) + off = (tgt : Int)) (k : WW p l e R s m args below meth c Q D A nL cs ss ws lv tgt st) : WW p l e R s m args below meth c Q D A nL cs ss ws lv pc st := fun H locs ls hP hD hS hl => lv_goto C.1.1 C.1.2.1 hdg ht (k H locs ls hP hD hS hl)
theorem q_if_eq (C : Cx p s m args c cc nL own Ts D TY A) {x : Int32} {off : Int} (tgt : Nat) {β : Type} {o : β} {a b : Option β} (hdg : decode cc pc = .ok (.ifCond .eq off, 3)) (ht : (pc : Int) + off = (tgt : Int)) (hf : (if x = 0 then a else b) = some o) (kt : a = some o → WW p l e R s m args below meth c Q D A nL cs ss ws lv tgt st) (kf : b = some o → WW p l e R s m args below meth c Q D A nL cs ss ws lv (pc + 3) st) : WW p l e R s m args below meth c Q D A nL cs ss ws lv pc (.int x :: st) := fun H locs ls hP hD hS hl => lv_if_eq C.1.1 C.1.2.1 hdg ht (fun hc => kt (by rw [if_pos hc] at hf; exact hf) H locs ls hP hD hS hl) (fun hc => kf (by rw [if_neg hc] at hf; exact hf) H locs ls hP hD hS hl)
theorem q_icmp_eq (C : Cx p s m args c cc nL own Ts D TY A) {x y : Int32} {off : Int} (tgt : Nat) {β : Type} {o : β} {a b : Option β} (hdg : decode cc pc = .ok (.if_icmp .eq off, 3)) (ht : (pc : Int) + off = (tgt : Int)) (hf : (if x = y then a else b) = some o) (kt : a = some o → WW p l e R s m args below meth c Q D A nL cs ss ws lv tgt st) (kf : b = some o → WW p l e R s m args below meth c Q D A nL cs ss ws lv (pc + 3) st) : WW p l e R s m args below meth c Q D A nL cs ss ws lv pc (.int y :: .int x :: st) := fun H locs ls hP hD hS hl => lv_icmp_eq C.1.1 C.1.2.1 hdg ht (fun hc => kt (by rw [if_pos hc] at hf; exact hf) H locs ls hP hD hS hl) (fun hc => kf (by rw [if_neg hc] at hf; exact hf) H locs ls hP hD hS hl)
theorem q_if_ne (C : Cx p s m args c cc nL own Ts D TY A) {x : Int32} {off : Int} (tgt : Nat) {β : Type} {o : β} {a b : Option β} (hdg : decode cc pc = .ok (.ifCond .ne off, 3)) (ht : (pc : Int) + off = (tgt : Int)) (hf : (if x = 0 then a else b) = some o) (kt : b = some o → WW p l e R s m args below meth c Q D A nL cs ss ws lv tgt st) (kf : a = some o → WW p l e R s m args below meth c Q D A nL cs ss ws lv (pc + 3) st) : WW p l e R s m args below meth c Q D A nL cs ss ws lv pc (.int x :: st) := fun H locs ls hP hD hS hl => lv_if_ne C.1.1 C.1.2.1 hdg ht (fun hc => kt (by rw [if_neg hc] at hf; exact hf) H locs ls hP hD hS hl) (fun hc => kf (by rw [if_pos hc] at hf; exact hf) H locs ls hP hD hS hl)
theorem q_icmp_ne (C : Cx p s m args c cc nL own Ts D TY A) {x y : Int32} {off : Int} (tgt : Nat) {β : Type} {o : β} {a b : Option β} (hdg : decode cc pc = .ok (.if_icmp .ne off, 3)) (ht : (pc : Int) + off = (tgt : Int)) (hf : (if x = y then a else b) = some o) (kt : b = some o → WW p l e R s m args below meth c Q D A nL cs ss ws lv tgt st) (kf : a = some o → WW p l e R s m args below meth c Q D A nL cs ss ws lv (pc + 3) st) : WW p l e R s m args below meth c Q D A nL cs ss ws lv pc (.int y :: .int x :: st) := fun H locs ls hP hD hS hl => lv_icmp_ne C.1.1 C.1.2.1 hdg ht (fun hc => kt (by rw [if_neg hc] at hf; exact hf) H locs ls hP hD hS hl) (fun hc => kf (by rw [if_pos hc] at hf; exact hf) H locs ls hP hD hS hl)
theorem q_if_lt (C : Cx p s m args c cc nL own Ts D TY A) {x : Int32} {off : Int} (tgt : Nat) {β : Type} {o : β} {a b : Option β} (hdg : decode cc pc = .ok (.ifCond .lt off, 3)) (ht : (pc : Int) + off = (tgt : Int)) (hf : (if x < 0 then a else b) = some o) (kt : a = some o → WW p l e R s m args below meth c Q D A nL cs ss ws lv tgt st) (kf : b = some o → WW p l e R s m args below meth c Q D A nL cs ss ws lv (pc + 3) st) : WW p l e R s m args below meth c Q D A nL cs ss ws lv pc (.int x :: st) := fun H locs ls hP hD hS hl => lv_if_lt C.1.1 C.1.2.1 hdg ht (fun hc => kt (by rw [if_pos hc] at hf; exact hf) H locs ls hP hD hS hl) (fun hc => kf (by rw [if_neg hc] at hf; exact hf) H locs ls hP hD hS hl)
theorem q_icmp_lt (C : Cx p s m args c cc nL own Ts D TY A) {x y : Int32} {off : Int} (tgt : Nat) {β : Type} {o : β} {a b : Option β} (hdg : decode cc pc = .ok (.if_icmp .lt off, 3)) (ht : (pc : Int) + off = (tgt : Int)) (hf : (if x < y then a else b) = some o) (kt : a = some o → WW p l e R s m args below meth c Q D A nL cs ss ws lv tgt st) (kf : b = some o → WW p l e R s m args below meth c Q D A nL cs ss ws lv (pc + 3) st) : WW p l e R s m args below meth c Q D A nL cs ss ws lv pc (.int y :: .int x :: st) := fun H locs ls hP hD hS hl => lv_icmp_lt C.1.1 C.1.2.1 hdg ht (fun hc => kt (by rw [if_pos hc] at hf; exact hf) H locs ls hP hD hS hl) (fun hc => kf (by rw [if_neg hc] at hf; exact hf) H locs ls hP hD hS hl)
theorem q_if_ge (C : Cx p s m args c cc nL own Ts D TY A) {x : Int32} {off : Int} (tgt : Nat) {β : Type} {o : β} {a b : Option β} (hdg : decode cc pc = .ok (.ifCond .ge off, 3)) (ht : (pc : Int) + off = (tgt : Int)) (hf : (if 0 ≤ x then a else b) = some o) (kt : a = some o → WW p l e R s m args below meth c Q D A nL cs ss ws lv tgt st) (kf : b = some o → WW p l e R s m args below meth c Q D A nL cs ss ws lv (pc + 3) st) : WW p l e R s m args below meth c Q D A nL cs ss ws lv pc (.int x :: st) := fun H locs ls hP hD hS hl => lv_if_ge C.1.1 C.1.2.1 hdg ht (fun hc => kt (by rw [if_pos hc] at hf; exact hf) H locs ls hP hD hS hl) (fun hc => kf (by rw [if_neg hc] at hf; exact hf) H locs ls hP hD hS hl)
theorem q_icmp_ge (C : Cx p s m args c cc nL own Ts D TY A) {x y : Int32} {off : Int} (tgt : Nat) {β : Type} {o : β} {a b : Option β} (hdg : decode cc pc = .ok (.if_icmp .ge off, 3)) (ht : (pc : Int) + off = (tgt : Int)) (hf : (if y ≤ x then a else b) = some o) (kt : a = some o → WW p l e R s m args below meth c Q D A nL cs ss ws lv tgt st) (kf : b = some o → WW p l e R s m args below meth c Q D A nL cs ss ws lv (pc + 3) st) : WW p l e R s m args below meth c Q D A nL cs ss ws lv pc (.int y :: .int x :: st) := fun H locs ls hP hD hS hl => lv_icmp_ge C.1.1 C.1.2.1 hdg ht (fun hc => kt (by rw [if_pos hc] at hf; exact hf) H locs ls hP hD hS hl) (fun hc => kf (by rw [if_neg hc] at hf; exact hf) H locs ls hP hD hS hl)
theorem q_if_gt (C : Cx p s m args c cc nL own Ts D TY A) {x : Int32} {off : Int} (tgt : Nat) {β : Type} {o : β} {a b : Option β} (hdg : decode cc pc = .ok (.ifCond .gt off, 3)) (ht : (pc : Int) + off = (tgt : Int)) (hf : (if 0 < x then a else b) = some o) (kt : a = some o → WW p l e R s m args below meth c Q D A nL cs ss ws lv tgt st) (kf : b = some o → WW p l e R s m args below meth c Q D A nL cs ss ws lv (pc + 3) st) : WW p l e R s m args below meth c Q D A nL cs ss ws lv pc (.int x :: st) := fun H locs ls hP hD hS hl => lv_if_gt C.1.1 C.1.2.1 hdg ht (fun hc => kt (by rw [if_pos hc] at hf; exact hf) H locs ls hP hD hS hl) (fun hc => kf (by rw [if_neg hc] at hf; exact hf) H locs ls hP hD hS hl)
theorem q_icmp_gt (C : Cx p s m args c cc nL own Ts D TY A) {x y : Int32} {off : Int} (tgt : Nat) {β : Type} {o : β} {a b : Option β} (hdg : decode cc pc = .ok (.if_icmp .gt off, 3)) (ht : (pc : Int) + off = (tgt : Int)) (hf : (if y < x then a else b) = some o) (kt : a = some o → WW p l e R s m args below meth c Q D A nL cs ss ws lv tgt st) (kf : b = some o → WW p l e R s m args below meth c Q D A nL cs ss ws lv (pc + 3) st) : WW p l e R s m args below meth c Q D A nL cs ss ws lv pc (.int y :: .int x :: st) := fun H locs ls hP hD hS hl => lv_icmp_gt C.1.1 C.1.2.1 hdg ht (fun hc => kt (by rw [if_pos hc] at hf; exact hf) H locs ls hP hD hS hl) (fun hc => kf (by rw [if_neg hc] at hf; exact hf) H locs ls hP hD hS hl)
theorem q_if_le (C : Cx p s m args c cc nL own Ts D TY A) {x : Int32} {off : Int} (tgt : Nat) {β : Type} {o : β} {a b : Option β} (hdg : decode cc pc = .ok (.ifCond .le off, 3)) (ht : (pc : Int) + off = (tgt : Int)) (hf : (if x ≤ 0 then a else b) = some o) (kt : a = some o → WW p l e R s m args below meth c Q D A nL cs ss ws lv tgt st) (kf : b = some o → WW p l e R s m args below meth c Q D A nL cs ss ws lv (pc + 3) st) : WW p l e R s m args below meth c Q D A nL cs ss ws lv pc (.int x :: st) := fun H locs ls hP hD hS hl => lv_if_le C.1.1 C.1.2.1 hdg ht (fun hc => kt (by rw [if_pos hc] at hf; exact hf) H locs ls hP hD hS hl) (fun hc => kf (by rw [if_neg hc] at hf; exact hf) H locs ls hP hD hS hl)
theorem q_icmp_le (C : Cx p s m args c cc nL own Ts D TY A) {x y : Int32} {off : Int} (tgt : Nat) {β : Type} {o : β} {a b : Option β} (hdg : decode cc pc = .ok (.if_icmp .le off, 3)) (ht : (pc : Int) + off = (tgt : Int)) (hf : (if x ≤ y then a else b) = some o) (kt : a = some o → WW p l e R s m args below meth c Q D A nL cs ss ws lv tgt st) (kf : b = some o → WW p l e R s m args below meth c Q D A nL cs ss ws lv (pc + 3) st) : WW p l e R s m args below meth c Q D A nL cs ss ws lv pc (.int y :: .int x :: st) := fun H locs ls hP hD hS hl => lv_icmp_le C.1.1 C.1.2.1 hdg ht (fun hc => kt (by rw [if_pos hc] at hf; exact hf) H locs ls hP hD hS hl) (fun hc => kf (by rw [if_neg hc] at hf; exact hf) H locs ls hP hD hS hl)
theorem q_sw (C : Cx p s m args c cc nL own Ts D TY A) {x : Int32} {dflt lo hi : Int} {offs : Array Int} {len : Nat} (K9 off : Int) (k9 : Int32) (tgt : Nat) {β : Type} {o : β} {a b : Option β} (hdg : decode cc pc = .ok (.tableswitch dflt lo hi offs, len)) (hk : k9.toInt = K9) (h1 : ¬ K9 < lo) (h2 : ¬ hi < K9) (ho : offs[(K9 - lo).toNat]? = some off) (ht : (pc : Int) + off = (tgt : Int)) (hf : (if x = k9 then a else b) = some o) (kt : a = some o → WW p l e R s m args below meth c Q D A nL cs ss ws lv tgt st) (kf : ¬ x = k9 → b = some o → WW p l e R s m args below meth c Q D A nL cs ss ws lv pc (.int x :: st)) : WW p l e R s m args below meth c Q D A nL cs ss ws lv pc (.int x :: st) := by
  by_cases hc : x = k9
  · rw [if_pos hc] at hf
    subst hc
    subst hk
    exact fun H locs ls hP hD hS hl => lv_tableIn C.1.1 C.1.2.1 hdg h1 h2 ho ht (kt hf H locs ls hP hD hS hl)
  · rw [if_neg hc] at hf
    exact kf hc hf
theorem q_swD (C : Cx p s m args c cc nL own Ts D TY A) {x : Int32} {dflt lo hi : Int} {offs : Array Int} {len : Nat} (tgt : Nat) (hdg : decode cc pc = .ok (.tableswitch dflt lo hi offs, len)) (h : x.toInt < lo ∨ hi < x.toInt) (ht : (pc : Int) + dflt = (tgt : Int)) (k : WW p l e R s m args below meth c Q D A nL cs ss ws lv tgt st) : WW p l e R s m args below meth c Q D A nL cs ss ws lv pc (.int x :: st) := fun H locs ls hP hD hS hl => lv_tableOut C.1.1 C.1.2.1 hdg h ht (k H locs ls hP hD hS hl)
theorem q_get (C : Cx p s m args c cc nL own Ts D TY A) {ci idx N : Nat} {ref Cn : String} {T : u_T} {b : Nat} {fs : List Value} {v : Value} (q0 kx : Nat) (hdg : decode cc pc = .ok (.getfield idx, 3)) (he : ws[q0]? = some (b, .inr (ci, fs))) (hc : vwCl[ci]? = some (Cn, T, N)) (hk : kx < N) (hin : ∀ w ∈ u_ws Cn T N, w ∈ Ts) (hlk : Cond.fieldLink own idx ref (T kx).2.1 (T kx).2.2.1 ∈ Ts) (href : (T kx).1 = ref) (hv : fs[kx]? = some v) (k : WW p l e R s m args below meth c Q D A nL cs ss ws lv (pc + 3) (v :: st)) : WW p l e R s m args below meth c Q D A nL cs ss ws lv pc (.ref b :: st) := fun H locs ls hP hD hS hl => va_get (D := D) C.1.1 C.1.2.1 C.1.2.2.2.2 hin C.1.2.2.2.1 C.2.1 hP q0 he hc kx hk (C.1.2.2.2.2 _ hlk) (fun _ h9 => by rw [← href]; exact h9) hv hdg (k H locs ls hP hD hS hl)
theorem q_put (C : Cx p s m args c cc nL own Ts D TY A) {ci idx N : Nat} {ref Cn : String} {T : u_T} {b : Nat} {fs : List Value} {v : Value} (q0 kx : Nat) (ws1 : va_W) (hdg : decode cc pc = .ok (.putfield idx, 3)) (he : ws[q0]? = some (b, .inr (ci, fs))) (hc : vwCl[ci]? = some (Cn, T, N)) (hk : kx < N) (hin : ∀ w ∈ u_ws Cn T N, w ∈ Ts) (ty0 : Nat → FieldType) (hty : ∀ k, k < N → parseFieldDescriptor (T k).2.2.1 = some (ty0 k)) (hnm : ∀ a, a < N → ∀ b, b < N → a ≠ b → (T a).2.1 ≠ (T b).2.1) (hlk : Cond.fieldLink own idx ref (T kx).2.1 (T kx).2.2.1 ∈ Ts) (href : (T kx).1 = ref) (hfin : (T kx).2.2.2 = false) (hn : narrow (ty0 kx) v = v) (hfit : fits (ty0 kx) v = true) (hl0 : kx < fs.length) (hw : ws.set q0 (b, .inr (ci, fs.set kx v)) = ws1) (k : WW p l e R s m args below meth c Q D A nL cs ss ws1 lv (pc + 3) st) : WW p l e R s m args below meth c Q D A nL cs ss ws lv pc (v :: .ref b :: st) := fun H locs ls hP hD hS hl => va_put (D := D) C.1.1 C.1.2.1 C.1.2.2.2.2 hin ty0 hty hnm C.1.2.2.2.1 C.2.1 hP hD hS q0 he hc kx hk (C.1.2.2.2.2 _ hlk) (fun _ h9 => by rw [← href]; exact h9) hfin (hty kx hk) hn hfit hl0 hdg (fun H locs hP hD hS => k H locs ls (hw ▸ hP) (hw ▸ hD) hS hl)
theorem q_putF (C : Cx p s m args c cc nL own Ts D TY A) {ci idx N : Nat} {ref Cn : String} {T : u_T} {b : Nat} {fs : List Value} {v : Value} (q0 kx : Nat) (ws1 : va_W) (hin2 : meth.name = "<init>") (hdg : decode cc pc = .ok (.putfield idx, 3)) (he : ws[q0]? = some (b, .inr (ci, fs))) (hc : vwCl[ci]? = some (Cn, T, N)) (hk : kx < N) (hin : ∀ w ∈ u_ws Cn T N, w ∈ Ts) (ty0 : Nat → FieldType) (hty : ∀ k, k < N → parseFieldDescriptor (T k).2.2.1 = some (ty0 k)) (hnm : ∀ a, a < N → ∀ b, b < N → a ≠ b → (T a).2.1 ≠ (T b).2.1) (hlk : Cond.fieldLink own idx ref (T kx).2.1 (T kx).2.2.1 ∈ Ts) (href : (T kx).1 = ref) (hdecl : (T kx).1 = own) (hfin : (T kx).2.2.2 = true) (hn : narrow (ty0 kx) v = v) (hfit : fits (ty0 kx) v = true) (hl0 : kx < fs.length) (hw : ws.set q0 (b, .inr (ci, fs.set kx v)) = ws1) (k : WW p l e R s m args below meth c Q D A nL cs ss ws1 lv (pc + 3) st) : WW p l e R s m args below meth c Q D A nL cs ss ws lv pc (v :: .ref b :: st) := fun H locs ls hP hD hS hl => va_putF (D := D) C.1.1 C.1.2.1 C.1.2.2.2.2 hin ty0 hty hnm C.1.2.2.2.1 C.2.1 hP hD hS q0 he hc kx hk (C.1.2.2.2.2 _ hlk) (fun _ h9 => by rw [← href]; exact h9) hfin hin2 hdecl (hty kx hk) hn hfit hl0 hdg (fun H locs hP hD hS => k H locs ls (hw ▸ hP) (hw ▸ hD) hS hl)
theorem q_iald (C : Cx p s m args c cc nL own Ts D TY A) {b n : Nat} {cA : ClassId} {f : Nat → Int32} {i : Int32} {β : Type} {o : β} {g : Int32 → Option β} (q0 t0 : Nat) (hdg : decode cc pc = .ok (.iaload, 1)) (ha : ws[q0]? = some (b, .inl (cA, n, .inl f))) (ht : TY[t0]? = some (cA, .int)) (hf : (rdI n f i).bind g = some o) (k : ∀ x : Int32, g x = some o → WW p l e R s m args below meth c Q D A nL cs ss ws lv (pc + 1) (.int x :: st)) : WW p l e R s m args below meth c Q D A nL cs ss ws lv pc (.int i :: .ref b :: st) := fun H locs ls hP hD hS hl => va_iald C.1.1 C.1.2.1 C.2.1 hP q0 t0 ha ht (rdI_e hf).1 hdg (k _ (rdI_e hf).2 H locs ls hP hD hS hl)
theorem q_ialdC (C : Cx p s m args c cc nL own Ts D TY A) {b n : Nat} {cA : ClassId} {f : Nat → Int32} {i : Int32} {x : Int32} (q0 t0 : Nat) (hdg : decode cc pc = .ok (.iaload, 1)) (ha : ws[q0]? = some (b, .inl (cA, n, .inl f))) (ht : TY[t0]? = some (cA, .int)) (hin : vp_in i n) (hx : f i.toNatClampNeg = x) (k : WW p l e R s m args below meth c Q D A nL cs ss ws lv (pc + 1) (.int x :: st)) : WW p l e R s m args below meth c Q D A nL cs ss ws lv pc (.int i :: .ref b :: st) := fun H locs ls hP hD hS hl => va_iald C.1.1 C.1.2.1 C.2.1 hP q0 t0 ha ht hin hdg (by rw [hx]; exact (k H locs ls hP hD hS hl))
theorem q_zald (C : Cx p s m args c cc nL own Ts D TY A) {b n : Nat} {cA : ClassId} {f : Nat → Int32} {i : Int32} {β : Type} {o : β} {g : Int32 → Option β} (q0 t0 : Nat) (hdg : decode cc pc = .ok (.baload, 1)) (ha : ws[q0]? = some (b, .inl (cA, n, .inl f))) (ht : TY[t0]? = some (cA, .boolean)) (hf : (rdI n f i).bind g = some o) (k : ∀ x : Int32, g x = some o → WW p l e R s m args below meth c Q D A nL cs ss ws lv (pc + 1) (.int x :: st)) : WW p l e R s m args below meth c Q D A nL cs ss ws lv pc (.int i :: .ref b :: st) := fun H locs ls hP hD hS hl => va_zald C.1.1 C.1.2.1 C.2.1 hP q0 t0 ha ht (rdI_e hf).1 hdg (k _ (rdI_e hf).2 H locs ls hP hD hS hl)
theorem q_zaldC (C : Cx p s m args c cc nL own Ts D TY A) {b n : Nat} {cA : ClassId} {f : Nat → Int32} {i : Int32} {x : Int32} (q0 t0 : Nat) (hdg : decode cc pc = .ok (.baload, 1)) (ha : ws[q0]? = some (b, .inl (cA, n, .inl f))) (ht : TY[t0]? = some (cA, .boolean)) (hin : vp_in i n) (hx : f i.toNatClampNeg = x) (k : WW p l e R s m args below meth c Q D A nL cs ss ws lv (pc + 1) (.int x :: st)) : WW p l e R s m args below meth c Q D A nL cs ss ws lv pc (.int i :: .ref b :: st) := fun H locs ls hP hD hS hl => va_zald C.1.1 C.1.2.1 C.2.1 hP q0 t0 ha ht hin hdg (by rw [hx]; exact (k H locs ls hP hD hS hl))
theorem q_lald (C : Cx p s m args c cc nL own Ts D TY A) {b n : Nat} {cA : ClassId} {f : Nat → Int64} {i : Int32} {β : Type} {o : β} {g : Int64 → Option β} (q0 t0 : Nat) (hdg : decode cc pc = .ok (.laload, 1)) (ha : ws[q0]? = some (b, .inl (cA, n, .inr (.inl f)))) (ht : TY[t0]? = some (cA, .long)) (hf : (rdL n f i).bind g = some o) (k : ∀ x : Int64, g x = some o → WW p l e R s m args below meth c Q D A nL cs ss ws lv (pc + 1) (.long x :: st)) : WW p l e R s m args below meth c Q D A nL cs ss ws lv pc (.int i :: .ref b :: st) := fun H locs ls hP hD hS hl => va_lald C.1.1 C.1.2.1 C.2.1 hP q0 t0 ha ht (rdL_e hf).1 hdg (k _ (rdL_e hf).2 H locs ls hP hD hS hl)
theorem q_laldC (C : Cx p s m args c cc nL own Ts D TY A) {b n : Nat} {cA : ClassId} {f : Nat → Int64} {i : Int32} {x : Int64} (q0 t0 : Nat) (hdg : decode cc pc = .ok (.laload, 1)) (ha : ws[q0]? = some (b, .inl (cA, n, .inr (.inl f)))) (ht : TY[t0]? = some (cA, .long)) (hin : vp_in i n) (hx : f i.toNatClampNeg = x) (k : WW p l e R s m args below meth c Q D A nL cs ss ws lv (pc + 1) (.long x :: st)) : WW p l e R s m args below meth c Q D A nL cs ss ws lv pc (.int i :: .ref b :: st) := fun H locs ls hP hD hS hl => va_lald C.1.1 C.1.2.1 C.2.1 hP q0 t0 ha ht hin hdg (by rw [hx]; exact (k H locs ls hP hD hS hl))
theorem q_iast (C : Cx p s m args c cc nL own Ts D TY A) {b n : Nat} {cA : ClassId} {f : Nat → Int32} {i : Int32} {x : Int32} {β : Type} {o : β} {g : (Nat → Int32) → Option β} (q0 t0 : Nat) (ws1 : (Nat → Int32) → va_W) (hdg : decode cc pc = .ok (.iastore, 1)) (ha : ws[q0]? = some (b, .inl (cA, n, .inl f))) (ht : TY[t0]? = some (cA, .int)) (hw : ∀ h, ws.set q0 (b, .inl (cA, n, .inl h)) = ws1 h) (hf : (wrI n f i x).bind g = some o) (k : ∀ h, g h = some o → WW p l e R s m args below meth c Q D A nL cs ss (ws1 h) lv (pc + 1) st) : WW p l e R s m args below meth c Q D A nL cs ss ws lv pc (.int x :: .int i :: .ref b :: st) := fun H locs ls hP hD hS hl => va_iast C.1.1 C.1.2.1 C.2.1 hP hD hS q0 t0 ha ht (wrI_e hf).1 hdg (fun H locs hP hD hS => k _ (wrI_e hf).2 H locs ls (hw _ ▸ hP) (hw _ ▸ hD) hS hl)
theorem q_iastC (C : Cx p s m args c cc nL own Ts D TY A) {b n : Nat} {cA : ClassId} {f : Nat → Int32} {i : Int32} {x : Int32} (q0 t0 : Nat) (ws1 : va_W) (hdg : decode cc pc = .ok (.iastore, 1)) (ha : ws[q0]? = some (b, .inl (cA, n, .inl f))) (ht : TY[t0]? = some (cA, .int)) (hin : vp_in i n) (hw : ws.set q0 (b, .inl (cA, n, .inl (upd f i.toNatClampNeg x))) = ws1) (k : WW p l e R s m args below meth c Q D A nL cs ss ws1 lv (pc + 1) st) : WW p l e R s m args below meth c Q D A nL cs ss ws lv pc (.int x :: .int i :: .ref b :: st) := fun H locs ls hP hD hS hl => va_iast C.1.1 C.1.2.1 C.2.1 hP hD hS q0 t0 ha ht hin hdg (fun H locs hP hD hS => k H locs ls (hw ▸ hP) (hw ▸ hD) hS hl)
theorem q_zast (C : Cx p s m args c cc nL own Ts D TY A) {b n : Nat} {cA : ClassId} {f : Nat → Int32} {i : Int32} {x : Int32} {β : Type} {o : β} {g : (Nat → Int32) → Option β} (q0 t0 : Nat) (ws1 : (Nat → Int32) → va_W) (hdg : decode cc pc = .ok (.bastore, 1)) (ha : ws[q0]? = some (b, .inl (cA, n, .inl f))) (ht : TY[t0]? = some (cA, .boolean)) (hw : ∀ h, ws.set q0 (b, .inl (cA, n, .inl h)) = ws1 h) (hf : (wrZ n f i x).bind g = some o) (k : ∀ h, g h = some o → WW p l e R s m args below meth c Q D A nL cs ss (ws1 h) lv (pc + 1) st) : WW p l e R s m args below meth c Q D A nL cs ss ws lv pc (.int x :: .int i :: .ref b :: st) := fun H locs ls hP hD hS hl => va_zast C.1.1 C.1.2.1 C.2.1 hP hD hS q0 t0 ha ht (wrZ_e hf).1 hdg (fun H locs hP hD hS => k _ (wrZ_e hf).2 H locs ls (hw _ ▸ hP) (hw _ ▸ hD) hS hl)
theorem q_zastC (C : Cx p s m args c cc nL own Ts D TY A) {b n : Nat} {cA : ClassId} {f : Nat → Int32} {i : Int32} {x : Int32} (q0 t0 : Nat) (ws1 : va_W) (hdg : decode cc pc = .ok (.bastore, 1)) (ha : ws[q0]? = some (b, .inl (cA, n, .inl f))) (ht : TY[t0]? = some (cA, .boolean)) (hin : vp_in i n) (hw : ws.set q0 (b, .inl (cA, n, .inl (upd f i.toNatClampNeg (vp_nar .boolean x)))) = ws1) (k : WW p l e R s m args below meth c Q D A nL cs ss ws1 lv (pc + 1) st) : WW p l e R s m args below meth c Q D A nL cs ss ws lv pc (.int x :: .int i :: .ref b :: st) := fun H locs ls hP hD hS hl => va_zast C.1.1 C.1.2.1 C.2.1 hP hD hS q0 t0 ha ht hin hdg (fun H locs hP hD hS => k H locs ls (hw ▸ hP) (hw ▸ hD) hS hl)
theorem q_last (C : Cx p s m args c cc nL own Ts D TY A) {b n : Nat} {cA : ClassId} {f : Nat → Int64} {i : Int32} {x : Int64} {β : Type} {o : β} {g : (Nat → Int64) → Option β} (q0 t0 : Nat) (ws1 : (Nat → Int64) → va_W) (hdg : decode cc pc = .ok (.lastore, 1)) (ha : ws[q0]? = some (b, .inl (cA, n, .inr (.inl f)))) (ht : TY[t0]? = some (cA, .long)) (hw : ∀ h, ws.set q0 (b, .inl (cA, n, .inr (.inl h))) = ws1 h) (hf : (wrL n f i x).bind g = some o) (k : ∀ h, g h = some o → WW p l e R s m args below meth c Q D A nL cs ss (ws1 h) lv (pc + 1) st) : WW p l e R s m args below meth c Q D A nL cs ss ws lv pc (.long x :: .int i :: .ref b :: st) := fun H locs ls hP hD hS hl => va_last C.1.1 C.1.2.1 C.2.1 hP hD hS q0 t0 ha ht (wrL_e hf).1 hdg (fun H locs hP hD hS => k _ (wrL_e hf).2 H locs ls (hw _ ▸ hP) (hw _ ▸ hD) hS hl)
theorem q_lastC (C : Cx p s m args c cc nL own Ts D TY A) {b n : Nat} {cA : ClassId} {f : Nat → Int64} {i : Int32} {x : Int64} (q0 t0 : Nat) (ws1 : va_W) (hdg : decode cc pc = .ok (.lastore, 1)) (ha : ws[q0]? = some (b, .inl (cA, n, .inr (.inl f)))) (ht : TY[t0]? = some (cA, .long)) (hin : vp_in i n) (hw : ws.set q0 (b, .inl (cA, n, .inr (.inl (vp_updL f i.toNatClampNeg x)))) = ws1) (k : WW p l e R s m args below meth c Q D A nL cs ss ws1 lv (pc + 1) st) : WW p l e R s m args below meth c Q D A nL cs ss ws lv pc (.long x :: .int i :: .ref b :: st) := fun H locs ls hP hD hS hl => va_last C.1.1 C.1.2.1 C.2.1 hP hD hS q0 t0 ha ht hin hdg (fun H locs hP hD hS => k H locs ls (hw ▸ hP) (hw ▸ hD) hS hl)
theorem q_alen (C : Cx p s m args c cc nL own Ts D TY A) {b : Nat} {cA : ClassId} {x : vp_A} {ty : FieldType} (v : Int32) (q0 t0 : Nat) (hdg : decode cc pc = .ok (.arraylength, 1)) (ha : ws[q0]? = some (b, .inl (cA, x))) (ht : TY[t0]? = some (cA, ty)) (hv : Int32.ofNat x.1 = v) (k : WW p l e R s m args below meth c Q D A nL cs ss ws lv (pc + 1) (.int v :: st)) : WW p l e R s m args below meth c Q D A nL cs ss ws lv pc (.ref b :: st) := fun H locs ls hP hD hS hl => va_alen C.1.1 C.1.2.1 C.2.1 hP q0 t0 ha ht hv hdg (k H locs ls hP hD hS hl)
theorem q_aald (C : Cx p s m args c cc nL own Ts D TY A) {b n y : Nat} {cA : ClassId} {Cn : String} {f : Nat → Option Nat} {i : Int32} (q0 t0 : Nat) (hdg : decode cc pc = .ok (.aaload, 1)) (ha : ws[q0]? = some (b, .inl (cA, n, .inr (.inr (.inr (.inr f)))))) (ht : TY[t0]? = some (cA, .object Cn)) (hin : vp_in i n) (hv : f i.toNatClampNeg = some y) (k : WW p l e R s m args below meth c Q D A nL cs ss ws lv (pc + 1) (.ref y :: st)) : WW p l e R s m args below meth c Q D A nL cs ss ws lv pc (.int i :: .ref b :: st) := fun H locs ls hP hD hS hl => va_aldq C.1.1 C.1.2.1 C.2.1 hP q0 t0 ha ht hin hdg (by rw [hv]; exact (k H locs ls hP hD hS hl))
theorem q_lv (lv1 : List (Nat × Value)) (ks : List Nat) (h : lv_pick lv ks = lv1) (k : WW p l e R s m args below meth c Q D A nL cs ss ws lv1 pc st) : WW p l e R s m args below meth c Q D A nL cs ss ws lv pc st := fun H locs ls hP hD hS hl => k H locs ls hP hD hS (lv_sub hl ks h)
theorem q_widen {cs1 ss1 : Nat} (h1 : cs ≤ cs1) (h2 : ss ≤ ss1) (k : WW p l e R s m args below meth c Q D A nL cs1 ss1 ws lv pc st) : WW p l e R s m args below meth c Q D A nL cs ss ws lv pc st := fun H locs ls hP hD hS hl => W.widen h1 h2 (k H locs ls hP hD hS hl)
theorem q_min (C : Cx p s m args c cc nL own Ts D TY A) {idx : Nat} {x y : Int32} (hdg : decode cc pc = .ok (.invokestatic idx, 3)) (h1 : Cond.methodLink own idx Lib.Math.min.name ∈ Ts) (h2 : Cond.static Lib.Math.min.name ∈ Ts) (h3 : Cond.initialized "java/lang/Math" ∈ Ts) (h4 : Cond.code Lib.Math.min.name Lib.Math.min.code 2 (some .int) ∈ Ts) (hfr : 1 ≤ R.frames) (hlo : (st.map fun v => v.category).sum + 13 ≤ R.locals) (hc : cs ≤ R.cells) (hs : ss ≤ R.slots) (k : WW p l e R s m args below meth c Q D A nL cs ss ws lv (pc + 3) (.int (if y < x then y else x) :: st)) : WW p l e R s m args below meth c Q D A nL cs ss ws lv pc (.int y :: .int x :: st) := fun H locs ls hP hD hS hl => va_mmin C.1.1 C.1.2.1 (C.1.2.2.1.trans hl.1.symm) C.1.2.2.2.1 (C.1.2.2.2.2 _ h1) (C.1.2.2.2.2 _ h2) (C.1.2.2.2.2 _ h3) (C.1.2.2.2.2 _ h4) hfr hlo hc hs hdg (k H locs ls hP hD hS hl)
theorem q_copy (C : Cx p s m args c cc nL own Ts D TY A) {idx b0 b1 n0 n1 : Nat} {cA : ClassId} {f g : Nat → Int32} {sp dp n : Int32} (q0 q1 t0 : Nat) (ws1 : va_W) (hdg : decode cc pc = .ok (.invokestatic idx, 3)) (g1 : Cond.methodLink own idx arraycopyName ∈ Ts) (g2 : Cond.native arraycopyName ∈ Ts) (g3 : Cond.static arraycopyName ∈ Ts) (g4 : Cond.initialized "java/lang/System" ∈ Ts) (ha0 : ws[q0]? = some (b0, .inl (cA, n0, .inl f))) (ha1 : ws[q1]? = some (b1, .inl (cA, n1, .inl g))) (ht : TY[t0]? = some (cA, .int)) (h1 : ¬ sp < 0) (h2 : ¬ dp < 0) (h3 : ¬ n < 0) (h4 : sp.toNatClampNeg + n.toNatClampNeg ≤ n0) (h5 : dp.toNatClampNeg + n.toNatClampNeg ≤ n1) (hfr : 1 ≤ R.frames) (hlo : (st.map fun v => v.category).sum + (nativeFrameWords "java/lang/System" "arraycopy" 5 + 11) ≤ R.locals) (hw : ws.set q1 (b1, .inl (cA, n1, .inl (va_cpy f g sp.toNatClampNeg dp.toNatClampNeg n.toNatClampNeg))) = ws1) (k : WW p l e R s m args below meth c Q D A nL cs ss ws1 lv (pc + 3) st) : WW p l e R s m args below meth c Q D A nL cs ss ws lv pc (.int n :: .int dp :: .ref b1 :: .int sp :: .ref b0 :: st) := fun H locs ls hP hD hS hl => va_copyi C.1.1 C.1.2.1 (C.1.2.2.1.trans hl.1.symm) C.1.2.2.2.1 (C.1.2.2.2.2 _ g1) (C.1.2.2.2.2 _ g2) (C.1.2.2.2.2 _ g3) (C.1.2.2.2.2 _ g4) C.2.1 hP hD hS q0 q1 t0 t0 ha0 ha1 ht ht rfl h1 h2 h3 h4 h5 (fun _ _ => rfl) hfr hlo hdg (fun H locs hP hD hS => k H locs ls (hw ▸ hP) (hw ▸ hD) hS hl)
end ROWS
theorem fm_of_map {α β : Type} {g : α → Option β} : ∀ {is : List α} {w : List β}, is.map g = w.map some → is.filterMap g = w
  | [], [], _ => rfl
  | [], b :: w, h => by simp at h
  | i :: is, [], h => by simp at h
  | i :: is, b :: w, h => by
    simp only [List.map_cons, List.cons.injEq] at h
    rw [List.filterMap_cons, h.1, fm_of_map h.2]
theorem map_of_fm {α β : Type} {g : α → Option β} : ∀ {is : List α}, (∀ i ∈ is, (g i).isSome = true) → is.map g = (is.filterMap g).map some
  | [], _ => rfl
  | i :: is, h => by
    obtain ⟨b, hb⟩ := Option.isSome_iff_exists.mp (h i List.mem_cons_self)
    rw [List.map_cons, List.filterMap_cons, hb, List.map_cons, map_of_fm (fun j hj => h j (List.mem_cons_of_mem _ hj))]
def cPre (D : va_G) (TY : List (ClassId × FieldType)) (W : va_W) (sz : Nat) : State → Prop := fun U => U.heap.size = sz ∧ va_P D vwCl W U.heap ∧ va_K D vwCl TY U ∧ va_D (fun _ => True) W ∧ nwOK U
theorem cPre_blind (av : List Value) (D : va_G) (TY : List (ClassId × FieldType)) (W : va_W) (sz : Nat) : FrameBlind (va_Pc av (cPre D TY W sz)) := fun a U g mk q => by
  obtain ⟨q0, q1, qP, qK, qD, qN⟩ := q
  exact ⟨q0, q1, qP, va_K.moved (u := U) (U := U.calling g mk a) (Vm.Alike.refl U.vm) qK, qD, nwOK.same (u := U) (U := U.calling g mk a) rfl qN⟩
/-- the callee's cells among the caller's, and the caller's behind the call -/
def Fr (ws Wc Wc1 ws1 : va_W) : Prop := ∃ isC isR isN : List Nat, isC.map (fun i => ws[i]?) = Wc.map some ∧ (∀ i ∈ isR, (ws[i]?).isSome = true) ∧ va_nd isR = true ∧ (∀ i ∈ isR, i ∉ isC) ∧ isN.map (fun i => (isR.filterMap (fun i => ws[i]?) ++ Wc1)[i]?) = ws1.map some ∧ va_nd isN = true
def FrX (ws Wc Wc1 ws1 : va_W) : Prop := ∀ {D : va_G} {A0 : Nat → Prop} {H H1 : Heap}, va_P D vwCl ws H → va_D A0 ws → (∀ q, H.size ≤ q → A0 q) → va_P D vwCl Wc H ∧ va_D A0 Wc ∧ (∀ q, va_A Wc H.size q → A0 q) ∧ ((∀ q : Nat, q < H.size → ¬ va_A Wc H.size q → H1[q]? = H[q]?) → va_P D vwCl Wc1 H1 → va_D (va_A Wc H.size) Wc1 → va_P D vwCl ws1 H1 ∧ va_D A0 ws1)
theorem nd_of_at {is : List Nat} {ws W : va_W} (h : is.map (fun i => ws[i]?) = W.map some) {A : Nat → Prop} {k : Nat} {q : Nat × va_E} (hD : va_D A ws) (hk : W[k]? = some q) : A q.1 := by
  have h1 : (is.map (fun i => ws[i]?))[k]? = some (some q) := by rw [h, List.getElem?_map, hk]; rfl
  rw [List.getElem?_map] at h1
  cases hi : is[k]? with
  | none => rw [hi] at h1; cases h1
  | some i => rw [hi] at h1; exact hD.2 i q (Option.some.inj h1)
theorem FrX.all {ws ws1 : va_W} : FrX ws ws ws1 ws1 := fun {D A0 H H1} hP hD hA => by
  have hF : ∀ q, va_A ws H.size q → A0 q := fun q h => by
    rcases h with ⟨k, e, h⟩ | h
    · exact hD.2 k _ h
    · exact hA q h
  exact ⟨hP, hD, hF, fun _ hP1 hD1 => ⟨hP1, hD1.weaken (fun _ _ _ h => hF _ h)⟩⟩
theorem FrX.none {ws : va_W} : FrX ws [] [] ws := fun {D A0 H H1} hP hD hA => by
  refine ⟨fun k q h => by simp at h, ⟨fun i j p q h => by simp at h, fun k q h => by simp at h⟩, fun q h => ?_, fun hk _ _ => ⟨hP.kept (fun k q h => hk q.1 (hP k q h).lt (fun h2 => ?_)), hD⟩⟩
  · rcases h with ⟨k, e, h⟩ | h
    · simp at h
    · exact hA q h
  · have hl := (hP k q h).lt
    rcases h2 with ⟨k2, e2, h3⟩ | h3
    · simp at h3
    · omega
theorem FrX.of {ws Wc Wc1 ws1 : va_W} (isC isR isN : List Nat) (hC : isC.map (fun i => ws[i]?) = Wc.map some) (hnC : va_nd isC = true) (hR : ∀ i ∈ isR, (ws[i]?).isSome = true) (hnR : va_nd isR = true) (hdis : ∀ i ∈ isR, i ∉ isC) (hN : isN.map (fun i => (isR.filterMap (fun i => ws[i]?) ++ Wc1)[i]?) = ws1.map some) (hnN : va_nd isN = true) : FrX ws Wc Wc1 ws1 := fun {D A0 H H1} hP hD hA => by
  have hF : ∀ q, va_A Wc H.size q → A0 q := fun q h => by
    rcases h with ⟨k, e, h⟩ | h
    · exact nd_of_at hC hD h
    · exact hA q h
  refine ⟨hP.sub isC (fm_of_map hC), hD.sub isC hnC hC, hF, fun hk hP1 hD1 => ?_⟩
  obtain ⟨h1, h2⟩ := va_join (wr := isR.filterMap (fun i => ws[i]?)) hP hD isC isR hC (map_of_fm hR) hnR hdis hk hF hP1 hD1
  exact ⟨h1.sub isN (fm_of_map hN), h2.sub isN hnN hN⟩
def MetI (l : Launch) (y : MethodName) (ws : List Cond) (rm : Room) (D : va_G) (TY : List (ClassId × FieldType)) (av : List Value) (W W1 : va_W) (r : Int32) : Prop := ∀ sz, Met l y ws rm (va_Pc av (cPre D TY W sz)) (va_Qi (fun x (_ : Unit) => x = r) (fun _ t => va_P D vwCl W1 t.heap ∧ va_D (va_A W sz) W1) (va_A W sz)) 0 0 (va_A W sz)
def MetL (l : Launch) (y : MethodName) (ws : List Cond) (rm : Room) (D : va_G) (TY : List (ClassId × FieldType)) (av : List Value) (W W1 : va_W) (r : Int64) : Prop := ∀ sz, Met l y ws rm (va_Pc av (cPre D TY W sz)) (va_Ql (fun x (_ : Unit) => x = r) (fun _ t => va_P D vwCl W1 t.heap ∧ va_D (va_A W sz) W1) (va_A W sz)) 0 0 (va_A W sz)
def MetV (l : Launch) (y : MethodName) (ws : List Cond) (rm : Room) (D : va_G) (TY : List (ClassId × FieldType)) (av : List Value) (W W1 : va_W)  : Prop := ∀ sz, Met l y ws rm (va_Pc av (cPre D TY W sz)) (va_Qv (fun (_ : Unit) => True) (fun _ t => va_P D vwCl W1 t.heap ∧ va_D (va_A W sz) W1) (va_A W sz)) 0 0 (va_A W sz)
theorem MetI.mk {l : Launch} {y : MethodName} {ws ws9 : List Cond} {rm : Room} {D : va_G} {TY : List (ClassId × FieldType)} {av : List Value} {Wa Wb : va_W} {cc : ByteArray} {maxL : Nat} {own : String} {r : Int32} {ty : FieldType} (lv0 : List (Nat × Value)) (hy : plainName y.cls = true) (hw : ws = Cond.code y cc maxL (some ty) :: ws9) (ho : y.cls = own) (hav : (lg_sl av).length ≤ maxL) (hlv : lv_args 0 av = lv0)
    (body : ∀ p e s m args below meth c A Q, Cx p s m args c cc maxL own ws D TY A → (∀ pc lv, decode cc pc = .ok (.ireturn, 1) → narrow ty (.int r) = .int r → WW p l e rm s m args below meth c Q D A maxL 0 0 Wb lv pc [.int r]) → WW p l e rm s m args below meth c Q D A maxL 0 0 Wa lv0 0 []) : MetI l y ws rm D TY av Wa Wb r := by
  intro sz
  refine Met.ofW (cc := cc) (maxL := maxL) (ret := (some ty)) hy hw ?_
  intro p e s m args below meth c s₁ B hml hv
  obtain ⟨rfl, hsz, hP, hK, hD0, hN⟩ := hv
  have hts := atoms_spec (ws := ws) B.pre
  have hown : s.vm.findClass own = some m.cls := by rw [← ho]; exact findClass_of_methodNamed B.named
  have hlocks := B.notSynchronized
  subst hsz
  have hD := hD0.self (sz := s.heap.size)
  have hl := lv_entry av (n := maxL) hav
  rw [lg_entry_eq]
  rw [hlv] at hl
  generalize (lg_sl av ++ List.replicate (maxL - (lg_sl av).length) Slot.unset).toArray = ls at hl ⊢
  exact body p e s m av.toArray below meth c (va_A Wa s.heap.size) _ ⟨⟨B.exec, B.bytes, hml, hown, hts⟩, hK, fun q h => Or.inr h, hN⟩ (fun pc lv hdg hn H locs ls hP hD hS hl => W.zret B.exec B.bytes B.returns hn (fun t ht hW => ⟨⟨r, (), rfl, rfl, by rw [ht]; exact hP, hD⟩, hS.F ht⟩) hS.2.2 hdg) s.heap [] ls hP hD va_S.rf hl
theorem MetL.mk {l : Launch} {y : MethodName} {ws ws9 : List Cond} {rm : Room} {D : va_G} {TY : List (ClassId × FieldType)} {av : List Value} {Wa Wb : va_W} {cc : ByteArray} {maxL : Nat} {own : String} {r : Int64} (lv0 : List (Nat × Value)) (hy : plainName y.cls = true) (hw : ws = Cond.code y cc maxL (some .long) :: ws9) (ho : y.cls = own) (hav : (lg_sl av).length ≤ maxL) (hlv : lv_args 0 av = lv0)
    (body : ∀ p e s m args below meth c A Q, Cx p s m args c cc maxL own ws D TY A → (∀ pc lv, decode cc pc = .ok (.lreturn, 1) → WW p l e rm s m args below meth c Q D A maxL 0 0 Wb lv pc [.long r]) → WW p l e rm s m args below meth c Q D A maxL 0 0 Wa lv0 0 []) : MetL l y ws rm D TY av Wa Wb r := by
  intro sz
  refine Met.ofW (cc := cc) (maxL := maxL) (ret := (some .long)) hy hw ?_
  intro p e s m args below meth c s₁ B hml hv
  obtain ⟨rfl, hsz, hP, hK, hD0, hN⟩ := hv
  have hts := atoms_spec (ws := ws) B.pre
  have hown : s.vm.findClass own = some m.cls := by rw [← ho]; exact findClass_of_methodNamed B.named
  have hlocks := B.notSynchronized
  subst hsz
  have hD := hD0.self (sz := s.heap.size)
  have hl := lv_entry av (n := maxL) hav
  rw [lg_entry_eq]
  rw [hlv] at hl
  generalize (lg_sl av ++ List.replicate (maxL - (lg_sl av).length) Slot.unset).toArray = ls at hl ⊢
  exact body p e s m av.toArray below meth c (va_A Wa s.heap.size) _ ⟨⟨B.exec, B.bytes, hml, hown, hts⟩, hK, fun q h => Or.inr h, hN⟩ (fun pc lv hdg H locs ls hP hD hS hl => W.lret B.exec B.bytes B.returns (fun t ht hW => ⟨⟨r, (), rfl, rfl, by rw [ht]; exact hP, hD⟩, hS.F ht⟩) hS.2.2 hdg) s.heap [] ls hP hD va_S.rf hl
theorem MetV.mk {l : Launch} {y : MethodName} {ws ws9 : List Cond} {rm : Room} {D : va_G} {TY : List (ClassId × FieldType)} {av : List Value} {Wa Wb : va_W} {cc : ByteArray} {maxL : Nat} {own : String}  (lv0 : List (Nat × Value)) (hy : plainName y.cls = true) (hw : ws = Cond.code y cc maxL none :: ws9) (ho : y.cls = own) (hav : (lg_sl av).length ≤ maxL) (hlv : lv_args 0 av = lv0)
    (body : ∀ p e s m args below meth c A Q, Cx p s m args c cc maxL own ws D TY A → (∀ pc lv, decode cc pc = .ok (.return_, 1) → WW p l e rm s m args below meth c Q D A maxL 0 0 Wb lv pc []) → WW p l e rm s m args below meth c Q D A maxL 0 0 Wa lv0 0 []) : MetV l y ws rm D TY av Wa Wb := by
  intro sz
  refine Met.ofW (cc := cc) (maxL := maxL) (ret := none) hy hw ?_
  intro p e s m args below meth c s₁ B hml hv
  obtain ⟨rfl, hsz, hP, hK, hD0, hN⟩ := hv
  have hts := atoms_spec (ws := ws) B.pre
  have hown : s.vm.findClass own = some m.cls := by rw [← ho]; exact findClass_of_methodNamed B.named
  have hlocks := B.notSynchronized
  subst hsz
  have hD := hD0.self (sz := s.heap.size)
  have hl := lv_entry av (n := maxL) hav
  rw [lg_entry_eq]
  rw [hlv] at hl
  generalize (lg_sl av ++ List.replicate (maxL - (lg_sl av).length) Slot.unset).toArray = ls at hl ⊢
  exact body p e s m av.toArray below meth c (va_A Wa s.heap.size) _ ⟨⟨B.exec, B.bytes, hml, hown, hts⟩, hK, fun q h => Or.inr h, hN⟩ (fun pc lv hdg H locs ls hP hD hS hl => W.vret B.exec B.bytes B.returns (fun t ht hW => ⟨⟨(), rfl, trivial, by rw [ht]; exact hP, hD⟩, hS.F ht⟩) hS.2.2 hdg) s.heap [] ls hP hD va_S.rf hl
section CALLS
variable {p : Program} {l : Launch} {e : Env} {R : Room} {s : State} {m : MethodId} {args : Array Value} {below : List Frame} {meth : Method} {c : Code} {Q : State → Prop} {cc : ByteArray} {nL cs ss : Nat} {own : String} {Ts : List Cond} {D : va_G} {TY : List (ClassId × FieldType)} {A : Nat → Prop} {ws : va_W} {lv : List (Nat × Value)} {pc : Nat} {st : List Value}
theorem cPre_at (C : Cx p s m args c cc nL own Ts D TY A) {Wc : va_W} {H : Heap} {av : List Value} {A1 : Nat → Prop} (hP : va_P D vwCl Wc H) (hD : va_D A1 Wc) : ∀ U : State, U.heap = H → s.WarmedH U.vm → va_Pc av (cPre D TY Wc H.size) av.toArray U := fun U hU hW => ⟨rfl, by rw [hU], by rw [hU]; exact hP, va_K.moved hW.alike C.2.1, hD.weaken (fun _ _ _ _ => trivial), nwOK.warm hW C.2.2.2⟩
theorem q_callVI (C : Cx p s m args c cc nL own Ts D TY A) {y : MethodName} {wsC : List Cond} {rm : Room} {As rest : List Value} {b : Nat} {Cn : String} {T : u_T} {N : Nat} {fs : List Value} {Wc Wc1 : va_W} {r : Int32} {index maxL n : Nat} {bytes : ByteArray} {ret : Option FieldType} (ws1 : va_W) (hM : MetI l y wsC rm D TY (.ref b :: As) Wc Wc1 r) (cw : CallW R s args own Cn index y bytes maxL ret wsC rm 0 0 n) (q0 ci : Nat) (hr0 : ws[q0]? = some (b, .inr (ci, fs))) (hcl : vwCl[ci]? = some (Cn, T, N)) (fr : FrX ws Wc Wc1 ws1) (hst : st = As.reverse ++ .ref b :: rest) (hn : As.length = n) (hW : (rest.map fun v => v.category).sum ≤ 8) (hdg : decode cc pc = .ok (.invokevirtual index, 3)) (hcs : cs ≤ R.cells ∧ ss ≤ R.slots) (k : WW p l e R s m args below meth c Q D A nL cs ss ws1 lv (pc + 3) (.int r :: rest)) : WW p l e R s m args below meth c Q D A nL cs ss ws lv pc st := by
  intro H locs ls hP hD hS hl
  subst hst
  obtain ⟨g1, g2, g3, -⟩ := fr (H1 := H) hP hD (fun q hq => C.2.2.1 q (Nat.le_trans hS.1 hq))
  refine va_calli (va_runV (As := As) (rest := rest) C.1 (hM H.size) cw ⟨cPre_blind _ _ _ _ _, va_recv C.2.1 hP hcl hr0, cPre_at C g1 g2⟩ rfl hn hl.1 rfl (lv_room hW) hdg hcs) hS (fun q _ h => g3 q h) g3 (fun r2 u t H1 locs1 ht hvm hw hB hz1 hk1 hS1 => ?_)
  · subst hw
    obtain ⟨hP1, hD1⟩ := hB
    rw [ht] at hP1
    obtain ⟨-, -, -, g4⟩ := fr (H1 := H1) hP hD (fun q hq => C.2.2.1 q (Nat.le_trans hS.1 hq))
    obtain ⟨hP2, hD2⟩ := g4 hk1 hP1 hD1
    exact k H1 locs1 ls hP2 hD2 hS1 hl
theorem q_callSI (C : Cx p s m args c cc nL own Ts D TY A) {y : MethodName} {wsC : List Cond} {rm : Room} {As rest : List Value} {Wc Wc1 : va_W} {r : Int32} {index maxL n : Nat} {bytes : ByteArray} {ret : Option FieldType} (ws1 : va_W) (hM : MetI l y wsC rm D TY As Wc Wc1 r) (cw : CallB R s args own index y bytes maxL ret wsC rm 0 0 n ∧ (Cond.static y).before args s = true) (fr : FrX ws Wc Wc1 ws1) (hst : st = As.reverse ++ rest) (hn : As.length = n) (hW : (rest.map fun v => v.category).sum ≤ 8) (hdg : decode cc pc = .ok (.invokestatic index, 3)) (hcs : cs ≤ R.cells ∧ ss ≤ R.slots) (k : WW p l e R s m args below meth c Q D A nL cs ss ws1 lv (pc + 3) (.int r :: rest)) : WW p l e R s m args below meth c Q D A nL cs ss ws lv pc st := by
  intro H locs ls hP hD hS hl
  subst hst
  obtain ⟨g1, g2, g3, -⟩ := fr (H1 := H) hP hD (fun q hq => C.2.2.1 q (Nat.le_trans hS.1 hq))
  refine va_calli (va_runS (As := As) (rest := rest) C.1 (hM H.size) cw ⟨cPre_blind _ _ _ _ _, cPre_at C g1 g2⟩ rfl hn hl.1 rfl (lv_room hW) hdg hcs) hS (fun q _ h => g3 q h) g3 (fun r2 u t H1 locs1 ht hvm hw hB hz1 hk1 hS1 => ?_)
  · subst hw
    obtain ⟨hP1, hD1⟩ := hB
    rw [ht] at hP1
    obtain ⟨-, -, -, g4⟩ := fr (H1 := H1) hP hD (fun q hq => C.2.2.1 q (Nat.le_trans hS.1 hq))
    obtain ⟨hP2, hD2⟩ := g4 hk1 hP1 hD1
    exact k H1 locs1 ls hP2 hD2 hS1 hl
theorem q_callVNI (C : Cx p s m args c cc nL own Ts D TY A) {host : String} {y : MethodName} {wsC : List Cond} {rm : Room} {As rest : List Value} {b : Nat} {Cn : String} {T : u_T} {N : Nat} {fs : List Value} {Wc Wc1 : va_W} {r : Int32} {index maxL n : Nat} {bytes : ByteArray} {ret : Option FieldType} (ws1 : va_W) (hM : MetI l y wsC rm D TY (.ref b :: As) Wc Wc1 r) (cw : va_CN R s args own index y host bytes maxL ret wsC rm 0 0 n ∧ (Cond.instanceMethod y).before args s = true ∧ (Cond.selects Cn y y).before args s = true) (q0 ci : Nat) (hr0 : ws[q0]? = some (b, .inr (ci, fs))) (hcl : vwCl[ci]? = some (Cn, T, N)) (fr : FrX ws Wc Wc1 ws1) (hst : st = As.reverse ++ .ref b :: rest) (hn : As.length = n) (hW : (rest.map fun v => v.category).sum ≤ 8) (hdg : decode cc pc = .ok (.invokevirtual index, 3)) (hcs : cs ≤ R.cells ∧ ss ≤ R.slots) (k : WW p l e R s m args below meth c Q D A nL cs ss ws1 lv (pc + 3) (.int r :: rest)) : WW p l e R s m args below meth c Q D A nL cs ss ws lv pc st := by
  intro H locs ls hP hD hS hl
  subst hst
  obtain ⟨g1, g2, g3, -⟩ := fr (H1 := H) hP hD (fun q hq => C.2.2.1 q (Nat.le_trans hS.1 hq))
  refine va_calli (va_runVN (As := As) (rest := rest) C.1 (hM H.size) cw ⟨cPre_blind _ _ _ _ _, va_recv C.2.1 hP hcl hr0, cPre_at C g1 g2⟩ rfl hn hl.1 rfl (lv_room hW) hdg hcs) hS (fun q _ h => g3 q h) g3 (fun r2 u t H1 locs1 ht hvm hw hB hz1 hk1 hS1 => ?_)
  · subst hw
    obtain ⟨hP1, hD1⟩ := hB
    rw [ht] at hP1
    obtain ⟨-, -, -, g4⟩ := fr (H1 := H1) hP hD (fun q hq => C.2.2.1 q (Nat.le_trans hS.1 hq))
    obtain ⟨hP2, hD2⟩ := g4 hk1 hP1 hD1
    exact k H1 locs1 ls hP2 hD2 hS1 hl
theorem q_callSNI (C : Cx p s m args c cc nL own Ts D TY A) {host : String} {y : MethodName} {wsC : List Cond} {rm : Room} {As rest : List Value} {Wc Wc1 : va_W} {r : Int32} {index maxL n : Nat} {bytes : ByteArray} {ret : Option FieldType} (ws1 : va_W) (hM : MetI l y wsC rm D TY As Wc Wc1 r) (cw : va_CN R s args own index y host bytes maxL ret wsC rm 0 0 n ∧ (Cond.static y).before args s = true ∧ True) (fr : FrX ws Wc Wc1 ws1) (hst : st = As.reverse ++ rest) (hn : As.length = n) (hW : (rest.map fun v => v.category).sum ≤ 8) (hdg : decode cc pc = .ok (.invokestatic index, 3)) (hcs : cs ≤ R.cells ∧ ss ≤ R.slots) (k : WW p l e R s m args below meth c Q D A nL cs ss ws1 lv (pc + 3) (.int r :: rest)) : WW p l e R s m args below meth c Q D A nL cs ss ws lv pc st := by
  intro H locs ls hP hD hS hl
  subst hst
  obtain ⟨g1, g2, g3, -⟩ := fr (H1 := H) hP hD (fun q hq => C.2.2.1 q (Nat.le_trans hS.1 hq))
  refine va_calli (va_runSN (As := As) (rest := rest) C.1 (hM H.size) cw ⟨cPre_blind _ _ _ _ _, cPre_at C g1 g2⟩ rfl hn hl.1 rfl (lv_room hW) hdg hcs) hS (fun q _ h => g3 q h) g3 (fun r2 u t H1 locs1 ht hvm hw hB hz1 hk1 hS1 => ?_)
  · subst hw
    obtain ⟨hP1, hD1⟩ := hB
    rw [ht] at hP1
    obtain ⟨-, -, -, g4⟩ := fr (H1 := H1) hP hD (fun q hq => C.2.2.1 q (Nat.le_trans hS.1 hq))
    obtain ⟨hP2, hD2⟩ := g4 hk1 hP1 hD1
    exact k H1 locs1 ls hP2 hD2 hS1 hl
theorem q_callVL (C : Cx p s m args c cc nL own Ts D TY A) {y : MethodName} {wsC : List Cond} {rm : Room} {As rest : List Value} {b : Nat} {Cn : String} {T : u_T} {N : Nat} {fs : List Value} {Wc Wc1 : va_W} {r : Int64} {index maxL n : Nat} {bytes : ByteArray} {ret : Option FieldType} (ws1 : va_W) (hM : MetL l y wsC rm D TY (.ref b :: As) Wc Wc1 r) (cw : CallW R s args own Cn index y bytes maxL ret wsC rm 0 0 n) (q0 ci : Nat) (hr0 : ws[q0]? = some (b, .inr (ci, fs))) (hcl : vwCl[ci]? = some (Cn, T, N)) (fr : FrX ws Wc Wc1 ws1) (hst : st = As.reverse ++ .ref b :: rest) (hn : As.length = n) (hW : (rest.map fun v => v.category).sum ≤ 8) (hdg : decode cc pc = .ok (.invokevirtual index, 3)) (hcs : cs ≤ R.cells ∧ ss ≤ R.slots) (k : WW p l e R s m args below meth c Q D A nL cs ss ws1 lv (pc + 3) (.long r :: rest)) : WW p l e R s m args below meth c Q D A nL cs ss ws lv pc st := by
  intro H locs ls hP hD hS hl
  subst hst
  obtain ⟨g1, g2, g3, -⟩ := fr (H1 := H) hP hD (fun q hq => C.2.2.1 q (Nat.le_trans hS.1 hq))
  refine va_calll (va_runV (As := As) (rest := rest) C.1 (hM H.size) cw ⟨cPre_blind _ _ _ _ _, va_recv C.2.1 hP hcl hr0, cPre_at C g1 g2⟩ rfl hn hl.1 rfl (lv_room hW) hdg hcs) hS (fun q _ h => g3 q h) g3 (fun r2 u t H1 locs1 ht hvm hw hB hz1 hk1 hS1 => ?_)
  · subst hw
    obtain ⟨hP1, hD1⟩ := hB
    rw [ht] at hP1
    obtain ⟨-, -, -, g4⟩ := fr (H1 := H1) hP hD (fun q hq => C.2.2.1 q (Nat.le_trans hS.1 hq))
    obtain ⟨hP2, hD2⟩ := g4 hk1 hP1 hD1
    exact k H1 locs1 ls hP2 hD2 hS1 hl
theorem q_callSL (C : Cx p s m args c cc nL own Ts D TY A) {y : MethodName} {wsC : List Cond} {rm : Room} {As rest : List Value} {Wc Wc1 : va_W} {r : Int64} {index maxL n : Nat} {bytes : ByteArray} {ret : Option FieldType} (ws1 : va_W) (hM : MetL l y wsC rm D TY As Wc Wc1 r) (cw : CallB R s args own index y bytes maxL ret wsC rm 0 0 n ∧ (Cond.static y).before args s = true) (fr : FrX ws Wc Wc1 ws1) (hst : st = As.reverse ++ rest) (hn : As.length = n) (hW : (rest.map fun v => v.category).sum ≤ 8) (hdg : decode cc pc = .ok (.invokestatic index, 3)) (hcs : cs ≤ R.cells ∧ ss ≤ R.slots) (k : WW p l e R s m args below meth c Q D A nL cs ss ws1 lv (pc + 3) (.long r :: rest)) : WW p l e R s m args below meth c Q D A nL cs ss ws lv pc st := by
  intro H locs ls hP hD hS hl
  subst hst
  obtain ⟨g1, g2, g3, -⟩ := fr (H1 := H) hP hD (fun q hq => C.2.2.1 q (Nat.le_trans hS.1 hq))
  refine va_calll (va_runS (As := As) (rest := rest) C.1 (hM H.size) cw ⟨cPre_blind _ _ _ _ _, cPre_at C g1 g2⟩ rfl hn hl.1 rfl (lv_room hW) hdg hcs) hS (fun q _ h => g3 q h) g3 (fun r2 u t H1 locs1 ht hvm hw hB hz1 hk1 hS1 => ?_)
  · subst hw
    obtain ⟨hP1, hD1⟩ := hB
    rw [ht] at hP1
    obtain ⟨-, -, -, g4⟩ := fr (H1 := H1) hP hD (fun q hq => C.2.2.1 q (Nat.le_trans hS.1 hq))
    obtain ⟨hP2, hD2⟩ := g4 hk1 hP1 hD1
    exact k H1 locs1 ls hP2 hD2 hS1 hl
theorem q_callVNL (C : Cx p s m args c cc nL own Ts D TY A) {host : String} {y : MethodName} {wsC : List Cond} {rm : Room} {As rest : List Value} {b : Nat} {Cn : String} {T : u_T} {N : Nat} {fs : List Value} {Wc Wc1 : va_W} {r : Int64} {index maxL n : Nat} {bytes : ByteArray} {ret : Option FieldType} (ws1 : va_W) (hM : MetL l y wsC rm D TY (.ref b :: As) Wc Wc1 r) (cw : va_CN R s args own index y host bytes maxL ret wsC rm 0 0 n ∧ (Cond.instanceMethod y).before args s = true ∧ (Cond.selects Cn y y).before args s = true) (q0 ci : Nat) (hr0 : ws[q0]? = some (b, .inr (ci, fs))) (hcl : vwCl[ci]? = some (Cn, T, N)) (fr : FrX ws Wc Wc1 ws1) (hst : st = As.reverse ++ .ref b :: rest) (hn : As.length = n) (hW : (rest.map fun v => v.category).sum ≤ 8) (hdg : decode cc pc = .ok (.invokevirtual index, 3)) (hcs : cs ≤ R.cells ∧ ss ≤ R.slots) (k : WW p l e R s m args below meth c Q D A nL cs ss ws1 lv (pc + 3) (.long r :: rest)) : WW p l e R s m args below meth c Q D A nL cs ss ws lv pc st := by
  intro H locs ls hP hD hS hl
  subst hst
  obtain ⟨g1, g2, g3, -⟩ := fr (H1 := H) hP hD (fun q hq => C.2.2.1 q (Nat.le_trans hS.1 hq))
  refine va_calll (va_runVN (As := As) (rest := rest) C.1 (hM H.size) cw ⟨cPre_blind _ _ _ _ _, va_recv C.2.1 hP hcl hr0, cPre_at C g1 g2⟩ rfl hn hl.1 rfl (lv_room hW) hdg hcs) hS (fun q _ h => g3 q h) g3 (fun r2 u t H1 locs1 ht hvm hw hB hz1 hk1 hS1 => ?_)
  · subst hw
    obtain ⟨hP1, hD1⟩ := hB
    rw [ht] at hP1
    obtain ⟨-, -, -, g4⟩ := fr (H1 := H1) hP hD (fun q hq => C.2.2.1 q (Nat.le_trans hS.1 hq))
    obtain ⟨hP2, hD2⟩ := g4 hk1 hP1 hD1
    exact k H1 locs1 ls hP2 hD2 hS1 hl
theorem q_callSNL (C : Cx p s m args c cc nL own Ts D TY A) {host : String} {y : MethodName} {wsC : List Cond} {rm : Room} {As rest : List Value} {Wc Wc1 : va_W} {r : Int64} {index maxL n : Nat} {bytes : ByteArray} {ret : Option FieldType} (ws1 : va_W) (hM : MetL l y wsC rm D TY As Wc Wc1 r) (cw : va_CN R s args own index y host bytes maxL ret wsC rm 0 0 n ∧ (Cond.static y).before args s = true ∧ True) (fr : FrX ws Wc Wc1 ws1) (hst : st = As.reverse ++ rest) (hn : As.length = n) (hW : (rest.map fun v => v.category).sum ≤ 8) (hdg : decode cc pc = .ok (.invokestatic index, 3)) (hcs : cs ≤ R.cells ∧ ss ≤ R.slots) (k : WW p l e R s m args below meth c Q D A nL cs ss ws1 lv (pc + 3) (.long r :: rest)) : WW p l e R s m args below meth c Q D A nL cs ss ws lv pc st := by
  intro H locs ls hP hD hS hl
  subst hst
  obtain ⟨g1, g2, g3, -⟩ := fr (H1 := H) hP hD (fun q hq => C.2.2.1 q (Nat.le_trans hS.1 hq))
  refine va_calll (va_runSN (As := As) (rest := rest) C.1 (hM H.size) cw ⟨cPre_blind _ _ _ _ _, cPre_at C g1 g2⟩ rfl hn hl.1 rfl (lv_room hW) hdg hcs) hS (fun q _ h => g3 q h) g3 (fun r2 u t H1 locs1 ht hvm hw hB hz1 hk1 hS1 => ?_)
  · subst hw
    obtain ⟨hP1, hD1⟩ := hB
    rw [ht] at hP1
    obtain ⟨-, -, -, g4⟩ := fr (H1 := H1) hP hD (fun q hq => C.2.2.1 q (Nat.le_trans hS.1 hq))
    obtain ⟨hP2, hD2⟩ := g4 hk1 hP1 hD1
    exact k H1 locs1 ls hP2 hD2 hS1 hl
theorem q_callVV (C : Cx p s m args c cc nL own Ts D TY A) {y : MethodName} {wsC : List Cond} {rm : Room} {As rest : List Value} {b : Nat} {Cn : String} {T : u_T} {N : Nat} {fs : List Value} {Wc Wc1 : va_W}  {index maxL n : Nat} {bytes : ByteArray} {ret : Option FieldType} (ws1 : va_W) (hM : MetV l y wsC rm D TY (.ref b :: As) Wc Wc1) (cw : CallW R s args own Cn index y bytes maxL ret wsC rm 0 0 n) (q0 ci : Nat) (hr0 : ws[q0]? = some (b, .inr (ci, fs))) (hcl : vwCl[ci]? = some (Cn, T, N)) (fr : FrX ws Wc Wc1 ws1) (hst : st = As.reverse ++ .ref b :: rest) (hn : As.length = n) (hW : (rest.map fun v => v.category).sum ≤ 8) (hdg : decode cc pc = .ok (.invokevirtual index, 3)) (hcs : cs ≤ R.cells ∧ ss ≤ R.slots) (k : WW p l e R s m args below meth c Q D A nL cs ss ws1 lv (pc + 3) (rest)) : WW p l e R s m args below meth c Q D A nL cs ss ws lv pc st := by
  intro H locs ls hP hD hS hl
  subst hst
  obtain ⟨g1, g2, g3, -⟩ := fr (H1 := H) hP hD (fun q hq => C.2.2.1 q (Nat.le_trans hS.1 hq))
  refine va_callv (va_runV (As := As) (rest := rest) C.1 (hM H.size) cw ⟨cPre_blind _ _ _ _ _, va_recv C.2.1 hP hcl hr0, cPre_at C g1 g2⟩ rfl hn hl.1 rfl (lv_room hW) hdg hcs) hS (fun q _ h => g3 q h) g3 (fun u t H1 locs1 ht hvm hw hB hz1 hk1 hS1 => ?_)
  · obtain ⟨hP1, hD1⟩ := hB
    rw [ht] at hP1
    obtain ⟨-, -, -, g4⟩ := fr (H1 := H1) hP hD (fun q hq => C.2.2.1 q (Nat.le_trans hS.1 hq))
    obtain ⟨hP2, hD2⟩ := g4 hk1 hP1 hD1
    exact k H1 locs1 ls hP2 hD2 hS1 hl
theorem q_callSV (C : Cx p s m args c cc nL own Ts D TY A) {y : MethodName} {wsC : List Cond} {rm : Room} {As rest : List Value} {Wc Wc1 : va_W}  {index maxL n : Nat} {bytes : ByteArray} {ret : Option FieldType} (ws1 : va_W) (hM : MetV l y wsC rm D TY As Wc Wc1) (cw : CallB R s args own index y bytes maxL ret wsC rm 0 0 n ∧ (Cond.static y).before args s = true) (fr : FrX ws Wc Wc1 ws1) (hst : st = As.reverse ++ rest) (hn : As.length = n) (hW : (rest.map fun v => v.category).sum ≤ 8) (hdg : decode cc pc = .ok (.invokestatic index, 3)) (hcs : cs ≤ R.cells ∧ ss ≤ R.slots) (k : WW p l e R s m args below meth c Q D A nL cs ss ws1 lv (pc + 3) (rest)) : WW p l e R s m args below meth c Q D A nL cs ss ws lv pc st := by
  intro H locs ls hP hD hS hl
  subst hst
  obtain ⟨g1, g2, g3, -⟩ := fr (H1 := H) hP hD (fun q hq => C.2.2.1 q (Nat.le_trans hS.1 hq))
  refine va_callv (va_runS (As := As) (rest := rest) C.1 (hM H.size) cw ⟨cPre_blind _ _ _ _ _, cPre_at C g1 g2⟩ rfl hn hl.1 rfl (lv_room hW) hdg hcs) hS (fun q _ h => g3 q h) g3 (fun u t H1 locs1 ht hvm hw hB hz1 hk1 hS1 => ?_)
  · obtain ⟨hP1, hD1⟩ := hB
    rw [ht] at hP1
    obtain ⟨-, -, -, g4⟩ := fr (H1 := H1) hP hD (fun q hq => C.2.2.1 q (Nat.le_trans hS.1 hq))
    obtain ⟨hP2, hD2⟩ := g4 hk1 hP1 hD1
    exact k H1 locs1 ls hP2 hD2 hS1 hl
theorem q_callVNV (C : Cx p s m args c cc nL own Ts D TY A) {host : String} {y : MethodName} {wsC : List Cond} {rm : Room} {As rest : List Value} {b : Nat} {Cn : String} {T : u_T} {N : Nat} {fs : List Value} {Wc Wc1 : va_W}  {index maxL n : Nat} {bytes : ByteArray} {ret : Option FieldType} (ws1 : va_W) (hM : MetV l y wsC rm D TY (.ref b :: As) Wc Wc1) (cw : va_CN R s args own index y host bytes maxL ret wsC rm 0 0 n ∧ (Cond.instanceMethod y).before args s = true ∧ (Cond.selects Cn y y).before args s = true) (q0 ci : Nat) (hr0 : ws[q0]? = some (b, .inr (ci, fs))) (hcl : vwCl[ci]? = some (Cn, T, N)) (fr : FrX ws Wc Wc1 ws1) (hst : st = As.reverse ++ .ref b :: rest) (hn : As.length = n) (hW : (rest.map fun v => v.category).sum ≤ 8) (hdg : decode cc pc = .ok (.invokevirtual index, 3)) (hcs : cs ≤ R.cells ∧ ss ≤ R.slots) (k : WW p l e R s m args below meth c Q D A nL cs ss ws1 lv (pc + 3) (rest)) : WW p l e R s m args below meth c Q D A nL cs ss ws lv pc st := by
  intro H locs ls hP hD hS hl
  subst hst
  obtain ⟨g1, g2, g3, -⟩ := fr (H1 := H) hP hD (fun q hq => C.2.2.1 q (Nat.le_trans hS.1 hq))
  refine va_callv (va_runVN (As := As) (rest := rest) C.1 (hM H.size) cw ⟨cPre_blind _ _ _ _ _, va_recv C.2.1 hP hcl hr0, cPre_at C g1 g2⟩ rfl hn hl.1 rfl (lv_room hW) hdg hcs) hS (fun q _ h => g3 q h) g3 (fun u t H1 locs1 ht hvm hw hB hz1 hk1 hS1 => ?_)
  · obtain ⟨hP1, hD1⟩ := hB
    rw [ht] at hP1
    obtain ⟨-, -, -, g4⟩ := fr (H1 := H1) hP hD (fun q hq => C.2.2.1 q (Nat.le_trans hS.1 hq))
    obtain ⟨hP2, hD2⟩ := g4 hk1 hP1 hD1
    exact k H1 locs1 ls hP2 hD2 hS1 hl
theorem q_callSNV (C : Cx p s m args c cc nL own Ts D TY A) {host : String} {y : MethodName} {wsC : List Cond} {rm : Room} {As rest : List Value} {Wc Wc1 : va_W}  {index maxL n : Nat} {bytes : ByteArray} {ret : Option FieldType} (ws1 : va_W) (hM : MetV l y wsC rm D TY As Wc Wc1) (cw : va_CN R s args own index y host bytes maxL ret wsC rm 0 0 n ∧ (Cond.static y).before args s = true ∧ True) (fr : FrX ws Wc Wc1 ws1) (hst : st = As.reverse ++ rest) (hn : As.length = n) (hW : (rest.map fun v => v.category).sum ≤ 8) (hdg : decode cc pc = .ok (.invokestatic index, 3)) (hcs : cs ≤ R.cells ∧ ss ≤ R.slots) (k : WW p l e R s m args below meth c Q D A nL cs ss ws1 lv (pc + 3) (rest)) : WW p l e R s m args below meth c Q D A nL cs ss ws lv pc st := by
  intro H locs ls hP hD hS hl
  subst hst
  obtain ⟨g1, g2, g3, -⟩ := fr (H1 := H) hP hD (fun q hq => C.2.2.1 q (Nat.le_trans hS.1 hq))
  refine va_callv (va_runSN (As := As) (rest := rest) C.1 (hM H.size) cw ⟨cPre_blind _ _ _ _ _, cPre_at C g1 g2⟩ rfl hn hl.1 rfl (lv_room hW) hdg hcs) hS (fun q _ h => g3 q h) g3 (fun u t H1 locs1 ht hvm hw hB hz1 hk1 hS1 => ?_)
  · obtain ⟨hP1, hD1⟩ := hB
    rw [ht] at hP1
    obtain ⟨-, -, -, g4⟩ := fr (H1 := H1) hP hD (fun q hq => C.2.2.1 q (Nat.le_trans hS.1 hq))
    obtain ⟨hP2, hD2⟩ := g4 hk1 hP1 hD1
    exact k H1 locs1 ls hP2 hD2 hS1 hl
end CALLS
end
section
abbrev TYL (cI cJ cZ cN cM : ClassId) : List (ClassId × FieldType) := [(cI, .int), (cJ, .long), (cZ, .boolean), (cN, .object "TwiceHeard$Net"), (cM, .object "TwiceHeard$Image")]
abbrev mW (cI cJ cZ cN cM : ClassId) (a : Nat → Nat) (w : (Nat → Int32)) (kn : Int32) (kp : Int32) (sd : Int32) (ks : (Nat → Int32)) (bo : (Nat → Int32)) (bi : (Nat → Int32)) (bk : Int32) (ri : (Nat → Int32)) (fm : (Nat → Int32)) (tt : (Nat → Int32)) (le : Int32) (wa : (Nat → Int32)) (hd : (Nat → Int64)) (sx : (Nat → Int32)) (b1 : (Nat → Int64)) (b2 : (Nat → Int64)) : va_W := [(a 0, .inr (7, [.ref (a 1), .int kn, .int kp, .int sd, .ref (a 2), .ref (a 3), .ref (a 4), .int bk, .ref (a 5), .ref (a 6), .ref (a 7), .int le, .ref (a 8), .ref (a 9), .ref (a 10), .ref (a 11), .ref (a 12)])), (a 1, .inl (cI, 570, .inl w)), (a 2, .inl (cI, 2, .inl ks)), (a 3, .inl (cI, 20, .inl bo)), (a 4, .inl (cI, 20, .inl bi)), (a 5, .inl (cI, 9, .inl ri)), (a 6, .inl (cI, 40, .inl fm)), (a 7, .inl (cI, 40, .inl tt)), (a 8, .inl (cI, 9, .inl wa)), (a 9, .inl (cJ, 9, .inr (.inl hd))), (a 10, .inl (cI, 6, .inl sx)), (a 11, .inl (cJ, 256, .inr (.inl b1))), (a 12, .inl (cJ, 256, .inr (.inl b2)))]
abbrev nW (cI cJ cZ cN cM : ClassId) (a : Nat → Nat) (sz : Int32) (sa : Int32) (mo : Int32) (li : (Nat → Int32)) (lo : (Nat → Int32)) (he : (Nat → Int32)) : va_W := [(a 0, .inr (3, [.int sz, .int sa, .int mo, .ref (a 1), .ref (a 2), .ref (a 3)])), (a 1, .inl (cI, 9, .inl li)), (a 2, .inl (cI, 9, .inl lo)), (a 3, .inl (cI, 9, .inl he))]
abbrev tW (cI cJ cZ cN cM : ClassId) (a : Nat → Nat) (ri : (Nat → Int32)) (rs : (Nat → Int32)) (gr : Int32) (fm : (Nat → Int32)) (tt : (Nat → Int32)) (co : (Nat → Int32)) (le : Int32) (wa : (Nat → Int32)) (ar : (Nat → Int32)) (hd : (Nat → Int64)) : va_W := [(a 0, .inr (5, [.ref (a 1), .ref (a 2), .int gr, .ref (a 3), .ref (a 4), .ref (a 5), .int le, .ref (a 6), .ref (a 7), .ref (a 8)])), (a 1, .inl (cI, 9, .inl ri)), (a 2, .inl (cI, 9, .inl rs)), (a 3, .inl (cI, 36, .inl fm)), (a 4, .inl (cI, 36, .inl tt)), (a 5, .inl (cZ, 36, .inl co)), (a 6, .inl (cI, 9, .inl wa)), (a 7, .inl (cI, 9, .inl ar)), (a 8, .inl (cJ, 9, .inr (.inl hd)))]
abbrev bW (cI cJ cZ cN cM : ClassId) (a : Nat → Nat) (bn : (Nat → Int32)) (bg : (Nat → Int32)) (bz : Int32) : va_W := [(a 0, .inr (0, [.ref (a 1), .ref (a 2), .int bz])), (a 1, .inl (cI, 20, .inl bn)), (a 2, .inl (cI, 20, .inl bg))]
abbrev dW (cI cJ cZ cN cM : ClassId) (a : Nat → Nat) (sd : Int32) : va_W := [(a 0, .inr (1, [.int sd]))]
abbrev iaW (cI cJ cZ cN cM : ClassId) (a : Nat → Nat) (f : (Nat → Int32)) : va_W := [(a 0, .inl (cI, 9, .inl f))]
abbrev jaW (cI cJ cZ cN cM : ClassId) (a : Nat → Nat) (g : (Nat → Int64)) : va_W := [(a 0, .inl (cJ, 9, .inr (.inl g)))]
theorem q_ldcw {p : Program} {l : Launch} {e : Env} {R : Room} {s : State} {m : MethodId} {args : Array Value} {below : List Frame} {meth : Method} {c : Code} {Q : State → Prop} {cc : ByteArray} {nL cs ss : Nat} {own : String} {Ts : List Cond} {D : va_G} {TY : List (ClassId × FieldType)} {A : Nat → Prop} {ws : va_W} {lv : List (Nat × Value)} {pc : Nat} {st : List Value} (C : Cx p s m args c cc nL own Ts D TY A) {i : Nat} {v : Int32} (hdg : decode cc pc = .ok (.ldc_w i, 3)) (hc : Cond.constant own i v ∈ Ts) (k : WW p l e R s m args below meth c Q D A nL cs ss ws lv (pc + 3) (.int v :: st)) : WW p l e R s m args below meth c Q D A nL cs ss ws lv pc st := fun H locs ls hP hD hS hl => lv_ldcw C.1.1 C.1.2.1 C.1.2.2.2.1 (C.1.2.2.2.2 _ hc) hdg (k H locs ls hP hD hS hl)
end
section
abbrev rmX8_in : Room := { frames := 0, cells := 0, slots := 0, locals := 0 }
theorem hdX8_in : yX8_in.cls ≠ "java/lang/invoke/MethodHandle" ∧ yX8_in.cls ≠ "java/lang/invoke/VarHandle" ∧ (parseMethodDescriptor yX8_in.desc).map (fun d => d.parameters.length) = some 3 := by decide +kernel
def fX8_in  (v0 : Int32) (v1 : Int32) (v2 : Int32) : Option (Int32) :=
  jn0 (
  some (0 : Int32)) fun k14 =>
  if v0 < v1 then (
  k14) else (
  if v2 < v0 then (
  k14) else (
  some (1 : Int32)))
set_option maxRecDepth 100000 in
set_option maxHeartbeats 4000000 in
theorem kX8_in (l : Launch) (D : va_G) (cI cJ cZ cN cM : ClassId)   (v0 : Int32) (v1 : Int32) (v2 : Int32) (r : Int32) (hf : fX8_in v0 v1 v2 = some r) : MetI l yX8_in wsX8_in rmX8_in D (TYL cI cJ cZ cN cM) [.int v0, .int v1, .int v2] ([]) ([]) r := by
  refine MetI.mk (cc := cX8_in) (maxL := 3) (own := RX8) (ty := .boolean) [(0, .int v0), (1, .int v1), (2, .int v2)] (by decide +kernel) rfl rfl (Nat.le_of_ble_eq_true rfl) rfl ?_
  intro p e s m args below meth c A Q C hret
  unfold fX8_in at hf
  refine q_iload_n C 0 dX8_in_0 rfl ?_
  refine q_iload_n C 1 dX8_in_1 rfl ?_
  refine jn0_e (WW p l e rmX8_in s m args below meth c Q D A 3 0 0 ([]) [] 14 []) hf ?_ ?_
  · intro hf
    refine q_iconst C 0 dX8_in_14 (by decide) ?_
    cases hf
    exact hret _ _ dX8_in_15 (by decide)
  intro k14 J14 hf
  refine q_icmp_lt C 14 dX8_in_2 (by decide) hf (fun hf => ?_) (fun hf => ?_)
  · refine q_lv [] [] rfl ?_
    exact J14  hf
  · refine q_iload_n C 0 dX8_in_5 rfl ?_
    refine q_iload_n C 2 dX8_in_6 rfl ?_
    refine q_icmp_gt C 14 dX8_in_7 (by decide) hf (fun hf => ?_) (fun hf => ?_)
    · refine q_lv [] [] rfl ?_
      exact J14  hf
    · refine q_iconst C 1 dX8_in_10 (by decide) ?_
      refine q_goto C 15 dX8_in_11 (by decide) ?_
      cases hf
      exact hret _ _ dX8_in_15 (by decide)

abbrev rmX8_has : Room := { frames := 0, cells := 0, slots := 0, locals := 0 }
theorem hdX8_has : yX8_has.cls ≠ "java/lang/invoke/MethodHandle" ∧ yX8_has.cls ≠ "java/lang/invoke/VarHandle" ∧ (parseMethodDescriptor yX8_has.desc).map (fun d => d.parameters.length) = some 2 := by decide +kernel
def fX8_has  (v0 : Int32) (v1 : Int32) : Option (Int32) :=
  if ((v0 >>> (v1 &&& 31)) &&& (1 : Int32)) = (1 : Int32) then (
  some (1 : Int32)) else (
  some (0 : Int32))
set_option maxRecDepth 100000 in
set_option maxHeartbeats 4000000 in
theorem kX8_has (l : Launch) (D : va_G) (cI cJ cZ cN cM : ClassId)   (v0 : Int32) (v1 : Int32) (r : Int32) (hf : fX8_has v0 v1 = some r) : MetI l yX8_has wsX8_has rmX8_has D (TYL cI cJ cZ cN cM) [.int v0, .int v1] ([]) ([]) r := by
  refine MetI.mk (cc := cX8_has) (maxL := 2) (own := RX8) (ty := .boolean) [(0, .int v0), (1, .int v1)] (by decide +kernel) rfl rfl (Nat.le_of_ble_eq_true rfl) rfl ?_
  intro p e s m args below meth c A Q C hret
  unfold fX8_has at hf
  refine q_iload_n C 0 dX8_has_0 rfl ?_
  refine q_iload_n C 1 dX8_has_1 rfl ?_
  refine q_ishr C dX8_has_2 ?_
  refine q_iconst C 1 dX8_has_3 (by decide) ?_
  refine q_iand C dX8_has_4 ?_
  refine q_iconst C 1 dX8_has_5 (by decide) ?_
  refine q_icmp_ne C 13 dX8_has_6 (by decide) hf (fun hf => ?_) (fun hf => ?_)
  · refine q_iconst C 0 dX8_has_13 (by decide) ?_
    cases hf
    exact hret _ _ dX8_has_14 (by decide)
  · refine q_iconst C 1 dX8_has_9 (by decide) ?_
    refine q_goto C 14 dX8_has_10 (by decide) ?_
    cases hf
    exact hret _ _ dX8_has_14 (by decide)

theorem lkX8_copyRow_1 : Cond.fieldLink RX8 9 "TwiceHeardModel" "w" "[I" ∈ wsX8_copyRow := List.mem_of_getElem? (i := 1) rfl
theorem inX8_copyRow_X8 : ∀ w ∈ wsX80, w ∈ wsX8_copyRow := fun w h => List.mem_cons_of_mem _ (List.mem_append_right _ h)
abbrev rmX8_copyRow : Room := { frames := 0, cells := 0, slots := 0, locals := 0 }
theorem hdX8_copyRow : yX8_copyRow.cls = RX8 ∧ yX8_copyRow.cls ≠ "java/lang/invoke/MethodHandle" ∧ yX8_copyRow.cls ≠ "java/lang/invoke/VarHandle" ∧ (parseMethodDescriptor yX8_copyRow.desc).map (fun d => d.parameters.length) = some 2 := by decide +kernel
def fX8_copyRow_L2 (v1 : Int32) (v2 : Int32) : Nat → Int32 → (Nat → Int32) → Option ((Nat → Int32))
  | 0, _, _ => none
  | n + 1, v3, w =>
  if (30 : Int32) ≤ v3 then (
  some w) else (
  (rdI 570 w (v1 + v3)).bind fun x22 =>
  (wrI 570 w (v2 + v3) x22).bind fun w_23 =>
  fX8_copyRow_L2 v1 v2 n (v3 + 1) w_23)
def fX8_copyRow (w : (Nat → Int32)) (v1 : Int32) (v2 : Int32) : Option ((Nat → Int32)) :=
  (fX8_copyRow_L2 v1 v2 300 (0 : Int32) w).bind fun w_2 =>
  some w_2
set_option maxRecDepth 100000 in
set_option maxHeartbeats 4000000 in
theorem wX8_copyRow_L2 {p : Program} {l : Launch} {e : Env} {s : State} {m : MethodId} {args : Array Value} {below : List Frame} {meth : Method} {c : Code} {Q : State → Prop} {D : va_G} {A : Nat → Prop} {cI cJ cZ cN cM : ClassId} (C : Cx p s m args c cX8_copyRow 4 RX8 wsX8_copyRow D (TYL cI cJ cZ cN cM) A) (a : Nat → Nat) (kn : Int32) (kp : Int32) (sd : Int32) (ks : (Nat → Int32)) (bo : (Nat → Int32)) (bi : (Nat → Int32)) (bk : Int32) (ri : (Nat → Int32)) (fm : (Nat → Int32)) (tt : (Nat → Int32)) (le : Int32) (wa : (Nat → Int32)) (hd : (Nat → Int64)) (sx : (Nat → Int32)) (b1 : (Nat → Int64)) (b2 : (Nat → Int64)) (v1 : Int32) (v2 : Int32) (w_o : (Nat → Int32)) (kk : WW p l e rmX8_copyRow s m args below meth c Q D A 4 0 0 (mW cI cJ cZ cN cM a w_o kn kp sd ks bo bi bk ri fm tt le wa hd sx b1 b2) [] 30 []) : ∀ (n : Nat) (v3 : Int32) (w : (Nat → Int32)), fX8_copyRow_L2 v1 v2 n v3 w = some w_o → WW p l e rmX8_copyRow s m args below meth c Q D A 4 0 0 (mW cI cJ cZ cN cM a w kn kp sd ks bo bi bk ri fm tt le wa hd sx b1 b2) [(0, .ref (a 0)), (1, .int v1), (2, .int v2), (3, .int v3)] 2 [] := by
  intro n
  induction n with
  | zero =>
    intro v3 w hf
    rw [fX8_copyRow_L2] at hf
    cases hf
  | succ n ih =>
    intro v3 w hf
    rw [fX8_copyRow_L2] at hf
    refine q_iload_n C 3 dX8_copyRow_2 rfl ?_
    refine q_bipush C 30 dX8_copyRow_3 (by decide) ?_
    refine q_icmp_ge C 30 dX8_copyRow_5 (by decide) hf (fun hf => ?_) (fun hf => ?_)
    · cases hf
      refine q_lv [] [] rfl ?_
      exact kk
    · refine q_aload_n C 0 dX8_copyRow_8 rfl ?_
      refine q_get C 0 0 dX8_copyRow_9 rfl rfl (Nat.le_of_ble_eq_true rfl) inX8_copyRow_X8 lkX8_copyRow_1 rfl rfl ?_
      refine q_iload_n C 2 dX8_copyRow_12 rfl ?_
      refine q_iload_n C 3 dX8_copyRow_13 rfl ?_
      refine q_iadd C dX8_copyRow_14 ?_
      refine q_aload_n C 0 dX8_copyRow_15 rfl ?_
      refine q_get C 0 0 dX8_copyRow_16 rfl rfl (Nat.le_of_ble_eq_true rfl) inX8_copyRow_X8 lkX8_copyRow_1 rfl rfl ?_
      refine q_iload_n C 1 dX8_copyRow_19 rfl ?_
      refine q_iload_n C 3 dX8_copyRow_20 rfl ?_
      refine q_iadd C dX8_copyRow_21 ?_
      refine q_iald C 1 0 dX8_copyRow_22 rfl rfl hf (fun x22 hf => ?_)
      refine q_iast C 1 0 (fun w_23 => mW cI cJ cZ cN cM a w_23 kn kp sd ks bo bi bk ri fm tt le wa hd sx b1 b2) dX8_copyRow_23 rfl rfl (fun _ => rfl) hf (fun w_23 hf => ?_)
      refine q_iinc C (v3 + 1) 3 [(3, .int (v3 + 1)), (0, .ref (a 0)), (1, .int v1), (2, .int v2)] dX8_copyRow_24 rfl rfl (by decide) rfl ?_
      refine q_goto C 2 dX8_copyRow_27 (by decide) ?_
      refine q_lv [(0, .ref (a 0)), (1, .int v1), (2, .int v2), (3, .int (v3 + 1))] [1, 2, 3, 0] rfl ?_
      exact ih _ _ hf
set_option maxRecDepth 100000 in
set_option maxHeartbeats 4000000 in
theorem kX8_copyRow (l : Launch) (D : va_G) (cI cJ cZ cN cM : ClassId) (a : Nat → Nat) (w : (Nat → Int32)) (kn : Int32) (kp : Int32) (sd : Int32) (ks : (Nat → Int32)) (bo : (Nat → Int32)) (bi : (Nat → Int32)) (bk : Int32) (ri : (Nat → Int32)) (fm : (Nat → Int32)) (tt : (Nat → Int32)) (le : Int32) (wa : (Nat → Int32)) (hd : (Nat → Int64)) (sx : (Nat → Int32)) (b1 : (Nat → Int64)) (b2 : (Nat → Int64)) (v1 : Int32) (v2 : Int32) (w_o : (Nat → Int32)) (hf : fX8_copyRow w v1 v2 = some w_o) : MetV l yX8_copyRow wsX8_copyRow rmX8_copyRow D (TYL cI cJ cZ cN cM) [.ref (a 0), .int v1, .int v2] (mW cI cJ cZ cN cM a w kn kp sd ks bo bi bk ri fm tt le wa hd sx b1 b2) (mW cI cJ cZ cN cM a w_o kn kp sd ks bo bi bk ri fm tt le wa hd sx b1 b2) := by
  refine MetV.mk (cc := cX8_copyRow) (maxL := 4) (own := RX8) [(0, .ref (a 0)), (1, .int v1), (2, .int v2)] (by decide +kernel) rfl rfl (Nat.le_of_ble_eq_true rfl) rfl ?_
  intro p e s m args below meth c A Q C hret
  unfold fX8_copyRow at hf
  refine q_iconst C 0 dX8_copyRow_0 (by decide) ?_
  refine q_istore_n C [(3, .int (0 : Int32)), (0, .ref (a 0)), (1, .int v1), (2, .int v2)] dX8_copyRow_1 (by decide) rfl ?_
  obtain ⟨w_2, hL, hf⟩ := bd_e hf
  refine q_lv [(0, .ref (a 0)), (1, .int v1), (2, .int v2), (3, .int (0 : Int32))] [1, 2, 3, 0] rfl ?_
  refine wX8_copyRow_L2 C a kn kp sd ks bo bi bk ri fm tt le wa hd sx b1 b2 v1 v2 w_2 ?_ 300 _ _ hL
  cases hf
  exact hret _ _ dX8_copyRow_30

theorem lkX8_isNode_1 : Cond.fieldLink RX8 9 "TwiceHeardModel" "w" "[I" ∈ wsX8_isNode := List.mem_of_getElem? (i := 1) rfl
theorem inX8_isNode_X8 : ∀ w ∈ wsX80, w ∈ wsX8_isNode := fun w h => List.mem_cons_of_mem _ (List.mem_append_right _ h)
abbrev rmX8_isNode : Room := { frames := 1, cells := 0, slots := 0, locals := 22 }
theorem hdX8_isNode : yX8_isNode.cls = RX8 ∧ yX8_isNode.cls ≠ "java/lang/invoke/MethodHandle" ∧ yX8_isNode.cls ≠ "java/lang/invoke/VarHandle" ∧ (parseMethodDescriptor yX8_isNode.desc).map (fun d => d.parameters.length) = some 1 := by decide +kernel
def fX8_isNode (w : (Nat → Int32)) (v1 : Int32) : Option (Int32) :=
  (fX8_in v1 (0 : Int32) ((w 0) - (1 : Int32))).bind fun x10 =>
  (gdZ x10).bind fun r13 =>
  some r13
set_option maxRecDepth 100000 in
set_option maxHeartbeats 4000000 in
theorem kX8_isNode (l : Launch) (D : va_G) (cI cJ cZ cN cM : ClassId) (a : Nat → Nat) (w : (Nat → Int32)) (kn : Int32) (kp : Int32) (sd : Int32) (ks : (Nat → Int32)) (bo : (Nat → Int32)) (bi : (Nat → Int32)) (bk : Int32) (ri : (Nat → Int32)) (fm : (Nat → Int32)) (tt : (Nat → Int32)) (le : Int32) (wa : (Nat → Int32)) (hd : (Nat → Int64)) (sx : (Nat → Int32)) (b1 : (Nat → Int64)) (b2 : (Nat → Int64)) (v1 : Int32) (r : Int32) (hf : fX8_isNode w v1 = some r) : MetI l yX8_isNode wsX8_isNode rmX8_isNode D (TYL cI cJ cZ cN cM) [.ref (a 0), .int v1] (mW cI cJ cZ cN cM a w kn kp sd ks bo bi bk ri fm tt le wa hd sx b1 b2) (mW cI cJ cZ cN cM a w kn kp sd ks bo bi bk ri fm tt le wa hd sx b1 b2) r := by
  refine MetI.mk (cc := cX8_isNode) (maxL := 2) (own := RX8) (ty := .boolean) [(0, .ref (a 0)), (1, .int v1)] (by decide +kernel) rfl rfl (Nat.le_of_ble_eq_true rfl) rfl ?_
  intro p e s m args below meth c A Q C hret
  unfold fX8_isNode at hf
  refine q_iload_n C 1 dX8_isNode_0 rfl ?_
  refine q_iconst C 0 dX8_isNode_1 (by decide) ?_
  refine q_aload_n C 0 dX8_isNode_2 rfl ?_
  refine q_get C 0 0 dX8_isNode_3 rfl rfl (Nat.le_of_ble_eq_true rfl) inX8_isNode_X8 lkX8_isNode_1 rfl rfl ?_
  refine q_iconst C 0 dX8_isNode_6 (by decide) ?_
  refine q_ialdC C 1 0 dX8_isNode_7 rfl rfl (by decide) (x := (w 0)) rfl ?_
  refine q_iconst C 1 dX8_isNode_8 (by decide) ?_
  refine q_isub C dX8_isNode_9 ?_
  obtain ⟨x10, hM, hf⟩ := bd_e hf
  refine q_callSI C (mW cI cJ cZ cN cM a w kn kp sd ks bo bi bk ri fm tt le wa hd sx b1 b2) (kX8_in l D cI cJ cZ cN cM   v1 (0 : Int32) ((w 0) - (1 : Int32)) x10 hM) (va_cwS 3 C.1.2.2.2.2 gX8_isNode_X8_in rfl rfl rfl hdX8_in ⟨Nat.le_of_ble_eq_true rfl, Nat.le_of_ble_eq_true rfl⟩) FrX.none rfl rfl (Nat.le_of_ble_eq_true rfl) dX8_isNode_10 ⟨Nat.zero_le _, Nat.zero_le _⟩ ?_
  obtain ⟨hz, hf⟩ := gdZ_e hf
  cases hf
  exact hret _ _ dX8_isNode_13 hz

theorem lkX8_isLinked_1 : Cond.fieldLink RX8 9 "TwiceHeardModel" "w" "[I" ∈ wsX8_isLinked := List.mem_of_getElem? (i := 1) rfl
theorem inX8_isLinked_X8 : ∀ w ∈ wsX80, w ∈ wsX8_isLinked := fun w h => List.mem_cons_of_mem _ (List.mem_append_right _ h)
abbrev rmX8_isLinked : Room := { frames := 2, cells := 0, slots := 0, locals := 43 }
theorem hdX8_isLinked : yX8_isLinked.cls = RX8 ∧ yX8_isLinked.cls ≠ "java/lang/invoke/MethodHandle" ∧ yX8_isLinked.cls ≠ "java/lang/invoke/VarHandle" ∧ (parseMethodDescriptor yX8_isLinked.desc).map (fun d => d.parameters.length) = some 2 := by decide +kernel
def fX8_isLinked (w : (Nat → Int32)) (v1 : Int32) (v2 : Int32) : Option (Int32) :=
  (fX8_isNode w v1).bind fun x2 =>
  jn0 (
  some (0 : Int32)) fun k35 =>
  if x2 = 0 then (
  k35) else (
  (fX8_isNode w v2).bind fun x10 =>
  if x10 = 0 then (
  k35) else (
  (rdI 570 w ((3 : Int32) + v1)).bind fun x23 =>
  (fX8_has x23 v2).bind fun x25 =>
  if x25 = 0 then (
  k35) else (
  some (1 : Int32))))
set_option maxRecDepth 100000 in
set_option maxHeartbeats 4000000 in
theorem kX8_isLinked (l : Launch) (D : va_G) (cI cJ cZ cN cM : ClassId) (a : Nat → Nat) (w : (Nat → Int32)) (kn : Int32) (kp : Int32) (sd : Int32) (ks : (Nat → Int32)) (bo : (Nat → Int32)) (bi : (Nat → Int32)) (bk : Int32) (ri : (Nat → Int32)) (fm : (Nat → Int32)) (tt : (Nat → Int32)) (le : Int32) (wa : (Nat → Int32)) (hd : (Nat → Int64)) (sx : (Nat → Int32)) (b1 : (Nat → Int64)) (b2 : (Nat → Int64)) (v1 : Int32) (v2 : Int32) (r : Int32) (hf : fX8_isLinked w v1 v2 = some r) : MetI l yX8_isLinked wsX8_isLinked rmX8_isLinked D (TYL cI cJ cZ cN cM) [.ref (a 0), .int v1, .int v2] (mW cI cJ cZ cN cM a w kn kp sd ks bo bi bk ri fm tt le wa hd sx b1 b2) (mW cI cJ cZ cN cM a w kn kp sd ks bo bi bk ri fm tt le wa hd sx b1 b2) r := by
  refine MetI.mk (cc := cX8_isLinked) (maxL := 3) (own := RX8) (ty := .boolean) [(0, .ref (a 0)), (1, .int v1), (2, .int v2)] (by decide +kernel) rfl rfl (Nat.le_of_ble_eq_true rfl) rfl ?_
  intro p e s m args below meth c A Q C hret
  unfold fX8_isLinked at hf
  refine q_aload_n C 0 dX8_isLinked_0 rfl ?_
  refine q_iload_n C 1 dX8_isLinked_1 rfl ?_
  obtain ⟨x2, hM, hf⟩ := bd_e hf
  refine q_callVI C (mW cI cJ cZ cN cM a w kn kp sd ks bo bi bk ri fm tt le wa hd sx b1 b2) (kX8_isNode l D cI cJ cZ cN cM a w kn kp sd ks bo bi bk ri fm tt le wa hd sx b1 b2 v1 x2 hM) (cwV 1 C.1.2.2.2.2 gX8_isLinked_X8_isNode rfl rfl rfl hdX8_isNode ⟨Nat.le_of_ble_eq_true rfl, Nat.le_of_ble_eq_true rfl⟩) 0 7 rfl rfl FrX.all rfl rfl (Nat.le_of_ble_eq_true rfl) dX8_isLinked_2 ⟨Nat.zero_le _, Nat.zero_le _⟩ ?_
  refine jn0_e (WW p l e rmX8_isLinked s m args below meth c Q D A 3 0 0 (mW cI cJ cZ cN cM a w kn kp sd ks bo bi bk ri fm tt le wa hd sx b1 b2) [] 35 []) hf ?_ ?_
  · intro hf
    refine q_iconst C 0 dX8_isLinked_35 (by decide) ?_
    cases hf
    exact hret _ _ dX8_isLinked_36 (by decide)
  intro k35 J35 hf
  refine q_if_eq C 35 dX8_isLinked_5 (by decide) hf (fun hf => ?_) (fun hf => ?_)
  · refine q_lv [] [] rfl ?_
    exact J35  hf
  · refine q_aload_n C 0 dX8_isLinked_8 rfl ?_
    refine q_iload_n C 2 dX8_isLinked_9 rfl ?_
    obtain ⟨x10, hM, hf⟩ := bd_e hf
    refine q_callVI C (mW cI cJ cZ cN cM a w kn kp sd ks bo bi bk ri fm tt le wa hd sx b1 b2) (kX8_isNode l D cI cJ cZ cN cM a w kn kp sd ks bo bi bk ri fm tt le wa hd sx b1 b2 v2 x10 hM) (cwV 1 C.1.2.2.2.2 gX8_isLinked_X8_isNode rfl rfl rfl hdX8_isNode ⟨Nat.le_of_ble_eq_true rfl, Nat.le_of_ble_eq_true rfl⟩) 0 7 rfl rfl FrX.all rfl rfl (Nat.le_of_ble_eq_true rfl) dX8_isLinked_10 ⟨Nat.zero_le _, Nat.zero_le _⟩ ?_
    refine q_if_eq C 35 dX8_isLinked_13 (by decide) hf (fun hf => ?_) (fun hf => ?_)
    · refine q_lv [] [] rfl ?_
      exact J35  hf
    · refine q_aload_n C 0 dX8_isLinked_16 rfl ?_
      refine q_get C 0 0 dX8_isLinked_17 rfl rfl (Nat.le_of_ble_eq_true rfl) inX8_isLinked_X8 lkX8_isLinked_1 rfl rfl ?_
      refine q_iconst C 3 dX8_isLinked_20 (by decide) ?_
      refine q_iload_n C 1 dX8_isLinked_21 rfl ?_
      refine q_iadd C dX8_isLinked_22 ?_
      refine q_iald C 1 0 dX8_isLinked_23 rfl rfl hf (fun x23 hf => ?_)
      refine q_iload_n C 2 dX8_isLinked_24 rfl ?_
      obtain ⟨x25, hM, hf⟩ := bd_e hf
      refine q_callSI C (mW cI cJ cZ cN cM a w kn kp sd ks bo bi bk ri fm tt le wa hd sx b1 b2) (kX8_has l D cI cJ cZ cN cM   x23 v2 x25 hM) (va_cwS 2 C.1.2.2.2.2 gX8_isLinked_X8_has rfl rfl rfl hdX8_has ⟨Nat.le_of_ble_eq_true rfl, Nat.le_of_ble_eq_true rfl⟩) FrX.none rfl rfl (Nat.le_of_ble_eq_true rfl) dX8_isLinked_25 ⟨Nat.zero_le _, Nat.zero_le _⟩ ?_
      refine q_if_eq C 35 dX8_isLinked_28 (by decide) hf (fun hf => ?_) (fun hf => ?_)
      · refine q_lv [] [] rfl ?_
        exact J35  hf
      · refine q_iconst C 1 dX8_isLinked_31 (by decide) ?_
        refine q_goto C 36 dX8_isLinked_32 (by decide) ?_
        cases hf
        exact hret _ _ dX8_isLinked_36 (by decide)

abbrev rmX8_ones : Room := { frames := 1, cells := 0, slots := 0, locals := 21 }
theorem hdX8_ones : yX8_ones.cls ≠ "java/lang/invoke/MethodHandle" ∧ yX8_ones.cls ≠ "java/lang/invoke/VarHandle" ∧ (parseMethodDescriptor yX8_ones.desc).map (fun d => d.parameters.length) = some 1 := by decide +kernel
def fX8_ones_L4 (v0 : Int32) : Nat → Int32 → Int32 → Option (Int32)
  | 0, _, _ => none
  | n + 1, v1, v2 =>
  if (16 : Int32) ≤ v2 then (
  some v1) else (
  (fX8_has v0 v2).bind fun x13 =>
  jn1 (fun (t0_24 : Int32) => 
  fX8_ones_L4 v0 n (v1 + t0_24) (v2 + 1)) fun k24 =>
  if x13 = 0 then (
  k24 (0 : Int32)) else (
  k24 (1 : Int32)))
def fX8_ones  (v0 : Int32) : Option (Int32) :=
  (fX8_ones_L4 v0 300 (0 : Int32) (0 : Int32)).bind fun v1_4 =>
  some v1_4
set_option maxRecDepth 100000 in
set_option maxHeartbeats 4000000 in
theorem wX8_ones_L4 {p : Program} {l : Launch} {e : Env} {s : State} {m : MethodId} {args : Array Value} {below : List Frame} {meth : Method} {c : Code} {Q : State → Prop} {D : va_G} {A : Nat → Prop} {cI cJ cZ cN cM : ClassId} (C : Cx p s m args c cX8_ones 3 RX8 wsX8_ones D (TYL cI cJ cZ cN cM) A)   (v0 : Int32) (o1 : Int32) (kk : WW p l e rmX8_ones s m args below meth c Q D A 3 0 0 ([]) [(1, .int o1)] 32 []) : ∀ (n : Nat) (v1 : Int32) (v2 : Int32), fX8_ones_L4 v0 n v1 v2 = some o1 → WW p l e rmX8_ones s m args below meth c Q D A 3 0 0 ([]) [(0, .int v0), (1, .int v1), (2, .int v2)] 4 [] := by
  intro n
  induction n with
  | zero =>
    intro v1 v2 hf
    rw [fX8_ones_L4] at hf
    cases hf
  | succ n ih =>
    intro v1 v2 hf
    rw [fX8_ones_L4] at hf
    refine q_iload_n C 2 dX8_ones_4 rfl ?_
    refine q_bipush C 16 dX8_ones_5 (by decide) ?_
    refine q_icmp_ge C 32 dX8_ones_7 (by decide) hf (fun hf => ?_) (fun hf => ?_)
    · cases hf
      refine q_lv [(1, .int v1)] [1] rfl ?_
      exact kk
    · refine q_iload_n C 1 dX8_ones_10 rfl ?_
      refine q_iload_n C 0 dX8_ones_11 rfl ?_
      refine q_iload_n C 2 dX8_ones_12 rfl ?_
      obtain ⟨x13, hM, hf⟩ := bd_e hf
      refine q_callSI C ([]) (kX8_has l D cI cJ cZ cN cM   v0 v2 x13 hM) (va_cwS 2 C.1.2.2.2.2 gX8_ones_X8_has rfl rfl rfl hdX8_has ⟨Nat.le_of_ble_eq_true rfl, Nat.le_of_ble_eq_true rfl⟩) FrX.none rfl rfl (Nat.le_of_ble_eq_true rfl) dX8_ones_13 ⟨Nat.zero_le _, Nat.zero_le _⟩ ?_
      refine jn1_e (fun (t0_24 : Int32) => WW p l e rmX8_ones s m args below meth c Q D A 3 0 0 ([]) [(0, .int v0), (2, .int v2)] 24 [.int t0_24, .int v1]) hf ?_ ?_
      · intro t0_24 hf
        refine q_iadd C dX8_ones_24 ?_
        refine q_istore_n C [(1, .int (v1 + t0_24)), (0, .int v0), (2, .int v2)] dX8_ones_25 (by decide) rfl ?_
        refine q_iinc C (v2 + 1) 2 [(2, .int (v2 + 1)), (1, .int (v1 + t0_24)), (0, .int v0)] dX8_ones_26 rfl rfl (by decide) rfl ?_
        refine q_goto C 4 dX8_ones_29 (by decide) ?_
        refine q_lv [(0, .int v0), (1, .int (v1 + t0_24)), (2, .int (v2 + 1))] [2, 1, 0] rfl ?_
        exact ih _ _ hf
      intro k24 J24 hf
      refine q_if_eq C 23 dX8_ones_16 (by decide) hf (fun hf => ?_) (fun hf => ?_)
      · refine q_iconst C 0 dX8_ones_23 (by decide) ?_
        refine q_lv [(0, .int v0), (2, .int v2)] [0, 2] rfl ?_
        exact J24 _ hf
      · refine q_iconst C 1 dX8_ones_19 (by decide) ?_
        refine q_goto C 24 dX8_ones_20 (by decide) ?_
        refine q_lv [(0, .int v0), (2, .int v2)] [0, 2] rfl ?_
        exact J24 _ hf
set_option maxRecDepth 100000 in
set_option maxHeartbeats 4000000 in
theorem kX8_ones (l : Launch) (D : va_G) (cI cJ cZ cN cM : ClassId)   (v0 : Int32) (r : Int32) (hf : fX8_ones v0 = some r) : MetI l yX8_ones wsX8_ones rmX8_ones D (TYL cI cJ cZ cN cM) [.int v0] ([]) ([]) r := by
  refine MetI.mk (cc := cX8_ones) (maxL := 3) (own := RX8) (ty := .int) [(0, .int v0)] (by decide +kernel) rfl rfl (Nat.le_of_ble_eq_true rfl) rfl ?_
  intro p e s m args below meth c A Q C hret
  unfold fX8_ones at hf
  refine q_iconst C 0 dX8_ones_0 (by decide) ?_
  refine q_istore_n C [(1, .int (0 : Int32)), (0, .int v0)] dX8_ones_1 (by decide) rfl ?_
  refine q_iconst C 0 dX8_ones_2 (by decide) ?_
  refine q_istore_n C [(2, .int (0 : Int32)), (1, .int (0 : Int32)), (0, .int v0)] dX8_ones_3 (by decide) rfl ?_
  obtain ⟨v1_4, hL, hf⟩ := bd_e hf
  refine q_lv [(0, .int v0), (1, .int (0 : Int32)), (2, .int (0 : Int32))] [2, 1, 0] rfl ?_
  refine wX8_ones_L4 C   v0 v1_4 ?_ 300 _ _ hL
  refine q_iload_n C 0 dX8_ones_32 rfl ?_
  cases hf
  exact hret _ _ dX8_ones_33 rfl

theorem lkX8_markOf_1 : Cond.constantLong RX8 59 (2) ∈ wsX8_markOf := List.mem_of_getElem? (i := 1) rfl
theorem lkX8_markOf_2 : Cond.fieldLink RX8 9 "TwiceHeardModel" "w" "[I" ∈ wsX8_markOf := List.mem_of_getElem? (i := 2) rfl
theorem lkX8_markOf_3 : Cond.constantLong RX8 61 (40503) ∈ wsX8_markOf := List.mem_of_getElem? (i := 3) rfl
theorem lkX8_markOf_4 : Cond.constantLong RX8 63 (65536) ∈ wsX8_markOf := List.mem_of_getElem? (i := 4) rfl
theorem lkX8_markOf_5 : Cond.constantLong RX8 65 (64) ∈ wsX8_markOf := List.mem_of_getElem? (i := 5) rfl
theorem inX8_markOf_X8 : ∀ w ∈ wsX80, w ∈ wsX8_markOf := fun w h => List.mem_cons_of_mem _ (List.mem_append_right _ h)
abbrev rmX8_markOf : Room := { frames := 0, cells := 0, slots := 0, locals := 0 }
theorem hdX8_markOf : yX8_markOf.cls = RX8 ∧ yX8_markOf.cls ≠ "java/lang/invoke/MethodHandle" ∧ yX8_markOf.cls ≠ "java/lang/invoke/VarHandle" ∧ (parseMethodDescriptor yX8_markOf.desc).map (fun d => d.parameters.length) = some 1 := by decide +kernel
def fX8_markOf (w : (Nat → Int32)) (v1 : Int32) : Option (Int32) :=
  some (((((((v1 + (1 : Int32)).toInt64) * (((2 : Int64) * ((w 1).toInt64)) + (1 : Int64))) * (40503 : Int64)) - ((((v1 + (1 : Int32)).toInt64) * (((2 : Int64) * ((w 1).toInt64)) + (1 : Int64))) * (40503 : Int64)) / (65536 : Int64) * (65536 : Int64)) / (64 : Int64)).toInt32)
set_option maxRecDepth 100000 in
set_option maxHeartbeats 4000000 in
theorem kX8_markOf (l : Launch) (D : va_G) (cI cJ cZ cN cM : ClassId) (a : Nat → Nat) (w : (Nat → Int32)) (kn : Int32) (kp : Int32) (sd : Int32) (ks : (Nat → Int32)) (bo : (Nat → Int32)) (bi : (Nat → Int32)) (bk : Int32) (ri : (Nat → Int32)) (fm : (Nat → Int32)) (tt : (Nat → Int32)) (le : Int32) (wa : (Nat → Int32)) (hd : (Nat → Int64)) (sx : (Nat → Int32)) (b1 : (Nat → Int64)) (b2 : (Nat → Int64)) (v1 : Int32) (r : Int32) (hf : fX8_markOf w v1 = some r) : MetI l yX8_markOf wsX8_markOf rmX8_markOf D (TYL cI cJ cZ cN cM) [.ref (a 0), .int v1] (mW cI cJ cZ cN cM a w kn kp sd ks bo bi bk ri fm tt le wa hd sx b1 b2) (mW cI cJ cZ cN cM a w kn kp sd ks bo bi bk ri fm tt le wa hd sx b1 b2) r := by
  refine MetI.mk (cc := cX8_markOf) (maxL := 4) (own := RX8) (ty := .int) [(0, .ref (a 0)), (1, .int v1)] (by decide +kernel) rfl rfl (Nat.le_of_ble_eq_true rfl) rfl ?_
  intro p e s m args below meth c A Q C hret
  unfold fX8_markOf at hf
  refine q_iload_n C 1 dX8_markOf_0 rfl ?_
  refine q_iconst C 1 dX8_markOf_1 (by decide) ?_
  refine q_iadd C dX8_markOf_2 ?_
  refine q_i2l C dX8_markOf_3 ?_
  refine q_ldc2 C dX8_markOf_4 lkX8_markOf_1 ?_
  refine q_aload_n C 0 dX8_markOf_7 rfl ?_
  refine q_get C 0 0 dX8_markOf_8 rfl rfl (Nat.le_of_ble_eq_true rfl) inX8_markOf_X8 lkX8_markOf_2 rfl rfl ?_
  refine q_iconst C 1 dX8_markOf_11 (by decide) ?_
  refine q_ialdC C 1 0 dX8_markOf_12 rfl rfl (by decide) (x := (w 1)) rfl ?_
  refine q_i2l C dX8_markOf_13 ?_
  refine q_lmul C dX8_markOf_14 ?_
  refine q_lconst C 1 dX8_markOf_15 (by decide) ?_
  refine q_ladd C dX8_markOf_16 ?_
  refine q_lmul C dX8_markOf_17 ?_
  refine q_ldc2 C dX8_markOf_18 lkX8_markOf_3 ?_
  refine q_lmul C dX8_markOf_21 ?_
  refine q_ldc2 C dX8_markOf_22 lkX8_markOf_4 ?_
  refine q_lremC C dX8_markOf_25 (by decide) ?_
  refine q_lstore_n C [(2, .long (((((v1 + (1 : Int32)).toInt64) * (((2 : Int64) * ((w 1).toInt64)) + (1 : Int64))) * (40503 : Int64)) - ((((v1 + (1 : Int32)).toInt64) * (((2 : Int64) * ((w 1).toInt64)) + (1 : Int64))) * (40503 : Int64)) / (65536 : Int64) * (65536 : Int64))), (0, .ref (a 0)), (1, .int v1)] dX8_markOf_26 (by decide) rfl ?_
  refine q_lload_n C 0 dX8_markOf_27 rfl ?_
  refine q_ldc2 C dX8_markOf_28 lkX8_markOf_5 ?_
  refine q_ldivC C dX8_markOf_31 (by decide) ?_
  refine q_l2i C dX8_markOf_32 ?_
  cases hf
  exact hret _ _ dX8_markOf_33 rfl

theorem inX8_rankOf_X8 : ∀ w ∈ wsX80, w ∈ wsX8_rankOf := fun w h => List.mem_cons_of_mem _ (List.mem_append_right _ h)
abbrev rmX8_rankOf : Room := { frames := 1, cells := 0, slots := 0, locals := 23 }
theorem hdX8_rankOf : yX8_rankOf.cls = RX8 ∧ yX8_rankOf.cls ≠ "java/lang/invoke/MethodHandle" ∧ yX8_rankOf.cls ≠ "java/lang/invoke/VarHandle" ∧ (parseMethodDescriptor yX8_rankOf.desc).map (fun d => d.parameters.length) = some 1 := by decide +kernel
def fX8_rankOf_L8  : Nat → Int32 → Int32 → Option (Int32)
  | 0, _, _ => none
  | n + 1, v2, v3 =>
  if (7 : Int32) ≤ v3 then (
  some v3) else (
  if (v2 - v2 / (2 : Int32) * (2 : Int32)) = 0 then (
  fX8_rankOf_L8 n (v2 / (2 : Int32)) (v3 + 1)) else (
  some v3))
def fX8_rankOf (w : (Nat → Int32)) (v1 : Int32) : Option (Int32) :=
  (fX8_markOf w v1).bind fun x2 =>
  (fX8_rankOf_L8  300 x2 (0 : Int32)).bind fun v3_8 =>
  some v3_8
set_option maxRecDepth 100000 in
set_option maxHeartbeats 4000000 in
theorem wX8_rankOf_L8 {p : Program} {l : Launch} {e : Env} {s : State} {m : MethodId} {args : Array Value} {below : List Frame} {meth : Method} {c : Code} {Q : State → Prop} {D : va_G} {A : Nat → Prop} {cI cJ cZ cN cM : ClassId} (C : Cx p s m args c cX8_rankOf 4 RX8 wsX8_rankOf D (TYL cI cJ cZ cN cM) A) (a : Nat → Nat) (w : (Nat → Int32)) (kn : Int32) (kp : Int32) (sd : Int32) (ks : (Nat → Int32)) (bo : (Nat → Int32)) (bi : (Nat → Int32)) (bk : Int32) (ri : (Nat → Int32)) (fm : (Nat → Int32)) (tt : (Nat → Int32)) (le : Int32) (wa : (Nat → Int32)) (hd : (Nat → Int64)) (sx : (Nat → Int32)) (b1 : (Nat → Int64)) (b2 : (Nat → Int64))  (o3 : Int32) (kk : WW p l e rmX8_rankOf s m args below meth c Q D A 4 0 0 (mW cI cJ cZ cN cM a w kn kp sd ks bo bi bk ri fm tt le wa hd sx b1 b2) [(3, .int o3)] 30 []) : ∀ (n : Nat) (v2 : Int32) (v3 : Int32), fX8_rankOf_L8  n v2 v3 = some o3 → WW p l e rmX8_rankOf s m args below meth c Q D A 4 0 0 (mW cI cJ cZ cN cM a w kn kp sd ks bo bi bk ri fm tt le wa hd sx b1 b2) [(2, .int v2), (3, .int v3)] 8 [] := by
  intro n
  induction n with
  | zero =>
    intro v2 v3 hf
    rw [fX8_rankOf_L8] at hf
    cases hf
  | succ n ih =>
    intro v2 v3 hf
    rw [fX8_rankOf_L8] at hf
    refine q_iload_n C 1 dX8_rankOf_8 rfl ?_
    refine q_bipush C 7 dX8_rankOf_9 (by decide) ?_
    refine q_icmp_ge C 30 dX8_rankOf_11 (by decide) hf (fun hf => ?_) (fun hf => ?_)
    · cases hf
      refine q_lv [(3, .int v3)] [1] rfl ?_
      exact kk
    · refine q_iload_n C 0 dX8_rankOf_14 rfl ?_
      refine q_iconst C 2 dX8_rankOf_15 (by decide) ?_
      refine q_iremC C dX8_rankOf_16 (by decide) ?_
      refine q_if_ne C 30 dX8_rankOf_17 (by decide) hf (fun hf => ?_) (fun hf => ?_)
      · cases hf
        refine q_lv [(3, .int v3)] [1] rfl ?_
        exact kk
      · refine q_iload_n C 0 dX8_rankOf_20 rfl ?_
        refine q_iconst C 2 dX8_rankOf_21 (by decide) ?_
        refine q_idivC C dX8_rankOf_22 (by decide) ?_
        refine q_istore_n C [(2, .int (v2 / (2 : Int32))), (3, .int v3)] dX8_rankOf_23 (by decide) rfl ?_
        refine q_iinc C (v3 + 1) 1 [(3, .int (v3 + 1)), (2, .int (v2 / (2 : Int32)))] dX8_rankOf_24 rfl rfl (by decide) rfl ?_
        refine q_goto C 8 dX8_rankOf_27 (by decide) ?_
        refine q_lv [(2, .int (v2 / (2 : Int32))), (3, .int (v3 + 1))] [1, 0] rfl ?_
        exact ih _ _ hf
set_option maxRecDepth 100000 in
set_option maxHeartbeats 4000000 in
theorem kX8_rankOf (l : Launch) (D : va_G) (cI cJ cZ cN cM : ClassId) (a : Nat → Nat) (w : (Nat → Int32)) (kn : Int32) (kp : Int32) (sd : Int32) (ks : (Nat → Int32)) (bo : (Nat → Int32)) (bi : (Nat → Int32)) (bk : Int32) (ri : (Nat → Int32)) (fm : (Nat → Int32)) (tt : (Nat → Int32)) (le : Int32) (wa : (Nat → Int32)) (hd : (Nat → Int64)) (sx : (Nat → Int32)) (b1 : (Nat → Int64)) (b2 : (Nat → Int64)) (v1 : Int32) (r : Int32) (hf : fX8_rankOf w v1 = some r) : MetI l yX8_rankOf wsX8_rankOf rmX8_rankOf D (TYL cI cJ cZ cN cM) [.ref (a 0), .int v1] (mW cI cJ cZ cN cM a w kn kp sd ks bo bi bk ri fm tt le wa hd sx b1 b2) (mW cI cJ cZ cN cM a w kn kp sd ks bo bi bk ri fm tt le wa hd sx b1 b2) r := by
  refine MetI.mk (cc := cX8_rankOf) (maxL := 4) (own := RX8) (ty := .int) [(0, .ref (a 0)), (1, .int v1)] (by decide +kernel) rfl rfl (Nat.le_of_ble_eq_true rfl) rfl ?_
  intro p e s m args below meth c A Q C hret
  unfold fX8_rankOf at hf
  refine q_aload_n C 0 dX8_rankOf_0 rfl ?_
  refine q_iload_n C 1 dX8_rankOf_1 rfl ?_
  obtain ⟨x2, hM, hf⟩ := bd_e hf
  refine q_callVI C (mW cI cJ cZ cN cM a w kn kp sd ks bo bi bk ri fm tt le wa hd sx b1 b2) (kX8_markOf l D cI cJ cZ cN cM a w kn kp sd ks bo bi bk ri fm tt le wa hd sx b1 b2 v1 x2 hM) (cwV 1 C.1.2.2.2.2 gX8_rankOf_X8_markOf rfl rfl rfl hdX8_markOf ⟨Nat.le_of_ble_eq_true rfl, Nat.le_of_ble_eq_true rfl⟩) 0 7 rfl rfl FrX.all rfl rfl (Nat.le_of_ble_eq_true rfl) dX8_rankOf_2 ⟨Nat.zero_le _, Nat.zero_le _⟩ ?_
  refine q_istore_n C [(2, .int x2), (0, .ref (a 0)), (1, .int v1)] dX8_rankOf_5 (by decide) rfl ?_
  refine q_iconst C 0 dX8_rankOf_6 (by decide) ?_
  refine q_istore_n C [(3, .int (0 : Int32)), (2, .int x2), (0, .ref (a 0)), (1, .int v1)] dX8_rankOf_7 (by decide) rfl ?_
  obtain ⟨v3_8, hL, hf⟩ := bd_e hf
  refine q_lv [(2, .int x2), (3, .int (0 : Int32))] [1, 0] rfl ?_
  refine wX8_rankOf_L8 C a w kn kp sd ks bo bi bk ri fm tt le wa hd sx b1 b2  v3_8 ?_ 300 _ _ hL
  refine q_iload_n C 0 dX8_rankOf_30 rfl ?_
  cases hf
  exact hret _ _ dX8_rankOf_31 rfl

theorem lkX8_spread_1 : Cond.fieldLink RX8 9 "TwiceHeardModel" "w" "[I" ∈ wsX8_spread := List.mem_of_getElem? (i := 1) rfl
theorem lkX8_spread_2 : Cond.fieldLink RX8 22 "TwiceHeardModel" "ring" "[I" ∈ wsX8_spread := List.mem_of_getElem? (i := 2) rfl
theorem inX8_spread_X8 : ∀ w ∈ wsX80, w ∈ wsX8_spread := fun w h => List.mem_cons_of_mem _ (List.mem_append_right _ h)
abbrev rmX8_spread : Room := { frames := 1, cells := 0, slots := 0, locals := 21 }
theorem hdX8_spread : yX8_spread.cls = RX8 ∧ yX8_spread.cls ≠ "java/lang/invoke/MethodHandle" ∧ yX8_spread.cls ≠ "java/lang/invoke/VarHandle" ∧ (parseMethodDescriptor yX8_spread.desc).map (fun d => d.parameters.length) = some 1 := by decide +kernel
def fX8_spread_L17 (w : (Nat → Int32)) (v1 : Int32) (v3 : Int32) : Nat → Int32 → Int32 → (Nat → Int32) → Option (Int32 × (Nat → Int32))
  | 0, _, _, _ => none
  | n + 1, v2, v4, ri =>
  if (w 0) ≤ v4 then (
  some (v2, ri)) else (
  (rdI 9 ri v3).bind fun x33 =>
  if x33 = (-1 : Int32) then (
  (rdI 570 w ((3 : Int32) + v3)).bind fun x45 =>
  (fX8_has x45 v4).bind fun x48 =>
  jn2 (fun (u2_76 : Int32) (ri_76 : (Nat → Int32)) => 
  fX8_spread_L17 w v1 v3 n u2_76 (v4 + 1) ri_76) fun k76 =>
  if x48 = 0 then (
  k76 v2 ri) else (
  (rdI 9 ri v4).bind fun x60 =>
  if x60 = v1 then (
  (wrI 9 ri v3 (v1 + (1 : Int32))).bind fun ri_73 =>
  k76 (1 : Int32) ri_73) else (
  k76 v2 ri))) else (
  some (v2, ri)))
def fX8_spread_L4 (w : (Nat → Int32)) (v1 : Int32) : Nat → Int32 → Int32 → (Nat → Int32) → Option (Int32 × (Nat → Int32))
  | 0, _, _, _ => none
  | n + 1, v2, v3, ri =>
  if (w 0) ≤ v3 then (
  some (v2, ri)) else (
  bd2 (fX8_spread_L17 w v1 v3 300 v2 (0 : Int32) ri) fun v2_17 ri_17 =>
  fX8_spread_L4 w v1 n v2_17 (v3 + 1) ri_17)
def fX8_spread (w : (Nat → Int32)) (ri : (Nat → Int32)) (v1 : Int32) : Option (Int32 × (Nat → Int32)) :=
  bd2 (fX8_spread_L4 w v1 300 (0 : Int32) (0 : Int32) ri) fun v2_4 ri_4 =>
  (gdZ v2_4).bind fun r89 =>
  some (r89, ri_4)
set_option maxRecDepth 100000 in
set_option maxHeartbeats 4000000 in
theorem wX8_spread_L17 {p : Program} {l : Launch} {e : Env} {s : State} {m : MethodId} {args : Array Value} {below : List Frame} {meth : Method} {c : Code} {Q : State → Prop} {D : va_G} {A : Nat → Prop} {cI cJ cZ cN cM : ClassId} (C : Cx p s m args c cX8_spread 5 RX8 wsX8_spread D (TYL cI cJ cZ cN cM) A) (a : Nat → Nat) (w : (Nat → Int32)) (kn : Int32) (kp : Int32) (sd : Int32) (ks : (Nat → Int32)) (bo : (Nat → Int32)) (bi : (Nat → Int32)) (bk : Int32) (fm : (Nat → Int32)) (tt : (Nat → Int32)) (le : Int32) (wa : (Nat → Int32)) (hd : (Nat → Int64)) (sx : (Nat → Int32)) (b1 : (Nat → Int64)) (b2 : (Nat → Int64)) (v1 : Int32) (v3 : Int32) (o2 : Int32) (ri_o : (Nat → Int32)) (kk : WW p l e rmX8_spread s m args below meth c Q D A 5 0 0 (mW cI cJ cZ cN cM a w kn kp sd ks bo bi bk ri_o fm tt le wa hd sx b1 b2) [(0, .ref (a 0)), (1, .int v1), (2, .int o2), (3, .int v3)] 82 []) : ∀ (n : Nat) (v2 : Int32) (v4 : Int32) (ri : (Nat → Int32)), fX8_spread_L17 w v1 v3 n v2 v4 ri = some (o2, ri_o) → WW p l e rmX8_spread s m args below meth c Q D A 5 0 0 (mW cI cJ cZ cN cM a w kn kp sd ks bo bi bk ri fm tt le wa hd sx b1 b2) [(0, .ref (a 0)), (1, .int v1), (2, .int v2), (3, .int v3), (4, .int v4)] 17 [] := by
  intro n
  induction n with
  | zero =>
    intro v2 v4 ri hf
    rw [fX8_spread_L17] at hf
    cases hf
  | succ n ih =>
    intro v2 v4 ri hf
    rw [fX8_spread_L17] at hf
    refine q_iload C 4 dX8_spread_17 rfl ?_
    refine q_aload_n C 0 dX8_spread_19 rfl ?_
    refine q_get C 0 0 dX8_spread_20 rfl rfl (Nat.le_of_ble_eq_true rfl) inX8_spread_X8 lkX8_spread_1 rfl rfl ?_
    refine q_iconst C 0 dX8_spread_23 (by decide) ?_
    refine q_ialdC C 1 0 dX8_spread_24 rfl rfl (by decide) (x := (w 0)) rfl ?_
    refine q_icmp_ge C 82 dX8_spread_25 (by decide) hf (fun hf => ?_) (fun hf => ?_)
    · cases hf
      refine q_lv [(0, .ref (a 0)), (1, .int v1), (2, .int v2), (3, .int v3)] [0, 1, 2, 3] rfl ?_
      exact kk
    · refine q_aload_n C 0 dX8_spread_28 rfl ?_
      refine q_get C 0 8 dX8_spread_29 rfl rfl (Nat.le_of_ble_eq_true rfl) inX8_spread_X8 lkX8_spread_2 rfl rfl ?_
      refine q_iload_n C 3 dX8_spread_32 rfl ?_
      refine q_iald C 5 0 dX8_spread_33 rfl rfl hf (fun x33 hf => ?_)
      refine q_iconst C (-1) dX8_spread_34 (by decide) ?_
      refine q_icmp_ne C 82 dX8_spread_35 (by decide) hf (fun hf => ?_) (fun hf => ?_)
      · cases hf
        refine q_lv [(0, .ref (a 0)), (1, .int v1), (2, .int v2), (3, .int v3)] [0, 1, 2, 3] rfl ?_
        exact kk
      · refine q_aload_n C 0 dX8_spread_38 rfl ?_
        refine q_get C 0 0 dX8_spread_39 rfl rfl (Nat.le_of_ble_eq_true rfl) inX8_spread_X8 lkX8_spread_1 rfl rfl ?_
        refine q_iconst C 3 dX8_spread_42 (by decide) ?_
        refine q_iload_n C 3 dX8_spread_43 rfl ?_
        refine q_iadd C dX8_spread_44 ?_
        refine q_iald C 1 0 dX8_spread_45 rfl rfl hf (fun x45 hf => ?_)
        refine q_iload C 4 dX8_spread_46 rfl ?_
        obtain ⟨x48, hM, hf⟩ := bd_e hf
        refine q_callSI C (mW cI cJ cZ cN cM a w kn kp sd ks bo bi bk ri fm tt le wa hd sx b1 b2) (kX8_has l D cI cJ cZ cN cM   x45 v4 x48 hM) (va_cwS 2 C.1.2.2.2.2 gX8_spread_X8_has rfl rfl rfl hdX8_has ⟨Nat.le_of_ble_eq_true rfl, Nat.le_of_ble_eq_true rfl⟩) FrX.none rfl rfl (Nat.le_of_ble_eq_true rfl) dX8_spread_48 ⟨Nat.zero_le _, Nat.zero_le _⟩ ?_
        refine jn2_e (fun (u2_76 : Int32) (ri_76 : (Nat → Int32)) => WW p l e rmX8_spread s m args below meth c Q D A 5 0 0 (mW cI cJ cZ cN cM a w kn kp sd ks bo bi bk ri_76 fm tt le wa hd sx b1 b2) [(0, .ref (a 0)), (1, .int v1), (2, .int u2_76), (3, .int v3), (4, .int v4)] 76 []) hf ?_ ?_
        · intro u2_76 ri_76 hf
          refine q_iinc C (v4 + 1) 4 [(4, .int (v4 + 1)), (0, .ref (a 0)), (1, .int v1), (2, .int u2_76), (3, .int v3)] dX8_spread_76 rfl rfl (by decide) rfl ?_
          refine q_goto C 17 dX8_spread_79 (by decide) ?_
          refine q_lv [(0, .ref (a 0)), (1, .int v1), (2, .int u2_76), (3, .int v3), (4, .int (v4 + 1))] [1, 2, 3, 4, 0] rfl ?_
          exact ih _ _ _ hf
        intro k76 J76 hf
        refine q_if_eq C 76 dX8_spread_51 (by decide) hf (fun hf => ?_) (fun hf => ?_)
        · exact J76 _ _ hf
        · refine q_aload_n C 0 dX8_spread_54 rfl ?_
          refine q_get C 0 8 dX8_spread_55 rfl rfl (Nat.le_of_ble_eq_true rfl) inX8_spread_X8 lkX8_spread_2 rfl rfl ?_
          refine q_iload C 4 dX8_spread_58 rfl ?_
          refine q_iald C 5 0 dX8_spread_60 rfl rfl hf (fun x60 hf => ?_)
          refine q_iload_n C 1 dX8_spread_61 rfl ?_
          refine q_icmp_ne C 76 dX8_spread_62 (by decide) hf (fun hf => ?_) (fun hf => ?_)
          · exact J76 _ _ hf
          · refine q_aload_n C 0 dX8_spread_65 rfl ?_
            refine q_get C 0 8 dX8_spread_66 rfl rfl (Nat.le_of_ble_eq_true rfl) inX8_spread_X8 lkX8_spread_2 rfl rfl ?_
            refine q_iload_n C 3 dX8_spread_69 rfl ?_
            refine q_iload_n C 1 dX8_spread_70 rfl ?_
            refine q_iconst C 1 dX8_spread_71 (by decide) ?_
            refine q_iadd C dX8_spread_72 ?_
            refine q_iast C 5 0 (fun ri_73 => mW cI cJ cZ cN cM a w kn kp sd ks bo bi bk ri_73 fm tt le wa hd sx b1 b2) dX8_spread_73 rfl rfl (fun _ => rfl) hf (fun ri_73 hf => ?_)
            refine q_iconst C 1 dX8_spread_74 (by decide) ?_
            refine q_istore_n C [(2, .int (1 : Int32)), (0, .ref (a 0)), (1, .int v1), (3, .int v3), (4, .int v4)] dX8_spread_75 (by decide) rfl ?_
            refine q_lv [(0, .ref (a 0)), (1, .int v1), (2, .int (1 : Int32)), (3, .int v3), (4, .int v4)] [1, 2, 0, 3, 4] rfl ?_
            exact J76 _ _ hf
set_option maxRecDepth 100000 in
set_option maxHeartbeats 4000000 in
theorem wX8_spread_L4 {p : Program} {l : Launch} {e : Env} {s : State} {m : MethodId} {args : Array Value} {below : List Frame} {meth : Method} {c : Code} {Q : State → Prop} {D : va_G} {A : Nat → Prop} {cI cJ cZ cN cM : ClassId} (C : Cx p s m args c cX8_spread 5 RX8 wsX8_spread D (TYL cI cJ cZ cN cM) A) (a : Nat → Nat) (w : (Nat → Int32)) (kn : Int32) (kp : Int32) (sd : Int32) (ks : (Nat → Int32)) (bo : (Nat → Int32)) (bi : (Nat → Int32)) (bk : Int32) (fm : (Nat → Int32)) (tt : (Nat → Int32)) (le : Int32) (wa : (Nat → Int32)) (hd : (Nat → Int64)) (sx : (Nat → Int32)) (b1 : (Nat → Int64)) (b2 : (Nat → Int64)) (v1 : Int32) (o2 : Int32) (ri_o : (Nat → Int32)) (kk : WW p l e rmX8_spread s m args below meth c Q D A 5 0 0 (mW cI cJ cZ cN cM a w kn kp sd ks bo bi bk ri_o fm tt le wa hd sx b1 b2) [(2, .int o2)] 88 []) : ∀ (n : Nat) (v2 : Int32) (v3 : Int32) (ri : (Nat → Int32)), fX8_spread_L4 w v1 n v2 v3 ri = some (o2, ri_o) → WW p l e rmX8_spread s m args below meth c Q D A 5 0 0 (mW cI cJ cZ cN cM a w kn kp sd ks bo bi bk ri fm tt le wa hd sx b1 b2) [(0, .ref (a 0)), (1, .int v1), (2, .int v2), (3, .int v3)] 4 [] := by
  intro n
  induction n with
  | zero =>
    intro v2 v3 ri hf
    rw [fX8_spread_L4] at hf
    cases hf
  | succ n ih =>
    intro v2 v3 ri hf
    rw [fX8_spread_L4] at hf
    refine q_iload_n C 3 dX8_spread_4 rfl ?_
    refine q_aload_n C 0 dX8_spread_5 rfl ?_
    refine q_get C 0 0 dX8_spread_6 rfl rfl (Nat.le_of_ble_eq_true rfl) inX8_spread_X8 lkX8_spread_1 rfl rfl ?_
    refine q_iconst C 0 dX8_spread_9 (by decide) ?_
    refine q_ialdC C 1 0 dX8_spread_10 rfl rfl (by decide) (x := (w 0)) rfl ?_
    refine q_icmp_ge C 88 dX8_spread_11 (by decide) hf (fun hf => ?_) (fun hf => ?_)
    · cases hf
      refine q_lv [(2, .int v2)] [2] rfl ?_
      exact kk
    · refine q_iconst C 0 dX8_spread_14 (by decide) ?_
      refine q_istore C [(4, .int (0 : Int32)), (0, .ref (a 0)), (1, .int v1), (2, .int v2), (3, .int v3)] dX8_spread_15 (by decide) rfl ?_
      obtain ⟨v2_17, ri_17, hL, hf⟩ := bd2_e hf
      refine q_lv [(0, .ref (a 0)), (1, .int v1), (2, .int v2), (3, .int v3), (4, .int (0 : Int32))] [1, 2, 3, 4, 0] rfl ?_
      refine wX8_spread_L17 C a w kn kp sd ks bo bi bk fm tt le wa hd sx b1 b2 v1 v3 v2_17 ri_17 ?_ 300 _ _ _ hL
      refine q_iinc C (v3 + 1) 3 [(3, .int (v3 + 1)), (0, .ref (a 0)), (1, .int v1), (2, .int v2_17)] dX8_spread_82 rfl rfl (by decide) rfl ?_
      refine q_goto C 4 dX8_spread_85 (by decide) ?_
      refine q_lv [(0, .ref (a 0)), (1, .int v1), (2, .int v2_17), (3, .int (v3 + 1))] [1, 2, 3, 0] rfl ?_
      exact ih _ _ _ hf
set_option maxRecDepth 100000 in
set_option maxHeartbeats 4000000 in
theorem kX8_spread (l : Launch) (D : va_G) (cI cJ cZ cN cM : ClassId) (a : Nat → Nat) (w : (Nat → Int32)) (kn : Int32) (kp : Int32) (sd : Int32) (ks : (Nat → Int32)) (bo : (Nat → Int32)) (bi : (Nat → Int32)) (bk : Int32) (ri : (Nat → Int32)) (fm : (Nat → Int32)) (tt : (Nat → Int32)) (le : Int32) (wa : (Nat → Int32)) (hd : (Nat → Int64)) (sx : (Nat → Int32)) (b1 : (Nat → Int64)) (b2 : (Nat → Int64)) (v1 : Int32) (r : Int32) (ri_o : (Nat → Int32)) (hf : fX8_spread w ri v1 = some (r, ri_o)) : MetI l yX8_spread wsX8_spread rmX8_spread D (TYL cI cJ cZ cN cM) [.ref (a 0), .int v1] (mW cI cJ cZ cN cM a w kn kp sd ks bo bi bk ri fm tt le wa hd sx b1 b2) (mW cI cJ cZ cN cM a w kn kp sd ks bo bi bk ri_o fm tt le wa hd sx b1 b2) r := by
  refine MetI.mk (cc := cX8_spread) (maxL := 5) (own := RX8) (ty := .boolean) [(0, .ref (a 0)), (1, .int v1)] (by decide +kernel) rfl rfl (Nat.le_of_ble_eq_true rfl) rfl ?_
  intro p e s m args below meth c A Q C hret
  unfold fX8_spread at hf
  refine q_iconst C 0 dX8_spread_0 (by decide) ?_
  refine q_istore_n C [(2, .int (0 : Int32)), (0, .ref (a 0)), (1, .int v1)] dX8_spread_1 (by decide) rfl ?_
  refine q_iconst C 0 dX8_spread_2 (by decide) ?_
  refine q_istore_n C [(3, .int (0 : Int32)), (2, .int (0 : Int32)), (0, .ref (a 0)), (1, .int v1)] dX8_spread_3 (by decide) rfl ?_
  obtain ⟨v2_4, ri_4, hL, hf⟩ := bd2_e hf
  refine q_lv [(0, .ref (a 0)), (1, .int v1), (2, .int (0 : Int32)), (3, .int (0 : Int32))] [2, 3, 1, 0] rfl ?_
  refine wX8_spread_L4 C a w kn kp sd ks bo bi bk fm tt le wa hd sx b1 b2 v1 v2_4 ri_4 ?_ 300 _ _ _ hL
  refine q_iload_n C 0 dX8_spread_88 rfl ?_
  obtain ⟨hz, hf⟩ := gdZ_e hf
  cases hf
  exact hret _ _ dX8_spread_89 hz

theorem lkX8_layRings_1 : Cond.fieldLink RX8 22 "TwiceHeardModel" "ring" "[I" ∈ wsX8_layRings := List.mem_of_getElem? (i := 1) rfl
theorem inX8_layRings_X8 : ∀ w ∈ wsX80, w ∈ wsX8_layRings := fun w h => List.mem_cons_of_mem _ (List.mem_append_right _ h)
abbrev rmX8_layRings : Room := { frames := 2, cells := 0, slots := 0, locals := 45 }
theorem hdX8_layRings : yX8_layRings.cls = RX8 ∧ yX8_layRings.cls ≠ "java/lang/invoke/MethodHandle" ∧ yX8_layRings.cls ≠ "java/lang/invoke/VarHandle" ∧ (parseMethodDescriptor yX8_layRings.desc).map (fun d => d.parameters.length) = some 0 := by decide +kernel
def fX8_layRings_L2  : Nat → Int32 → (Nat → Int32) → Option ((Nat → Int32))
  | 0, _, _ => none
  | n + 1, v1, ri =>
  if (9 : Int32) ≤ v1 then (
  some ri) else (
  (wrI 9 ri v1 (-1 : Int32)).bind fun ri_14 =>
  fX8_layRings_L2 n (v1 + 1) ri_14)
def fX8_layRings_L30 (w : (Nat → Int32)) : Nat → Int32 → (Nat → Int32) → Option ((Nat → Int32))
  | 0, _, _ => none
  | n + 1, v1, ri =>
  if (9 : Int32) ≤ v1 then (
  some ri) else (
  bd2 (fX8_spread w ri v1) fun x38 ri_38 =>
  if x38 = 0 then (
  some ri_38) else (
  fX8_layRings_L30 w n (v1 + 1) ri_38))
def fX8_layRings (w : (Nat → Int32)) (ri : (Nat → Int32))  : Option ((Nat → Int32)) :=
  (fX8_layRings_L2  300 (0 : Int32) ri).bind fun ri_2 =>
  (fX8_layRings_L30 w 300 (0 : Int32) (upd ri_2 0 (0 : Int32))).bind fun ri_30 =>
  some ri_30
set_option maxRecDepth 100000 in
set_option maxHeartbeats 4000000 in
theorem wX8_layRings_L2 {p : Program} {l : Launch} {e : Env} {s : State} {m : MethodId} {args : Array Value} {below : List Frame} {meth : Method} {c : Code} {Q : State → Prop} {D : va_G} {A : Nat → Prop} {cI cJ cZ cN cM : ClassId} (C : Cx p s m args c cX8_layRings 2 RX8 wsX8_layRings D (TYL cI cJ cZ cN cM) A) (a : Nat → Nat) (w : (Nat → Int32)) (kn : Int32) (kp : Int32) (sd : Int32) (ks : (Nat → Int32)) (bo : (Nat → Int32)) (bi : (Nat → Int32)) (bk : Int32) (fm : (Nat → Int32)) (tt : (Nat → Int32)) (le : Int32) (wa : (Nat → Int32)) (hd : (Nat → Int64)) (sx : (Nat → Int32)) (b1 : (Nat → Int64)) (b2 : (Nat → Int64))  (ri_o : (Nat → Int32)) (kk : WW p l e rmX8_layRings s m args below meth c Q D A 2 0 0 (mW cI cJ cZ cN cM a w kn kp sd ks bo bi bk ri_o fm tt le wa hd sx b1 b2) [(0, .ref (a 0))] 21 []) : ∀ (n : Nat) (v1 : Int32) (ri : (Nat → Int32)), fX8_layRings_L2  n v1 ri = some ri_o → WW p l e rmX8_layRings s m args below meth c Q D A 2 0 0 (mW cI cJ cZ cN cM a w kn kp sd ks bo bi bk ri fm tt le wa hd sx b1 b2) [(0, .ref (a 0)), (1, .int v1)] 2 [] := by
  intro n
  induction n with
  | zero =>
    intro v1 ri hf
    rw [fX8_layRings_L2] at hf
    cases hf
  | succ n ih =>
    intro v1 ri hf
    rw [fX8_layRings_L2] at hf
    refine q_iload_n C 1 dX8_layRings_2 rfl ?_
    refine q_bipush C 9 dX8_layRings_3 (by decide) ?_
    refine q_icmp_ge C 21 dX8_layRings_5 (by decide) hf (fun hf => ?_) (fun hf => ?_)
    · cases hf
      refine q_lv [(0, .ref (a 0))] [0] rfl ?_
      exact kk
    · refine q_aload_n C 0 dX8_layRings_8 rfl ?_
      refine q_get C 0 8 dX8_layRings_9 rfl rfl (Nat.le_of_ble_eq_true rfl) inX8_layRings_X8 lkX8_layRings_1 rfl rfl ?_
      refine q_iload_n C 1 dX8_layRings_12 rfl ?_
      refine q_iconst C (-1) dX8_layRings_13 (by decide) ?_
      refine q_iast C 5 0 (fun ri_14 => mW cI cJ cZ cN cM a w kn kp sd ks bo bi bk ri_14 fm tt le wa hd sx b1 b2) dX8_layRings_14 rfl rfl (fun _ => rfl) hf (fun ri_14 hf => ?_)
      refine q_iinc C (v1 + 1) 1 [(1, .int (v1 + 1)), (0, .ref (a 0))] dX8_layRings_15 rfl rfl (by decide) rfl ?_
      refine q_goto C 2 dX8_layRings_18 (by decide) ?_
      refine q_lv [(0, .ref (a 0)), (1, .int (v1 + 1))] [1, 0] rfl ?_
      exact ih _ _ hf
set_option maxRecDepth 100000 in
set_option maxHeartbeats 4000000 in
theorem wX8_layRings_L30 {p : Program} {l : Launch} {e : Env} {s : State} {m : MethodId} {args : Array Value} {below : List Frame} {meth : Method} {c : Code} {Q : State → Prop} {D : va_G} {A : Nat → Prop} {cI cJ cZ cN cM : ClassId} (C : Cx p s m args c cX8_layRings 2 RX8 wsX8_layRings D (TYL cI cJ cZ cN cM) A) (a : Nat → Nat) (w : (Nat → Int32)) (kn : Int32) (kp : Int32) (sd : Int32) (ks : (Nat → Int32)) (bo : (Nat → Int32)) (bi : (Nat → Int32)) (bk : Int32) (fm : (Nat → Int32)) (tt : (Nat → Int32)) (le : Int32) (wa : (Nat → Int32)) (hd : (Nat → Int64)) (sx : (Nat → Int32)) (b1 : (Nat → Int64)) (b2 : (Nat → Int64))  (ri_o : (Nat → Int32)) (kk : WW p l e rmX8_layRings s m args below meth c Q D A 2 0 0 (mW cI cJ cZ cN cM a w kn kp sd ks bo bi bk ri_o fm tt le wa hd sx b1 b2) [] 50 []) : ∀ (n : Nat) (v1 : Int32) (ri : (Nat → Int32)), fX8_layRings_L30 w n v1 ri = some ri_o → WW p l e rmX8_layRings s m args below meth c Q D A 2 0 0 (mW cI cJ cZ cN cM a w kn kp sd ks bo bi bk ri fm tt le wa hd sx b1 b2) [(0, .ref (a 0)), (1, .int v1)] 30 [] := by
  intro n
  induction n with
  | zero =>
    intro v1 ri hf
    rw [fX8_layRings_L30] at hf
    cases hf
  | succ n ih =>
    intro v1 ri hf
    rw [fX8_layRings_L30] at hf
    refine q_iload_n C 1 dX8_layRings_30 rfl ?_
    refine q_bipush C 9 dX8_layRings_31 (by decide) ?_
    refine q_icmp_ge C 50 dX8_layRings_33 (by decide) hf (fun hf => ?_) (fun hf => ?_)
    · cases hf
      refine q_lv [] [] rfl ?_
      exact kk
    · refine q_aload_n C 0 dX8_layRings_36 rfl ?_
      refine q_iload_n C 1 dX8_layRings_37 rfl ?_
      obtain ⟨x38, ri_38, hM, hf⟩ := bd2_e hf
      refine q_callVI C (mW cI cJ cZ cN cM a w kn kp sd ks bo bi bk ri_38 fm tt le wa hd sx b1 b2) (kX8_spread l D cI cJ cZ cN cM a w kn kp sd ks bo bi bk ri fm tt le wa hd sx b1 b2 v1 x38 ri_38 hM) (cwV 1 C.1.2.2.2.2 gX8_layRings_X8_spread rfl rfl rfl hdX8_spread ⟨Nat.le_of_ble_eq_true rfl, Nat.le_of_ble_eq_true rfl⟩) 0 7 rfl rfl FrX.all rfl rfl (Nat.le_of_ble_eq_true rfl) dX8_layRings_38 ⟨Nat.zero_le _, Nat.zero_le _⟩ ?_
      refine q_if_eq C 50 dX8_layRings_41 (by decide) hf (fun hf => ?_) (fun hf => ?_)
      · cases hf
        refine q_lv [] [] rfl ?_
        exact kk
      · refine q_iinc C (v1 + 1) 1 [(1, .int (v1 + 1)), (0, .ref (a 0))] dX8_layRings_44 rfl rfl (by decide) rfl ?_
        refine q_goto C 30 dX8_layRings_47 (by decide) ?_
        refine q_lv [(0, .ref (a 0)), (1, .int (v1 + 1))] [1, 0] rfl ?_
        exact ih _ _ hf
set_option maxRecDepth 100000 in
set_option maxHeartbeats 4000000 in
theorem kX8_layRings (l : Launch) (D : va_G) (cI cJ cZ cN cM : ClassId) (a : Nat → Nat) (w : (Nat → Int32)) (kn : Int32) (kp : Int32) (sd : Int32) (ks : (Nat → Int32)) (bo : (Nat → Int32)) (bi : (Nat → Int32)) (bk : Int32) (ri : (Nat → Int32)) (fm : (Nat → Int32)) (tt : (Nat → Int32)) (le : Int32) (wa : (Nat → Int32)) (hd : (Nat → Int64)) (sx : (Nat → Int32)) (b1 : (Nat → Int64)) (b2 : (Nat → Int64))  (ri_o : (Nat → Int32)) (hf : fX8_layRings w ri = some ri_o) : MetV l yX8_layRings wsX8_layRings rmX8_layRings D (TYL cI cJ cZ cN cM) [.ref (a 0)] (mW cI cJ cZ cN cM a w kn kp sd ks bo bi bk ri fm tt le wa hd sx b1 b2) (mW cI cJ cZ cN cM a w kn kp sd ks bo bi bk ri_o fm tt le wa hd sx b1 b2) := by
  refine MetV.mk (cc := cX8_layRings) (maxL := 2) (own := RX8) [(0, .ref (a 0))] (by decide +kernel) rfl rfl (Nat.le_of_ble_eq_true rfl) rfl ?_
  intro p e s m args below meth c A Q C hret
  unfold fX8_layRings at hf
  refine q_iconst C 0 dX8_layRings_0 (by decide) ?_
  refine q_istore_n C [(1, .int (0 : Int32)), (0, .ref (a 0))] dX8_layRings_1 (by decide) rfl ?_
  obtain ⟨ri_2, hL, hf⟩ := bd_e hf
  refine q_lv [(0, .ref (a 0)), (1, .int (0 : Int32))] [1, 0] rfl ?_
  refine wX8_layRings_L2 C a w kn kp sd ks bo bi bk fm tt le wa hd sx b1 b2  ri_2 ?_ 300 _ _ hL
  refine q_aload_n C 0 dX8_layRings_21 rfl ?_
  refine q_get C 0 8 dX8_layRings_22 rfl rfl (Nat.le_of_ble_eq_true rfl) inX8_layRings_X8 lkX8_layRings_1 rfl rfl ?_
  refine q_iconst C 0 dX8_layRings_25 (by decide) ?_
  refine q_iconst C 0 dX8_layRings_26 (by decide) ?_
  refine q_iastC C 5 0 (mW cI cJ cZ cN cM a w kn kp sd ks bo bi bk (upd ri_2 0 (0 : Int32)) fm tt le wa hd sx b1 b2) dX8_layRings_27 rfl rfl (by decide) rfl ?_
  refine q_iconst C 0 dX8_layRings_28 (by decide) ?_
  refine q_istore_n C [(1, .int (0 : Int32)), (0, .ref (a 0))] dX8_layRings_29 (by decide) rfl ?_
  obtain ⟨ri_30, hL, hf⟩ := bd_e hf
  refine q_lv [(0, .ref (a 0)), (1, .int (0 : Int32))] [1, 0] rfl ?_
  refine wX8_layRings_L30 C a w kn kp sd ks bo bi bk fm tt le wa hd sx b1 b2  ri_30 ?_ 300 _ _ hL
  cases hf
  exact hret _ _ dX8_layRings_50

theorem lkX8_upper_1 : Cond.fieldLink RX8 9 "TwiceHeardModel" "w" "[I" ∈ wsX8_upper := List.mem_of_getElem? (i := 1) rfl
theorem lkX8_upper_2 : Cond.fieldLink RX8 22 "TwiceHeardModel" "ring" "[I" ∈ wsX8_upper := List.mem_of_getElem? (i := 2) rfl
theorem inX8_upper_X8 : ∀ w ∈ wsX80, w ∈ wsX8_upper := fun w h => List.mem_cons_of_mem _ (List.mem_append_right _ h)
abbrev rmX8_upper : Room := { frames := 1, cells := 0, slots := 0, locals := 21 }
theorem hdX8_upper : yX8_upper.cls = RX8 ∧ yX8_upper.cls ≠ "java/lang/invoke/MethodHandle" ∧ yX8_upper.cls ≠ "java/lang/invoke/VarHandle" ∧ (parseMethodDescriptor yX8_upper.desc).map (fun d => d.parameters.length) = some 1 := by decide +kernel
def fX8_upper_L4 (w : (Nat → Int32)) (ri : (Nat → Int32)) (v1 : Int32) : Nat → Int32 → Int32 → Option (Int32)
  | 0, _, _ => none
  | n + 1, v2, v3 =>
  if (w 0) ≤ v3 then (
  some v2) else (
  (rdI 9 ri v1).bind fun x20 =>
  jn1 (fun (t0_63 : Int32) => 
  fX8_upper_L4 w ri v1 n (v2 ||| t0_63) (v3 + 1)) fun k63 =>
  jn0 (
  k63 (0 : Int32)) fun k62 =>
  if x20 ≤ 0 then (
  k62) else (
  (rdI 570 w ((3 : Int32) + v1)).bind fun x31 =>
  (fX8_has x31 v3).bind fun x33 =>
  if x33 = 0 then (
  k62) else (
  (rdI 9 ri v3).bind fun x44 =>
  (rdI 9 ri v1).bind fun x50 =>
  if x44 = (x50 - (1 : Int32)) then (
  k63 ((1 : Int32) <<< (v3 &&& 31))) else (
  k62))))
def fX8_upper (w : (Nat → Int32)) (ri : (Nat → Int32)) (v1 : Int32) : Option (Int32) :=
  (fX8_upper_L4 w ri v1 300 (0 : Int32) (0 : Int32)).bind fun v2_4 =>
  some v2_4
set_option maxRecDepth 100000 in
set_option maxHeartbeats 4000000 in
theorem wX8_upper_L4 {p : Program} {l : Launch} {e : Env} {s : State} {m : MethodId} {args : Array Value} {below : List Frame} {meth : Method} {c : Code} {Q : State → Prop} {D : va_G} {A : Nat → Prop} {cI cJ cZ cN cM : ClassId} (C : Cx p s m args c cX8_upper 4 RX8 wsX8_upper D (TYL cI cJ cZ cN cM) A) (a : Nat → Nat) (w : (Nat → Int32)) (kn : Int32) (kp : Int32) (sd : Int32) (ks : (Nat → Int32)) (bo : (Nat → Int32)) (bi : (Nat → Int32)) (bk : Int32) (ri : (Nat → Int32)) (fm : (Nat → Int32)) (tt : (Nat → Int32)) (le : Int32) (wa : (Nat → Int32)) (hd : (Nat → Int64)) (sx : (Nat → Int32)) (b1 : (Nat → Int64)) (b2 : (Nat → Int64)) (v1 : Int32) (o2 : Int32) (kk : WW p l e rmX8_upper s m args below meth c Q D A 4 0 0 (mW cI cJ cZ cN cM a w kn kp sd ks bo bi bk ri fm tt le wa hd sx b1 b2) [(2, .int o2)] 71 []) : ∀ (n : Nat) (v2 : Int32) (v3 : Int32), fX8_upper_L4 w ri v1 n v2 v3 = some o2 → WW p l e rmX8_upper s m args below meth c Q D A 4 0 0 (mW cI cJ cZ cN cM a w kn kp sd ks bo bi bk ri fm tt le wa hd sx b1 b2) [(0, .ref (a 0)), (1, .int v1), (2, .int v2), (3, .int v3)] 4 [] := by
  intro n
  induction n with
  | zero =>
    intro v2 v3 hf
    rw [fX8_upper_L4] at hf
    cases hf
  | succ n ih =>
    intro v2 v3 hf
    rw [fX8_upper_L4] at hf
    refine q_iload_n C 3 dX8_upper_4 rfl ?_
    refine q_aload_n C 0 dX8_upper_5 rfl ?_
    refine q_get C 0 0 dX8_upper_6 rfl rfl (Nat.le_of_ble_eq_true rfl) inX8_upper_X8 lkX8_upper_1 rfl rfl ?_
    refine q_iconst C 0 dX8_upper_9 (by decide) ?_
    refine q_ialdC C 1 0 dX8_upper_10 rfl rfl (by decide) (x := (w 0)) rfl ?_
    refine q_icmp_ge C 71 dX8_upper_11 (by decide) hf (fun hf => ?_) (fun hf => ?_)
    · cases hf
      refine q_lv [(2, .int v2)] [2] rfl ?_
      exact kk
    · refine q_iload_n C 2 dX8_upper_14 rfl ?_
      refine q_aload_n C 0 dX8_upper_15 rfl ?_
      refine q_get C 0 8 dX8_upper_16 rfl rfl (Nat.le_of_ble_eq_true rfl) inX8_upper_X8 lkX8_upper_2 rfl rfl ?_
      refine q_iload_n C 1 dX8_upper_19 rfl ?_
      refine q_iald C 5 0 dX8_upper_20 rfl rfl hf (fun x20 hf => ?_)
      refine jn1_e (fun (t0_63 : Int32) => WW p l e rmX8_upper s m args below meth c Q D A 4 0 0 (mW cI cJ cZ cN cM a w kn kp sd ks bo bi bk ri fm tt le wa hd sx b1 b2) [(0, .ref (a 0)), (1, .int v1), (3, .int v3)] 63 [.int t0_63, .int v2]) hf ?_ ?_
      · intro t0_63 hf
        refine q_ior C dX8_upper_63 ?_
        refine q_istore_n C [(2, .int (v2 ||| t0_63)), (0, .ref (a 0)), (1, .int v1), (3, .int v3)] dX8_upper_64 (by decide) rfl ?_
        refine q_iinc C (v3 + 1) 3 [(3, .int (v3 + 1)), (2, .int (v2 ||| t0_63)), (0, .ref (a 0)), (1, .int v1)] dX8_upper_65 rfl rfl (by decide) rfl ?_
        refine q_goto C 4 dX8_upper_68 (by decide) ?_
        refine q_lv [(0, .ref (a 0)), (1, .int v1), (2, .int (v2 ||| t0_63)), (3, .int (v3 + 1))] [2, 3, 1, 0] rfl ?_
        exact ih _ _ hf
      intro k63 J63 hf
      refine jn0_e (WW p l e rmX8_upper s m args below meth c Q D A 4 0 0 (mW cI cJ cZ cN cM a w kn kp sd ks bo bi bk ri fm tt le wa hd sx b1 b2) [(0, .ref (a 0)), (1, .int v1), (3, .int v3)] 62 [.int v2]) hf ?_ ?_
      · intro hf
        refine q_iconst C 0 dX8_upper_62 (by decide) ?_
        exact J63 _ hf
      intro k62 J62 hf
      refine q_if_le C 62 dX8_upper_21 (by decide) hf (fun hf => ?_) (fun hf => ?_)
      · refine q_lv [(0, .ref (a 0)), (1, .int v1), (3, .int v3)] [0, 1, 3] rfl ?_
        exact J62  hf
      · refine q_aload_n C 0 dX8_upper_24 rfl ?_
        refine q_get C 0 0 dX8_upper_25 rfl rfl (Nat.le_of_ble_eq_true rfl) inX8_upper_X8 lkX8_upper_1 rfl rfl ?_
        refine q_iconst C 3 dX8_upper_28 (by decide) ?_
        refine q_iload_n C 1 dX8_upper_29 rfl ?_
        refine q_iadd C dX8_upper_30 ?_
        refine q_iald C 1 0 dX8_upper_31 rfl rfl hf (fun x31 hf => ?_)
        refine q_iload_n C 3 dX8_upper_32 rfl ?_
        obtain ⟨x33, hM, hf⟩ := bd_e hf
        refine q_callSI C (mW cI cJ cZ cN cM a w kn kp sd ks bo bi bk ri fm tt le wa hd sx b1 b2) (kX8_has l D cI cJ cZ cN cM   x31 v3 x33 hM) (va_cwS 2 C.1.2.2.2.2 gX8_upper_X8_has rfl rfl rfl hdX8_has ⟨Nat.le_of_ble_eq_true rfl, Nat.le_of_ble_eq_true rfl⟩) FrX.none rfl rfl (Nat.le_of_ble_eq_true rfl) dX8_upper_33 ⟨Nat.zero_le _, Nat.zero_le _⟩ ?_
        refine q_if_eq C 62 dX8_upper_36 (by decide) hf (fun hf => ?_) (fun hf => ?_)
        · refine q_lv [(0, .ref (a 0)), (1, .int v1), (3, .int v3)] [0, 1, 3] rfl ?_
          exact J62  hf
        · refine q_aload_n C 0 dX8_upper_39 rfl ?_
          refine q_get C 0 8 dX8_upper_40 rfl rfl (Nat.le_of_ble_eq_true rfl) inX8_upper_X8 lkX8_upper_2 rfl rfl ?_
          refine q_iload_n C 3 dX8_upper_43 rfl ?_
          refine q_iald C 5 0 dX8_upper_44 rfl rfl hf (fun x44 hf => ?_)
          refine q_aload_n C 0 dX8_upper_45 rfl ?_
          refine q_get C 0 8 dX8_upper_46 rfl rfl (Nat.le_of_ble_eq_true rfl) inX8_upper_X8 lkX8_upper_2 rfl rfl ?_
          refine q_iload_n C 1 dX8_upper_49 rfl ?_
          refine q_iald C 5 0 dX8_upper_50 rfl rfl hf (fun x50 hf => ?_)
          refine q_iconst C 1 dX8_upper_51 (by decide) ?_
          refine q_isub C dX8_upper_52 ?_
          refine q_icmp_ne C 62 dX8_upper_53 (by decide) hf (fun hf => ?_) (fun hf => ?_)
          · refine q_lv [(0, .ref (a 0)), (1, .int v1), (3, .int v3)] [0, 1, 3] rfl ?_
            exact J62  hf
          · refine q_iconst C 1 dX8_upper_56 (by decide) ?_
            refine q_iload_n C 3 dX8_upper_57 rfl ?_
            refine q_ishl C dX8_upper_58 ?_
            refine q_goto C 63 dX8_upper_59 (by decide) ?_
            refine q_lv [(0, .ref (a 0)), (1, .int v1), (3, .int v3)] [0, 1, 3] rfl ?_
            exact J63 _ hf
set_option maxRecDepth 100000 in
set_option maxHeartbeats 4000000 in
theorem kX8_upper (l : Launch) (D : va_G) (cI cJ cZ cN cM : ClassId) (a : Nat → Nat) (w : (Nat → Int32)) (kn : Int32) (kp : Int32) (sd : Int32) (ks : (Nat → Int32)) (bo : (Nat → Int32)) (bi : (Nat → Int32)) (bk : Int32) (ri : (Nat → Int32)) (fm : (Nat → Int32)) (tt : (Nat → Int32)) (le : Int32) (wa : (Nat → Int32)) (hd : (Nat → Int64)) (sx : (Nat → Int32)) (b1 : (Nat → Int64)) (b2 : (Nat → Int64)) (v1 : Int32) (r : Int32) (hf : fX8_upper w ri v1 = some r) : MetI l yX8_upper wsX8_upper rmX8_upper D (TYL cI cJ cZ cN cM) [.ref (a 0), .int v1] (mW cI cJ cZ cN cM a w kn kp sd ks bo bi bk ri fm tt le wa hd sx b1 b2) (mW cI cJ cZ cN cM a w kn kp sd ks bo bi bk ri fm tt le wa hd sx b1 b2) r := by
  refine MetI.mk (cc := cX8_upper) (maxL := 4) (own := RX8) (ty := .int) [(0, .ref (a 0)), (1, .int v1)] (by decide +kernel) rfl rfl (Nat.le_of_ble_eq_true rfl) rfl ?_
  intro p e s m args below meth c A Q C hret
  unfold fX8_upper at hf
  refine q_iconst C 0 dX8_upper_0 (by decide) ?_
  refine q_istore_n C [(2, .int (0 : Int32)), (0, .ref (a 0)), (1, .int v1)] dX8_upper_1 (by decide) rfl ?_
  refine q_iconst C 0 dX8_upper_2 (by decide) ?_
  refine q_istore_n C [(3, .int (0 : Int32)), (2, .int (0 : Int32)), (0, .ref (a 0)), (1, .int v1)] dX8_upper_3 (by decide) rfl ?_
  obtain ⟨v2_4, hL, hf⟩ := bd_e hf
  refine q_lv [(0, .ref (a 0)), (1, .int v1), (2, .int (0 : Int32)), (3, .int (0 : Int32))] [2, 3, 1, 0] rfl ?_
  refine wX8_upper_L4 C a w kn kp sd ks bo bi bk ri fm tt le wa hd sx b1 b2 v1 v2_4 ?_ 300 _ _ hL
  refine q_iload_n C 0 dX8_upper_71 rfl ?_
  cases hf
  exact hret _ _ dX8_upper_72 rfl

theorem lkX8_greatestRing_1 : Cond.fieldLink RX8 9 "TwiceHeardModel" "w" "[I" ∈ wsX8_greatestRing := List.mem_of_getElem? (i := 1) rfl
theorem lkX8_greatestRing_2 : Cond.fieldLink RX8 22 "TwiceHeardModel" "ring" "[I" ∈ wsX8_greatestRing := List.mem_of_getElem? (i := 2) rfl
theorem inX8_greatestRing_X8 : ∀ w ∈ wsX80, w ∈ wsX8_greatestRing := fun w h => List.mem_cons_of_mem _ (List.mem_append_right _ h)
abbrev rmX8_greatestRing : Room := { frames := 0, cells := 0, slots := 0, locals := 0 }
theorem hdX8_greatestRing : yX8_greatestRing.cls = RX8 ∧ yX8_greatestRing.cls ≠ "java/lang/invoke/MethodHandle" ∧ yX8_greatestRing.cls ≠ "java/lang/invoke/VarHandle" ∧ (parseMethodDescriptor yX8_greatestRing.desc).map (fun d => d.parameters.length) = some 0 := by decide +kernel
def fX8_greatestRing_L4 (w : (Nat → Int32)) (ri : (Nat → Int32)) : Nat → Int32 → Int32 → Option (Int32)
  | 0, _, _ => none
  | n + 1, v1, v2 =>
  if (w 0) ≤ v2 then (
  some v1) else (
  (rdI 9 ri v2).bind fun x19 =>
  jn1 (fun (t0_34 : Int32) => 
  fX8_greatestRing_L4 w ri n t0_34 (v2 + 1)) fun k34 =>
  if x19 ≤ v1 then (
  k34 v1) else (
  (rdI 9 ri v2).bind fun x29 =>
  k34 x29))
def fX8_greatestRing (w : (Nat → Int32)) (ri : (Nat → Int32))  : Option (Int32) :=
  (fX8_greatestRing_L4 w ri 300 (0 : Int32) (0 : Int32)).bind fun v1_4 =>
  some v1_4
set_option maxRecDepth 100000 in
set_option maxHeartbeats 4000000 in
theorem wX8_greatestRing_L4 {p : Program} {l : Launch} {e : Env} {s : State} {m : MethodId} {args : Array Value} {below : List Frame} {meth : Method} {c : Code} {Q : State → Prop} {D : va_G} {A : Nat → Prop} {cI cJ cZ cN cM : ClassId} (C : Cx p s m args c cX8_greatestRing 3 RX8 wsX8_greatestRing D (TYL cI cJ cZ cN cM) A) (a : Nat → Nat) (w : (Nat → Int32)) (kn : Int32) (kp : Int32) (sd : Int32) (ks : (Nat → Int32)) (bo : (Nat → Int32)) (bi : (Nat → Int32)) (bk : Int32) (ri : (Nat → Int32)) (fm : (Nat → Int32)) (tt : (Nat → Int32)) (le : Int32) (wa : (Nat → Int32)) (hd : (Nat → Int64)) (sx : (Nat → Int32)) (b1 : (Nat → Int64)) (b2 : (Nat → Int64))  (o1 : Int32) (kk : WW p l e rmX8_greatestRing s m args below meth c Q D A 3 0 0 (mW cI cJ cZ cN cM a w kn kp sd ks bo bi bk ri fm tt le wa hd sx b1 b2) [(1, .int o1)] 41 []) : ∀ (n : Nat) (v1 : Int32) (v2 : Int32), fX8_greatestRing_L4 w ri n v1 v2 = some o1 → WW p l e rmX8_greatestRing s m args below meth c Q D A 3 0 0 (mW cI cJ cZ cN cM a w kn kp sd ks bo bi bk ri fm tt le wa hd sx b1 b2) [(0, .ref (a 0)), (1, .int v1), (2, .int v2)] 4 [] := by
  intro n
  induction n with
  | zero =>
    intro v1 v2 hf
    rw [fX8_greatestRing_L4] at hf
    cases hf
  | succ n ih =>
    intro v1 v2 hf
    rw [fX8_greatestRing_L4] at hf
    refine q_iload_n C 2 dX8_greatestRing_4 rfl ?_
    refine q_aload_n C 0 dX8_greatestRing_5 rfl ?_
    refine q_get C 0 0 dX8_greatestRing_6 rfl rfl (Nat.le_of_ble_eq_true rfl) inX8_greatestRing_X8 lkX8_greatestRing_1 rfl rfl ?_
    refine q_iconst C 0 dX8_greatestRing_9 (by decide) ?_
    refine q_ialdC C 1 0 dX8_greatestRing_10 rfl rfl (by decide) (x := (w 0)) rfl ?_
    refine q_icmp_ge C 41 dX8_greatestRing_11 (by decide) hf (fun hf => ?_) (fun hf => ?_)
    · cases hf
      refine q_lv [(1, .int v1)] [1] rfl ?_
      exact kk
    · refine q_aload_n C 0 dX8_greatestRing_14 rfl ?_
      refine q_get C 0 8 dX8_greatestRing_15 rfl rfl (Nat.le_of_ble_eq_true rfl) inX8_greatestRing_X8 lkX8_greatestRing_2 rfl rfl ?_
      refine q_iload_n C 2 dX8_greatestRing_18 rfl ?_
      refine q_iald C 5 0 dX8_greatestRing_19 rfl rfl hf (fun x19 hf => ?_)
      refine q_iload_n C 1 dX8_greatestRing_20 rfl ?_
      refine jn1_e (fun (t0_34 : Int32) => WW p l e rmX8_greatestRing s m args below meth c Q D A 3 0 0 (mW cI cJ cZ cN cM a w kn kp sd ks bo bi bk ri fm tt le wa hd sx b1 b2) [(0, .ref (a 0)), (2, .int v2)] 34 [.int t0_34]) hf ?_ ?_
      · intro t0_34 hf
        refine q_istore_n C [(1, .int t0_34), (0, .ref (a 0)), (2, .int v2)] dX8_greatestRing_34 (by decide) rfl ?_
        refine q_iinc C (v2 + 1) 2 [(2, .int (v2 + 1)), (1, .int t0_34), (0, .ref (a 0))] dX8_greatestRing_35 rfl rfl (by decide) rfl ?_
        refine q_goto C 4 dX8_greatestRing_38 (by decide) ?_
        refine q_lv [(0, .ref (a 0)), (1, .int t0_34), (2, .int (v2 + 1))] [2, 1, 0] rfl ?_
        exact ih _ _ hf
      intro k34 J34 hf
      refine q_icmp_le C 33 dX8_greatestRing_21 (by decide) hf (fun hf => ?_) (fun hf => ?_)
      · refine q_iload_n C 1 dX8_greatestRing_33 rfl ?_
        refine q_lv [(0, .ref (a 0)), (2, .int v2)] [0, 2] rfl ?_
        exact J34 _ hf
      · refine q_aload_n C 0 dX8_greatestRing_24 rfl ?_
        refine q_get C 0 8 dX8_greatestRing_25 rfl rfl (Nat.le_of_ble_eq_true rfl) inX8_greatestRing_X8 lkX8_greatestRing_2 rfl rfl ?_
        refine q_iload_n C 2 dX8_greatestRing_28 rfl ?_
        refine q_iald C 5 0 dX8_greatestRing_29 rfl rfl hf (fun x29 hf => ?_)
        refine q_goto C 34 dX8_greatestRing_30 (by decide) ?_
        refine q_lv [(0, .ref (a 0)), (2, .int v2)] [0, 2] rfl ?_
        exact J34 _ hf
set_option maxRecDepth 100000 in
set_option maxHeartbeats 4000000 in
theorem kX8_greatestRing (l : Launch) (D : va_G) (cI cJ cZ cN cM : ClassId) (a : Nat → Nat) (w : (Nat → Int32)) (kn : Int32) (kp : Int32) (sd : Int32) (ks : (Nat → Int32)) (bo : (Nat → Int32)) (bi : (Nat → Int32)) (bk : Int32) (ri : (Nat → Int32)) (fm : (Nat → Int32)) (tt : (Nat → Int32)) (le : Int32) (wa : (Nat → Int32)) (hd : (Nat → Int64)) (sx : (Nat → Int32)) (b1 : (Nat → Int64)) (b2 : (Nat → Int64))  (r : Int32) (hf : fX8_greatestRing w ri = some r) : MetI l yX8_greatestRing wsX8_greatestRing rmX8_greatestRing D (TYL cI cJ cZ cN cM) [.ref (a 0)] (mW cI cJ cZ cN cM a w kn kp sd ks bo bi bk ri fm tt le wa hd sx b1 b2) (mW cI cJ cZ cN cM a w kn kp sd ks bo bi bk ri fm tt le wa hd sx b1 b2) r := by
  refine MetI.mk (cc := cX8_greatestRing) (maxL := 3) (own := RX8) (ty := .int) [(0, .ref (a 0))] (by decide +kernel) rfl rfl (Nat.le_of_ble_eq_true rfl) rfl ?_
  intro p e s m args below meth c A Q C hret
  unfold fX8_greatestRing at hf
  refine q_iconst C 0 dX8_greatestRing_0 (by decide) ?_
  refine q_istore_n C [(1, .int (0 : Int32)), (0, .ref (a 0))] dX8_greatestRing_1 (by decide) rfl ?_
  refine q_iconst C 0 dX8_greatestRing_2 (by decide) ?_
  refine q_istore_n C [(2, .int (0 : Int32)), (1, .int (0 : Int32)), (0, .ref (a 0))] dX8_greatestRing_3 (by decide) rfl ?_
  obtain ⟨v1_4, hL, hf⟩ := bd_e hf
  refine q_lv [(0, .ref (a 0)), (1, .int (0 : Int32)), (2, .int (0 : Int32))] [2, 1, 0] rfl ?_
  refine wX8_greatestRing_L4 C a w kn kp sd ks bo bi bk ri fm tt le wa hd sx b1 b2  v1_4 ?_ 300 _ _ hL
  refine q_iload_n C 0 dX8_greatestRing_41 rfl ?_
  cases hf
  exact hret _ _ dX8_greatestRing_42 rfl

theorem lkX8_sendFrom_1 : Cond.fieldLink RX8 9 "TwiceHeardModel" "w" "[I" ∈ wsX8_sendFrom := List.mem_of_getElem? (i := 1) rfl
theorem lkX8_sendFrom_2 : Cond.fieldLink RX8 25 "TwiceHeardModel" "from" "[I" ∈ wsX8_sendFrom := List.mem_of_getElem? (i := 2) rfl
theorem lkX8_sendFrom_3 : Cond.fieldLink RX8 77 "TwiceHeardModel" "letters" "I" ∈ wsX8_sendFrom := List.mem_of_getElem? (i := 3) rfl
theorem lkX8_sendFrom_4 : Cond.fieldLink RX8 28 "TwiceHeardModel" "to" "[I" ∈ wsX8_sendFrom := List.mem_of_getElem? (i := 4) rfl
theorem inX8_sendFrom_X8 : ∀ w ∈ wsX80, w ∈ wsX8_sendFrom := fun w h => List.mem_cons_of_mem _ (List.mem_append_right _ h)
abbrev rmX8_sendFrom : Room := { frames := 2, cells := 0, slots := 0, locals := 44 }
theorem hdX8_sendFrom : yX8_sendFrom.cls = RX8 ∧ yX8_sendFrom.cls ≠ "java/lang/invoke/MethodHandle" ∧ yX8_sendFrom.cls ≠ "java/lang/invoke/VarHandle" ∧ (parseMethodDescriptor yX8_sendFrom.desc).map (fun d => d.parameters.length) = some 1 := by decide +kernel
def fX8_sendFrom_L11 (w : (Nat → Int32)) (v1 : Int32) (v2 : Int32) : Nat → Int32 → Int32 → (Nat → Int32) → (Nat → Int32) → Int32 → Option ((Nat → Int32) × (Nat → Int32) × Int32)
  | 0, _, _, _, _, _ => none
  | n + 1, v3, v4, fm, tt, le =>
  if (w 0) ≤ v4 then (
  some (fm, tt, le)) else (
  (fX8_has v2 v4).bind fun x25 =>
  jn4 (fun (u3_81 : Int32) (fm_81 : (Nat → Int32)) (tt_81 : (Nat → Int32)) (le_81 : Int32) => 
  fX8_sendFrom_L11 w v1 v2 n u3_81 (v4 + 1) fm_81 tt_81 le_81) fun k81 =>
  if x25 = 0 then (
  k81 v3 fm tt le) else (
  if v3 = 0 then (
  k81 v3 fm tt le) else (
  (wrI 40 fm le v1).bind fun fm_44 =>
  (wrI 40 tt le v4).bind fun tt_55 =>
  jn1 (fun (t0_80 : Int32) => 
  k81 t0_80 fm_44 tt_55 (le + (1 : Int32))) fun k80 =>
  if (w 2) = 0 then (
  k80 (1 : Int32)) else (
  k80 (0 : Int32)))))
def fX8_sendFrom (w : (Nat → Int32)) (ri : (Nat → Int32)) (fm : (Nat → Int32)) (tt : (Nat → Int32)) (le : Int32) (v1 : Int32) : Option ((Nat → Int32) × (Nat → Int32) × Int32) :=
  (fX8_upper w ri v1).bind fun x2 =>
  bd3 (fX8_sendFrom_L11 w v1 x2 300 (1 : Int32) (0 : Int32) fm tt le) fun fm_11 tt_11 le_11 =>
  some (fm_11, tt_11, le_11)
set_option maxRecDepth 100000 in
set_option maxHeartbeats 4000000 in
theorem wX8_sendFrom_L11 {p : Program} {l : Launch} {e : Env} {s : State} {m : MethodId} {args : Array Value} {below : List Frame} {meth : Method} {c : Code} {Q : State → Prop} {D : va_G} {A : Nat → Prop} {cI cJ cZ cN cM : ClassId} (C : Cx p s m args c cX8_sendFrom 5 RX8 wsX8_sendFrom D (TYL cI cJ cZ cN cM) A) (a : Nat → Nat) (w : (Nat → Int32)) (kn : Int32) (kp : Int32) (sd : Int32) (ks : (Nat → Int32)) (bo : (Nat → Int32)) (bi : (Nat → Int32)) (bk : Int32) (ri : (Nat → Int32)) (wa : (Nat → Int32)) (hd : (Nat → Int64)) (sx : (Nat → Int32)) (b1 : (Nat → Int64)) (b2 : (Nat → Int64)) (v1 : Int32) (v2 : Int32) (fm_o : (Nat → Int32)) (tt_o : (Nat → Int32)) (le_o : Int32) (kk : WW p l e rmX8_sendFrom s m args below meth c Q D A 5 0 0 (mW cI cJ cZ cN cM a w kn kp sd ks bo bi bk ri fm_o tt_o le_o wa hd sx b1 b2) [] 87 []) : ∀ (n : Nat) (v3 : Int32) (v4 : Int32) (fm : (Nat → Int32)) (tt : (Nat → Int32)) (le : Int32), fX8_sendFrom_L11 w v1 v2 n v3 v4 fm tt le = some (fm_o, tt_o, le_o) → WW p l e rmX8_sendFrom s m args below meth c Q D A 5 0 0 (mW cI cJ cZ cN cM a w kn kp sd ks bo bi bk ri fm tt le wa hd sx b1 b2) [(0, .ref (a 0)), (1, .int v1), (2, .int v2), (3, .int v3), (4, .int v4)] 11 [] := by
  intro n
  induction n with
  | zero =>
    intro v3 v4 fm tt le hf
    rw [fX8_sendFrom_L11] at hf
    cases hf
  | succ n ih =>
    intro v3 v4 fm tt le hf
    rw [fX8_sendFrom_L11] at hf
    refine q_iload C 4 dX8_sendFrom_11 rfl ?_
    refine q_aload_n C 0 dX8_sendFrom_13 rfl ?_
    refine q_get C 0 0 dX8_sendFrom_14 rfl rfl (Nat.le_of_ble_eq_true rfl) inX8_sendFrom_X8 lkX8_sendFrom_1 rfl rfl ?_
    refine q_iconst C 0 dX8_sendFrom_17 (by decide) ?_
    refine q_ialdC C 1 0 dX8_sendFrom_18 rfl rfl (by decide) (x := (w 0)) rfl ?_
    refine q_icmp_ge C 87 dX8_sendFrom_19 (by decide) hf (fun hf => ?_) (fun hf => ?_)
    · cases hf
      refine q_lv [] [] rfl ?_
      exact kk
    · refine q_iload_n C 2 dX8_sendFrom_22 rfl ?_
      refine q_iload C 4 dX8_sendFrom_23 rfl ?_
      obtain ⟨x25, hM, hf⟩ := bd_e hf
      refine q_callSI C (mW cI cJ cZ cN cM a w kn kp sd ks bo bi bk ri fm tt le wa hd sx b1 b2) (kX8_has l D cI cJ cZ cN cM   v2 v4 x25 hM) (va_cwS 2 C.1.2.2.2.2 gX8_sendFrom_X8_has rfl rfl rfl hdX8_has ⟨Nat.le_of_ble_eq_true rfl, Nat.le_of_ble_eq_true rfl⟩) FrX.none rfl rfl (Nat.le_of_ble_eq_true rfl) dX8_sendFrom_25 ⟨Nat.zero_le _, Nat.zero_le _⟩ ?_
      refine jn4_e (fun (u3_81 : Int32) (fm_81 : (Nat → Int32)) (tt_81 : (Nat → Int32)) (le_81 : Int32) => WW p l e rmX8_sendFrom s m args below meth c Q D A 5 0 0 (mW cI cJ cZ cN cM a w kn kp sd ks bo bi bk ri fm_81 tt_81 le_81 wa hd sx b1 b2) [(0, .ref (a 0)), (1, .int v1), (2, .int v2), (3, .int u3_81), (4, .int v4)] 81 []) hf ?_ ?_
      · intro u3_81 fm_81 tt_81 le_81 hf
        refine q_iinc C (v4 + 1) 4 [(4, .int (v4 + 1)), (0, .ref (a 0)), (1, .int v1), (2, .int v2), (3, .int u3_81)] dX8_sendFrom_81 rfl rfl (by decide) rfl ?_
        refine q_goto C 11 dX8_sendFrom_84 (by decide) ?_
        refine q_lv [(0, .ref (a 0)), (1, .int v1), (2, .int v2), (3, .int u3_81), (4, .int (v4 + 1))] [1, 2, 3, 4, 0] rfl ?_
        exact ih _ _ _ _ _ hf
      intro k81 J81 hf
      refine q_if_eq C 81 dX8_sendFrom_28 (by decide) hf (fun hf => ?_) (fun hf => ?_)
      · exact J81 _ _ _ _ hf
      · refine q_iload_n C 3 dX8_sendFrom_31 rfl ?_
        refine q_if_eq C 81 dX8_sendFrom_32 (by decide) hf (fun hf => ?_) (fun hf => ?_)
        · exact J81 _ _ _ _ hf
        · refine q_aload_n C 0 dX8_sendFrom_35 rfl ?_
          refine q_get C 0 9 dX8_sendFrom_36 rfl rfl (Nat.le_of_ble_eq_true rfl) inX8_sendFrom_X8 lkX8_sendFrom_2 rfl rfl ?_
          refine q_aload_n C 0 dX8_sendFrom_39 rfl ?_
          refine q_get C 0 11 dX8_sendFrom_40 rfl rfl (Nat.le_of_ble_eq_true rfl) inX8_sendFrom_X8 lkX8_sendFrom_3 rfl rfl ?_
          refine q_iload_n C 1 dX8_sendFrom_43 rfl ?_
          refine q_iast C 6 0 (fun fm_44 => mW cI cJ cZ cN cM a w kn kp sd ks bo bi bk ri fm_44 tt le wa hd sx b1 b2) dX8_sendFrom_44 rfl rfl (fun _ => rfl) hf (fun fm_44 hf => ?_)
          refine q_aload_n C 0 dX8_sendFrom_45 rfl ?_
          refine q_get C 0 10 dX8_sendFrom_46 rfl rfl (Nat.le_of_ble_eq_true rfl) inX8_sendFrom_X8 lkX8_sendFrom_4 rfl rfl ?_
          refine q_aload_n C 0 dX8_sendFrom_49 rfl ?_
          refine q_get C 0 11 dX8_sendFrom_50 rfl rfl (Nat.le_of_ble_eq_true rfl) inX8_sendFrom_X8 lkX8_sendFrom_3 rfl rfl ?_
          refine q_iload C 4 dX8_sendFrom_53 rfl ?_
          refine q_iast C 7 0 (fun tt_55 => mW cI cJ cZ cN cM a w kn kp sd ks bo bi bk ri fm_44 tt_55 le wa hd sx b1 b2) dX8_sendFrom_55 rfl rfl (fun _ => rfl) hf (fun tt_55 hf => ?_)
          refine q_aload_n C 0 dX8_sendFrom_56 rfl ?_
          refine q_dup C dX8_sendFrom_57 rfl ?_
          refine q_get C 0 11 dX8_sendFrom_58 rfl rfl (Nat.le_of_ble_eq_true rfl) inX8_sendFrom_X8 lkX8_sendFrom_3 rfl rfl ?_
          refine q_iconst C 1 dX8_sendFrom_61 (by decide) ?_
          refine q_iadd C dX8_sendFrom_62 ?_
          refine q_put C 0 11 (mW cI cJ cZ cN cM a w kn kp sd ks bo bi bk ri fm_44 tt_55 (le + (1 : Int32)) wa hd sx b1 b2) dX8_sendFrom_63 rfl rfl (Nat.le_of_ble_eq_true rfl) inX8_sendFrom_X8 tyX8 tyX8_ok nmX8 lkX8_sendFrom_3 rfl rfl rfl rfl (Nat.le_of_ble_eq_true rfl) rfl ?_
          refine q_aload_n C 0 dX8_sendFrom_66 rfl ?_
          refine q_get C 0 0 dX8_sendFrom_67 rfl rfl (Nat.le_of_ble_eq_true rfl) inX8_sendFrom_X8 lkX8_sendFrom_1 rfl rfl ?_
          refine q_iconst C 2 dX8_sendFrom_70 (by decide) ?_
          refine q_ialdC C 1 0 dX8_sendFrom_71 rfl rfl (by decide) (x := (w 2)) rfl ?_
          refine jn1_e (fun (t0_80 : Int32) => WW p l e rmX8_sendFrom s m args below meth c Q D A 5 0 0 (mW cI cJ cZ cN cM a w kn kp sd ks bo bi bk ri fm_44 tt_55 (le + (1 : Int32)) wa hd sx b1 b2) [(0, .ref (a 0)), (1, .int v1), (2, .int v2), (4, .int v4)] 80 [.int t0_80]) hf ?_ ?_
          · intro t0_80 hf
            refine q_istore_n C [(3, .int t0_80), (0, .ref (a 0)), (1, .int v1), (2, .int v2), (4, .int v4)] dX8_sendFrom_80 (by decide) rfl ?_
            refine q_lv [(0, .ref (a 0)), (1, .int v1), (2, .int v2), (3, .int t0_80), (4, .int v4)] [1, 2, 3, 0, 4] rfl ?_
            exact J81 _ _ _ _ hf
          intro k80 J80 hf
          refine q_if_ne C 79 dX8_sendFrom_72 (by decide) hf (fun hf => ?_) (fun hf => ?_)
          · refine q_iconst C 0 dX8_sendFrom_79 (by decide) ?_
            refine q_lv [(0, .ref (a 0)), (1, .int v1), (2, .int v2), (4, .int v4)] [0, 1, 2, 4] rfl ?_
            exact J80 _ hf
          · refine q_iconst C 1 dX8_sendFrom_75 (by decide) ?_
            refine q_goto C 80 dX8_sendFrom_76 (by decide) ?_
            refine q_lv [(0, .ref (a 0)), (1, .int v1), (2, .int v2), (4, .int v4)] [0, 1, 2, 4] rfl ?_
            exact J80 _ hf
set_option maxRecDepth 100000 in
set_option maxHeartbeats 4000000 in
theorem kX8_sendFrom (l : Launch) (D : va_G) (cI cJ cZ cN cM : ClassId) (a : Nat → Nat) (w : (Nat → Int32)) (kn : Int32) (kp : Int32) (sd : Int32) (ks : (Nat → Int32)) (bo : (Nat → Int32)) (bi : (Nat → Int32)) (bk : Int32) (ri : (Nat → Int32)) (fm : (Nat → Int32)) (tt : (Nat → Int32)) (le : Int32) (wa : (Nat → Int32)) (hd : (Nat → Int64)) (sx : (Nat → Int32)) (b1 : (Nat → Int64)) (b2 : (Nat → Int64)) (v1 : Int32) (fm_o : (Nat → Int32)) (tt_o : (Nat → Int32)) (le_o : Int32) (hf : fX8_sendFrom w ri fm tt le v1 = some (fm_o, tt_o, le_o)) : MetV l yX8_sendFrom wsX8_sendFrom rmX8_sendFrom D (TYL cI cJ cZ cN cM) [.ref (a 0), .int v1] (mW cI cJ cZ cN cM a w kn kp sd ks bo bi bk ri fm tt le wa hd sx b1 b2) (mW cI cJ cZ cN cM a w kn kp sd ks bo bi bk ri fm_o tt_o le_o wa hd sx b1 b2) := by
  refine MetV.mk (cc := cX8_sendFrom) (maxL := 5) (own := RX8) [(0, .ref (a 0)), (1, .int v1)] (by decide +kernel) rfl rfl (Nat.le_of_ble_eq_true rfl) rfl ?_
  intro p e s m args below meth c A Q C hret
  unfold fX8_sendFrom at hf
  refine q_aload_n C 0 dX8_sendFrom_0 rfl ?_
  refine q_iload_n C 1 dX8_sendFrom_1 rfl ?_
  obtain ⟨x2, hM, hf⟩ := bd_e hf
  refine q_callVI C (mW cI cJ cZ cN cM a w kn kp sd ks bo bi bk ri fm tt le wa hd sx b1 b2) (kX8_upper l D cI cJ cZ cN cM a w kn kp sd ks bo bi bk ri fm tt le wa hd sx b1 b2 v1 x2 hM) (cwV 1 C.1.2.2.2.2 gX8_sendFrom_X8_upper rfl rfl rfl hdX8_upper ⟨Nat.le_of_ble_eq_true rfl, Nat.le_of_ble_eq_true rfl⟩) 0 7 rfl rfl FrX.all rfl rfl (Nat.le_of_ble_eq_true rfl) dX8_sendFrom_2 ⟨Nat.zero_le _, Nat.zero_le _⟩ ?_
  refine q_istore_n C [(2, .int x2), (0, .ref (a 0)), (1, .int v1)] dX8_sendFrom_5 (by decide) rfl ?_
  refine q_iconst C 1 dX8_sendFrom_6 (by decide) ?_
  refine q_istore_n C [(3, .int (1 : Int32)), (2, .int x2), (0, .ref (a 0)), (1, .int v1)] dX8_sendFrom_7 (by decide) rfl ?_
  refine q_iconst C 0 dX8_sendFrom_8 (by decide) ?_
  refine q_istore C [(4, .int (0 : Int32)), (3, .int (1 : Int32)), (2, .int x2), (0, .ref (a 0)), (1, .int v1)] dX8_sendFrom_9 (by decide) rfl ?_
  obtain ⟨fm_11, tt_11, le_11, hL, hf⟩ := bd3_e hf
  refine q_lv [(0, .ref (a 0)), (1, .int v1), (2, .int x2), (3, .int (1 : Int32)), (4, .int (0 : Int32))] [3, 4, 2, 1, 0] rfl ?_
  refine wX8_sendFrom_L11 C a w kn kp sd ks bo bi bk ri wa hd sx b1 b2 v1 x2 fm_11 tt_11 le_11 ?_ 300 _ _ _ _ _ hL
  cases hf
  exact hret _ _ dX8_sendFrom_87
end
section
theorem zz_last : True := trivial
end
