-- ===== PART A: goes FIRST, ahead of the names: the tables' words, and 'selects' of the private methods out of them =====
/-- a private method of a class that the tables say can be made, by its rows of tables_1 -/
def lw_okq (q : MethodName × Nat) : Prop := (q.1.cls ≠ "java/lang/invoke/MethodHandle" ∧ q.1.cls ≠ "java/lang/invoke/VarHandle") ∧ Cond.instantiable q.1.cls q.2 ∈ tables_1 ∧ Cond.privateMethod q.1 ∈ tables_1 ∧ Cond.instanceMethod q.1 ∈ tables_1
theorem lw_p0 : lw_okq (⟨"AnchorThatDrags$Reader", "advance", "()V"⟩, 7) := ⟨⟨by decide +kernel, by decide +kernel⟩, List.mem_of_getElem? (i := 61) (by decide +kernel), List.mem_of_getElem? (i := 287) (by decide +kernel), List.mem_of_getElem? (i := 288) (by decide +kernel)⟩
theorem lw_p1 : lw_okq (⟨"AnchorThatDrags$Reader", "byteAt", "(I)I"⟩, 7) := ⟨⟨by decide +kernel, by decide +kernel⟩, List.mem_of_getElem? (i := 61) (by decide +kernel), List.mem_of_getElem? (i := 291) (by decide +kernel), List.mem_of_getElem? (i := 292) (by decide +kernel)⟩
theorem lw_p2 : lw_okq (⟨"AnchorThatDrags$Reader", "readNumber", "()V"⟩, 7) := ⟨⟨by decide +kernel, by decide +kernel⟩, List.mem_of_getElem? (i := 61) (by decide +kernel), List.mem_of_getElem? (i := 301) (by decide +kernel), List.mem_of_getElem? (i := 302) (by decide +kernel)⟩
theorem lw_p3 : lw_okq (⟨"AnchorThatDrags$Reader", "readWord", "()V"⟩, 7) := ⟨⟨by decide +kernel, by decide +kernel⟩, List.mem_of_getElem? (i := 61) (by decide +kernel), List.mem_of_getElem? (i := 308) (by decide +kernel), List.mem_of_getElem? (i := 309) (by decide +kernel)⟩
theorem lw_p4 : lw_okq (⟨"AnchorThatDrags$Reader", "stands", "(Ljava/lang/String;)Z"⟩, 7) := ⟨⟨by decide +kernel, by decide +kernel⟩, List.mem_of_getElem? (i := 61) (by decide +kernel), List.mem_of_getElem? (i := 327) (by decide +kernel), List.mem_of_getElem? (i := 328) (by decide +kernel)⟩
theorem lw_p5 : lw_okq (⟨"AnchorThatDrags$Reader", "readFrom", "(II)Z"⟩, 7) := ⟨⟨by decide +kernel, by decide +kernel⟩, List.mem_of_getElem? (i := 61) (by decide +kernel), List.mem_of_getElem? (i := 336) (by decide +kernel), List.mem_of_getElem? (i := 337) (by decide +kernel)⟩
theorem lw_p6 : lw_okq (⟨"AnchorThatDrags$Reader", "readOne", "(I)Z"⟩, 7) := ⟨⟨by decide +kernel, by decide +kernel⟩, List.mem_of_getElem? (i := 61) (by decide +kernel), List.mem_of_getElem? (i := 340) (by decide +kernel), List.mem_of_getElem? (i := 341) (by decide +kernel)⟩
theorem lw_p7 : lw_okq (⟨"AnchorThatDrags$Reader", "emit", "(I)V"⟩, 7) := ⟨⟨by decide +kernel, by decide +kernel⟩, List.mem_of_getElem? (i := 61) (by decide +kernel), List.mem_of_getElem? (i := 344) (by decide +kernel), List.mem_of_getElem? (i := 345) (by decide +kernel)⟩
theorem lw_p8 : lw_okq (⟨"AnchorThatDrags", "rule", "(I)V"⟩, 15) := ⟨⟨by decide +kernel, by decide +kernel⟩, List.mem_of_getElem? (i := 20) (by decide +kernel), List.mem_of_getElem? (i := 466) (by decide +kernel), List.mem_of_getElem? (i := 467) (by decide +kernel)⟩
theorem lw_p9 : lw_okq (⟨"AnchorThatDrags", "boatOf", "(I)LAnchorThatDrags$Boat;"⟩, 15) := ⟨⟨by decide +kernel, by decide +kernel⟩, List.mem_of_getElem? (i := 20) (by decide +kernel), List.mem_of_getElem? (i := 535) (by decide +kernel), List.mem_of_getElem? (i := 536) (by decide +kernel)⟩
theorem lw_p10 : lw_okq (⟨"AnchorThatDrags$Scales", "tell", "(LAnchorThatDrags$Boat;III)V"⟩, 5) := ⟨⟨by decide +kernel, by decide +kernel⟩, List.mem_of_getElem? (i := 92) (by decide +kernel), List.mem_of_getElem? (i := 564) (by decide +kernel), List.mem_of_getElem? (i := 565) (by decide +kernel)⟩
theorem lw_p11 : lw_okq (⟨"AnchorThatDrags$Scales", "powerTold", "(LAnchorThatDrags$Boat;)I"⟩, 5) := ⟨⟨by decide +kernel, by decide +kernel⟩, List.mem_of_getElem? (i := 92) (by decide +kernel), List.mem_of_getElem? (i := 576) (by decide +kernel), List.mem_of_getElem? (i := 577) (by decide +kernel)⟩
theorem lw_p12 : lw_okq (⟨"AnchorThatDrags", "isNight", "(I)Z"⟩, 15) := ⟨⟨by decide +kernel, by decide +kernel⟩, List.mem_of_getElem? (i := 20) (by decide +kernel), List.mem_of_getElem? (i := 591) (by decide +kernel), List.mem_of_getElem? (i := 592) (by decide +kernel)⟩
theorem lw_p13 : lw_okq (⟨"AnchorThatDrags", "sailed", "(ILAnchorThatDrags$Boat;I)LAnchorThatDrags$Course;"⟩, 15) := ⟨⟨by decide +kernel, by decide +kernel⟩, List.mem_of_getElem? (i := 20) (by decide +kernel), List.mem_of_getElem? (i := 595) (by decide +kernel), List.mem_of_getElem? (i := 596) (by decide +kernel)⟩
theorem lw_p14 : lw_okq (⟨"AnchorThatDrags", "sailAll", "(I)V"⟩, 15) := ⟨⟨by decide +kernel, by decide +kernel⟩, List.mem_of_getElem? (i := 20) (by decide +kernel), List.mem_of_getElem? (i := 652) (by decide +kernel), List.mem_of_getElem? (i := 653) (by decide +kernel)⟩
theorem lw_p15 : lw_okq (⟨"AnchorThatDrags", "meetings", "(I)I"⟩, 15) := ⟨⟨by decide +kernel, by decide +kernel⟩, List.mem_of_getElem? (i := 20) (by decide +kernel), List.mem_of_getElem? (i := 656) (by decide +kernel), List.mem_of_getElem? (i := 657) (by decide +kernel)⟩
def lw_privs_1 : List (MethodName × Nat) := [(⟨"AnchorThatDrags$Reader", "advance", "()V"⟩, 7), (⟨"AnchorThatDrags$Reader", "byteAt", "(I)I"⟩, 7), (⟨"AnchorThatDrags$Reader", "readNumber", "()V"⟩, 7), (⟨"AnchorThatDrags$Reader", "readWord", "()V"⟩, 7), (⟨"AnchorThatDrags$Reader", "stands", "(Ljava/lang/String;)Z"⟩, 7), (⟨"AnchorThatDrags$Reader", "readFrom", "(II)Z"⟩, 7), (⟨"AnchorThatDrags$Reader", "readOne", "(I)Z"⟩, 7), (⟨"AnchorThatDrags$Reader", "emit", "(I)V"⟩, 7), (⟨"AnchorThatDrags", "rule", "(I)V"⟩, 15), (⟨"AnchorThatDrags", "boatOf", "(I)LAnchorThatDrags$Boat;"⟩, 15), (⟨"AnchorThatDrags$Scales", "tell", "(LAnchorThatDrags$Boat;III)V"⟩, 5), (⟨"AnchorThatDrags$Scales", "powerTold", "(LAnchorThatDrags$Boat;)I"⟩, 5), (⟨"AnchorThatDrags", "isNight", "(I)Z"⟩, 15), (⟨"AnchorThatDrags", "sailed", "(ILAnchorThatDrags$Boat;I)LAnchorThatDrags$Course;"⟩, 15), (⟨"AnchorThatDrags", "sailAll", "(I)V"⟩, 15), (⟨"AnchorThatDrags", "meetings", "(I)I"⟩, 15)]
theorem lw_r1 : ∀ q ∈ lw_privs_1, lw_okq q := List.forall_mem_cons.mpr ⟨lw_p0, List.forall_mem_cons.mpr ⟨lw_p1, List.forall_mem_cons.mpr ⟨lw_p2, List.forall_mem_cons.mpr ⟨lw_p3, List.forall_mem_cons.mpr ⟨lw_p4, List.forall_mem_cons.mpr ⟨lw_p5, List.forall_mem_cons.mpr ⟨lw_p6, List.forall_mem_cons.mpr ⟨lw_p7, List.forall_mem_cons.mpr ⟨lw_p8, List.forall_mem_cons.mpr ⟨lw_p9, List.forall_mem_cons.mpr ⟨lw_p10, List.forall_mem_cons.mpr ⟨lw_p11, List.forall_mem_cons.mpr ⟨lw_p12, List.forall_mem_cons.mpr ⟨lw_p13, List.forall_mem_cons.mpr ⟨lw_p14, List.forall_mem_cons.mpr ⟨lw_p15, fun _ h => absurd h List.not_mem_nil⟩⟩⟩⟩⟩⟩⟩⟩⟩⟩⟩⟩⟩⟩⟩⟩
theorem lw_p16 : lw_okq (⟨"AnchorThatDrags", "lost", "()I"⟩, 15) := ⟨⟨by decide +kernel, by decide +kernel⟩, List.mem_of_getElem? (i := 20) (by decide +kernel), List.mem_of_getElem? (i := 665) (by decide +kernel), List.mem_of_getElem? (i := 666) (by decide +kernel)⟩
theorem lw_p17 : lw_okq (⟨"AnchorThatDrags", "firstToDrag", "()I"⟩, 15) := ⟨⟨by decide +kernel, by decide +kernel⟩, List.mem_of_getElem? (i := 20) (by decide +kernel), List.mem_of_getElem? (i := 669) (by decide +kernel), List.mem_of_getElem? (i := 670) (by decide +kernel)⟩
theorem lw_p18 : lw_okq (⟨"AnchorThatDrags", "stays", "(LAnchorThatDrags$Boat;III)Z"⟩, 15) := ⟨⟨by decide +kernel, by decide +kernel⟩, List.mem_of_getElem? (i := 20) (by decide +kernel), List.mem_of_getElem? (i := 689) (by decide +kernel), List.mem_of_getElem? (i := 690) (by decide +kernel)⟩
theorem lw_p19 : lw_okq (⟨"AnchorThatDrags", "meetsAnother", "(ILAnchorThatDrags$Boat;II)Z"⟩, 15) := ⟨⟨by decide +kernel, by decide +kernel⟩, List.mem_of_getElem? (i := 20) (by decide +kernel), List.mem_of_getElem? (i := 698) (by decide +kernel), List.mem_of_getElem? (i := 699) (by decide +kernel)⟩
theorem lw_p20 : lw_okq (⟨"AnchorThatDrags", "waysToMeet", "(LAnchorThatDrags$Boat;LAnchorThatDrags$Boat;)I"⟩, 15) := ⟨⟨by decide +kernel, by decide +kernel⟩, List.mem_of_getElem? (i := 20) (by decide +kernel), List.mem_of_getElem? (i := 707) (by decide +kernel), List.mem_of_getElem? (i := 708) (by decide +kernel)⟩
theorem lw_p21 : lw_okq (⟨"AnchorThatDrags", "dueWith", "(ILAnchorThatDrags$Boat;IIIII)I"⟩, 15) := ⟨⟨by decide +kernel, by decide +kernel⟩, List.mem_of_getElem? (i := 20) (by decide +kernel), List.mem_of_getElem? (i := 752) (by decide +kernel), List.mem_of_getElem? (i := 753) (by decide +kernel)⟩
theorem lw_p22 : lw_okq (⟨"AnchorThatDrags", "leastDue", "(LAnchorThatDrags$Boat;IIIII)I"⟩, 15) := ⟨⟨by decide +kernel, by decide +kernel⟩, List.mem_of_getElem? (i := 20) (by decide +kernel), List.mem_of_getElem? (i := 758) (by decide +kernel), List.mem_of_getElem? (i := 759) (by decide +kernel)⟩
theorem lw_p23 : lw_okq (⟨"AnchorThatDrags", "borneByEach", "(LAnchorThatDrags$Boat;II)I"⟩, 15) := ⟨⟨by decide +kernel, by decide +kernel⟩, List.mem_of_getElem? (i := 20) (by decide +kernel), List.mem_of_getElem? (i := 767) (by decide +kernel), List.mem_of_getElem? (i := 768) (by decide +kernel)⟩
theorem lw_p24 : lw_okq (⟨"AnchorThatDrags", "twoHold", "(LAnchorThatDrags$Boat;II)Z"⟩, 15) := ⟨⟨by decide +kernel, by decide +kernel⟩, List.mem_of_getElem? (i := 20) (by decide +kernel), List.mem_of_getElem? (i := 773) (by decide +kernel), List.mem_of_getElem? (i := 774) (by decide +kernel)⟩
theorem lw_p25 : lw_okq (⟨"AnchorThatDrags", "twoHoldAll", "(LAnchorThatDrags$Boat;II)Z"⟩, 15) := ⟨⟨by decide +kernel, by decide +kernel⟩, List.mem_of_getElem? (i := 20) (by decide +kernel), List.mem_of_getElem? (i := 781) (by decide +kernel), List.mem_of_getElem? (i := 782) (by decide +kernel)⟩
theorem lw_p26 : lw_okq (⟨"AnchorThatDrags", "sheetOf", "(I)LAnchorThatDrags$Sheet;"⟩, 15) := ⟨⟨by decide +kernel, by decide +kernel⟩, List.mem_of_getElem? (i := 20) (by decide +kernel), List.mem_of_getElem? (i := 844) (by decide +kernel), List.mem_of_getElem? (i := 845) (by decide +kernel)⟩
theorem lw_p27 : lw_okq (⟨"AnchorThatDrags", "filmRefusal", "(LAnchorThatDrags$Sheet;)I"⟩, 15) := ⟨⟨by decide +kernel, by decide +kernel⟩, List.mem_of_getElem? (i := 20) (by decide +kernel), List.mem_of_getElem? (i := 848) (by decide +kernel), List.mem_of_getElem? (i := 849) (by decide +kernel)⟩
theorem lw_p28 : lw_okq (⟨"AnchorThatDrags", "firstElsewhere", "(ILAnchorThatDrags$Boat;LAnchorThatDrags$Sheet;)I"⟩, 15) := ⟨⟨by decide +kernel, by decide +kernel⟩, List.mem_of_getElem? (i := 20) (by decide +kernel), List.mem_of_getElem? (i := 856) (by decide +kernel), List.mem_of_getElem? (i := 857) (by decide +kernel)⟩
theorem lw_p29 : lw_okq (⟨"AnchorThatDrags", "draw", "(I)V"⟩, 15) := ⟨⟨by decide +kernel, by decide +kernel⟩, List.mem_of_getElem? (i := 20) (by decide +kernel), List.mem_of_getElem? (i := 889) (by decide +kernel), List.mem_of_getElem? (i := 890) (by decide +kernel)⟩
theorem lw_p30 : lw_okq (⟨"AnchorThatDragsModel", "next", "()V"⟩, 56) := ⟨⟨by decide +kernel, by decide +kernel⟩, List.mem_of_getElem? (i := 945) (by decide +kernel), List.mem_of_getElem? (i := 955) (by decide +kernel), List.mem_of_getElem? (i := 956) (by decide +kernel)⟩
theorem lw_p31 : lw_okq (⟨"AnchorThatDragsModel", "wordFrom", "(II)I"⟩, 56) := ⟨⟨by decide +kernel, by decide +kernel⟩, List.mem_of_getElem? (i := 945) (by decide +kernel), List.mem_of_getElem? (i := 962) (by decide +kernel), List.mem_of_getElem? (i := 963) (by decide +kernel)⟩
def lw_privs_2 : List (MethodName × Nat) := [(⟨"AnchorThatDrags", "lost", "()I"⟩, 15), (⟨"AnchorThatDrags", "firstToDrag", "()I"⟩, 15), (⟨"AnchorThatDrags", "stays", "(LAnchorThatDrags$Boat;III)Z"⟩, 15), (⟨"AnchorThatDrags", "meetsAnother", "(ILAnchorThatDrags$Boat;II)Z"⟩, 15), (⟨"AnchorThatDrags", "waysToMeet", "(LAnchorThatDrags$Boat;LAnchorThatDrags$Boat;)I"⟩, 15), (⟨"AnchorThatDrags", "dueWith", "(ILAnchorThatDrags$Boat;IIIII)I"⟩, 15), (⟨"AnchorThatDrags", "leastDue", "(LAnchorThatDrags$Boat;IIIII)I"⟩, 15), (⟨"AnchorThatDrags", "borneByEach", "(LAnchorThatDrags$Boat;II)I"⟩, 15), (⟨"AnchorThatDrags", "twoHold", "(LAnchorThatDrags$Boat;II)Z"⟩, 15), (⟨"AnchorThatDrags", "twoHoldAll", "(LAnchorThatDrags$Boat;II)Z"⟩, 15), (⟨"AnchorThatDrags", "sheetOf", "(I)LAnchorThatDrags$Sheet;"⟩, 15), (⟨"AnchorThatDrags", "filmRefusal", "(LAnchorThatDrags$Sheet;)I"⟩, 15), (⟨"AnchorThatDrags", "firstElsewhere", "(ILAnchorThatDrags$Boat;LAnchorThatDrags$Sheet;)I"⟩, 15), (⟨"AnchorThatDrags", "draw", "(I)V"⟩, 15), (⟨"AnchorThatDragsModel", "next", "()V"⟩, 56), (⟨"AnchorThatDragsModel", "wordFrom", "(II)I"⟩, 56)]
theorem lw_r2 : ∀ q ∈ lw_privs_2, lw_okq q := List.forall_mem_cons.mpr ⟨lw_p16, List.forall_mem_cons.mpr ⟨lw_p17, List.forall_mem_cons.mpr ⟨lw_p18, List.forall_mem_cons.mpr ⟨lw_p19, List.forall_mem_cons.mpr ⟨lw_p20, List.forall_mem_cons.mpr ⟨lw_p21, List.forall_mem_cons.mpr ⟨lw_p22, List.forall_mem_cons.mpr ⟨lw_p23, List.forall_mem_cons.mpr ⟨lw_p24, List.forall_mem_cons.mpr ⟨lw_p25, List.forall_mem_cons.mpr ⟨lw_p26, List.forall_mem_cons.mpr ⟨lw_p27, List.forall_mem_cons.mpr ⟨lw_p28, List.forall_mem_cons.mpr ⟨lw_p29, List.forall_mem_cons.mpr ⟨lw_p30, List.forall_mem_cons.mpr ⟨lw_p31, fun _ h => absurd h List.not_mem_nil⟩⟩⟩⟩⟩⟩⟩⟩⟩⟩⟩⟩⟩⟩⟩⟩
theorem lw_p32 : lw_okq (⟨"AnchorThatDragsModel", "eRead", "()Z"⟩, 56) := ⟨⟨by decide +kernel, by decide +kernel⟩, List.mem_of_getElem? (i := 945) (by decide +kernel), List.mem_of_getElem? (i := 966) (by decide +kernel), List.mem_of_getElem? (i := 967) (by decide +kernel)⟩
theorem lw_p33 : lw_okq (⟨"AnchorThatDragsModel", "puts", "(I)V"⟩, 56) := ⟨⟨by decide +kernel, by decide +kernel⟩, List.mem_of_getElem? (i := 945) (by decide +kernel), List.mem_of_getElem? (i := 971) (by decide +kernel), List.mem_of_getElem? (i := 972) (by decide +kernel)⟩
theorem lw_p34 : lw_okq (⟨"AnchorThatDragsModel", "unwinds", "(I)V"⟩, 56) := ⟨⟨by decide +kernel, by decide +kernel⟩, List.mem_of_getElem? (i := 945) (by decide +kernel), List.mem_of_getElem? (i := 975) (by decide +kernel), List.mem_of_getElem? (i := 976) (by decide +kernel)⟩
theorem lw_p35 : lw_okq (⟨"AnchorThatDragsModel", "opensOne", "(I)Z"⟩, 56) := ⟨⟨by decide +kernel, by decide +kernel⟩, List.mem_of_getElem? (i := 945) (by decide +kernel), List.mem_of_getElem? (i := 982) (by decide +kernel), List.mem_of_getElem? (i := 983) (by decide +kernel)⟩
theorem lw_p36 : lw_okq (⟨"AnchorThatDragsModel", "keeps", "(I)V"⟩, 56) := ⟨⟨by decide +kernel, by decide +kernel⟩, List.mem_of_getElem? (i := 945) (by decide +kernel), List.mem_of_getElem? (i := 986) (by decide +kernel), List.mem_of_getElem? (i := 987) (by decide +kernel)⟩
theorem lw_p37 : lw_okq (⟨"AnchorThatDragsModel", "signOf", "()I"⟩, 56) := ⟨⟨by decide +kernel, by decide +kernel⟩, List.mem_of_getElem? (i := 945) (by decide +kernel), List.mem_of_getElem? (i := 990) (by decide +kernel), List.mem_of_getElem? (i := 991) (by decide +kernel)⟩
theorem lw_p38 : lw_okq (⟨"AnchorThatDragsModel", "between", "(I)Z"⟩, 56) := ⟨⟨by decide +kernel, by decide +kernel⟩, List.mem_of_getElem? (i := 945) (by decide +kernel), List.mem_of_getElem? (i := 994) (by decide +kernel), List.mem_of_getElem? (i := 995) (by decide +kernel)⟩
theorem lw_p39 : lw_okq (⟨"AnchorThatDragsModel", "sounds", "(III)V"⟩, 56) := ⟨⟨by decide +kernel, by decide +kernel⟩, List.mem_of_getElem? (i := 945) (by decide +kernel), List.mem_of_getElem? (i := 1177) (by decide +kernel), List.mem_of_getElem? (i := 1178) (by decide +kernel)⟩
theorem lw_p40 : lw_okq (⟨"AnchorThatDragsModel", "names", "(IIIIII)V"⟩, 56) := ⟨⟨by decide +kernel, by decide +kernel⟩, List.mem_of_getElem? (i := 945) (by decide +kernel), List.mem_of_getElem? (i := 1216) (by decide +kernel), List.mem_of_getElem? (i := 1217) (by decide +kernel)⟩
theorem lw_p41 : lw_okq (⟨"AnchorThatDragsModel", "worth", "(I)I"⟩, 56) := ⟨⟨by decide +kernel, by decide +kernel⟩, List.mem_of_getElem? (i := 945) (by decide +kernel), List.mem_of_getElem? (i := 1220) (by decide +kernel), List.mem_of_getElem? (i := 1221) (by decide +kernel)⟩
theorem lw_p42 : lw_okq (⟨"AnchorThatDragsModel", "isBoat", "(I)Z"⟩, 56) := ⟨⟨by decide +kernel, by decide +kernel⟩, List.mem_of_getElem? (i := 945) (by decide +kernel), List.mem_of_getElem? (i := 1238) (by decide +kernel), List.mem_of_getElem? (i := 1239) (by decide +kernel)⟩
theorem lw_p43 : lw_okq (⟨"AnchorThatDragsModel", "pullOf", "(IIII)I"⟩, 56) := ⟨⟨by decide +kernel, by decide +kernel⟩, List.mem_of_getElem? (i := 945) (by decide +kernel), List.mem_of_getElem? (i := 1250) (by decide +kernel), List.mem_of_getElem? (i := 1251) (by decide +kernel)⟩
theorem lw_p44 : lw_okq (⟨"AnchorThatDragsModel", "namesOf", "(IIII)V"⟩, 56) := ⟨⟨by decide +kernel, by decide +kernel⟩, List.mem_of_getElem? (i := 945) (by decide +kernel), List.mem_of_getElem? (i := 1254) (by decide +kernel), List.mem_of_getElem? (i := 1255) (by decide +kernel)⟩
theorem lw_p45 : lw_okq (⟨"AnchorThatDragsModel", "windIn", "(I)I"⟩, 56) := ⟨⟨by decide +kernel, by decide +kernel⟩, List.mem_of_getElem? (i := 945) (by decide +kernel), List.mem_of_getElem? (i := 1258) (by decide +kernel), List.mem_of_getElem? (i := 1259) (by decide +kernel)⟩
theorem lw_p46 : lw_okq (⟨"AnchorThatDragsModel", "deepAt", "(II)I"⟩, 56) := ⟨⟨by decide +kernel, by decide +kernel⟩, List.mem_of_getElem? (i := 945) (by decide +kernel), List.mem_of_getElem? (i := 1262) (by decide +kernel), List.mem_of_getElem? (i := 1263) (by decide +kernel)⟩
theorem lw_p47 : lw_okq (⟨"AnchorThatDragsModel", "powerOf", "(IIII)I"⟩, 56) := ⟨⟨by decide +kernel, by decide +kernel⟩, List.mem_of_getElem? (i := 945) (by decide +kernel), List.mem_of_getElem? (i := 1266) (by decide +kernel), List.mem_of_getElem? (i := 1267) (by decide +kernel)⟩
def lw_privs_3 : List (MethodName × Nat) := [(⟨"AnchorThatDragsModel", "eRead", "()Z"⟩, 56), (⟨"AnchorThatDragsModel", "puts", "(I)V"⟩, 56), (⟨"AnchorThatDragsModel", "unwinds", "(I)V"⟩, 56), (⟨"AnchorThatDragsModel", "opensOne", "(I)Z"⟩, 56), (⟨"AnchorThatDragsModel", "keeps", "(I)V"⟩, 56), (⟨"AnchorThatDragsModel", "signOf", "()I"⟩, 56), (⟨"AnchorThatDragsModel", "between", "(I)Z"⟩, 56), (⟨"AnchorThatDragsModel", "sounds", "(III)V"⟩, 56), (⟨"AnchorThatDragsModel", "names", "(IIIIII)V"⟩, 56), (⟨"AnchorThatDragsModel", "worth", "(I)I"⟩, 56), (⟨"AnchorThatDragsModel", "isBoat", "(I)Z"⟩, 56), (⟨"AnchorThatDragsModel", "pullOf", "(IIII)I"⟩, 56), (⟨"AnchorThatDragsModel", "namesOf", "(IIII)V"⟩, 56), (⟨"AnchorThatDragsModel", "windIn", "(I)I"⟩, 56), (⟨"AnchorThatDragsModel", "deepAt", "(II)I"⟩, 56), (⟨"AnchorThatDragsModel", "powerOf", "(IIII)I"⟩, 56)]
theorem lw_r3 : ∀ q ∈ lw_privs_3, lw_okq q := List.forall_mem_cons.mpr ⟨lw_p32, List.forall_mem_cons.mpr ⟨lw_p33, List.forall_mem_cons.mpr ⟨lw_p34, List.forall_mem_cons.mpr ⟨lw_p35, List.forall_mem_cons.mpr ⟨lw_p36, List.forall_mem_cons.mpr ⟨lw_p37, List.forall_mem_cons.mpr ⟨lw_p38, List.forall_mem_cons.mpr ⟨lw_p39, List.forall_mem_cons.mpr ⟨lw_p40, List.forall_mem_cons.mpr ⟨lw_p41, List.forall_mem_cons.mpr ⟨lw_p42, List.forall_mem_cons.mpr ⟨lw_p43, List.forall_mem_cons.mpr ⟨lw_p44, List.forall_mem_cons.mpr ⟨lw_p45, List.forall_mem_cons.mpr ⟨lw_p46, List.forall_mem_cons.mpr ⟨lw_p47, fun _ h => absurd h List.not_mem_nil⟩⟩⟩⟩⟩⟩⟩⟩⟩⟩⟩⟩⟩⟩⟩⟩
theorem lw_p48 : lw_okq (⟨"AnchorThatDragsModel", "farOff", "(III)I"⟩, 56) := ⟨⟨by decide +kernel, by decide +kernel⟩, List.mem_of_getElem? (i := 945) (by decide +kernel), List.mem_of_getElem? (i := 1270) (by decide +kernel), List.mem_of_getElem? (i := 1271) (by decide +kernel)⟩
theorem lw_p49 : lw_okq (⟨"AnchorThatDragsModel", "isNight", "(I)Z"⟩, 56) := ⟨⟨by decide +kernel, by decide +kernel⟩, List.mem_of_getElem? (i := 945) (by decide +kernel), List.mem_of_getElem? (i := 1278) (by decide +kernel), List.mem_of_getElem? (i := 1279) (by decide +kernel)⟩
theorem lw_p50 : lw_okq (⟨"AnchorThatDragsModel", "goes", "(I)V"⟩, 56) := ⟨⟨by decide +kernel, by decide +kernel⟩, List.mem_of_getElem? (i := 945) (by decide +kernel), List.mem_of_getElem? (i := 1282) (by decide +kernel), List.mem_of_getElem? (i := 1283) (by decide +kernel)⟩
theorem lw_p51 : lw_okq (⟨"AnchorThatDragsModel", "begins", "()V"⟩, 56) := ⟨⟨by decide +kernel, by decide +kernel⟩, List.mem_of_getElem? (i := 945) (by decide +kernel), List.mem_of_getElem? (i := 1286) (by decide +kernel), List.mem_of_getElem? (i := 1287) (by decide +kernel)⟩
theorem lw_p52 : lw_okq (⟨"AnchorThatDragsModel", "passes", "(I)V"⟩, 56) := ⟨⟨by decide +kernel, by decide +kernel⟩, List.mem_of_getElem? (i := 945) (by decide +kernel), List.mem_of_getElem? (i := 1290) (by decide +kernel), List.mem_of_getElem? (i := 1291) (by decide +kernel)⟩
theorem lw_p53 : lw_okq (⟨"AnchorThatDragsModel", "drags", "(IIIIII)Z"⟩, 56) := ⟨⟨by decide +kernel, by decide +kernel⟩, List.mem_of_getElem? (i := 945) (by decide +kernel), List.mem_of_getElem? (i := 1294) (by decide +kernel), List.mem_of_getElem? (i := 1295) (by decide +kernel)⟩
theorem lw_p54 : lw_okq (⟨"AnchorThatDragsModel", "turnIn", "(I)I"⟩, 56) := ⟨⟨by decide +kernel, by decide +kernel⟩, List.mem_of_getElem? (i := 945) (by decide +kernel), List.mem_of_getElem? (i := 1298) (by decide +kernel), List.mem_of_getElem? (i := 1299) (by decide +kernel)⟩
theorem lw_p55 : lw_okq (⟨"AnchorThatDragsModel", "further", "(II)I"⟩, 56) := ⟨⟨by decide +kernel, by decide +kernel⟩, List.mem_of_getElem? (i := 945) (by decide +kernel), List.mem_of_getElem? (i := 1305) (by decide +kernel), List.mem_of_getElem? (i := 1306) (by decide +kernel)⟩
theorem lw_p56 : lw_okq (⟨"AnchorThatDragsModel", "lies", "(III)I"⟩, 56) := ⟨⟨by decide +kernel, by decide +kernel⟩, List.mem_of_getElem? (i := 945) (by decide +kernel), List.mem_of_getElem? (i := 1312) (by decide +kernel), List.mem_of_getElem? (i := 1313) (by decide +kernel)⟩
theorem lw_p57 : lw_okq (⟨"AnchorThatDragsModel", "meets", "(I)Z"⟩, 56) := ⟨⟨by decide +kernel, by decide +kernel⟩, List.mem_of_getElem? (i := 945) (by decide +kernel), List.mem_of_getElem? (i := 1340) (by decide +kernel), List.mem_of_getElem? (i := 1341) (by decide +kernel)⟩
theorem lw_p58 : lw_okq (⟨"AnchorThatDragsModel", "ringsOf", "(II)I"⟩, 56) := ⟨⟨by decide +kernel, by decide +kernel⟩, List.mem_of_getElem? (i := 945) (by decide +kernel), List.mem_of_getElem? (i := 1348) (by decide +kernel), List.mem_of_getElem? (i := 1349) (by decide +kernel)⟩
theorem lw_p59 : lw_okq (⟨"AnchorThatDragsModel", "alarms", "(III)I"⟩, 56) := ⟨⟨by decide +kernel, by decide +kernel⟩, List.mem_of_getElem? (i := 945) (by decide +kernel), List.mem_of_getElem? (i := 1360) (by decide +kernel), List.mem_of_getElem? (i := 1361) (by decide +kernel)⟩
theorem lw_p60 : lw_okq (⟨"AnchorThatDragsModel", "byAct", "(IIIIIII)I"⟩, 56) := ⟨⟨by decide +kernel, by decide +kernel⟩, List.mem_of_getElem? (i := 945) (by decide +kernel), List.mem_of_getElem? (i := 1387) (by decide +kernel), List.mem_of_getElem? (i := 1388) (by decide +kernel)⟩
theorem lw_p61 : lw_okq (⟨"AnchorThatDragsModel", "leastFrom", "(IIIIII)I"⟩, 56) := ⟨⟨by decide +kernel, by decide +kernel⟩, List.mem_of_getElem? (i := 945) (by decide +kernel), List.mem_of_getElem? (i := 1391) (by decide +kernel), List.mem_of_getElem? (i := 1392) (by decide +kernel)⟩
theorem lw_p62 : lw_okq (⟨"AnchorThatDragsModel", "bearsOf", "(III)I"⟩, 56) := ⟨⟨by decide +kernel, by decide +kernel⟩, List.mem_of_getElem? (i := 945) (by decide +kernel), List.mem_of_getElem? (i := 1399) (by decide +kernel), List.mem_of_getElem? (i := 1400) (by decide +kernel)⟩
theorem lw_p63 : lw_okq (⟨"AnchorThatDragsModel", "bears", "(III)Z"⟩, 56) := ⟨⟨by decide +kernel, by decide +kernel⟩, List.mem_of_getElem? (i := 945) (by decide +kernel), List.mem_of_getElem? (i := 1403) (by decide +kernel), List.mem_of_getElem? (i := 1404) (by decide +kernel)⟩
def lw_privs_4 : List (MethodName × Nat) := [(⟨"AnchorThatDragsModel", "farOff", "(III)I"⟩, 56), (⟨"AnchorThatDragsModel", "isNight", "(I)Z"⟩, 56), (⟨"AnchorThatDragsModel", "goes", "(I)V"⟩, 56), (⟨"AnchorThatDragsModel", "begins", "()V"⟩, 56), (⟨"AnchorThatDragsModel", "passes", "(I)V"⟩, 56), (⟨"AnchorThatDragsModel", "drags", "(IIIIII)Z"⟩, 56), (⟨"AnchorThatDragsModel", "turnIn", "(I)I"⟩, 56), (⟨"AnchorThatDragsModel", "further", "(II)I"⟩, 56), (⟨"AnchorThatDragsModel", "lies", "(III)I"⟩, 56), (⟨"AnchorThatDragsModel", "meets", "(I)Z"⟩, 56), (⟨"AnchorThatDragsModel", "ringsOf", "(II)I"⟩, 56), (⟨"AnchorThatDragsModel", "alarms", "(III)I"⟩, 56), (⟨"AnchorThatDragsModel", "byAct", "(IIIIIII)I"⟩, 56), (⟨"AnchorThatDragsModel", "leastFrom", "(IIIIII)I"⟩, 56), (⟨"AnchorThatDragsModel", "bearsOf", "(III)I"⟩, 56), (⟨"AnchorThatDragsModel", "bears", "(III)Z"⟩, 56)]
theorem lw_r4 : ∀ q ∈ lw_privs_4, lw_okq q := List.forall_mem_cons.mpr ⟨lw_p48, List.forall_mem_cons.mpr ⟨lw_p49, List.forall_mem_cons.mpr ⟨lw_p50, List.forall_mem_cons.mpr ⟨lw_p51, List.forall_mem_cons.mpr ⟨lw_p52, List.forall_mem_cons.mpr ⟨lw_p53, List.forall_mem_cons.mpr ⟨lw_p54, List.forall_mem_cons.mpr ⟨lw_p55, List.forall_mem_cons.mpr ⟨lw_p56, List.forall_mem_cons.mpr ⟨lw_p57, List.forall_mem_cons.mpr ⟨lw_p58, List.forall_mem_cons.mpr ⟨lw_p59, List.forall_mem_cons.mpr ⟨lw_p60, List.forall_mem_cons.mpr ⟨lw_p61, List.forall_mem_cons.mpr ⟨lw_p62, List.forall_mem_cons.mpr ⟨lw_p63, fun _ h => absurd h List.not_mem_nil⟩⟩⟩⟩⟩⟩⟩⟩⟩⟩⟩⟩⟩⟩⟩⟩
theorem lw_p64 : lw_okq (⟨"AnchorThatDragsModel", "isLikelier", "(II)Z"⟩, 56) := ⟨⟨by decide +kernel, by decide +kernel⟩, List.mem_of_getElem? (i := 945) (by decide +kernel), List.mem_of_getElem? (i := 1438) (by decide +kernel), List.mem_of_getElem? (i := 1439) (by decide +kernel)⟩
theorem lw_p65 : lw_okq (⟨"AnchorThatDragsModel", "leastLikely", "(I)I"⟩, 56) := ⟨⟨by decide +kernel, by decide +kernel⟩, List.mem_of_getElem? (i := 945) (by decide +kernel), List.mem_of_getElem? (i := 1446) (by decide +kernel), List.mem_of_getElem? (i := 1447) (by decide +kernel)⟩
theorem lw_p66 : lw_okq (⟨"AnchorThatDragsModel", "filmWrong", "(I)I"⟩, 56) := ⟨⟨by decide +kernel, by decide +kernel⟩, List.mem_of_getElem? (i := 945) (by decide +kernel), List.mem_of_getElem? (i := 1454) (by decide +kernel), List.mem_of_getElem? (i := 1455) (by decide +kernel)⟩
theorem lw_p67 : lw_okq (⟨"AnchorThatDragsModel", "elsewhere", "(II)I"⟩, 56) := ⟨⟨by decide +kernel, by decide +kernel⟩, List.mem_of_getElem? (i := 945) (by decide +kernel), List.mem_of_getElem? (i := 1458) (by decide +kernel), List.mem_of_getElem? (i := 1459) (by decide +kernel)⟩
theorem lw_p68 : lw_okq (⟨"AnchorThatDragsModel", "draws", "(II)V"⟩, 56) := ⟨⟨by decide +kernel, by decide +kernel⟩, List.mem_of_getElem? (i := 945) (by decide +kernel), List.mem_of_getElem? (i := 1479) (by decide +kernel), List.mem_of_getElem? (i := 1480) (by decide +kernel)⟩
def lw_privs_5 : List (MethodName × Nat) := [(⟨"AnchorThatDragsModel", "isLikelier", "(II)Z"⟩, 56), (⟨"AnchorThatDragsModel", "leastLikely", "(I)I"⟩, 56), (⟨"AnchorThatDragsModel", "filmWrong", "(I)I"⟩, 56), (⟨"AnchorThatDragsModel", "elsewhere", "(II)I"⟩, 56), (⟨"AnchorThatDragsModel", "draws", "(II)V"⟩, 56)]
theorem lw_r5 : ∀ q ∈ lw_privs_5, lw_okq q := List.forall_mem_cons.mpr ⟨lw_p64, List.forall_mem_cons.mpr ⟨lw_p65, List.forall_mem_cons.mpr ⟨lw_p66, List.forall_mem_cons.mpr ⟨lw_p67, List.forall_mem_cons.mpr ⟨lw_p68, fun _ h => absurd h List.not_mem_nil⟩⟩⟩⟩⟩
def lw_privs : List (MethodName × Nat) := lw_privs_1 ++ (lw_privs_2 ++ (lw_privs_3 ++ (lw_privs_4 ++ (lw_privs_5))))
def lw_tbl : List Cond := k2_sels lw_privs ++ tables_1
theorem lw_privs_ok : ∀ q ∈ lw_privs, lw_okq q := by
  show ∀ q ∈ lw_privs_1 ++ (lw_privs_2 ++ (lw_privs_3 ++ (lw_privs_4 ++ (lw_privs_5)))), lw_okq q
  exact List.forall_mem_append.mpr ⟨lw_r1, List.forall_mem_append.mpr ⟨lw_r2, List.forall_mem_append.mpr ⟨lw_r3, List.forall_mem_append.mpr ⟨lw_r4, lw_r5⟩⟩⟩⟩

/-! ===== BEGIN words of one list among another's, by their places ===== -/
theorem goodIn_r {big : List Cond} (ws : List Cond) (ps : List Nat) (hp : ws = ps.filterMap (fun i => big[i]?)) (h : ws.all goodWord = true) : GoodIn big ws := by
  intro w hw
  have h1 := List.all_eq_true.mp h w hw
  rw [hp] at hw
  obtain ⟨i, -, hi⟩ := List.mem_filterMap.mp hw
  have hm : w ∈ big := by first | exact List.mem_of_getElem? hi | exact List.getElem?_mem hi
  exact ⟨hm, good_of_word h1⟩
theorem goodIn_app {big a b : List Cond} (ha : GoodIn big a) (hb : GoodIn big b) : GoodIn big (a ++ b) := fun w h => (List.mem_append.mp h).elim (ha w) (hb w)
theorem goodIn_ca {big a b : List Cond} {c : Cond} (ha : GoodIn big (c :: a)) (hb : GoodIn big b) : GoodIn big (c :: (a ++ b)) := fun w h => (List.mem_cons.mp h).elim (fun e => ha w (List.mem_cons.mpr (Or.inl e))) (fun h => (List.mem_append.mp h).elim (fun h => ha w (List.mem_cons.mpr (Or.inr h))) (hb w))
theorem goodIn_sub {big ws : List Cond} (hm : ∀ w ∈ ws, w ∈ big) (h : ws.all goodWord = true) : GoodIn big ws := fun w hw => ⟨hm w hw, good_of_word (List.all_eq_true.mp h w hw)⟩
/-! ===== END ===== -/

/-! ===== BEGIN printed: names, fields, word lists, decode rows ===== -/
def RX0 : String := "AnchorThatDrags$Bay"
def TX0 : u_T := fun k => match k with
  | 0 => ("AnchorThatDrags$Bay", "depth", "[I", true)
  | 1 => ("AnchorThatDrags$Bay", "bed", "[I", true)
  | 2 => ("AnchorThatDrags$Bay", "way", "[I", true)
  | 3 => ("AnchorThatDrags$Bay", "strong", "[I", true)
  | _ => ("AnchorThatDrags$Bay", "tide", "[I", true)
def tyX0 : Nat → FieldType := fun k => match k with
  | 0 => .array .int
  | 1 => .array .int
  | 2 => .array .int
  | 3 => .array .int
  | _ => .array .int
abbrev wsX00 : List Cond := u_ws RX0 TX0 5
theorem nmX0 : ∀ a, a < 5 → ∀ b, b < 5 → a ≠ b → (TX0 a).2.1 ≠ (TX0 b).2.1 := by decide +kernel
theorem tyX0_ok : ∀ k, k < 5 → parseFieldDescriptor (TX0 k).2.2.1 = some (tyX0 k) := by decide +kernel
abbrev cX0_init : ByteArray := prog_2_method_1_code
def yX0_init : MethodName := ⟨RX0, "<init>", "()V"⟩
abbrev cX0_hourRow : ByteArray := prog_2_method_2_code
def yX0_hourRow : MethodName := ⟨RX0, "hourRow", "(I)[I"⟩
abbrev cX0_deepOf : ByteArray := prog_2_method_3_code
def yX0_deepOf : MethodName := ⟨RX0, "deepOf", "(II)I"⟩
abbrev cX0_turnIn : ByteArray := prog_2_method_4_code
def yX0_turnIn : MethodName := ⟨RX0, "turnIn", "(I)I"⟩
abbrev cX0_oneOn : ByteArray := prog_2_method_5_code
def yX0_oneOn : MethodName := ⟨RX0, "oneOn", "(II)I"⟩
abbrev cX0_liesAt : ByteArray := prog_2_method_6_code
def yX0_liesAt : MethodName := ⟨RX0, "liesAt", "(IIII)I"⟩
abbrev cX0_cellsOff : ByteArray := prog_2_method_7_code
def yX0_cellsOff : MethodName := ⟨RX0, "cellsOff", "(II)I"⟩
abbrev cX0_stepped : ByteArray := prog_2_method_8_code
def yX0_stepped : MethodName := ⟨RX0, "stepped", "(II)I"⟩
def RX1 : String := "AnchorThatDrags$Boat"
def TX1 : u_T := fun k => match k with
  | 0 => ("AnchorThatDrags$Boat", "kind", "I", true)
  | 1 => ("AnchorThatDrags$Boat", "area", "I", true)
  | 2 => ("AnchorThatDrags$Boat", "heavy", "I", true)
  | 3 => ("AnchorThatDrags$Boat", "more", "I", true)
  | 4 => ("AnchorThatDrags$Boat", "cell", "I", false)
  | _ => ("AnchorThatDrags$Boat", "out", "I", false)
def tyX1 : Nat → FieldType := fun k => match k with
  | 0 => .int
  | 1 => .int
  | 2 => .int
  | 3 => .int
  | 4 => .int
  | _ => .int
abbrev wsX10 : List Cond := u_ws RX1 TX1 6
theorem nmX1 : ∀ a, a < 6 → ∀ b, b < 6 → a ≠ b → (TX1 a).2.1 ≠ (TX1 b).2.1 := by decide +kernel
theorem tyX1_ok : ∀ k, k < 6 → parseFieldDescriptor (TX1 k).2.2.1 = some (tyX1 k) := by decide +kernel
abbrev cX1_init : ByteArray := prog_3_method_1_code
def yX1_init : MethodName := ⟨RX1, "<init>", "(IIII)V"⟩
abbrev cX1_isGone : ByteArray := prog_3_method_2_code
def yX1_isGone : MethodName := ⟨RX1, "isGone", "()Z"⟩
abbrev cX1_isA : ByteArray := prog_3_method_3_code
def yX1_isA : MethodName := ⟨RX1, "isA", "(I)Z"⟩
abbrev cX1_gripOf : ByteArray := prog_3_method_4_code
def yX1_gripOf : MethodName := ⟨RX1, "gripOf", "(I)I"⟩
abbrev cX1_dragsIn : ByteArray := prog_3_method_5_code
def yX1_dragsIn : MethodName := ⟨RX1, "dragsIn", "(I)Z"⟩
abbrev cX1_breaksOutAt : ByteArray := prog_3_method_6_code
def yX1_breaksOutAt : MethodName := ⟨RX1, "breaksOutAt", "(I)Z"⟩
def RX2 : String := "AnchorThatDrags$Course"
def TX2 : u_T := fun k => match k with
  | 0 => ("AnchorThatDrags$Course", "lies", "[I", true)
  | 1 => ("AnchorThatDrags$Course", "cell", "I", false)
  | 2 => ("AnchorThatDrags$Course", "dragged", "I", false)
  | _ => ("AnchorThatDrags$Course", "first", "I", false)
def tyX2 : Nat → FieldType := fun k => match k with
  | 0 => .array .int
  | 1 => .int
  | 2 => .int
  | _ => .int
abbrev wsX20 : List Cond := u_ws RX2 TX2 4
theorem nmX2 : ∀ a, a < 4 → ∀ b, b < 4 → a ≠ b → (TX2 a).2.1 ≠ (TX2 b).2.1 := by decide +kernel
theorem tyX2_ok : ∀ k, k < 4 → parseFieldDescriptor (TX2 k).2.2.1 = some (tyX2 k) := by decide +kernel
abbrev cX2_init : ByteArray := prog_4_method_1_code
def yX2_init : MethodName := ⟨RX2, "<init>", "()V"⟩
abbrev cX2_sail : ByteArray := prog_4_method_2_code
def yX2_sail : MethodName := ⟨RX2, "sail", "(LAnchorThatDrags$Scales;LAnchorThatDrags$Boat;II)V"⟩
abbrev cX2_liesIn : ByteArray := prog_4_method_3_code
def yX2_liesIn : MethodName := ⟨RX2, "liesIn", "(I)I"⟩
abbrev cX2_meetsIn : ByteArray := prog_4_method_4_code
def yX2_meetsIn : MethodName := ⟨RX2, "meetsIn", "(II)Z"⟩
abbrev cX2_farthest : ByteArray := prog_4_method_5_code
def yX2_farthest : MethodName := ⟨RX2, "farthest", "(III)I"⟩
abbrev cX2_firstBeyond : ByteArray := prog_4_method_6_code
def yX2_firstBeyond : MethodName := ⟨RX2, "firstBeyond", "(IIII)I"⟩
abbrev cX2_apart : ByteArray := prog_4_method_7_code
def yX2_apart : MethodName := ⟨RX2, "apart", "(II)I"⟩
def RX3 : String := "AnchorThatDrags$Forms"
def TX3 : u_T := fun k => match k with
  | 0 => ("AnchorThatDrags$Forms", "held", "[I", true)
  | _ => ("AnchorThatDrags$Forms", "tried", "[I", true)
def tyX3 : Nat → FieldType := fun k => match k with
  | 0 => .array .int
  | _ => .array .int
abbrev wsX30 : List Cond := u_ws RX3 TX3 2
theorem nmX3 : ∀ a, a < 2 → ∀ b, b < 2 → a ≠ b → (TX3 a).2.1 ≠ (TX3 b).2.1 := by decide +kernel
theorem tyX3_ok : ∀ k, k < 2 → parseFieldDescriptor (TX3 k).2.2.1 = some (tyX3 k) := by decide +kernel
abbrev cX3_init : ByteArray := prog_5_method_1_code
def yX3_init : MethodName := ⟨RX3, "<init>", "()V"⟩
abbrev cX3_above : ByteArray := prog_5_method_2_code
def yX3_above : MethodName := ⟨RX3, "above", "(II)I"⟩
abbrev cX3_below : ByteArray := prog_5_method_3_code
def yX3_below : MethodName := ⟨RX3, "below", "(II)I"⟩
abbrev cX3_isLikelier : ByteArray := prog_5_method_4_code
def yX3_isLikelier : MethodName := ⟨RX3, "isLikelier", "(IIII)Z"⟩
abbrev cX3_worstBed : ByteArray := prog_5_method_5_code
def yX3_worstBed : MethodName := ⟨RX3, "worstBed", "(I)I"⟩
abbrev cX3_takeOver : ByteArray := prog_5_method_6_code
def yX3_takeOver : MethodName := ⟨RX3, "takeOver", "(LAnchorThatDrags$Forms;)V"⟩
def RX4 : String := "AnchorThatDrags$Image"
def TX4 : u_T := fun k => match k with
  | 0 => ("AnchorThatDrags$Image", "cells", "[I", true)
  | 1 => ("AnchorThatDrags$Image", "outs", "[I", true)
  | 2 => ("AnchorThatDrags$Image", "forms", "LAnchorThatDrags$Forms;", true)
  | 3 => ("AnchorThatDrags$Image", "boats", "I", false)
  | 4 => ("AnchorThatDrags$Image", "now", "I", false)
  | _ => ("AnchorThatDrags$Image", "law", "I", false)
def tyX4 : Nat → FieldType := fun k => match k with
  | 0 => .array .int
  | 1 => .array .int
  | 2 => .object "AnchorThatDrags$Forms"
  | 3 => .int
  | 4 => .int
  | _ => .int
abbrev wsX40 : List Cond := u_ws RX4 TX4 6
theorem nmX4 : ∀ a, a < 6 → ∀ b, b < 6 → a ≠ b → (TX4 a).2.1 ≠ (TX4 b).2.1 := by decide +kernel
theorem tyX4_ok : ∀ k, k < 6 → parseFieldDescriptor (TX4 k).2.2.1 = some (tyX4 k) := by decide +kernel
abbrev cX4_init : ByteArray := prog_6_method_1_code
def yX4_init : MethodName := ⟨RX4, "<init>", "()V"⟩
def RX5 : String := "AnchorThatDrags$Program"
def TX5 : u_T := fun k => match k with
  | 0 => ("AnchorThatDrags$Program", "codes", "[I", true)
  | 1 => ("AnchorThatDrags$Program", "ends", "[I", true)
  | _ => ("AnchorThatDrags$Program", "length", "I", false)
def tyX5 : Nat → FieldType := fun k => match k with
  | 0 => .array .int
  | 1 => .array .int
  | _ => .int
abbrev wsX50 : List Cond := u_ws RX5 TX5 3
theorem nmX5 : ∀ a, a < 3 → ∀ b, b < 3 → a ≠ b → (TX5 a).2.1 ≠ (TX5 b).2.1 := by decide +kernel
theorem tyX5_ok : ∀ k, k < 3 → parseFieldDescriptor (TX5 k).2.2.1 = some (tyX5 k) := by decide +kernel
abbrev cX5_init : ByteArray := prog_7_method_1_code
def yX5_init : MethodName := ⟨RX5, "<init>", "()V"⟩
abbrev cX5_clear : ByteArray := prog_7_method_2_code
def yX5_clear : MethodName := ⟨RX5, "clear", "()V"⟩
abbrev cX5_add : ByteArray := prog_7_method_3_code
def yX5_add : MethodName := ⟨RX5, "add", "(I)V"⟩
abbrev cX5_endPart : ByteArray := prog_7_method_4_code
def yX5_endPart : MethodName := ⟨RX5, "endPart", "(I)V"⟩
abbrev cX5_valueOf : ByteArray := prog_7_method_5_code
def yX5_valueOf : MethodName := ⟨RX5, "valueOf", "(I[I[I)I"⟩
abbrev cX5_outcome : ByteArray := prog_7_method_6_code
def yX5_outcome : MethodName := ⟨RX5, "outcome", "(III)I"⟩
def RX6 : String := "AnchorThatDrags$Reader"
def TX6 : u_T := fun k => match k with
  | 0 => ("AnchorThatDrags$Reader", "tape", "[I", true)
  | 1 => ("AnchorThatDrags$Reader", "size", "I", false)
  | 2 => ("AnchorThatDrags$Reader", "program", "LAnchorThatDrags$Program;", false)
  | 3 => ("AnchorThatDrags$Reader", "at", "I", false)
  | 4 => ("AnchorThatDrags$Reader", "start", "I", false)
  | 5 => ("AnchorThatDrags$Reader", "token", "I", false)
  | _ => ("AnchorThatDrags$Reader", "number", "I", false)
def tyX6 : Nat → FieldType := fun k => match k with
  | 0 => .array .int
  | 1 => .int
  | 2 => .object "AnchorThatDrags$Program"
  | 3 => .int
  | 4 => .int
  | 5 => .int
  | _ => .int
abbrev wsX60 : List Cond := u_ws RX6 TX6 7
theorem nmX6 : ∀ a, a < 7 → ∀ b, b < 7 → a ≠ b → (TX6 a).2.1 ≠ (TX6 b).2.1 := by decide +kernel
theorem tyX6_ok : ∀ k, k < 7 → parseFieldDescriptor (TX6 k).2.2.1 = some (tyX6 k) := by decide +kernel
abbrev cX6_init : ByteArray := prog_8_method_1_code
def yX6_init : MethodName := ⟨RX6, "<init>", "()V"⟩
abbrev cX6_add : ByteArray := prog_8_method_2_code
def yX6_add : MethodName := ⟨RX6, "add", "(I)V"⟩
abbrev cX6_empty : ByteArray := prog_8_method_3_code
def yX6_empty : MethodName := ⟨RX6, "empty", "()V"⟩
abbrev cX6_read : ByteArray := prog_8_method_4_code
def yX6_read : MethodName := ⟨RX6, "read", "(LAnchorThatDrags$Program;)I"⟩
abbrev cX6_readFrom : ByteArray := prog_8_method_5_code
def yX6_readFrom : MethodName := ⟨RX6, "readFrom", "(II)Z"⟩
abbrev cX6_readOne : ByteArray := prog_8_method_6_code
def yX6_readOne : MethodName := ⟨RX6, "readOne", "(I)Z"⟩
abbrev cX6_joins : ByteArray := prog_8_method_7_code
def yX6_joins : MethodName := ⟨RX6, "joins", "(II)Z"⟩
abbrev cX6_emit : ByteArray := prog_8_method_8_code
def yX6_emit : MethodName := ⟨RX6, "emit", "(I)V"⟩
abbrev cX6_byteAt : ByteArray := prog_8_method_9_code
def yX6_byteAt : MethodName := ⟨RX6, "byteAt", "(I)I"⟩
abbrev cX6_advance : ByteArray := prog_8_method_10_code
def yX6_advance : MethodName := ⟨RX6, "advance", "()V"⟩
abbrev cX6_readNumber : ByteArray := prog_8_method_11_code
def yX6_readNumber : MethodName := ⟨RX6, "readNumber", "()V"⟩
abbrev cX6_readWord : ByteArray := prog_8_method_12_code
def yX6_readWord : MethodName := ⟨RX6, "readWord", "()V"⟩
abbrev cX6_stands : ByteArray := prog_8_method_13_code
def yX6_stands : MethodName := ⟨RX6, "stands", "(Ljava/lang/String;)Z"⟩
abbrev cX6_isDigit : ByteArray := prog_8_method_14_code
def yX6_isDigit : MethodName := ⟨RX6, "isDigit", "(I)Z"⟩
abbrev cX6_isLetter : ByteArray := prog_8_method_15_code
def yX6_isLetter : MethodName := ⟨RX6, "isLetter", "(I)Z"⟩
abbrev cX6_signOf : ByteArray := prog_8_method_16_code
def yX6_signOf : MethodName := ⟨RX6, "signOf", "(I)I"⟩
abbrev cX6_word : ByteArray := prog_8_method_17_code
def yX6_word : MethodName := ⟨RX6, "word", "(I)Ljava/lang/String;"⟩
def RX7 : String := "AnchorThatDrags$Scales"
def TX7 : u_T := fun k => match k with
  | 0 => ("AnchorThatDrags$Scales", "bay", "LAnchorThatDrags$Bay;", true)
  | 1 => ("AnchorThatDrags$Scales", "names", "[I", true)
  | 2 => ("AnchorThatDrags$Scales", "stack", "[I", true)
  | 3 => ("AnchorThatDrags$Scales", "law", "LAnchorThatDrags$Program;", false)
  | _ => ("AnchorThatDrags$Scales", "winds", "[I", false)
def tyX7 : Nat → FieldType := fun k => match k with
  | 0 => .object "AnchorThatDrags$Bay"
  | 1 => .array .int
  | 2 => .array .int
  | 3 => .object "AnchorThatDrags$Program"
  | _ => .array .int
abbrev wsX70 : List Cond := u_ws RX7 TX7 5
theorem nmX7 : ∀ a, a < 5 → ∀ b, b < 5 → a ≠ b → (TX7 a).2.1 ≠ (TX7 b).2.1 := by decide +kernel
theorem tyX7_ok : ∀ k, k < 5 → parseFieldDescriptor (TX7 k).2.2.1 = some (tyX7 k) := by decide +kernel
abbrev cX7_init : ByteArray := prog_9_method_1_code
def yX7_init : MethodName := ⟨RX7, "<init>", "(LAnchorThatDrags$Bay;)V"⟩
abbrev cX7_says : ByteArray := prog_9_method_2_code
def yX7_says : MethodName := ⟨RX7, "says", "(I)I"⟩
abbrev cX7_pullOn : ByteArray := prog_9_method_3_code
def yX7_pullOn : MethodName := ⟨RX7, "pullOn", "(LAnchorThatDrags$Boat;III)I"⟩
abbrev cX7_jerkOn : ByteArray := prog_9_method_4_code
def yX7_jerkOn : MethodName := ⟨RX7, "jerkOn", "(LAnchorThatDrags$Boat;III)I"⟩
abbrev cX7_powerOf : ByteArray := prog_9_method_5_code
def yX7_powerOf : MethodName := ⟨RX7, "powerOf", "(LAnchorThatDrags$Boat;III)I"⟩
abbrev cX7_goesOn : ByteArray := prog_9_method_6_code
def yX7_goesOn : MethodName := ⟨RX7, "goesOn", "(LAnchorThatDrags$Boat;IIIII)Z"⟩
abbrev cX7_powerTold : ByteArray := prog_9_method_7_code
def yX7_powerTold : MethodName := ⟨RX7, "powerTold", "(LAnchorThatDrags$Boat;)I"⟩
abbrev cX7_tell : ByteArray := prog_9_method_8_code
def yX7_tell : MethodName := ⟨RX7, "tell", "(LAnchorThatDrags$Boat;III)V"⟩
def RX8 : String := "AnchorThatDrags$Sheet"
def TX8 : u_T := fun k => match k with
  | 0 => ("AnchorThatDrags$Sheet", "row", "[I", true)
  | 1 => ("AnchorThatDrags$Sheet", "sort", "I", false)
  | _ => ("AnchorThatDrags$Sheet", "size", "I", false)
def tyX8 : Nat → FieldType := fun k => match k with
  | 0 => .array .int
  | 1 => .int
  | _ => .int
abbrev wsX80 : List Cond := u_ws RX8 TX8 3
theorem nmX8 : ∀ a, a < 3 → ∀ b, b < 3 → a ≠ b → (TX8 a).2.1 ≠ (TX8 b).2.1 := by decide +kernel
theorem tyX8_ok : ∀ k, k < 3 → parseFieldDescriptor (TX8 k).2.2.1 = some (tyX8 k) := by decide +kernel
abbrev cX8_init : ByteArray := prog_10_method_1_code
def yX8_init : MethodName := ⟨RX8, "<init>", "()V"⟩
abbrev cX8_isMissing : ByteArray := prog_10_method_2_code
def yX8_isMissing : MethodName := ⟨RX8, "isMissing", "()Z"⟩
abbrev cX8_become : ByteArray := prog_10_method_3_code
def yX8_become : MethodName := ⟨RX8, "become", "(II)V"⟩
abbrev cX8_put : ByteArray := prog_10_method_4_code
def yX8_put : MethodName := ⟨RX8, "put", "(II)V"⟩
abbrev cX8_hasRun : ByteArray := prog_10_method_5_code
def yX8_hasRun : MethodName := ⟨RX8, "hasRun", "(II)Z"⟩
def RX9 : String := "AnchorThatDrags"
def TX9 : u_T := fun k => match k with
  | 0 => ("AnchorThatDrags", "bay", "LAnchorThatDrags$Bay;", true)
  | 1 => ("AnchorThatDrags", "reader", "LAnchorThatDrags$Reader;", true)
  | 2 => ("AnchorThatDrags", "programs", "[LAnchorThatDrags$Program;", true)
  | 3 => ("AnchorThatDrags", "scales", "LAnchorThatDrags$Scales;", true)
  | 4 => ("AnchorThatDrags", "boats", "[LAnchorThatDrags$Boat;", true)
  | 5 => ("AnchorThatDrags", "courses", "[LAnchorThatDrags$Course;", true)
  | 6 => ("AnchorThatDrags", "met", "[I", true)
  | 7 => ("AnchorThatDrags", "gusts", "[I", true)
  | 8 => ("AnchorThatDrags", "forms", "LAnchorThatDrags$Forms;", true)
  | 9 => ("AnchorThatDrags", "sheets", "[LAnchorThatDrags$Sheet;", true)
  | 10 => ("AnchorThatDrags", "kept", "LAnchorThatDrags$Image;", true)
  | 11 => ("AnchorThatDrags", "now", "I", false)
  | 12 => ("AnchorThatDrags", "boatCount", "I", false)
  | 13 => ("AnchorThatDrags", "textCount", "I", false)
  | _ => ("AnchorThatDrags", "law", "I", false)
def tyX9 : Nat → FieldType := fun k => match k with
  | 0 => .object "AnchorThatDrags$Bay"
  | 1 => .object "AnchorThatDrags$Reader"
  | 2 => .array (.object "AnchorThatDrags$Program")
  | 3 => .object "AnchorThatDrags$Scales"
  | 4 => .array (.object "AnchorThatDrags$Boat")
  | 5 => .array (.object "AnchorThatDrags$Course")
  | 6 => .array .int
  | 7 => .array .int
  | 8 => .object "AnchorThatDrags$Forms"
  | 9 => .array (.object "AnchorThatDrags$Sheet")
  | 10 => .object "AnchorThatDrags$Image"
  | 11 => .int
  | 12 => .int
  | 13 => .int
  | _ => .int
abbrev wsX90 : List Cond := u_ws RX9 TX9 15
theorem nmX9 : ∀ a, a < 15 → ∀ b, b < 15 → a ≠ b → (TX9 a).2.1 ≠ (TX9 b).2.1 := by decide +kernel
theorem tyX9_ok : ∀ k, k < 15 → parseFieldDescriptor (TX9 k).2.2.1 = some (tyX9 k) := by decide +kernel
abbrev cX9_init : ByteArray := prog_1_method_1_code
def yX9_init : MethodName := ⟨RX9, "<init>", "()V"⟩
abbrev cX9_sound : ByteArray := prog_1_method_2_code
def yX9_sound : MethodName := ⟨RX9, "sound", "(III)I"⟩
abbrev cX9_chart : ByteArray := prog_1_method_3_code
def yX9_chart : MethodName := ⟨RX9, "chart", "(IIII)I"⟩
abbrev cX9_blow : ByteArray := prog_1_method_4_code
def yX9_blow : MethodName := ⟨RX9, "blow", "(III)I"⟩
abbrev cX9_told : ByteArray := prog_1_method_5_code
def yX9_told : MethodName := ⟨RX9, "told", "(II)I"⟩
abbrev cX9_count : ByteArray := prog_1_method_6_code
def yX9_count : MethodName := ⟨RX9, "count", "(I)I"⟩
abbrev cX9_feed : ByteArray := prog_1_method_7_code
def yX9_feed : MethodName := ⟨RX9, "feed", "(IIIIII)I"⟩
abbrev cX9_text : ByteArray := prog_1_method_8_code
def yX9_text : MethodName := ⟨RX9, "text", "()I"⟩
abbrev cX9_force : ByteArray := prog_1_method_9_code
def yX9_force : MethodName := ⟨RX9, "force", "(I)I"⟩
abbrev cX9_asks : ByteArray := prog_1_method_10_code
def yX9_asks : MethodName := ⟨RX9, "asks", "(IIII)I"⟩
abbrev cX9_boat : ByteArray := prog_1_method_11_code
def yX9_boat : MethodName := ⟨RX9, "boat", "(IIII)I"⟩
abbrev cX9_let : ByteArray := prog_1_method_12_code
def yX9_let : MethodName := ⟨RX9, "let", "(III)I"⟩
abbrev cX9_boatTold : ByteArray := prog_1_method_13_code
def yX9_boatTold : MethodName := ⟨RX9, "boatTold", "(II)I"⟩
abbrev cX9_hold : ByteArray := prog_1_method_14_code
def yX9_hold : MethodName := ⟨RX9, "hold", "(III)I"⟩
abbrev cX9_night : ByteArray := prog_1_method_15_code
def yX9_night : MethodName := ⟨RX9, "night", "(III)I"⟩
abbrev cX9_fleet : ByteArray := prog_1_method_16_code
def yX9_fleet : MethodName := ⟨RX9, "fleet", "(II)I"⟩
abbrev cX9_hit : ByteArray := prog_1_method_17_code
def yX9_hit : MethodName := ⟨RX9, "hit", "(III)I"⟩
abbrev cX9_wake : ByteArray := prog_1_method_18_code
def yX9_wake : MethodName := ⟨RX9, "wake", "(I)I"⟩
abbrev cX9_goOn : ByteArray := prog_1_method_19_code
def yX9_goOn : MethodName := ⟨RX9, "goOn", "(I)I"⟩
abbrev cX9_veer : ByteArray := prog_1_method_20_code
def yX9_veer : MethodName := ⟨RX9, "veer", "(II)I"⟩
abbrev cX9_drop : ByteArray := prog_1_method_21_code
def yX9_drop : MethodName := ⟨RX9, "drop", "(III)I"⟩
abbrev cX9_rings : ByteArray := prog_1_method_22_code
def yX9_rings : MethodName := ⟨RX9, "rings", "(II)I"⟩
abbrev cX9_late : ByteArray := prog_1_method_23_code
def yX9_late : MethodName := ⟨RX9, "late", "()I"⟩
abbrev cX9_alarm : ByteArray := prog_1_method_24_code
def yX9_alarm : MethodName := ⟨RX9, "alarm", "(III)I"⟩
abbrev cX9_size : ByteArray := prog_1_method_25_code
def yX9_size : MethodName := ⟨RX9, "size", "(III)I"⟩
abbrev cX9_line : ByteArray := prog_1_method_26_code
def yX9_line : MethodName := ⟨RX9, "line", "(III)I"⟩
abbrev cX9_marks : ByteArray := prog_1_method_27_code
def yX9_marks : MethodName := ⟨RX9, "marks", "(IIII)I"⟩
abbrev cX9_next : ByteArray := prog_1_method_28_code
def yX9_next : MethodName := ⟨RX9, "next", "(III)I"⟩
abbrev cX9_two : ByteArray := prog_1_method_29_code
def yX9_two : MethodName := ⟨RX9, "two", "(IIII)I"⟩
abbrev cX9_angle : ByteArray := prog_1_method_30_code
def yX9_angle : MethodName := ⟨RX9, "angle", "(II)I"⟩
abbrev cX9_turns : ByteArray := prog_1_method_31_code
def yX9_turns : MethodName := ⟨RX9, "turns", "(II)J"⟩
abbrev cX9_trial : ByteArray := prog_1_method_32_code
def yX9_trial : MethodName := ⟨RX9, "trial", "(IIII)I"⟩
abbrev cX9_rate : ByteArray := prog_1_method_33_code
def yX9_rate : MethodName := ⟨RX9, "rate", "(III)J"⟩
abbrev cX9_form : ByteArray := prog_1_method_34_code
def yX9_form : MethodName := ⟨RX9, "form", "(I)I"⟩
abbrev cX9_joined : ByteArray := prog_1_method_35_code
def yX9_joined : MethodName := ⟨RX9, "joined", "()I"⟩
abbrev cX9_judge : ByteArray := prog_1_method_36_code
def yX9_judge : MethodName := ⟨RX9, "judge", "(II)I"⟩
abbrev cX9_which : ByteArray := prog_1_method_37_code
def yX9_which : MethodName := ⟨RX9, "which", "(I)I"⟩
abbrev cX9_laws : ByteArray := prog_1_method_38_code
def yX9_laws : MethodName := ⟨RX9, "laws", "(II)I"⟩
abbrev cX9_film : ByteArray := prog_1_method_39_code
def yX9_film : MethodName := ⟨RX9, "film", "(III)I"⟩
abbrev cX9_drawn : ByteArray := prog_1_method_40_code
def yX9_drawn : MethodName := ⟨RX9, "drawn", "(IIII)I"⟩
abbrev cX9_chance : ByteArray := prog_1_method_41_code
def yX9_chance : MethodName := ⟨RX9, "chance", "(IIII)J"⟩
abbrev cX9_image : ByteArray := prog_1_method_42_code
def yX9_image : MethodName := ⟨RX9, "image", "()I"⟩
abbrev cX9_back : ByteArray := prog_1_method_43_code
def yX9_back : MethodName := ⟨RX9, "back", "()I"⟩
abbrev cX9_sheet : ByteArray := prog_1_method_44_code
def yX9_sheet : MethodName := ⟨RX9, "sheet", "(III)I"⟩
abbrev cX9_cell : ByteArray := prog_1_method_45_code
def yX9_cell : MethodName := ⟨RX9, "cell", "(III)I"⟩
abbrev cX9_copy : ByteArray := prog_1_method_46_code
def yX9_copy : MethodName := ⟨RX9, "copy", "(IIIII)I"⟩
abbrev cX9_boatsBy : ByteArray := prog_1_method_47_code
def yX9_boatsBy : MethodName := ⟨RX9, "boatsBy", "(IIII)I"⟩
abbrev cX9_taken : ByteArray := prog_1_method_48_code
def yX9_taken : MethodName := ⟨RX9, "taken", "(II)I"⟩
abbrev cX9_within : ByteArray := prog_1_method_49_code
def yX9_within : MethodName := ⟨RX9, "within", "(III)Z"⟩
abbrev cX9_isCell : ByteArray := prog_1_method_50_code
def yX9_isCell : MethodName := ⟨RX9, "isCell", "(I)Z"⟩
abbrev cX9_isHour : ByteArray := prog_1_method_51_code
def yX9_isHour : MethodName := ⟨RX9, "isHour", "(I)Z"⟩
abbrev cX9_isByte : ByteArray := prog_1_method_52_code
def yX9_isByte : MethodName := ⟨RX9, "isByte", "(I)Z"⟩
abbrev cX9_isFormIn : ByteArray := prog_1_method_53_code
def yX9_isFormIn : MethodName := ⟨RX9, "isFormIn", "(II)Z"⟩
abbrev cX9_isSounding : ByteArray := prog_1_method_54_code
def yX9_isSounding : MethodName := ⟨RX9, "isSounding", "(II)Z"⟩
abbrev cX9_isBlowing : ByteArray := prog_1_method_55_code
def yX9_isBlowing : MethodName := ⟨RX9, "isBlowing", "(II)Z"⟩
abbrev cX9_isNight : ByteArray := prog_1_method_56_code
def yX9_isNight : MethodName := ⟨RX9, "isNight", "(I)Z"⟩
abbrev cX9_boatOf : ByteArray := prog_1_method_57_code
def yX9_boatOf : MethodName := ⟨RX9, "boatOf", "(I)LAnchorThatDrags$Boat;"⟩
abbrev cX9_refusal : ByteArray := prog_1_method_58_code
def yX9_refusal : MethodName := ⟨RX9, "refusal", "(LAnchorThatDrags$Boat;Z)I"⟩
abbrev cX9_sheetOf : ByteArray := prog_1_method_59_code
def yX9_sheetOf : MethodName := ⟨RX9, "sheetOf", "(I)LAnchorThatDrags$Sheet;"⟩
abbrev cX9_rule : ByteArray := prog_1_method_60_code
def yX9_rule : MethodName := ⟨RX9, "rule", "(I)V"⟩
abbrev cX9_sailed : ByteArray := prog_1_method_61_code
def yX9_sailed : MethodName := ⟨RX9, "sailed", "(ILAnchorThatDrags$Boat;I)LAnchorThatDrags$Course;"⟩
abbrev cX9_sailAll : ByteArray := prog_1_method_62_code
def yX9_sailAll : MethodName := ⟨RX9, "sailAll", "(I)V"⟩
abbrev cX9_stays : ByteArray := prog_1_method_63_code
def yX9_stays : MethodName := ⟨RX9, "stays", "(LAnchorThatDrags$Boat;III)Z"⟩
abbrev cX9_meetings : ByteArray := prog_1_method_64_code
def yX9_meetings : MethodName := ⟨RX9, "meetings", "(I)I"⟩
abbrev cX9_firstToDrag : ByteArray := prog_1_method_65_code
def yX9_firstToDrag : MethodName := ⟨RX9, "firstToDrag", "()I"⟩
abbrev cX9_lost : ByteArray := prog_1_method_66_code
def yX9_lost : MethodName := ⟨RX9, "lost", "()I"⟩
abbrev cX9_meetsAnother : ByteArray := prog_1_method_67_code
def yX9_meetsAnother : MethodName := ⟨RX9, "meetsAnother", "(ILAnchorThatDrags$Boat;II)Z"⟩
abbrev cX9_waysToMeet : ByteArray := prog_1_method_68_code
def yX9_waysToMeet : MethodName := ⟨RX9, "waysToMeet", "(LAnchorThatDrags$Boat;LAnchorThatDrags$Boat;)I"⟩
abbrev cX9_sideOf : ByteArray := prog_1_method_69_code
def yX9_sideOf : MethodName := ⟨RX9, "sideOf", "(III)I"⟩
abbrev cX9_leastDue : ByteArray := prog_1_method_70_code
def yX9_leastDue : MethodName := ⟨RX9, "leastDue", "(LAnchorThatDrags$Boat;IIIII)I"⟩
abbrev cX9_dueWith : ByteArray := prog_1_method_71_code
def yX9_dueWith : MethodName := ⟨RX9, "dueWith", "(ILAnchorThatDrags$Boat;IIIII)I"⟩
abbrev cX9_borneByEach : ByteArray := prog_1_method_72_code
def yX9_borneByEach : MethodName := ⟨RX9, "borneByEach", "(LAnchorThatDrags$Boat;II)I"⟩
abbrev cX9_twoHold : ByteArray := prog_1_method_73_code
def yX9_twoHold : MethodName := ⟨RX9, "twoHold", "(LAnchorThatDrags$Boat;II)Z"⟩
abbrev cX9_twoHoldAll : ByteArray := prog_1_method_74_code
def yX9_twoHoldAll : MethodName := ⟨RX9, "twoHoldAll", "(LAnchorThatDrags$Boat;II)Z"⟩
abbrev cX9_filmRefusal : ByteArray := prog_1_method_75_code
def yX9_filmRefusal : MethodName := ⟨RX9, "filmRefusal", "(LAnchorThatDrags$Sheet;)I"⟩
abbrev cX9_firstElsewhere : ByteArray := prog_1_method_76_code
def yX9_firstElsewhere : MethodName := ⟨RX9, "firstElsewhere", "(ILAnchorThatDrags$Boat;LAnchorThatDrags$Sheet;)I"⟩
abbrev cX9_draw : ByteArray := prog_1_method_77_code
def yX9_draw : MethodName := ⟨RX9, "draw", "(I)V"⟩
abbrev cX9_partOf : ByteArray := prog_1_method_78_code
def yX9_partOf : MethodName := ⟨RX9, "partOf", "(III)J"⟩
def RX10 : String := "AnchorThatDragsModel"
def TX10 : u_T := fun k => match k with
  | 0 => ("AnchorThatDragsModel", "depth", "[I", true)
  | 1 => ("AnchorThatDragsModel", "ground", "[I", true)
  | 2 => ("AnchorThatDragsModel", "wayOf", "[I", true)
  | 3 => ("AnchorThatDragsModel", "strong", "[I", true)
  | 4 => ("AnchorThatDragsModel", "tide", "[I", true)
  | 5 => ("AnchorThatDragsModel", "toX", "[I", true)
  | 6 => ("AnchorThatDragsModel", "toY", "[I", true)
  | 7 => ("AnchorThatDragsModel", "now", "I", false)
  | 8 => ("AnchorThatDragsModel", "boats", "I", false)
  | 9 => ("AnchorThatDragsModel", "kind", "[I", true)
  | 10 => ("AnchorThatDragsModel", "area", "[I", true)
  | 11 => ("AnchorThatDragsModel", "heavy", "[I", true)
  | 12 => ("AnchorThatDragsModel", "more", "[I", true)
  | 13 => ("AnchorThatDragsModel", "anchor", "[I", true)
  | 14 => ("AnchorThatDragsModel", "rope", "[I", true)
  | 15 => ("AnchorThatDragsModel", "tried", "[I", true)
  | 16 => ("AnchorThatDragsModel", "held0", "[I", true)
  | 17 => ("AnchorThatDragsModel", "tape", "[I", true)
  | 18 => ("AnchorThatDragsModel", "taped", "I", false)
  | 19 => ("AnchorThatDragsModel", "codes", "[I", true)
  | 20 => ("AnchorThatDragsModel", "starts", "[I", true)
  | 21 => ("AnchorThatDragsModel", "texts", "I", false)
  | 22 => ("AnchorThatDragsModel", "rule", "I", false)
  | 23 => ("AnchorThatDragsModel", "hasImage", "Z", false)
  | 24 => ("AnchorThatDragsModel", "imageNow", "I", false)
  | 25 => ("AnchorThatDragsModel", "imageBoats", "I", false)
  | 26 => ("AnchorThatDragsModel", "imageRule", "I", false)
  | 27 => ("AnchorThatDragsModel", "imageAnchor", "[I", true)
  | 28 => ("AnchorThatDragsModel", "imageRope", "[I", true)
  | 29 => ("AnchorThatDragsModel", "imageTried", "[I", true)
  | 30 => ("AnchorThatDragsModel", "imageHeld", "[I", true)
  | 31 => ("AnchorThatDragsModel", "sheetSort", "[I", true)
  | 32 => ("AnchorThatDragsModel", "sheetSize", "[I", true)
  | 33 => ("AnchorThatDragsModel", "cells", "[I", true)
  | 34 => ("AnchorThatDragsModel", "law", "[I", true)
  | 35 => ("AnchorThatDragsModel", "at", "I", false)
  | 36 => ("AnchorThatDragsModel", "begun", "I", false)
  | 37 => ("AnchorThatDragsModel", "token", "I", false)
  | 38 => ("AnchorThatDragsModel", "value", "I", false)
  | 39 => ("AnchorThatDragsModel", "words", "[I", true)
  | 40 => ("AnchorThatDragsModel", "held", "[I", true)
  | 41 => ("AnchorThatDragsModel", "heldMany", "I", false)
  | 42 => ("AnchorThatDragsModel", "opens", "I", false)
  | 43 => ("AnchorThatDragsModel", "placed", "I", false)
  | 44 => ("AnchorThatDragsModel", "stack", "[I", true)
  | 45 => ("AnchorThatDragsModel", "named", "[I", true)
  | 46 => ("AnchorThatDragsModel", "isDrawn", "Z", false)
  | 47 => ("AnchorThatDragsModel", "gusts", "[I", true)
  | 48 => ("AnchorThatDragsModel", "at0", "[I", true)
  | 49 => ("AnchorThatDragsModel", "often", "[I", true)
  | 50 => ("AnchorThatDragsModel", "firstIn", "[I", true)
  | 51 => ("AnchorThatDragsModel", "lay", "[I", true)
  | 52 => ("AnchorThatDragsModel", "metIn", "[I", true)
  | 53 => ("AnchorThatDragsModel", "metOne", "[I", true)
  | 54 => ("AnchorThatDragsModel", "metOther", "[I", true)
  | _ => ("AnchorThatDragsModel", "met", "I", false)
def tyX10 : Nat → FieldType := fun k => match k with
  | 0 => .array .int
  | 1 => .array .int
  | 2 => .array .int
  | 3 => .array .int
  | 4 => .array .int
  | 5 => .array .int
  | 6 => .array .int
  | 7 => .int
  | 8 => .int
  | 9 => .array .int
  | 10 => .array .int
  | 11 => .array .int
  | 12 => .array .int
  | 13 => .array .int
  | 14 => .array .int
  | 15 => .array .int
  | 16 => .array .int
  | 17 => .array .int
  | 18 => .int
  | 19 => .array .int
  | 20 => .array .int
  | 21 => .int
  | 22 => .int
  | 23 => .boolean
  | 24 => .int
  | 25 => .int
  | 26 => .int
  | 27 => .array .int
  | 28 => .array .int
  | 29 => .array .int
  | 30 => .array .int
  | 31 => .array .int
  | 32 => .array .int
  | 33 => .array .int
  | 34 => .array .int
  | 35 => .int
  | 36 => .int
  | 37 => .int
  | 38 => .int
  | 39 => .array .int
  | 40 => .array .int
  | 41 => .int
  | 42 => .int
  | 43 => .int
  | 44 => .array .int
  | 45 => .array .int
  | 46 => .boolean
  | 47 => .array .int
  | 48 => .array .int
  | 49 => .array .int
  | 50 => .array .int
  | 51 => .array .int
  | 52 => .array .int
  | 53 => .array .int
  | 54 => .array .int
  | _ => .int
abbrev wsX100 : List Cond := u_ws RX10 TX10 56
theorem nmX10 : ∀ a, a < 56 → ∀ b, b < 56 → a ≠ b → (TX10 a).2.1 ≠ (TX10 b).2.1 := by decide +kernel
theorem tyX10_ok : ∀ k, k < 56 → parseFieldDescriptor (TX10 k).2.2.1 = some (tyX10 k) := by decide +kernel
abbrev cX10_init : ByteArray := prog_12_method_1_code
def yX10_init : MethodName := ⟨RX10, "<init>", "()V"⟩
abbrev cX10_in : ByteArray := prog_12_method_3_code
def yX10_in : MethodName := ⟨RX10, "in", "(III)Z"⟩
abbrev cX10_within : ByteArray := prog_12_method_4_code
def yX10_within : MethodName := ⟨RX10, "within", "(III)I"⟩
abbrev cX10_size : ByteArray := prog_12_method_5_code
def yX10_size : MethodName := ⟨RX10, "size", "(I)I"⟩
abbrev cX10_isCell : ByteArray := prog_12_method_6_code
def yX10_isCell : MethodName := ⟨RX10, "isCell", "(I)Z"⟩
abbrev cX10_isHour : ByteArray := prog_12_method_7_code
def yX10_isHour : MethodName := ⟨RX10, "isHour", "(I)Z"⟩
abbrev cX10_isBoat : ByteArray := prog_12_method_8_code
def yX10_isBoat : MethodName := ⟨RX10, "isBoat", "(I)Z"⟩
abbrev cX10_isNight : ByteArray := prog_12_method_9_code
def yX10_isNight : MethodName := ⟨RX10, "isNight", "(I)Z"⟩
abbrev cX10_isSounding : ByteArray := prog_12_method_10_code
def yX10_isSounding : MethodName := ⟨RX10, "isSounding", "(II)Z"⟩
abbrev cX10_sound : ByteArray := prog_12_method_11_code
def yX10_sound : MethodName := ⟨RX10, "sound", "(III)I"⟩
abbrev cX10_sounds : ByteArray := prog_12_method_12_code
def yX10_sounds : MethodName := ⟨RX10, "sounds", "(III)V"⟩
abbrev cX10_chart : ByteArray := prog_12_method_13_code
def yX10_chart : MethodName := ⟨RX10, "chart", "(IIII)I"⟩
abbrev cX10_blow : ByteArray := prog_12_method_14_code
def yX10_blow : MethodName := ⟨RX10, "blow", "(III)I"⟩
abbrev cX10_told : ByteArray := prog_12_method_15_code
def yX10_told : MethodName := ⟨RX10, "told", "(II)I"⟩
abbrev cX10_count : ByteArray := prog_12_method_16_code
def yX10_count : MethodName := ⟨RX10, "count", "(I)I"⟩
abbrev cX10_isByte : ByteArray := prog_12_method_17_code
def yX10_isByte : MethodName := ⟨RX10, "isByte", "(I)Z"⟩
abbrev cX10_feed : ByteArray := prog_12_method_18_code
def yX10_feed : MethodName := ⟨RX10, "feed", "(IIIIII)I"⟩
abbrev cX10_wordFrom : ByteArray := prog_12_method_19_code
def yX10_wordFrom : MethodName := ⟨RX10, "wordFrom", "(II)I"⟩
abbrev cX10_next : ByteArray := prog_12_method_20_code
def yX10_next : MethodName := ⟨RX10, "next", "()V"⟩
abbrev cX10_rank : ByteArray := prog_12_method_21_code
def yX10_rank : MethodName := ⟨RX10, "rank", "(I)I"⟩
abbrev cX10_puts : ByteArray := prog_12_method_22_code
def yX10_puts : MethodName := ⟨RX10, "puts", "(I)V"⟩
abbrev cX10_unwinds : ByteArray := prog_12_method_23_code
def yX10_unwinds : MethodName := ⟨RX10, "unwinds", "(I)V"⟩
abbrev cX10_keeps : ByteArray := prog_12_method_24_code
def yX10_keeps : MethodName := ⟨RX10, "keeps", "(I)V"⟩
abbrev cX10_opensOne : ByteArray := prog_12_method_25_code
def yX10_opensOne : MethodName := ⟨RX10, "opensOne", "(I)Z"⟩
abbrev cX10_between : ByteArray := prog_12_method_26_code
def yX10_between : MethodName := ⟨RX10, "between", "(I)Z"⟩
abbrev cX10_signOf : ByteArray := prog_12_method_27_code
def yX10_signOf : MethodName := ⟨RX10, "signOf", "()I"⟩
abbrev cX10_eRead : ByteArray := prog_12_method_28_code
def yX10_eRead : MethodName := ⟨RX10, "eRead", "()Z"⟩
abbrev cX10_text : ByteArray := prog_12_method_29_code
def yX10_text : MethodName := ⟨RX10, "text", "()I"⟩
abbrev cX10_two : ByteArray := prog_12_method_30_code
def yX10_two : MethodName := ⟨RX10, "two", "(III)I"⟩
abbrev cX10_worth : ByteArray := prog_12_method_31_code
def yX10_worth : MethodName := ⟨RX10, "worth", "(I)I"⟩
abbrev cX10_force : ByteArray := prog_12_method_32_code
def yX10_force : MethodName := ⟨RX10, "force", "(I)I"⟩
abbrev cX10_names : ByteArray := prog_12_method_33_code
def yX10_names : MethodName := ⟨RX10, "names", "(IIIIII)V"⟩
abbrev cX10_asks : ByteArray := prog_12_method_34_code
def yX10_asks : MethodName := ⟨RX10, "asks", "(IIII)I"⟩
abbrev cX10_boat : ByteArray := prog_12_method_35_code
def yX10_boat : MethodName := ⟨RX10, "boat", "(IIII)I"⟩
abbrev cX10_let : ByteArray := prog_12_method_36_code
def yX10_let : MethodName := ⟨RX10, "let", "(III)I"⟩
abbrev cX10_boatTold : ByteArray := prog_12_method_37_code
def yX10_boatTold : MethodName := ⟨RX10, "boatTold", "(II)I"⟩
abbrev cX10_windIn : ByteArray := prog_12_method_38_code
def yX10_windIn : MethodName := ⟨RX10, "windIn", "(I)I"⟩
abbrev cX10_deepAt : ByteArray := prog_12_method_39_code
def yX10_deepAt : MethodName := ⟨RX10, "deepAt", "(II)I"⟩
abbrev cX10_namesOf : ByteArray := prog_12_method_40_code
def yX10_namesOf : MethodName := ⟨RX10, "namesOf", "(IIII)V"⟩
abbrev cX10_pullOf : ByteArray := prog_12_method_41_code
def yX10_pullOf : MethodName := ⟨RX10, "pullOf", "(IIII)I"⟩
abbrev cX10_powerOf : ByteArray := prog_12_method_42_code
def yX10_powerOf : MethodName := ⟨RX10, "powerOf", "(IIII)I"⟩
abbrev cX10_farOff : ByteArray := prog_12_method_43_code
def yX10_farOff : MethodName := ⟨RX10, "farOff", "(III)I"⟩
abbrev cX10_isWithin : ByteArray := prog_12_method_44_code
def yX10_isWithin : MethodName := ⟨RX10, "isWithin", "(II)Z"⟩
abbrev cX10_lies : ByteArray := prog_12_method_45_code
def yX10_lies : MethodName := ⟨RX10, "lies", "(III)I"⟩
abbrev cX10_turnIn : ByteArray := prog_12_method_46_code
def yX10_turnIn : MethodName := ⟨RX10, "turnIn", "(I)I"⟩
abbrev cX10_hold : ByteArray := prog_12_method_47_code
def yX10_hold : MethodName := ⟨RX10, "hold", "(III)I"⟩
abbrev cX10_drags : ByteArray := prog_12_method_48_code
def yX10_drags : MethodName := ⟨RX10, "drags", "(IIIIII)Z"⟩
abbrev cX10_further : ByteArray := prog_12_method_49_code
def yX10_further : MethodName := ⟨RX10, "further", "(II)I"⟩
abbrev cX10_begins : ByteArray := prog_12_method_50_code
def yX10_begins : MethodName := ⟨RX10, "begins", "()V"⟩
abbrev cX10_passes : ByteArray := prog_12_method_51_code
def yX10_passes : MethodName := ⟨RX10, "passes", "(I)V"⟩
abbrev cX10_goes : ByteArray := prog_12_method_52_code
def yX10_goes : MethodName := ⟨RX10, "goes", "(I)V"⟩
abbrev cX10_night : ByteArray := prog_12_method_53_code
def yX10_night : MethodName := ⟨RX10, "night", "(III)I"⟩
abbrev cX10_fleet : ByteArray := prog_12_method_54_code
def yX10_fleet : MethodName := ⟨RX10, "fleet", "(II)I"⟩
abbrev cX10_hit : ByteArray := prog_12_method_55_code
def yX10_hit : MethodName := ⟨RX10, "hit", "(III)I"⟩
abbrev cX10_wake : ByteArray := prog_12_method_56_code
def yX10_wake : MethodName := ⟨RX10, "wake", "(I)I"⟩
abbrev cX10_goOn : ByteArray := prog_12_method_57_code
def yX10_goOn : MethodName := ⟨RX10, "goOn", "(I)I"⟩
abbrev cX10_veer : ByteArray := prog_12_method_58_code
def yX10_veer : MethodName := ⟨RX10, "veer", "(II)I"⟩
abbrev cX10_meets : ByteArray := prog_12_method_59_code
def yX10_meets : MethodName := ⟨RX10, "meets", "(I)Z"⟩
abbrev cX10_drop : ByteArray := prog_12_method_60_code
def yX10_drop : MethodName := ⟨RX10, "drop", "(III)I"⟩
abbrev cX10_ringsOf : ByteArray := prog_12_method_61_code
def yX10_ringsOf : MethodName := ⟨RX10, "ringsOf", "(II)I"⟩
abbrev cX10_rings : ByteArray := prog_12_method_62_code
def yX10_rings : MethodName := ⟨RX10, "rings", "(II)I"⟩
abbrev cX10_late : ByteArray := prog_12_method_63_code
def yX10_late : MethodName := ⟨RX10, "late", "()I"⟩
abbrev cX10_apart : ByteArray := prog_12_method_64_code
def yX10_apart : MethodName := ⟨RX10, "apart", "(II)I"⟩
abbrev cX10_alarms : ByteArray := prog_12_method_65_code
def yX10_alarms : MethodName := ⟨RX10, "alarms", "(III)I"⟩
abbrev cX10_alarm : ByteArray := prog_12_method_66_code
def yX10_alarm : MethodName := ⟨RX10, "alarm", "(III)I"⟩
abbrev cX10_size_ : ByteArray := prog_12_method_67_code
def yX10_size_ : MethodName := ⟨RX10, "size", "(III)I"⟩
abbrev cX10_crossOf : ByteArray := prog_12_method_68_code
def yX10_crossOf : MethodName := ⟨RX10, "crossOf", "(III)I"⟩
abbrev cX10_line : ByteArray := prog_12_method_69_code
def yX10_line : MethodName := ⟨RX10, "line", "(III)I"⟩
abbrev cX10_marks : ByteArray := prog_12_method_70_code
def yX10_marks : MethodName := ⟨RX10, "marks", "(IIII)I"⟩
abbrev cX10_leastFrom : ByteArray := prog_12_method_71_code
def yX10_leastFrom : MethodName := ⟨RX10, "leastFrom", "(IIIIII)I"⟩
abbrev cX10_byAct : ByteArray := prog_12_method_72_code
def yX10_byAct : MethodName := ⟨RX10, "byAct", "(IIIIIII)I"⟩
abbrev cX10_next_ : ByteArray := prog_12_method_73_code
def yX10_next_ : MethodName := ⟨RX10, "next", "(III)I"⟩
abbrev cX10_bearsOf : ByteArray := prog_12_method_74_code
def yX10_bearsOf : MethodName := ⟨RX10, "bearsOf", "(III)I"⟩
abbrev cX10_bears : ByteArray := prog_12_method_75_code
def yX10_bears : MethodName := ⟨RX10, "bears", "(III)Z"⟩
abbrev cX10_two_ : ByteArray := prog_12_method_76_code
def yX10_two_ : MethodName := ⟨RX10, "two", "(IIII)I"⟩
abbrev cX10_angle : ByteArray := prog_12_method_77_code
def yX10_angle : MethodName := ⟨RX10, "angle", "(II)I"⟩
abbrev cX10_turns : ByteArray := prog_12_method_78_code
def yX10_turns : MethodName := ⟨RX10, "turns", "(II)J"⟩
abbrev cX10_isTrial : ByteArray := prog_12_method_79_code
def yX10_isTrial : MethodName := ⟨RX10, "isTrial", "(II)Z"⟩
abbrev cX10_trial : ByteArray := prog_12_method_80_code
def yX10_trial : MethodName := ⟨RX10, "trial", "(IIII)I"⟩
abbrev cX10_lowest : ByteArray := prog_12_method_81_code
def yX10_lowest : MethodName := ⟨RX10, "lowest", "(JJI)J"⟩
abbrev cX10_rate : ByteArray := prog_12_method_82_code
def yX10_rate : MethodName := ⟨RX10, "rate", "(III)J"⟩
abbrev cX10_isLikelier : ByteArray := prog_12_method_83_code
def yX10_isLikelier : MethodName := ⟨RX10, "isLikelier", "(II)Z"⟩
abbrev cX10_form : ByteArray := prog_12_method_84_code
def yX10_form : MethodName := ⟨RX10, "form", "(I)I"⟩
abbrev cX10_leastLikely : ByteArray := prog_12_method_85_code
def yX10_leastLikely : MethodName := ⟨RX10, "leastLikely", "(I)I"⟩
abbrev cX10_joined : ByteArray := prog_12_method_86_code
def yX10_joined : MethodName := ⟨RX10, "joined", "()I"⟩
abbrev cX10_filmWrong : ByteArray := prog_12_method_87_code
def yX10_filmWrong : MethodName := ⟨RX10, "filmWrong", "(I)I"⟩
abbrev cX10_elsewhere : ByteArray := prog_12_method_88_code
def yX10_elsewhere : MethodName := ⟨RX10, "elsewhere", "(II)I"⟩
abbrev cX10_judge : ByteArray := prog_12_method_89_code
def yX10_judge : MethodName := ⟨RX10, "judge", "(II)I"⟩
abbrev cX10_which : ByteArray := prog_12_method_90_code
def yX10_which : MethodName := ⟨RX10, "which", "(I)I"⟩
abbrev cX10_laws : ByteArray := prog_12_method_91_code
def yX10_laws : MethodName := ⟨RX10, "laws", "(II)I"⟩
abbrev cX10_film : ByteArray := prog_12_method_92_code
def yX10_film : MethodName := ⟨RX10, "film", "(III)I"⟩
abbrev cX10_draws : ByteArray := prog_12_method_93_code
def yX10_draws : MethodName := ⟨RX10, "draws", "(II)V"⟩
abbrev cX10_drawn : ByteArray := prog_12_method_94_code
def yX10_drawn : MethodName := ⟨RX10, "drawn", "(IIII)I"⟩
abbrev cX10_chance : ByteArray := prog_12_method_95_code
def yX10_chance : MethodName := ⟨RX10, "chance", "(IIII)J"⟩
abbrev cX10_image : ByteArray := prog_12_method_96_code
def yX10_image : MethodName := ⟨RX10, "image", "()I"⟩
abbrev cX10_back : ByteArray := prog_12_method_97_code
def yX10_back : MethodName := ⟨RX10, "back", "()I"⟩
abbrev cX10_sheet : ByteArray := prog_12_method_98_code
def yX10_sheet : MethodName := ⟨RX10, "sheet", "(III)I"⟩
abbrev cX10_cell : ByteArray := prog_12_method_99_code
def yX10_cell : MethodName := ⟨RX10, "cell", "(III)I"⟩
abbrev cX10_copy : ByteArray := prog_12_method_100_code
def yX10_copy : MethodName := ⟨RX10, "copy", "(IIIII)I"⟩
abbrev cX10_boatsBy : ByteArray := prog_12_method_101_code
def yX10_boatsBy : MethodName := ⟨RX10, "boatsBy", "(IIII)I"⟩
abbrev cX10_isUnder : ByteArray := prog_12_method_102_code
def yX10_isUnder : MethodName := ⟨RX10, "isUnder", "(II)Z"⟩
abbrev cX10_taken : ByteArray := prog_12_method_103_code
def yX10_taken : MethodName := ⟨RX10, "taken", "(II)I"⟩
def RJx145de : String := "java/io/Serializable"
def TJx145de : u_T := fun k => match k with
  | _ => ("", "", "", false)
def tyJx145de : Nat → FieldType := fun k => match k with
  | _ => .int
abbrev wsJx145de0 : List Cond := u_ws RJx145de TJx145de 0
theorem nmJx145de : ∀ a, a < 0 → ∀ b, b < 0 → a ≠ b → (TJx145de a).2.1 ≠ (TJx145de b).2.1 := by decide +kernel
theorem tyJx145de_ok : ∀ k, k < 0 → parseFieldDescriptor (TJx145de k).2.2.1 = some (tyJx145de k) := by decide +kernel
def RJx9f9b0 : String := "java/lang/CharSequence"
def TJx9f9b0 : u_T := fun k => match k with
  | _ => ("", "", "", false)
def tyJx9f9b0 : Nat → FieldType := fun k => match k with
  | _ => .int
abbrev wsJx9f9b00 : List Cond := u_ws RJx9f9b0 TJx9f9b0 0
theorem nmJx9f9b0 : ∀ a, a < 0 → ∀ b, b < 0 → a ≠ b → (TJx9f9b0 a).2.1 ≠ (TJx9f9b0 b).2.1 := by decide +kernel
theorem tyJx9f9b0_ok : ∀ k, k < 0 → parseFieldDescriptor (TJx9f9b0 k).2.2.1 = some (tyJx9f9b0 k) := by decide +kernel
def RJxb160c : String := "java/lang/Comparable"
def TJxb160c : u_T := fun k => match k with
  | _ => ("", "", "", false)
def tyJxb160c : Nat → FieldType := fun k => match k with
  | _ => .int
abbrev wsJxb160c0 : List Cond := u_ws RJxb160c TJxb160c 0
theorem nmJxb160c : ∀ a, a < 0 → ∀ b, b < 0 → a ≠ b → (TJxb160c a).2.1 ≠ (TJxb160c b).2.1 := by decide +kernel
theorem tyJxb160c_ok : ∀ k, k < 0 → parseFieldDescriptor (TJxb160c k).2.2.1 = some (tyJxb160c k) := by decide +kernel
def RJ9 : String := "java/lang/Math"
def TJ9 : u_T := fun k => match k with
  | _ => ("", "", "", false)
def tyJ9 : Nat → FieldType := fun k => match k with
  | _ => .int
abbrev wsJ90 : List Cond := u_ws RJ9 TJ9 0
theorem nmJ9 : ∀ a, a < 0 → ∀ b, b < 0 → a ≠ b → (TJ9 a).2.1 ≠ (TJ9 b).2.1 := by decide +kernel
theorem tyJ9_ok : ∀ k, k < 0 → parseFieldDescriptor (TJ9 k).2.2.1 = some (tyJ9 k) := by decide +kernel
abbrev cJ9_abs_0f7a4 : ByteArray := prog_13_method_59_code
def yJ9_abs_0f7a4 : MethodName := ⟨RJ9, "abs", "(I)I"⟩
abbrev cJ9_max_7cf53 : ByteArray := prog_13_method_65_code
def yJ9_max_7cf53 : MethodName := ⟨RJ9, "max", "(II)I"⟩
abbrev cJ9_min_7cf53 : ByteArray := prog_13_method_69_code
def yJ9_min_7cf53 : MethodName := ⟨RJ9, "min", "(II)I"⟩
def RJ0 : String := "java/lang/String"
def TJ0 : u_T := fun k => match k with
  | _ => ("", "", "", false)
def tyJ0 : Nat → FieldType := fun k => match k with
  | _ => .int
abbrev wsJ00 : List Cond := u_ws RJ0 TJ0 0
theorem nmJ0 : ∀ a, a < 0 → ∀ b, b < 0 → a ≠ b → (TJ0 a).2.1 ≠ (TJ0 b).2.1 := by decide +kernel
theorem tyJ0_ok : ∀ k, k < 0 → parseFieldDescriptor (TJ0 k).2.2.1 = some (tyJ0 k) := by decide +kernel
abbrev cJ0_length_8abf5 : ByteArray := prog_14_method_54_code
def yJ0_length_8abf5 : MethodName := ⟨RJ0, "length", "()I"⟩
abbrev cJ0_charAt_5068e : ByteArray := prog_14_method_56_code
def yJ0_charAt_5068e : MethodName := ⟨RJ0, "charAt", "(I)C"⟩
abbrev cJ0_coder_7d493 : ByteArray := prog_14_method_152_code
def yJ0_coder_7d493 : MethodName := ⟨RJ0, "coder", "()B"⟩
abbrev cJ0_isLatin1_aae02 : ByteArray := prog_14_method_154_code
def yJ0_isLatin1_aae02 : MethodName := ⟨RJ0, "isLatin1", "()Z"⟩
abbrev cJ0_checkIndex_df160 : ByteArray := prog_14_method_155_code
def yJ0_checkIndex_df160 : MethodName := ⟨RJ0, "checkIndex", "(II)V"⟩
def RJ1 : String := "java/lang/StringLatin1"
def TJ1 : u_T := fun k => match k with
  | _ => ("", "", "", false)
def tyJ1 : Nat → FieldType := fun k => match k with
  | _ => .int
abbrev wsJ10 : List Cond := u_ws RJ1 TJ1 0
theorem nmJ1 : ∀ a, a < 0 → ∀ b, b < 0 → a ≠ b → (TJ1 a).2.1 ≠ (TJ1 b).2.1 := by decide +kernel
theorem tyJ1_ok : ∀ k, k < 0 → parseFieldDescriptor (TJ1 k).2.2.1 = some (tyJ1 k) := by decide +kernel
abbrev cJ1_charAt_3b067 : ByteArray := prog_15_method_2_code
def yJ1_charAt_3b067 : MethodName := ⟨RJ1, "charAt", "([BI)C"⟩
def RJ2 : String := "java/lang/StringUTF16"
def TJ2 : u_T := fun k => match k with
  | _ => ("", "", "", false)
def tyJ2 : Nat → FieldType := fun k => match k with
  | _ => .int
abbrev wsJ20 : List Cond := u_ws RJ2 TJ2 0
theorem nmJ2 : ∀ a, a < 0 → ∀ b, b < 0 → a ≠ b → (TJ2 a).2.1 ≠ (TJ2 b).2.1 := by decide +kernel
theorem tyJ2_ok : ∀ k, k < 0 → parseFieldDescriptor (TJ2 k).2.2.1 = some (tyJ2 k) := by decide +kernel
abbrev cJ2_getChar_3b067 : ByteArray := prog_16_method_5_code
def yJ2_getChar_3b067 : MethodName := ⟨RJ2, "getChar", "([BI)C"⟩
abbrev cJ2_length_9d52b : ByteArray := prog_16_method_6_code
def yJ2_length_9d52b : MethodName := ⟨RJ2, "length", "([B)I"⟩
abbrev cJ2_charAt_3b067 : ByteArray := prog_16_method_83_code
def yJ2_charAt_3b067 : MethodName := ⟨RJ2, "charAt", "([BI)C"⟩
abbrev cJ2_checkIndex_2214a : ByteArray := prog_16_method_91_code
def yJ2_checkIndex_2214a : MethodName := ⟨RJ2, "checkIndex", "(I[B)V"⟩
def RJ10 : String := "java/lang/System"
def TJ10 : u_T := fun k => match k with
  | _ => ("", "", "", false)
def tyJ10 : Nat → FieldType := fun k => match k with
  | _ => .int
abbrev wsJ100 : List Cond := u_ws RJ10 TJ10 0
theorem nmJ10 : ∀ a, a < 0 → ∀ b, b < 0 → a ≠ b → (TJ10 a).2.1 ≠ (TJ10 b).2.1 := by decide +kernel
theorem tyJ10_ok : ∀ k, k < 0 → parseFieldDescriptor (TJ10 k).2.2.1 = some (tyJ10 k) := by decide +kernel
def RJxfd54e : String := "java/lang/constant/Constable"
def TJxfd54e : u_T := fun k => match k with
  | _ => ("", "", "", false)
def tyJxfd54e : Nat → FieldType := fun k => match k with
  | _ => .int
abbrev wsJxfd54e0 : List Cond := u_ws RJxfd54e TJxfd54e 0
theorem nmJxfd54e : ∀ a, a < 0 → ∀ b, b < 0 → a ≠ b → (TJxfd54e a).2.1 ≠ (TJxfd54e b).2.1 := by decide +kernel
theorem tyJxfd54e_ok : ∀ k, k < 0 → parseFieldDescriptor (TJxfd54e k).2.2.1 = some (tyJxfd54e k) := by decide +kernel
def RJx3cf43 : String := "java/lang/constant/ConstantDesc"
def TJx3cf43 : u_T := fun k => match k with
  | _ => ("", "", "", false)
def tyJx3cf43 : Nat → FieldType := fun k => match k with
  | _ => .int
abbrev wsJx3cf430 : List Cond := u_ws RJx3cf43 TJx3cf43 0
theorem nmJx3cf43 : ∀ a, a < 0 → ∀ b, b < 0 → a ≠ b → (TJx3cf43 a).2.1 ≠ (TJx3cf43 b).2.1 := by decide +kernel
theorem tyJx3cf43_ok : ∀ k, k < 0 → parseFieldDescriptor (TJx3cf43 k).2.2.1 = some (tyJx3cf43 k) := by decide +kernel
def RJ7 : String := "java/util/Arrays"
def TJ7 : u_T := fun k => match k with
  | _ => ("", "", "", false)
def tyJ7 : Nat → FieldType := fun k => match k with
  | _ => .int
abbrev wsJ70 : List Cond := u_ws RJ7 TJ7 0
theorem nmJ7 : ∀ a, a < 0 → ∀ b, b < 0 → a ≠ b → (TJ7 a).2.1 ≠ (TJ7 b).2.1 := by decide +kernel
theorem tyJ7_ok : ∀ k, k < 0 → parseFieldDescriptor (TJ7 k).2.2.1 = some (tyJ7 k) := by decide +kernel
abbrev cJ7_fill_53178 : ByteArray := prog_18_method_103_code
def yJ7_fill_53178 : MethodName := ⟨RJ7, "fill", "([II)V"⟩
def RJ3 : String := "jdk/internal/util/Preconditions"
def TJ3 : u_T := fun k => match k with
  | _ => ("", "", "", false)
def tyJ3 : Nat → FieldType := fun k => match k with
  | _ => .int
abbrev wsJ30 : List Cond := u_ws RJ3 TJ3 0
theorem nmJ3 : ∀ a, a < 0 → ∀ b, b < 0 → a ≠ b → (TJ3 a).2.1 ≠ (TJ3 b).2.1 := by decide +kernel
theorem tyJ3_ok : ∀ k, k < 0 → parseFieldDescriptor (TJ3 k).2.2.1 = some (tyJ3 k) := by decide +kernel
abbrev cJ3_checkIndex_8e157 : ByteArray := prog_19_method_11_code
def yJ3_checkIndex_8e157 : MethodName := ⟨RJ3, "checkIndex", "(IILjava/util/function/BiFunction;)I"⟩
def RL : String := "AnchorThatDragsLaw"
abbrev cL_law : ByteArray := code
def yL_law : MethodName := ⟨RL, "law", "([I)Z"⟩
