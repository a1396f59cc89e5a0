-- ===== PART A: goes FIRST, ahead of the names: the tables' words, and 'selects' of the private methods out of them =====
/-- a private method of a class that the tables say can be made, by its rows of tables_1 -/
def lw_okq (q : MethodName × Nat) : Prop := (q.1.cls ≠ "java/lang/invoke/MethodHandle" ∧ q.1.cls ≠ "java/lang/invoke/VarHandle") ∧ Cond.instantiable q.1.cls q.2 ∈ tables_1 ∧ Cond.privateMethod q.1 ∈ tables_1 ∧ Cond.instanceMethod q.1 ∈ tables_1
theorem lw_p0 : lw_okq (⟨"InkTaken", "found", "(I)I"⟩, 10) := ⟨⟨by decide +kernel, by decide +kernel⟩, List.mem_of_getElem? (i := 14) (by decide +kernel), List.mem_of_getElem? (i := 269) (by decide +kernel), List.mem_of_getElem? (i := 270) (by decide +kernel)⟩
theorem lw_p1 : lw_okq (⟨"InkTaken", "unfound", "(I)I"⟩, 10) := ⟨⟨by decide +kernel, by decide +kernel⟩, List.mem_of_getElem? (i := 14) (by decide +kernel), List.mem_of_getElem? (i := 281) (by decide +kernel), List.mem_of_getElem? (i := 282) (by decide +kernel)⟩
theorem lw_p2 : lw_okq (⟨"InkTaken$Reader", "readLaw", "()Z"⟩, 5) := ⟨⟨by decide +kernel, by decide +kernel⟩, List.mem_of_getElem? (i := 151) (by decide +kernel), List.mem_of_getElem? (i := 333) (by decide +kernel), List.mem_of_getElem? (i := 334) (by decide +kernel)⟩
theorem lw_p3 : lw_okq (⟨"InkTaken$Reader", "readSign", "(I)Z"⟩, 5) := ⟨⟨by decide +kernel, by decide +kernel⟩, List.mem_of_getElem? (i := 151) (by decide +kernel), List.mem_of_getElem? (i := 337) (by decide +kernel), List.mem_of_getElem? (i := 338) (by decide +kernel)⟩
theorem lw_p4 : lw_okq (⟨"InkTaken$Reader", "next", "()I"⟩, 5) := ⟨⟨by decide +kernel, by decide +kernel⟩, List.mem_of_getElem? (i := 151) (by decide +kernel), List.mem_of_getElem? (i := 341) (by decide +kernel), List.mem_of_getElem? (i := 342) (by decide +kernel)⟩
theorem lw_p5 : lw_okq (⟨"InkTaken$Reader", "fail", "(I)Z"⟩, 5) := ⟨⟨by decide +kernel, by decide +kernel⟩, List.mem_of_getElem? (i := 151) (by decide +kernel), List.mem_of_getElem? (i := 345) (by decide +kernel), List.mem_of_getElem? (i := 346) (by decide +kernel)⟩
theorem lw_p6 : lw_okq (⟨"InkTaken$Reader", "readNumberAndSign", "(III)I"⟩, 5) := ⟨⟨by decide +kernel, by decide +kernel⟩, List.mem_of_getElem? (i := 151) (by decide +kernel), List.mem_of_getElem? (i := 349) (by decide +kernel), List.mem_of_getElem? (i := 350) (by decide +kernel)⟩
theorem lw_p7 : lw_okq (⟨"InkTaken$Reader", "readNumber", "(II)I"⟩, 5) := ⟨⟨by decide +kernel, by decide +kernel⟩, List.mem_of_getElem? (i := 151) (by decide +kernel), List.mem_of_getElem? (i := 353) (by decide +kernel), List.mem_of_getElem? (i := 354) (by decide +kernel)⟩
theorem lw_p8 : lw_okq (⟨"InkTaken$Reader", "isFigure", "(I)Z"⟩, 5) := ⟨⟨by decide +kernel, by decide +kernel⟩, List.mem_of_getElem? (i := 151) (by decide +kernel), List.mem_of_getElem? (i := 357) (by decide +kernel), List.mem_of_getElem? (i := 358) (by decide +kernel)⟩
theorem lw_p9 : lw_okq (⟨"InkTaken$Reader", "readHands", "()Z"⟩, 5) := ⟨⟨by decide +kernel, by decide +kernel⟩, List.mem_of_getElem? (i := 151) (by decide +kernel), List.mem_of_getElem? (i := 361) (by decide +kernel), List.mem_of_getElem? (i := 362) (by decide +kernel)⟩
theorem lw_p10 : lw_okq (⟨"InkTaken$Reader", "readHand", "()Z"⟩, 5) := ⟨⟨by decide +kernel, by decide +kernel⟩, List.mem_of_getElem? (i := 151) (by decide +kernel), List.mem_of_getElem? (i := 368) (by decide +kernel), List.mem_of_getElem? (i := 369) (by decide +kernel)⟩
theorem lw_p11 : lw_okq (⟨"InkTaken$Reader", "readCopies", "()Z"⟩, 5) := ⟨⟨by decide +kernel, by decide +kernel⟩, List.mem_of_getElem? (i := 151) (by decide +kernel), List.mem_of_getElem? (i := 376) (by decide +kernel), List.mem_of_getElem? (i := 377) (by decide +kernel)⟩
theorem lw_p12 : lw_okq (⟨"InkTaken$Reader", "readCopy", "()Z"⟩, 5) := ⟨⟨by decide +kernel, by decide +kernel⟩, List.mem_of_getElem? (i := 151) (by decide +kernel), List.mem_of_getElem? (i := 380) (by decide +kernel), List.mem_of_getElem? (i := 381) (by decide +kernel)⟩
theorem lw_p13 : lw_okq (⟨"InkTaken$Reader", "readDeeds", "()Z"⟩, 5) := ⟨⟨by decide +kernel, by decide +kernel⟩, List.mem_of_getElem? (i := 151) (by decide +kernel), List.mem_of_getElem? (i := 388) (by decide +kernel), List.mem_of_getElem? (i := 389) (by decide +kernel)⟩
theorem lw_p14 : lw_okq (⟨"InkTaken$Reader", "readDeed", "()Z"⟩, 5) := ⟨⟨by decide +kernel, by decide +kernel⟩, List.mem_of_getElem? (i := 151) (by decide +kernel), List.mem_of_getElem? (i := 392) (by decide +kernel), List.mem_of_getElem? (i := 393) (by decide +kernel)⟩
theorem lw_p15 : lw_okq (⟨"InkTaken", "isHand", "(I)Z"⟩, 10) := ⟨⟨by decide +kernel, by decide +kernel⟩, List.mem_of_getElem? (i := 14) (by decide +kernel), List.mem_of_getElem? (i := 427) (by decide +kernel), List.mem_of_getElem? (i := 428) (by decide +kernel)⟩
def lw_privs_1 : List (MethodName × Nat) := [(⟨"InkTaken", "found", "(I)I"⟩, 10), (⟨"InkTaken", "unfound", "(I)I"⟩, 10), (⟨"InkTaken$Reader", "readLaw", "()Z"⟩, 5), (⟨"InkTaken$Reader", "readSign", "(I)Z"⟩, 5), (⟨"InkTaken$Reader", "next", "()I"⟩, 5), (⟨"InkTaken$Reader", "fail", "(I)Z"⟩, 5), (⟨"InkTaken$Reader", "readNumberAndSign", "(III)I"⟩, 5), (⟨"InkTaken$Reader", "readNumber", "(II)I"⟩, 5), (⟨"InkTaken$Reader", "isFigure", "(I)Z"⟩, 5), (⟨"InkTaken$Reader", "readHands", "()Z"⟩, 5), (⟨"InkTaken$Reader", "readHand", "()Z"⟩, 5), (⟨"InkTaken$Reader", "readCopies", "()Z"⟩, 5), (⟨"InkTaken$Reader", "readCopy", "()Z"⟩, 5), (⟨"InkTaken$Reader", "readDeeds", "()Z"⟩, 5), (⟨"InkTaken$Reader", "readDeed", "()Z"⟩, 5), (⟨"InkTaken", "isHand", "(I)Z"⟩, 10)]
theorem lw_r1 : ∀ q ∈ lw_privs_1, lw_okq q := List.forall_mem_cons.mpr ⟨lw_p0, List.forall_mem_cons.mpr ⟨lw_p1, List.forall_mem_cons.mpr ⟨lw_p2, List.forall_mem_cons.mpr ⟨lw_p3, List.forall_mem_cons.mpr ⟨lw_p4, List.forall_mem_cons.mpr ⟨lw_p5, List.forall_mem_cons.mpr ⟨lw_p6, List.forall_mem_cons.mpr ⟨lw_p7, List.forall_mem_cons.mpr ⟨lw_p8, List.forall_mem_cons.mpr ⟨lw_p9, List.forall_mem_cons.mpr ⟨lw_p10, List.forall_mem_cons.mpr ⟨lw_p11, List.forall_mem_cons.mpr ⟨lw_p12, List.forall_mem_cons.mpr ⟨lw_p13, List.forall_mem_cons.mpr ⟨lw_p14, List.forall_mem_cons.mpr ⟨lw_p15, fun _ h => absurd h List.not_mem_nil⟩⟩⟩⟩⟩⟩⟩⟩⟩⟩⟩⟩⟩⟩⟩⟩
theorem lw_p16 : lw_okq (⟨"InkTaken", "isCopy", "(I)Z"⟩, 10) := ⟨⟨by decide +kernel, by decide +kernel⟩, List.mem_of_getElem? (i := 14) (by decide +kernel), List.mem_of_getElem? (i := 441) (by decide +kernel), List.mem_of_getElem? (i := 442) (by decide +kernel)⟩
theorem lw_p17 : lw_okq (⟨"InkTaken", "isDeed", "(I)Z"⟩, 10) := ⟨⟨by decide +kernel, by decide +kernel⟩, List.mem_of_getElem? (i := 14) (by decide +kernel), List.mem_of_getElem? (i := 511) (by decide +kernel), List.mem_of_getElem? (i := 512) (by decide +kernel)⟩
theorem lw_p18 : lw_okq (⟨"InkTaken", "isHandSet", "(I)Z"⟩, 10) := ⟨⟨by decide +kernel, by decide +kernel⟩, List.mem_of_getElem? (i := 14) (by decide +kernel), List.mem_of_getElem? (i := 528) (by decide +kernel), List.mem_of_getElem? (i := 529) (by decide +kernel)⟩
theorem lw_p19 : lw_okq (⟨"InkTaken$Foretold", "fewestPlaces", "(LInkTaken$Archive;II)I"⟩, 3) := ⟨⟨by decide +kernel, by decide +kernel⟩, List.mem_of_getElem? (i := 196) (by decide +kernel), List.mem_of_getElem? (i := 610) (by decide +kernel), List.mem_of_getElem? (i := 611) (by decide +kernel)⟩
theorem lw_p20 : lw_okq (⟨"InkTaken$Foretold", "cheapestBeside", "(LInkTaken$Archive;I)I"⟩, 3) := ⟨⟨by decide +kernel, by decide +kernel⟩, List.mem_of_getElem? (i := 196) (by decide +kernel), List.mem_of_getElem? (i := 621) (by decide +kernel), List.mem_of_getElem? (i := 622) (by decide +kernel)⟩
theorem lw_p21 : lw_okq (⟨"InkTaken$Foretold", "widenBy", "(LInkTaken$Archive;II)V"⟩, 3) := ⟨⟨by decide +kernel, by decide +kernel⟩, List.mem_of_getElem? (i := 196) (by decide +kernel), List.mem_of_getElem? (i := 661) (by decide +kernel), List.mem_of_getElem? (i := 662) (by decide +kernel)⟩
theorem lw_p22 : lw_okq (⟨"InkTaken$Foretold", "couldWhiten", "(LInkTaken$Archive;II)Z"⟩, 3) := ⟨⟨by decide +kernel, by decide +kernel⟩, List.mem_of_getElem? (i := 196) (by decide +kernel), List.mem_of_getElem? (i := 673) (by decide +kernel), List.mem_of_getElem? (i := 674) (by decide +kernel)⟩
theorem lw_p23 : lw_okq (⟨"InkTaken", "imageOf", "(I)LInkTaken$Archive;"⟩, 10) := ⟨⟨by decide +kernel, by decide +kernel⟩, List.mem_of_getElem? (i := 14) (by decide +kernel), List.mem_of_getElem? (i := 703) (by decide +kernel), List.mem_of_getElem? (i := 704) (by decide +kernel)⟩
theorem lw_p24 : lw_okq (⟨"InkTaken$Asks", "askAnew", "(LInkTaken$Archive;III)I"⟩, 2) := ⟨⟨by decide +kernel, by decide +kernel⟩, List.mem_of_getElem? (i := 212) (by decide +kernel), List.mem_of_getElem? (i := 732) (by decide +kernel), List.mem_of_getElem? (i := 733) (by decide +kernel)⟩
theorem lw_p25 : lw_okq (⟨"InkTaken$Asks", "runBody", "(LInkTaken$Archive;III)I"⟩, 2) := ⟨⟨by decide +kernel, by decide +kernel⟩, List.mem_of_getElem? (i := 212) (by decide +kernel), List.mem_of_getElem? (i := 743) (by decide +kernel), List.mem_of_getElem? (i := 744) (by decide +kernel)⟩
theorem lw_p26 : lw_okq (⟨"InkTaken$Asks", "leave", "(I)V"⟩, 2) := ⟨⟨by decide +kernel, by decide +kernel⟩, List.mem_of_getElem? (i := 212) (by decide +kernel), List.mem_of_getElem? (i := 747) (by decide +kernel), List.mem_of_getElem? (i := 748) (by decide +kernel)⟩
theorem lw_p27 : lw_okq (⟨"InkTakenModel", "found", "(I)I"⟩, 22) := ⟨⟨by decide +kernel, by decide +kernel⟩, List.mem_of_getElem? (i := 775) (by decide +kernel), List.mem_of_getElem? (i := 862) (by decide +kernel), List.mem_of_getElem? (i := 863) (by decide +kernel)⟩
theorem lw_p28 : lw_okq (⟨"InkTakenModel", "well", "(I)I"⟩, 22) := ⟨⟨by decide +kernel, by decide +kernel⟩, List.mem_of_getElem? (i := 775) (by decide +kernel), List.mem_of_getElem? (i := 867) (by decide +kernel), List.mem_of_getElem? (i := 868) (by decide +kernel)⟩
theorem lw_p29 : lw_okq (⟨"InkTakenModel", "reads", "()Z"⟩, 22) := ⟨⟨by decide +kernel, by decide +kernel⟩, List.mem_of_getElem? (i := 775) (by decide +kernel), List.mem_of_getElem? (i := 893) (by decide +kernel), List.mem_of_getElem? (i := 894) (by decide +kernel)⟩
theorem lw_p30 : lw_okq (⟨"InkTakenModel", "readsLaw", "()Z"⟩, 22) := ⟨⟨by decide +kernel, by decide +kernel⟩, List.mem_of_getElem? (i := 775) (by decide +kernel), List.mem_of_getElem? (i := 897) (by decide +kernel), List.mem_of_getElem? (i := 898) (by decide +kernel)⟩
theorem lw_p31 : lw_okq (⟨"InkTakenModel", "next", "()V"⟩, 22) := ⟨⟨by decide +kernel, by decide +kernel⟩, List.mem_of_getElem? (i := 775) (by decide +kernel), List.mem_of_getElem? (i := 901) (by decide +kernel), List.mem_of_getElem? (i := 902) (by decide +kernel)⟩
def lw_privs_2 : List (MethodName × Nat) := [(⟨"InkTaken", "isCopy", "(I)Z"⟩, 10), (⟨"InkTaken", "isDeed", "(I)Z"⟩, 10), (⟨"InkTaken", "isHandSet", "(I)Z"⟩, 10), (⟨"InkTaken$Foretold", "fewestPlaces", "(LInkTaken$Archive;II)I"⟩, 3), (⟨"InkTaken$Foretold", "cheapestBeside", "(LInkTaken$Archive;I)I"⟩, 3), (⟨"InkTaken$Foretold", "widenBy", "(LInkTaken$Archive;II)V"⟩, 3), (⟨"InkTaken$Foretold", "couldWhiten", "(LInkTaken$Archive;II)Z"⟩, 3), (⟨"InkTaken", "imageOf", "(I)LInkTaken$Archive;"⟩, 10), (⟨"InkTaken$Asks", "askAnew", "(LInkTaken$Archive;III)I"⟩, 2), (⟨"InkTaken$Asks", "runBody", "(LInkTaken$Archive;III)I"⟩, 2), (⟨"InkTaken$Asks", "leave", "(I)V"⟩, 2), (⟨"InkTakenModel", "found", "(I)I"⟩, 22), (⟨"InkTakenModel", "well", "(I)I"⟩, 22), (⟨"InkTakenModel", "reads", "()Z"⟩, 22), (⟨"InkTakenModel", "readsLaw", "()Z"⟩, 22), (⟨"InkTakenModel", "next", "()V"⟩, 22)]
theorem lw_r2 : ∀ q ∈ lw_privs_2, lw_okq q := List.forall_mem_cons.mpr ⟨lw_p16, List.forall_mem_cons.mpr ⟨lw_p17, List.forall_mem_cons.mpr ⟨lw_p18, List.forall_mem_cons.mpr ⟨lw_p19, List.forall_mem_cons.mpr ⟨lw_p20, List.forall_mem_cons.mpr ⟨lw_p21, List.forall_mem_cons.mpr ⟨lw_p22, List.forall_mem_cons.mpr ⟨lw_p23, List.forall_mem_cons.mpr ⟨lw_p24, List.forall_mem_cons.mpr ⟨lw_p25, List.forall_mem_cons.mpr ⟨lw_p26, List.forall_mem_cons.mpr ⟨lw_p27, List.forall_mem_cons.mpr ⟨lw_p28, List.forall_mem_cons.mpr ⟨lw_p29, List.forall_mem_cons.mpr ⟨lw_p30, List.forall_mem_cons.mpr ⟨lw_p31, fun _ h => absurd h List.not_mem_nil⟩⟩⟩⟩⟩⟩⟩⟩⟩⟩⟩⟩⟩⟩⟩⟩
theorem lw_p32 : lw_okq (⟨"InkTakenModel", "isLetter", "(I)Z"⟩, 22) := ⟨⟨by decide +kernel, by decide +kernel⟩, List.mem_of_getElem? (i := 775) (by decide +kernel), List.mem_of_getElem? (i := 912) (by decide +kernel), List.mem_of_getElem? (i := 913) (by decide +kernel)⟩
theorem lw_p33 : lw_okq (⟨"InkTakenModel", "fails", "(I)Z"⟩, 22) := ⟨⟨by decide +kernel, by decide +kernel⟩, List.mem_of_getElem? (i := 775) (by decide +kernel), List.mem_of_getElem? (i := 916) (by decide +kernel), List.mem_of_getElem? (i := 917) (by decide +kernel)⟩
theorem lw_p34 : lw_okq (⟨"InkTakenModel", "number", "(III)Z"⟩, 22) := ⟨⟨by decide +kernel, by decide +kernel⟩, List.mem_of_getElem? (i := 775) (by decide +kernel), List.mem_of_getElem? (i := 920) (by decide +kernel), List.mem_of_getElem? (i := 921) (by decide +kernel)⟩
theorem lw_p35 : lw_okq (⟨"InkTakenModel", "sign", "(I)Z"⟩, 22) := ⟨⟨by decide +kernel, by decide +kernel⟩, List.mem_of_getElem? (i := 775) (by decide +kernel), List.mem_of_getElem? (i := 924) (by decide +kernel), List.mem_of_getElem? (i := 925) (by decide +kernel)⟩
theorem lw_p36 : lw_okq (⟨"InkTakenModel", "readsOne", "()Z"⟩, 22) := ⟨⟨by decide +kernel, by decide +kernel⟩, List.mem_of_getElem? (i := 775) (by decide +kernel), List.mem_of_getElem? (i := 928) (by decide +kernel), List.mem_of_getElem? (i := 929) (by decide +kernel)⟩
theorem lw_p37 : lw_okq (⟨"InkTakenModel", "readsHand", "(I)Z"⟩, 22) := ⟨⟨by decide +kernel, by decide +kernel⟩, List.mem_of_getElem? (i := 775) (by decide +kernel), List.mem_of_getElem? (i := 935) (by decide +kernel), List.mem_of_getElem? (i := 936) (by decide +kernel)⟩
theorem lw_p38 : lw_okq (⟨"InkTakenModel", "readsCopy", "()Z"⟩, 22) := ⟨⟨by decide +kernel, by decide +kernel⟩, List.mem_of_getElem? (i := 775) (by decide +kernel), List.mem_of_getElem? (i := 939) (by decide +kernel), List.mem_of_getElem? (i := 940) (by decide +kernel)⟩
theorem lw_p39 : lw_okq (⟨"InkTakenModel", "readsDeed", "()Z"⟩, 22) := ⟨⟨by decide +kernel, by decide +kernel⟩, List.mem_of_getElem? (i := 775) (by decide +kernel), List.mem_of_getElem? (i := 943) (by decide +kernel), List.mem_of_getElem? (i := 944) (by decide +kernel)⟩
theorem lw_p40 : lw_okq (⟨"InkTakenModel", "isHand", "(I)Z"⟩, 22) := ⟨⟨by decide +kernel, by decide +kernel⟩, List.mem_of_getElem? (i := 775) (by decide +kernel), List.mem_of_getElem? (i := 965) (by decide +kernel), List.mem_of_getElem? (i := 966) (by decide +kernel)⟩
theorem lw_p41 : lw_okq (⟨"InkTakenModel", "remember", "()V"⟩, 22) := ⟨⟨by decide +kernel, by decide +kernel⟩, List.mem_of_getElem? (i := 775) (by decide +kernel), List.mem_of_getElem? (i := 970) (by decide +kernel), List.mem_of_getElem? (i := 971) (by decide +kernel)⟩
theorem lw_p42 : lw_okq (⟨"InkTakenModel", "isCopy", "(I)Z"⟩, 22) := ⟨⟨by decide +kernel, by decide +kernel⟩, List.mem_of_getElem? (i := 775) (by decide +kernel), List.mem_of_getElem? (i := 978) (by decide +kernel), List.mem_of_getElem? (i := 979) (by decide +kernel)⟩
theorem lw_p43 : lw_okq (⟨"InkTakenModel", "copiesOf", "(II)I"⟩, 22) := ⟨⟨by decide +kernel, by decide +kernel⟩, List.mem_of_getElem? (i := 775) (by decide +kernel), List.mem_of_getElem? (i := 1013) (by decide +kernel), List.mem_of_getElem? (i := 1014) (by decide +kernel)⟩
theorem lw_p44 : lw_okq (⟨"InkTakenModel", "isDeed", "(I)Z"⟩, 22) := ⟨⟨by decide +kernel, by decide +kernel⟩, List.mem_of_getElem? (i := 775) (by decide +kernel), List.mem_of_getElem? (i := 1021) (by decide +kernel), List.mem_of_getElem? (i := 1022) (by decide +kernel)⟩
theorem lw_p45 : lw_okq (⟨"InkTakenModel", "areHands", "(I)Z"⟩, 22) := ⟨⟨by decide +kernel, by decide +kernel⟩, List.mem_of_getElem? (i := 775) (by decide +kernel), List.mem_of_getElem? (i := 1038) (by decide +kernel), List.mem_of_getElem? (i := 1039) (by decide +kernel)⟩
theorem lw_p46 : lw_okq (⟨"InkTakenModel", "fallsBy", "(I)I"⟩, 22) := ⟨⟨by decide +kernel, by decide +kernel⟩, List.mem_of_getElem? (i := 775) (by decide +kernel), List.mem_of_getElem? (i := 1042) (by decide +kernel), List.mem_of_getElem? (i := 1043) (by decide +kernel)⟩
theorem lw_p47 : lw_okq (⟨"InkTakenModel", "layAside", "()V"⟩, 22) := ⟨⟨by decide +kernel, by decide +kernel⟩, List.mem_of_getElem? (i := 775) (by decide +kernel), List.mem_of_getElem? (i := 1046) (by decide +kernel), List.mem_of_getElem? (i := 1047) (by decide +kernel)⟩
def lw_privs_3 : List (MethodName × Nat) := [(⟨"InkTakenModel", "isLetter", "(I)Z"⟩, 22), (⟨"InkTakenModel", "fails", "(I)Z"⟩, 22), (⟨"InkTakenModel", "number", "(III)Z"⟩, 22), (⟨"InkTakenModel", "sign", "(I)Z"⟩, 22), (⟨"InkTakenModel", "readsOne", "()Z"⟩, 22), (⟨"InkTakenModel", "readsHand", "(I)Z"⟩, 22), (⟨"InkTakenModel", "readsCopy", "()Z"⟩, 22), (⟨"InkTakenModel", "readsDeed", "()Z"⟩, 22), (⟨"InkTakenModel", "isHand", "(I)Z"⟩, 22), (⟨"InkTakenModel", "remember", "()V"⟩, 22), (⟨"InkTakenModel", "isCopy", "(I)Z"⟩, 22), (⟨"InkTakenModel", "copiesOf", "(II)I"⟩, 22), (⟨"InkTakenModel", "isDeed", "(I)Z"⟩, 22), (⟨"InkTakenModel", "areHands", "(I)Z"⟩, 22), (⟨"InkTakenModel", "fallsBy", "(I)I"⟩, 22), (⟨"InkTakenModel", "layAside", "()V"⟩, 22)]
theorem lw_r3 : ∀ q ∈ lw_privs_3, lw_okq q := List.forall_mem_cons.mpr ⟨lw_p32, List.forall_mem_cons.mpr ⟨lw_p33, List.forall_mem_cons.mpr ⟨lw_p34, List.forall_mem_cons.mpr ⟨lw_p35, List.forall_mem_cons.mpr ⟨lw_p36, List.forall_mem_cons.mpr ⟨lw_p37, List.forall_mem_cons.mpr ⟨lw_p38, List.forall_mem_cons.mpr ⟨lw_p39, List.forall_mem_cons.mpr ⟨lw_p40, List.forall_mem_cons.mpr ⟨lw_p41, List.forall_mem_cons.mpr ⟨lw_p42, List.forall_mem_cons.mpr ⟨lw_p43, List.forall_mem_cons.mpr ⟨lw_p44, List.forall_mem_cons.mpr ⟨lw_p45, List.forall_mem_cons.mpr ⟨lw_p46, List.forall_mem_cons.mpr ⟨lw_p47, fun _ h => absurd h List.not_mem_nil⟩⟩⟩⟩⟩⟩⟩⟩⟩⟩⟩⟩⟩⟩⟩⟩
theorem lw_p48 : lw_okq (⟨"InkTakenModel", "lossBy", "(I)I"⟩, 22) := ⟨⟨by decide +kernel, by decide +kernel⟩, List.mem_of_getElem? (i := 775) (by decide +kernel), List.mem_of_getElem? (i := 1053) (by decide +kernel), List.mem_of_getElem? (i := 1054) (by decide +kernel)⟩
theorem lw_p49 : lw_okq (⟨"InkTakenModel", "isOrder", "(I)Z"⟩, 22) := ⟨⟨by decide +kernel, by decide +kernel⟩, List.mem_of_getElem? (i := 775) (by decide +kernel), List.mem_of_getElem? (i := 1099) (by decide +kernel), List.mem_of_getElem? (i := 1100) (by decide +kernel)⟩
theorem lw_p50 : lw_okq (⟨"InkTakenModel", "handAt", "(II)I"⟩, 22) := ⟨⟨by decide +kernel, by decide +kernel⟩, List.mem_of_getElem? (i := 775) (by decide +kernel), List.mem_of_getElem? (i := 1103) (by decide +kernel), List.mem_of_getElem? (i := 1104) (by decide +kernel)⟩
theorem lw_p51 : lw_okq (⟨"InkTakenModel", "canBe", "(II)Z"⟩, 22) := ⟨⟨by decide +kernel, by decide +kernel⟩, List.mem_of_getElem? (i := 775) (by decide +kernel), List.mem_of_getElem? (i := 1116) (by decide +kernel), List.mem_of_getElem? (i := 1117) (by decide +kernel)⟩
theorem lw_p52 : lw_okq (⟨"InkTakenModel", "mark", "(I)I"⟩, 22) := ⟨⟨by decide +kernel, by decide +kernel⟩, List.mem_of_getElem? (i := 775) (by decide +kernel), List.mem_of_getElem? (i := 1155) (by decide +kernel), List.mem_of_getElem? (i := 1156) (by decide +kernel)⟩
theorem lw_p53 : lw_okq (⟨"InkTakenModel", "blackOf", "(I)I"⟩, 22) := ⟨⟨by decide +kernel, by decide +kernel⟩, List.mem_of_getElem? (i := 775) (by decide +kernel), List.mem_of_getElem? (i := 1159) (by decide +kernel), List.mem_of_getElem? (i := 1160) (by decide +kernel)⟩
theorem lw_p54 : lw_okq (⟨"InkTakenModel", "leave", "(J)V"⟩, 22) := ⟨⟨by decide +kernel, by decide +kernel⟩, List.mem_of_getElem? (i := 775) (by decide +kernel), List.mem_of_getElem? (i := 1166) (by decide +kernel), List.mem_of_getElem? (i := 1167) (by decide +kernel)⟩
theorem lw_p55 : lw_okq (⟨"InkTakenModel", "sizeOf", "(I)I"⟩, 22) := ⟨⟨by decide +kernel, by decide +kernel⟩, List.mem_of_getElem? (i := 775) (by decide +kernel), List.mem_of_getElem? (i := 1172) (by decide +kernel), List.mem_of_getElem? (i := 1173) (by decide +kernel)⟩
def lw_privs_4 : List (MethodName × Nat) := [(⟨"InkTakenModel", "lossBy", "(I)I"⟩, 22), (⟨"InkTakenModel", "isOrder", "(I)Z"⟩, 22), (⟨"InkTakenModel", "handAt", "(II)I"⟩, 22), (⟨"InkTakenModel", "canBe", "(II)Z"⟩, 22), (⟨"InkTakenModel", "mark", "(I)I"⟩, 22), (⟨"InkTakenModel", "blackOf", "(I)I"⟩, 22), (⟨"InkTakenModel", "leave", "(J)V"⟩, 22), (⟨"InkTakenModel", "sizeOf", "(I)I"⟩, 22)]
theorem lw_r4 : ∀ q ∈ lw_privs_4, lw_okq q := List.forall_mem_cons.mpr ⟨lw_p48, List.forall_mem_cons.mpr ⟨lw_p49, List.forall_mem_cons.mpr ⟨lw_p50, List.forall_mem_cons.mpr ⟨lw_p51, List.forall_mem_cons.mpr ⟨lw_p52, List.forall_mem_cons.mpr ⟨lw_p53, List.forall_mem_cons.mpr ⟨lw_p54, List.forall_mem_cons.mpr ⟨lw_p55, fun _ h => absurd h List.not_mem_nil⟩⟩⟩⟩⟩⟩⟩⟩
def lw_privs : List (MethodName × Nat) := lw_privs_1 ++ (lw_privs_2 ++ (lw_privs_3 ++ (lw_privs_4)))
def lw_tbl : List Cond := k2_sels lw_privs ++ tables_1
theorem lw_privs_ok : ∀ q ∈ lw_privs, lw_okq q := by
  show ∀ q ∈ lw_privs_1 ++ (lw_privs_2 ++ (lw_privs_3 ++ (lw_privs_4))), lw_okq q
  exact List.forall_mem_append.mpr ⟨lw_r1, List.forall_mem_append.mpr ⟨lw_r2, List.forall_mem_append.mpr ⟨lw_r3, lw_r4⟩⟩⟩
def RX0 : String := "InkTaken$Acts"
def TX0 : u_T := fun k => match k with
  | 0 => ("InkTaken$Acts", "sorts", "[I", true)
  | 1 => ("InkTaken$Acts", "whites", "[I", true)
  | _ => ("InkTaken$Acts", "size", "I", false)
def tyX0 : Nat → FieldType := fun k => match k with
  | 0 => .array .int
  | 1 => .array .int
  | _ => .int
abbrev wsX00 : List Cond := u_ws RX0 TX0 3
theorem nmX0 : ∀ a, a < 3 → ∀ b, b < 3 → a ≠ b → (TX0 a).2.1 ≠ (TX0 b).2.1 := by decide +kernel
theorem tyX0_ok : ∀ k, k < 3 → parseFieldDescriptor (TX0 k).2.2.1 = some (tyX0 k) := by decide +kernel
abbrev cX0_init : ByteArray := prog_2_method_1_code
def yX0_init : MethodName := ⟨RX0, "<init>", "()V"⟩
abbrev cX0_forget : ByteArray := prog_2_method_2_code
def yX0_forget : MethodName := ⟨RX0, "forget", "()V"⟩
abbrev cX0_keep : ByteArray := prog_2_method_3_code
def yX0_keep : MethodName := ⟨RX0, "keep", "(II)V"⟩
abbrev cX0_undoLatest : ByteArray := prog_2_method_4_code
def yX0_undoLatest : MethodName := ⟨RX0, "undoLatest", "(LInkTaken$Archive;)V"⟩
def RX1 : String := "InkTaken$Archive"
def TX1 : u_T := fun k => match k with
  | 0 => ("InkTaken$Archive", "told", "Z", false)
  | 1 => ("InkTaken$Archive", "year", "I", false)
  | 2 => ("InkTaken$Archive", "repent", "I", false)
  | 3 => ("InkTaken$Archive", "day", "I", false)
  | 4 => ("InkTaken$Archive", "spent", "I", false)
  | 5 => ("InkTaken$Archive", "white", "I", false)
  | 6 => ("InkTaken$Archive", "hands", "I", false)
  | 7 => ("InkTaken$Archive", "copies", "I", false)
  | 8 => ("InkTaken$Archive", "deeds", "I", false)
  | 9 => ("InkTaken$Archive", "kinds", "[I", true)
  | 10 => ("InkTaken$Archive", "coins", "[I", true)
  | 11 => ("InkTaken$Archive", "placeOf", "[I", true)
  | 12 => ("InkTaken$Archive", "handOf", "[I", true)
  | 13 => ("InkTaken$Archive", "widthOf", "[I", true)
  | 14 => ("InkTaken$Archive", "dayOf", "[I", true)
  | 15 => ("InkTaken$Archive", "setOf", "[I", true)
  | 16 => ("InkTaken$Archive", "needsAll", "[I", true)
  | 17 => ("InkTaken$Archive", "onOf", "[I", true)
  | _ => ("InkTaken$Archive", "worthOf", "[I", true)
def tyX1 : Nat → FieldType := fun k => match k with
  | 0 => .boolean
  | 1 => .int
  | 2 => .int
  | 3 => .int
  | 4 => .int
  | 5 => .int
  | 6 => .int
  | 7 => .int
  | 8 => .int
  | 9 => .array .int
  | 10 => .array .int
  | 11 => .array .int
  | 12 => .array .int
  | 13 => .array .int
  | 14 => .array .int
  | 15 => .array .int
  | 16 => .array .int
  | 17 => .array .int
  | _ => .array .int
abbrev wsX10 : List Cond := u_ws RX1 TX1 19
theorem nmX1 : ∀ a, a < 19 → ∀ b, b < 19 → a ≠ b → (TX1 a).2.1 ≠ (TX1 b).2.1 := by decide +kernel
theorem tyX1_ok : ∀ k, k < 19 → parseFieldDescriptor (TX1 k).2.2.1 = some (tyX1 k) := by decide +kernel
abbrev cX1_init : ByteArray := prog_3_method_1_code
def yX1_init : MethodName := ⟨RX1, "<init>", "()V"⟩
abbrev cX1_begin : ByteArray := prog_3_method_2_code
def yX1_begin : MethodName := ⟨RX1, "begin", "()V"⟩
abbrev cX1_become : ByteArray := prog_3_method_3_code
def yX1_become : MethodName := ⟨RX1, "become", "(LInkTaken$Archive;)V"⟩
abbrev cX1_addHand : ByteArray := prog_3_method_4_code
def yX1_addHand : MethodName := ⟨RX1, "addHand", "(II)V"⟩
abbrev cX1_addCopy : ByteArray := prog_3_method_5_code
def yX1_addCopy : MethodName := ⟨RX1, "addCopy", "(III)V"⟩
abbrev cX1_addDeed : ByteArray := prog_3_method_6_code
def yX1_addDeed : MethodName := ⟨RX1, "addDeed", "(IIII)V"⟩
abbrev cX1_limitOf : ByteArray := prog_3_method_7_code
def yX1_limitOf : MethodName := ⟨RX1, "limitOf", "(II)I"⟩
abbrev cX1_isDrunk : ByteArray := prog_3_method_8_code
def yX1_isDrunk : MethodName := ⟨RX1, "isDrunk", "(I)Z"⟩
abbrev cX1_isInLimit : ByteArray := prog_3_method_9_code
def yX1_isInLimit : MethodName := ⟨RX1, "isInLimit", "(II)Z"⟩
abbrev cX1_mayRecall : ByteArray := prog_3_method_10_code
def yX1_mayRecall : MethodName := ⟨RX1, "mayRecall", "(III)Z"⟩
abbrev cX1_mayRecallNow : ByteArray := prog_3_method_11_code
def yX1_mayRecallNow : MethodName := ⟨RX1, "mayRecallNow", "(I)Z"⟩
abbrev cX1_recallableBy : ByteArray := prog_3_method_12_code
def yX1_recallableBy : MethodName := ⟨RX1, "recallableBy", "(II)I"⟩
abbrev cX1_whiteAfter : ByteArray := prog_3_method_13_code
def yX1_whiteAfter : MethodName := ⟨RX1, "whiteAfter", "(II)I"⟩
abbrev cX1_copiesBy : ByteArray := prog_3_method_14_code
def yX1_copiesBy : MethodName := ⟨RX1, "copiesBy", "(I)I"⟩
abbrev cX1_unwhiteBy : ByteArray := prog_3_method_15_code
def yX1_unwhiteBy : MethodName := ⟨RX1, "unwhiteBy", "(I)I"⟩
abbrev cX1_copiesAt : ByteArray := prog_3_method_16_code
def yX1_copiesAt : MethodName := ⟨RX1, "copiesAt", "(I)I"⟩
abbrev cX1_blackBy : ByteArray := prog_3_method_17_code
def yX1_blackBy : MethodName := ⟨RX1, "blackBy", "(I)I"⟩
abbrev cX1_standingOn : ByteArray := prog_3_method_18_code
def yX1_standingOn : MethodName := ⟨RX1, "standingOn", "(I)I"⟩
abbrev cX1_standingBy : ByteArray := prog_3_method_19_code
def yX1_standingBy : MethodName := ⟨RX1, "standingBy", "(I)I"⟩
abbrev cX1_whiteOn : ByteArray := prog_3_method_20_code
def yX1_whiteOn : MethodName := ⟨RX1, "whiteOn", "(II)I"⟩
abbrev cX1_passDay : ByteArray := prog_3_method_21_code
def yX1_passDay : MethodName := ⟨RX1, "passDay", "()V"⟩
def RX2 : String := "InkTaken$Asks"
def TX2 : u_T := fun k => match k with
  | 0 => ("InkTaken$Asks", "trace", "[I", true)
  | _ => ("InkTaken$Asks", "left", "I", false)
def tyX2 : Nat → FieldType := fun k => match k with
  | 0 => .array .int
  | _ => .int
abbrev wsX20 : List Cond := u_ws RX2 TX2 2
theorem nmX2 : ∀ a, a < 2 → ∀ b, b < 2 → a ≠ b → (TX2 a).2.1 ≠ (TX2 b).2.1 := by decide +kernel
theorem tyX2_ok : ∀ k, k < 2 → parseFieldDescriptor (TX2 k).2.2.1 = some (tyX2 k) := by decide +kernel
abbrev cX2_init : ByteArray := prog_4_method_1_code
def yX2_init : MethodName := ⟨RX2, "<init>", "()V"⟩
abbrev cX2_isKindOf : ByteArray := prog_4_method_2_code
def yX2_isKindOf : MethodName := ⟨RX2, "isKindOf", "(II)Z"⟩
abbrev cX2_answerOf : ByteArray := prog_4_method_3_code
def yX2_answerOf : MethodName := ⟨RX2, "answerOf", "(LInkTaken$Archive;II)I"⟩
abbrev cX2_askAnew : ByteArray := prog_4_method_4_code
def yX2_askAnew : MethodName := ⟨RX2, "askAnew", "(LInkTaken$Archive;III)I"⟩
abbrev cX2_nearest : ByteArray := prog_4_method_5_code
def yX2_nearest : MethodName := ⟨RX2, "nearest", "([II)I"⟩
abbrev cX2_runBody : ByteArray := prog_4_method_6_code
def yX2_runBody : MethodName := ⟨RX2, "runBody", "(LInkTaken$Archive;III)I"⟩
abbrev cX2_leave : ByteArray := prog_4_method_7_code
def yX2_leave : MethodName := ⟨RX2, "leave", "(I)V"⟩
def RX3 : String := "InkTaken$Foretold"
def TX3 : u_T := fun k => match k with
  | 0 => ("InkTaken$Foretold", "losses", "[I", true)
  | 1 => ("InkTaken$Foretold", "ways", "[I", true)
  | _ => ("InkTaken$Foretold", "leastSets", "[I", true)
def tyX3 : Nat → FieldType := fun k => match k with
  | 0 => .array .int
  | 1 => .array .int
  | _ => .array .int
abbrev wsX30 : List Cond := u_ws RX3 TX3 3
theorem nmX3 : ∀ a, a < 3 → ∀ b, b < 3 → a ≠ b → (TX3 a).2.1 ≠ (TX3 b).2.1 := by decide +kernel
theorem tyX3_ok : ∀ k, k < 3 → parseFieldDescriptor (TX3 k).2.2.1 = some (tyX3 k) := by decide +kernel
abbrev cX3_init : ByteArray := prog_5_method_1_code
def yX3_init : MethodName := ⟨RX3, "<init>", "()V"⟩
abbrev cX3_fallenBy : ByteArray := prog_5_method_2_code
def yX3_fallenBy : MethodName := ⟨RX3, "fallenBy", "(LInkTaken$Archive;I)I"⟩
abbrev cX3_lossBy : ByteArray := prog_5_method_3_code
def yX3_lossBy : MethodName := ⟨RX3, "lossBy", "(LInkTaken$Archive;I)I"⟩
abbrev cX3_weighAll : ByteArray := prog_5_method_4_code
def yX3_weighAll : MethodName := ⟨RX3, "weighAll", "(LInkTaken$Archive;)V"⟩
abbrev cX3_gainOf : ByteArray := prog_5_method_5_code
def yX3_gainOf : MethodName := ⟨RX3, "gainOf", "(II)I"⟩
abbrev cX3_bestPair : ByteArray := prog_5_method_6_code
def yX3_bestPair : MethodName := ⟨RX3, "bestPair", "(LInkTaken$Archive;)I"⟩
abbrev cX3_firstFall : ByteArray := prog_5_method_7_code
def yX3_firstFall : MethodName := ⟨RX3, "firstFall", "(LInkTaken$Archive;II)I"⟩
abbrev cX3_safeFrom : ByteArray := prog_5_method_8_code
def yX3_safeFrom : MethodName := ⟨RX3, "safeFrom", "(LInkTaken$Archive;I)I"⟩
abbrev cX3_doublesFor : ByteArray := prog_5_method_9_code
def yX3_doublesFor : MethodName := ⟨RX3, "doublesFor", "(LInkTaken$Archive;III)I"⟩
abbrev cX3_fewestPlaces : ByteArray := prog_5_method_10_code
def yX3_fewestPlaces : MethodName := ⟨RX3, "fewestPlaces", "(LInkTaken$Archive;II)I"⟩
abbrev cX3_cheapestBeside : ByteArray := prog_5_method_11_code
def yX3_cheapestBeside : MethodName := ⟨RX3, "cheapestBeside", "(LInkTaken$Archive;I)I"⟩
abbrev cX3_leastYear : ByteArray := prog_5_method_12_code
def yX3_leastYear : MethodName := ⟨RX3, "leastYear", "(LInkTaken$Archive;II)I"⟩
abbrev cX3_bestOrder : ByteArray := prog_5_method_13_code
def yX3_bestOrder : MethodName := ⟨RX3, "bestOrder", "(LInkTaken$Archive;)I"⟩
abbrev cX3_handInOrder : ByteArray := prog_5_method_14_code
def yX3_handInOrder : MethodName := ⟨RX3, "handInOrder", "(LInkTaken$Archive;II)I"⟩
abbrev cX3_sumOfOrder : ByteArray := prog_5_method_15_code
def yX3_sumOfOrder : MethodName := ⟨RX3, "sumOfOrder", "(LInkTaken$Archive;I)I"⟩
abbrev cX3_blanksOf : ByteArray := prog_5_method_16_code
def yX3_blanksOf : MethodName := ⟨RX3, "blanksOf", "(LInkTaken$Archive;II)I"⟩
abbrev cX3_widenBy : ByteArray := prog_5_method_17_code
def yX3_widenBy : MethodName := ⟨RX3, "widenBy", "(LInkTaken$Archive;II)V"⟩
abbrev cX3_forgedBy : ByteArray := prog_5_method_18_code
def yX3_forgedBy : MethodName := ⟨RX3, "forgedBy", "(LInkTaken$Archive;[II)I"⟩
abbrev cX3_couldWhiten : ByteArray := prog_5_method_19_code
def yX3_couldWhiten : MethodName := ⟨RX3, "couldWhiten", "(LInkTaken$Archive;II)Z"⟩
abbrev cX3_selfOf : ByteArray := prog_5_method_20_code
def yX3_selfOf : MethodName := ⟨RX3, "selfOf", "(LInkTaken$Archive;III)I"⟩
abbrev cX3_byDraws : ByteArray := prog_5_method_21_code
def yX3_byDraws : MethodName := ⟨RX3, "byDraws", "(LInkTaken$Archive;III)I"⟩
def RX4 : String := "InkTaken$Reader"
def TX4 : u_T := fun k => match k with
  | 0 => ("InkTaken$Reader", "tape", "[I", true)
  | 1 => ("InkTaken$Reader", "draft", "LInkTaken$Archive;", true)
  | 2 => ("InkTaken$Reader", "size", "I", false)
  | 3 => ("InkTaken$Reader", "at", "I", false)
  | _ => ("InkTaken$Reader", "faultNumber", "I", false)
def tyX4 : Nat → FieldType := fun k => match k with
  | 0 => .array .int
  | 1 => .object "InkTaken$Archive"
  | 2 => .int
  | 3 => .int
  | _ => .int
abbrev wsX40 : List Cond := u_ws RX4 TX4 5
theorem nmX4 : ∀ a, a < 5 → ∀ b, b < 5 → a ≠ b → (TX4 a).2.1 ≠ (TX4 b).2.1 := by decide +kernel
theorem tyX4_ok : ∀ k, k < 5 → parseFieldDescriptor (TX4 k).2.2.1 = some (tyX4 k) := by decide +kernel
abbrev cX4_init : ByteArray := prog_6_method_1_code
def yX4_init : MethodName := ⟨RX4, "<init>", "()V"⟩
abbrev cX4_append : ByteArray := prog_6_method_2_code
def yX4_append : MethodName := ⟨RX4, "append", "(I)I"⟩
abbrev cX4_readTape : ByteArray := prog_6_method_3_code
def yX4_readTape : MethodName := ⟨RX4, "readTape", "()Z"⟩
abbrev cX4_fail : ByteArray := prog_6_method_4_code
def yX4_fail : MethodName := ⟨RX4, "fail", "(I)Z"⟩
abbrev cX4_next : ByteArray := prog_6_method_5_code
def yX4_next : MethodName := ⟨RX4, "next", "()I"⟩
abbrev cX4_isFigure : ByteArray := prog_6_method_6_code
def yX4_isFigure : MethodName := ⟨RX4, "isFigure", "(I)Z"⟩
abbrev cX4_readSign : ByteArray := prog_6_method_7_code
def yX4_readSign : MethodName := ⟨RX4, "readSign", "(I)Z"⟩
abbrev cX4_readNumber : ByteArray := prog_6_method_8_code
def yX4_readNumber : MethodName := ⟨RX4, "readNumber", "(II)I"⟩
abbrev cX4_readNumberAndSign : ByteArray := prog_6_method_9_code
def yX4_readNumberAndSign : MethodName := ⟨RX4, "readNumberAndSign", "(III)I"⟩
abbrev cX4_readLaw : ByteArray := prog_6_method_10_code
def yX4_readLaw : MethodName := ⟨RX4, "readLaw", "()Z"⟩
abbrev cX4_kindOfSort : ByteArray := prog_6_method_11_code
def yX4_kindOfSort : MethodName := ⟨RX4, "kindOfSort", "(I)I"⟩
abbrev cX4_readHands : ByteArray := prog_6_method_12_code
def yX4_readHands : MethodName := ⟨RX4, "readHands", "()Z"⟩
abbrev cX4_readHand : ByteArray := prog_6_method_13_code
def yX4_readHand : MethodName := ⟨RX4, "readHand", "()Z"⟩
abbrev cX4_readCopies : ByteArray := prog_6_method_14_code
def yX4_readCopies : MethodName := ⟨RX4, "readCopies", "()Z"⟩
abbrev cX4_readCopy : ByteArray := prog_6_method_15_code
def yX4_readCopy : MethodName := ⟨RX4, "readCopy", "()Z"⟩
abbrev cX4_readDeeds : ByteArray := prog_6_method_16_code
def yX4_readDeeds : MethodName := ⟨RX4, "readDeeds", "()Z"⟩
abbrev cX4_readDeed : ByteArray := prog_6_method_17_code
def yX4_readDeed : MethodName := ⟨RX4, "readDeed", "()Z"⟩
def RX5 : String := "InkTaken$Rows"
def TX5 : u_T := fun k => match k with
  | 0 => ("InkTaken$Rows", "lanes", "[I", true)
  | 1 => ("InkTaken$Rows", "sizes", "[I", true)
  | _ => ("InkTaken$Rows", "items", "[[I", true)
def tyX5 : Nat → FieldType := fun k => match k with
  | 0 => .array .int
  | 1 => .array .int
  | _ => .array (.array .int)
abbrev wsX50 : List Cond := u_ws RX5 TX5 3
theorem nmX5 : ∀ a, a < 3 → ∀ b, b < 3 → a ≠ b → (TX5 a).2.1 ≠ (TX5 b).2.1 := by decide +kernel
theorem tyX5_ok : ∀ k, k < 3 → parseFieldDescriptor (TX5 k).2.2.1 = some (tyX5 k) := by decide +kernel
abbrev cX5_init : ByteArray := prog_7_method_1_code
def yX5_init : MethodName := ⟨RX5, "<init>", "()V"⟩
abbrev cX5_lay : ByteArray := prog_7_method_2_code
def yX5_lay : MethodName := ⟨RX5, "lay", "(III)V"⟩
abbrev cX5_isMissing : ByteArray := prog_7_method_3_code
def yX5_isMissing : MethodName := ⟨RX5, "isMissing", "(I)Z"⟩
abbrev cX5_hasPlaces : ByteArray := prog_7_method_4_code
def yX5_hasPlaces : MethodName := ⟨RX5, "hasPlaces", "(III)Z"⟩
abbrev cX5_put : ByteArray := prog_7_method_5_code
def yX5_put : MethodName := ⟨RX5, "put", "(III)I"⟩
abbrev cX5_present : ByteArray := prog_7_method_6_code
def yX5_present : MethodName := ⟨RX5, "present", "()I"⟩
def RX6 : String := "InkTaken"
def TX6 : u_T := fun k => match k with
  | 0 => ("InkTaken", "rows", "LInkTaken$Rows;", true)
  | 1 => ("InkTaken", "now", "LInkTaken$Archive;", true)
  | 2 => ("InkTaken", "firstImage", "LInkTaken$Archive;", true)
  | 3 => ("InkTaken", "secondImage", "LInkTaken$Archive;", true)
  | 4 => ("InkTaken", "reader", "LInkTaken$Reader;", true)
  | 5 => ("InkTaken", "acts", "LInkTaken$Acts;", true)
  | 6 => ("InkTaken", "foretold", "LInkTaken$Foretold;", true)
  | 7 => ("InkTaken", "asks", "LInkTaken$Asks;", true)
  | 8 => ("InkTaken", "latestFault", "I", false)
  | _ => ("InkTaken", "latestFinding", "I", false)
def tyX6 : Nat → FieldType := fun k => match k with
  | 0 => .object "InkTaken$Rows"
  | 1 => .object "InkTaken$Archive"
  | 2 => .object "InkTaken$Archive"
  | 3 => .object "InkTaken$Archive"
  | 4 => .object "InkTaken$Reader"
  | 5 => .object "InkTaken$Acts"
  | 6 => .object "InkTaken$Foretold"
  | 7 => .object "InkTaken$Asks"
  | 8 => .int
  | _ => .int
abbrev wsX60 : List Cond := u_ws RX6 TX6 10
theorem nmX6 : ∀ a, a < 10 → ∀ b, b < 10 → a ≠ b → (TX6 a).2.1 ≠ (TX6 b).2.1 := by decide +kernel
theorem tyX6_ok : ∀ k, k < 10 → parseFieldDescriptor (TX6 k).2.2.1 = some (tyX6 k) := by decide +kernel
abbrev cX6_init : ByteArray := prog_1_method_1_code
def yX6_init : MethodName := ⟨RX6, "<init>", "()V"⟩
abbrev cX6_row : ByteArray := prog_1_method_2_code
def yX6_row : MethodName := ⟨RX6, "row", "(III)I"⟩
abbrev cX6_set : ByteArray := prog_1_method_3_code
def yX6_set : MethodName := ⟨RX6, "set", "(III)I"⟩
abbrev cX6_copy : ByteArray := prog_1_method_4_code
def yX6_copy : MethodName := ⟨RX6, "copy", "(IIIII)I"⟩
abbrev cX6_drop : ByteArray := prog_1_method_5_code
def yX6_drop : MethodName := ⟨RX6, "drop", "(I)I"⟩
abbrev cX6_feed : ByteArray := prog_1_method_6_code
def yX6_feed : MethodName := ⟨RX6, "feed", "(I)I"⟩
abbrev cX6_archive : ByteArray := prog_1_method_7_code
def yX6_archive : MethodName := ⟨RX6, "archive", "()I"⟩
abbrev cX6_fault : ByteArray := prog_1_method_8_code
def yX6_fault : MethodName := ⟨RX6, "fault", "()I"⟩
abbrev cX6_undo : ByteArray := prog_1_method_9_code
def yX6_undo : MethodName := ⟨RX6, "undo", "()I"⟩
abbrev cX6_write : ByteArray := prog_1_method_10_code
def yX6_write : MethodName := ⟨RX6, "write", "(III)I"⟩
abbrev cX6_recall : ByteArray := prog_1_method_11_code
def yX6_recall : MethodName := ⟨RX6, "recall", "(I)I"⟩
abbrev cX6_days : ByteArray := prog_1_method_12_code
def yX6_days : MethodName := ⟨RX6, "days", "(I)I"⟩
abbrev cX6_copyOf : ByteArray := prog_1_method_13_code
def yX6_copyOf : MethodName := ⟨RX6, "copyOf", "(II)I"⟩
abbrev cX6_hand : ByteArray := prog_1_method_14_code
def yX6_hand : MethodName := ⟨RX6, "hand", "(II)I"⟩
abbrev cX6_deed : ByteArray := prog_1_method_15_code
def yX6_deed : MethodName := ⟨RX6, "deed", "(II)I"⟩
abbrev cX6_place : ByteArray := prog_1_method_16_code
def yX6_place : MethodName := ⟨RX6, "place", "(II)I"⟩
abbrev cX6_falls : ByteArray := prog_1_method_17_code
def yX6_falls : MethodName := ⟨RX6, "falls", "(II)I"⟩
abbrev cX6_ransom : ByteArray := prog_1_method_18_code
def yX6_ransom : MethodName := ⟨RX6, "ransom", "(I)I"⟩
abbrev cX6_pair : ByteArray := prog_1_method_19_code
def yX6_pair : MethodName := ⟨RX6, "pair", "(I)I"⟩
abbrev cX6_ahead : ByteArray := prog_1_method_20_code
def yX6_ahead : MethodName := ⟨RX6, "ahead", "(II)I"⟩
abbrev cX6_first : ByteArray := prog_1_method_21_code
def yX6_first : MethodName := ⟨RX6, "first", "(II)I"⟩
abbrev cX6_safe : ByteArray := prog_1_method_22_code
def yX6_safe : MethodName := ⟨RX6, "safe", "(I)I"⟩
abbrev cX6_doubles : ByteArray := prog_1_method_23_code
def yX6_doubles : MethodName := ⟨RX6, "doubles", "(III)I"⟩
abbrev cX6_law : ByteArray := prog_1_method_24_code
def yX6_law : MethodName := ⟨RX6, "law", "(II)I"⟩
abbrev cX6_order : ByteArray := prog_1_method_25_code
def yX6_order : MethodName := ⟨RX6, "order", "(I)I"⟩
abbrev cX6_blanks : ByteArray := prog_1_method_26_code
def yX6_blanks : MethodName := ⟨RX6, "blanks", "(II)I"⟩
abbrev cX6_forged : ByteArray := prog_1_method_27_code
def yX6_forged : MethodName := ⟨RX6, "forged", "(II)I"⟩
abbrev cX6_itself : ByteArray := prog_1_method_28_code
def yX6_itself : MethodName := ⟨RX6, "itself", "(III)I"⟩
abbrev cX6_years : ByteArray := prog_1_method_29_code
def yX6_years : MethodName := ⟨RX6, "years", "(III)I"⟩
abbrev cX6_image : ByteArray := prog_1_method_30_code
def yX6_image : MethodName := ⟨RX6, "image", "(I)I"⟩
abbrev cX6_restore : ByteArray := prog_1_method_31_code
def yX6_restore : MethodName := ⟨RX6, "restore", "(I)I"⟩
abbrev cX6_kind : ByteArray := prog_1_method_32_code
def yX6_kind : MethodName := ⟨RX6, "kind", "(I)I"⟩
abbrev cX6_as : ByteArray := prog_1_method_33_code
def yX6_as : MethodName := ⟨RX6, "as", "(II)I"⟩
abbrev cX6_ask : ByteArray := prog_1_method_34_code
def yX6_ask : MethodName := ⟨RX6, "ask", "(II)I"⟩
abbrev cX6_trace : ByteArray := prog_1_method_35_code
def yX6_trace : MethodName := ⟨RX6, "trace", "(I)I"⟩
abbrev cX6_count : ByteArray := prog_1_method_36_code
def yX6_count : MethodName := ⟨RX6, "count", "(I)I"⟩
abbrev cX6_status : ByteArray := prog_1_method_37_code
def yX6_status : MethodName := ⟨RX6, "status", "()I"⟩
abbrev cX6_found : ByteArray := prog_1_method_38_code
def yX6_found : MethodName := ⟨RX6, "found", "(I)I"⟩
abbrev cX6_unfound : ByteArray := prog_1_method_39_code
def yX6_unfound : MethodName := ⟨RX6, "unfound", "(I)I"⟩
abbrev cX6_imageOf : ByteArray := prog_1_method_40_code
def yX6_imageOf : MethodName := ⟨RX6, "imageOf", "(I)LInkTaken$Archive;"⟩
abbrev cX6_isHand : ByteArray := prog_1_method_41_code
def yX6_isHand : MethodName := ⟨RX6, "isHand", "(I)Z"⟩
abbrev cX6_isCopy : ByteArray := prog_1_method_42_code
def yX6_isCopy : MethodName := ⟨RX6, "isCopy", "(I)Z"⟩
abbrev cX6_isDeed : ByteArray := prog_1_method_43_code
def yX6_isDeed : MethodName := ⟨RX6, "isDeed", "(I)Z"⟩
abbrev cX6_isHandSet : ByteArray := prog_1_method_44_code
def yX6_isHandSet : MethodName := ⟨RX6, "isHandSet", "(I)Z"⟩
abbrev cX6_isRow : ByteArray := prog_1_method_45_code
def yX6_isRow : MethodName := ⟨RX6, "isRow", "(I)Z"⟩
abbrev cX6_isBelow : ByteArray := prog_1_method_46_code
def yX6_isBelow : MethodName := ⟨RX6, "isBelow", "(II)Z"⟩
abbrev cX6_bitOf : ByteArray := prog_1_method_47_code
def yX6_bitOf : MethodName := ⟨RX6, "bitOf", "(II)I"⟩
def RX7 : String := "InkTakenModel"
def TX7 : u_T := fun k => match k with
  | 0 => ("InkTakenModel", "lanes", "[I", true)
  | 1 => ("InkTakenModel", "sizes", "[I", true)
  | 2 => ("InkTakenModel", "items", "[I", true)
  | 3 => ("InkTakenModel", "status", "I", false)
  | 4 => ("InkTakenModel", "tape", "[I", true)
  | 5 => ("InkTakenModel", "taped", "I", false)
  | 6 => ("InkTakenModel", "fault", "I", false)
  | 7 => ("InkTakenModel", "isArchive", "Z", false)
  | 8 => ("InkTakenModel", "now", "[I", true)
  | 9 => ("InkTakenModel", "acts", "I", false)
  | 10 => ("InkTakenModel", "before", "[I", true)
  | 11 => ("InkTakenModel", "images", "[I", true)
  | 12 => ("InkTakenModel", "kept", "[Z", true)
  | 13 => ("InkTakenModel", "traced", "I", false)
  | 14 => ("InkTakenModel", "trace", "[I", true)
  | 15 => ("InkTakenModel", "at", "I", false)
  | 16 => ("InkTakenModel", "begin", "I", false)
  | 17 => ("InkTakenModel", "token", "I", false)
  | 18 => ("InkTakenModel", "value", "I", false)
  | 19 => ("InkTakenModel", "size", "I", false)
  | 20 => ("InkTakenModel", "read", "[I", true)
  | _ => ("InkTakenModel", "aside", "[I", true)
def tyX7 : Nat → FieldType := fun k => match k with
  | 0 => .array .int
  | 1 => .array .int
  | 2 => .array .int
  | 3 => .int
  | 4 => .array .int
  | 5 => .int
  | 6 => .int
  | 7 => .boolean
  | 8 => .array .int
  | 9 => .int
  | 10 => .array .int
  | 11 => .array .int
  | 12 => .array .boolean
  | 13 => .int
  | 14 => .array .int
  | 15 => .int
  | 16 => .int
  | 17 => .int
  | 18 => .int
  | 19 => .int
  | 20 => .array .int
  | _ => .array .int
abbrev wsX70 : List Cond := u_ws RX7 TX7 22
theorem nmX7 : ∀ a, a < 22 → ∀ b, b < 22 → a ≠ b → (TX7 a).2.1 ≠ (TX7 b).2.1 := by decide +kernel
theorem tyX7_ok : ∀ k, k < 22 → parseFieldDescriptor (TX7 k).2.2.1 = some (tyX7 k) := by decide +kernel
abbrev cX7_init : ByteArray := prog_9_method_1_code
def yX7_init : MethodName := ⟨RX7, "<init>", "()V"⟩
abbrev cX7_in : ByteArray := prog_9_method_3_code
def yX7_in : MethodName := ⟨RX7, "in", "(JJJ)Z"⟩
abbrev cX7_found : ByteArray := prog_9_method_4_code
def yX7_found : MethodName := ⟨RX7, "found", "(I)I"⟩
abbrev cX7_well : ByteArray := prog_9_method_5_code
def yX7_well : MethodName := ⟨RX7, "well", "(I)I"⟩
abbrev cX7_isRow : ByteArray := prog_9_method_6_code
def yX7_isRow : MethodName := ⟨RX7, "isRow", "(I)Z"⟩
abbrev cX7_row : ByteArray := prog_9_method_7_code
def yX7_row : MethodName := ⟨RX7, "row", "(III)I"⟩
abbrev cX7_set : ByteArray := prog_9_method_8_code
def yX7_set : MethodName := ⟨RX7, "set", "(III)I"⟩
abbrev cX7_copy : ByteArray := prog_9_method_9_code
def yX7_copy : MethodName := ⟨RX7, "copy", "(IIIII)I"⟩
abbrev cX7_drop : ByteArray := prog_9_method_10_code
def yX7_drop : MethodName := ⟨RX7, "drop", "(I)I"⟩
abbrev cX7_feed : ByteArray := prog_9_method_11_code
def yX7_feed : MethodName := ⟨RX7, "feed", "(I)I"⟩
abbrev cX7_isFigure : ByteArray := prog_9_method_12_code
def yX7_isFigure : MethodName := ⟨RX7, "isFigure", "(I)Z"⟩
abbrev cX7_next : ByteArray := prog_9_method_13_code
def yX7_next : MethodName := ⟨RX7, "next", "()V"⟩
abbrev cX7_fails : ByteArray := prog_9_method_14_code
def yX7_fails : MethodName := ⟨RX7, "fails", "(I)Z"⟩
abbrev cX7_number : ByteArray := prog_9_method_15_code
def yX7_number : MethodName := ⟨RX7, "number", "(III)Z"⟩
abbrev cX7_sign : ByteArray := prog_9_method_16_code
def yX7_sign : MethodName := ⟨RX7, "sign", "(I)Z"⟩
abbrev cX7_isLetter : ByteArray := prog_9_method_17_code
def yX7_isLetter : MethodName := ⟨RX7, "isLetter", "(I)Z"⟩
abbrev cX7_readsLaw : ByteArray := prog_9_method_18_code
def yX7_readsLaw : MethodName := ⟨RX7, "readsLaw", "()Z"⟩
abbrev cX7_sortOf : ByteArray := prog_9_method_19_code
def yX7_sortOf : MethodName := ⟨RX7, "sortOf", "(I)I"⟩
abbrev cX7_readsHand : ByteArray := prog_9_method_20_code
def yX7_readsHand : MethodName := ⟨RX7, "readsHand", "(I)Z"⟩
abbrev cX7_readsCopy : ByteArray := prog_9_method_21_code
def yX7_readsCopy : MethodName := ⟨RX7, "readsCopy", "()Z"⟩
abbrev cX7_readsDeed : ByteArray := prog_9_method_22_code
def yX7_readsDeed : MethodName := ⟨RX7, "readsDeed", "()Z"⟩
abbrev cX7_readsOne : ByteArray := prog_9_method_23_code
def yX7_readsOne : MethodName := ⟨RX7, "readsOne", "()Z"⟩
abbrev cX7_reads : ByteArray := prog_9_method_24_code
def yX7_reads : MethodName := ⟨RX7, "reads", "()Z"⟩
abbrev cX7_archive : ByteArray := prog_9_method_25_code
def yX7_archive : MethodName := ⟨RX7, "archive", "()I"⟩
abbrev cX7_fault : ByteArray := prog_9_method_26_code
def yX7_fault : MethodName := ⟨RX7, "fault", "()I"⟩
abbrev cX7_copies : ByteArray := prog_9_method_27_code
def yX7_copies : MethodName := ⟨RX7, "copies", "([II[II)V"⟩
abbrev cX7_isHand : ByteArray := prog_9_method_28_code
def yX7_isHand : MethodName := ⟨RX7, "isHand", "(I)Z"⟩
abbrev cX7_isCopy : ByteArray := prog_9_method_29_code
def yX7_isCopy : MethodName := ⟨RX7, "isCopy", "(I)Z"⟩
abbrev cX7_isDeed : ByteArray := prog_9_method_30_code
def yX7_isDeed : MethodName := ⟨RX7, "isDeed", "(I)Z"⟩
abbrev cX7_areHands : ByteArray := prog_9_method_31_code
def yX7_areHands : MethodName := ⟨RX7, "areHands", "(I)Z"⟩
abbrev cX7_isTwo : ByteArray := prog_9_method_32_code
def yX7_isTwo : MethodName := ⟨RX7, "isTwo", "(I)Z"⟩
abbrev cX7_limit : ByteArray := prog_9_method_33_code
def yX7_limit : MethodName := ⟨RX7, "limit", "([II)I"⟩
abbrev cX7_mayRecall : ByteArray := prog_9_method_34_code
def yX7_mayRecall : MethodName := ⟨RX7, "mayRecall", "([II)Z"⟩
abbrev cX7_recalls : ByteArray := prog_9_method_35_code
def yX7_recalls : MethodName := ⟨RX7, "recalls", "([II)V"⟩
abbrev cX7_dayGoes : ByteArray := prog_9_method_36_code
def yX7_dayGoes : MethodName := ⟨RX7, "dayGoes", "([I)V"⟩
abbrev cX7_black : ByteArray := prog_9_method_37_code
def yX7_black : MethodName := ⟨RX7, "black", "([I)I"⟩
abbrev cX7_standBy : ByteArray := prog_9_method_38_code
def yX7_standBy : MethodName := ⟨RX7, "standBy", "([II)I"⟩
abbrev cX7_stand : ByteArray := prog_9_method_39_code
def yX7_stand : MethodName := ⟨RX7, "stand", "([I)I"⟩
abbrev cX7_whites : ByteArray := prog_9_method_40_code
def yX7_whites : MethodName := ⟨RX7, "whites", "([I)I"⟩
abbrev cX7_whiteSet : ByteArray := prog_9_method_41_code
def yX7_whiteSet : MethodName := ⟨RX7, "whiteSet", "([I)I"⟩
abbrev cX7_bits : ByteArray := prog_9_method_42_code
def yX7_bits : MethodName := ⟨RX7, "bits", "(I)I"⟩
abbrev cX7_remember : ByteArray := prog_9_method_43_code
def yX7_remember : MethodName := ⟨RX7, "remember", "()V"⟩
abbrev cX7_undo : ByteArray := prog_9_method_44_code
def yX7_undo : MethodName := ⟨RX7, "undo", "()I"⟩
abbrev cX7_write : ByteArray := prog_9_method_45_code
def yX7_write : MethodName := ⟨RX7, "write", "(III)I"⟩
abbrev cX7_recall : ByteArray := prog_9_method_46_code
def yX7_recall : MethodName := ⟨RX7, "recall", "(I)I"⟩
abbrev cX7_days : ByteArray := prog_9_method_47_code
def yX7_days : MethodName := ⟨RX7, "days", "(I)I"⟩
abbrev cX7_copyOf : ByteArray := prog_9_method_48_code
def yX7_copyOf : MethodName := ⟨RX7, "copyOf", "(II)I"⟩
abbrev cX7_copiesOf : ByteArray := prog_9_method_49_code
def yX7_copiesOf : MethodName := ⟨RX7, "copiesOf", "(II)I"⟩
abbrev cX7_hand : ByteArray := prog_9_method_50_code
def yX7_hand : MethodName := ⟨RX7, "hand", "(II)I"⟩
abbrev cX7_deed : ByteArray := prog_9_method_51_code
def yX7_deed : MethodName := ⟨RX7, "deed", "(II)I"⟩
abbrev cX7_place : ByteArray := prog_9_method_52_code
def yX7_place : MethodName := ⟨RX7, "place", "(II)I"⟩
abbrev cX7_layAside : ByteArray := prog_9_method_53_code
def yX7_layAside : MethodName := ⟨RX7, "layAside", "()V"⟩
abbrev cX7_fallsBy : ByteArray := prog_9_method_54_code
def yX7_fallsBy : MethodName := ⟨RX7, "fallsBy", "(I)I"⟩
abbrev cX7_lossBy : ByteArray := prog_9_method_55_code
def yX7_lossBy : MethodName := ⟨RX7, "lossBy", "(I)I"⟩
abbrev cX7_falls : ByteArray := prog_9_method_56_code
def yX7_falls : MethodName := ⟨RX7, "falls", "(II)I"⟩
abbrev cX7_ransom : ByteArray := prog_9_method_57_code
def yX7_ransom : MethodName := ⟨RX7, "ransom", "(I)I"⟩
abbrev cX7_pair : ByteArray := prog_9_method_58_code
def yX7_pair : MethodName := ⟨RX7, "pair", "(I)I"⟩
abbrev cX7_ahead : ByteArray := prog_9_method_59_code
def yX7_ahead : MethodName := ⟨RX7, "ahead", "(II)I"⟩
abbrev cX7_first : ByteArray := prog_9_method_60_code
def yX7_first : MethodName := ⟨RX7, "first", "(II)I"⟩
abbrev cX7_safe : ByteArray := prog_9_method_61_code
def yX7_safe : MethodName := ⟨RX7, "safe", "(I)I"⟩
abbrev cX7_doubles : ByteArray := prog_9_method_62_code
def yX7_doubles : MethodName := ⟨RX7, "doubles", "(III)I"⟩
abbrev cX7_law : ByteArray := prog_9_method_63_code
def yX7_law : MethodName := ⟨RX7, "law", "(II)I"⟩
abbrev cX7_handAt : ByteArray := prog_9_method_64_code
def yX7_handAt : MethodName := ⟨RX7, "handAt", "(II)I"⟩
abbrev cX7_isOrder : ByteArray := prog_9_method_65_code
def yX7_isOrder : MethodName := ⟨RX7, "isOrder", "(I)Z"⟩
abbrev cX7_order : ByteArray := prog_9_method_66_code
def yX7_order : MethodName := ⟨RX7, "order", "(I)I"⟩
abbrev cX7_blanks : ByteArray := prog_9_method_67_code
def yX7_blanks : MethodName := ⟨RX7, "blanks", "(II)I"⟩
abbrev cX7_canBe : ByteArray := prog_9_method_68_code
def yX7_canBe : MethodName := ⟨RX7, "canBe", "(II)Z"⟩
abbrev cX7_forged : ByteArray := prog_9_method_69_code
def yX7_forged : MethodName := ⟨RX7, "forged", "(II)I"⟩
abbrev cX7_itself : ByteArray := prog_9_method_70_code
def yX7_itself : MethodName := ⟨RX7, "itself", "(III)I"⟩
abbrev cX7_years : ByteArray := prog_9_method_71_code
def yX7_years : MethodName := ⟨RX7, "years", "(III)I"⟩
abbrev cX7_image : ByteArray := prog_9_method_72_code
def yX7_image : MethodName := ⟨RX7, "image", "(I)I"⟩
abbrev cX7_restore : ByteArray := prog_9_method_73_code
def yX7_restore : MethodName := ⟨RX7, "restore", "(I)I"⟩
abbrev cX7_blackOf : ByteArray := prog_9_method_74_code
def yX7_blackOf : MethodName := ⟨RX7, "blackOf", "(I)I"⟩
abbrev cX7_kind : ByteArray := prog_9_method_75_code
def yX7_kind : MethodName := ⟨RX7, "kind", "(I)I"⟩
abbrev cX7_isOf : ByteArray := prog_9_method_76_code
def yX7_isOf : MethodName := ⟨RX7, "isOf", "(II)Z"⟩
abbrev cX7_as : ByteArray := prog_9_method_77_code
def yX7_as : MethodName := ⟨RX7, "as", "(II)I"⟩
abbrev cX7_leave : ByteArray := prog_9_method_78_code
def yX7_leave : MethodName := ⟨RX7, "leave", "(J)V"⟩
abbrev cX7_mark : ByteArray := prog_9_method_79_code
def yX7_mark : MethodName := ⟨RX7, "mark", "(I)I"⟩
abbrev cX7_sizeOf : ByteArray := prog_9_method_80_code
def yX7_sizeOf : MethodName := ⟨RX7, "sizeOf", "(I)I"⟩
abbrev cX7_ask : ByteArray := prog_9_method_81_code
def yX7_ask : MethodName := ⟨RX7, "ask", "(II)I"⟩
abbrev cX7_trace : ByteArray := prog_9_method_82_code
def yX7_trace : MethodName := ⟨RX7, "trace", "(I)I"⟩
abbrev cX7_count : ByteArray := prog_9_method_83_code
def yX7_count : MethodName := ⟨RX7, "count", "(I)I"⟩
abbrev cX7_status : ByteArray := prog_9_method_84_code
def yX7_status : MethodName := ⟨RX7, "status", "()I"⟩
def RJ6 : String := "java/lang/Integer"
def TJ6 : u_T := fun k => match k with
  | _ => ("", "", "", false)
def tyJ6 : Nat → FieldType := fun k => match k with
  | _ => .int
abbrev wsJ60 : List Cond := u_ws RJ6 TJ6 0
theorem nmJ6 : ∀ a, a < 0 → ∀ b, b < 0 → a ≠ b → (TJ6 a).2.1 ≠ (TJ6 b).2.1 := by decide +kernel
theorem tyJ6_ok : ∀ k, k < 0 → parseFieldDescriptor (TJ6 k).2.2.1 = some (tyJ6 k) := by decide +kernel
abbrev cJ6_bitCount_0f7a4 : ByteArray := prog_10_method_49_code
def yJ6_bitCount_0f7a4 : MethodName := ⟨RJ6, "bitCount", "(I)I"⟩
def RJ9 : String := "java/lang/Math"
def TJ9 : u_T := fun k => match k with
  | _ => ("", "", "", false)
def tyJ9 : Nat → FieldType := fun k => match k with
  | _ => .int
abbrev wsJ90 : List Cond := u_ws RJ9 TJ9 0
theorem nmJ9 : ∀ a, a < 0 → ∀ b, b < 0 → a ≠ b → (TJ9 a).2.1 ≠ (TJ9 b).2.1 := by decide +kernel
theorem tyJ9_ok : ∀ k, k < 0 → parseFieldDescriptor (TJ9 k).2.2.1 = some (tyJ9 k) := by decide +kernel
abbrev cJ9_max_7cf53 : ByteArray := prog_11_method_65_code
def yJ9_max_7cf53 : MethodName := ⟨RJ9, "max", "(II)I"⟩
def RJ10 : String := "java/lang/System"
def TJ10 : u_T := fun k => match k with
  | _ => ("", "", "", false)
def tyJ10 : Nat → FieldType := fun k => match k with
  | _ => .int
abbrev wsJ100 : List Cond := u_ws RJ10 TJ10 0
theorem nmJ10 : ∀ a, a < 0 → ∀ b, b < 0 → a ≠ b → (TJ10 a).2.1 ≠ (TJ10 b).2.1 := by decide +kernel
theorem tyJ10_ok : ∀ k, k < 0 → parseFieldDescriptor (TJ10 k).2.2.1 = some (tyJ10 k) := by decide +kernel
def RJ7 : String := "java/util/Arrays"
def TJ7 : u_T := fun k => match k with
  | _ => ("", "", "", false)
def tyJ7 : Nat → FieldType := fun k => match k with
  | _ => .int
abbrev wsJ70 : List Cond := u_ws RJ7 TJ7 0
theorem nmJ7 : ∀ a, a < 0 → ∀ b, b < 0 → a ≠ b → (TJ7 a).2.1 ≠ (TJ7 b).2.1 := by decide +kernel
theorem tyJ7_ok : ∀ k, k < 0 → parseFieldDescriptor (TJ7 k).2.2.1 = some (tyJ7 k) := by decide +kernel
abbrev cJ7_fill_53178 : ByteArray := prog_13_method_103_code
def yJ7_fill_53178 : MethodName := ⟨RJ7, "fill", "([II)V"⟩
def RL : String := "InkTakenLaw"
abbrev cL_law : ByteArray := code
def yL_law : MethodName := ⟨RL, "law", "([I)Z"⟩
abbrev vwCl : List vw_C := [(RX0, TX0, 3), (RX1, TX1, 19), (RX2, TX2, 2), (RX3, TX3, 3), (RX4, TX4, 5), (RX5, TX5, 3), (RX6, TX6, 10), (RX7, TX7, 22)]
/-- the tables' words that stay -/
def wAll : List Cond := lw_tbl.filter goodWord
theorem wAll_in {c : Cond} (h : c ∈ wAll) : c ∈ lw_tbl := (List.mem_filter.mp h).1
theorem gAll : GoodIn wAll wAll := fun c h => ⟨h, good_of_word (List.mem_filter.mp h).2⟩
theorem wAll_at {c : Cond} (i : Nat) (h : lw_tbl[i]? = some c) (hg : goodWord c = true) : c ∈ wAll := List.mem_filter.mpr ⟨List.mem_of_getElem? h, hg⟩
theorem wAll_r (ws : List Cond) (ps : List Nat) (hp : ws = ps.filterMap (fun i => lw_tbl[i]?)) (h : ws.all goodWord = true) : ∀ c ∈ ws, c ∈ wAll := fun c hc => by
  have h1 := List.all_eq_true.mp h c hc
  rw [hp] at hc
  obtain ⟨i, -, hi⟩ := List.mem_filterMap.mp hc
  exact wAll_at i hi h1
theorem inlX0 : ∀ c ∈ u_ws RX0 TX0 3, c ∈ wAll := wAll_r _ [244, 246, 248] (by decide +kernel) (by decide +kernel)
theorem inlX1 : ∀ c ∈ u_ws RX1 TX1 19, c ∈ wAll := wAll_r _ [167, 169, 171, 173, 175, 177, 179, 181, 183, 185, 187, 189, 191, 193, 195, 197, 199, 201, 203] (by decide +kernel) (by decide +kernel)
theorem inlX2 : ∀ c ∈ u_ws RX2 TX2 2, c ∈ wAll := wAll_r _ [277, 279] (by decide +kernel) (by decide +kernel)
theorem inlX3 : ∀ c ∈ u_ws RX3 TX3 3, c ∈ wAll := wAll_r _ [260, 262, 264] (by decide +kernel) (by decide +kernel)
theorem inlX4 : ∀ c ∈ u_ws RX4 TX4 5, c ∈ wAll := wAll_r _ [223, 225, 227, 229, 231] (by decide +kernel) (by decide +kernel)
theorem inlX5 : ∀ c ∈ u_ws RX5 TX5 3, c ∈ wAll := wAll_r _ [91, 93, 95] (by decide +kernel) (by decide +kernel)
theorem inlX6 : ∀ c ∈ u_ws RX6 TX6 10, c ∈ wAll := wAll_r _ [292, 294, 296, 298, 300, 302, 304, 306, 308, 310] (by decide +kernel) (by decide +kernel)
theorem inlX7 : ∀ c ∈ u_ws RX7 TX7 22, c ∈ wAll := wAll_r _ [858, 860, 862, 864, 866, 868, 870, 872, 874, 876, 878, 880, 882, 884, 886, 888, 890, 892, 894, 896, 898, 900] (by decide +kernel) (by decide +kernel)
