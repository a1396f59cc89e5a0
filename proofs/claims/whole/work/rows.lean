section
-- ===== PART A: goes FIRST, ahead of the names: the tables' words, and 'selects' of the private methods out of them =====
/-- a private method of a class that the tables say can be made, by its rows of tables_1 -/
def lw_okq (q : MethodName × Nat) : Prop := (q.1.cls ≠ "java/lang/invoke/MethodHandle" ∧ q.1.cls ≠ "java/lang/invoke/VarHandle") ∧ Cond.instantiable q.1.cls q.2 ∈ tables_1 ∧ Cond.privateMethod q.1 ∈ tables_1 ∧ Cond.instanceMethod q.1 ∈ tables_1
theorem lw_p0 : lw_okq (⟨"InkTaken", "found", "(I)I"⟩, 10) := ⟨⟨by decide +kernel, by decide +kernel⟩, List.mem_of_getElem? (i := 14) (by decide +kernel), List.mem_of_getElem? (i := 269) (by decide +kernel), List.mem_of_getElem? (i := 270) (by decide +kernel)⟩
theorem lw_p1 : lw_okq (⟨"InkTaken", "unfound", "(I)I"⟩, 10) := ⟨⟨by decide +kernel, by decide +kernel⟩, List.mem_of_getElem? (i := 14) (by decide +kernel), List.mem_of_getElem? (i := 281) (by decide +kernel), List.mem_of_getElem? (i := 282) (by decide +kernel)⟩
theorem lw_p2 : lw_okq (⟨"InkTaken$Reader", "readLaw", "()Z"⟩, 5) := ⟨⟨by decide +kernel, by decide +kernel⟩, List.mem_of_getElem? (i := 151) (by decide +kernel), List.mem_of_getElem? (i := 333) (by decide +kernel), List.mem_of_getElem? (i := 334) (by decide +kernel)⟩
theorem lw_p3 : lw_okq (⟨"InkTaken$Reader", "readSign", "(I)Z"⟩, 5) := ⟨⟨by decide +kernel, by decide +kernel⟩, List.mem_of_getElem? (i := 151) (by decide +kernel), List.mem_of_getElem? (i := 337) (by decide +kernel), List.mem_of_getElem? (i := 338) (by decide +kernel)⟩
theorem lw_p4 : lw_okq (⟨"InkTaken$Reader", "next", "()I"⟩, 5) := ⟨⟨by decide +kernel, by decide +kernel⟩, List.mem_of_getElem? (i := 151) (by decide +kernel), List.mem_of_getElem? (i := 341) (by decide +kernel), List.mem_of_getElem? (i := 342) (by decide +kernel)⟩
theorem lw_p5 : lw_okq (⟨"InkTaken$Reader", "fail", "(I)Z"⟩, 5) := ⟨⟨by decide +kernel, by decide +kernel⟩, List.mem_of_getElem? (i := 151) (by decide +kernel), List.mem_of_getElem? (i := 345) (by decide +kernel), List.mem_of_getElem? (i := 346) (by decide +kernel)⟩
theorem lw_p6 : lw_okq (⟨"InkTaken$Reader", "readNumberAndSign", "(III)I"⟩, 5) := ⟨⟨by decide +kernel, by decide +kernel⟩, List.mem_of_getElem? (i := 151) (by decide +kernel), List.mem_of_getElem? (i := 349) (by decide +kernel), List.mem_of_getElem? (i := 350) (by decide +kernel)⟩
theorem lw_p7 : lw_okq (⟨"InkTaken$Reader", "readNumber", "(II)I"⟩, 5) := ⟨⟨by decide +kernel, by decide +kernel⟩, List.mem_of_getElem? (i := 151) (by decide +kernel), List.mem_of_getElem? (i := 353) (by decide +kernel), List.mem_of_getElem? (i := 354) (by decide +kernel)⟩
theorem lw_p8 : lw_okq (⟨"InkTaken$Reader", "isFigure", "(I)Z"⟩, 5) := ⟨⟨by decide +kernel, by decide +kernel⟩, List.mem_of_getElem? (i := 151) (by decide +kernel), List.mem_of_getElem? (i := 357) (by decide +kernel), List.mem_of_getElem? (i := 358) (by decide +kernel)⟩
theorem lw_p9 : lw_okq (⟨"InkTaken$Reader", "readHands", "()Z"⟩, 5) := ⟨⟨by decide +kernel, by decide +kernel⟩, List.mem_of_getElem? (i := 151) (by decide +kernel), List.mem_of_getElem? (i := 361) (by decide +kernel), List.mem_of_getElem? (i := 362) (by decide +kernel)⟩
theorem lw_p10 : lw_okq (⟨"InkTaken$Reader", "readHand", "()Z"⟩, 5) := ⟨⟨by decide +kernel, by decide +kernel⟩, List.mem_of_getElem? (i := 151) (by decide +kernel), List.mem_of_getElem? (i := 368) (by decide +kernel), List.mem_of_getElem? (i := 369) (by decide +kernel)⟩
theorem lw_p11 : lw_okq (⟨"InkTaken$Reader", "readCopies", "()Z"⟩, 5) := ⟨⟨by decide +kernel, by decide +kernel⟩, List.mem_of_getElem? (i := 151) (by decide +kernel), List.mem_of_getElem? (i := 376) (by decide +kernel), List.mem_of_getElem? (i := 377) (by decide +kernel)⟩
theorem lw_p12 : lw_okq (⟨"InkTaken$Reader", "readCopy", "()Z"⟩, 5) := ⟨⟨by decide +kernel, by decide +kernel⟩, List.mem_of_getElem? (i := 151) (by decide +kernel), List.mem_of_getElem? (i := 380) (by decide +kernel), List.mem_of_getElem? (i := 381) (by decide +kernel)⟩
theorem lw_p13 : lw_okq (⟨"InkTaken$Reader", "readDeeds", "()Z"⟩, 5) := ⟨⟨by decide +kernel, by decide +kernel⟩, List.mem_of_getElem? (i := 151) (by decide +kernel), List.mem_of_getElem? (i := 388) (by decide +kernel), List.mem_of_getElem? (i := 389) (by decide +kernel)⟩
theorem lw_p14 : lw_okq (⟨"InkTaken$Reader", "readDeed", "()Z"⟩, 5) := ⟨⟨by decide +kernel, by decide +kernel⟩, List.mem_of_getElem? (i := 151) (by decide +kernel), List.mem_of_getElem? (i := 392) (by decide +kernel), List.mem_of_getElem? (i := 393) (by decide +kernel)⟩
theorem lw_p15 : lw_okq (⟨"InkTaken", "isHand", "(I)Z"⟩, 10) := ⟨⟨by decide +kernel, by decide +kernel⟩, List.mem_of_getElem? (i := 14) (by decide +kernel), List.mem_of_getElem? (i := 427) (by decide +kernel), List.mem_of_getElem? (i := 428) (by decide +kernel)⟩
def lw_privs_1 : List (MethodName × Nat) := [(⟨"InkTaken", "found", "(I)I"⟩, 10), (⟨"InkTaken", "unfound", "(I)I"⟩, 10), (⟨"InkTaken$Reader", "readLaw", "()Z"⟩, 5), (⟨"InkTaken$Reader", "readSign", "(I)Z"⟩, 5), (⟨"InkTaken$Reader", "next", "()I"⟩, 5), (⟨"InkTaken$Reader", "fail", "(I)Z"⟩, 5), (⟨"InkTaken$Reader", "readNumberAndSign", "(III)I"⟩, 5), (⟨"InkTaken$Reader", "readNumber", "(II)I"⟩, 5), (⟨"InkTaken$Reader", "isFigure", "(I)Z"⟩, 5), (⟨"InkTaken$Reader", "readHands", "()Z"⟩, 5), (⟨"InkTaken$Reader", "readHand", "()Z"⟩, 5), (⟨"InkTaken$Reader", "readCopies", "()Z"⟩, 5), (⟨"InkTaken$Reader", "readCopy", "()Z"⟩, 5), (⟨"InkTaken$Reader", "readDeeds", "()Z"⟩, 5), (⟨"InkTaken$Reader", "readDeed", "()Z"⟩, 5), (⟨"InkTaken", "isHand", "(I)Z"⟩, 10)]
theorem lw_r1 : ∀ q ∈ lw_privs_1, lw_okq q := List.forall_mem_cons.mpr ⟨lw_p0, List.forall_mem_cons.mpr ⟨lw_p1, List.forall_mem_cons.mpr ⟨lw_p2, List.forall_mem_cons.mpr ⟨lw_p3, List.forall_mem_cons.mpr ⟨lw_p4, List.forall_mem_cons.mpr ⟨lw_p5, List.forall_mem_cons.mpr ⟨lw_p6, List.forall_mem_cons.mpr ⟨lw_p7, List.forall_mem_cons.mpr ⟨lw_p8, List.forall_mem_cons.mpr ⟨lw_p9, List.forall_mem_cons.mpr ⟨lw_p10, List.forall_mem_cons.mpr ⟨lw_p11, List.forall_mem_cons.mpr ⟨lw_p12, List.forall_mem_cons.mpr ⟨lw_p13, List.forall_mem_cons.mpr ⟨lw_p14, List.forall_mem_cons.mpr ⟨lw_p15, fun _ h => absurd h List.not_mem_nil⟩⟩⟩⟩⟩⟩⟩⟩⟩⟩⟩⟩⟩⟩⟩⟩
theorem lw_p16 : lw_okq (⟨"InkTaken", "isCopy", "(I)Z"⟩, 10) := ⟨⟨by decide +kernel, by decide +kernel⟩, List.mem_of_getElem? (i := 14) (by decide +kernel), List.mem_of_getElem? (i := 441) (by decide +kernel), List.mem_of_getElem? (i := 442) (by decide +kernel)⟩
theorem lw_p17 : lw_okq (⟨"InkTaken", "isDeed", "(I)Z"⟩, 10) := ⟨⟨by decide +kernel, by decide +kernel⟩, List.mem_of_getElem? (i := 14) (by decide +kernel), List.mem_of_getElem? (i := 511) (by decide +kernel), List.mem_of_getElem? (i := 512) (by decide +kernel)⟩
theorem lw_p18 : lw_okq (⟨"InkTaken", "isHandSet", "(I)Z"⟩, 10) := ⟨⟨by decide +kernel, by decide +kernel⟩, List.mem_of_getElem? (i := 14) (by decide +kernel), List.mem_of_getElem? (i := 528) (by decide +kernel), List.mem_of_getElem? (i := 529) (by decide +kernel)⟩
theorem lw_p19 : lw_okq (⟨"InkTaken$Foretold", "fewestPlaces", "(LInkTaken$Archive;II)I"⟩, 3) := ⟨⟨by decide +kernel, by decide +kernel⟩, List.mem_of_getElem? (i := 196) (by decide +kernel), List.mem_of_getElem? (i := 610) (by decide +kernel), List.mem_of_getElem? (i := 611) (by decide +kernel)⟩
theorem lw_p20 : lw_okq (⟨"InkTaken$Foretold", "cheapestBeside", "(LInkTaken$Archive;I)I"⟩, 3) := ⟨⟨by decide +kernel, by decide +kernel⟩, List.mem_of_getElem? (i := 196) (by decide +kernel), List.mem_of_getElem? (i := 621) (by decide +kernel), List.mem_of_getElem? (i := 622) (by decide +kernel)⟩
theorem lw_p21 : lw_okq (⟨"InkTaken$Foretold", "widenBy", "(LInkTaken$Archive;II)V"⟩, 3) := ⟨⟨by decide +kernel, by decide +kernel⟩, List.mem_of_getElem? (i := 196) (by decide +kernel), List.mem_of_getElem? (i := 661) (by decide +kernel), List.mem_of_getElem? (i := 662) (by decide +kernel)⟩
theorem lw_p22 : lw_okq (⟨"InkTaken$Foretold", "couldWhiten", "(LInkTaken$Archive;II)Z"⟩, 3) := ⟨⟨by decide +kernel, by decide +kernel⟩, List.mem_of_getElem? (i := 196) (by decide +kernel), List.mem_of_getElem? (i := 673) (by decide +kernel), List.mem_of_getElem? (i := 674) (by decide +kernel)⟩
theorem lw_p23 : lw_okq (⟨"InkTaken", "imageOf", "(I)LInkTaken$Archive;"⟩, 10) := ⟨⟨by decide +kernel, by decide +kernel⟩, List.mem_of_getElem? (i := 14) (by decide +kernel), List.mem_of_getElem? (i := 703) (by decide +kernel), List.mem_of_getElem? (i := 704) (by decide +kernel)⟩
theorem lw_p24 : lw_okq (⟨"InkTaken$Asks", "askAnew", "(LInkTaken$Archive;III)I"⟩, 2) := ⟨⟨by decide +kernel, by decide +kernel⟩, List.mem_of_getElem? (i := 212) (by decide +kernel), List.mem_of_getElem? (i := 732) (by decide +kernel), List.mem_of_getElem? (i := 733) (by decide +kernel)⟩
theorem lw_p25 : lw_okq (⟨"InkTaken$Asks", "runBody", "(LInkTaken$Archive;III)I"⟩, 2) := ⟨⟨by decide +kernel, by decide +kernel⟩, List.mem_of_getElem? (i := 212) (by decide +kernel), List.mem_of_getElem? (i := 743) (by decide +kernel), List.mem_of_getElem? (i := 744) (by decide +kernel)⟩
theorem lw_p26 : lw_okq (⟨"InkTaken$Asks", "leave", "(I)V"⟩, 2) := ⟨⟨by decide +kernel, by decide +kernel⟩, List.mem_of_getElem? (i := 212) (by decide +kernel), List.mem_of_getElem? (i := 747) (by decide +kernel), List.mem_of_getElem? (i := 748) (by decide +kernel)⟩
theorem lw_p27 : lw_okq (⟨"InkTakenModel", "found", "(I)I"⟩, 22) := ⟨⟨by decide +kernel, by decide +kernel⟩, List.mem_of_getElem? (i := 775) (by decide +kernel), List.mem_of_getElem? (i := 862) (by decide +kernel), List.mem_of_getElem? (i := 863) (by decide +kernel)⟩
theorem lw_p28 : lw_okq (⟨"InkTakenModel", "well", "(I)I"⟩, 22) := ⟨⟨by decide +kernel, by decide +kernel⟩, List.mem_of_getElem? (i := 775) (by decide +kernel), List.mem_of_getElem? (i := 867) (by decide +kernel), List.mem_of_getElem? (i := 868) (by decide +kernel)⟩
theorem lw_p29 : lw_okq (⟨"InkTakenModel", "reads", "()Z"⟩, 22) := ⟨⟨by decide +kernel, by decide +kernel⟩, List.mem_of_getElem? (i := 775) (by decide +kernel), List.mem_of_getElem? (i := 893) (by decide +kernel), List.mem_of_getElem? (i := 894) (by decide +kernel)⟩
theorem lw_p30 : lw_okq (⟨"InkTakenModel", "readsLaw", "()Z"⟩, 22) := ⟨⟨by decide +kernel, by decide +kernel⟩, List.mem_of_getElem? (i := 775) (by decide +kernel), List.mem_of_getElem? (i := 897) (by decide +kernel), List.mem_of_getElem? (i := 898) (by decide +kernel)⟩
theorem lw_p31 : lw_okq (⟨"InkTakenModel", "next", "()V"⟩, 22) := ⟨⟨by decide +kernel, by decide +kernel⟩, List.mem_of_getElem? (i := 775) (by decide +kernel), List.mem_of_getElem? (i := 901) (by decide +kernel), List.mem_of_getElem? (i := 902) (by decide +kernel)⟩
def lw_privs_2 : List (MethodName × Nat) := [(⟨"InkTaken", "isCopy", "(I)Z"⟩, 10), (⟨"InkTaken", "isDeed", "(I)Z"⟩, 10), (⟨"InkTaken", "isHandSet", "(I)Z"⟩, 10), (⟨"InkTaken$Foretold", "fewestPlaces", "(LInkTaken$Archive;II)I"⟩, 3), (⟨"InkTaken$Foretold", "cheapestBeside", "(LInkTaken$Archive;I)I"⟩, 3), (⟨"InkTaken$Foretold", "widenBy", "(LInkTaken$Archive;II)V"⟩, 3), (⟨"InkTaken$Foretold", "couldWhiten", "(LInkTaken$Archive;II)Z"⟩, 3), (⟨"InkTaken", "imageOf", "(I)LInkTaken$Archive;"⟩, 10), (⟨"InkTaken$Asks", "askAnew", "(LInkTaken$Archive;III)I"⟩, 2), (⟨"InkTaken$Asks", "runBody", "(LInkTaken$Archive;III)I"⟩, 2), (⟨"InkTaken$Asks", "leave", "(I)V"⟩, 2), (⟨"InkTakenModel", "found", "(I)I"⟩, 22), (⟨"InkTakenModel", "well", "(I)I"⟩, 22), (⟨"InkTakenModel", "reads", "()Z"⟩, 22), (⟨"InkTakenModel", "readsLaw", "()Z"⟩, 22), (⟨"InkTakenModel", "next", "()V"⟩, 22)]
theorem lw_r2 : ∀ q ∈ lw_privs_2, lw_okq q := List.forall_mem_cons.mpr ⟨lw_p16, List.forall_mem_cons.mpr ⟨lw_p17, List.forall_mem_cons.mpr ⟨lw_p18, List.forall_mem_cons.mpr ⟨lw_p19, List.forall_mem_cons.mpr ⟨lw_p20, List.forall_mem_cons.mpr ⟨lw_p21, List.forall_mem_cons.mpr ⟨lw_p22, List.forall_mem_cons.mpr ⟨lw_p23, List.forall_mem_cons.mpr ⟨lw_p24, List.forall_mem_cons.mpr ⟨lw_p25, List.forall_mem_cons.mpr ⟨lw_p26, List.forall_mem_cons.mpr ⟨lw_p27, List.forall_mem_cons.mpr ⟨lw_p28, List.forall_mem_cons.mpr ⟨lw_p29, List.forall_mem_cons.mpr ⟨lw_p30, List.forall_mem_cons.mpr ⟨lw_p31, fun _ h => absurd h List.not_mem_nil⟩⟩⟩⟩⟩⟩⟩⟩⟩⟩⟩⟩⟩⟩⟩⟩
theorem lw_p32 : lw_okq (⟨"InkTakenModel", "isLetter", "(I)Z"⟩, 22) := ⟨⟨by decide +kernel, by decide +kernel⟩, List.mem_of_getElem? (i := 775) (by decide +kernel), List.mem_of_getElem? (i := 912) (by decide +kernel), List.mem_of_getElem? (i := 913) (by decide +kernel)⟩
theorem lw_p33 : lw_okq (⟨"InkTakenModel", "fails", "(I)Z"⟩, 22) := ⟨⟨by decide +kernel, by decide +kernel⟩, List.mem_of_getElem? (i := 775) (by decide +kernel), List.mem_of_getElem? (i := 916) (by decide +kernel), List.mem_of_getElem? (i := 917) (by decide +kernel)⟩
theorem lw_p34 : lw_okq (⟨"InkTakenModel", "number", "(III)Z"⟩, 22) := ⟨⟨by decide +kernel, by decide +kernel⟩, List.mem_of_getElem? (i := 775) (by decide +kernel), List.mem_of_getElem? (i := 920) (by decide +kernel), List.mem_of_getElem? (i := 921) (by decide +kernel)⟩
theorem lw_p35 : lw_okq (⟨"InkTakenModel", "sign", "(I)Z"⟩, 22) := ⟨⟨by decide +kernel, by decide +kernel⟩, List.mem_of_getElem? (i := 775) (by decide +kernel), List.mem_of_getElem? (i := 924) (by decide +kernel), List.mem_of_getElem? (i := 925) (by decide +kernel)⟩
theorem lw_p36 : lw_okq (⟨"InkTakenModel", "readsOne", "()Z"⟩, 22) := ⟨⟨by decide +kernel, by decide +kernel⟩, List.mem_of_getElem? (i := 775) (by decide +kernel), List.mem_of_getElem? (i := 928) (by decide +kernel), List.mem_of_getElem? (i := 929) (by decide +kernel)⟩
theorem lw_p37 : lw_okq (⟨"InkTakenModel", "readsHand", "(I)Z"⟩, 22) := ⟨⟨by decide +kernel, by decide +kernel⟩, List.mem_of_getElem? (i := 775) (by decide +kernel), List.mem_of_getElem? (i := 935) (by decide +kernel), List.mem_of_getElem? (i := 936) (by decide +kernel)⟩
theorem lw_p38 : lw_okq (⟨"InkTakenModel", "readsCopy", "()Z"⟩, 22) := ⟨⟨by decide +kernel, by decide +kernel⟩, List.mem_of_getElem? (i := 775) (by decide +kernel), List.mem_of_getElem? (i := 939) (by decide +kernel), List.mem_of_getElem? (i := 940) (by decide +kernel)⟩
theorem lw_p39 : lw_okq (⟨"InkTakenModel", "readsDeed", "()Z"⟩, 22) := ⟨⟨by decide +kernel, by decide +kernel⟩, List.mem_of_getElem? (i := 775) (by decide +kernel), List.mem_of_getElem? (i := 943) (by decide +kernel), List.mem_of_getElem? (i := 944) (by decide +kernel)⟩
theorem lw_p40 : lw_okq (⟨"InkTakenModel", "isHand", "(I)Z"⟩, 22) := ⟨⟨by decide +kernel, by decide +kernel⟩, List.mem_of_getElem? (i := 775) (by decide +kernel), List.mem_of_getElem? (i := 965) (by decide +kernel), List.mem_of_getElem? (i := 966) (by decide +kernel)⟩
theorem lw_p41 : lw_okq (⟨"InkTakenModel", "remember", "()V"⟩, 22) := ⟨⟨by decide +kernel, by decide +kernel⟩, List.mem_of_getElem? (i := 775) (by decide +kernel), List.mem_of_getElem? (i := 970) (by decide +kernel), List.mem_of_getElem? (i := 971) (by decide +kernel)⟩
theorem lw_p42 : lw_okq (⟨"InkTakenModel", "isCopy", "(I)Z"⟩, 22) := ⟨⟨by decide +kernel, by decide +kernel⟩, List.mem_of_getElem? (i := 775) (by decide +kernel), List.mem_of_getElem? (i := 978) (by decide +kernel), List.mem_of_getElem? (i := 979) (by decide +kernel)⟩
theorem lw_p43 : lw_okq (⟨"InkTakenModel", "copiesOf", "(II)I"⟩, 22) := ⟨⟨by decide +kernel, by decide +kernel⟩, List.mem_of_getElem? (i := 775) (by decide +kernel), List.mem_of_getElem? (i := 1013) (by decide +kernel), List.mem_of_getElem? (i := 1014) (by decide +kernel)⟩
theorem lw_p44 : lw_okq (⟨"InkTakenModel", "isDeed", "(I)Z"⟩, 22) := ⟨⟨by decide +kernel, by decide +kernel⟩, List.mem_of_getElem? (i := 775) (by decide +kernel), List.mem_of_getElem? (i := 1021) (by decide +kernel), List.mem_of_getElem? (i := 1022) (by decide +kernel)⟩
theorem lw_p45 : lw_okq (⟨"InkTakenModel", "areHands", "(I)Z"⟩, 22) := ⟨⟨by decide +kernel, by decide +kernel⟩, List.mem_of_getElem? (i := 775) (by decide +kernel), List.mem_of_getElem? (i := 1038) (by decide +kernel), List.mem_of_getElem? (i := 1039) (by decide +kernel)⟩
theorem lw_p46 : lw_okq (⟨"InkTakenModel", "fallsBy", "(I)I"⟩, 22) := ⟨⟨by decide +kernel, by decide +kernel⟩, List.mem_of_getElem? (i := 775) (by decide +kernel), List.mem_of_getElem? (i := 1042) (by decide +kernel), List.mem_of_getElem? (i := 1043) (by decide +kernel)⟩
theorem lw_p47 : lw_okq (⟨"InkTakenModel", "layAside", "()V"⟩, 22) := ⟨⟨by decide +kernel, by decide +kernel⟩, List.mem_of_getElem? (i := 775) (by decide +kernel), List.mem_of_getElem? (i := 1046) (by decide +kernel), List.mem_of_getElem? (i := 1047) (by decide +kernel)⟩
def lw_privs_3 : List (MethodName × Nat) := [(⟨"InkTakenModel", "isLetter", "(I)Z"⟩, 22), (⟨"InkTakenModel", "fails", "(I)Z"⟩, 22), (⟨"InkTakenModel", "number", "(III)Z"⟩, 22), (⟨"InkTakenModel", "sign", "(I)Z"⟩, 22), (⟨"InkTakenModel", "readsOne", "()Z"⟩, 22), (⟨"InkTakenModel", "readsHand", "(I)Z"⟩, 22), (⟨"InkTakenModel", "readsCopy", "()Z"⟩, 22), (⟨"InkTakenModel", "readsDeed", "()Z"⟩, 22), (⟨"InkTakenModel", "isHand", "(I)Z"⟩, 22), (⟨"InkTakenModel", "remember", "()V"⟩, 22), (⟨"InkTakenModel", "isCopy", "(I)Z"⟩, 22), (⟨"InkTakenModel", "copiesOf", "(II)I"⟩, 22), (⟨"InkTakenModel", "isDeed", "(I)Z"⟩, 22), (⟨"InkTakenModel", "areHands", "(I)Z"⟩, 22), (⟨"InkTakenModel", "fallsBy", "(I)I"⟩, 22), (⟨"InkTakenModel", "layAside", "()V"⟩, 22)]
theorem lw_r3 : ∀ q ∈ lw_privs_3, lw_okq q := List.forall_mem_cons.mpr ⟨lw_p32, List.forall_mem_cons.mpr ⟨lw_p33, List.forall_mem_cons.mpr ⟨lw_p34, List.forall_mem_cons.mpr ⟨lw_p35, List.forall_mem_cons.mpr ⟨lw_p36, List.forall_mem_cons.mpr ⟨lw_p37, List.forall_mem_cons.mpr ⟨lw_p38, List.forall_mem_cons.mpr ⟨lw_p39, List.forall_mem_cons.mpr ⟨lw_p40, List.forall_mem_cons.mpr ⟨lw_p41, List.forall_mem_cons.mpr ⟨lw_p42, List.forall_mem_cons.mpr ⟨lw_p43, List.forall_mem_cons.mpr ⟨lw_p44, List.forall_mem_cons.mpr ⟨lw_p45, List.forall_mem_cons.mpr ⟨lw_p46, List.forall_mem_cons.mpr ⟨lw_p47, fun _ h => absurd h List.not_mem_nil⟩⟩⟩⟩⟩⟩⟩⟩⟩⟩⟩⟩⟩⟩⟩⟩
theorem lw_p48 : lw_okq (⟨"InkTakenModel", "lossBy", "(I)I"⟩, 22) := ⟨⟨by decide +kernel, by decide +kernel⟩, List.mem_of_getElem? (i := 775) (by decide +kernel), List.mem_of_getElem? (i := 1053) (by decide +kernel), List.mem_of_getElem? (i := 1054) (by decide +kernel)⟩
theorem lw_p49 : lw_okq (⟨"InkTakenModel", "isOrder", "(I)Z"⟩, 22) := ⟨⟨by decide +kernel, by decide +kernel⟩, List.mem_of_getElem? (i := 775) (by decide +kernel), List.mem_of_getElem? (i := 1099) (by decide +kernel), List.mem_of_getElem? (i := 1100) (by decide +kernel)⟩
theorem lw_p50 : lw_okq (⟨"InkTakenModel", "handAt", "(II)I"⟩, 22) := ⟨⟨by decide +kernel, by decide +kernel⟩, List.mem_of_getElem? (i := 775) (by decide +kernel), List.mem_of_getElem? (i := 1103) (by decide +kernel), List.mem_of_getElem? (i := 1104) (by decide +kernel)⟩
theorem lw_p51 : lw_okq (⟨"InkTakenModel", "canBe", "(II)Z"⟩, 22) := ⟨⟨by decide +kernel, by decide +kernel⟩, List.mem_of_getElem? (i := 775) (by decide +kernel), List.mem_of_getElem? (i := 1116) (by decide +kernel), List.mem_of_getElem? (i := 1117) (by decide +kernel)⟩
theorem lw_p52 : lw_okq (⟨"InkTakenModel", "mark", "(I)I"⟩, 22) := ⟨⟨by decide +kernel, by decide +kernel⟩, List.mem_of_getElem? (i := 775) (by decide +kernel), List.mem_of_getElem? (i := 1155) (by decide +kernel), List.mem_of_getElem? (i := 1156) (by decide +kernel)⟩
theorem lw_p53 : lw_okq (⟨"InkTakenModel", "blackOf", "(I)I"⟩, 22) := ⟨⟨by decide +kernel, by decide +kernel⟩, List.mem_of_getElem? (i := 775) (by decide +kernel), List.mem_of_getElem? (i := 1159) (by decide +kernel), List.mem_of_getElem? (i := 1160) (by decide +kernel)⟩
theorem lw_p54 : lw_okq (⟨"InkTakenModel", "leave", "(J)V"⟩, 22) := ⟨⟨by decide +kernel, by decide +kernel⟩, List.mem_of_getElem? (i := 775) (by decide +kernel), List.mem_of_getElem? (i := 1166) (by decide +kernel), List.mem_of_getElem? (i := 1167) (by decide +kernel)⟩
theorem lw_p55 : lw_okq (⟨"InkTakenModel", "sizeOf", "(I)I"⟩, 22) := ⟨⟨by decide +kernel, by decide +kernel⟩, List.mem_of_getElem? (i := 775) (by decide +kernel), List.mem_of_getElem? (i := 1172) (by decide +kernel), List.mem_of_getElem? (i := 1173) (by decide +kernel)⟩
def lw_privs_4 : List (MethodName × Nat) := [(⟨"InkTakenModel", "lossBy", "(I)I"⟩, 22), (⟨"InkTakenModel", "isOrder", "(I)Z"⟩, 22), (⟨"InkTakenModel", "handAt", "(II)I"⟩, 22), (⟨"InkTakenModel", "canBe", "(II)Z"⟩, 22), (⟨"InkTakenModel", "mark", "(I)I"⟩, 22), (⟨"InkTakenModel", "blackOf", "(I)I"⟩, 22), (⟨"InkTakenModel", "leave", "(J)V"⟩, 22), (⟨"InkTakenModel", "sizeOf", "(I)I"⟩, 22)]
theorem lw_r4 : ∀ q ∈ lw_privs_4, lw_okq q := List.forall_mem_cons.mpr ⟨lw_p48, List.forall_mem_cons.mpr ⟨lw_p49, List.forall_mem_cons.mpr ⟨lw_p50, List.forall_mem_cons.mpr ⟨lw_p51, List.forall_mem_cons.mpr ⟨lw_p52, List.forall_mem_cons.mpr ⟨lw_p53, List.forall_mem_cons.mpr ⟨lw_p54, List.forall_mem_cons.mpr ⟨lw_p55, fun _ h => absurd h List.not_mem_nil⟩⟩⟩⟩⟩⟩⟩⟩
def lw_privs : List (MethodName × Nat) := lw_privs_1 ++ (lw_privs_2 ++ (lw_privs_3 ++ (lw_privs_4)))
def lw_tbl : List Cond := k2_sels lw_privs ++ tables_1
theorem lw_privs_ok : ∀ q ∈ lw_privs, lw_okq q := by
  show ∀ q ∈ lw_privs_1 ++ (lw_privs_2 ++ (lw_privs_3 ++ (lw_privs_4))), lw_okq q
  exact List.forall_mem_append.mpr ⟨lw_r1, List.forall_mem_append.mpr ⟨lw_r2, List.forall_mem_append.mpr ⟨lw_r3, lw_r4⟩⟩⟩
def RX0 : String := "InkTaken$Acts"
def TX0 : u_T := fun k => match k with
  | 0 => ("InkTaken$Acts", "sorts", "[I", true)
  | 1 => ("InkTaken$Acts", "whites", "[I", true)
  | _ => ("InkTaken$Acts", "size", "I", false)
def tyX0 : Nat → FieldType := fun k => match k with
  | 0 => .array .int
  | 1 => .array .int
  | _ => .int
abbrev wsX00 : List Cond := u_ws RX0 TX0 3
theorem nmX0 : ∀ a, a < 3 → ∀ b, b < 3 → a ≠ b → (TX0 a).2.1 ≠ (TX0 b).2.1 := by decide +kernel
theorem tyX0_ok : ∀ k, k < 3 → parseFieldDescriptor (TX0 k).2.2.1 = some (tyX0 k) := by decide +kernel
abbrev cX0_init : ByteArray := prog_2_method_1_code
def yX0_init : MethodName := ⟨RX0, "<init>", "()V"⟩
abbrev cX0_forget : ByteArray := prog_2_method_2_code
def yX0_forget : MethodName := ⟨RX0, "forget", "()V"⟩
abbrev cX0_keep : ByteArray := prog_2_method_3_code
def yX0_keep : MethodName := ⟨RX0, "keep", "(II)V"⟩
abbrev cX0_undoLatest : ByteArray := prog_2_method_4_code
def yX0_undoLatest : MethodName := ⟨RX0, "undoLatest", "(LInkTaken$Archive;)V"⟩
def RX1 : String := "InkTaken$Archive"
def TX1 : u_T := fun k => match k with
  | 0 => ("InkTaken$Archive", "told", "Z", false)
  | 1 => ("InkTaken$Archive", "year", "I", false)
  | 2 => ("InkTaken$Archive", "repent", "I", false)
  | 3 => ("InkTaken$Archive", "day", "I", false)
  | 4 => ("InkTaken$Archive", "spent", "I", false)
  | 5 => ("InkTaken$Archive", "white", "I", false)
  | 6 => ("InkTaken$Archive", "hands", "I", false)
  | 7 => ("InkTaken$Archive", "copies", "I", false)
  | 8 => ("InkTaken$Archive", "deeds", "I", false)
  | 9 => ("InkTaken$Archive", "kinds", "[I", true)
  | 10 => ("InkTaken$Archive", "coins", "[I", true)
  | 11 => ("InkTaken$Archive", "placeOf", "[I", true)
  | 12 => ("InkTaken$Archive", "handOf", "[I", true)
  | 13 => ("InkTaken$Archive", "widthOf", "[I", true)
  | 14 => ("InkTaken$Archive", "dayOf", "[I", true)
  | 15 => ("InkTaken$Archive", "setOf", "[I", true)
  | 16 => ("InkTaken$Archive", "needsAll", "[I", true)
  | 17 => ("InkTaken$Archive", "onOf", "[I", true)
  | _ => ("InkTaken$Archive", "worthOf", "[I", true)
def tyX1 : Nat → FieldType := fun k => match k with
  | 0 => .boolean
  | 1 => .int
  | 2 => .int
  | 3 => .int
  | 4 => .int
  | 5 => .int
  | 6 => .int
  | 7 => .int
  | 8 => .int
  | 9 => .array .int
  | 10 => .array .int
  | 11 => .array .int
  | 12 => .array .int
  | 13 => .array .int
  | 14 => .array .int
  | 15 => .array .int
  | 16 => .array .int
  | 17 => .array .int
  | _ => .array .int
abbrev wsX10 : List Cond := u_ws RX1 TX1 19
theorem nmX1 : ∀ a, a < 19 → ∀ b, b < 19 → a ≠ b → (TX1 a).2.1 ≠ (TX1 b).2.1 := by decide +kernel
theorem tyX1_ok : ∀ k, k < 19 → parseFieldDescriptor (TX1 k).2.2.1 = some (tyX1 k) := by decide +kernel
abbrev cX1_init : ByteArray := prog_3_method_1_code
def yX1_init : MethodName := ⟨RX1, "<init>", "()V"⟩
abbrev cX1_begin : ByteArray := prog_3_method_2_code
def yX1_begin : MethodName := ⟨RX1, "begin", "()V"⟩
abbrev cX1_become : ByteArray := prog_3_method_3_code
def yX1_become : MethodName := ⟨RX1, "become", "(LInkTaken$Archive;)V"⟩
abbrev cX1_addHand : ByteArray := prog_3_method_4_code
def yX1_addHand : MethodName := ⟨RX1, "addHand", "(II)V"⟩
abbrev cX1_addCopy : ByteArray := prog_3_method_5_code
def yX1_addCopy : MethodName := ⟨RX1, "addCopy", "(III)V"⟩
abbrev cX1_addDeed : ByteArray := prog_3_method_6_code
def yX1_addDeed : MethodName := ⟨RX1, "addDeed", "(IIII)V"⟩
abbrev cX1_limitOf : ByteArray := prog_3_method_7_code
def yX1_limitOf : MethodName := ⟨RX1, "limitOf", "(II)I"⟩
abbrev cX1_isDrunk : ByteArray := prog_3_method_8_code
def yX1_isDrunk : MethodName := ⟨RX1, "isDrunk", "(I)Z"⟩
abbrev cX1_isInLimit : ByteArray := prog_3_method_9_code
def yX1_isInLimit : MethodName := ⟨RX1, "isInLimit", "(II)Z"⟩
abbrev cX1_mayRecall : ByteArray := prog_3_method_10_code
def yX1_mayRecall : MethodName := ⟨RX1, "mayRecall", "(III)Z"⟩
abbrev cX1_mayRecallNow : ByteArray := prog_3_method_11_code
def yX1_mayRecallNow : MethodName := ⟨RX1, "mayRecallNow", "(I)Z"⟩
abbrev cX1_recallableBy : ByteArray := prog_3_method_12_code
def yX1_recallableBy : MethodName := ⟨RX1, "recallableBy", "(II)I"⟩
abbrev cX1_whiteAfter : ByteArray := prog_3_method_13_code
def yX1_whiteAfter : MethodName := ⟨RX1, "whiteAfter", "(II)I"⟩
abbrev cX1_copiesBy : ByteArray := prog_3_method_14_code
def yX1_copiesBy : MethodName := ⟨RX1, "copiesBy", "(I)I"⟩
abbrev cX1_unwhiteBy : ByteArray := prog_3_method_15_code
def yX1_unwhiteBy : MethodName := ⟨RX1, "unwhiteBy", "(I)I"⟩
abbrev cX1_copiesAt : ByteArray := prog_3_method_16_code
def yX1_copiesAt : MethodName := ⟨RX1, "copiesAt", "(I)I"⟩
abbrev cX1_blackBy : ByteArray := prog_3_method_17_code
def yX1_blackBy : MethodName := ⟨RX1, "blackBy", "(I)I"⟩
abbrev cX1_standingOn : ByteArray := prog_3_method_18_code
def yX1_standingOn : MethodName := ⟨RX1, "standingOn", "(I)I"⟩
abbrev cX1_standingBy : ByteArray := prog_3_method_19_code
def yX1_standingBy : MethodName := ⟨RX1, "standingBy", "(I)I"⟩
abbrev cX1_whiteOn : ByteArray := prog_3_method_20_code
def yX1_whiteOn : MethodName := ⟨RX1, "whiteOn", "(II)I"⟩
abbrev cX1_passDay : ByteArray := prog_3_method_21_code
def yX1_passDay : MethodName := ⟨RX1, "passDay", "()V"⟩
def RX2 : String := "InkTaken$Asks"
def TX2 : u_T := fun k => match k with
  | 0 => ("InkTaken$Asks", "trace", "[I", true)
  | _ => ("InkTaken$Asks", "left", "I", false)
def tyX2 : Nat → FieldType := fun k => match k with
  | 0 => .array .int
  | _ => .int
abbrev wsX20 : List Cond := u_ws RX2 TX2 2
theorem nmX2 : ∀ a, a < 2 → ∀ b, b < 2 → a ≠ b → (TX2 a).2.1 ≠ (TX2 b).2.1 := by decide +kernel
theorem tyX2_ok : ∀ k, k < 2 → parseFieldDescriptor (TX2 k).2.2.1 = some (tyX2 k) := by decide +kernel
abbrev cX2_init : ByteArray := prog_4_method_1_code
def yX2_init : MethodName := ⟨RX2, "<init>", "()V"⟩
abbrev cX2_isKindOf : ByteArray := prog_4_method_2_code
def yX2_isKindOf : MethodName := ⟨RX2, "isKindOf", "(II)Z"⟩
abbrev cX2_answerOf : ByteArray := prog_4_method_3_code
def yX2_answerOf : MethodName := ⟨RX2, "answerOf", "(LInkTaken$Archive;II)I"⟩
abbrev cX2_askAnew : ByteArray := prog_4_method_4_code
def yX2_askAnew : MethodName := ⟨RX2, "askAnew", "(LInkTaken$Archive;III)I"⟩
abbrev cX2_nearest : ByteArray := prog_4_method_5_code
def yX2_nearest : MethodName := ⟨RX2, "nearest", "([II)I"⟩
abbrev cX2_runBody : ByteArray := prog_4_method_6_code
def yX2_runBody : MethodName := ⟨RX2, "runBody", "(LInkTaken$Archive;III)I"⟩
abbrev cX2_leave : ByteArray := prog_4_method_7_code
def yX2_leave : MethodName := ⟨RX2, "leave", "(I)V"⟩
def RX3 : String := "InkTaken$Foretold"
def TX3 : u_T := fun k => match k with
  | 0 => ("InkTaken$Foretold", "losses", "[I", true)
  | 1 => ("InkTaken$Foretold", "ways", "[I", true)
  | _ => ("InkTaken$Foretold", "leastSets", "[I", true)
def tyX3 : Nat → FieldType := fun k => match k with
  | 0 => .array .int
  | 1 => .array .int
  | _ => .array .int
abbrev wsX30 : List Cond := u_ws RX3 TX3 3
theorem nmX3 : ∀ a, a < 3 → ∀ b, b < 3 → a ≠ b → (TX3 a).2.1 ≠ (TX3 b).2.1 := by decide +kernel
theorem tyX3_ok : ∀ k, k < 3 → parseFieldDescriptor (TX3 k).2.2.1 = some (tyX3 k) := by decide +kernel
abbrev cX3_init : ByteArray := prog_5_method_1_code
def yX3_init : MethodName := ⟨RX3, "<init>", "()V"⟩
abbrev cX3_fallenBy : ByteArray := prog_5_method_2_code
def yX3_fallenBy : MethodName := ⟨RX3, "fallenBy", "(LInkTaken$Archive;I)I"⟩
abbrev cX3_lossBy : ByteArray := prog_5_method_3_code
def yX3_lossBy : MethodName := ⟨RX3, "lossBy", "(LInkTaken$Archive;I)I"⟩
abbrev cX3_weighAll : ByteArray := prog_5_method_4_code
def yX3_weighAll : MethodName := ⟨RX3, "weighAll", "(LInkTaken$Archive;)V"⟩
abbrev cX3_gainOf : ByteArray := prog_5_method_5_code
def yX3_gainOf : MethodName := ⟨RX3, "gainOf", "(II)I"⟩
abbrev cX3_bestPair : ByteArray := prog_5_method_6_code
def yX3_bestPair : MethodName := ⟨RX3, "bestPair", "(LInkTaken$Archive;)I"⟩
abbrev cX3_firstFall : ByteArray := prog_5_method_7_code
def yX3_firstFall : MethodName := ⟨RX3, "firstFall", "(LInkTaken$Archive;II)I"⟩
abbrev cX3_safeFrom : ByteArray := prog_5_method_8_code
def yX3_safeFrom : MethodName := ⟨RX3, "safeFrom", "(LInkTaken$Archive;I)I"⟩
abbrev cX3_doublesFor : ByteArray := prog_5_method_9_code
def yX3_doublesFor : MethodName := ⟨RX3, "doublesFor", "(LInkTaken$Archive;III)I"⟩
abbrev cX3_fewestPlaces : ByteArray := prog_5_method_10_code
def yX3_fewestPlaces : MethodName := ⟨RX3, "fewestPlaces", "(LInkTaken$Archive;II)I"⟩
abbrev cX3_cheapestBeside : ByteArray := prog_5_method_11_code
def yX3_cheapestBeside : MethodName := ⟨RX3, "cheapestBeside", "(LInkTaken$Archive;I)I"⟩
abbrev cX3_leastYear : ByteArray := prog_5_method_12_code
def yX3_leastYear : MethodName := ⟨RX3, "leastYear", "(LInkTaken$Archive;II)I"⟩
abbrev cX3_bestOrder : ByteArray := prog_5_method_13_code
def yX3_bestOrder : MethodName := ⟨RX3, "bestOrder", "(LInkTaken$Archive;)I"⟩
abbrev cX3_handInOrder : ByteArray := prog_5_method_14_code
def yX3_handInOrder : MethodName := ⟨RX3, "handInOrder", "(LInkTaken$Archive;II)I"⟩
abbrev cX3_sumOfOrder : ByteArray := prog_5_method_15_code
def yX3_sumOfOrder : MethodName := ⟨RX3, "sumOfOrder", "(LInkTaken$Archive;I)I"⟩
abbrev cX3_blanksOf : ByteArray := prog_5_method_16_code
def yX3_blanksOf : MethodName := ⟨RX3, "blanksOf", "(LInkTaken$Archive;II)I"⟩
abbrev cX3_widenBy : ByteArray := prog_5_method_17_code
def yX3_widenBy : MethodName := ⟨RX3, "widenBy", "(LInkTaken$Archive;II)V"⟩
abbrev cX3_forgedBy : ByteArray := prog_5_method_18_code
def yX3_forgedBy : MethodName := ⟨RX3, "forgedBy", "(LInkTaken$Archive;[II)I"⟩
abbrev cX3_couldWhiten : ByteArray := prog_5_method_19_code
def yX3_couldWhiten : MethodName := ⟨RX3, "couldWhiten", "(LInkTaken$Archive;II)Z"⟩
abbrev cX3_selfOf : ByteArray := prog_5_method_20_code
def yX3_selfOf : MethodName := ⟨RX3, "selfOf", "(LInkTaken$Archive;III)I"⟩
abbrev cX3_byDraws : ByteArray := prog_5_method_21_code
def yX3_byDraws : MethodName := ⟨RX3, "byDraws", "(LInkTaken$Archive;III)I"⟩
def RX4 : String := "InkTaken$Reader"
def TX4 : u_T := fun k => match k with
  | 0 => ("InkTaken$Reader", "tape", "[I", true)
  | 1 => ("InkTaken$Reader", "draft", "LInkTaken$Archive;", true)
  | 2 => ("InkTaken$Reader", "size", "I", false)
  | 3 => ("InkTaken$Reader", "at", "I", false)
  | _ => ("InkTaken$Reader", "faultNumber", "I", false)
def tyX4 : Nat → FieldType := fun k => match k with
  | 0 => .array .int
  | 1 => .object "InkTaken$Archive"
  | 2 => .int
  | 3 => .int
  | _ => .int
abbrev wsX40 : List Cond := u_ws RX4 TX4 5
theorem nmX4 : ∀ a, a < 5 → ∀ b, b < 5 → a ≠ b → (TX4 a).2.1 ≠ (TX4 b).2.1 := by decide +kernel
theorem tyX4_ok : ∀ k, k < 5 → parseFieldDescriptor (TX4 k).2.2.1 = some (tyX4 k) := by decide +kernel
abbrev cX4_init : ByteArray := prog_6_method_1_code
def yX4_init : MethodName := ⟨RX4, "<init>", "()V"⟩
abbrev cX4_append : ByteArray := prog_6_method_2_code
def yX4_append : MethodName := ⟨RX4, "append", "(I)I"⟩
abbrev cX4_readTape : ByteArray := prog_6_method_3_code
def yX4_readTape : MethodName := ⟨RX4, "readTape", "()Z"⟩
abbrev cX4_fail : ByteArray := prog_6_method_4_code
def yX4_fail : MethodName := ⟨RX4, "fail", "(I)Z"⟩
abbrev cX4_next : ByteArray := prog_6_method_5_code
def yX4_next : MethodName := ⟨RX4, "next", "()I"⟩
abbrev cX4_isFigure : ByteArray := prog_6_method_6_code
def yX4_isFigure : MethodName := ⟨RX4, "isFigure", "(I)Z"⟩
abbrev cX4_readSign : ByteArray := prog_6_method_7_code
def yX4_readSign : MethodName := ⟨RX4, "readSign", "(I)Z"⟩
abbrev cX4_readNumber : ByteArray := prog_6_method_8_code
def yX4_readNumber : MethodName := ⟨RX4, "readNumber", "(II)I"⟩
abbrev cX4_readNumberAndSign : ByteArray := prog_6_method_9_code
def yX4_readNumberAndSign : MethodName := ⟨RX4, "readNumberAndSign", "(III)I"⟩
abbrev cX4_readLaw : ByteArray := prog_6_method_10_code
def yX4_readLaw : MethodName := ⟨RX4, "readLaw", "()Z"⟩
abbrev cX4_kindOfSort : ByteArray := prog_6_method_11_code
def yX4_kindOfSort : MethodName := ⟨RX4, "kindOfSort", "(I)I"⟩
abbrev cX4_readHands : ByteArray := prog_6_method_12_code
def yX4_readHands : MethodName := ⟨RX4, "readHands", "()Z"⟩
abbrev cX4_readHand : ByteArray := prog_6_method_13_code
def yX4_readHand : MethodName := ⟨RX4, "readHand", "()Z"⟩
abbrev cX4_readCopies : ByteArray := prog_6_method_14_code
def yX4_readCopies : MethodName := ⟨RX4, "readCopies", "()Z"⟩
abbrev cX4_readCopy : ByteArray := prog_6_method_15_code
def yX4_readCopy : MethodName := ⟨RX4, "readCopy", "()Z"⟩
abbrev cX4_readDeeds : ByteArray := prog_6_method_16_code
def yX4_readDeeds : MethodName := ⟨RX4, "readDeeds", "()Z"⟩
abbrev cX4_readDeed : ByteArray := prog_6_method_17_code
def yX4_readDeed : MethodName := ⟨RX4, "readDeed", "()Z"⟩
def RX5 : String := "InkTaken$Rows"
def TX5 : u_T := fun k => match k with
  | 0 => ("InkTaken$Rows", "lanes", "[I", true)
  | 1 => ("InkTaken$Rows", "sizes", "[I", true)
  | _ => ("InkTaken$Rows", "items", "[[I", true)
def tyX5 : Nat → FieldType := fun k => match k with
  | 0 => .array .int
  | 1 => .array .int
  | _ => .array (.array .int)
abbrev wsX50 : List Cond := u_ws RX5 TX5 3
theorem nmX5 : ∀ a, a < 3 → ∀ b, b < 3 → a ≠ b → (TX5 a).2.1 ≠ (TX5 b).2.1 := by decide +kernel
theorem tyX5_ok : ∀ k, k < 3 → parseFieldDescriptor (TX5 k).2.2.1 = some (tyX5 k) := by decide +kernel
abbrev cX5_init : ByteArray := prog_7_method_1_code
def yX5_init : MethodName := ⟨RX5, "<init>", "()V"⟩
abbrev cX5_lay : ByteArray := prog_7_method_2_code
def yX5_lay : MethodName := ⟨RX5, "lay", "(III)V"⟩
abbrev cX5_isMissing : ByteArray := prog_7_method_3_code
def yX5_isMissing : MethodName := ⟨RX5, "isMissing", "(I)Z"⟩
abbrev cX5_hasPlaces : ByteArray := prog_7_method_4_code
def yX5_hasPlaces : MethodName := ⟨RX5, "hasPlaces", "(III)Z"⟩
abbrev cX5_put : ByteArray := prog_7_method_5_code
def yX5_put : MethodName := ⟨RX5, "put", "(III)I"⟩
abbrev cX5_present : ByteArray := prog_7_method_6_code
def yX5_present : MethodName := ⟨RX5, "present", "()I"⟩
def RX6 : String := "InkTaken"
def TX6 : u_T := fun k => match k with
  | 0 => ("InkTaken", "rows", "LInkTaken$Rows;", true)
  | 1 => ("InkTaken", "now", "LInkTaken$Archive;", true)
  | 2 => ("InkTaken", "firstImage", "LInkTaken$Archive;", true)
  | 3 => ("InkTaken", "secondImage", "LInkTaken$Archive;", true)
  | 4 => ("InkTaken", "reader", "LInkTaken$Reader;", true)
  | 5 => ("InkTaken", "acts", "LInkTaken$Acts;", true)
  | 6 => ("InkTaken", "foretold", "LInkTaken$Foretold;", true)
  | 7 => ("InkTaken", "asks", "LInkTaken$Asks;", true)
  | 8 => ("InkTaken", "latestFault", "I", false)
  | _ => ("InkTaken", "latestFinding", "I", false)
def tyX6 : Nat → FieldType := fun k => match k with
  | 0 => .object "InkTaken$Rows"
  | 1 => .object "InkTaken$Archive"
  | 2 => .object "InkTaken$Archive"
  | 3 => .object "InkTaken$Archive"
  | 4 => .object "InkTaken$Reader"
  | 5 => .object "InkTaken$Acts"
  | 6 => .object "InkTaken$Foretold"
  | 7 => .object "InkTaken$Asks"
  | 8 => .int
  | _ => .int
abbrev wsX60 : List Cond := u_ws RX6 TX6 10
theorem nmX6 : ∀ a, a < 10 → ∀ b, b < 10 → a ≠ b → (TX6 a).2.1 ≠ (TX6 b).2.1 := by decide +kernel
theorem tyX6_ok : ∀ k, k < 10 → parseFieldDescriptor (TX6 k).2.2.1 = some (tyX6 k) := by decide +kernel
abbrev cX6_init : ByteArray := prog_1_method_1_code
def yX6_init : MethodName := ⟨RX6, "<init>", "()V"⟩
abbrev cX6_row : ByteArray := prog_1_method_2_code
def yX6_row : MethodName := ⟨RX6, "row", "(III)I"⟩
abbrev cX6_set : ByteArray := prog_1_method_3_code
def yX6_set : MethodName := ⟨RX6, "set", "(III)I"⟩
abbrev cX6_copy : ByteArray := prog_1_method_4_code
def yX6_copy : MethodName := ⟨RX6, "copy", "(IIIII)I"⟩
abbrev cX6_drop : ByteArray := prog_1_method_5_code
def yX6_drop : MethodName := ⟨RX6, "drop", "(I)I"⟩
abbrev cX6_feed : ByteArray := prog_1_method_6_code
def yX6_feed : MethodName := ⟨RX6, "feed", "(I)I"⟩
abbrev cX6_archive : ByteArray := prog_1_method_7_code
def yX6_archive : MethodName := ⟨RX6, "archive", "()I"⟩
abbrev cX6_fault : ByteArray := prog_1_method_8_code
def yX6_fault : MethodName := ⟨RX6, "fault", "()I"⟩
abbrev cX6_undo : ByteArray := prog_1_method_9_code
def yX6_undo : MethodName := ⟨RX6, "undo", "()I"⟩
abbrev cX6_write : ByteArray := prog_1_method_10_code
def yX6_write : MethodName := ⟨RX6, "write", "(III)I"⟩
abbrev cX6_recall : ByteArray := prog_1_method_11_code
def yX6_recall : MethodName := ⟨RX6, "recall", "(I)I"⟩
abbrev cX6_days : ByteArray := prog_1_method_12_code
def yX6_days : MethodName := ⟨RX6, "days", "(I)I"⟩
abbrev cX6_copyOf : ByteArray := prog_1_method_13_code
def yX6_copyOf : MethodName := ⟨RX6, "copyOf", "(II)I"⟩
abbrev cX6_hand : ByteArray := prog_1_method_14_code
def yX6_hand : MethodName := ⟨RX6, "hand", "(II)I"⟩
abbrev cX6_deed : ByteArray := prog_1_method_15_code
def yX6_deed : MethodName := ⟨RX6, "deed", "(II)I"⟩
abbrev cX6_place : ByteArray := prog_1_method_16_code
def yX6_place : MethodName := ⟨RX6, "place", "(II)I"⟩
abbrev cX6_falls : ByteArray := prog_1_method_17_code
def yX6_falls : MethodName := ⟨RX6, "falls", "(II)I"⟩
abbrev cX6_ransom : ByteArray := prog_1_method_18_code
def yX6_ransom : MethodName := ⟨RX6, "ransom", "(I)I"⟩
abbrev cX6_pair : ByteArray := prog_1_method_19_code
def yX6_pair : MethodName := ⟨RX6, "pair", "(I)I"⟩
abbrev cX6_ahead : ByteArray := prog_1_method_20_code
def yX6_ahead : MethodName := ⟨RX6, "ahead", "(II)I"⟩
abbrev cX6_first : ByteArray := prog_1_method_21_code
def yX6_first : MethodName := ⟨RX6, "first", "(II)I"⟩
abbrev cX6_safe : ByteArray := prog_1_method_22_code
def yX6_safe : MethodName := ⟨RX6, "safe", "(I)I"⟩
abbrev cX6_doubles : ByteArray := prog_1_method_23_code
def yX6_doubles : MethodName := ⟨RX6, "doubles", "(III)I"⟩
abbrev cX6_law : ByteArray := prog_1_method_24_code
def yX6_law : MethodName := ⟨RX6, "law", "(II)I"⟩
abbrev cX6_order : ByteArray := prog_1_method_25_code
def yX6_order : MethodName := ⟨RX6, "order", "(I)I"⟩
abbrev cX6_blanks : ByteArray := prog_1_method_26_code
def yX6_blanks : MethodName := ⟨RX6, "blanks", "(II)I"⟩
abbrev cX6_forged : ByteArray := prog_1_method_27_code
def yX6_forged : MethodName := ⟨RX6, "forged", "(II)I"⟩
abbrev cX6_itself : ByteArray := prog_1_method_28_code
def yX6_itself : MethodName := ⟨RX6, "itself", "(III)I"⟩
abbrev cX6_years : ByteArray := prog_1_method_29_code
def yX6_years : MethodName := ⟨RX6, "years", "(III)I"⟩
abbrev cX6_image : ByteArray := prog_1_method_30_code
def yX6_image : MethodName := ⟨RX6, "image", "(I)I"⟩
abbrev cX6_restore : ByteArray := prog_1_method_31_code
def yX6_restore : MethodName := ⟨RX6, "restore", "(I)I"⟩
abbrev cX6_kind : ByteArray := prog_1_method_32_code
def yX6_kind : MethodName := ⟨RX6, "kind", "(I)I"⟩
abbrev cX6_as : ByteArray := prog_1_method_33_code
def yX6_as : MethodName := ⟨RX6, "as", "(II)I"⟩
abbrev cX6_ask : ByteArray := prog_1_method_34_code
def yX6_ask : MethodName := ⟨RX6, "ask", "(II)I"⟩
abbrev cX6_trace : ByteArray := prog_1_method_35_code
def yX6_trace : MethodName := ⟨RX6, "trace", "(I)I"⟩
abbrev cX6_count : ByteArray := prog_1_method_36_code
def yX6_count : MethodName := ⟨RX6, "count", "(I)I"⟩
abbrev cX6_status : ByteArray := prog_1_method_37_code
def yX6_status : MethodName := ⟨RX6, "status", "()I"⟩
abbrev cX6_found : ByteArray := prog_1_method_38_code
def yX6_found : MethodName := ⟨RX6, "found", "(I)I"⟩
abbrev cX6_unfound : ByteArray := prog_1_method_39_code
def yX6_unfound : MethodName := ⟨RX6, "unfound", "(I)I"⟩
abbrev cX6_imageOf : ByteArray := prog_1_method_40_code
def yX6_imageOf : MethodName := ⟨RX6, "imageOf", "(I)LInkTaken$Archive;"⟩
abbrev cX6_isHand : ByteArray := prog_1_method_41_code
def yX6_isHand : MethodName := ⟨RX6, "isHand", "(I)Z"⟩
abbrev cX6_isCopy : ByteArray := prog_1_method_42_code
def yX6_isCopy : MethodName := ⟨RX6, "isCopy", "(I)Z"⟩
abbrev cX6_isDeed : ByteArray := prog_1_method_43_code
def yX6_isDeed : MethodName := ⟨RX6, "isDeed", "(I)Z"⟩
abbrev cX6_isHandSet : ByteArray := prog_1_method_44_code
def yX6_isHandSet : MethodName := ⟨RX6, "isHandSet", "(I)Z"⟩
abbrev cX6_isRow : ByteArray := prog_1_method_45_code
def yX6_isRow : MethodName := ⟨RX6, "isRow", "(I)Z"⟩
abbrev cX6_isBelow : ByteArray := prog_1_method_46_code
def yX6_isBelow : MethodName := ⟨RX6, "isBelow", "(II)Z"⟩
abbrev cX6_bitOf : ByteArray := prog_1_method_47_code
def yX6_bitOf : MethodName := ⟨RX6, "bitOf", "(II)I"⟩
def RX7 : String := "InkTakenModel"
def TX7 : u_T := fun k => match k with
  | 0 => ("InkTakenModel", "lanes", "[I", true)
  | 1 => ("InkTakenModel", "sizes", "[I", true)
  | 2 => ("InkTakenModel", "items", "[I", true)
  | 3 => ("InkTakenModel", "status", "I", false)
  | 4 => ("InkTakenModel", "tape", "[I", true)
  | 5 => ("InkTakenModel", "taped", "I", false)
  | 6 => ("InkTakenModel", "fault", "I", false)
  | 7 => ("InkTakenModel", "isArchive", "Z", false)
  | 8 => ("InkTakenModel", "now", "[I", true)
  | 9 => ("InkTakenModel", "acts", "I", false)
  | 10 => ("InkTakenModel", "before", "[I", true)
  | 11 => ("InkTakenModel", "images", "[I", true)
  | 12 => ("InkTakenModel", "kept", "[Z", true)
  | 13 => ("InkTakenModel", "traced", "I", false)
  | 14 => ("InkTakenModel", "trace", "[I", true)
  | 15 => ("InkTakenModel", "at", "I", false)
  | 16 => ("InkTakenModel", "begin", "I", false)
  | 17 => ("InkTakenModel", "token", "I", false)
  | 18 => ("InkTakenModel", "value", "I", false)
  | 19 => ("InkTakenModel", "size", "I", false)
  | 20 => ("InkTakenModel", "read", "[I", true)
  | _ => ("InkTakenModel", "aside", "[I", true)
def tyX7 : Nat → FieldType := fun k => match k with
  | 0 => .array .int
  | 1 => .array .int
  | 2 => .array .int
  | 3 => .int
  | 4 => .array .int
  | 5 => .int
  | 6 => .int
  | 7 => .boolean
  | 8 => .array .int
  | 9 => .int
  | 10 => .array .int
  | 11 => .array .int
  | 12 => .array .boolean
  | 13 => .int
  | 14 => .array .int
  | 15 => .int
  | 16 => .int
  | 17 => .int
  | 18 => .int
  | 19 => .int
  | 20 => .array .int
  | _ => .array .int
abbrev wsX70 : List Cond := u_ws RX7 TX7 22
theorem nmX7 : ∀ a, a < 22 → ∀ b, b < 22 → a ≠ b → (TX7 a).2.1 ≠ (TX7 b).2.1 := by decide +kernel
theorem tyX7_ok : ∀ k, k < 22 → parseFieldDescriptor (TX7 k).2.2.1 = some (tyX7 k) := by decide +kernel
abbrev cX7_init : ByteArray := prog_9_method_1_code
def yX7_init : MethodName := ⟨RX7, "<init>", "()V"⟩
abbrev cX7_in : ByteArray := prog_9_method_3_code
def yX7_in : MethodName := ⟨RX7, "in", "(JJJ)Z"⟩
abbrev cX7_found : ByteArray := prog_9_method_4_code
def yX7_found : MethodName := ⟨RX7, "found", "(I)I"⟩
abbrev cX7_well : ByteArray := prog_9_method_5_code
def yX7_well : MethodName := ⟨RX7, "well", "(I)I"⟩
abbrev cX7_isRow : ByteArray := prog_9_method_6_code
def yX7_isRow : MethodName := ⟨RX7, "isRow", "(I)Z"⟩
abbrev cX7_row : ByteArray := prog_9_method_7_code
def yX7_row : MethodName := ⟨RX7, "row", "(III)I"⟩
abbrev cX7_set : ByteArray := prog_9_method_8_code
def yX7_set : MethodName := ⟨RX7, "set", "(III)I"⟩
abbrev cX7_copy : ByteArray := prog_9_method_9_code
def yX7_copy : MethodName := ⟨RX7, "copy", "(IIIII)I"⟩
abbrev cX7_drop : ByteArray := prog_9_method_10_code
def yX7_drop : MethodName := ⟨RX7, "drop", "(I)I"⟩
abbrev cX7_feed : ByteArray := prog_9_method_11_code
def yX7_feed : MethodName := ⟨RX7, "feed", "(I)I"⟩
abbrev cX7_isFigure : ByteArray := prog_9_method_12_code
def yX7_isFigure : MethodName := ⟨RX7, "isFigure", "(I)Z"⟩
abbrev cX7_next : ByteArray := prog_9_method_13_code
def yX7_next : MethodName := ⟨RX7, "next", "()V"⟩
abbrev cX7_fails : ByteArray := prog_9_method_14_code
def yX7_fails : MethodName := ⟨RX7, "fails", "(I)Z"⟩
abbrev cX7_number : ByteArray := prog_9_method_15_code
def yX7_number : MethodName := ⟨RX7, "number", "(III)Z"⟩
abbrev cX7_sign : ByteArray := prog_9_method_16_code
def yX7_sign : MethodName := ⟨RX7, "sign", "(I)Z"⟩
abbrev cX7_isLetter : ByteArray := prog_9_method_17_code
def yX7_isLetter : MethodName := ⟨RX7, "isLetter", "(I)Z"⟩
abbrev cX7_readsLaw : ByteArray := prog_9_method_18_code
def yX7_readsLaw : MethodName := ⟨RX7, "readsLaw", "()Z"⟩
abbrev cX7_sortOf : ByteArray := prog_9_method_19_code
def yX7_sortOf : MethodName := ⟨RX7, "sortOf", "(I)I"⟩
abbrev cX7_readsHand : ByteArray := prog_9_method_20_code
def yX7_readsHand : MethodName := ⟨RX7, "readsHand", "(I)Z"⟩
abbrev cX7_readsCopy : ByteArray := prog_9_method_21_code
def yX7_readsCopy : MethodName := ⟨RX7, "readsCopy", "()Z"⟩
abbrev cX7_readsDeed : ByteArray := prog_9_method_22_code
def yX7_readsDeed : MethodName := ⟨RX7, "readsDeed", "()Z"⟩
abbrev cX7_readsOne : ByteArray := prog_9_method_23_code
def yX7_readsOne : MethodName := ⟨RX7, "readsOne", "()Z"⟩
abbrev cX7_reads : ByteArray := prog_9_method_24_code
def yX7_reads : MethodName := ⟨RX7, "reads", "()Z"⟩
abbrev cX7_archive : ByteArray := prog_9_method_25_code
def yX7_archive : MethodName := ⟨RX7, "archive", "()I"⟩
abbrev cX7_fault : ByteArray := prog_9_method_26_code
def yX7_fault : MethodName := ⟨RX7, "fault", "()I"⟩
abbrev cX7_copies : ByteArray := prog_9_method_27_code
def yX7_copies : MethodName := ⟨RX7, "copies", "([II[II)V"⟩
abbrev cX7_isHand : ByteArray := prog_9_method_28_code
def yX7_isHand : MethodName := ⟨RX7, "isHand", "(I)Z"⟩
abbrev cX7_isCopy : ByteArray := prog_9_method_29_code
def yX7_isCopy : MethodName := ⟨RX7, "isCopy", "(I)Z"⟩
abbrev cX7_isDeed : ByteArray := prog_9_method_30_code
def yX7_isDeed : MethodName := ⟨RX7, "isDeed", "(I)Z"⟩
abbrev cX7_areHands : ByteArray := prog_9_method_31_code
def yX7_areHands : MethodName := ⟨RX7, "areHands", "(I)Z"⟩
abbrev cX7_isTwo : ByteArray := prog_9_method_32_code
def yX7_isTwo : MethodName := ⟨RX7, "isTwo", "(I)Z"⟩
abbrev cX7_limit : ByteArray := prog_9_method_33_code
def yX7_limit : MethodName := ⟨RX7, "limit", "([II)I"⟩
abbrev cX7_mayRecall : ByteArray := prog_9_method_34_code
def yX7_mayRecall : MethodName := ⟨RX7, "mayRecall", "([II)Z"⟩
abbrev cX7_recalls : ByteArray := prog_9_method_35_code
def yX7_recalls : MethodName := ⟨RX7, "recalls", "([II)V"⟩
abbrev cX7_dayGoes : ByteArray := prog_9_method_36_code
def yX7_dayGoes : MethodName := ⟨RX7, "dayGoes", "([I)V"⟩
abbrev cX7_black : ByteArray := prog_9_method_37_code
def yX7_black : MethodName := ⟨RX7, "black", "([I)I"⟩
abbrev cX7_standBy : ByteArray := prog_9_method_38_code
def yX7_standBy : MethodName := ⟨RX7, "standBy", "([II)I"⟩
abbrev cX7_stand : ByteArray := prog_9_method_39_code
def yX7_stand : MethodName := ⟨RX7, "stand", "([I)I"⟩
abbrev cX7_whites : ByteArray := prog_9_method_40_code
def yX7_whites : MethodName := ⟨RX7, "whites", "([I)I"⟩
abbrev cX7_whiteSet : ByteArray := prog_9_method_41_code
def yX7_whiteSet : MethodName := ⟨RX7, "whiteSet", "([I)I"⟩
abbrev cX7_bits : ByteArray := prog_9_method_42_code
def yX7_bits : MethodName := ⟨RX7, "bits", "(I)I"⟩
abbrev cX7_remember : ByteArray := prog_9_method_43_code
def yX7_remember : MethodName := ⟨RX7, "remember", "()V"⟩
abbrev cX7_undo : ByteArray := prog_9_method_44_code
def yX7_undo : MethodName := ⟨RX7, "undo", "()I"⟩
abbrev cX7_write : ByteArray := prog_9_method_45_code
def yX7_write : MethodName := ⟨RX7, "write", "(III)I"⟩
abbrev cX7_recall : ByteArray := prog_9_method_46_code
def yX7_recall : MethodName := ⟨RX7, "recall", "(I)I"⟩
abbrev cX7_days : ByteArray := prog_9_method_47_code
def yX7_days : MethodName := ⟨RX7, "days", "(I)I"⟩
abbrev cX7_copyOf : ByteArray := prog_9_method_48_code
def yX7_copyOf : MethodName := ⟨RX7, "copyOf", "(II)I"⟩
abbrev cX7_copiesOf : ByteArray := prog_9_method_49_code
def yX7_copiesOf : MethodName := ⟨RX7, "copiesOf", "(II)I"⟩
abbrev cX7_hand : ByteArray := prog_9_method_50_code
def yX7_hand : MethodName := ⟨RX7, "hand", "(II)I"⟩
abbrev cX7_deed : ByteArray := prog_9_method_51_code
def yX7_deed : MethodName := ⟨RX7, "deed", "(II)I"⟩
abbrev cX7_place : ByteArray := prog_9_method_52_code
def yX7_place : MethodName := ⟨RX7, "place", "(II)I"⟩
abbrev cX7_layAside : ByteArray := prog_9_method_53_code
def yX7_layAside : MethodName := ⟨RX7, "layAside", "()V"⟩
abbrev cX7_fallsBy : ByteArray := prog_9_method_54_code
def yX7_fallsBy : MethodName := ⟨RX7, "fallsBy", "(I)I"⟩
abbrev cX7_lossBy : ByteArray := prog_9_method_55_code
def yX7_lossBy : MethodName := ⟨RX7, "lossBy", "(I)I"⟩
abbrev cX7_falls : ByteArray := prog_9_method_56_code
def yX7_falls : MethodName := ⟨RX7, "falls", "(II)I"⟩
abbrev cX7_ransom : ByteArray := prog_9_method_57_code
def yX7_ransom : MethodName := ⟨RX7, "ransom", "(I)I"⟩
abbrev cX7_pair : ByteArray := prog_9_method_58_code
def yX7_pair : MethodName := ⟨RX7, "pair", "(I)I"⟩
abbrev cX7_ahead : ByteArray := prog_9_method_59_code
def yX7_ahead : MethodName := ⟨RX7, "ahead", "(II)I"⟩
abbrev cX7_first : ByteArray := prog_9_method_60_code
def yX7_first : MethodName := ⟨RX7, "first", "(II)I"⟩
abbrev cX7_safe : ByteArray := prog_9_method_61_code
def yX7_safe : MethodName := ⟨RX7, "safe", "(I)I"⟩
abbrev cX7_doubles : ByteArray := prog_9_method_62_code
def yX7_doubles : MethodName := ⟨RX7, "doubles", "(III)I"⟩
abbrev cX7_law : ByteArray := prog_9_method_63_code
def yX7_law : MethodName := ⟨RX7, "law", "(II)I"⟩
abbrev cX7_handAt : ByteArray := prog_9_method_64_code
def yX7_handAt : MethodName := ⟨RX7, "handAt", "(II)I"⟩
abbrev cX7_isOrder : ByteArray := prog_9_method_65_code
def yX7_isOrder : MethodName := ⟨RX7, "isOrder", "(I)Z"⟩
abbrev cX7_order : ByteArray := prog_9_method_66_code
def yX7_order : MethodName := ⟨RX7, "order", "(I)I"⟩
abbrev cX7_blanks : ByteArray := prog_9_method_67_code
def yX7_blanks : MethodName := ⟨RX7, "blanks", "(II)I"⟩
abbrev cX7_canBe : ByteArray := prog_9_method_68_code
def yX7_canBe : MethodName := ⟨RX7, "canBe", "(II)Z"⟩
abbrev cX7_forged : ByteArray := prog_9_method_69_code
def yX7_forged : MethodName := ⟨RX7, "forged", "(II)I"⟩
abbrev cX7_itself : ByteArray := prog_9_method_70_code
def yX7_itself : MethodName := ⟨RX7, "itself", "(III)I"⟩
abbrev cX7_years : ByteArray := prog_9_method_71_code
def yX7_years : MethodName := ⟨RX7, "years", "(III)I"⟩
abbrev cX7_image : ByteArray := prog_9_method_72_code
def yX7_image : MethodName := ⟨RX7, "image", "(I)I"⟩
abbrev cX7_restore : ByteArray := prog_9_method_73_code
def yX7_restore : MethodName := ⟨RX7, "restore", "(I)I"⟩
abbrev cX7_blackOf : ByteArray := prog_9_method_74_code
def yX7_blackOf : MethodName := ⟨RX7, "blackOf", "(I)I"⟩
abbrev cX7_kind : ByteArray := prog_9_method_75_code
def yX7_kind : MethodName := ⟨RX7, "kind", "(I)I"⟩
abbrev cX7_isOf : ByteArray := prog_9_method_76_code
def yX7_isOf : MethodName := ⟨RX7, "isOf", "(II)Z"⟩
abbrev cX7_as : ByteArray := prog_9_method_77_code
def yX7_as : MethodName := ⟨RX7, "as", "(II)I"⟩
abbrev cX7_leave : ByteArray := prog_9_method_78_code
def yX7_leave : MethodName := ⟨RX7, "leave", "(J)V"⟩
abbrev cX7_mark : ByteArray := prog_9_method_79_code
def yX7_mark : MethodName := ⟨RX7, "mark", "(I)I"⟩
abbrev cX7_sizeOf : ByteArray := prog_9_method_80_code
def yX7_sizeOf : MethodName := ⟨RX7, "sizeOf", "(I)I"⟩
abbrev cX7_ask : ByteArray := prog_9_method_81_code
def yX7_ask : MethodName := ⟨RX7, "ask", "(II)I"⟩
abbrev cX7_trace : ByteArray := prog_9_method_82_code
def yX7_trace : MethodName := ⟨RX7, "trace", "(I)I"⟩
abbrev cX7_count : ByteArray := prog_9_method_83_code
def yX7_count : MethodName := ⟨RX7, "count", "(I)I"⟩
abbrev cX7_status : ByteArray := prog_9_method_84_code
def yX7_status : MethodName := ⟨RX7, "status", "()I"⟩
def RJ6 : String := "java/lang/Integer"
def TJ6 : u_T := fun k => match k with
  | _ => ("", "", "", false)
def tyJ6 : Nat → FieldType := fun k => match k with
  | _ => .int
abbrev wsJ60 : List Cond := u_ws RJ6 TJ6 0
theorem nmJ6 : ∀ a, a < 0 → ∀ b, b < 0 → a ≠ b → (TJ6 a).2.1 ≠ (TJ6 b).2.1 := by decide +kernel
theorem tyJ6_ok : ∀ k, k < 0 → parseFieldDescriptor (TJ6 k).2.2.1 = some (tyJ6 k) := by decide +kernel
abbrev cJ6_bitCount_0f7a4 : ByteArray := prog_10_method_49_code
def yJ6_bitCount_0f7a4 : MethodName := ⟨RJ6, "bitCount", "(I)I"⟩
def RJ9 : String := "java/lang/Math"
def TJ9 : u_T := fun k => match k with
  | _ => ("", "", "", false)
def tyJ9 : Nat → FieldType := fun k => match k with
  | _ => .int
abbrev wsJ90 : List Cond := u_ws RJ9 TJ9 0
theorem nmJ9 : ∀ a, a < 0 → ∀ b, b < 0 → a ≠ b → (TJ9 a).2.1 ≠ (TJ9 b).2.1 := by decide +kernel
theorem tyJ9_ok : ∀ k, k < 0 → parseFieldDescriptor (TJ9 k).2.2.1 = some (tyJ9 k) := by decide +kernel
abbrev cJ9_max_7cf53 : ByteArray := prog_11_method_65_code
def yJ9_max_7cf53 : MethodName := ⟨RJ9, "max", "(II)I"⟩
def RJ10 : String := "java/lang/System"
def TJ10 : u_T := fun k => match k with
  | _ => ("", "", "", false)
def tyJ10 : Nat → FieldType := fun k => match k with
  | _ => .int
abbrev wsJ100 : List Cond := u_ws RJ10 TJ10 0
theorem nmJ10 : ∀ a, a < 0 → ∀ b, b < 0 → a ≠ b → (TJ10 a).2.1 ≠ (TJ10 b).2.1 := by decide +kernel
theorem tyJ10_ok : ∀ k, k < 0 → parseFieldDescriptor (TJ10 k).2.2.1 = some (tyJ10 k) := by decide +kernel
def RJ7 : String := "java/util/Arrays"
def TJ7 : u_T := fun k => match k with
  | _ => ("", "", "", false)
def tyJ7 : Nat → FieldType := fun k => match k with
  | _ => .int
abbrev wsJ70 : List Cond := u_ws RJ7 TJ7 0
theorem nmJ7 : ∀ a, a < 0 → ∀ b, b < 0 → a ≠ b → (TJ7 a).2.1 ≠ (TJ7 b).2.1 := by decide +kernel
theorem tyJ7_ok : ∀ k, k < 0 → parseFieldDescriptor (TJ7 k).2.2.1 = some (tyJ7 k) := by decide +kernel
abbrev cJ7_fill_53178 : ByteArray := prog_13_method_103_code
def yJ7_fill_53178 : MethodName := ⟨RJ7, "fill", "([II)V"⟩
def RL : String := "InkTakenLaw"
abbrev cL_law : ByteArray := code
def yL_law : MethodName := ⟨RL, "law", "([I)Z"⟩
abbrev vwCl : List vw_C := [(RX0, TX0, 3), (RX1, TX1, 19), (RX2, TX2, 2), (RX3, TX3, 3), (RX4, TX4, 5), (RX5, TX5, 3), (RX6, TX6, 10), (RX7, TX7, 22)]
/-- the tables' words that stay -/
def wAll : List Cond := lw_tbl.filter goodWord
theorem wAll_in {c : Cond} (h : c ∈ wAll) : c ∈ lw_tbl := (List.mem_filter.mp h).1
theorem gAll : GoodIn wAll wAll := fun c h => ⟨h, good_of_word (List.mem_filter.mp h).2⟩
theorem wAll_at {c : Cond} (i : Nat) (h : lw_tbl[i]? = some c) (hg : goodWord c = true) : c ∈ wAll := List.mem_filter.mpr ⟨List.mem_of_getElem? h, hg⟩
theorem wAll_r (ws : List Cond) (ps : List Nat) (hp : ws = ps.filterMap (fun i => lw_tbl[i]?)) (h : ws.all goodWord = true) : ∀ c ∈ ws, c ∈ wAll := fun c hc => by
  have h1 := List.all_eq_true.mp h c hc
  rw [hp] at hc
  obtain ⟨i, -, hi⟩ := List.mem_filterMap.mp hc
  exact wAll_at i hi h1
theorem inlX0 : ∀ c ∈ u_ws RX0 TX0 3, c ∈ wAll := wAll_r _ [244, 246, 248] (by decide +kernel) (by decide +kernel)
theorem inlX1 : ∀ c ∈ u_ws RX1 TX1 19, c ∈ wAll := wAll_r _ [167, 169, 171, 173, 175, 177, 179, 181, 183, 185, 187, 189, 191, 193, 195, 197, 199, 201, 203] (by decide +kernel) (by decide +kernel)
theorem inlX2 : ∀ c ∈ u_ws RX2 TX2 2, c ∈ wAll := wAll_r _ [277, 279] (by decide +kernel) (by decide +kernel)
theorem inlX3 : ∀ c ∈ u_ws RX3 TX3 3, c ∈ wAll := wAll_r _ [260, 262, 264] (by decide +kernel) (by decide +kernel)
theorem inlX4 : ∀ c ∈ u_ws RX4 TX4 5, c ∈ wAll := wAll_r _ [223, 225, 227, 229, 231] (by decide +kernel) (by decide +kernel)
theorem inlX5 : ∀ c ∈ u_ws RX5 TX5 3, c ∈ wAll := wAll_r _ [91, 93, 95] (by decide +kernel) (by decide +kernel)
theorem inlX6 : ∀ c ∈ u_ws RX6 TX6 10, c ∈ wAll := wAll_r _ [292, 294, 296, 298, 300, 302, 304, 306, 308, 310] (by decide +kernel) (by decide +kernel)
theorem inlX7 : ∀ c ∈ u_ws RX7 TX7 22, c ∈ wAll := wAll_r _ [858, 860, 862, 864, 866, 868, 870, 872, 874, 876, 878, 880, 882, 884, 886, 888, 890, 892, 894, 896, 898, 900] (by decide +kernel) (by decide +kernel)
end
section
/-! the world as a memory: cell q lies at ad q and holds cf q (σ q); V: from this picture the machine comes to Q -/
abbrev Mem : Type := Nat → Nat → Int32
def mrow (σ : Mem) (q : Nat) (f : Nat → Int32) : Mem := fun a => if a = q then f else σ a
def mst (σ : Mem) (q k : Nat) (v : Int32) : Mem := mrow σ q (upd (σ q) k v)
def mcpy (σ : Mem) (q0 q1 sp dp n : Nat) : Mem := mrow σ q1 (va_cpy (σ q0) (σ q1) sp dp n)
abbrev PT : Type := Program × Launch × Env × Room × State
abbrev MT : Type := MethodId × Array Value × List Frame × Method × Code
abbrev WD : Type := va_G × (ClassId × ClassId × ClassId) × Nat × (Nat → Nat) × (Nat → (Nat → Int32) → va_E) × (State → Prop)
abbrev w_D (w : WD) : va_G := w.1
abbrev w_cs (w : WD) : ClassId × ClassId × ClassId := w.2.1
abbrev w_n (w : WD) : Nat := w.2.2.1
abbrev w_ad (w : WD) : Nat → Nat := w.2.2.2.1
abbrev w_cf (w : WD) : Nat → (Nat → Int32) → va_E := w.2.2.2.2.1
abbrev w_Ex (w : WD) : State → Prop := w.2.2.2.2.2
def wPic (w : WD) (σ : Mem) : va_W := (List.range (w_n w)).map (fun q => (w_ad w q, w_cf w q (σ q)))
def wA (w : WD) : Nat → Prop := fun a => ∃ q, q < w_n w ∧ a = w_ad w q
def wT (w : WD) : List (ClassId × FieldType) := [((w_cs w).1, .int), ((w_cs w).2.1, .array .int), ((w_cs w).2.2, .boolean)]
theorem wPic_get (w : WD) (σ : Mem) {q : Nat} (h : q < w_n w) : (wPic w σ)[q]? = some (w_ad w q, w_cf w q (σ q)) := by
  unfold wPic
  rw [List.getElem?_map, List.getElem?_range h]
  rfl
theorem wPic_set (w : WD) (σ : Mem) {q : Nat} (f : Nat → Int32) : (wPic w σ).set q (w_ad w q, w_cf w q f) = wPic w (mrow σ q f) := by
  apply List.ext_getElem?
  intro j
  unfold wPic
  rw [List.getElem?_set, List.getElem?_map, List.getElem?_map, List.length_map, List.length_range]
  by_cases hj : j < w_n w
  · rw [List.getElem?_range hj]
    by_cases e : q = j
    · subst e
      simp [hj, mrow]
    · simp [e, mrow, show ¬ j = q from fun h => e h.symm]
  · rw [List.getElem?_eq_none (l := List.range (w_n w)) (by rw [List.length_range]; omega)]
    by_cases e : q = j
    · subst e
      simp [hj]
    · simp [e]
theorem wA_of (w : WD) {q : Nat} (h : q < w_n w) : wA w (w_ad w q) := ⟨q, h, rfl⟩
/-- the addresses are apart -/
def wInj (w : WD) : Prop := ∀ i j, i < w_n w → j < w_n w → w_ad w i = w_ad w j → i = j
theorem wPic_lt {w : WD} {σ : Mem} {k : Nat} {x : Nat × va_E} (h : (wPic w σ)[k]? = some x) : k < w_n w ∧ x = (w_ad w k, w_cf w k (σ k)) := by
  have hk : k < (wPic w σ).length := (List.getElem?_eq_some_iff.mp h).1
  have hk2 : k < w_n w := by
    unfold wPic at hk
    rwa [List.length_map, List.length_range] at hk
  rw [wPic_get w σ hk2] at h
  exact ⟨hk2, (Option.some.inj h).symm⟩
theorem wPic_D {w : WD} (hI : wInj w) (σ : Mem) : va_D (wA w) (wPic w σ) := by
  refine ⟨fun i j x y hi hj hxy => ?_, fun k x hk => ?_⟩
  · obtain ⟨h1, rfl⟩ := wPic_lt hi
    obtain ⟨h2, rfl⟩ := wPic_lt hj
    exact hI i j h1 h2 hxy
  · obtain ⟨h1, rfl⟩ := wPic_lt hk
    exact wA_of w h1
/-- what else holds of a state stays over a call's frame, and over a heap that changes in the world alone -/
def wExOk (w : WD) : Prop := (∀ (U : State) (g : JFrame) (mk : MethodId) (a : Array Value), w_Ex w U → w_Ex w (U.calling g mk a)) ∧ (∀ (s U : State) (H : Heap) (locs : List Loc), w_Ex w s → va_S (wA w) s.heap H locs → U.heap = H → s.WarmedH U.vm → w_Ex w U)
abbrev p_R (P : PT) : Room := P.2.2.2.1
abbrev p_s (P : PT) : State := P.2.2.2.2
def V (P : PT) (M : MT) (w : WD) (nL : Nat) (Q : State → Prop) (pc : Nat) (lv : List (Nat × Value)) (st : List Value) (σ : Mem) : Prop :=
  ∀ (H : Heap) (locs : List Loc) (ls : Array Slot), lv_has ls nL lv → va_P (w_D w) vwCl (wPic w σ) H → va_S (wA w) (p_s P).heap H locs → W P.1 P.2.1 P.2.2.1 (p_R P) (p_s P) M.1 M.2.1 M.2.2.1 M.2.2.2.1 M.2.2.2.2 H locs 0 0 Q (F0 M.1 pc ls st)
/-- what holds of the machine in a method: bytes cc, nL locals, class own, room for d levels -/
def VOk (P : PT) (M : MT) (w : WD) (nL : Nat) (cc : ByteArray) (own : String) (ret : Option FieldType) (d : Nat) : Prop :=
  P.1.tables.exec = Jvm.exec ∧ M.2.2.2.2.code = cc ∧ M.2.2.2.2.maxLocals = nL ∧ (p_s P).vm.findClass own = some M.1.cls ∧ (∀ c ∈ wAll, c.before M.2.1 (p_s P) = true) ∧ M.2.2.2.1.sig.returnType = ret ∧ M.2.2.2.1.locks = false ∧ va_K (w_D w) vwCl (wT w) (p_s P) ∧ wInj w ∧ w_Ex w (p_s P) ∧ wExOk w ∧ (d ≤ (p_R P).frames ∧ 40 * d ≤ (p_R P).locals)
def WPre (w : WD) (σ : Mem) (U : State) : Prop := va_P (w_D w) vwCl (wPic w σ) U.heap ∧ va_K (w_D w) vwCl (wT w) U ∧ wInj w ∧ w_Ex w U ∧ wExOk w
def WPost (w : WD) (σ : Mem) (t : State) : Prop := va_P (w_D w) vwCl (wPic w σ) t.heap
abbrev rmL (d : Nat) : Room := { frames := d, cells := 0, slots := 0, locals := 40 * d }
/-- contracts: from the memory σ with arguments av the method answers r (or nothing) and leaves σ' -/
def CtI (l : Launch) (w : WD) (d : Nat) (y : MethodName) (cc : ByteArray) (nL : Nat) (ret : Option FieldType) (av : List Value) (σ : Mem) (r : Int32) (σ' : Mem) : Prop :=
  Met l y (.code y cc nL ret :: wAll) (rmL d) (va_Pc av (WPre w σ)) (va_Qi (fun (r' : Int32) (u : Mem) => r' = r ∧ u = σ') (WPost w) (wA w)) 0 0 (wA w)
def CtV (l : Launch) (w : WD) (d : Nat) (y : MethodName) (cc : ByteArray) (nL : Nat) (av : List Value) (σ : Mem) (σ' : Mem) : Prop :=
  Met l y (.code y cc nL none :: wAll) (rmL d) (va_Pc av (WPre w σ)) (va_Qv (fun (u : Mem) => u = σ') (WPost w) (wA w)) 0 0 (wA w)
def CtR (l : Launch) (w : WD) (d : Nat) (y : MethodName) (cc : ByteArray) (nL : Nat) (ret : Option FieldType) (av : List Value) (σ : Mem) (a : Nat) : Prop :=
  Met l y (.code y cc nL ret :: wAll) (rmL d) (va_Pc av (WPre w σ)) (va_Qr (fun (u : Mem) => u = σ) (fun u b t => WPost w u t ∧ b = a) (wA w)) 0 0 (wA w)
def QI (P : PT) (M : MT) (w : WD) (r : Int32) (σ' : Mem) : State → Prop := MQ M.2.2.1 (va_Qi (fun (r' : Int32) (u : Mem) => r' = r ∧ u = σ') (WPost w) (wA w)) M.2.1 (p_s P) 0 0 (wA w)
def QV (P : PT) (M : MT) (w : WD) (σ' : Mem) : State → Prop := MQ M.2.2.1 (va_Qv (fun (u : Mem) => u = σ') (WPost w) (wA w)) M.2.1 (p_s P) 0 0 (wA w)
def QR (P : PT) (M : MT) (w : WD) (σ' : Mem) (a : Nat) : State → Prop := MQ M.2.2.1 (va_Qr (fun (u : Mem) => u = σ') (fun u b t => WPost w u t ∧ b = a) (wA w)) M.2.1 (p_s P) 0 0 (wA w)
def inB (i : Int32) (n : Nat) : Bool := decide (¬ (i < 0 ∨ n ≤ i.toNatClampNeg))
theorem inB_in {i : Int32} {n : Nat} (h : inB i n = true) : vp_in i n := by
  unfold vp_in
  exact of_decide_eq_true h
theorem inB_lt {i : Int32} {n : Nat} (h : inB i n = true) : i.toNatClampNeg < n := Nat.not_le.mp fun q => inB_in h (Or.inr q)
theorem lt_b {a b : Nat} (h : Nat.ble (a + 1) b = true) : a < b := Nat.le_of_ble_eq_true h
def isB (x : Int32) : Bool := decide (x = 0 ∨ x = 1)
theorem isB_n {x : Int32} (h : isB x = true) : narrow .boolean (.int x) = .int x := by
  rcases (of_decide_eq_true h : x = 0 ∨ x = 1) with rfl | rfl <;> rfl
theorem isB_f {x : Int32} (h : isB x = true) : fits .boolean (.int x) = true := by
  rcases (of_decide_eq_true h : x = 0 ∨ x = 1) with rfl | rfl <;> rfl
def gd {α : Type} (c : Bool) (k : Option α) : Option α := match c with
  | true => k
  | false => none
theorem gd_some {α : Type} {c : Bool} {k : Option α} {r : α} (h : gd c k = some r) : c = true ∧ k = some r := by
  cases c
  · cases h
  · exact ⟨rfl, h⟩
theorem opt_t {α : Type} {c : Prop} [Decidable c] {a b r : Option α} (hc : c) (h : (if c then a else b) = r) : a = r := by rwa [if_pos hc] at h
theorem opt_f {α : Type} {c : Prop} [Decidable c] {a b r : Option α} (hc : ¬ c) (h : (if c then a else b) = r) : b = r := by rwa [if_neg hc] at h
theorem opt_b {α β : Type} {a : Option α} {f : α → Option β} {r : β} (h : a.bind f = some r) : ∃ x, a = some x ∧ f x = some r := by
  cases a with
  | none => cases h
  | some x => exact ⟨x, rfl, h⟩
section VROWS
variable {P : PT} {M : MT} {w : WD} {nL : Nat} {Q : State → Prop} {pc : Nat} {lv : List (Nat × Value)} {st : List Value} {σ : Mem} {cc : ByteArray} {own : String} {ret : Option FieldType} {d : Nat}
theorem v_sub (ks : List Nat) {lv' : List (Nat × Value)} (h : lv_pick lv ks = lv') (k : V P M w nL Q pc lv' st σ) : V P M w nL Q pc lv st σ := fun H locs ls hl hP hS => k H locs ls (lv_sub hl ks h) hP hS
theorem v_eq {x y : Int32} (h : x = y) (k : V P M w nL Q pc lv (.int y :: st) σ) : V P M w nL Q pc lv (.int x :: st) σ := by rw [h]; exact k
theorem v_mem {σ' : Mem} (h : σ = σ') (k : V P M w nL Q pc lv st σ') : V P M w nL Q pc lv st σ := by rw [h]; exact k
theorem v_iadd {x y : Int32} (hX : VOk P M w nL cc own ret d) (hd : decode cc pc = .ok (.iadd, 1))  (k : V P M w nL Q (pc + 1) lv (.int (x + y) :: st) σ) : V P M w nL Q pc lv (.int y :: .int x :: st) σ := fun H locs ls hl hP hS => lv_iadd hX.1 hX.2.1 hd (k H locs ls hl hP hS)
theorem v_isub {x y : Int32} (hX : VOk P M w nL cc own ret d) (hd : decode cc pc = .ok (.isub, 1))  (k : V P M w nL Q (pc + 1) lv (.int (x - y) :: st) σ) : V P M w nL Q pc lv (.int y :: .int x :: st) σ := fun H locs ls hl hP hS => lv_isub hX.1 hX.2.1 hd (k H locs ls hl hP hS)
theorem v_imul {x y : Int32} (hX : VOk P M w nL cc own ret d) (hd : decode cc pc = .ok (.imul, 1))  (k : V P M w nL Q (pc + 1) lv (.int (x * y) :: st) σ) : V P M w nL Q pc lv (.int y :: .int x :: st) σ := fun H locs ls hl hP hS => lv_imul hX.1 hX.2.1 hd (k H locs ls hl hP hS)
theorem v_iand {x y : Int32} (hX : VOk P M w nL cc own ret d) (hd : decode cc pc = .ok (.iand, 1))  (k : V P M w nL Q (pc + 1) lv (.int (x &&& y) :: st) σ) : V P M w nL Q pc lv (.int y :: .int x :: st) σ := fun H locs ls hl hP hS => lv_iand hX.1 hX.2.1 hd (k H locs ls hl hP hS)
theorem v_ior {x y : Int32} (hX : VOk P M w nL cc own ret d) (hd : decode cc pc = .ok (.ior, 1))  (k : V P M w nL Q (pc + 1) lv (.int (x ||| y) :: st) σ) : V P M w nL Q pc lv (.int y :: .int x :: st) σ := fun H locs ls hl hP hS => lv_ior hX.1 hX.2.1 hd (k H locs ls hl hP hS)
theorem v_ixor {x y : Int32} (hX : VOk P M w nL cc own ret d) (hd : decode cc pc = .ok (.ixor, 1))  (k : V P M w nL Q (pc + 1) lv (.int (x ^^^ y) :: st) σ) : V P M w nL Q pc lv (.int y :: .int x :: st) σ := fun H locs ls hl hP hS => lv_ixor hX.1 hX.2.1 hd (k H locs ls hl hP hS)
theorem v_ishl {x y : Int32} (hX : VOk P M w nL cc own ret d) (hd : decode cc pc = .ok (.ishl, 1))  (k : V P M w nL Q (pc + 1) lv (.int (x <<< (y &&& 31)) :: st) σ) : V P M w nL Q pc lv (.int y :: .int x :: st) σ := fun H locs ls hl hP hS => lv_ishl hX.1 hX.2.1 hd (k H locs ls hl hP hS)
theorem v_ishr {x y : Int32} (hX : VOk P M w nL cc own ret d) (hd : decode cc pc = .ok (.ishr, 1))  (k : V P M w nL Q (pc + 1) lv (.int (x >>> (y &&& 31)) :: st) σ) : V P M w nL Q pc lv (.int y :: .int x :: st) σ := fun H locs ls hl hP hS => lv_ishr hX.1 hX.2.1 hd (k H locs ls hl hP hS)
theorem v_ineg {x : Int32} (hX : VOk P M w nL cc own ret d) (hd : decode cc pc = .ok (.ineg, 1))  (k : V P M w nL Q (pc + 1) lv (.int (-x) :: st) σ) : V P M w nL Q pc lv (.int x :: st) σ := fun H locs ls hl hP hS => lv_ineg hX.1 hX.2.1 hd (k H locs ls hl hP hS)
theorem v_idiv {x y : Int32} (hX : VOk P M w nL cc own ret d) (hd : decode cc pc = .ok (.idiv, 1)) (hne : ¬ y = 0) (k : V P M w nL Q (pc + 1) lv (.int (x / y) :: st) σ) : V P M w nL Q pc lv (.int y :: .int x :: st) σ := fun H locs ls hl hP hS => lv_idiv hX.1 hX.2.1 hd hne (k H locs ls hl hP hS)
theorem v_irem {x y : Int32} (hX : VOk P M w nL cc own ret d) (hd : decode cc pc = .ok (.irem, 1)) (hne : ¬ y = 0) (k : V P M w nL Q (pc + 1) lv (.int (x - x / y * y) :: st) σ) : V P M w nL Q pc lv (.int y :: .int x :: st) σ := fun H locs ls hl hP hS => lv_irem hX.1 hX.2.1 hd hne (k H locs ls hl hP hS)
theorem v_ladd {x y : Int64} (hX : VOk P M w nL cc own ret d) (hd : decode cc pc = .ok (.ladd, 1))  (k : V P M w nL Q (pc + 1) lv (.long (x + y) :: st) σ) : V P M w nL Q pc lv (.long y :: .long x :: st) σ := fun H locs ls hl hP hS => lv_ladd hX.1 hX.2.1 hd (k H locs ls hl hP hS)
theorem v_lmul {x y : Int64} (hX : VOk P M w nL cc own ret d) (hd : decode cc pc = .ok (.lmul, 1))  (k : V P M w nL Q (pc + 1) lv (.long (x * y) :: st) σ) : V P M w nL Q pc lv (.long y :: .long x :: st) σ := fun H locs ls hl hP hS => lv_lmul hX.1 hX.2.1 hd (k H locs ls hl hP hS)
theorem v_ldiv {x y : Int64} (hX : VOk P M w nL cc own ret d) (hd : decode cc pc = .ok (.ldiv, 1)) (hne : ¬ y = 0) (k : V P M w nL Q (pc + 1) lv (.long (x / y) :: st) σ) : V P M w nL Q pc lv (.long y :: .long x :: st) σ := fun H locs ls hl hP hS => lv_ldiv hX.1 hX.2.1 hd hne (k H locs ls hl hP hS)
theorem v_lrem {x y : Int64} (hX : VOk P M w nL cc own ret d) (hd : decode cc pc = .ok (.lrem, 1)) (hne : ¬ y = 0) (k : V P M w nL Q (pc + 1) lv (.long (x - x / y * y) :: st) σ) : V P M w nL Q pc lv (.long y :: .long x :: st) σ := fun H locs ls hl hP hS => lv_lrem hX.1 hX.2.1 hd hne (k H locs ls hl hP hS)
theorem v_lcmp {x y : Int64} (hX : VOk P M w nL cc own ret d) (hd : decode cc pc = .ok (.lcmp, 1)) (k : V P M w nL Q (pc + 1) lv (.int (lg_cmp x y) :: st) σ) : V P M w nL Q pc lv (.long y :: .long x :: st) σ := fun H locs ls hl hP hS => W.lcmp hX.1 hX.2.1 hd (k H locs ls hl hP hS)
theorem v_i2l {x : Int32} (hX : VOk P M w nL cc own ret d) (hd : decode cc pc = .ok (.i2l, 1)) (k : V P M w nL Q (pc + 1) lv (.long x.toInt64 :: st) σ) : V P M w nL Q pc lv (.int x :: st) σ := fun H locs ls hl hP hS => lv_i2l hX.1 hX.2.1 hd rfl (k H locs ls hl hP hS)
theorem v_l2i {x : Int64} (hX : VOk P M w nL cc own ret d) (hd : decode cc pc = .ok (.l2i, 1)) (k : V P M w nL Q (pc + 1) lv (.int x.toInt32 :: st) σ) : V P M w nL Q pc lv (.long x :: st) σ := fun H locs ls hl hP hS => lv_l2i hX.1 hX.2.1 hd rfl (k H locs ls hl hP hS)
theorem v_i2b {x : Int32} (hX : VOk P M w nL cc own ret d) (hd : decode cc pc = .ok (.i2b, 1)) (k : V P M w nL Q (pc + 1) lv (.int x.toInt8.toInt32 :: st) σ) : V P M w nL Q pc lv (.int x :: st) σ := fun H locs ls hl hP hS => lv_i2b hX.1 hX.2.1 hd rfl (k H locs ls hl hP hS)
theorem v_i2s {x : Int32} (hX : VOk P M w nL cc own ret d) (hd : decode cc pc = .ok (.i2s, 1)) (k : V P M w nL Q (pc + 1) lv (.int x.toInt16.toInt32 :: st) σ) : V P M w nL Q pc lv (.int x :: st) σ := fun H locs ls hl hP hS => lv_i2s hX.1 hX.2.1 hd rfl (k H locs ls hl hP hS)
theorem v_iushr {x y : Int32} (hX : VOk P M w nL cc own ret d) (hd : decode cc pc = .ok (.iushr, 1)) (k : V P M w nL Q (pc + 1) lv (.int (x.toUInt32 >>> (y.toUInt32 &&& Int32.toUInt32 31)).toInt32 :: st) σ) : V P M w nL Q pc lv (.int y :: .int x :: st) σ := fun H locs ls hl hP hS => lv_iushr hX.1 hX.2.1 hd rfl (k H locs ls hl hP hS)
theorem v_dup {a : Value} (hX : VOk P M w nL cc own ret d) (hd : decode cc pc = .ok (.dup, 1)) (hc : a.category = 1) (k : V P M w nL Q (pc + 1) lv (a :: a :: st) σ) : V P M w nL Q pc lv (a :: st) σ := fun H locs ls hl hP hS => lv_dup hX.1 hX.2.1 hd hc (k H locs ls hl hP hS)
theorem v_dup2 {a b : Value} (hX : VOk P M w nL cc own ret d) (hd : decode cc pc = .ok (.dup2, 1)) (hc : a.category = 1) (hc2 : b.category = 1) (k : V P M w nL Q (pc + 1) lv (a :: b :: a :: b :: st) σ) : V P M w nL Q pc lv (a :: b :: st) σ := fun H locs ls hl hP hS => lv_dup2_11 hX.1 hX.2.1 hd hc hc2 (k H locs ls hl hP hS)
theorem v_pop {a : Value} (hX : VOk P M w nL cc own ret d) (hd : decode cc pc = .ok (.pop, 1)) (hc : a.category = 1) (k : V P M w nL Q (pc + 1) lv st σ) : V P M w nL Q pc lv (a :: st) σ := fun H locs ls hl hP hS => lv_pop hX.1 hX.2.1 hd hc (k H locs ls hl hP hS)
theorem v_iconst {n : Int} (v : Int32) (hX : VOk P M w nL cc own ret d) (hd : decode cc pc = .ok (.iconst n, 1)) (hv : Int32.ofInt n = v) (k : V P M w nL Q (pc + 1) lv (.int v :: st) σ) : V P M w nL Q pc lv st σ := fun H locs ls hl hP hS => lv_iconst hX.1 hX.2.1 hd hv (k H locs ls hl hP hS)
theorem v_bipush {n : Int} (v : Int32) (hX : VOk P M w nL cc own ret d) (hd : decode cc pc = .ok (.bipush n, 2)) (hv : (Int8.ofInt n).toInt32 = v) (k : V P M w nL Q (pc + 2) lv (.int v :: st) σ) : V P M w nL Q pc lv st σ := fun H locs ls hl hP hS => lv_bipush hX.1 hX.2.1 hd hv (k H locs ls hl hP hS)
theorem v_sipush {n : Int} (v : Int32) (hX : VOk P M w nL cc own ret d) (hd : decode cc pc = .ok (.sipush n, 3)) (hv : (Int16.ofInt n).toInt32 = v) (k : V P M w nL Q (pc + 3) lv (.int v :: st) σ) : V P M w nL Q pc lv st σ := fun H locs ls hl hP hS => lv_sipush hX.1 hX.2.1 hd hv (k H locs ls hl hP hS)
theorem v_lconst {n : Fin 2} (v : Int64) (hX : VOk P M w nL cc own ret d) (hd : decode cc pc = .ok (.lconst n, 1)) (hv : Int64.ofNat (n : Nat) = v) (k : V P M w nL Q (pc + 1) lv (.long v :: st) σ) : V P M w nL Q pc lv st σ := fun H locs ls hl hP hS => lv_lconst hX.1 hX.2.1 hd hv (k H locs ls hl hP hS)
theorem v_ldc {index : Nat} (v : Int32) (hX : VOk P M w nL cc own ret d) (hd : decode cc pc = .ok (.ldc index, 2)) (hm : Cond.constant own index v ∈ wAll) (k : V P M w nL Q (pc + 2) lv (.int v :: st) σ) : V P M w nL Q pc lv st σ := fun H locs ls hl hP hS => lv_ldc hX.1 hX.2.1 hX.2.2.2.1 (hX.2.2.2.2.1 _ hm) hd (k H locs ls hl hP hS)
theorem v_ldcw {index : Nat} (v : Int32) (hX : VOk P M w nL cc own ret d) (hd : decode cc pc = .ok (.ldc_w index, 3)) (hm : Cond.constant own index v ∈ wAll) (k : V P M w nL Q (pc + 3) lv (.int v :: st) σ) : V P M w nL Q pc lv st σ := fun H locs ls hl hP hS => lv_ldcw hX.1 hX.2.1 hX.2.2.2.1 (hX.2.2.2.2.1 _ hm) hd (k H locs ls hl hP hS)
theorem v_ldc2 {index : Nat} (v : Int64) (hX : VOk P M w nL cc own ret d) (hd : decode cc pc = .ok (.ldc2_w index, 3)) (hm : Cond.constantLong own index v ∈ wAll) (k : V P M w nL Q (pc + 3) lv (.long v :: st) σ) : V P M w nL Q pc lv st σ := fun H locs ls hl hP hS => lv_ldc2 hX.1 hX.2.1 hX.2.2.2.1 (hX.2.2.2.2.1 _ hm) hd (k H locs ls hl hP hS)
theorem v_iload_n {f : Fin 4} (j i : Nat) {x : Int32} (hX : VOk P M w nL cc own ret d) (hd : decode cc pc = .ok (.iload_n f, 1)) (hi : (f : Nat) = i) (hj : lv[j]? = some (i, .int x)) (k : V P M w nL Q (pc + 1) lv (.int x :: st) σ) : V P M w nL Q pc lv st σ := fun H locs ls hl hP hS => lv_iload_n hX.1 hX.2.1 hd hi (lv_at hl j hj) (k H locs ls hl hP hS)
theorem v_iload (j : Nat) {i : Nat} {x : Int32} (hX : VOk P M w nL cc own ret d) (hd : decode cc pc = .ok (.iload i, 2)) (hj : lv[j]? = some (i, .int x)) (k : V P M w nL Q (pc + 2) lv (.int x :: st) σ) : V P M w nL Q pc lv st σ := fun H locs ls hl hP hS => lv_iload hX.1 hX.2.1 hd (lv_at hl j hj) (k H locs ls hl hP hS)
theorem v_istore_n {f : Fin 4} (i : Nat) {x : Int32} (lv' : List (Nat × Value)) (hX : VOk P M w nL cc own ret d) (hd : decode cc pc = .ok (.istore_n f, 1)) (hi : (f : Nat) = i) (hn : i < nL) (hv : (i, Value.int x) :: lv.filter (fun q => !(q.1 == i) && !(q.1 + 1 == i && q.2.category == 2)) = lv') (k : V P M w nL Q (pc + 1) lv' st σ) : V P M w nL Q pc lv (.int x :: st) σ := fun H locs ls hl hP hS => lv_istore_n hX.1 hX.2.1 hd hi hl hn hv (fun ls2 hl2 => k H locs ls2 hl2 hP hS)
theorem v_istore {i : Nat} {x : Int32} (lv' : List (Nat × Value)) (hX : VOk P M w nL cc own ret d) (hd : decode cc pc = .ok (.istore i, 2)) (hn : i < nL) (hv : (i, Value.int x) :: lv.filter (fun q => !(q.1 == i) && !(q.1 + 1 == i && q.2.category == 2)) = lv') (k : V P M w nL Q (pc + 2) lv' st σ) : V P M w nL Q pc lv (.int x :: st) σ := fun H locs ls hl hP hS => lv_istore hX.1 hX.2.1 hd hl hn hv (fun ls2 hl2 => k H locs ls2 hl2 hP hS)
theorem v_lload_n {f : Fin 4} (j i : Nat) {x : Int64} (hX : VOk P M w nL cc own ret d) (hd : decode cc pc = .ok (.lload_n f, 1)) (hi : (f : Nat) = i) (hj : lv[j]? = some (i, .long x)) (k : V P M w nL Q (pc + 1) lv (.long x :: st) σ) : V P M w nL Q pc lv st σ := fun H locs ls hl hP hS => lv_lload_n hX.1 hX.2.1 hd hi (lv_at hl j hj) (k H locs ls hl hP hS)
theorem v_lload (j : Nat) {i : Nat} {x : Int64} (hX : VOk P M w nL cc own ret d) (hd : decode cc pc = .ok (.lload i, 2)) (hj : lv[j]? = some (i, .long x)) (k : V P M w nL Q (pc + 2) lv (.long x :: st) σ) : V P M w nL Q pc lv st σ := fun H locs ls hl hP hS => lv_lload hX.1 hX.2.1 hd (lv_at hl j hj) (k H locs ls hl hP hS)
theorem v_lstore_n {f : Fin 4} (i : Nat) {x : Int64} (lv' : List (Nat × Value)) (hX : VOk P M w nL cc own ret d) (hd : decode cc pc = .ok (.lstore_n f, 1)) (hi : (f : Nat) = i) (hn : i + 1 < nL) (hv : (i, Value.long x) :: lv.filter (fun q => !(q.1 == i) && (!(q.1 == i + 1) && !(q.1 + 1 == i && q.2.category == 2))) = lv') (k : V P M w nL Q (pc + 1) lv' st σ) : V P M w nL Q pc lv (.long x :: st) σ := fun H locs ls hl hP hS => lv_lstore_n hX.1 hX.2.1 hd hi hl hn hv (fun ls2 hl2 => k H locs ls2 hl2 hP hS)
theorem v_lstore {i : Nat} {x : Int64} (lv' : List (Nat × Value)) (hX : VOk P M w nL cc own ret d) (hd : decode cc pc = .ok (.lstore i, 2)) (hn : i + 1 < nL) (hv : (i, Value.long x) :: lv.filter (fun q => !(q.1 == i) && (!(q.1 == i + 1) && !(q.1 + 1 == i && q.2.category == 2))) = lv') (k : V P M w nL Q (pc + 2) lv' st σ) : V P M w nL Q pc lv (.long x :: st) σ := fun H locs ls hl hP hS => lv_lstore hX.1 hX.2.1 hd hl hn hv (fun ls2 hl2 => k H locs ls2 hl2 hP hS)
theorem v_aload_n {f : Fin 4} (j i : Nat) {x : Nat} (hX : VOk P M w nL cc own ret d) (hd : decode cc pc = .ok (.aload_n f, 1)) (hi : (f : Nat) = i) (hj : lv[j]? = some (i, .ref x)) (k : V P M w nL Q (pc + 1) lv (.ref x :: st) σ) : V P M w nL Q pc lv st σ := fun H locs ls hl hP hS => lv_aload_n hX.1 hX.2.1 hd hi (lv_at hl j hj) (k H locs ls hl hP hS)
theorem v_aload (j : Nat) {i : Nat} {x : Nat} (hX : VOk P M w nL cc own ret d) (hd : decode cc pc = .ok (.aload i, 2)) (hj : lv[j]? = some (i, .ref x)) (k : V P M w nL Q (pc + 2) lv (.ref x :: st) σ) : V P M w nL Q pc lv st σ := fun H locs ls hl hP hS => lv_aload hX.1 hX.2.1 hd (lv_at hl j hj) (k H locs ls hl hP hS)
theorem v_astore_n {f : Fin 4} (i : Nat) {x : Nat} (lv' : List (Nat × Value)) (hX : VOk P M w nL cc own ret d) (hd : decode cc pc = .ok (.astore_n f, 1)) (hi : (f : Nat) = i) (hn : i < nL) (hv : (i, Value.ref x) :: lv.filter (fun q => !(q.1 == i) && !(q.1 + 1 == i && q.2.category == 2)) = lv') (k : V P M w nL Q (pc + 1) lv' st σ) : V P M w nL Q pc lv (.ref x :: st) σ := fun H locs ls hl hP hS => lv_astore_n hX.1 hX.2.1 hd hi hl hn hv (fun ls2 hl2 => k H locs ls2 hl2 hP hS)
theorem v_astore {i : Nat} {x : Nat} (lv' : List (Nat × Value)) (hX : VOk P M w nL cc own ret d) (hd : decode cc pc = .ok (.astore i, 2)) (hn : i < nL) (hv : (i, Value.ref x) :: lv.filter (fun q => !(q.1 == i) && !(q.1 + 1 == i && q.2.category == 2)) = lv') (k : V P M w nL Q (pc + 2) lv' st σ) : V P M w nL Q pc lv (.ref x :: st) σ := fun H locs ls hl hP hS => lv_astore hX.1 hX.2.1 hd hl hn hv (fun ls2 hl2 => k H locs ls2 hl2 hP hS)
theorem v_iinc {i : Nat} {n : Int} {x : Int32} (j : Nat) (v : Int32) (lv' : List (Nat × Value)) (hX : VOk P M w nL cc own ret d) (hd : decode cc pc = .ok (.iinc i n, 3)) (hj : lv[j]? = some (i, .int x)) (hv : x + Int32.ofInt n = v) (hn : i < nL) (hl' : (i, Value.int v) :: lv.filter (fun q => !(q.1 == i) && !(q.1 + 1 == i && q.2.category == 2)) = lv') (k : V P M w nL Q (pc + 3) lv' st σ) : V P M w nL Q pc lv st σ := fun H locs ls hl hP hS => lv_iinc hX.1 hX.2.1 hd hl hj hv hn hl' (fun ls2 hl2 => k H locs ls2 hl2 hP hS)
theorem v_goto {off : Int} (tgt : Nat) (hX : VOk P M w nL cc own ret d) (hd : decode cc pc = .ok (.goto off, 3)) (ht : (pc : Int) + off = (tgt : Int)) (k : V P M w nL Q tgt lv st σ) : V P M w nL Q pc lv st σ := fun H locs ls hl hP hS => lv_goto hX.1 hX.2.1 hd ht (k H locs ls hl hP hS)
theorem v_if_eq {x : Int32} {off : Int} (tgt : Nat) (hX : VOk P M w nL cc own ret d) (hd : decode cc pc = .ok (.ifCond .eq off, 3)) (ht : (pc : Int) + off = (tgt : Int)) (kt : x = 0 → V P M w nL Q tgt lv st σ) (kf : ¬ x = 0 → V P M w nL Q (pc + 3) lv st σ) : V P M w nL Q pc lv (.int x :: st) σ := fun H locs ls hl hP hS => lv_if_eq hX.1 hX.2.1 hd ht (fun h => kt h H locs ls hl hP hS) (fun h => kf h H locs ls hl hP hS)
theorem v_icmp_eq {x y : Int32} {off : Int} (tgt : Nat) (hX : VOk P M w nL cc own ret d) (hd : decode cc pc = .ok (.if_icmp .eq off, 3)) (ht : (pc : Int) + off = (tgt : Int)) (kt : x = y → V P M w nL Q tgt lv st σ) (kf : ¬ x = y → V P M w nL Q (pc + 3) lv st σ) : V P M w nL Q pc lv (.int y :: .int x :: st) σ := fun H locs ls hl hP hS => lv_icmp_eq hX.1 hX.2.1 hd ht (fun h => kt h H locs ls hl hP hS) (fun h => kf h H locs ls hl hP hS)
theorem v_if_ne {x : Int32} {off : Int} (tgt : Nat) (hX : VOk P M w nL cc own ret d) (hd : decode cc pc = .ok (.ifCond .ne off, 3)) (ht : (pc : Int) + off = (tgt : Int)) (kt : ¬ x = 0 → V P M w nL Q tgt lv st σ) (kf : x = 0 → V P M w nL Q (pc + 3) lv st σ) : V P M w nL Q pc lv (.int x :: st) σ := fun H locs ls hl hP hS => lv_if_ne hX.1 hX.2.1 hd ht (fun h => kt h H locs ls hl hP hS) (fun h => kf h H locs ls hl hP hS)
theorem v_icmp_ne {x y : Int32} {off : Int} (tgt : Nat) (hX : VOk P M w nL cc own ret d) (hd : decode cc pc = .ok (.if_icmp .ne off, 3)) (ht : (pc : Int) + off = (tgt : Int)) (kt : ¬ x = y → V P M w nL Q tgt lv st σ) (kf : x = y → V P M w nL Q (pc + 3) lv st σ) : V P M w nL Q pc lv (.int y :: .int x :: st) σ := fun H locs ls hl hP hS => lv_icmp_ne hX.1 hX.2.1 hd ht (fun h => kt h H locs ls hl hP hS) (fun h => kf h H locs ls hl hP hS)
theorem v_if_lt {x : Int32} {off : Int} (tgt : Nat) (hX : VOk P M w nL cc own ret d) (hd : decode cc pc = .ok (.ifCond .lt off, 3)) (ht : (pc : Int) + off = (tgt : Int)) (kt : x < 0 → V P M w nL Q tgt lv st σ) (kf : ¬ x < 0 → V P M w nL Q (pc + 3) lv st σ) : V P M w nL Q pc lv (.int x :: st) σ := fun H locs ls hl hP hS => lv_if_lt hX.1 hX.2.1 hd ht (fun h => kt h H locs ls hl hP hS) (fun h => kf h H locs ls hl hP hS)
theorem v_icmp_lt {x y : Int32} {off : Int} (tgt : Nat) (hX : VOk P M w nL cc own ret d) (hd : decode cc pc = .ok (.if_icmp .lt off, 3)) (ht : (pc : Int) + off = (tgt : Int)) (kt : x < y → V P M w nL Q tgt lv st σ) (kf : ¬ x < y → V P M w nL Q (pc + 3) lv st σ) : V P M w nL Q pc lv (.int y :: .int x :: st) σ := fun H locs ls hl hP hS => lv_icmp_lt hX.1 hX.2.1 hd ht (fun h => kt h H locs ls hl hP hS) (fun h => kf h H locs ls hl hP hS)
theorem v_if_ge {x : Int32} {off : Int} (tgt : Nat) (hX : VOk P M w nL cc own ret d) (hd : decode cc pc = .ok (.ifCond .ge off, 3)) (ht : (pc : Int) + off = (tgt : Int)) (kt : 0 ≤ x → V P M w nL Q tgt lv st σ) (kf : ¬ 0 ≤ x → V P M w nL Q (pc + 3) lv st σ) : V P M w nL Q pc lv (.int x :: st) σ := fun H locs ls hl hP hS => lv_if_ge hX.1 hX.2.1 hd ht (fun h => kt h H locs ls hl hP hS) (fun h => kf h H locs ls hl hP hS)
theorem v_icmp_ge {x y : Int32} {off : Int} (tgt : Nat) (hX : VOk P M w nL cc own ret d) (hd : decode cc pc = .ok (.if_icmp .ge off, 3)) (ht : (pc : Int) + off = (tgt : Int)) (kt : y ≤ x → V P M w nL Q tgt lv st σ) (kf : ¬ y ≤ x → V P M w nL Q (pc + 3) lv st σ) : V P M w nL Q pc lv (.int y :: .int x :: st) σ := fun H locs ls hl hP hS => lv_icmp_ge hX.1 hX.2.1 hd ht (fun h => kt h H locs ls hl hP hS) (fun h => kf h H locs ls hl hP hS)
theorem v_if_gt {x : Int32} {off : Int} (tgt : Nat) (hX : VOk P M w nL cc own ret d) (hd : decode cc pc = .ok (.ifCond .gt off, 3)) (ht : (pc : Int) + off = (tgt : Int)) (kt : 0 < x → V P M w nL Q tgt lv st σ) (kf : ¬ 0 < x → V P M w nL Q (pc + 3) lv st σ) : V P M w nL Q pc lv (.int x :: st) σ := fun H locs ls hl hP hS => lv_if_gt hX.1 hX.2.1 hd ht (fun h => kt h H locs ls hl hP hS) (fun h => kf h H locs ls hl hP hS)
theorem v_icmp_gt {x y : Int32} {off : Int} (tgt : Nat) (hX : VOk P M w nL cc own ret d) (hd : decode cc pc = .ok (.if_icmp .gt off, 3)) (ht : (pc : Int) + off = (tgt : Int)) (kt : y < x → V P M w nL Q tgt lv st σ) (kf : ¬ y < x → V P M w nL Q (pc + 3) lv st σ) : V P M w nL Q pc lv (.int y :: .int x :: st) σ := fun H locs ls hl hP hS => lv_icmp_gt hX.1 hX.2.1 hd ht (fun h => kt h H locs ls hl hP hS) (fun h => kf h H locs ls hl hP hS)
theorem v_if_le {x : Int32} {off : Int} (tgt : Nat) (hX : VOk P M w nL cc own ret d) (hd : decode cc pc = .ok (.ifCond .le off, 3)) (ht : (pc : Int) + off = (tgt : Int)) (kt : x ≤ 0 → V P M w nL Q tgt lv st σ) (kf : ¬ x ≤ 0 → V P M w nL Q (pc + 3) lv st σ) : V P M w nL Q pc lv (.int x :: st) σ := fun H locs ls hl hP hS => lv_if_le hX.1 hX.2.1 hd ht (fun h => kt h H locs ls hl hP hS) (fun h => kf h H locs ls hl hP hS)
theorem v_icmp_le {x y : Int32} {off : Int} (tgt : Nat) (hX : VOk P M w nL cc own ret d) (hd : decode cc pc = .ok (.if_icmp .le off, 3)) (ht : (pc : Int) + off = (tgt : Int)) (kt : x ≤ y → V P M w nL Q tgt lv st σ) (kf : ¬ x ≤ y → V P M w nL Q (pc + 3) lv st σ) : V P M w nL Q pc lv (.int y :: .int x :: st) σ := fun H locs ls hl hP hS => lv_icmp_le hX.1 hX.2.1 hd ht (fun h => kt h H locs ls hl hP hS) (fun h => kf h H locs ls hl hP hS)
theorem v_lookup {dflt : Int} {ps : Array (Int × Int)} {len : Nat} {x : Int32} (off : Int) (tgt : Nat) (hX : VOk P M w nL cc own ret d) (hd : decode cc pc = .ok (.lookupswitch dflt ps, len)) (hp : (ps.toList.zip (ps.toList.drop 1)).all (fun (a, next) => a.1 < next.1) = true) (ho : Op.lookupswitch.offset ps.toList dflt x.toInt = off) (ht : (pc : Int) + off = (tgt : Int)) (k : V P M w nL Q tgt lv st σ) : V P M w nL Q pc lv (.int x :: st) σ := fun H locs ls hl hP hS => lv_lookup hX.1 hX.2.1 hd hp ho ht (k H locs ls hl hP hS)
theorem v_tableOut {dflt lo hi : Int} {offs : Array Int} {len : Nat} {x : Int32} (tgt : Nat) (hX : VOk P M w nL cc own ret d) (hd : decode cc pc = .ok (.tableswitch dflt lo hi offs, len)) (h : x.toInt < lo ∨ hi < x.toInt) (ht : (pc : Int) + dflt = (tgt : Int)) (k : V P M w nL Q tgt lv st σ) : V P M w nL Q pc lv (.int x :: st) σ := fun H locs ls hl hP hS => lv_tableOut hX.1 hX.2.1 hd h ht (k H locs ls hl hP hS)
theorem v_tableIn {dflt lo hi : Int} {offs : Array Int} {len : Nat} {x : Int32} (off : Int) (tgt : Nat) (hX : VOk P M w nL cc own ret d) (hd : decode cc pc = .ok (.tableswitch dflt lo hi offs, len)) (h1 : ¬ x.toInt < lo) (h2 : ¬ hi < x.toInt) (ho : offs[(x.toInt - lo).toNat]? = some off) (ht : (pc : Int) + off = (tgt : Int)) (k : V P M w nL Q tgt lv st σ) : V P M w nL Q pc lv (.int x :: st) σ := fun H locs ls hl hP hS => lv_tableIn hX.1 hX.2.1 hd h1 h2 ho ht (k H locs ls hl hP hS)
theorem v_get {C : String} {T : u_T} {N ci index : Nat} {ref : String} {fs : List Value} {v : Value} (q k9 : Nat) (hX : VOk P M w nL cc own ret d) (hd : decode cc pc = .ok (.getfield index, 3)) (hm : Cond.fieldLink own index ref (T k9).2.1 (T k9).2.2.1 ∈ wAll) (href : (T k9).1 = ref) (hin : ∀ c ∈ u_ws C T N, c ∈ wAll) (hc : vwCl[ci]? = some (C, T, N)) (hk : k9 < N) (hq : q < w_n w) (hcell : w_cf w q (σ q) = .inr (ci, fs)) (hv : fs[k9]? = some v) (k : V P M w nL Q (pc + 3) lv (v :: st) σ) : V P M w nL Q pc lv (.ref (w_ad w q) :: st) σ := fun H locs ls hl hP hS => by
  obtain ⟨hx, hb, hml, hown, hts, hr, hlo, hK, hI, hE, hEo, hR⟩ := hX
  exact va_get (D := w_D w) (cl := vwCl) (ci := ci) (v := v) (C := C) (T := T) (N := N) hx hb hts hin hown hK hP q (by rw [wPic_get w σ hq, hcell]) hc k9 hk (hts _ hm) (fun x9 h9 => by rw [← href]; exact h9) hv hd (k H locs ls hl hP hS)
theorem v_put {C : String} {T : u_T} {N ci index : Nat} {ref : String} {fs : List Value} {v : Int32} {ty : FieldType} (ty0 : Nat → FieldType) (q k9 : Nat) (hX : VOk P M w nL cc own ret d) (hd : decode cc pc = .ok (.putfield index, 3)) (hm : Cond.fieldLink own index ref (T k9).2.1 (T k9).2.2.1 ∈ wAll) (href : (T k9).1 = ref) (hin : ∀ c ∈ u_ws C T N, c ∈ wAll) (hty : ∀ k, k < N → parseFieldDescriptor (T k).2.2.1 = some (ty0 k)) (hnm : ∀ a, a < N → ∀ b, b < N → a ≠ b → (T a).2.1 ≠ (T b).2.1) (hc : vwCl[ci]? = some (C, T, N)) (hk : k9 < N) (hq : q < w_n w) (hfin : (T k9).2.2.2 = false) (hdsc : parseFieldDescriptor (T k9).2.2.1 = some ty) (hna : narrow ty (.int v) = .int v) (hfit : fits ty (.int v) = true) (hcell : w_cf w q (σ q) = .inr (ci, fs)) (hln : k9 < fs.length) (hset : w_cf w q (upd (σ q) k9 v) = .inr (ci, fs.set k9 (.int v))) (k : V P M w nL Q (pc + 3) lv st (mst σ q k9 v)) : V P M w nL Q pc lv (.int v :: .ref (w_ad w q) :: st) σ := fun H locs ls hl hP hS => by
  obtain ⟨hx, hb, hml, hown, hts, hr, hlo, hK, hI, hE, hEo, hR⟩ := hX
  refine va_put (D := w_D w) (cl := vwCl) (A := wA w) (ci := ci) (v := .int v) (ty := ty) (C := C) (T := T) (N := N) hx hb hts hin ty0 hty hnm hown hK hP (wPic_D hI σ) hS q (by rw [wPic_get w σ hq, hcell]) hc k9 hk (hts _ hm) (fun x9 h9 => by rw [← href]; exact h9) hfin hdsc hna hfit hln hd (fun H1 locs1 hP1 _ hS1 => ?_)
  rw [← hset, wPic_set] at hP1
  exact k H1 locs1 ls hl hP1 hS1
theorem v_ald {len : Nat} {i v : Int32} (q : Nat) (hX : VOk P M w nL cc own ret d) (hd : decode cc pc = .ok (.iaload, 1)) (hq : q < w_n w) (hcell : w_cf w q (σ q) = .inl ((w_cs w).1, len, .inl (σ q))) (hin : inB i len = true) (hv : σ q i.toNatClampNeg = v) (k : V P M w nL Q (pc + 1) lv (.int v :: st) σ) : V P M w nL Q pc lv (.int i :: .ref (w_ad w q) :: st) σ := fun H locs ls hl hP hS => by
  obtain ⟨hx, hb, hml, hown, hts, hr, hlo, hK, hI, hE, hEo, hR⟩ := hX
  subst hv
  exact va_iald (D := w_D w) (cl := vwCl) hx hb hK hP q 0 (by rw [wPic_get w σ hq, hcell]) rfl (inB_in hin) hd (k H locs ls hl hP hS)
theorem v_ast {len : Nat} {i x : Int32} (q : Nat) (hX : VOk P M w nL cc own ret d) (hd : decode cc pc = .ok (.iastore, 1)) (hq : q < w_n w) (hcell : ∀ f, w_cf w q f = .inl ((w_cs w).1, len, .inl f)) (hin : inB i len = true) (k : V P M w nL Q (pc + 1) lv st (mst σ q i.toNatClampNeg x)) : V P M w nL Q pc lv (.int x :: .int i :: .ref (w_ad w q) :: st) σ := fun H locs ls hl hP hS => by
  obtain ⟨hx, hb, hml, hown, hts, hr, hlo, hK, hI, hE, hEo, hR⟩ := hX
  refine va_iast (D := w_D w) (cl := vwCl) (A := wA w) hx hb hK hP (wPic_D hI σ) hS q 0 (by rw [wPic_get w σ hq, hcell]) rfl (inB_in hin) hd (fun H1 locs1 hP1 _ hS1 => ?_)
  rw [← hcell, wPic_set] at hP1
  exact k H1 locs1 ls hl hP1 hS1
theorem v_aldc {len : Nat} {i v : Int32} (q j : Nat) (hX : VOk P M w nL cc own ret d) (hd : decode cc pc = .ok (.iaload, 1)) (hq : q < w_n w) (hcell : w_cf w q (σ q) = .inl ((w_cs w).1, len, .inl (σ q))) (hin : inB i len = true) (hi : i.toNatClampNeg = j) (hv : σ q j = v) (k : V P M w nL Q (pc + 1) lv (.int v :: st) σ) : V P M w nL Q pc lv (.int i :: .ref (w_ad w q) :: st) σ := v_ald q hX hd hq hcell hin (by rw [hi]; exact hv) k
theorem v_astc {len : Nat} {i x : Int32} (q j : Nat) (hX : VOk P M w nL cc own ret d) (hd : decode cc pc = .ok (.iastore, 1)) (hq : q < w_n w) (hcell : ∀ f, w_cf w q f = .inl ((w_cs w).1, len, .inl f)) (hin : inB i len = true) (hi : i.toNatClampNeg = j) (k : V P M w nL Q (pc + 1) lv st (mst σ q j x)) : V P M w nL Q pc lv (.int x :: .int i :: .ref (w_ad w q) :: st) σ := by
  subst hi
  exact v_ast q hX hd hq hcell hin k
theorem v_zald {len : Nat} {i v : Int32} (q : Nat) (hX : VOk P M w nL cc own ret d) (hd : decode cc pc = .ok (.baload, 1)) (hq : q < w_n w) (hcell : w_cf w q (σ q) = .inl ((w_cs w).2.2, len, .inl (σ q))) (hin : inB i len = true) (hv : σ q i.toNatClampNeg = v) (k : V P M w nL Q (pc + 1) lv (.int v :: st) σ) : V P M w nL Q pc lv (.int i :: .ref (w_ad w q) :: st) σ := fun H locs ls hl hP hS => by
  obtain ⟨hx, hb, hml, hown, hts, hr, hlo, hK, hI, hE, hEo, hR⟩ := hX
  subst hv
  exact va_zald (D := w_D w) (cl := vwCl) hx hb hK hP q 2 (by rw [wPic_get w σ hq, hcell]) rfl (inB_in hin) hd (k H locs ls hl hP hS)
theorem v_zast {len : Nat} {i x : Int32} (q : Nat) (hX : VOk P M w nL cc own ret d) (hd : decode cc pc = .ok (.bastore, 1)) (hq : q < w_n w) (hcell : ∀ f, w_cf w q f = .inl ((w_cs w).2.2, len, .inl f)) (hin : inB i len = true) (hx9 : vp_nar .boolean x = x) (k : V P M w nL Q (pc + 1) lv st (mst σ q i.toNatClampNeg x)) : V P M w nL Q pc lv (.int x :: .int i :: .ref (w_ad w q) :: st) σ := fun H locs ls hl hP hS => by
  obtain ⟨hx, hb, hml, hown, hts, hr, hlo, hK, hI, hE, hEo, hR⟩ := hX
  refine va_zast (D := w_D w) (cl := vwCl) (A := wA w) hx hb hK hP (wPic_D hI σ) hS q 2 (by rw [wPic_get w σ hq, hcell]) rfl (inB_in hin) hd (fun H1 locs1 hP1 _ hS1 => ?_)
  rw [hx9, ← hcell, wPic_set] at hP1
  exact k H1 locs1 ls hl hP1 hS1
theorem v_aaldG {i : Int32} (q b n : Nat) (hX : VOk P M w nL cc own ret d) (hd : decode cc pc = .ok (.aaload, 1)) (hq : q < w_n w) (hcell : w_cf w q (σ q) = .inl ((w_cs w).2.1, n, .inr (.inr (.inr (.inr (fun i => if i < n then some (w_ad w (b + i)) else none)))))) (hin : inB i n = true) (k : V P M w nL Q (pc + 1) lv (.ref (w_ad w (b + i.toNatClampNeg)) :: st) σ) : V P M w nL Q pc lv (.int i :: .ref (w_ad w q) :: st) σ := fun H locs ls hl hP hS => by
  obtain ⟨hx, hb, hml, hown, hts, hr, hlo, hK, hI, hE, hEo, hR⟩ := hX
  have ha : (wPic w σ)[q]? = some (w_ad w q, .inl ((w_cs w).2.1, n, .inr (.inr (.inr (.inr (fun i => if i < n then some (w_ad w (b + i)) else none)))))) := by rw [wPic_get w σ hq, hcell]
  have hlt := inB_lt hin
  have hin2 : ¬ (i < 0 ∨ n ≤ i.toNatClampNeg) := inB_in hin
  refine W.aald (v := .ref (w_ad w (b + i.toNatClampNeg))) (ty := .array .int) hx hb (hP q _ ha) ((hK.2 1 _ rfl).1 n (fun j => va_rf (if j < n then some (w_ad w (b + j)) else none))) rfl (fun q => by cases q) (by show ¬ (i < 0 ∨ (arrV _ _ _).slots.size ≤ _); rw [arrV_size]; exact hin2) (by show (arrV _ _ _).slots[_]? = _; rw [arrV_read _ _ hlt]; show some (va_rf (if i.toNatClampNeg < n then some (w_ad w (b + i.toNatClampNeg)) else none)) = _; rw [if_pos hlt]; rfl) rfl rfl hd (k H locs ls hl hP hS)
theorem v_alen {v : Int32} (q n : Nat) (hX : VOk P M w nL cc own ret d) (hd : decode cc pc = .ok (.arraylength, 1)) (hq : q < w_n w) (hcell : w_cf w q (σ q) = .inl ((w_cs w).1, n, .inl (σ q))) (hv : n.toInt32 = v) (k : V P M w nL Q (pc + 1) lv (.int v :: st) σ) : V P M w nL Q pc lv (.ref (w_ad w q) :: st) σ := fun H locs ls hl hP hS => by
  obtain ⟨hx, hb, hml, hown, hts, hr, hlo, hK, hI, hE, hEo, hR⟩ := hX
  have ha : (wPic w σ)[q]? = some (w_ad w q, .inl ((w_cs w).1, n, .inl (σ q))) := by rw [wPic_get w σ hq, hcell]
  exact W.alen hx hb (hP q _ ha) ((hK.2 0 _ rfl).1 n (fun j => .int (σ q j))) (by show (arrV _ _ _).slots.size.toInt32 = _; rw [arrV_size]; exact hv) rfl rfl hd (k H locs ls hl hP hS)
def cpB (sp dp n : Int32) (n0 n1 : Nat) : Bool := decide (¬ sp < 0 ∧ ¬ dp < 0 ∧ ¬ n < 0 ∧ sp.toNatClampNeg + n.toNatClampNeg ≤ n0 ∧ dp.toNatClampNeg + n.toNatClampNeg ≤ n1)
theorem v_cpy {index n0 n1 : Nat} {sp dp n : Int32} {rest : List Value} (q0 q1 : Nat) (hX : VOk P M w nL cc own ret d) (hd : decode cc pc = .ok (.invokestatic index, 3)) (hm0 : Cond.methodLink own index arraycopyName ∈ wAll) (hm1 : Cond.native arraycopyName ∈ wAll) (hm2 : Cond.static arraycopyName ∈ wAll) (hm3 : Cond.initialized "java/lang/System" ∈ wAll) (hq0 : q0 < w_n w) (hq1 : q1 < w_n w) (hc0 : ∀ f, w_cf w q0 f = .inl ((w_cs w).1, n0, .inl f)) (hc1 : ∀ f, w_cf w q1 f = .inl ((w_cs w).1, n1, .inl f)) (hB : cpB sp dp n n0 n1 = true) (hd1 : 1 ≤ d) (hroom : (rest.map fun v => v.category).sum ≤ 8) (k : V P M w nL Q (pc + 3) lv rest (mcpy σ q0 q1 sp.toNatClampNeg dp.toNatClampNeg n.toNatClampNeg)) : V P M w nL Q pc lv (.int n :: .int dp :: .ref (w_ad w q1) :: .int sp :: .ref (w_ad w q0) :: rest) σ := fun H locs ls hl hP hS => by
  obtain ⟨hx, hb, hml, hown, hts, hr, hlo, hK, hI, hE, hEo, hR⟩ := hX
  obtain ⟨h1, h2, h3, h4, h5⟩ : ¬ sp < 0 ∧ ¬ dp < 0 ∧ ¬ n < 0 ∧ sp.toNatClampNeg + n.toNatClampNeg ≤ n0 ∧ dp.toNatClampNeg + n.toNatClampNeg ≤ n1 := of_decide_eq_true hB
  refine va_copyi (D := w_D w) (cl := vwCl) (A := wA w) hx hb (hml.trans hl.1.symm) hown (hts _ hm0) (hts _ hm1) (hts _ hm2) (hts _ hm3) hK hP (wPic_D hI σ) hS q0 q1 0 0 (by rw [wPic_get w σ hq0, hc0]) (by rw [wPic_get w σ hq1, hc1]) rfl rfl rfl h1 h2 h3 h4 h5 (fun _ _ => rfl) (Nat.le_trans hd1 hR.1) (Nat.le_trans (Nat.add_le_add_right hroom _) (Nat.le_trans (show 8 + (nativeFrameWords "java/lang/System" "arraycopy" 5 + 11) ≤ 40 from Nat.le_of_ble_eq_true (by decide +kernel)) (Nat.le_trans (by omega) hR.2))) hd (fun H1 locs1 hP1 _ hS1 => ?_)
  rw [← hc1, wPic_set] at hP1
  exact k H1 locs1 ls hl hP1 hS1
def jmax (x y : Int32) : Int32 := if x < y then y else x
theorem v_max {index : Nat} {x y : Int32} {rest : List Value} (hX : VOk P M w nL cc own ret d) (hd : decode cc pc = .ok (.invokestatic index, 3)) (hm0 : Cond.methodLink own index Lib.Math.max.name ∈ wAll) (hm1 : Cond.static Lib.Math.max.name ∈ wAll) (hm2 : Cond.initialized "java/lang/Math" ∈ wAll) (hm3 : Cond.code Lib.Math.max.name Lib.Math.max.code 2 (some .int) ∈ wAll) (hd1 : 1 ≤ d) (hroom : (rest.map fun v => v.category).sum ≤ 8) (k : V P M w nL Q (pc + 3) lv (.int (jmax x y) :: rest) σ) : V P M w nL Q pc lv (.int y :: .int x :: rest) σ := fun H locs ls hl hP hS => by
  obtain ⟨hx, hb, hml, hown, hts, hr, hlo, hK, hI, hE, hEo, hR⟩ := hX
  exact va_mmax hx hb (hml.trans hl.1.symm) hown (hts _ hm0) (hts _ hm1) (hts _ hm2) (hts _ hm3) (Nat.le_trans hd1 hR.1) (Nat.le_trans (Nat.add_le_add_right hroom _) (Nat.le_trans (by omega) hR.2)) (Nat.zero_le _) (Nat.zero_le _) hd (k H locs ls hl hP hS)
theorem v_iret {r : Int32} {ty : FieldType} (hX : VOk P M w nL cc own (some ty) d) (hd : decode cc pc = .ok (.ireturn, 1)) (hn : narrow ty (.int r) = .int r) : V P M w nL (QI P M w r σ) pc lv [.int r] σ := fun H locs ls hl hP hS => by
  obtain ⟨hx, hb, hml, hown, hts, hr, hlo, hK, hI, hE, hEo, hR⟩ := hX
  exact W.zret (v := r) hx hb hr hn (fun t ht hW => ⟨⟨r, σ, rfl, ⟨rfl, rfl⟩, by show va_P _ _ _ t.heap; rw [ht]; exact hP⟩, hS.F ht⟩) hS.2.2 hd hlo
theorem v_vret (hX : VOk P M w nL cc own none d) (hd : decode cc pc = .ok (.return_, 1)) : V P M w nL (QV P M w σ) pc lv [] σ := fun H locs ls hl hP hS => by
  obtain ⟨hx, hb, hml, hown, hts, hr, hlo, hK, hI, hE, hEo, hR⟩ := hX
  exact W.vret hx hb hr (fun t ht hW => ⟨⟨σ, rfl, rfl, by show va_P _ _ _ t.heap; rw [ht]; exact hP⟩, hS.F ht⟩) hS.2.2 hd hlo
theorem v_nb {x : Int32} (h : x = 0 ∨ x = 1) : narrow .boolean (.int x) = .int x := by
  rcases h with rfl | rfl <;> rfl
theorem v_pre {U : State} (hX : VOk P M w nL cc own ret d) {H : Heap} {locs : List Loc} (hP : va_P (w_D w) vwCl (wPic w σ) H) (hS : va_S (wA w) (p_s P).heap H locs) (hU : U.heap = H) (hW : (p_s P).WarmedH U.vm) : WPre w σ U := by
  obtain ⟨hx, hb, hml, hown, hts, hr, hlo, hK, hI, hE, hEo, hR⟩ := hX
  exact ⟨by rw [hU]; exact hP, va_K.moved hW.alike hK, hI, hEo.2 (p_s P) U H locs hE hS hU hW, hEo⟩
theorem v_blind (av : List Value) : FrameBlind (va_Pc av (WPre w σ)) := fun a U g mk h => by
  obtain ⟨h0, hP, hK, hI, hE, hEo⟩ := h
  exact ⟨h0, hP, va_K.moved (u := U) (U := U.calling g mk a) (Vm.Alike.refl U.vm) hK, hI, hEo.1 U g mk a hE, hEo⟩
theorem v_good {ws : List Cond} (hG : GoodIn wAll wAll) (h : ∀ c ∈ ws, c ∈ wAll) : GoodIn wAll ws := fun c hc => hG c (h c hc)

theorem v_callVi {y : MethodName} {bytes : ByteArray} {maxL d2 index n : Nat} {ret2 : Option FieldType} {av As rest : List Value} {r : Int32} {σ2 : Mem} (q : Nat) {ci : Nat} {C : String} {T : u_T} {N : Nat} {fs : List Value} (hX : VOk P M w nL cc own ret d) (hd : decode cc pc = .ok (.invokevirtual index, 3)) (hM : CtI (P.2.1) w d2 y bytes maxL ret2 av σ r σ2) (hav : av = .ref (w_ad w q) :: As) (hst : st = As.reverse ++ .ref (w_ad w q) :: rest) (hq : q < w_n w) (hcell : w_cf w q (σ q) = .inr (ci, fs)) (hc : vwCl[ci]? = some (C, T, N)) (hC : y.cls = C) (hm1 : Cond.instanceMethod y ∈ wAll) (hm2 : Cond.selects C y y ∈ wAll) (hm3 : Cond.initialized C ∈ wAll) (hm0 : Cond.methodLink own index y ∈ wAll) (hmc : Cond.code y bytes maxL ret2 ∈ wAll) (hG : GoodIn wAll wAll) (hds : y.cls ≠ "java/lang/invoke/MethodHandle" ∧ y.cls ≠ "java/lang/invoke/VarHandle" ∧ (parseMethodDescriptor y.desc).map (fun d => d.parameters.length) = some n) (hn : As.length = n) (hR2 : d2 + 1 ≤ d ∧ maxL ≤ 21) (hroom : (rest.map fun v => v.category).sum ≤ 8) (k : V P M w nL Q (pc + 3) lv (.int r :: rest) σ2) : V P M w nL Q pc lv st σ := fun H locs ls hl hP hS => by
  have hX0 := hX
  obtain ⟨hx, hb, hml, hown, hts, hr, hlo, hK, hI, hE, hEo, hR⟩ := hX
  subst hav; subst hst
  have hRR : (rmL d2).frames + 1 ≤ (p_R P).frames ∧ 8 + (maxL + 11) + (rmL d2).locals ≤ (p_R P).locals := ⟨Nat.le_trans hR2.1 hR.1, by show 8 + (maxL + 11) + 40 * d2 ≤ _; omega⟩
  have hgw : GoodIn wAll (.code y bytes maxL ret2 :: wAll) := v_good hG (fun c h => by rcases List.mem_cons.mp h with rfl | h; exact hmc; exact h)
  have cw : CallW (p_R P) (p_s P) M.2.1 own C index y bytes maxL ret2 (.code y bytes maxL ret2 :: wAll) (rmL d2) 0 0 n := by
    subst hC
    exact ⟨callB_of n hts hgw rfl rfl rfl (hts _ hm3) (hts _ hm0) hds hRR, hts _ hm1, hts _ hm2⟩
  refine va_calli (va_runV (As := As) (rest := rest) ⟨hx, hb, hml, hown, hts⟩ hM cw ⟨v_blind _, va_recv hK hP (ci := ci) (q0 := q) hc (by rw [wPic_get w σ hq, hcell]), fun U hU hW => ⟨rfl, v_pre hX0 hP hS hU hW⟩⟩ rfl hn hl.1 rfl (lv_room hroom) hd ⟨Nat.zero_le _, Nat.zero_le _⟩) hS (fun q _ h => h) (fun q h => h) (fun r2 u t H1 locs1 ht hvm hw hB hz1 hk1 hS1 => ?_)
  obtain ⟨rfl, rfl⟩ := hw
  exact k H1 locs1 ls hl (by rw [← ht]; exact hB) hS1
theorem v_callVv {y : MethodName} {bytes : ByteArray} {maxL d2 index n : Nat} {ret2 : Option FieldType} {av As rest : List Value} {σ2 : Mem} (q : Nat) {ci : Nat} {C : String} {T : u_T} {N : Nat} {fs : List Value} (hX : VOk P M w nL cc own ret d) (hd : decode cc pc = .ok (.invokevirtual index, 3)) (hM : CtV (P.2.1) w d2 y bytes maxL av σ σ2) (hav : av = .ref (w_ad w q) :: As) (hst : st = As.reverse ++ .ref (w_ad w q) :: rest) (hq : q < w_n w) (hcell : w_cf w q (σ q) = .inr (ci, fs)) (hc : vwCl[ci]? = some (C, T, N)) (hC : y.cls = C) (hm1 : Cond.instanceMethod y ∈ wAll) (hm2 : Cond.selects C y y ∈ wAll) (hm3 : Cond.initialized C ∈ wAll) (hm0 : Cond.methodLink own index y ∈ wAll) (hmc : Cond.code y bytes maxL none ∈ wAll) (hG : GoodIn wAll wAll) (hds : y.cls ≠ "java/lang/invoke/MethodHandle" ∧ y.cls ≠ "java/lang/invoke/VarHandle" ∧ (parseMethodDescriptor y.desc).map (fun d => d.parameters.length) = some n) (hn : As.length = n) (hR2 : d2 + 1 ≤ d ∧ maxL ≤ 21) (hroom : (rest.map fun v => v.category).sum ≤ 8) (k : V P M w nL Q (pc + 3) lv (rest) σ2) : V P M w nL Q pc lv st σ := fun H locs ls hl hP hS => by
  have hX0 := hX
  obtain ⟨hx, hb, hml, hown, hts, hr, hlo, hK, hI, hE, hEo, hR⟩ := hX
  subst hav; subst hst
  have hRR : (rmL d2).frames + 1 ≤ (p_R P).frames ∧ 8 + (maxL + 11) + (rmL d2).locals ≤ (p_R P).locals := ⟨Nat.le_trans hR2.1 hR.1, by show 8 + (maxL + 11) + 40 * d2 ≤ _; omega⟩
  have hgw : GoodIn wAll (.code y bytes maxL none :: wAll) := v_good hG (fun c h => by rcases List.mem_cons.mp h with rfl | h; exact hmc; exact h)
  have cw : CallW (p_R P) (p_s P) M.2.1 own C index y bytes maxL none (.code y bytes maxL none :: wAll) (rmL d2) 0 0 n := by
    subst hC
    exact ⟨callB_of n hts hgw rfl rfl rfl (hts _ hm3) (hts _ hm0) hds hRR, hts _ hm1, hts _ hm2⟩
  refine va_callv (va_runV (As := As) (rest := rest) ⟨hx, hb, hml, hown, hts⟩ hM cw ⟨v_blind _, va_recv hK hP (ci := ci) (q0 := q) hc (by rw [wPic_get w σ hq, hcell]), fun U hU hW => ⟨rfl, v_pre hX0 hP hS hU hW⟩⟩ rfl hn hl.1 rfl (lv_room hroom) hd ⟨Nat.zero_le _, Nat.zero_le _⟩) hS (fun q _ h => h) (fun q h => h) (fun u t H1 locs1 ht hvm hw hB hz1 hk1 hS1 => ?_)
  obtain rfl := hw
  exact k H1 locs1 ls hl (by rw [← ht]; exact hB) hS1
theorem v_callVr {y : MethodName} {bytes : ByteArray} {maxL d2 index n : Nat} {ret2 : Option FieldType} {av As rest : List Value} {a2 : Nat} (q : Nat) {ci : Nat} {C : String} {T : u_T} {N : Nat} {fs : List Value} (hX : VOk P M w nL cc own ret d) (hd : decode cc pc = .ok (.invokevirtual index, 3)) (hM : CtR (P.2.1) w d2 y bytes maxL ret2 av σ a2) (hav : av = .ref (w_ad w q) :: As) (hst : st = As.reverse ++ .ref (w_ad w q) :: rest) (hq : q < w_n w) (hcell : w_cf w q (σ q) = .inr (ci, fs)) (hc : vwCl[ci]? = some (C, T, N)) (hC : y.cls = C) (hm1 : Cond.instanceMethod y ∈ wAll) (hm2 : Cond.selects C y y ∈ wAll) (hm3 : Cond.initialized C ∈ wAll) (hm0 : Cond.methodLink own index y ∈ wAll) (hmc : Cond.code y bytes maxL ret2 ∈ wAll) (hG : GoodIn wAll wAll) (hds : y.cls ≠ "java/lang/invoke/MethodHandle" ∧ y.cls ≠ "java/lang/invoke/VarHandle" ∧ (parseMethodDescriptor y.desc).map (fun d => d.parameters.length) = some n) (hn : As.length = n) (hR2 : d2 + 1 ≤ d ∧ maxL ≤ 21) (hroom : (rest.map fun v => v.category).sum ≤ 8) (k : V P M w nL Q (pc + 3) lv (.ref a2 :: rest) σ) : V P M w nL Q pc lv st σ := fun H locs ls hl hP hS => by
  have hX0 := hX
  obtain ⟨hx, hb, hml, hown, hts, hr, hlo, hK, hI, hE, hEo, hR⟩ := hX
  subst hav; subst hst
  have hRR : (rmL d2).frames + 1 ≤ (p_R P).frames ∧ 8 + (maxL + 11) + (rmL d2).locals ≤ (p_R P).locals := ⟨Nat.le_trans hR2.1 hR.1, by show 8 + (maxL + 11) + 40 * d2 ≤ _; omega⟩
  have hgw : GoodIn wAll (.code y bytes maxL ret2 :: wAll) := v_good hG (fun c h => by rcases List.mem_cons.mp h with rfl | h; exact hmc; exact h)
  have cw : CallW (p_R P) (p_s P) M.2.1 own C index y bytes maxL ret2 (.code y bytes maxL ret2 :: wAll) (rmL d2) 0 0 n := by
    subst hC
    exact ⟨callB_of n hts hgw rfl rfl rfl (hts _ hm3) (hts _ hm0) hds hRR, hts _ hm1, hts _ hm2⟩
  refine va_callr (va_runV (As := As) (rest := rest) ⟨hx, hb, hml, hown, hts⟩ hM cw ⟨v_blind _, va_recv hK hP (ci := ci) (q0 := q) hc (by rw [wPic_get w σ hq, hcell]), fun U hU hW => ⟨rfl, v_pre hX0 hP hS hU hW⟩⟩ rfl hn hl.1 rfl (lv_room hroom) hd ⟨Nat.zero_le _, Nat.zero_le _⟩) hS (fun q _ h => h) (fun q h => h) (fun u ra t H1 locs1 ht hvm hw hB hz1 hk1 hS1 => ?_)
  obtain rfl := hw
  obtain ⟨hB, rfl⟩ := hB
  exact k H1 locs1 ls hl (by rw [← ht]; exact hB) hS1
theorem v_callSi {y : MethodName} {bytes : ByteArray} {maxL d2 index n : Nat} {ret2 : Option FieldType} {av As rest : List Value} {r : Int32} {σ2 : Mem} (hX : VOk P M w nL cc own ret d) (hd : decode cc pc = .ok (.invokestatic index, 3)) (hM : CtI (P.2.1) w d2 y bytes maxL ret2 av σ r σ2) (hav : As = av) (hst : st = As.reverse ++ rest) (hm1 : Cond.static y ∈ wAll) (hm3 : Cond.initialized y.cls ∈ wAll) (hm0 : Cond.methodLink own index y ∈ wAll) (hmc : Cond.code y bytes maxL ret2 ∈ wAll) (hG : GoodIn wAll wAll) (hds : y.cls ≠ "java/lang/invoke/MethodHandle" ∧ y.cls ≠ "java/lang/invoke/VarHandle" ∧ (parseMethodDescriptor y.desc).map (fun d => d.parameters.length) = some n) (hn : As.length = n) (hR2 : d2 + 1 ≤ d ∧ maxL ≤ 21) (hroom : (rest.map fun v => v.category).sum ≤ 8) (k : V P M w nL Q (pc + 3) lv (.int r :: rest) σ2) : V P M w nL Q pc lv st σ := fun H locs ls hl hP hS => by
  have hX0 := hX
  obtain ⟨hx, hb, hml, hown, hts, hr, hlo, hK, hI, hE, hEo, hR⟩ := hX
  subst hav; subst hst
  have hRR : (rmL d2).frames + 1 ≤ (p_R P).frames ∧ 8 + (maxL + 11) + (rmL d2).locals ≤ (p_R P).locals := ⟨Nat.le_trans hR2.1 hR.1, by show 8 + (maxL + 11) + 40 * d2 ≤ _; omega⟩
  have hgw : GoodIn wAll (.code y bytes maxL ret2 :: wAll) := v_good hG (fun c h => by rcases List.mem_cons.mp h with rfl | h; exact hmc; exact h)
  have cw : CallB (p_R P) (p_s P) M.2.1 own index y bytes maxL ret2 (.code y bytes maxL ret2 :: wAll) (rmL d2) 0 0 n ∧ (Cond.static y).before M.2.1 (p_s P) = true := ⟨callB_of n hts hgw rfl rfl rfl (hts _ hm3) (hts _ hm0) hds hRR, hts _ hm1⟩
  refine va_calli (va_runS (As := As) (rest := rest) ⟨hx, hb, hml, hown, hts⟩ hM cw ⟨v_blind _, fun U hU hW => ⟨rfl, v_pre hX0 hP hS hU hW⟩⟩ rfl hn hl.1 rfl (lv_room hroom) hd ⟨Nat.zero_le _, Nat.zero_le _⟩) hS (fun q _ h => h) (fun q h => h) (fun r2 u t H1 locs1 ht hvm hw hB hz1 hk1 hS1 => ?_)
  obtain ⟨rfl, rfl⟩ := hw
  exact k H1 locs1 ls hl (by rw [← ht]; exact hB) hS1
theorem v_callSv {y : MethodName} {bytes : ByteArray} {maxL d2 index n : Nat} {ret2 : Option FieldType} {av As rest : List Value} {σ2 : Mem} (hX : VOk P M w nL cc own ret d) (hd : decode cc pc = .ok (.invokestatic index, 3)) (hM : CtV (P.2.1) w d2 y bytes maxL av σ σ2) (hav : As = av) (hst : st = As.reverse ++ rest) (hm1 : Cond.static y ∈ wAll) (hm3 : Cond.initialized y.cls ∈ wAll) (hm0 : Cond.methodLink own index y ∈ wAll) (hmc : Cond.code y bytes maxL none ∈ wAll) (hG : GoodIn wAll wAll) (hds : y.cls ≠ "java/lang/invoke/MethodHandle" ∧ y.cls ≠ "java/lang/invoke/VarHandle" ∧ (parseMethodDescriptor y.desc).map (fun d => d.parameters.length) = some n) (hn : As.length = n) (hR2 : d2 + 1 ≤ d ∧ maxL ≤ 21) (hroom : (rest.map fun v => v.category).sum ≤ 8) (k : V P M w nL Q (pc + 3) lv (rest) σ2) : V P M w nL Q pc lv st σ := fun H locs ls hl hP hS => by
  have hX0 := hX
  obtain ⟨hx, hb, hml, hown, hts, hr, hlo, hK, hI, hE, hEo, hR⟩ := hX
  subst hav; subst hst
  have hRR : (rmL d2).frames + 1 ≤ (p_R P).frames ∧ 8 + (maxL + 11) + (rmL d2).locals ≤ (p_R P).locals := ⟨Nat.le_trans hR2.1 hR.1, by show 8 + (maxL + 11) + 40 * d2 ≤ _; omega⟩
  have hgw : GoodIn wAll (.code y bytes maxL none :: wAll) := v_good hG (fun c h => by rcases List.mem_cons.mp h with rfl | h; exact hmc; exact h)
  have cw : CallB (p_R P) (p_s P) M.2.1 own index y bytes maxL none (.code y bytes maxL none :: wAll) (rmL d2) 0 0 n ∧ (Cond.static y).before M.2.1 (p_s P) = true := ⟨callB_of n hts hgw rfl rfl rfl (hts _ hm3) (hts _ hm0) hds hRR, hts _ hm1⟩
  refine va_callv (va_runS (As := As) (rest := rest) ⟨hx, hb, hml, hown, hts⟩ hM cw ⟨v_blind _, fun U hU hW => ⟨rfl, v_pre hX0 hP hS hU hW⟩⟩ rfl hn hl.1 rfl (lv_room hroom) hd ⟨Nat.zero_le _, Nat.zero_le _⟩) hS (fun q _ h => h) (fun q h => h) (fun u t H1 locs1 ht hvm hw hB hz1 hk1 hS1 => ?_)
  obtain rfl := hw
  exact k H1 locs1 ls hl (by rw [← ht]; exact hB) hS1
theorem v_callSr {y : MethodName} {bytes : ByteArray} {maxL d2 index n : Nat} {ret2 : Option FieldType} {av As rest : List Value} {a2 : Nat} (hX : VOk P M w nL cc own ret d) (hd : decode cc pc = .ok (.invokestatic index, 3)) (hM : CtR (P.2.1) w d2 y bytes maxL ret2 av σ a2) (hav : As = av) (hst : st = As.reverse ++ rest) (hm1 : Cond.static y ∈ wAll) (hm3 : Cond.initialized y.cls ∈ wAll) (hm0 : Cond.methodLink own index y ∈ wAll) (hmc : Cond.code y bytes maxL ret2 ∈ wAll) (hG : GoodIn wAll wAll) (hds : y.cls ≠ "java/lang/invoke/MethodHandle" ∧ y.cls ≠ "java/lang/invoke/VarHandle" ∧ (parseMethodDescriptor y.desc).map (fun d => d.parameters.length) = some n) (hn : As.length = n) (hR2 : d2 + 1 ≤ d ∧ maxL ≤ 21) (hroom : (rest.map fun v => v.category).sum ≤ 8) (k : V P M w nL Q (pc + 3) lv (.ref a2 :: rest) σ) : V P M w nL Q pc lv st σ := fun H locs ls hl hP hS => by
  have hX0 := hX
  obtain ⟨hx, hb, hml, hown, hts, hr, hlo, hK, hI, hE, hEo, hR⟩ := hX
  subst hav; subst hst
  have hRR : (rmL d2).frames + 1 ≤ (p_R P).frames ∧ 8 + (maxL + 11) + (rmL d2).locals ≤ (p_R P).locals := ⟨Nat.le_trans hR2.1 hR.1, by show 8 + (maxL + 11) + 40 * d2 ≤ _; omega⟩
  have hgw : GoodIn wAll (.code y bytes maxL ret2 :: wAll) := v_good hG (fun c h => by rcases List.mem_cons.mp h with rfl | h; exact hmc; exact h)
  have cw : CallB (p_R P) (p_s P) M.2.1 own index y bytes maxL ret2 (.code y bytes maxL ret2 :: wAll) (rmL d2) 0 0 n ∧ (Cond.static y).before M.2.1 (p_s P) = true := ⟨callB_of n hts hgw rfl rfl rfl (hts _ hm3) (hts _ hm0) hds hRR, hts _ hm1⟩
  refine va_callr (va_runS (As := As) (rest := rest) ⟨hx, hb, hml, hown, hts⟩ hM cw ⟨v_blind _, fun U hU hW => ⟨rfl, v_pre hX0 hP hS hU hW⟩⟩ rfl hn hl.1 rfl (lv_room hroom) hd ⟨Nat.zero_le _, Nat.zero_le _⟩) hS (fun q _ h => h) (fun q h => h) (fun u ra t H1 locs1 ht hvm hw hB hz1 hk1 hS1 => ?_)
  obtain rfl := hw
  obtain ⟨hB, rfl⟩ := hB
  exact k H1 locs1 ls hl (by rw [← ht]; exact hB) hS1
theorem v_callNi {y : MethodName} {bytes : ByteArray} {maxL d2 index n : Nat} {ret2 : Option FieldType} {av As rest : List Value} {r : Int32} {σ2 : Mem} (hX : VOk P M w nL cc own ret d) (hd : decode cc pc = .ok (.invokestatic index, 3)) (hM : CtI (P.2.1) w d2 y bytes maxL ret2 av σ r σ2) (hav : As = av) (hst : st = As.reverse ++ rest) (hm1 : Cond.static y ∈ wAll) (hm3 : Cond.initialized y.cls ∈ wAll) (hm0 : va_Nw (.methodLinkNest own index y "InkTaken") (p_s P)) (hmc : Cond.code y bytes maxL ret2 ∈ wAll) (hG : GoodIn wAll wAll) (hds : y.cls ≠ "java/lang/invoke/MethodHandle" ∧ y.cls ≠ "java/lang/invoke/VarHandle" ∧ (parseMethodDescriptor y.desc).map (fun d => d.parameters.length) = some n) (hn : As.length = n) (hR2 : d2 + 1 ≤ d ∧ maxL ≤ 21) (hroom : (rest.map fun v => v.category).sum ≤ 8) (k : V P M w nL Q (pc + 3) lv (.int r :: rest) σ2) : V P M w nL Q pc lv st σ := fun H locs ls hl hP hS => by
  have hX0 := hX
  obtain ⟨hx, hb, hml, hown, hts, hr, hlo, hK, hI, hE, hEo, hR⟩ := hX
  subst hav; subst hst
  have hRR : (rmL d2).frames + 1 ≤ (p_R P).frames ∧ 8 + (maxL + 11) + (rmL d2).locals ≤ (p_R P).locals := ⟨Nat.le_trans hR2.1 hR.1, by show 8 + (maxL + 11) + 40 * d2 ≤ _; omega⟩
  have hgw : GoodIn wAll (.code y bytes maxL ret2 :: wAll) := v_good hG (fun c h => by rcases List.mem_cons.mp h with rfl | h; exact hmc; exact h)
  have cw : va_CN (p_R P) (p_s P) M.2.1 own index y "InkTaken" bytes maxL ret2 (.code y bytes maxL ret2 :: wAll) (rmL d2) 0 0 n ∧ (Cond.static y).before M.2.1 (p_s P) = true ∧ True := ⟨va_cnB n hts hgw rfl rfl rfl hm0 (hts _ hm3) hds hRR, hts _ hm1, trivial⟩
  refine va_calli (va_runSN (As := As) (rest := rest) ⟨hx, hb, hml, hown, hts⟩ hM cw ⟨v_blind _, fun U hU hW => ⟨rfl, v_pre hX0 hP hS hU hW⟩⟩ rfl hn hl.1 rfl (lv_room hroom) hd ⟨Nat.zero_le _, Nat.zero_le _⟩) hS (fun q _ h => h) (fun q h => h) (fun r2 u t H1 locs1 ht hvm hw hB hz1 hk1 hS1 => ?_)
  obtain ⟨rfl, rfl⟩ := hw
  exact k H1 locs1 ls hl (by rw [← ht]; exact hB) hS1
theorem v_callNv {y : MethodName} {bytes : ByteArray} {maxL d2 index n : Nat} {ret2 : Option FieldType} {av As rest : List Value} {σ2 : Mem} (hX : VOk P M w nL cc own ret d) (hd : decode cc pc = .ok (.invokestatic index, 3)) (hM : CtV (P.2.1) w d2 y bytes maxL av σ σ2) (hav : As = av) (hst : st = As.reverse ++ rest) (hm1 : Cond.static y ∈ wAll) (hm3 : Cond.initialized y.cls ∈ wAll) (hm0 : va_Nw (.methodLinkNest own index y "InkTaken") (p_s P)) (hmc : Cond.code y bytes maxL none ∈ wAll) (hG : GoodIn wAll wAll) (hds : y.cls ≠ "java/lang/invoke/MethodHandle" ∧ y.cls ≠ "java/lang/invoke/VarHandle" ∧ (parseMethodDescriptor y.desc).map (fun d => d.parameters.length) = some n) (hn : As.length = n) (hR2 : d2 + 1 ≤ d ∧ maxL ≤ 21) (hroom : (rest.map fun v => v.category).sum ≤ 8) (k : V P M w nL Q (pc + 3) lv (rest) σ2) : V P M w nL Q pc lv st σ := fun H locs ls hl hP hS => by
  have hX0 := hX
  obtain ⟨hx, hb, hml, hown, hts, hr, hlo, hK, hI, hE, hEo, hR⟩ := hX
  subst hav; subst hst
  have hRR : (rmL d2).frames + 1 ≤ (p_R P).frames ∧ 8 + (maxL + 11) + (rmL d2).locals ≤ (p_R P).locals := ⟨Nat.le_trans hR2.1 hR.1, by show 8 + (maxL + 11) + 40 * d2 ≤ _; omega⟩
  have hgw : GoodIn wAll (.code y bytes maxL none :: wAll) := v_good hG (fun c h => by rcases List.mem_cons.mp h with rfl | h; exact hmc; exact h)
  have cw : va_CN (p_R P) (p_s P) M.2.1 own index y "InkTaken" bytes maxL none (.code y bytes maxL none :: wAll) (rmL d2) 0 0 n ∧ (Cond.static y).before M.2.1 (p_s P) = true ∧ True := ⟨va_cnB n hts hgw rfl rfl rfl hm0 (hts _ hm3) hds hRR, hts _ hm1, trivial⟩
  refine va_callv (va_runSN (As := As) (rest := rest) ⟨hx, hb, hml, hown, hts⟩ hM cw ⟨v_blind _, fun U hU hW => ⟨rfl, v_pre hX0 hP hS hU hW⟩⟩ rfl hn hl.1 rfl (lv_room hroom) hd ⟨Nat.zero_le _, Nat.zero_le _⟩) hS (fun q _ h => h) (fun q h => h) (fun u t H1 locs1 ht hvm hw hB hz1 hk1 hS1 => ?_)
  obtain rfl := hw
  exact k H1 locs1 ls hl (by rw [← ht]; exact hB) hS1
theorem v_callNr {y : MethodName} {bytes : ByteArray} {maxL d2 index n : Nat} {ret2 : Option FieldType} {av As rest : List Value} {a2 : Nat} (hX : VOk P M w nL cc own ret d) (hd : decode cc pc = .ok (.invokestatic index, 3)) (hM : CtR (P.2.1) w d2 y bytes maxL ret2 av σ a2) (hav : As = av) (hst : st = As.reverse ++ rest) (hm1 : Cond.static y ∈ wAll) (hm3 : Cond.initialized y.cls ∈ wAll) (hm0 : va_Nw (.methodLinkNest own index y "InkTaken") (p_s P)) (hmc : Cond.code y bytes maxL ret2 ∈ wAll) (hG : GoodIn wAll wAll) (hds : y.cls ≠ "java/lang/invoke/MethodHandle" ∧ y.cls ≠ "java/lang/invoke/VarHandle" ∧ (parseMethodDescriptor y.desc).map (fun d => d.parameters.length) = some n) (hn : As.length = n) (hR2 : d2 + 1 ≤ d ∧ maxL ≤ 21) (hroom : (rest.map fun v => v.category).sum ≤ 8) (k : V P M w nL Q (pc + 3) lv (.ref a2 :: rest) σ) : V P M w nL Q pc lv st σ := fun H locs ls hl hP hS => by
  have hX0 := hX
  obtain ⟨hx, hb, hml, hown, hts, hr, hlo, hK, hI, hE, hEo, hR⟩ := hX
  subst hav; subst hst
  have hRR : (rmL d2).frames + 1 ≤ (p_R P).frames ∧ 8 + (maxL + 11) + (rmL d2).locals ≤ (p_R P).locals := ⟨Nat.le_trans hR2.1 hR.1, by show 8 + (maxL + 11) + 40 * d2 ≤ _; omega⟩
  have hgw : GoodIn wAll (.code y bytes maxL ret2 :: wAll) := v_good hG (fun c h => by rcases List.mem_cons.mp h with rfl | h; exact hmc; exact h)
  have cw : va_CN (p_R P) (p_s P) M.2.1 own index y "InkTaken" bytes maxL ret2 (.code y bytes maxL ret2 :: wAll) (rmL d2) 0 0 n ∧ (Cond.static y).before M.2.1 (p_s P) = true ∧ True := ⟨va_cnB n hts hgw rfl rfl rfl hm0 (hts _ hm3) hds hRR, hts _ hm1, trivial⟩
  refine va_callr (va_runSN (As := As) (rest := rest) ⟨hx, hb, hml, hown, hts⟩ hM cw ⟨v_blind _, fun U hU hW => ⟨rfl, v_pre hX0 hP hS hU hW⟩⟩ rfl hn hl.1 rfl (lv_room hroom) hd ⟨Nat.zero_le _, Nat.zero_le _⟩) hS (fun q _ h => h) (fun q h => h) (fun u ra t H1 locs1 ht hvm hw hB hz1 hk1 hS1 => ?_)
  obtain rfl := hw
  obtain ⟨hB, rfl⟩ := hB
  exact k H1 locs1 ls hl (by rw [← ht]; exact hB) hS1
theorem v_callOi {y : MethodName} {bytes : ByteArray} {maxL d2 index n : Nat} {ret2 : Option FieldType} {av As rest : List Value} {r : Int32} {σ2 : Mem} (q : Nat) {ci : Nat} {C : String} {T : u_T} {N : Nat} {fs : List Value} (hX : VOk P M w nL cc own ret d) (hd : decode cc pc = .ok (.invokevirtual index, 3)) (hM : CtI (P.2.1) w d2 y bytes maxL ret2 av σ r σ2) (hav : av = .ref (w_ad w q) :: As) (hst : st = As.reverse ++ .ref (w_ad w q) :: rest) (hq : q < w_n w) (hcell : w_cf w q (σ q) = .inr (ci, fs)) (hc : vwCl[ci]? = some (C, T, N)) (hC : y.cls = C) (hm1 : Cond.instanceMethod y ∈ wAll) (hm2 : Cond.selects C y y ∈ wAll) (hm3 : Cond.initialized C ∈ wAll) (hm0 : va_Nw (.methodLinkNest own index y "InkTaken") (p_s P)) (hmc : Cond.code y bytes maxL ret2 ∈ wAll) (hG : GoodIn wAll wAll) (hds : y.cls ≠ "java/lang/invoke/MethodHandle" ∧ y.cls ≠ "java/lang/invoke/VarHandle" ∧ (parseMethodDescriptor y.desc).map (fun d => d.parameters.length) = some n) (hn : As.length = n) (hR2 : d2 + 1 ≤ d ∧ maxL ≤ 21) (hroom : (rest.map fun v => v.category).sum ≤ 8) (k : V P M w nL Q (pc + 3) lv (.int r :: rest) σ2) : V P M w nL Q pc lv st σ := fun H locs ls hl hP hS => by
  have hX0 := hX
  obtain ⟨hx, hb, hml, hown, hts, hr, hlo, hK, hI, hE, hEo, hR⟩ := hX
  subst hav; subst hst
  have hRR : (rmL d2).frames + 1 ≤ (p_R P).frames ∧ 8 + (maxL + 11) + (rmL d2).locals ≤ (p_R P).locals := ⟨Nat.le_trans hR2.1 hR.1, by show 8 + (maxL + 11) + 40 * d2 ≤ _; omega⟩
  have hgw : GoodIn wAll (.code y bytes maxL ret2 :: wAll) := v_good hG (fun c h => by rcases List.mem_cons.mp h with rfl | h; exact hmc; exact h)
  have cw : va_CN (p_R P) (p_s P) M.2.1 own index y "InkTaken" bytes maxL ret2 (.code y bytes maxL ret2 :: wAll) (rmL d2) 0 0 n ∧ (Cond.instanceMethod y).before M.2.1 (p_s P) = true ∧ (Cond.selects C y y).before M.2.1 (p_s P) = true := by
    subst hC
    exact ⟨va_cnB n hts hgw rfl rfl rfl hm0 (hts _ hm3) hds hRR, hts _ hm1, hts _ hm2⟩
  refine va_calli (va_runVN (As := As) (rest := rest) ⟨hx, hb, hml, hown, hts⟩ hM cw ⟨v_blind _, va_recv hK hP (ci := ci) (q0 := q) hc (by rw [wPic_get w σ hq, hcell]), fun U hU hW => ⟨rfl, v_pre hX0 hP hS hU hW⟩⟩ rfl hn hl.1 rfl (lv_room hroom) hd ⟨Nat.zero_le _, Nat.zero_le _⟩) hS (fun q _ h => h) (fun q h => h) (fun r2 u t H1 locs1 ht hvm hw hB hz1 hk1 hS1 => ?_)
  obtain ⟨rfl, rfl⟩ := hw
  exact k H1 locs1 ls hl (by rw [← ht]; exact hB) hS1
theorem v_callOv {y : MethodName} {bytes : ByteArray} {maxL d2 index n : Nat} {ret2 : Option FieldType} {av As rest : List Value} {σ2 : Mem} (q : Nat) {ci : Nat} {C : String} {T : u_T} {N : Nat} {fs : List Value} (hX : VOk P M w nL cc own ret d) (hd : decode cc pc = .ok (.invokevirtual index, 3)) (hM : CtV (P.2.1) w d2 y bytes maxL av σ σ2) (hav : av = .ref (w_ad w q) :: As) (hst : st = As.reverse ++ .ref (w_ad w q) :: rest) (hq : q < w_n w) (hcell : w_cf w q (σ q) = .inr (ci, fs)) (hc : vwCl[ci]? = some (C, T, N)) (hC : y.cls = C) (hm1 : Cond.instanceMethod y ∈ wAll) (hm2 : Cond.selects C y y ∈ wAll) (hm3 : Cond.initialized C ∈ wAll) (hm0 : va_Nw (.methodLinkNest own index y "InkTaken") (p_s P)) (hmc : Cond.code y bytes maxL none ∈ wAll) (hG : GoodIn wAll wAll) (hds : y.cls ≠ "java/lang/invoke/MethodHandle" ∧ y.cls ≠ "java/lang/invoke/VarHandle" ∧ (parseMethodDescriptor y.desc).map (fun d => d.parameters.length) = some n) (hn : As.length = n) (hR2 : d2 + 1 ≤ d ∧ maxL ≤ 21) (hroom : (rest.map fun v => v.category).sum ≤ 8) (k : V P M w nL Q (pc + 3) lv (rest) σ2) : V P M w nL Q pc lv st σ := fun H locs ls hl hP hS => by
  have hX0 := hX
  obtain ⟨hx, hb, hml, hown, hts, hr, hlo, hK, hI, hE, hEo, hR⟩ := hX
  subst hav; subst hst
  have hRR : (rmL d2).frames + 1 ≤ (p_R P).frames ∧ 8 + (maxL + 11) + (rmL d2).locals ≤ (p_R P).locals := ⟨Nat.le_trans hR2.1 hR.1, by show 8 + (maxL + 11) + 40 * d2 ≤ _; omega⟩
  have hgw : GoodIn wAll (.code y bytes maxL none :: wAll) := v_good hG (fun c h => by rcases List.mem_cons.mp h with rfl | h; exact hmc; exact h)
  have cw : va_CN (p_R P) (p_s P) M.2.1 own index y "InkTaken" bytes maxL none (.code y bytes maxL none :: wAll) (rmL d2) 0 0 n ∧ (Cond.instanceMethod y).before M.2.1 (p_s P) = true ∧ (Cond.selects C y y).before M.2.1 (p_s P) = true := by
    subst hC
    exact ⟨va_cnB n hts hgw rfl rfl rfl hm0 (hts _ hm3) hds hRR, hts _ hm1, hts _ hm2⟩
  refine va_callv (va_runVN (As := As) (rest := rest) ⟨hx, hb, hml, hown, hts⟩ hM cw ⟨v_blind _, va_recv hK hP (ci := ci) (q0 := q) hc (by rw [wPic_get w σ hq, hcell]), fun U hU hW => ⟨rfl, v_pre hX0 hP hS hU hW⟩⟩ rfl hn hl.1 rfl (lv_room hroom) hd ⟨Nat.zero_le _, Nat.zero_le _⟩) hS (fun q _ h => h) (fun q h => h) (fun u t H1 locs1 ht hvm hw hB hz1 hk1 hS1 => ?_)
  obtain rfl := hw
  exact k H1 locs1 ls hl (by rw [← ht]; exact hB) hS1
theorem v_callOr {y : MethodName} {bytes : ByteArray} {maxL d2 index n : Nat} {ret2 : Option FieldType} {av As rest : List Value} {a2 : Nat} (q : Nat) {ci : Nat} {C : String} {T : u_T} {N : Nat} {fs : List Value} (hX : VOk P M w nL cc own ret d) (hd : decode cc pc = .ok (.invokevirtual index, 3)) (hM : CtR (P.2.1) w d2 y bytes maxL ret2 av σ a2) (hav : av = .ref (w_ad w q) :: As) (hst : st = As.reverse ++ .ref (w_ad w q) :: rest) (hq : q < w_n w) (hcell : w_cf w q (σ q) = .inr (ci, fs)) (hc : vwCl[ci]? = some (C, T, N)) (hC : y.cls = C) (hm1 : Cond.instanceMethod y ∈ wAll) (hm2 : Cond.selects C y y ∈ wAll) (hm3 : Cond.initialized C ∈ wAll) (hm0 : va_Nw (.methodLinkNest own index y "InkTaken") (p_s P)) (hmc : Cond.code y bytes maxL ret2 ∈ wAll) (hG : GoodIn wAll wAll) (hds : y.cls ≠ "java/lang/invoke/MethodHandle" ∧ y.cls ≠ "java/lang/invoke/VarHandle" ∧ (parseMethodDescriptor y.desc).map (fun d => d.parameters.length) = some n) (hn : As.length = n) (hR2 : d2 + 1 ≤ d ∧ maxL ≤ 21) (hroom : (rest.map fun v => v.category).sum ≤ 8) (k : V P M w nL Q (pc + 3) lv (.ref a2 :: rest) σ) : V P M w nL Q pc lv st σ := fun H locs ls hl hP hS => by
  have hX0 := hX
  obtain ⟨hx, hb, hml, hown, hts, hr, hlo, hK, hI, hE, hEo, hR⟩ := hX
  subst hav; subst hst
  have hRR : (rmL d2).frames + 1 ≤ (p_R P).frames ∧ 8 + (maxL + 11) + (rmL d2).locals ≤ (p_R P).locals := ⟨Nat.le_trans hR2.1 hR.1, by show 8 + (maxL + 11) + 40 * d2 ≤ _; omega⟩
  have hgw : GoodIn wAll (.code y bytes maxL ret2 :: wAll) := v_good hG (fun c h => by rcases List.mem_cons.mp h with rfl | h; exact hmc; exact h)
  have cw : va_CN (p_R P) (p_s P) M.2.1 own index y "InkTaken" bytes maxL ret2 (.code y bytes maxL ret2 :: wAll) (rmL d2) 0 0 n ∧ (Cond.instanceMethod y).before M.2.1 (p_s P) = true ∧ (Cond.selects C y y).before M.2.1 (p_s P) = true := by
    subst hC
    exact ⟨va_cnB n hts hgw rfl rfl rfl hm0 (hts _ hm3) hds hRR, hts _ hm1, hts _ hm2⟩
  refine va_callr (va_runVN (As := As) (rest := rest) ⟨hx, hb, hml, hown, hts⟩ hM cw ⟨v_blind _, va_recv hK hP (ci := ci) (q0 := q) hc (by rw [wPic_get w σ hq, hcell]), fun U hU hW => ⟨rfl, v_pre hX0 hP hS hU hW⟩⟩ rfl hn hl.1 rfl (lv_room hroom) hd ⟨Nat.zero_le _, Nat.zero_le _⟩) hS (fun q _ h => h) (fun q h => h) (fun u ra t H1 locs1 ht hvm hw hB hz1 hk1 hS1 => ?_)
  obtain rfl := hw
  obtain ⟨hB, rfl⟩ := hB
  exact k H1 locs1 ls hl (by rw [← ht]; exact hB) hS1
end VROWS
/-- a contract out of the walk of its body -/
theorem ct_I {l : Launch} {w : WD} {d : Nat} {y : MethodName} {cc : ByteArray} {nL : Nat} {ret : Option FieldType} {av : List Value} {σ : Mem} {r : Int32} {σ' : Mem} (own : String) (lv : List (Nat × Value)) (hy : plainName y.cls = true) (hown : y.cls = own) (hlv : lv_args 0 av = lv) (hln : (lg_sl av).length ≤ nL)
    (h : ∀ (P : PT) (M : MT), P.2.1 = l → VOk P M w nL cc own ret d → V P M w nL (QI P M w r σ') 0 lv [] σ) : CtI l w d y cc nL ret av σ r σ' := by
  subst hown
  refine Met.ofW (cc := cc) (maxL := nL) (ret := ret) hy rfl ?_
  intro p e s m args below meth c s₁ B hml hv
  obtain ⟨rfl, hP, hK, hI, hE, hEo⟩ := hv
  have hts := atoms_spec (ws := .code y cc nL ret :: wAll) B.pre
  have hown : s.vm.findClass y.cls = some m.cls := findClass_of_methodNamed B.named
  have hX : VOk (p, l, e, rmL d, s) (m, av.toArray, below, meth, c) w nL cc y.cls ret d := ⟨B.exec, B.bytes, hml, hown, fun c9 h9 => hts c9 (List.mem_cons_of_mem _ h9), B.returns, B.notSynchronized, hK, hI, hE, hEo, Nat.le_refl _, Nat.le_refl _⟩
  have hl := lv_entry av (n := nL) hln
  rw [hlv] at hl
  rw [lg_entry_eq]
  exact h _ _ rfl hX s.heap [] _ hl hP va_S.rf
theorem ct_V {l : Launch} {w : WD} {d : Nat} {y : MethodName} {cc : ByteArray} {nL : Nat} {av : List Value} {σ : Mem} {σ' : Mem} (own : String) (lv : List (Nat × Value)) (hy : plainName y.cls = true) (hown : y.cls = own) (hlv : lv_args 0 av = lv) (hln : (lg_sl av).length ≤ nL)
    (h : ∀ (P : PT) (M : MT), P.2.1 = l → VOk P M w nL cc own none d → V P M w nL (QV P M w σ') 0 lv [] σ) : CtV l w d y cc nL av σ σ' := by
  subst hown
  refine Met.ofW (cc := cc) (maxL := nL) (ret := none) hy rfl ?_
  intro p e s m args below meth c s₁ B hml hv
  obtain ⟨rfl, hP, hK, hI, hE, hEo⟩ := hv
  have hts := atoms_spec (ws := .code y cc nL none :: wAll) B.pre
  have hown : s.vm.findClass y.cls = some m.cls := findClass_of_methodNamed B.named
  have hX : VOk (p, l, e, rmL d, s) (m, av.toArray, below, meth, c) w nL cc y.cls none d := ⟨B.exec, B.bytes, hml, hown, fun c9 h9 => hts c9 (List.mem_cons_of_mem _ h9), B.returns, B.notSynchronized, hK, hI, hE, hEo, Nat.le_refl _, Nat.le_refl _⟩
  have hl := lv_entry av (n := nL) hln
  rw [hlv] at hl
  rw [lg_entry_eq]
  exact h _ _ rfl hX s.heap [] _ hl hP va_S.rf
end
section
def xCell (cs : ClassId × ClassId × ClassId) (ad : Nat → Nat) (q : Nat) (f : Nat → Int32) : va_E := match q with
  | 0 => .inr (6, [.ref (ad 1), .ref (ad 13), .ref (ad 24), .ref (ad 35), .ref (ad 46), .ref (ad 59), .ref (ad 62), .ref (ad 66), .int (f 8), .int (f 9)])
  | 1 => .inr (5, [.ref (ad 2), .ref (ad 3), .ref (ad 4)])
  | 2 => .inl (cs.1, 8, .inl f)
  | 3 => .inl (cs.1, 8, .inl f)
  | 4 => .inl (cs.2.1, 8, .inr (.inr (.inr (.inr (fun i => if i < 8 then some (ad (5 + i)) else none)))))
  | 5 => .inl (cs.1, 40, .inl f)
  | 6 => .inl (cs.1, 40, .inl f)
  | 7 => .inl (cs.1, 40, .inl f)
  | 8 => .inl (cs.1, 40, .inl f)
  | 9 => .inl (cs.1, 40, .inl f)
  | 10 => .inl (cs.1, 40, .inl f)
  | 11 => .inl (cs.1, 40, .inl f)
  | 12 => .inl (cs.1, 40, .inl f)
  | 13 => .inr (1, [.int (f 0), .int (f 1), .int (f 2), .int (f 3), .int (f 4), .int (f 5), .int (f 6), .int (f 7), .int (f 8), .ref (ad 14), .ref (ad 15), .ref (ad 16), .ref (ad 17), .ref (ad 18), .ref (ad 19), .ref (ad 20), .ref (ad 21), .ref (ad 22), .ref (ad 23)])
  | 14 => .inl (cs.1, 4, .inl f)
  | 15 => .inl (cs.1, 4, .inl f)
  | 16 => .inl (cs.1, 10, .inl f)
  | 17 => .inl (cs.1, 10, .inl f)
  | 18 => .inl (cs.1, 10, .inl f)
  | 19 => .inl (cs.1, 10, .inl f)
  | 20 => .inl (cs.1, 5, .inl f)
  | 21 => .inl (cs.1, 5, .inl f)
  | 22 => .inl (cs.1, 5, .inl f)
  | 23 => .inl (cs.1, 5, .inl f)
  | 24 => .inr (1, [.int (f 0), .int (f 1), .int (f 2), .int (f 3), .int (f 4), .int (f 5), .int (f 6), .int (f 7), .int (f 8), .ref (ad 25), .ref (ad 26), .ref (ad 27), .ref (ad 28), .ref (ad 29), .ref (ad 30), .ref (ad 31), .ref (ad 32), .ref (ad 33), .ref (ad 34)])
  | 25 => .inl (cs.1, 4, .inl f)
  | 26 => .inl (cs.1, 4, .inl f)
  | 27 => .inl (cs.1, 10, .inl f)
  | 28 => .inl (cs.1, 10, .inl f)
  | 29 => .inl (cs.1, 10, .inl f)
  | 30 => .inl (cs.1, 10, .inl f)
  | 31 => .inl (cs.1, 5, .inl f)
  | 32 => .inl (cs.1, 5, .inl f)
  | 33 => .inl (cs.1, 5, .inl f)
  | 34 => .inl (cs.1, 5, .inl f)
  | 35 => .inr (1, [.int (f 0), .int (f 1), .int (f 2), .int (f 3), .int (f 4), .int (f 5), .int (f 6), .int (f 7), .int (f 8), .ref (ad 36), .ref (ad 37), .ref (ad 38), .ref (ad 39), .ref (ad 40), .ref (ad 41), .ref (ad 42), .ref (ad 43), .ref (ad 44), .ref (ad 45)])
  | 36 => .inl (cs.1, 4, .inl f)
  | 37 => .inl (cs.1, 4, .inl f)
  | 38 => .inl (cs.1, 10, .inl f)
  | 39 => .inl (cs.1, 10, .inl f)
  | 40 => .inl (cs.1, 10, .inl f)
  | 41 => .inl (cs.1, 10, .inl f)
  | 42 => .inl (cs.1, 5, .inl f)
  | 43 => .inl (cs.1, 5, .inl f)
  | 44 => .inl (cs.1, 5, .inl f)
  | 45 => .inl (cs.1, 5, .inl f)
  | 46 => .inr (4, [.ref (ad 47), .ref (ad 48), .int (f 2), .int (f 3), .int (f 4)])
  | 47 => .inl (cs.1, 140, .inl f)
  | 48 => .inr (1, [.int (f 0), .int (f 1), .int (f 2), .int (f 3), .int (f 4), .int (f 5), .int (f 6), .int (f 7), .int (f 8), .ref (ad 49), .ref (ad 50), .ref (ad 51), .ref (ad 52), .ref (ad 53), .ref (ad 54), .ref (ad 55), .ref (ad 56), .ref (ad 57), .ref (ad 58)])
  | 49 => .inl (cs.1, 4, .inl f)
  | 50 => .inl (cs.1, 4, .inl f)
  | 51 => .inl (cs.1, 10, .inl f)
  | 52 => .inl (cs.1, 10, .inl f)
  | 53 => .inl (cs.1, 10, .inl f)
  | 54 => .inl (cs.1, 10, .inl f)
  | 55 => .inl (cs.1, 5, .inl f)
  | 56 => .inl (cs.1, 5, .inl f)
  | 57 => .inl (cs.1, 5, .inl f)
  | 58 => .inl (cs.1, 5, .inl f)
  | 59 => .inr (0, [.ref (ad 60), .ref (ad 61), .int (f 2)])
  | 60 => .inl (cs.1, 24, .inl f)
  | 61 => .inl (cs.1, 24, .inl f)
  | 62 => .inr (3, [.ref (ad 63), .ref (ad 64), .ref (ad 65)])
  | 63 => .inl (cs.1, 16, .inl f)
  | 64 => .inl (cs.1, 91, .inl f)
  | 65 => .inl (cs.1, 91, .inl f)
  | 66 => .inr (2, [.ref (ad 67), .int (f 1)])
  | _ => .inl (cs.1, 16, .inl f)
def mCell (cs : ClassId × ClassId × ClassId) (ad : Nat → Nat) (q : Nat) (f : Nat → Int32) : va_E := match q with
  | 0 => .inr (7, [.ref (ad 1), .ref (ad 2), .ref (ad 3), .int (f 3), .ref (ad 4), .int (f 5), .int (f 6), .int (f 7), .ref (ad 5), .int (f 9), .ref (ad 6), .ref (ad 7), .ref (ad 8), .int (f 13), .ref (ad 9), .int (f 15), .int (f 16), .int (f 17), .int (f 18), .int (f 19), .ref (ad 10), .ref (ad 11)])
  | 1 => .inl (cs.1, 8, .inl f)
  | 2 => .inl (cs.1, 8, .inl f)
  | 3 => .inl (cs.1, 320, .inl f)
  | 4 => .inl (cs.1, 140, .inl f)
  | 5 => .inl (cs.1, 85, .inl f)
  | 6 => .inl (cs.1, 2040, .inl f)
  | 7 => .inl (cs.1, 170, .inl f)
  | 8 => .inl (cs.2.2, 2, .inl f)
  | 9 => .inl (cs.1, 16, .inl f)
  | 10 => .inl (cs.1, 85, .inl f)
  | _ => .inl (cs.1, 85, .inl f)
def tbA (j : Nat) : Int32 := match j with
  | 0 => -1
  | 1 => 0
  | 2 => 1
  | 3 => 1
  | 4 => 0
  | _ => 4
def tbS (j : Nat) : Int32 := match j with
  | 0 => 10
  | 1 => 11
  | 2 => 12
  | 3 => 0
  | 4 => 13
  | _ => 14
def tbM (j : Nat) : Int32 := match j with
  | 0 => 20
  | 1 => 21
  | 2 => 24
  | 3 => 22
  | 4 => 23
  | _ => 0
abbrev ts_tbA (ts : Nat × Nat × Nat) : Nat := ts.1
abbrev ts_tbS (ts : Nat × Nat × Nat) : Nat := ts.2.1
abbrev ts_tbM (ts : Nat × Nat × Nat) : Nat := ts.2.2
def exA (ad : Nat → Nat) : Nat → Prop := fun a => ∃ q, q < 68 ∧ a = ad q
/-- beside the class' cells: the nest's links, and the three tables -/
def exX (ad : Nat → Nat) (ts : Nat × Nat × Nat) (U : State) : Prop :=
  va_Nw (.methodLinkNest RX1 81 yX6_bitOf "InkTaken") U ∧ va_Nw (.methodLinkNest RX3 45 yX6_bitOf "InkTaken") U ∧
  (va_Z RX2 "ABOVE" "[I" (.ref ts.1) (exA ad) U U.heap ∧ va_T .int ts.1 6 (fun j => .int (tbA j)) (exA ad) U U.heap) ∧
  (va_Z RX2 "SIZE_BODIES" "[I" (.ref ts.2.1) (exA ad) U U.heap ∧ va_T .int ts.2.1 6 (fun j => .int (tbS j)) (exA ad) U U.heap) ∧
  (va_Z RX2 "MARK_BODIES" "[I" (.ref ts.2.2) (exA ad) U U.heap ∧ va_T .int ts.2.2 6 (fun j => .int (tbM j)) (exA ad) U U.heap)
abbrev xW (D : va_G) (cs : ClassId × ClassId × ClassId) (ad : Nat → Nat) (ts : Nat × Nat × Nat) : WD := (D, cs, 68, ad, xCell cs ad, exX ad ts)
abbrev mW (D : va_G) (cs : ClassId × ClassId × ClassId) (ad : Nat → Nat) : WD := (D, cs, 12, ad, mCell cs ad, fun _ => True)
theorem mW_ok (D : va_G) (cs : ClassId × ClassId × ClassId) (ad : Nat → Nat) : wExOk (mW D cs ad) := ⟨fun _ _ _ _ _ => trivial, fun _ _ _ _ _ _ _ _ => trivial⟩
theorem xW_ok (D : va_G) (cs : ClassId × ClassId × ClassId) (ad : Nat → Nat) (ts : Nat × Nat × Nat) : wExOk (xW D cs ad ts) := by
  refine ⟨fun U g mk a h => ?_, fun s U H locs h hS hU hW => ?_⟩
  · obtain ⟨h1, h2, ⟨h3, h4⟩, ⟨h5, h6⟩, ⟨h7, h8⟩⟩ := h
    have hv : U.vm.Alike (U.calling g mk a).vm := Vm.Alike.refl U.vm
    exact ⟨va_Nw.same rfl rfl h1, va_Nw.same rfl rfl h2, ⟨h3.moved hv, h4.moved hv⟩, ⟨h5.moved hv, h6.moved hv⟩, ⟨h7.moved hv, h8.moved hv⟩⟩
  · obtain ⟨h1, h2, ⟨h3, h4⟩, ⟨h5, h6⟩, ⟨h7, h8⟩⟩ := h
    have hk : ∀ a : Nat, a < s.heap.size → ¬ exA ad a → U.heap[a]? = s.heap[a]? := fun a h1 h2 => by rw [hU]; exact hS.2.1 a h1 h2
    have hv := hW.alike
    exact ⟨va_Nw.warmM hW h1, va_Nw.warmM hW h2, ⟨(h3.kept hk).moved hv, (h4.kept hk).moved hv⟩, ⟨(h5.kept hk).moved hv, (h6.kept hk).moved hv⟩, ⟨(h7.kept hk).moved hv, (h8.kept hk).moved hv⟩⟩
section XROWS
variable {P : PT} {M : MT} {D : va_G} {cs : ClassId × ClassId × ClassId} {ad : Nat → Nat} {ts : Nat × Nat × Nat} {nL : Nat} {Q : State → Prop} {pc : Nat} {lv : List (Nat × Value)} {st : List Value} {σ : Mem} {cc : ByteArray} {own : String} {ret : Option FieldType} {d : Nat}
theorem ex_RX1_81 (hX : VOk P M (xW D cs ad ts) nL cc own ret d) : va_Nw (.methodLinkNest RX1 81 yX6_bitOf "InkTaken") (p_s P) := by
  obtain ⟨hx, hb, hml, hown, hts, hr, hlo, hK, hI, hE, hEo, hR⟩ := hX
  exact hE.1
theorem ex_RX3_45 (hX : VOk P M (xW D cs ad ts) nL cc own ret d) : va_Nw (.methodLinkNest RX3 45 yX6_bitOf "InkTaken") (p_s P) := by
  obtain ⟨hx, hb, hml, hown, hts, hr, hlo, hK, hI, hE, hEo, hR⟩ := hX
  exact hE.2.1
theorem xr_lt {k : Nat} (h : k < 8) : 5 + k < 68 := by omega
theorem xr_cell {k : Nat} (h : k < 8) (f : Nat → Int32) : xCell cs ad (5 + k) f = .inl (cs.1, 40, .inl f) := by
  rcases (show k = 0 ∨ k = 1 ∨ k = 2 ∨ k = 3 ∨ k = 4 ∨ k = 5 ∨ k = 6 ∨ k = 7 by omega) with rfl | rfl | rfl | rfl | rfl | rfl | rfl | rfl <;> rfl
theorem v_aald {i : Int32} (hX : VOk P M (xW D cs ad ts) nL cc own ret d) (hd : decode cc pc = .ok (.aaload, 1)) (hin : inB i 8 = true) (k : V P M (xW D cs ad ts) nL Q (pc + 1) lv (.ref (ad (5 + i.toNatClampNeg)) :: st) σ) : V P M (xW D cs ad ts) nL Q pc lv (.int i :: .ref (ad 4) :: st) σ := v_aaldG (w := xW D cs ad ts) 4 5 8 hX hd (lt_b rfl) rfl hin k
theorem v_gets_tbA {index : Nat} {ref : String} (hX : VOk P M (xW D cs ad ts) nL cc own ret d) (hd : decode cc pc = .ok (.getstatic index, 3)) (hm : Cond.fieldLink own index "InkTaken$Asks" "ABOVE" "[I" ∈ wAll) (k : V P M (xW D cs ad ts) nL Q (pc + 3) lv (.ref (ts_tbA ts) :: st) σ) : V P M (xW D cs ad ts) nL Q pc lv st σ := fun H locs ls hl hP hS => by
  obtain ⟨hx, hb, hml, hown, hts, hr, hlo, hK, hI, hE, hEo, hR⟩ := hX
  exact va_gets (C := RX2) (A := exA ad) hx hb (hE.2.2.1).1 hS hown (hts _ hm) (fun x h => h) hd (k H locs ls hl hP hS)
theorem v_tab_tbA {i : Int32} (hX : VOk P M (xW D cs ad ts) nL cc own ret d) (hd : decode cc pc = .ok (.iaload, 1)) (hin : inB i 6 = true) (k : V P M (xW D cs ad ts) nL Q (pc + 1) lv (.int (tbA i.toNatClampNeg) :: st) σ) : V P M (xW D cs ad ts) nL Q pc lv (.int i :: .ref (ts_tbA ts) :: st) σ := fun H locs ls hl hP hS => by
  obtain ⟨hx, hb, hml, hown, hts, hr, hlo, hK, hI, hE, hEo, hR⟩ := hX
  exact va_ti (A := exA ad) hx hb (hE.2.2.1).2 hS (inB_in hin) rfl hd (k H locs ls hl hP hS)
theorem v_gets_tbS {index : Nat} {ref : String} (hX : VOk P M (xW D cs ad ts) nL cc own ret d) (hd : decode cc pc = .ok (.getstatic index, 3)) (hm : Cond.fieldLink own index "InkTaken$Asks" "SIZE_BODIES" "[I" ∈ wAll) (k : V P M (xW D cs ad ts) nL Q (pc + 3) lv (.ref (ts_tbS ts) :: st) σ) : V P M (xW D cs ad ts) nL Q pc lv st σ := fun H locs ls hl hP hS => by
  obtain ⟨hx, hb, hml, hown, hts, hr, hlo, hK, hI, hE, hEo, hR⟩ := hX
  exact va_gets (C := RX2) (A := exA ad) hx hb (hE.2.2.2.1).1 hS hown (hts _ hm) (fun x h => h) hd (k H locs ls hl hP hS)
theorem v_tab_tbS {i : Int32} (hX : VOk P M (xW D cs ad ts) nL cc own ret d) (hd : decode cc pc = .ok (.iaload, 1)) (hin : inB i 6 = true) (k : V P M (xW D cs ad ts) nL Q (pc + 1) lv (.int (tbS i.toNatClampNeg) :: st) σ) : V P M (xW D cs ad ts) nL Q pc lv (.int i :: .ref (ts_tbS ts) :: st) σ := fun H locs ls hl hP hS => by
  obtain ⟨hx, hb, hml, hown, hts, hr, hlo, hK, hI, hE, hEo, hR⟩ := hX
  exact va_ti (A := exA ad) hx hb (hE.2.2.2.1).2 hS (inB_in hin) rfl hd (k H locs ls hl hP hS)
theorem v_gets_tbM {index : Nat} {ref : String} (hX : VOk P M (xW D cs ad ts) nL cc own ret d) (hd : decode cc pc = .ok (.getstatic index, 3)) (hm : Cond.fieldLink own index "InkTaken$Asks" "MARK_BODIES" "[I" ∈ wAll) (k : V P M (xW D cs ad ts) nL Q (pc + 3) lv (.ref (ts_tbM ts) :: st) σ) : V P M (xW D cs ad ts) nL Q pc lv st σ := fun H locs ls hl hP hS => by
  obtain ⟨hx, hb, hml, hown, hts, hr, hlo, hK, hI, hE, hEo, hR⟩ := hX
  exact va_gets (C := RX2) (A := exA ad) hx hb (hE.2.2.2.2).1 hS hown (hts _ hm) (fun x h => h) hd (k H locs ls hl hP hS)
theorem v_tab_tbM {i : Int32} (hX : VOk P M (xW D cs ad ts) nL cc own ret d) (hd : decode cc pc = .ok (.iaload, 1)) (hin : inB i 6 = true) (k : V P M (xW D cs ad ts) nL Q (pc + 1) lv (.int (tbM i.toNatClampNeg) :: st) σ) : V P M (xW D cs ad ts) nL Q pc lv (.int i :: .ref (ts_tbM ts) :: st) σ := fun H locs ls hl hP hS => by
  obtain ⟨hx, hb, hml, hown, hts, hr, hlo, hK, hI, hE, hEo, hR⟩ := hX
  exact va_ti (A := exA ad) hx hb (hE.2.2.2.2).2 hS (inB_in hin) rfl hd (k H locs ls hl hP hS)
end XROWS
end
