section
-- ===== PART A: goes FIRST, ahead of the names: the tables' words, and 'selects' of the private methods out of them =====
/-- a private method of a class that the tables say can be made, by its rows of tables_1 -/
def lw_okq (q : MethodName × Nat) : Prop := (q.1.cls ≠ "java/lang/invoke/MethodHandle" ∧ q.1.cls ≠ "java/lang/invoke/VarHandle") ∧ Cond.instantiable q.1.cls q.2 ∈ tables_1 ∧ Cond.privateMethod q.1 ∈ tables_1 ∧ Cond.instanceMethod q.1 ∈ tables_1
theorem lw_p0 : lw_okq (⟨"HoleHouse", "change", "(IJ)V"⟩, 10) := ⟨⟨by decide +kernel, by decide +kernel⟩, List.mem_of_getElem? (i := 15) (by decide +kernel), List.mem_of_getElem? (i := 201) (by decide +kernel), List.mem_of_getElem? (i := 202) (by decide +kernel)⟩
theorem lw_p1 : lw_okq (⟨"HoleHouse", "isSet", "(I)Z"⟩, 10) := ⟨⟨by decide +kernel, by decide +kernel⟩, List.mem_of_getElem? (i := 15) (by decide +kernel), List.mem_of_getElem? (i := 216) (by decide +kernel), List.mem_of_getElem? (i := 217) (by decide +kernel)⟩
theorem lw_p2 : lw_okq (⟨"HoleHouse", "allPoints", "()I"⟩, 10) := ⟨⟨by decide +kernel, by decide +kernel⟩, List.mem_of_getElem? (i := 15) (by decide +kernel), List.mem_of_getElem? (i := 220) (by decide +kernel), List.mem_of_getElem? (i := 221) (by decide +kernel)⟩
theorem lw_p3 : lw_okq (⟨"HoleHouse", "isNonemptyFace", "(I)Z"⟩, 10) := ⟨⟨by decide +kernel, by decide +kernel⟩, List.mem_of_getElem? (i := 15) (by decide +kernel), List.mem_of_getElem? (i := 240) (by decide +kernel), List.mem_of_getElem? (i := 241) (by decide +kernel)⟩
theorem lw_p4 : lw_okq (⟨"HoleHouse", "greatestDimension", "()I"⟩, 10) := ⟨⟨by decide +kernel, by decide +kernel⟩, List.mem_of_getElem? (i := 15) (by decide +kernel), List.mem_of_getElem? (i := 289) (by decide +kernel), List.mem_of_getElem? (i := 290) (by decide +kernel)⟩
theorem lw_p5 : lw_okq (⟨"HoleHouse", "missingFamily", "()J"⟩, 10) := ⟨⟨by decide +kernel, by decide +kernel⟩, List.mem_of_getElem? (i := 15) (by decide +kernel), List.mem_of_getElem? (i := 298) (by decide +kernel), List.mem_of_getElem? (i := 299) (by decide +kernel)⟩
theorem lw_p6 : lw_okq (⟨"HoleHouse$Parts", "countHoles", "(IJ)V"⟩, 5) := ⟨⟨by decide +kernel, by decide +kernel⟩, List.mem_of_getElem? (i := 67) (by decide +kernel), List.mem_of_getElem? (i := 317) (by decide +kernel), List.mem_of_getElem? (i := 318) (by decide +kernel)⟩
theorem lw_p7 : lw_okq (⟨"HoleHouse$Parts", "countBorders", "(IJ)V"⟩, 5) := ⟨⟨by decide +kernel, by decide +kernel⟩, List.mem_of_getElem? (i := 67) (by decide +kernel), List.mem_of_getElem? (i := 321) (by decide +kernel), List.mem_of_getElem? (i := 322) (by decide +kernel)⟩
theorem lw_p8 : lw_okq (⟨"HoleHouse$Products", "seek", "(IJ)Z"⟩, 8) := ⟨⟨by decide +kernel, by decide +kernel⟩, List.mem_of_getElem? (i := 111) (by decide +kernel), List.mem_of_getElem? (i := 339) (by decide +kernel), List.mem_of_getElem? (i := 340) (by decide +kernel)⟩
theorem lw_p9 : lw_okq (⟨"HoleHouse$Products", "seekIn", "(JII)Z"⟩, 8) := ⟨⟨by decide +kernel, by decide +kernel⟩, List.mem_of_getElem? (i := 111) (by decide +kernel), List.mem_of_getElem? (i := 343) (by decide +kernel), List.mem_of_getElem? (i := 344) (by decide +kernel)⟩
theorem lw_p10 : lw_okq (⟨"HoleHouse$Products", "fillClosed", "([JJI)I"⟩, 8) := ⟨⟨by decide +kernel, by decide +kernel⟩, List.mem_of_getElem? (i := 111) (by decide +kernel), List.mem_of_getElem? (i := 359) (by decide +kernel), List.mem_of_getElem? (i := 360) (by decide +kernel)⟩
theorem lw_p11 : lw_okq (⟨"HoleHouse$Products", "addRises", "(JJ)V"⟩, 8) := ⟨⟨by decide +kernel, by decide +kernel⟩, List.mem_of_getElem? (i := 111) (by decide +kernel), List.mem_of_getElem? (i := 374) (by decide +kernel), List.mem_of_getElem? (i := 375) (by decide +kernel)⟩
theorem lw_p12 : lw_okq (⟨"HoleHouse$Turns", "tally", "()V"⟩, 5) := ⟨⟨by decide +kernel, by decide +kernel⟩, List.mem_of_getElem? (i := 144) (by decide +kernel), List.mem_of_getElem? (i := 393) (by decide +kernel), List.mem_of_getElem? (i := 394) (by decide +kernel)⟩
theorem lw_p13 : lw_okq (⟨"HoleHouse$Turns", "fits", "(II)Z"⟩, 5) := ⟨⟨by decide +kernel, by decide +kernel⟩, List.mem_of_getElem? (i := 144) (by decide +kernel), List.mem_of_getElem? (i := 398) (by decide +kernel), List.mem_of_getElem? (i := 399) (by decide +kernel)⟩
theorem lw_p14 : lw_okq (⟨"HoleHouse", "isPoint", "(I)Z"⟩, 10) := ⟨⟨by decide +kernel, by decide +kernel⟩, List.mem_of_getElem? (i := 15) (by decide +kernel), List.mem_of_getElem? (i := 455) (by decide +kernel), List.mem_of_getElem? (i := 456) (by decide +kernel)⟩
theorem lw_p15 : lw_okq (⟨"HoleHouse$Reader", "parseFaces", "(LHoleHouse$Row;I)I"⟩, 2) := ⟨⟨by decide +kernel, by decide +kernel⟩, List.mem_of_getElem? (i := 54) (by decide +kernel), List.mem_of_getElem? (i := 506) (by decide +kernel), List.mem_of_getElem? (i := 507) (by decide +kernel)⟩
def lw_privs_1 : List (MethodName × Nat) := [(⟨"HoleHouse", "change", "(IJ)V"⟩, 10), (⟨"HoleHouse", "isSet", "(I)Z"⟩, 10), (⟨"HoleHouse", "allPoints", "()I"⟩, 10), (⟨"HoleHouse", "isNonemptyFace", "(I)Z"⟩, 10), (⟨"HoleHouse", "greatestDimension", "()I"⟩, 10), (⟨"HoleHouse", "missingFamily", "()J"⟩, 10), (⟨"HoleHouse$Parts", "countHoles", "(IJ)V"⟩, 5), (⟨"HoleHouse$Parts", "countBorders", "(IJ)V"⟩, 5), (⟨"HoleHouse$Products", "seek", "(IJ)Z"⟩, 8), (⟨"HoleHouse$Products", "seekIn", "(JII)Z"⟩, 8), (⟨"HoleHouse$Products", "fillClosed", "([JJI)I"⟩, 8), (⟨"HoleHouse$Products", "addRises", "(JJ)V"⟩, 8), (⟨"HoleHouse$Turns", "tally", "()V"⟩, 5), (⟨"HoleHouse$Turns", "fits", "(II)Z"⟩, 5), (⟨"HoleHouse", "isPoint", "(I)Z"⟩, 10), (⟨"HoleHouse$Reader", "parseFaces", "(LHoleHouse$Row;I)I"⟩, 2)]
theorem lw_r1 : ∀ q ∈ lw_privs_1, lw_okq q := List.forall_mem_cons.mpr ⟨lw_p0, List.forall_mem_cons.mpr ⟨lw_p1, List.forall_mem_cons.mpr ⟨lw_p2, List.forall_mem_cons.mpr ⟨lw_p3, List.forall_mem_cons.mpr ⟨lw_p4, List.forall_mem_cons.mpr ⟨lw_p5, List.forall_mem_cons.mpr ⟨lw_p6, List.forall_mem_cons.mpr ⟨lw_p7, List.forall_mem_cons.mpr ⟨lw_p8, List.forall_mem_cons.mpr ⟨lw_p9, List.forall_mem_cons.mpr ⟨lw_p10, List.forall_mem_cons.mpr ⟨lw_p11, List.forall_mem_cons.mpr ⟨lw_p12, List.forall_mem_cons.mpr ⟨lw_p13, List.forall_mem_cons.mpr ⟨lw_p14, List.forall_mem_cons.mpr ⟨lw_p15, fun _ h => absurd h List.not_mem_nil⟩⟩⟩⟩⟩⟩⟩⟩⟩⟩⟩⟩⟩⟩⟩⟩
theorem lw_p16 : lw_okq (⟨"HoleHouseModel", "becomes", "(IJ)V"⟩, 27) := ⟨⟨by decide +kernel, by decide +kernel⟩, List.mem_of_getElem? (i := 543) (by decide +kernel), List.mem_of_getElem? (i := 642) (by decide +kernel), List.mem_of_getElem? (i := 643) (by decide +kernel)⟩
theorem lw_p17 : lw_okq (⟨"HoleHouseModel", "keep", "()V"⟩, 27) := ⟨⟨by decide +kernel, by decide +kernel⟩, List.mem_of_getElem? (i := 543) (by decide +kernel), List.mem_of_getElem? (i := 646) (by decide +kernel), List.mem_of_getElem? (i := 647) (by decide +kernel)⟩
theorem lw_p18 : lw_okq (⟨"HoleHouseModel", "isSet", "(I)Z"⟩, 27) := ⟨⟨by decide +kernel, by decide +kernel⟩, List.mem_of_getElem? (i := 543) (by decide +kernel), List.mem_of_getElem? (i := 654) (by decide +kernel), List.mem_of_getElem? (i := 655) (by decide +kernel)⟩
theorem lw_p19 : lw_okq (⟨"HoleHouseModel", "all", "()I"⟩, 27) := ⟨⟨by decide +kernel, by decide +kernel⟩, List.mem_of_getElem? (i := 543) (by decide +kernel), List.mem_of_getElem? (i := 658) (by decide +kernel), List.mem_of_getElem? (i := 659) (by decide +kernel)⟩
theorem lw_p20 : lw_okq (⟨"HoleHouseModel", "isFace", "(I)Z"⟩, 27) := ⟨⟨by decide +kernel, by decide +kernel⟩, List.mem_of_getElem? (i := 543) (by decide +kernel), List.mem_of_getElem? (i := 672) (by decide +kernel), List.mem_of_getElem? (i := 673) (by decide +kernel)⟩
theorem lw_p21 : lw_okq (⟨"HoleHouseModel", "spread", "(II)I"⟩, 27) := ⟨⟨by decide +kernel, by decide +kernel⟩, List.mem_of_getElem? (i := 543) (by decide +kernel), List.mem_of_getElem? (i := 684) (by decide +kernel), List.mem_of_getElem? (i := 685) (by decide +kernel)⟩
theorem lw_p22 : lw_okq (⟨"HoleHouseModel", "facesOf", "(II)J"⟩, 27) := ⟨⟨by decide +kernel, by decide +kernel⟩, List.mem_of_getElem? (i := 543) (by decide +kernel), List.mem_of_getElem? (i := 700) (by decide +kernel), List.mem_of_getElem? (i := 701) (by decide +kernel)⟩
theorem lw_p23 : lw_okq (⟨"HoleHouseModel", "isMissing", "(I)Z"⟩, 27) := ⟨⟨by decide +kernel, by decide +kernel⟩, List.mem_of_getElem? (i := 543) (by decide +kernel), List.mem_of_getElem? (i := 708) (by decide +kernel), List.mem_of_getElem? (i := 709) (by decide +kernel)⟩
theorem lw_p24 : lw_okq (⟨"HoleHouseModel", "holesOf", "(II)I"⟩, 27) := ⟨⟨by decide +kernel, by decide +kernel⟩, List.mem_of_getElem? (i := 543) (by decide +kernel), List.mem_of_getElem? (i := 716) (by decide +kernel), List.mem_of_getElem? (i := 717) (by decide +kernel)⟩
theorem lw_p25 : lw_okq (⟨"HoleHouseModel", "borders", "(II)I"⟩, 27) := ⟨⟨by decide +kernel, by decide +kernel⟩, List.mem_of_getElem? (i := 543) (by decide +kernel), List.mem_of_getElem? (i := 720) (by decide +kernel), List.mem_of_getElem? (i := 721) (by decide +kernel)⟩
theorem lw_p26 : lw_okq (⟨"HoleHouseModel", "clear", "()V"⟩, 27) := ⟨⟨by decide +kernel, by decide +kernel⟩, List.mem_of_getElem? (i := 543) (by decide +kernel), List.mem_of_getElem? (i := 724) (by decide +kernel), List.mem_of_getElem? (i := 725) (by decide +kernel)⟩
theorem lw_p27 : lw_okq (⟨"HoleHouseModel", "border", "(I)J"⟩, 27) := ⟨⟨by decide +kernel, by decide +kernel⟩, List.mem_of_getElem? (i := 543) (by decide +kernel), List.mem_of_getElem? (i := 728) (by decide +kernel), List.mem_of_getElem? (i := 729) (by decide +kernel)⟩
theorem lw_p28 : lw_okq (⟨"HoleHouseModel", "lays", "(J)Z"⟩, 27) := ⟨⟨by decide +kernel, by decide +kernel⟩, List.mem_of_getElem? (i := 543) (by decide +kernel), List.mem_of_getElem? (i := 732) (by decide +kernel), List.mem_of_getElem? (i := 733) (by decide +kernel)⟩
theorem lw_p29 : lw_okq (⟨"HoleHouseModel", "rankOf", "(IIII)I"⟩, 27) := ⟨⟨by decide +kernel, by decide +kernel⟩, List.mem_of_getElem? (i := 543) (by decide +kernel), List.mem_of_getElem? (i := 748) (by decide +kernel), List.mem_of_getElem? (i := 749) (by decide +kernel)⟩
theorem lw_p30 : lw_okq (⟨"HoleHouseModel", "closed", "(II[J)I"⟩, 27) := ⟨⟨by decide +kernel, by decide +kernel⟩, List.mem_of_getElem? (i := 543) (by decide +kernel), List.mem_of_getElem? (i := 752) (by decide +kernel), List.mem_of_getElem? (i := 753) (by decide +kernel)⟩
theorem lw_p31 : lw_okq (⟨"HoleHouseModel", "rise", "(JII)J"⟩, 27) := ⟨⟨by decide +kernel, by decide +kernel⟩, List.mem_of_getElem? (i := 543) (by decide +kernel), List.mem_of_getElem? (i := 756) (by decide +kernel), List.mem_of_getElem? (i := 757) (by decide +kernel)⟩
def lw_privs_2 : List (MethodName × Nat) := [(⟨"HoleHouseModel", "becomes", "(IJ)V"⟩, 27), (⟨"HoleHouseModel", "keep", "()V"⟩, 27), (⟨"HoleHouseModel", "isSet", "(I)Z"⟩, 27), (⟨"HoleHouseModel", "all", "()I"⟩, 27), (⟨"HoleHouseModel", "isFace", "(I)Z"⟩, 27), (⟨"HoleHouseModel", "spread", "(II)I"⟩, 27), (⟨"HoleHouseModel", "facesOf", "(II)J"⟩, 27), (⟨"HoleHouseModel", "isMissing", "(I)Z"⟩, 27), (⟨"HoleHouseModel", "holesOf", "(II)I"⟩, 27), (⟨"HoleHouseModel", "borders", "(II)I"⟩, 27), (⟨"HoleHouseModel", "clear", "()V"⟩, 27), (⟨"HoleHouseModel", "border", "(I)J"⟩, 27), (⟨"HoleHouseModel", "lays", "(J)Z"⟩, 27), (⟨"HoleHouseModel", "rankOf", "(IIII)I"⟩, 27), (⟨"HoleHouseModel", "closed", "(II[J)I"⟩, 27), (⟨"HoleHouseModel", "rise", "(JII)J"⟩, 27)]
theorem lw_r2 : ∀ q ∈ lw_privs_2, lw_okq q := List.forall_mem_cons.mpr ⟨lw_p16, List.forall_mem_cons.mpr ⟨lw_p17, List.forall_mem_cons.mpr ⟨lw_p18, List.forall_mem_cons.mpr ⟨lw_p19, List.forall_mem_cons.mpr ⟨lw_p20, List.forall_mem_cons.mpr ⟨lw_p21, List.forall_mem_cons.mpr ⟨lw_p22, List.forall_mem_cons.mpr ⟨lw_p23, List.forall_mem_cons.mpr ⟨lw_p24, List.forall_mem_cons.mpr ⟨lw_p25, List.forall_mem_cons.mpr ⟨lw_p26, List.forall_mem_cons.mpr ⟨lw_p27, List.forall_mem_cons.mpr ⟨lw_p28, List.forall_mem_cons.mpr ⟨lw_p29, List.forall_mem_cons.mpr ⟨lw_p30, List.forall_mem_cons.mpr ⟨lw_p31, fun _ h => absurd h List.not_mem_nil⟩⟩⟩⟩⟩⟩⟩⟩⟩⟩⟩⟩⟩⟩⟩⟩
theorem lw_p32 : lw_okq (⟨"HoleHouseModel", "odd", "(IJ)Z"⟩, 27) := ⟨⟨by decide +kernel, by decide +kernel⟩, List.mem_of_getElem? (i := 543) (by decide +kernel), List.mem_of_getElem? (i := 760) (by decide +kernel), List.mem_of_getElem? (i := 761) (by decide +kernel)⟩
theorem lw_p33 : lw_okq (⟨"HoleHouseModel", "product", "(JIIJII)J"⟩, 27) := ⟨⟨by decide +kernel, by decide +kernel⟩, List.mem_of_getElem? (i := 543) (by decide +kernel), List.mem_of_getElem? (i := 767) (by decide +kernel), List.mem_of_getElem? (i := 768) (by decide +kernel)⟩
theorem lw_p34 : lw_okq (⟨"HoleHouseModel", "finds", "()Z"⟩, 27) := ⟨⟨by decide +kernel, by decide +kernel⟩, List.mem_of_getElem? (i := 543) (by decide +kernel), List.mem_of_getElem? (i := 775) (by decide +kernel), List.mem_of_getElem? (i := 776) (by decide +kernel)⟩
theorem lw_p35 : lw_okq (⟨"HoleHouseModel", "seeks", "()Z"⟩, 27) := ⟨⟨by decide +kernel, by decide +kernel⟩, List.mem_of_getElem? (i := 543) (by decide +kernel), List.mem_of_getElem? (i := 779) (by decide +kernel), List.mem_of_getElem? (i := 780) (by decide +kernel)⟩
theorem lw_p36 : lw_okq (⟨"HoleHouseModel", "isPoint", "(I)Z"⟩, 27) := ⟨⟨by decide +kernel, by decide +kernel⟩, List.mem_of_getElem? (i := 543) (by decide +kernel), List.mem_of_getElem? (i := 787) (by decide +kernel), List.mem_of_getElem? (i := 788) (by decide +kernel)⟩
theorem lw_p37 : lw_okq (⟨"HoleHouseModel", "turns", "(II)I"⟩, 27) := ⟨⟨by decide +kernel, by decide +kernel⟩, List.mem_of_getElem? (i := 543) (by decide +kernel), List.mem_of_getElem? (i := 791) (by decide +kernel), List.mem_of_getElem? (i := 792) (by decide +kernel)⟩
theorem lw_p38 : lw_okq (⟨"HoleHouseModel", "keeps", "()Z"⟩, 27) := ⟨⟨by decide +kernel, by decide +kernel⟩, List.mem_of_getElem? (i := 543) (by decide +kernel), List.mem_of_getElem? (i := 795) (by decide +kernel), List.mem_of_getElem? (i := 796) (by decide +kernel)⟩
theorem lw_p39 : lw_okq (⟨"HoleHouseModel", "nextOrder", "()Z"⟩, 27) := ⟨⟨by decide +kernel, by decide +kernel⟩, List.mem_of_getElem? (i := 543) (by decide +kernel), List.mem_of_getElem? (i := 799) (by decide +kernel), List.mem_of_getElem? (i := 800) (by decide +kernel)⟩
theorem lw_p40 : lw_okq (⟨"HoleHouseModel", "missingMany", "()I"⟩, 27) := ⟨⟨by decide +kernel, by decide +kernel⟩, List.mem_of_getElem? (i := 543) (by decide +kernel), List.mem_of_getElem? (i := 807) (by decide +kernel), List.mem_of_getElem? (i := 808) (by decide +kernel)⟩
theorem lw_p41 : lw_okq (⟨"HoleHouseModel", "isFlag", "()Z"⟩, 27) := ⟨⟨by decide +kernel, by decide +kernel⟩, List.mem_of_getElem? (i := 543) (by decide +kernel), List.mem_of_getElem? (i := 811) (by decide +kernel), List.mem_of_getElem? (i := 812) (by decide +kernel)⟩
theorem lw_p42 : lw_okq (⟨"HoleHouseModel", "classes", "()I"⟩, 27) := ⟨⟨by decide +kernel, by decide +kernel⟩, List.mem_of_getElem? (i := 543) (by decide +kernel), List.mem_of_getElem? (i := 815) (by decide +kernel), List.mem_of_getElem? (i := 816) (by decide +kernel)⟩
theorem lw_p43 : lw_okq (⟨"HoleHouseModel", "reads", "()I"⟩, 27) := ⟨⟨by decide +kernel, by decide +kernel⟩, List.mem_of_getElem? (i := 543) (by decide +kernel), List.mem_of_getElem? (i := 831) (by decide +kernel), List.mem_of_getElem? (i := 832) (by decide +kernel)⟩
theorem lw_p44 : lw_okq (⟨"HoleHouseModel", "blanks", "(I)I"⟩, 27) := ⟨⟨by decide +kernel, by decide +kernel⟩, List.mem_of_getElem? (i := 543) (by decide +kernel), List.mem_of_getElem? (i := 835) (by decide +kernel), List.mem_of_getElem? (i := 836) (by decide +kernel)⟩
theorem lw_p45 : lw_okq (⟨"HoleHouseModel", "see", "(I)I"⟩, 27) := ⟨⟨by decide +kernel, by decide +kernel⟩, List.mem_of_getElem? (i := 543) (by decide +kernel), List.mem_of_getElem? (i := 839) (by decide +kernel), List.mem_of_getElem? (i := 840) (by decide +kernel)⟩
theorem lw_p46 : lw_okq (⟨"HoleHouseModel", "puts", "(I)V"⟩, 27) := ⟨⟨by decide +kernel, by decide +kernel⟩, List.mem_of_getElem? (i := 543) (by decide +kernel), List.mem_of_getElem? (i := 851) (by decide +kernel), List.mem_of_getElem? (i := 852) (by decide +kernel)⟩
theorem lw_p47 : lw_okq (⟨"HoleHouseModel", "isGreatest", "(I)Z"⟩, 27) := ⟨⟨by decide +kernel, by decide +kernel⟩, List.mem_of_getElem? (i := 543) (by decide +kernel), List.mem_of_getElem? (i := 855) (by decide +kernel), List.mem_of_getElem? (i := 856) (by decide +kernel)⟩
def lw_privs_3 : List (MethodName × Nat) := [(⟨"HoleHouseModel", "odd", "(IJ)Z"⟩, 27), (⟨"HoleHouseModel", "product", "(JIIJII)J"⟩, 27), (⟨"HoleHouseModel", "finds", "()Z"⟩, 27), (⟨"HoleHouseModel", "seeks", "()Z"⟩, 27), (⟨"HoleHouseModel", "isPoint", "(I)Z"⟩, 27), (⟨"HoleHouseModel", "turns", "(II)I"⟩, 27), (⟨"HoleHouseModel", "keeps", "()Z"⟩, 27), (⟨"HoleHouseModel", "nextOrder", "()Z"⟩, 27), (⟨"HoleHouseModel", "missingMany", "()I"⟩, 27), (⟨"HoleHouseModel", "isFlag", "()Z"⟩, 27), (⟨"HoleHouseModel", "classes", "()I"⟩, 27), (⟨"HoleHouseModel", "reads", "()I"⟩, 27), (⟨"HoleHouseModel", "blanks", "(I)I"⟩, 27), (⟨"HoleHouseModel", "see", "(I)I"⟩, 27), (⟨"HoleHouseModel", "puts", "(I)V"⟩, 27), (⟨"HoleHouseModel", "isGreatest", "(I)Z"⟩, 27)]
theorem lw_r3 : ∀ q ∈ lw_privs_3, lw_okq q := List.forall_mem_cons.mpr ⟨lw_p32, List.forall_mem_cons.mpr ⟨lw_p33, List.forall_mem_cons.mpr ⟨lw_p34, List.forall_mem_cons.mpr ⟨lw_p35, List.forall_mem_cons.mpr ⟨lw_p36, List.forall_mem_cons.mpr ⟨lw_p37, List.forall_mem_cons.mpr ⟨lw_p38, List.forall_mem_cons.mpr ⟨lw_p39, List.forall_mem_cons.mpr ⟨lw_p40, List.forall_mem_cons.mpr ⟨lw_p41, List.forall_mem_cons.mpr ⟨lw_p42, List.forall_mem_cons.mpr ⟨lw_p43, List.forall_mem_cons.mpr ⟨lw_p44, List.forall_mem_cons.mpr ⟨lw_p45, List.forall_mem_cons.mpr ⟨lw_p46, List.forall_mem_cons.mpr ⟨lw_p47, fun _ h => absurd h List.not_mem_nil⟩⟩⟩⟩⟩⟩⟩⟩⟩⟩⟩⟩⟩⟩⟩⟩
def lw_privs : List (MethodName × Nat) := lw_privs_1 ++ (lw_privs_2 ++ (lw_privs_3))
def lw_tbl : List Cond := k2_sels lw_privs ++ tables_1
theorem lw_privs_ok : ∀ q ∈ lw_privs, lw_okq q := by
  show ∀ q ∈ lw_privs_1 ++ (lw_privs_2 ++ (lw_privs_3)), lw_okq q
  exact List.forall_mem_append.mpr ⟨lw_r1, List.forall_mem_append.mpr ⟨lw_r2, lw_r3⟩⟩
-- ===== end of PART A; then your names; then what follows =====
end
section
/-! ===== BEGIN words of one list among another's, by their places ===== -/
theorem goodIn_r {big : List Cond} (ws : List Cond) (ps : List Nat) (hp : ws = ps.filterMap (fun i => big[i]?)) (h : ws.all goodWord = true) : GoodIn big ws := by
  intro w hw
  have h1 := List.all_eq_true.mp h w hw
  rw [hp] at hw
  obtain ⟨i, -, hi⟩ := List.mem_filterMap.mp hw
  have hm : w ∈ big := by first | exact List.mem_of_getElem? hi | exact List.getElem?_mem hi
  exact ⟨hm, good_of_word h1⟩
theorem goodIn_app {big a b : List Cond} (ha : GoodIn big a) (hb : GoodIn big b) : GoodIn big (a ++ b) := fun w h => (List.mem_append.mp h).elim (ha w) (hb w)
theorem goodIn_ca {big a b : List Cond} {c : Cond} (ha : GoodIn big (c :: a)) (hb : GoodIn big b) : GoodIn big (c :: (a ++ b)) := fun w h => (List.mem_cons.mp h).elim (fun e => ha w (List.mem_cons.mpr (Or.inl e))) (fun h => (List.mem_append.mp h).elim (fun h => ha w (List.mem_cons.mpr (Or.inr h))) (hb w))
theorem goodIn_sub {big ws : List Cond} (hm : ∀ w ∈ ws, w ∈ big) (h : ws.all goodWord = true) : GoodIn big ws := fun w hw => ⟨hm w hw, good_of_word (List.all_eq_true.mp h w hw)⟩
/-! ===== END ===== -/

/-! ===== BEGIN printed: names, fields, word lists, decode rows ===== -/
def RX0 : String := "HoleHouse$Basis"
def TX0 : u_T := fun k => match k with
  | 0 => ("HoleHouse$Basis", "rows", "[J", true)
  | 1 => ("HoleHouse$Basis", "leads", "[J", true)
  | 2 => ("HoleHouse$Basis", "leading", "J", false)
  | 3 => ("HoleHouse$Basis", "rest", "J", false)
  | _ => ("HoleHouse$Basis", "count", "I", false)
def tyX0 : Nat → FieldType := fun k => match k with
  | 0 => .array .long
  | 1 => .array .long
  | 2 => .long
  | 3 => .long
  | _ => .int
abbrev wsX00 : List Cond := u_ws RX0 TX0 5
theorem nmX0 : ∀ a, a < 5 → ∀ b, b < 5 → a ≠ b → (TX0 a).2.1 ≠ (TX0 b).2.1 := by decide +kernel
theorem tyX0_ok : ∀ k, k < 5 → parseFieldDescriptor (TX0 k).2.2.1 = some (tyX0 k) := by decide +kernel
abbrev cX0_init : ByteArray := prog_2_method_1_code
def yX0_init : MethodName := ⟨RX0, "<init>", "()V"⟩
abbrev cX0_clear : ByteArray := prog_2_method_2_code
def yX0_clear : MethodName := ⟨RX0, "clear", "(J)V"⟩
abbrev cX0_add : ByteArray := prog_2_method_3_code
def yX0_add : MethodName := ⟨RX0, "add", "(J)Z"⟩
abbrev cX0_remainder : ByteArray := prog_2_method_4_code
def yX0_remainder : MethodName := ⟨RX0, "remainder", "()J"⟩
def RX1 : String := "HoleHouse$History"
def TX1 : u_T := fun k => match k with
  | 0 => ("HoleHouse$History", "keptPoints", "[I", true)
  | 1 => ("HoleHouse$History", "keptFamilies", "[J", true)
  | _ => ("HoleHouse$History", "count", "I", false)
def tyX1 : Nat → FieldType := fun k => match k with
  | 0 => .array .int
  | 1 => .array .long
  | _ => .int
abbrev wsX10 : List Cond := u_ws RX1 TX1 3
theorem nmX1 : ∀ a, a < 3 → ∀ b, b < 3 → a ≠ b → (TX1 a).2.1 ≠ (TX1 b).2.1 := by decide +kernel
theorem tyX1_ok : ∀ k, k < 3 → parseFieldDescriptor (TX1 k).2.2.1 = some (tyX1 k) := by decide +kernel
abbrev cX1_init : ByteArray := prog_3_method_1_code
def yX1_init : MethodName := ⟨RX1, "<init>", "()V"⟩
abbrev cX1_keep : ByteArray := prog_3_method_2_code
def yX1_keep : MethodName := ⟨RX1, "keep", "(IJ)V"⟩
abbrev cX1_drop : ByteArray := prog_3_method_3_code
def yX1_drop : MethodName := ⟨RX1, "drop", "()Z"⟩
abbrev cX1_droppedPoints : ByteArray := prog_3_method_4_code
def yX1_droppedPoints : MethodName := ⟨RX1, "droppedPoints", "()I"⟩
abbrev cX1_droppedFamily : ByteArray := prog_3_method_5_code
def yX1_droppedFamily : MethodName := ⟨RX1, "droppedFamily", "()J"⟩
def RX2 : String := "HoleHouse$Parts"
def TX2 : u_T := fun k => match k with
  | 0 => ("HoleHouse$Parts", "counts", "[I", true)
  | 1 => ("HoleHouse$Parts", "borders", "[I", true)
  | 2 => ("HoleHouse$Parts", "basis", "LHoleHouse$Basis;", true)
  | 3 => ("HoleHouse$Parts", "knownPoints", "I", false)
  | _ => ("HoleHouse$Parts", "knownFamily", "J", false)
def tyX2 : Nat → FieldType := fun k => match k with
  | 0 => .array .int
  | 1 => .array .int
  | 2 => .object "HoleHouse$Basis"
  | 3 => .int
  | _ => .long
abbrev wsX20 : List Cond := u_ws RX2 TX2 5
theorem nmX2 : ∀ a, a < 5 → ∀ b, b < 5 → a ≠ b → (TX2 a).2.1 ≠ (TX2 b).2.1 := by decide +kernel
theorem tyX2_ok : ∀ k, k < 5 → parseFieldDescriptor (TX2 k).2.2.1 = some (tyX2 k) := by decide +kernel
abbrev cX2_init : ByteArray := prog_4_method_1_code
def yX2_init : MethodName := ⟨RX2, "<init>", "()V"⟩
abbrev cX2_know : ByteArray := prog_4_method_2_code
def yX2_know : MethodName := ⟨RX2, "know", "(IJ)V"⟩
abbrev cX2_isDimension : ByteArray := prog_4_method_3_code
def yX2_isDimension : MethodName := ⟨RX2, "isDimension", "(I)Z"⟩
abbrev cX2_holesOf : ByteArray := prog_4_method_4_code
def yX2_holesOf : MethodName := ⟨RX2, "holesOf", "(II)I"⟩
abbrev cX2_countHoles : ByteArray := prog_4_method_5_code
def yX2_countHoles : MethodName := ⟨RX2, "countHoles", "(IJ)V"⟩
abbrev cX2_countBorders : ByteArray := prog_4_method_6_code
def yX2_countBorders : MethodName := ⟨RX2, "countBorders", "(IJ)V"⟩
def RX3 : String := "HoleHouse$Products"
def TX3 : u_T := fun k => match k with
  | 0 => ("HoleHouse$Products", "parts", "LHoleHouse$Parts;", true)
  | 1 => ("HoleHouse$Products", "basis", "LHoleHouse$Basis;", true)
  | 2 => ("HoleHouse$Products", "left", "[J", true)
  | 3 => ("HoleHouse$Products", "right", "[J", true)
  | 4 => ("HoleHouse$Products", "earliest", "[I", true)
  | 5 => ("HoleHouse$Products", "plain", "Z", false)
  | 6 => ("HoleHouse$Products", "knownPoints", "I", false)
  | _ => ("HoleHouse$Products", "knownFamily", "J", false)
def tyX3 : Nat → FieldType := fun k => match k with
  | 0 => .object "HoleHouse$Parts"
  | 1 => .object "HoleHouse$Basis"
  | 2 => .array .long
  | 3 => .array .long
  | 4 => .array .int
  | 5 => .boolean
  | 6 => .int
  | _ => .long
abbrev wsX30 : List Cond := u_ws RX3 TX3 8
theorem nmX3 : ∀ a, a < 8 → ∀ b, b < 8 → a ≠ b → (TX3 a).2.1 ≠ (TX3 b).2.1 := by decide +kernel
theorem tyX3_ok : ∀ k, k < 8 → parseFieldDescriptor (TX3 k).2.2.1 = some (tyX3 k) := by decide +kernel
abbrev cX3_init : ByteArray := prog_5_method_1_code
def yX3_init : MethodName := ⟨RX3, "<init>", "(LHoleHouse$Parts;)V"⟩
abbrev cX3_know : ByteArray := prog_5_method_2_code
def yX3_know : MethodName := ⟨RX3, "know", "(IJ)V"⟩
abbrev cX3_arePlain : ByteArray := prog_5_method_3_code
def yX3_arePlain : MethodName := ⟨RX3, "arePlain", "()Z"⟩
abbrev cX3_told : ByteArray := prog_5_method_4_code
def yX3_told : MethodName := ⟨RX3, "told", "(I)I"⟩
abbrev cX3_seek : ByteArray := prog_5_method_5_code
def yX3_seek : MethodName := ⟨RX3, "seek", "(IJ)Z"⟩
abbrev cX3_seekIn : ByteArray := prog_5_method_6_code
def yX3_seekIn : MethodName := ⟨RX3, "seekIn", "(JII)Z"⟩
abbrev cX3_measure : ByteArray := prog_5_method_7_code
def yX3_measure : MethodName := ⟨RX3, "measure", "(JIIII)I"⟩
abbrev cX3_fillClosed : ByteArray := prog_5_method_8_code
def yX3_fillClosed : MethodName := ⟨RX3, "fillClosed", "([JJI)I"⟩
abbrev cX3_addRises : ByteArray := prog_5_method_9_code
def yX3_addRises : MethodName := ⟨RX3, "addRises", "(JJ)V"⟩
abbrev cX3_multiply : ByteArray := prog_5_method_10_code
def yX3_multiply : MethodName := ⟨RX3, "multiply", "(JJIJI)J"⟩
def RX4 : String := "HoleHouse$Reader"
def TX4 : u_T := fun k => match k with
  | 0 => ("HoleHouse$Reader", "told", "I", false)
  | _ => ("HoleHouse$Reader", "toldSets", "J", false)
def tyX4 : Nat → FieldType := fun k => match k with
  | 0 => .int
  | _ => .long
abbrev wsX40 : List Cond := u_ws RX4 TX4 2
theorem nmX4 : ∀ a, a < 2 → ∀ b, b < 2 → a ≠ b → (TX4 a).2.1 ≠ (TX4 b).2.1 := by decide +kernel
theorem tyX4_ok : ∀ k, k < 2 → parseFieldDescriptor (TX4 k).2.2.1 = some (tyX4 k) := by decide +kernel
abbrev cX4_init : ByteArray := prog_6_method_1_code
def yX4_init : MethodName := ⟨RX4, "<init>", "()V"⟩
abbrev cX4_toldPoints : ByteArray := prog_6_method_2_code
def yX4_toldPoints : MethodName := ⟨RX4, "toldPoints", "()I"⟩
abbrev cX4_toldFamily : ByteArray := prog_6_method_3_code
def yX4_toldFamily : MethodName := ⟨RX4, "toldFamily", "()J"⟩
abbrev cX4_parse : ByteArray := prog_6_method_4_code
def yX4_parse : MethodName := ⟨RX4, "parse", "(LHoleHouse$Row;)I"⟩
abbrev cX4_parseFaces : ByteArray := prog_6_method_5_code
def yX4_parseFaces : MethodName := ⟨RX4, "parseFaces", "(LHoleHouse$Row;I)I"⟩
abbrev cX4_behindBlanks : ByteArray := prog_6_method_6_code
def yX4_behindBlanks : MethodName := ⟨RX4, "behindBlanks", "(LHoleHouse$Row;I)I"⟩
abbrev cX4_isBlank : ByteArray := prog_6_method_7_code
def yX4_isBlank : MethodName := ⟨RX4, "isBlank", "(I)Z"⟩
def RX5 : String := "HoleHouse$Row"
def TX5 : u_T := fun k => match k with
  | 0 => ("HoleHouse$Row", "bytes", "[I", true)
  | _ => ("HoleHouse$Row", "length", "I", false)
def tyX5 : Nat → FieldType := fun k => match k with
  | 0 => .array .int
  | _ => .int
abbrev wsX50 : List Cond := u_ws RX5 TX5 2
theorem nmX5 : ∀ a, a < 2 → ∀ b, b < 2 → a ≠ b → (TX5 a).2.1 ≠ (TX5 b).2.1 := by decide +kernel
theorem tyX5_ok : ∀ k, k < 2 → parseFieldDescriptor (TX5 k).2.2.1 = some (tyX5 k) := by decide +kernel
abbrev cX5_init : ByteArray := prog_7_method_1_code
def yX5_init : MethodName := ⟨RX5, "<init>", "()V"⟩
abbrev cX5_size : ByteArray := prog_7_method_2_code
def yX5_size : MethodName := ⟨RX5, "size", "()I"⟩
abbrev cX5_at : ByteArray := prog_7_method_3_code
def yX5_at : MethodName := ⟨RX5, "at", "(I)I"⟩
abbrev cX5_add : ByteArray := prog_7_method_4_code
def yX5_add : MethodName := ⟨RX5, "add", "(I)V"⟩
abbrev cX5_addNumber : ByteArray := prog_7_method_5_code
def yX5_addNumber : MethodName := ⟨RX5, "addNumber", "(I)V"⟩
abbrev cX5_addDigitsOf : ByteArray := prog_7_method_6_code
def yX5_addDigitsOf : MethodName := ⟨RX5, "addDigitsOf", "(I)V"⟩
abbrev cX5_shorten : ByteArray := prog_7_method_7_code
def yX5_shorten : MethodName := ⟨RX5, "shorten", "(I)V"⟩
def RX6 : String := "HoleHouse$Sets"
def TX6 : u_T := fun k => match k with
  | _ => ("", "", "", false)
def tyX6 : Nat → FieldType := fun k => match k with
  | _ => .int
abbrev wsX60 : List Cond := u_ws RX6 TX6 0
theorem nmX6 : ∀ a, a < 0 → ∀ b, b < 0 → a ≠ b → (TX6 a).2.1 ≠ (TX6 b).2.1 := by decide +kernel
theorem tyX6_ok : ∀ k, k < 0 → parseFieldDescriptor (TX6 k).2.2.1 = some (tyX6 k) := by decide +kernel
abbrev cX6_holds : ByteArray := prog_8_method_2_code
def yX6_holds : MethodName := ⟨RX6, "holds", "(JI)Z"⟩
abbrev cX6_hasPoint : ByteArray := prog_8_method_3_code
def yX6_hasPoint : MethodName := ⟨RX6, "hasPoint", "(II)Z"⟩
abbrev cX6_ofSize : ByteArray := prog_8_method_4_code
def yX6_ofSize : MethodName := ⟨RX6, "ofSize", "(I)J"⟩
abbrev cX6_inside : ByteArray := prog_8_method_5_code
def yX6_inside : MethodName := ⟨RX6, "inside", "(I)J"⟩
abbrev cX6_around : ByteArray := prog_8_method_6_code
def yX6_around : MethodName := ⟨RX6, "around", "(I)J"⟩
abbrev cX6_below : ByteArray := prog_8_method_7_code
def yX6_below : MethodName := ⟨RX6, "below", "(I)J"⟩
abbrev cX6_above : ByteArray := prog_8_method_8_code
def yX6_above : MethodName := ⟨RX6, "above", "(I)J"⟩
abbrev cX6_spread : ByteArray := prog_8_method_9_code
def yX6_spread : MethodName := ⟨RX6, "spread", "(II)I"⟩
def RX7 : String := "HoleHouse$Turns"
def TX7 : u_T := fun k => match k with
  | 0 => ("HoleHouse$Turns", "images", "[I", true)
  | 1 => ("HoleHouse$Turns", "reached", "[I", true)
  | 2 => ("HoleHouse$Turns", "knownPoints", "I", false)
  | 3 => ("HoleHouse$Turns", "knownFamily", "J", false)
  | _ => ("HoleHouse$Turns", "count", "I", false)
def tyX7 : Nat → FieldType := fun k => match k with
  | 0 => .array .int
  | 1 => .array .int
  | 2 => .int
  | 3 => .long
  | _ => .int
abbrev wsX70 : List Cond := u_ws RX7 TX7 5
theorem nmX7 : ∀ a, a < 5 → ∀ b, b < 5 → a ≠ b → (TX7 a).2.1 ≠ (TX7 b).2.1 := by decide +kernel
theorem tyX7_ok : ∀ k, k < 5 → parseFieldDescriptor (TX7 k).2.2.1 = some (tyX7 k) := by decide +kernel
abbrev cX7_init : ByteArray := prog_9_method_1_code
def yX7_init : MethodName := ⟨RX7, "<init>", "()V"⟩
abbrev cX7_know : ByteArray := prog_9_method_2_code
def yX7_know : MethodName := ⟨RX7, "know", "(IJ)V"⟩
abbrev cX7_howMany : ByteArray := prog_9_method_3_code
def yX7_howMany : MethodName := ⟨RX7, "howMany", "()I"⟩
abbrev cX7_bring : ByteArray := prog_9_method_4_code
def yX7_bring : MethodName := ⟨RX7, "bring", "(II)Z"⟩
abbrev cX7_classes : ByteArray := prog_9_method_5_code
def yX7_classes : MethodName := ⟨RX7, "classes", "()I"⟩
abbrev cX7_place : ByteArray := prog_9_method_6_code
def yX7_place : MethodName := ⟨RX7, "place", "(LHoleHouse$Turns;II)V"⟩
abbrev cX7_fits : ByteArray := prog_9_method_7_code
def yX7_fits : MethodName := ⟨RX7, "fits", "(II)Z"⟩
abbrev cX7_tally : ByteArray := prog_9_method_8_code
def yX7_tally : MethodName := ⟨RX7, "tally", "()V"⟩
def RX8 : String := "HoleHouse"
def TX8 : u_T := fun k => match k with
  | 0 => ("HoleHouse", "history", "LHoleHouse$History;", true)
  | 1 => ("HoleHouse", "tape", "LHoleHouse$Row;", true)
  | 2 => ("HoleHouse", "output", "LHoleHouse$Row;", true)
  | 3 => ("HoleHouse", "reader", "LHoleHouse$Reader;", true)
  | 4 => ("HoleHouse", "parts", "LHoleHouse$Parts;", true)
  | 5 => ("HoleHouse", "products", "LHoleHouse$Products;", true)
  | 6 => ("HoleHouse", "turns", "LHoleHouse$Turns;", true)
  | 7 => ("HoleHouse", "points", "I", false)
  | 8 => ("HoleHouse", "family", "J", false)
  | _ => ("HoleHouse", "faultPlace", "I", false)
def tyX8 : Nat → FieldType := fun k => match k with
  | 0 => .object "HoleHouse$History"
  | 1 => .object "HoleHouse$Row"
  | 2 => .object "HoleHouse$Row"
  | 3 => .object "HoleHouse$Reader"
  | 4 => .object "HoleHouse$Parts"
  | 5 => .object "HoleHouse$Products"
  | 6 => .object "HoleHouse$Turns"
  | 7 => .int
  | 8 => .long
  | _ => .int
abbrev wsX80 : List Cond := u_ws RX8 TX8 10
theorem nmX8 : ∀ a, a < 10 → ∀ b, b < 10 → a ≠ b → (TX8 a).2.1 ≠ (TX8 b).2.1 := by decide +kernel
theorem tyX8_ok : ∀ k, k < 10 → parseFieldDescriptor (TX8 k).2.2.1 = some (tyX8 k) := by decide +kernel
abbrev cX8_init : ByteArray := prog_1_method_1_code
def yX8_init : MethodName := ⟨RX8, "<init>", "()V"⟩
abbrev cX8_points : ByteArray := prog_1_method_2_code
def yX8_points : MethodName := ⟨RX8, "points", "(I)Z"⟩
abbrev cX8_face : ByteArray := prog_1_method_3_code
def yX8_face : MethodName := ⟨RX8, "face", "(I)I"⟩
abbrev cX8_cut : ByteArray := prog_1_method_4_code
def yX8_cut : MethodName := ⟨RX8, "cut", "(I)I"⟩
abbrev cX8_link : ByteArray := prog_1_method_5_code
def yX8_link : MethodName := ⟨RX8, "link", "(I)I"⟩
abbrev cX8_dual : ByteArray := prog_1_method_6_code
def yX8_dual : MethodName := ⟨RX8, "dual", "()Z"⟩
abbrev cX8_undo : ByteArray := prog_1_method_7_code
def yX8_undo : MethodName := ⟨RX8, "undo", "()Z"⟩
abbrev cX8_look : ByteArray := prog_1_method_8_code
def yX8_look : MethodName := ⟨RX8, "look", "(I)I"⟩
abbrev cX8_has : ByteArray := prog_1_method_9_code
def yX8_has : MethodName := ⟨RX8, "has", "(I)I"⟩
abbrev cX8_faces : ByteArray := prog_1_method_10_code
def yX8_faces : MethodName := ⟨RX8, "faces", "(I)I"⟩
abbrev cX8_missing : ByteArray := prog_1_method_11_code
def yX8_missing : MethodName := ⟨RX8, "missing", "(I)I"⟩
abbrev cX8_holes : ByteArray := prog_1_method_12_code
def yX8_holes : MethodName := ⟨RX8, "holes", "(II)I"⟩
abbrev cX8_space : ByteArray := prog_1_method_13_code
def yX8_space : MethodName := ⟨RX8, "space", "(II)I"⟩
abbrev cX8_tower : ByteArray := prog_1_method_14_code
def yX8_tower : MethodName := ⟨RX8, "tower", "(II)I"⟩
abbrev cX8_rank : ByteArray := prog_1_method_15_code
def yX8_rank : MethodName := ⟨RX8, "rank", "(IIII)I"⟩
abbrev cX8_first : ByteArray := prog_1_method_16_code
def yX8_first : MethodName := ⟨RX8, "first", "(I)I"⟩
abbrev cX8_alike : ByteArray := prog_1_method_17_code
def yX8_alike : MethodName := ⟨RX8, "alike", "(II)I"⟩
abbrev cX8_feed : ByteArray := prog_1_method_18_code
def yX8_feed : MethodName := ⟨RX8, "feed", "(IIIII)I"⟩
abbrev cX8_end : ByteArray := prog_1_method_19_code
def yX8_end : MethodName := ⟨RX8, "end", "(I)Z"⟩
abbrev cX8_read : ByteArray := prog_1_method_20_code
def yX8_read : MethodName := ⟨RX8, "read", "()I"⟩
abbrev cX8_fault : ByteArray := prog_1_method_21_code
def yX8_fault : MethodName := ⟨RX8, "fault", "()I"⟩
abbrev cX8_write : ByteArray := prog_1_method_22_code
def yX8_write : MethodName := ⟨RX8, "write", "()I"⟩
abbrev cX8_out : ByteArray := prog_1_method_23_code
def yX8_out : MethodName := ⟨RX8, "out", "(I)I"⟩
abbrev cX8_take : ByteArray := prog_1_method_24_code
def yX8_take : MethodName := ⟨RX8, "take", "()I"⟩
abbrev cX8_change : ByteArray := prog_1_method_25_code
def yX8_change : MethodName := ⟨RX8, "change", "(IJ)V"⟩
abbrev cX8_allPoints : ByteArray := prog_1_method_26_code
def yX8_allPoints : MethodName := ⟨RX8, "allPoints", "()I"⟩
abbrev cX8_isSet : ByteArray := prog_1_method_27_code
def yX8_isSet : MethodName := ⟨RX8, "isSet", "(I)Z"⟩
abbrev cX8_isNonemptyFace : ByteArray := prog_1_method_28_code
def yX8_isNonemptyFace : MethodName := ⟨RX8, "isNonemptyFace", "(I)Z"⟩
abbrev cX8_isPoint : ByteArray := prog_1_method_29_code
def yX8_isPoint : MethodName := ⟨RX8, "isPoint", "(I)Z"⟩
abbrev cX8_asNumber : ByteArray := prog_1_method_30_code
def yX8_asNumber : MethodName := ⟨RX8, "asNumber", "(Z)I"⟩
abbrev cX8_greatestDimension : ByteArray := prog_1_method_31_code
def yX8_greatestDimension : MethodName := ⟨RX8, "greatestDimension", "()I"⟩
abbrev cX8_missingFamily : ByteArray := prog_1_method_32_code
def yX8_missingFamily : MethodName := ⟨RX8, "missingFamily", "()J"⟩
def RX9 : String := "HoleHouseModel"
def TX9 : u_T := fun k => match k with
  | 0 => ("HoleHouseModel", "points", "I", false)
  | 1 => ("HoleHouseModel", "faces", "J", false)
  | 2 => ("HoleHouseModel", "kept", "I", false)
  | 3 => ("HoleHouseModel", "pointsHad", "[I", true)
  | 4 => ("HoleHouseModel", "facesHad", "[J", true)
  | 5 => ("HoleHouseModel", "base", "[J", true)
  | 6 => ("HoleHouseModel", "rises", "[J", true)
  | 7 => ("HoleHouseModel", "marks", "[J", true)
  | 8 => ("HoleHouseModel", "closedJ", "[J", true)
  | 9 => ("HoleHouseModel", "closedL", "[J", true)
  | 10 => ("HoleHouseModel", "firstJ", "I", false)
  | 11 => ("HoleHouseModel", "firstL", "I", false)
  | 12 => ("HoleHouseModel", "firstA", "I", false)
  | 13 => ("HoleHouseModel", "firstB", "I", false)
  | 14 => ("HoleHouseModel", "firstRank", "I", false)
  | 15 => ("HoleHouseModel", "table", "[I", true)
  | 16 => ("HoleHouseModel", "askedFaces", "J", false)
  | 17 => ("HoleHouseModel", "askedPoints", "I", false)
  | 18 => ("HoleHouseModel", "hasFirst", "Z", false)
  | 19 => ("HoleHouseModel", "order", "[I", true)
  | 20 => ("HoleHouseModel", "tape", "[I", true)
  | 21 => ("HoleHouseModel", "out", "[I", true)
  | 22 => ("HoleHouseModel", "taped", "I", false)
  | 23 => ("HoleHouseModel", "outs", "I", false)
  | 24 => ("HoleHouseModel", "wrong", "I", false)
  | 25 => ("HoleHouseModel", "readFaces", "J", false)
  | _ => ("HoleHouseModel", "readPoints", "I", false)
def tyX9 : Nat → FieldType := fun k => match k with
  | 0 => .int
  | 1 => .long
  | 2 => .int
  | 3 => .array .int
  | 4 => .array .long
  | 5 => .array .long
  | 6 => .array .long
  | 7 => .array .long
  | 8 => .array .long
  | 9 => .array .long
  | 10 => .int
  | 11 => .int
  | 12 => .int
  | 13 => .int
  | 14 => .int
  | 15 => .array .int
  | 16 => .long
  | 17 => .int
  | 18 => .boolean
  | 19 => .array .int
  | 20 => .array .int
  | 21 => .array .int
  | 22 => .int
  | 23 => .int
  | 24 => .int
  | 25 => .long
  | _ => .int
abbrev wsX90 : List Cond := u_ws RX9 TX9 27
theorem nmX9 : ∀ a, a < 27 → ∀ b, b < 27 → a ≠ b → (TX9 a).2.1 ≠ (TX9 b).2.1 := by decide +kernel
theorem tyX9_ok : ∀ k, k < 27 → parseFieldDescriptor (TX9 k).2.2.1 = some (tyX9 k) := by decide +kernel
abbrev cX9_init : ByteArray := prog_11_method_1_code
def yX9_init : MethodName := ⟨RX9, "<init>", "()V"⟩
abbrev cX9_isIn : ByteArray := prog_11_method_2_code
def yX9_isIn : MethodName := ⟨RX9, "isIn", "(III)Z"⟩
abbrev cX9_all : ByteArray := prog_11_method_3_code
def yX9_all : MethodName := ⟨RX9, "all", "()I"⟩
abbrev cX9_isSet : ByteArray := prog_11_method_4_code
def yX9_isSet : MethodName := ⟨RX9, "isSet", "(I)Z"⟩
abbrev cX9_isFace : ByteArray := prog_11_method_5_code
def yX9_isFace : MethodName := ⟨RX9, "isFace", "(I)Z"⟩
abbrev cX9_size : ByteArray := prog_11_method_6_code
def yX9_size : MethodName := ⟨RX9, "size", "(I)I"⟩
abbrev cX9_keep : ByteArray := prog_11_method_7_code
def yX9_keep : MethodName := ⟨RX9, "keep", "()V"⟩
abbrev cX9_becomes : ByteArray := prog_11_method_8_code
def yX9_becomes : MethodName := ⟨RX9, "becomes", "(IJ)V"⟩
abbrev cX9_undo : ByteArray := prog_11_method_9_code
def yX9_undo : MethodName := ⟨RX9, "undo", "()Z"⟩
abbrev cX9_points : ByteArray := prog_11_method_10_code
def yX9_points : MethodName := ⟨RX9, "points", "(I)Z"⟩
abbrev cX9_within : ByteArray := prog_11_method_11_code
def yX9_within : MethodName := ⟨RX9, "within", "(I)J"⟩
abbrev cX9_many : ByteArray := prog_11_method_12_code
def yX9_many : MethodName := ⟨RX9, "many", "(J)I"⟩
abbrev cX9_face : ByteArray := prog_11_method_13_code
def yX9_face : MethodName := ⟨RX9, "face", "(I)I"⟩
abbrev cX9_cut : ByteArray := prog_11_method_14_code
def yX9_cut : MethodName := ⟨RX9, "cut", "(I)I"⟩
abbrev cX9_link : ByteArray := prog_11_method_15_code
def yX9_link : MethodName := ⟨RX9, "link", "(I)I"⟩
abbrev cX9_spread : ByteArray := prog_11_method_16_code
def yX9_spread : MethodName := ⟨RX9, "spread", "(II)I"⟩
abbrev cX9_dual : ByteArray := prog_11_method_17_code
def yX9_dual : MethodName := ⟨RX9, "dual", "()Z"⟩
abbrev cX9_has : ByteArray := prog_11_method_18_code
def yX9_has : MethodName := ⟨RX9, "has", "(I)I"⟩
abbrev cX9_facesOf : ByteArray := prog_11_method_19_code
def yX9_facesOf : MethodName := ⟨RX9, "facesOf", "(II)J"⟩
abbrev cX9_faces : ByteArray := prog_11_method_20_code
def yX9_faces : MethodName := ⟨RX9, "faces", "(I)I"⟩
abbrev cX9_isMissing : ByteArray := prog_11_method_21_code
def yX9_isMissing : MethodName := ⟨RX9, "isMissing", "(I)Z"⟩
abbrev cX9_missing : ByteArray := prog_11_method_22_code
def yX9_missing : MethodName := ⟨RX9, "missing", "(I)I"⟩
abbrev cX9_missingMany : ByteArray := prog_11_method_23_code
def yX9_missingMany : MethodName := ⟨RX9, "missingMany", "()I"⟩
abbrev cX9_isFlag : ByteArray := prog_11_method_24_code
def yX9_isFlag : MethodName := ⟨RX9, "isFlag", "()Z"⟩
abbrev cX9_clear : ByteArray := prog_11_method_25_code
def yX9_clear : MethodName := ⟨RX9, "clear", "()V"⟩
abbrev cX9_lays : ByteArray := prog_11_method_26_code
def yX9_lays : MethodName := ⟨RX9, "lays", "(J)Z"⟩
abbrev cX9_border : ByteArray := prog_11_method_27_code
def yX9_border : MethodName := ⟨RX9, "border", "(I)J"⟩
abbrev cX9_borders : ByteArray := prog_11_method_28_code
def yX9_borders : MethodName := ⟨RX9, "borders", "(II)I"⟩
abbrev cX9_holesOf : ByteArray := prog_11_method_29_code
def yX9_holesOf : MethodName := ⟨RX9, "holesOf", "(II)I"⟩
abbrev cX9_holes : ByteArray := prog_11_method_30_code
def yX9_holes : MethodName := ⟨RX9, "holes", "(II)I"⟩
abbrev cX9_space : ByteArray := prog_11_method_31_code
def yX9_space : MethodName := ⟨RX9, "space", "(II)I"⟩
abbrev cX9_tower : ByteArray := prog_11_method_32_code
def yX9_tower : MethodName := ⟨RX9, "tower", "(II)I"⟩
abbrev cX9_odd : ByteArray := prog_11_method_33_code
def yX9_odd : MethodName := ⟨RX9, "odd", "(IJ)Z"⟩
abbrev cX9_rise : ByteArray := prog_11_method_34_code
def yX9_rise : MethodName := ⟨RX9, "rise", "(JII)J"⟩
abbrev cX9_closed : ByteArray := prog_11_method_35_code
def yX9_closed : MethodName := ⟨RX9, "closed", "(II[J)I"⟩
abbrev cX9_highest : ByteArray := prog_11_method_36_code
def yX9_highest : MethodName := ⟨RX9, "highest", "(J)J"⟩
abbrev cX9_product : ByteArray := prog_11_method_37_code
def yX9_product : MethodName := ⟨RX9, "product", "(JIIJII)J"⟩
abbrev cX9_rankOf : ByteArray := prog_11_method_38_code
def yX9_rankOf : MethodName := ⟨RX9, "rankOf", "(IIII)I"⟩
abbrev cX9_rank : ByteArray := prog_11_method_39_code
def yX9_rank : MethodName := ⟨RX9, "rank", "(IIII)I"⟩
abbrev cX9_finds : ByteArray := prog_11_method_40_code
def yX9_finds : MethodName := ⟨RX9, "finds", "()Z"⟩
abbrev cX9_seeks : ByteArray := prog_11_method_41_code
def yX9_seeks : MethodName := ⟨RX9, "seeks", "()Z"⟩
abbrev cX9_first : ByteArray := prog_11_method_42_code
def yX9_first : MethodName := ⟨RX9, "first", "(I)I"⟩
abbrev cX9_keeps : ByteArray := prog_11_method_43_code
def yX9_keeps : MethodName := ⟨RX9, "keeps", "()Z"⟩
abbrev cX9_nextOrder : ByteArray := prog_11_method_44_code
def yX9_nextOrder : MethodName := ⟨RX9, "nextOrder", "()Z"⟩
abbrev cX9_turns : ByteArray := prog_11_method_45_code
def yX9_turns : MethodName := ⟨RX9, "turns", "(II)I"⟩
abbrev cX9_isPoint : ByteArray := prog_11_method_46_code
def yX9_isPoint : MethodName := ⟨RX9, "isPoint", "(I)Z"⟩
abbrev cX9_alike : ByteArray := prog_11_method_47_code
def yX9_alike : MethodName := ⟨RX9, "alike", "(II)I"⟩
abbrev cX9_classes : ByteArray := prog_11_method_48_code
def yX9_classes : MethodName := ⟨RX9, "classes", "()I"⟩
abbrev cX9_look : ByteArray := prog_11_method_49_code
def yX9_look : MethodName := ⟨RX9, "look", "(I)I"⟩
abbrev cX9_feed : ByteArray := prog_11_method_50_code
def yX9_feed : MethodName := ⟨RX9, "feed", "(IIIII)I"⟩
abbrev cX9_end : ByteArray := prog_11_method_51_code
def yX9_end : MethodName := ⟨RX9, "end", "(I)Z"⟩
abbrev cX9_see : ByteArray := prog_11_method_52_code
def yX9_see : MethodName := ⟨RX9, "see", "(I)I"⟩
abbrev cX9_blanks : ByteArray := prog_11_method_53_code
def yX9_blanks : MethodName := ⟨RX9, "blanks", "(I)I"⟩
abbrev cX9_reads : ByteArray := prog_11_method_54_code
def yX9_reads : MethodName := ⟨RX9, "reads", "()I"⟩
abbrev cX9_read : ByteArray := prog_11_method_55_code
def yX9_read : MethodName := ⟨RX9, "read", "()I"⟩
abbrev cX9_fault : ByteArray := prog_11_method_56_code
def yX9_fault : MethodName := ⟨RX9, "fault", "()I"⟩
abbrev cX9_isGreatest : ByteArray := prog_11_method_57_code
def yX9_isGreatest : MethodName := ⟨RX9, "isGreatest", "(I)Z"⟩
abbrev cX9_puts : ByteArray := prog_11_method_58_code
def yX9_puts : MethodName := ⟨RX9, "puts", "(I)V"⟩
abbrev cX9_write : ByteArray := prog_11_method_59_code
def yX9_write : MethodName := ⟨RX9, "write", "()I"⟩
abbrev cX9_out : ByteArray := prog_11_method_60_code
def yX9_out : MethodName := ⟨RX9, "out", "(I)I"⟩
abbrev cX9_take : ByteArray := prog_11_method_61_code
def yX9_take : MethodName := ⟨RX9, "take", "()I"⟩
def RJ6 : String := "java/lang/Integer"
def TJ6 : u_T := fun k => match k with
  | _ => ("", "", "", false)
def tyJ6 : Nat → FieldType := fun k => match k with
  | _ => .int
abbrev wsJ60 : List Cond := u_ws RJ6 TJ6 0
theorem nmJ6 : ∀ a, a < 0 → ∀ b, b < 0 → a ≠ b → (TJ6 a).2.1 ≠ (TJ6 b).2.1 := by decide +kernel
theorem tyJ6_ok : ∀ k, k < 0 → parseFieldDescriptor (TJ6 k).2.2.1 = some (tyJ6 k) := by decide +kernel
abbrev cJ6_bitCount_0f7a4 : ByteArray := prog_12_method_49_code
def yJ6_bitCount_0f7a4 : MethodName := ⟨RJ6, "bitCount", "(I)I"⟩
def RJ13 : String := "java/lang/Long"
def TJ13 : u_T := fun k => match k with
  | _ => ("", "", "", false)
def tyJ13 : Nat → FieldType := fun k => match k with
  | _ => .int
abbrev wsJ130 : List Cond := u_ws RJ13 TJ13 0
theorem nmJ13 : ∀ a, a < 0 → ∀ b, b < 0 → a ≠ b → (TJ13 a).2.1 ≠ (TJ13 b).2.1 := by decide +kernel
theorem tyJ13_ok : ∀ k, k < 0 → parseFieldDescriptor (TJ13 k).2.2.1 = some (tyJ13 k) := by decide +kernel
abbrev cJ13_bitCount_95d88 : ByteArray := prog_13_method_50_code
def yJ13_bitCount_95d88 : MethodName := ⟨RJ13, "bitCount", "(J)I"⟩
def RJ10 : String := "java/lang/System"
def TJ10 : u_T := fun k => match k with
  | _ => ("", "", "", false)
def tyJ10 : Nat → FieldType := fun k => match k with
  | _ => .int
abbrev wsJ100 : List Cond := u_ws RJ10 TJ10 0
theorem nmJ10 : ∀ a, a < 0 → ∀ b, b < 0 → a ≠ b → (TJ10 a).2.1 ≠ (TJ10 b).2.1 := by decide +kernel
theorem tyJ10_ok : ∀ k, k < 0 → parseFieldDescriptor (TJ10 k).2.2.1 = some (tyJ10 k) := by decide +kernel
def RL : String := "HoleHouseLaw"
abbrev cL_law : ByteArray := code
def yL_law : MethodName := ⟨RL, "law", "([I)Z"⟩
def wsX0_init : List Cond := .code yX0_init cX0_init 1 none :: ([.methodLink RX0 3 objectInit, .instanceMethod objectInit, .code objectInit ⟨#[0xb1]⟩ 1 none, .arrayClass .long, .fieldLink RX0 9 "HoleHouse$Basis" "rows" "[J", .fieldLink RX0 15 "HoleHouse$Basis" "leads" "[J"] ++ wsX00)
def wsX0_clear : List Cond := .code yX0_clear cX0_clear 3 none :: ([.fieldLink RX0 18 "HoleHouse$Basis" "leading" "J", .fieldLink RX0 22 "HoleHouse$Basis" "rest" "J", .fieldLink RX0 25 "HoleHouse$Basis" "count" "I"] ++ wsX00)
def wsX0_add : List Cond := .code yX0_add cX0_add 5 (some .boolean) :: ([.fieldLink RX0 22 "HoleHouse$Basis" "rest" "J", .fieldLink RX0 25 "HoleHouse$Basis" "count" "I", .fieldLink RX0 15 "HoleHouse$Basis" "leads" "[J", .fieldLink RX0 9 "HoleHouse$Basis" "rows" "[J", .fieldLink RX0 18 "HoleHouse$Basis" "leading" "J"] ++ wsX00)
def wsX0_remainder : List Cond := .code yX0_remainder cX0_remainder 1 (some .long) :: ([.fieldLink RX0 22 "HoleHouse$Basis" "rest" "J"] ++ wsX00)
def wsX1_init : List Cond := .code yX1_init cX1_init 1 none :: ([.methodLink RX1 3 objectInit, .instanceMethod objectInit, .code objectInit ⟨#[0xb1]⟩ 1 none, .arrayClass .int, .fieldLink RX1 11 "HoleHouse$History" "keptPoints" "[I", .arrayClass .long, .fieldLink RX1 15 "HoleHouse$History" "keptFamilies" "[J"] ++ wsX10)
def wsX1_keep : List Cond := .code yX1_keep cX1_keep 4 none :: ([.fieldLink RX1 19 "HoleHouse$History" "count" "I", .fieldLink RX1 11 "HoleHouse$History" "keptPoints" "[I", .methodLink RX1 23 arraycopyName, .native arraycopyName, .static arraycopyName, .initialized "java/lang/System", .fieldLink RX1 15 "HoleHouse$History" "keptFamilies" "[J"] ++ wsX10)
def wsX1_drop : List Cond := .code yX1_drop cX1_drop 1 (some .boolean) :: ([.fieldLink RX1 19 "HoleHouse$History" "count" "I"] ++ wsX10)
def wsX1_droppedPoints : List Cond := .code yX1_droppedPoints cX1_droppedPoints 1 (some .int) :: ([.fieldLink RX1 19 "HoleHouse$History" "count" "I", .fieldLink RX1 11 "HoleHouse$History" "keptPoints" "[I"] ++ wsX10)
def wsX1_droppedFamily : List Cond := .code yX1_droppedFamily cX1_droppedFamily 1 (some .long) :: ([.fieldLink RX1 19 "HoleHouse$History" "count" "I", .fieldLink RX1 15 "HoleHouse$History" "keptFamilies" "[J"] ++ wsX10)
def wsX2_init : List Cond := .code yX2_init cX2_init 1 none :: ([.methodLink RX2 3 objectInit, .instanceMethod objectInit, .code objectInit ⟨#[0xb1]⟩ 1 none, .arrayClass .int, .fieldLink RX2 11 "HoleHouse$Parts" "counts" "[I", .fieldLink RX2 15 "HoleHouse$Parts" "borders" "[I", .classLink RX2 18 RX0, .instantiable RX0 5, .initialized RX0, .fieldLink RX2 21 "HoleHouse$Parts" "basis" "LHoleHouse$Basis;", .methodLink RX2 20 yX0_init, .instanceMethod yX0_init, .code yX0_init cX0_init 1 none, .methodLink RX0 3 objectInit, .arrayClass .long, .fieldLink RX0 9 "HoleHouse$Basis" "rows" "[J", .fieldLink RX0 15 "HoleHouse$Basis" "leads" "[J"] ++ wsX20 ++ wsX00)
def wsX6_hasPoint : List Cond := .code yX6_hasPoint cX6_hasPoint 2 (some .boolean) :: ([])
def wsX6_inside : List Cond := .code yX6_inside cX6_inside 4 (some .long) :: ([.methodLink RX6 15 yX6_hasPoint, .static yX6_hasPoint, .initialized RX6, .code yX6_hasPoint cX6_hasPoint 2 (some .boolean)])
def wsX6_holds : List Cond := .code yX6_holds cX6_holds 3 (some .boolean) :: ([])
def wsX6_below : List Cond := .code yX6_below cX6_below 4 (some .long) :: ([.methodLink RX6 15 yX6_hasPoint, .static yX6_hasPoint, .initialized RX6, .code yX6_hasPoint cX6_hasPoint 2 (some .boolean)])
def wsJ6_bitCount_0f7a4 : List Cond := .code yJ6_bitCount_0f7a4 cJ6_bitCount_0f7a4 1 (some .int) :: ([.constant RJ6 265 (1431655765), .constant RJ6 266 (858993459), .constant RJ6 267 (252645135)])
def wsX2_countBorders_r1 : List Cond := [Cond.fieldLink RX2 15 "HoleHouse$Parts" "borders" "[I", Cond.fieldLink RX2 21 "HoleHouse$Parts" "basis" "LHoleHouse$Basis;", Cond.constantLong RX2 59 (-1), Cond.methodLink RX2 61 yX0_clear, Cond.instanceMethod yX0_clear, Cond.selects RX0 yX0_clear yX0_clear, Cond.initialized RX0, Cond.code yX0_clear cX0_clear 3 none, Cond.fieldLink RX0 18 "HoleHouse$Basis" "leading" "J", Cond.fieldLink RX0 22 "HoleHouse$Basis" "rest" "J", Cond.fieldLink RX0 25 "HoleHouse$Basis" "count" "I", Cond.methodLink RX2 65 yX6_holds, Cond.static yX6_holds, Cond.initialized RX6, Cond.code yX6_holds cX6_holds 3 (some .boolean), Cond.methodLink RX2 69 yX6_below, Cond.static yX6_below, Cond.code yX6_below cX6_below 4 (some .long), Cond.methodLink RX6 15 yX6_hasPoint, Cond.static yX6_hasPoint, Cond.code yX6_hasPoint cX6_hasPoint 2 (some .boolean), Cond.methodLink RX2 72 yX0_add, Cond.instanceMethod yX0_add, Cond.selects RX0 yX0_add yX0_add]
def wsX2_countBorders_r2 : List Cond := [Cond.code yX0_add cX0_add 5 (some .boolean), Cond.fieldLink RX0 15 "HoleHouse$Basis" "leads" "[J", Cond.fieldLink RX0 9 "HoleHouse$Basis" "rows" "[J", Cond.methodLink RX2 76 yJ6_bitCount_0f7a4, Cond.static yJ6_bitCount_0f7a4, Cond.initialized RJ6, Cond.code yJ6_bitCount_0f7a4 cJ6_bitCount_0f7a4 1 (some .int), Cond.constant RJ6 265 (1431655765), Cond.constant RJ6 266 (858993459), Cond.constant RJ6 267 (252645135)]
def wsX2_countBorders : List Cond := .code yX2_countBorders cX2_countBorders 5 none :: ((wsX2_countBorders_r1 ++ wsX2_countBorders_r2) ++ wsX20 ++ wsX00)
def wsX6_ofSize : List Cond := .code yX6_ofSize cX6_ofSize 1 (some .long) :: ([.fieldLink RX6 9 "HoleHouse$Sets" "BY_SIZE" "[J"])
def wsJ13_bitCount_95d88 : List Cond := .code yJ13_bitCount_95d88 cJ13_bitCount_95d88 2 (some .int) :: ([.constantLong RJ13 314 (6148914691236517205), .constantLong RJ13 316 (3689348814741910323), .constantLong RJ13 318 (1085102592571150095)])
def wsX2_countHoles_r1 : List Cond := [Cond.fieldLink RX2 11 "HoleHouse$Parts" "counts" "[I", Cond.fieldLink RX2 15 "HoleHouse$Parts" "borders" "[I", Cond.methodLink RX2 47 yX2_countBorders, Cond.instanceMethod yX2_countBorders, Cond.selects RX2 yX2_countBorders yX2_countBorders, Cond.initialized RX2, Cond.code yX2_countBorders cX2_countBorders 5 none, Cond.fieldLink RX2 21 "HoleHouse$Parts" "basis" "LHoleHouse$Basis;", Cond.constantLong RX2 59 (-1), Cond.methodLink RX2 61 yX0_clear, Cond.instanceMethod yX0_clear, Cond.selects RX0 yX0_clear yX0_clear, Cond.initialized RX0, Cond.code yX0_clear cX0_clear 3 none, Cond.fieldLink RX0 18 "HoleHouse$Basis" "leading" "J", Cond.fieldLink RX0 22 "HoleHouse$Basis" "rest" "J", Cond.fieldLink RX0 25 "HoleHouse$Basis" "count" "I", Cond.methodLink RX2 65 yX6_holds, Cond.static yX6_holds, Cond.initialized RX6, Cond.code yX6_holds cX6_holds 3 (some .boolean), Cond.methodLink RX2 69 yX6_below, Cond.static yX6_below, Cond.code yX6_below cX6_below 4 (some .long)]
def wsX2_countHoles_r2 : List Cond := [Cond.methodLink RX6 15 yX6_hasPoint, Cond.static yX6_hasPoint, Cond.code yX6_hasPoint cX6_hasPoint 2 (some .boolean), Cond.methodLink RX2 72 yX0_add, Cond.instanceMethod yX0_add, Cond.selects RX0 yX0_add yX0_add, Cond.code yX0_add cX0_add 5 (some .boolean), Cond.fieldLink RX0 15 "HoleHouse$Basis" "leads" "[J", Cond.fieldLink RX0 9 "HoleHouse$Basis" "rows" "[J", Cond.methodLink RX2 76 yJ6_bitCount_0f7a4, Cond.static yJ6_bitCount_0f7a4, Cond.initialized RJ6, Cond.code yJ6_bitCount_0f7a4 cJ6_bitCount_0f7a4 1 (some .int), Cond.constant RJ6 265 (1431655765), Cond.constant RJ6 266 (858993459), Cond.constant RJ6 267 (252645135), Cond.methodLink RX2 50 yX6_ofSize, Cond.static yX6_ofSize, Cond.code yX6_ofSize cX6_ofSize 1 (some .long), Cond.fieldLink RX6 9 "HoleHouse$Sets" "BY_SIZE" "[J", Cond.methodLink RX2 53 yJ13_bitCount_95d88, Cond.static yJ13_bitCount_95d88, Cond.initialized RJ13, Cond.code yJ13_bitCount_95d88 cJ13_bitCount_95d88 2 (some .int)]
def wsX2_countHoles_r3 : List Cond := [Cond.constantLong RJ13 314 (6148914691236517205), Cond.constantLong RJ13 316 (3689348814741910323), Cond.constantLong RJ13 318 (1085102592571150095)]
def wsX2_countHoles : List Cond := .code yX2_countHoles cX2_countHoles 6 none :: ((wsX2_countHoles_r1 ++ (wsX2_countHoles_r2 ++ wsX2_countHoles_r3)) ++ wsX20 ++ wsX00)
def wsX2_know_r1 : List Cond := [Cond.fieldLink RX2 25 "HoleHouse$Parts" "knownPoints" "I", Cond.fieldLink RX2 29 "HoleHouse$Parts" "knownFamily" "J", Cond.methodLink RX2 33 yX6_inside, Cond.static yX6_inside, Cond.initialized RX6, Cond.code yX6_inside cX6_inside 4 (some .long), Cond.methodLink RX6 15 yX6_hasPoint, Cond.static yX6_hasPoint, Cond.code yX6_hasPoint cX6_hasPoint 2 (some .boolean), Cond.methodLink RX2 39 yX2_countHoles, Cond.instanceMethod yX2_countHoles, Cond.selects RX2 yX2_countHoles yX2_countHoles, Cond.initialized RX2, Cond.code yX2_countHoles cX2_countHoles 6 none, Cond.fieldLink RX2 11 "HoleHouse$Parts" "counts" "[I", Cond.fieldLink RX2 15 "HoleHouse$Parts" "borders" "[I", Cond.methodLink RX2 47 yX2_countBorders, Cond.instanceMethod yX2_countBorders, Cond.selects RX2 yX2_countBorders yX2_countBorders, Cond.code yX2_countBorders cX2_countBorders 5 none, Cond.fieldLink RX2 21 "HoleHouse$Parts" "basis" "LHoleHouse$Basis;", Cond.constantLong RX2 59 (-1), Cond.methodLink RX2 61 yX0_clear, Cond.instanceMethod yX0_clear]
def wsX2_know_r2 : List Cond := [Cond.selects RX0 yX0_clear yX0_clear, Cond.initialized RX0, Cond.code yX0_clear cX0_clear 3 none, Cond.fieldLink RX0 18 "HoleHouse$Basis" "leading" "J", Cond.fieldLink RX0 22 "HoleHouse$Basis" "rest" "J", Cond.fieldLink RX0 25 "HoleHouse$Basis" "count" "I", Cond.methodLink RX2 65 yX6_holds, Cond.static yX6_holds, Cond.code yX6_holds cX6_holds 3 (some .boolean), Cond.methodLink RX2 69 yX6_below, Cond.static yX6_below, Cond.code yX6_below cX6_below 4 (some .long), Cond.methodLink RX2 72 yX0_add, Cond.instanceMethod yX0_add, Cond.selects RX0 yX0_add yX0_add, Cond.code yX0_add cX0_add 5 (some .boolean), Cond.fieldLink RX0 15 "HoleHouse$Basis" "leads" "[J", Cond.fieldLink RX0 9 "HoleHouse$Basis" "rows" "[J", Cond.methodLink RX2 76 yJ6_bitCount_0f7a4, Cond.static yJ6_bitCount_0f7a4, Cond.initialized RJ6, Cond.code yJ6_bitCount_0f7a4 cJ6_bitCount_0f7a4 1 (some .int), Cond.constant RJ6 265 (1431655765), Cond.constant RJ6 266 (858993459)]
def wsX2_know_r3 : List Cond := [Cond.constant RJ6 267 (252645135), Cond.methodLink RX2 50 yX6_ofSize, Cond.static yX6_ofSize, Cond.code yX6_ofSize cX6_ofSize 1 (some .long), Cond.fieldLink RX6 9 "HoleHouse$Sets" "BY_SIZE" "[J", Cond.methodLink RX2 53 yJ13_bitCount_95d88, Cond.static yJ13_bitCount_95d88, Cond.initialized RJ13, Cond.code yJ13_bitCount_95d88 cJ13_bitCount_95d88 2 (some .int), Cond.constantLong RJ13 314 (6148914691236517205), Cond.constantLong RJ13 316 (3689348814741910323), Cond.constantLong RJ13 318 (1085102592571150095)]
def wsX2_know : List Cond := .code yX2_know cX2_know 5 none :: ((wsX2_know_r1 ++ (wsX2_know_r2 ++ wsX2_know_r3)) ++ wsX20 ++ wsX00)
def wsX2_isDimension : List Cond := .code yX2_isDimension cX2_isDimension 1 (some .boolean) :: ([])
def wsX2_holesOf : List Cond := .code yX2_holesOf cX2_holesOf 4 (some .int) :: ([.fieldLink RX2 11 "HoleHouse$Parts" "counts" "[I", .methodLink RX2 43 yX2_isDimension, .static yX2_isDimension, .initialized RX2, .code yX2_isDimension cX2_isDimension 1 (some .boolean)] ++ wsX20)
def wsX3_init : List Cond := .code yX3_init cX3_init 2 none :: ([.methodLink RX3 3 objectInit, .instanceMethod objectInit, .code objectInit ⟨#[0xb1]⟩ 1 none, .fieldLink RX3 9 "HoleHouse$Products" "parts" "LHoleHouse$Parts;", .classLink RX3 15 RX0, .instantiable RX0 5, .initialized RX0, .fieldLink RX3 18 "HoleHouse$Products" "basis" "LHoleHouse$Basis;", .arrayClass .long, .fieldLink RX3 22 "HoleHouse$Products" "left" "[J", .fieldLink RX3 26 "HoleHouse$Products" "right" "[J", .arrayClass .int, .fieldLink RX3 29 "HoleHouse$Products" "earliest" "[I", .methodLink RX3 17 yX0_init, .instanceMethod yX0_init, .code yX0_init cX0_init 1 none, .methodLink RX0 3 objectInit, .fieldLink RX0 9 "HoleHouse$Basis" "rows" "[J", .fieldLink RX0 15 "HoleHouse$Basis" "leads" "[J"] ++ wsX30 ++ wsX00)
def wsX6_above : List Cond := .code yX6_above cX6_above 4 (some .long) :: ([.methodLink RX6 15 yX6_hasPoint, .static yX6_hasPoint, .initialized RX6, .code yX6_hasPoint cX6_hasPoint 2 (some .boolean)])
def wsX3_fillClosed_r1 : List Cond := [Cond.fieldLink RX3 18 "HoleHouse$Products" "basis" "LHoleHouse$Basis;", Cond.methodLink RX3 77 yX6_ofSize, Cond.static yX6_ofSize, Cond.initialized RX6, Cond.code yX6_ofSize cX6_ofSize 1 (some .long), Cond.fieldLink RX6 9 "HoleHouse$Sets" "BY_SIZE" "[J", Cond.methodLink RX3 92 yX0_clear, Cond.instanceMethod yX0_clear, Cond.selects RX0 yX0_clear yX0_clear, Cond.initialized RX0, Cond.code yX0_clear cX0_clear 3 none, Cond.fieldLink RX0 18 "HoleHouse$Basis" "leading" "J", Cond.fieldLink RX0 22 "HoleHouse$Basis" "rest" "J", Cond.fieldLink RX0 25 "HoleHouse$Basis" "count" "I", Cond.methodLink RX3 96 yX6_above, Cond.static yX6_above, Cond.code yX6_above cX6_above 4 (some .long), Cond.methodLink RX6 15 yX6_hasPoint, Cond.static yX6_hasPoint, Cond.code yX6_hasPoint cX6_hasPoint 2 (some .boolean), Cond.methodLink RX3 99 yX6_holds, Cond.static yX6_holds, Cond.code yX6_holds cX6_holds 3 (some .boolean), Cond.methodLink RX3 88 yX0_add]
def wsX3_fillClosed_r2 : List Cond := [Cond.instanceMethod yX0_add, Cond.selects RX0 yX0_add yX0_add, Cond.code yX0_add cX0_add 5 (some .boolean), Cond.fieldLink RX0 15 "HoleHouse$Basis" "leads" "[J", Cond.fieldLink RX0 9 "HoleHouse$Basis" "rows" "[J", Cond.methodLink RX3 103 yX0_remainder, Cond.instanceMethod yX0_remainder, Cond.selects RX0 yX0_remainder yX0_remainder, Cond.code yX0_remainder cX0_remainder 1 (some .long)]
def wsX3_fillClosed : List Cond := .code yX3_fillClosed cX3_fillClosed 13 (some .int) :: ((wsX3_fillClosed_r1 ++ wsX3_fillClosed_r2) ++ wsX30 ++ wsX00)
def wsX3_addRises_r1 : List Cond := [Cond.fieldLink RX3 18 "HoleHouse$Products" "basis" "LHoleHouse$Basis;", Cond.constantLong RX3 107 (-1), Cond.methodLink RX3 92 yX0_clear, Cond.instanceMethod yX0_clear, Cond.selects RX0 yX0_clear yX0_clear, Cond.initialized RX0, Cond.code yX0_clear cX0_clear 3 none, Cond.fieldLink RX0 18 "HoleHouse$Basis" "leading" "J", Cond.fieldLink RX0 22 "HoleHouse$Basis" "rest" "J", Cond.fieldLink RX0 25 "HoleHouse$Basis" "count" "I", Cond.methodLink RX3 99 yX6_holds, Cond.static yX6_holds, Cond.initialized RX6, Cond.code yX6_holds cX6_holds 3 (some .boolean), Cond.methodLink RX3 96 yX6_above, Cond.static yX6_above, Cond.code yX6_above cX6_above 4 (some .long), Cond.methodLink RX6 15 yX6_hasPoint, Cond.static yX6_hasPoint, Cond.code yX6_hasPoint cX6_hasPoint 2 (some .boolean), Cond.methodLink RX3 88 yX0_add, Cond.instanceMethod yX0_add, Cond.selects RX0 yX0_add yX0_add, Cond.code yX0_add cX0_add 5 (some .boolean)]
def wsX3_addRises_r2 : List Cond := [Cond.fieldLink RX0 15 "HoleHouse$Basis" "leads" "[J", Cond.fieldLink RX0 9 "HoleHouse$Basis" "rows" "[J"]
def wsX3_addRises : List Cond := .code yX3_addRises cX3_addRises 6 none :: ((wsX3_addRises_r1 ++ wsX3_addRises_r2) ++ wsX30 ++ wsX00)
def wsX3_multiply : List Cond := .code yX3_multiply cX3_multiply 11 (some .long) :: ([.methodLink RX3 99 yX6_holds, .static yX6_holds, .initialized RX6, .code yX6_holds cX6_holds 3 (some .boolean)])
def wsX3_measure_r1 : List Cond := [Cond.fieldLink RX3 9 "HoleHouse$Products" "parts" "LHoleHouse$Parts;", Cond.fieldLink RX3 22 "HoleHouse$Products" "left" "[J", Cond.fieldLink RX3 26 "HoleHouse$Products" "right" "[J", Cond.fieldLink RX3 18 "HoleHouse$Products" "basis" "LHoleHouse$Basis;", Cond.methodLink RX3 59 yX2_holesOf, Cond.instanceMethod yX2_holesOf, Cond.selects RX2 yX2_holesOf yX2_holesOf, Cond.initialized RX2, Cond.code yX2_holesOf cX2_holesOf 4 (some .int), Cond.fieldLink RX2 11 "HoleHouse$Parts" "counts" "[I", Cond.methodLink RX2 43 yX2_isDimension, Cond.static yX2_isDimension, Cond.code yX2_isDimension cX2_isDimension 1 (some .boolean), Cond.methodLink RX3 67 yX6_inside, Cond.static yX6_inside, Cond.initialized RX6, Cond.code yX6_inside cX6_inside 4 (some .long), Cond.methodLink RX6 15 yX6_hasPoint, Cond.static yX6_hasPoint, Cond.code yX6_hasPoint cX6_hasPoint 2 (some .boolean), Cond.methodLink RX3 73 yX3_fillClosed, Cond.instanceMethod yX3_fillClosed, Cond.selects RX3 yX3_fillClosed yX3_fillClosed, Cond.initialized RX3]
def wsX3_measure_r2 : List Cond := [Cond.code yX3_fillClosed cX3_fillClosed 13 (some .int), Cond.methodLink RX3 77 yX6_ofSize, Cond.static yX6_ofSize, Cond.code yX6_ofSize cX6_ofSize 1 (some .long), Cond.fieldLink RX6 9 "HoleHouse$Sets" "BY_SIZE" "[J", Cond.methodLink RX3 92 yX0_clear, Cond.instanceMethod yX0_clear, Cond.selects RX0 yX0_clear yX0_clear, Cond.initialized RX0, Cond.code yX0_clear cX0_clear 3 none, Cond.fieldLink RX0 18 "HoleHouse$Basis" "leading" "J", Cond.fieldLink RX0 22 "HoleHouse$Basis" "rest" "J", Cond.fieldLink RX0 25 "HoleHouse$Basis" "count" "I", Cond.methodLink RX3 96 yX6_above, Cond.static yX6_above, Cond.code yX6_above cX6_above 4 (some .long), Cond.methodLink RX3 99 yX6_holds, Cond.static yX6_holds, Cond.code yX6_holds cX6_holds 3 (some .boolean), Cond.methodLink RX3 88 yX0_add, Cond.instanceMethod yX0_add, Cond.selects RX0 yX0_add yX0_add, Cond.code yX0_add cX0_add 5 (some .boolean), Cond.fieldLink RX0 15 "HoleHouse$Basis" "leads" "[J"]
def wsX3_measure_r3 : List Cond := [Cond.fieldLink RX0 9 "HoleHouse$Basis" "rows" "[J", Cond.methodLink RX3 103 yX0_remainder, Cond.instanceMethod yX0_remainder, Cond.selects RX0 yX0_remainder yX0_remainder, Cond.code yX0_remainder cX0_remainder 1 (some .long), Cond.methodLink RX3 80 yX3_addRises, Cond.instanceMethod yX3_addRises, Cond.selects RX3 yX3_addRises yX3_addRises, Cond.code yX3_addRises cX3_addRises 6 none, Cond.constantLong RX3 107 (-1), Cond.methodLink RX3 84 yX3_multiply, Cond.static yX3_multiply, Cond.code yX3_multiply cX3_multiply 11 (some .long)]
def wsX3_measure : List Cond := .code yX3_measure cX3_measure 16 (some .int) :: ((wsX3_measure_r1 ++ (wsX3_measure_r2 ++ wsX3_measure_r3)) ++ wsX30 ++ wsX20 ++ wsX00)
def wsX3_seekIn_r1 : List Cond := [Cond.fieldLink RX3 9 "HoleHouse$Products" "parts" "LHoleHouse$Parts;", Cond.fieldLink RX3 29 "HoleHouse$Products" "earliest" "[I", Cond.methodLink RX3 59 yX2_holesOf, Cond.instanceMethod yX2_holesOf, Cond.selects RX2 yX2_holesOf yX2_holesOf, Cond.initialized RX2, Cond.code yX2_holesOf cX2_holesOf 4 (some .int), Cond.fieldLink RX2 11 "HoleHouse$Parts" "counts" "[I", Cond.methodLink RX2 43 yX2_isDimension, Cond.static yX2_isDimension, Cond.code yX2_isDimension cX2_isDimension 1 (some .boolean), Cond.methodLink RX3 63 yX3_measure, Cond.instanceMethod yX3_measure, Cond.selects RX3 yX3_measure yX3_measure, Cond.initialized RX3, Cond.code yX3_measure cX3_measure 16 (some .int), Cond.fieldLink RX3 22 "HoleHouse$Products" "left" "[J", Cond.fieldLink RX3 26 "HoleHouse$Products" "right" "[J", Cond.fieldLink RX3 18 "HoleHouse$Products" "basis" "LHoleHouse$Basis;", Cond.methodLink RX3 67 yX6_inside, Cond.static yX6_inside, Cond.initialized RX6, Cond.code yX6_inside cX6_inside 4 (some .long), Cond.methodLink RX6 15 yX6_hasPoint]
def wsX3_seekIn_r2 : List Cond := [Cond.static yX6_hasPoint, Cond.code yX6_hasPoint cX6_hasPoint 2 (some .boolean), Cond.methodLink RX3 73 yX3_fillClosed, Cond.instanceMethod yX3_fillClosed, Cond.selects RX3 yX3_fillClosed yX3_fillClosed, Cond.code yX3_fillClosed cX3_fillClosed 13 (some .int), Cond.methodLink RX3 77 yX6_ofSize, Cond.static yX6_ofSize, Cond.code yX6_ofSize cX6_ofSize 1 (some .long), Cond.fieldLink RX6 9 "HoleHouse$Sets" "BY_SIZE" "[J", Cond.methodLink RX3 92 yX0_clear, Cond.instanceMethod yX0_clear, Cond.selects RX0 yX0_clear yX0_clear, Cond.initialized RX0, Cond.code yX0_clear cX0_clear 3 none, Cond.fieldLink RX0 18 "HoleHouse$Basis" "leading" "J", Cond.fieldLink RX0 22 "HoleHouse$Basis" "rest" "J", Cond.fieldLink RX0 25 "HoleHouse$Basis" "count" "I", Cond.methodLink RX3 96 yX6_above, Cond.static yX6_above, Cond.code yX6_above cX6_above 4 (some .long), Cond.methodLink RX3 99 yX6_holds, Cond.static yX6_holds, Cond.code yX6_holds cX6_holds 3 (some .boolean)]
def wsX3_seekIn_r3 : List Cond := [Cond.methodLink RX3 88 yX0_add, Cond.instanceMethod yX0_add, Cond.selects RX0 yX0_add yX0_add, Cond.code yX0_add cX0_add 5 (some .boolean), Cond.fieldLink RX0 15 "HoleHouse$Basis" "leads" "[J", Cond.fieldLink RX0 9 "HoleHouse$Basis" "rows" "[J", Cond.methodLink RX3 103 yX0_remainder, Cond.instanceMethod yX0_remainder, Cond.selects RX0 yX0_remainder yX0_remainder, Cond.code yX0_remainder cX0_remainder 1 (some .long), Cond.methodLink RX3 80 yX3_addRises, Cond.instanceMethod yX3_addRises, Cond.selects RX3 yX3_addRises yX3_addRises, Cond.code yX3_addRises cX3_addRises 6 none, Cond.constantLong RX3 107 (-1), Cond.methodLink RX3 84 yX3_multiply, Cond.static yX3_multiply, Cond.code yX3_multiply cX3_multiply 11 (some .long)]
def wsX3_seekIn : List Cond := .code yX3_seekIn cX3_seekIn 8 (some .boolean) :: ((wsX3_seekIn_r1 ++ (wsX3_seekIn_r2 ++ wsX3_seekIn_r3)) ++ wsX30 ++ wsX20 ++ wsX00)
def wsX3_seek_r1 : List Cond := [Cond.methodLink RX3 55 yX3_seekIn, Cond.instanceMethod yX3_seekIn, Cond.selects RX3 yX3_seekIn yX3_seekIn, Cond.initialized RX3, Cond.code yX3_seekIn cX3_seekIn 8 (some .boolean), Cond.fieldLink RX3 9 "HoleHouse$Products" "parts" "LHoleHouse$Parts;", Cond.fieldLink RX3 29 "HoleHouse$Products" "earliest" "[I", Cond.methodLink RX3 59 yX2_holesOf, Cond.instanceMethod yX2_holesOf, Cond.selects RX2 yX2_holesOf yX2_holesOf, Cond.initialized RX2, Cond.code yX2_holesOf cX2_holesOf 4 (some .int), Cond.fieldLink RX2 11 "HoleHouse$Parts" "counts" "[I", Cond.methodLink RX2 43 yX2_isDimension, Cond.static yX2_isDimension, Cond.code yX2_isDimension cX2_isDimension 1 (some .boolean), Cond.methodLink RX3 63 yX3_measure, Cond.instanceMethod yX3_measure, Cond.selects RX3 yX3_measure yX3_measure, Cond.code yX3_measure cX3_measure 16 (some .int), Cond.fieldLink RX3 22 "HoleHouse$Products" "left" "[J", Cond.fieldLink RX3 26 "HoleHouse$Products" "right" "[J", Cond.fieldLink RX3 18 "HoleHouse$Products" "basis" "LHoleHouse$Basis;", Cond.methodLink RX3 67 yX6_inside]
def wsX3_seek_r2 : List Cond := [Cond.static yX6_inside, Cond.initialized RX6, Cond.code yX6_inside cX6_inside 4 (some .long), Cond.methodLink RX6 15 yX6_hasPoint, Cond.static yX6_hasPoint, Cond.code yX6_hasPoint cX6_hasPoint 2 (some .boolean), Cond.methodLink RX3 73 yX3_fillClosed, Cond.instanceMethod yX3_fillClosed, Cond.selects RX3 yX3_fillClosed yX3_fillClosed, Cond.code yX3_fillClosed cX3_fillClosed 13 (some .int), Cond.methodLink RX3 77 yX6_ofSize, Cond.static yX6_ofSize, Cond.code yX6_ofSize cX6_ofSize 1 (some .long), Cond.fieldLink RX6 9 "HoleHouse$Sets" "BY_SIZE" "[J", Cond.methodLink RX3 92 yX0_clear, Cond.instanceMethod yX0_clear, Cond.selects RX0 yX0_clear yX0_clear, Cond.initialized RX0, Cond.code yX0_clear cX0_clear 3 none, Cond.fieldLink RX0 18 "HoleHouse$Basis" "leading" "J", Cond.fieldLink RX0 22 "HoleHouse$Basis" "rest" "J", Cond.fieldLink RX0 25 "HoleHouse$Basis" "count" "I", Cond.methodLink RX3 96 yX6_above, Cond.static yX6_above]
def wsX3_seek_r3 : List Cond := [Cond.code yX6_above cX6_above 4 (some .long), Cond.methodLink RX3 99 yX6_holds, Cond.static yX6_holds, Cond.code yX6_holds cX6_holds 3 (some .boolean), Cond.methodLink RX3 88 yX0_add, Cond.instanceMethod yX0_add, Cond.selects RX0 yX0_add yX0_add, Cond.code yX0_add cX0_add 5 (some .boolean), Cond.fieldLink RX0 15 "HoleHouse$Basis" "leads" "[J", Cond.fieldLink RX0 9 "HoleHouse$Basis" "rows" "[J", Cond.methodLink RX3 103 yX0_remainder, Cond.instanceMethod yX0_remainder, Cond.selects RX0 yX0_remainder yX0_remainder, Cond.code yX0_remainder cX0_remainder 1 (some .long), Cond.methodLink RX3 80 yX3_addRises, Cond.instanceMethod yX3_addRises, Cond.selects RX3 yX3_addRises yX3_addRises, Cond.code yX3_addRises cX3_addRises 6 none, Cond.constantLong RX3 107 (-1), Cond.methodLink RX3 84 yX3_multiply, Cond.static yX3_multiply, Cond.code yX3_multiply cX3_multiply 11 (some .long)]
def wsX3_seek : List Cond := .code yX3_seek cX3_seek 7 (some .boolean) :: ((wsX3_seek_r1 ++ (wsX3_seek_r2 ++ wsX3_seek_r3)) ++ wsX30 ++ wsX20 ++ wsX00)
def wsX3_know_r1 : List Cond := [Cond.fieldLink RX3 33 "HoleHouse$Products" "knownPoints" "I", Cond.fieldLink RX3 37 "HoleHouse$Products" "knownFamily" "J", Cond.fieldLink RX3 9 "HoleHouse$Products" "parts" "LHoleHouse$Parts;", Cond.fieldLink RX3 51 "HoleHouse$Products" "plain" "Z", Cond.methodLink RX3 41 yX2_know, Cond.instanceMethod yX2_know, Cond.selects RX2 yX2_know yX2_know, Cond.initialized RX2, Cond.code yX2_know cX2_know 5 none, Cond.fieldLink RX2 25 "HoleHouse$Parts" "knownPoints" "I", Cond.fieldLink RX2 29 "HoleHouse$Parts" "knownFamily" "J", Cond.methodLink RX2 33 yX6_inside, Cond.static yX6_inside, Cond.initialized RX6, Cond.code yX6_inside cX6_inside 4 (some .long), Cond.methodLink RX6 15 yX6_hasPoint, Cond.static yX6_hasPoint, Cond.code yX6_hasPoint cX6_hasPoint 2 (some .boolean), Cond.methodLink RX2 39 yX2_countHoles, Cond.instanceMethod yX2_countHoles, Cond.selects RX2 yX2_countHoles yX2_countHoles, Cond.code yX2_countHoles cX2_countHoles 6 none, Cond.fieldLink RX2 11 "HoleHouse$Parts" "counts" "[I", Cond.fieldLink RX2 15 "HoleHouse$Parts" "borders" "[I"]
def wsX3_know_r2 : List Cond := [Cond.methodLink RX2 47 yX2_countBorders, Cond.instanceMethod yX2_countBorders, Cond.selects RX2 yX2_countBorders yX2_countBorders, Cond.code yX2_countBorders cX2_countBorders 5 none, Cond.fieldLink RX2 21 "HoleHouse$Parts" "basis" "LHoleHouse$Basis;", Cond.constantLong RX2 59 (-1), Cond.methodLink RX2 61 yX0_clear, Cond.instanceMethod yX0_clear, Cond.selects RX0 yX0_clear yX0_clear, Cond.initialized RX0, Cond.code yX0_clear cX0_clear 3 none, Cond.fieldLink RX0 18 "HoleHouse$Basis" "leading" "J", Cond.fieldLink RX0 22 "HoleHouse$Basis" "rest" "J", Cond.fieldLink RX0 25 "HoleHouse$Basis" "count" "I", Cond.methodLink RX2 65 yX6_holds, Cond.static yX6_holds, Cond.code yX6_holds cX6_holds 3 (some .boolean), Cond.methodLink RX2 69 yX6_below, Cond.static yX6_below, Cond.code yX6_below cX6_below 4 (some .long), Cond.methodLink RX2 72 yX0_add, Cond.instanceMethod yX0_add, Cond.selects RX0 yX0_add yX0_add, Cond.code yX0_add cX0_add 5 (some .boolean)]
def wsX3_know_r3 : List Cond := [Cond.fieldLink RX0 15 "HoleHouse$Basis" "leads" "[J", Cond.fieldLink RX0 9 "HoleHouse$Basis" "rows" "[J", Cond.methodLink RX2 76 yJ6_bitCount_0f7a4, Cond.static yJ6_bitCount_0f7a4, Cond.initialized RJ6, Cond.code yJ6_bitCount_0f7a4 cJ6_bitCount_0f7a4 1 (some .int), Cond.constant RJ6 265 (1431655765), Cond.constant RJ6 266 (858993459), Cond.constant RJ6 267 (252645135), Cond.methodLink RX2 50 yX6_ofSize, Cond.static yX6_ofSize, Cond.code yX6_ofSize cX6_ofSize 1 (some .long), Cond.fieldLink RX6 9 "HoleHouse$Sets" "BY_SIZE" "[J", Cond.methodLink RX2 53 yJ13_bitCount_95d88, Cond.static yJ13_bitCount_95d88, Cond.initialized RJ13, Cond.code yJ13_bitCount_95d88 cJ13_bitCount_95d88 2 (some .int), Cond.constantLong RJ13 314 (6148914691236517205), Cond.constantLong RJ13 316 (3689348814741910323), Cond.constantLong RJ13 318 (1085102592571150095), Cond.methodLink RX3 47 yX3_seek, Cond.instanceMethod yX3_seek, Cond.selects RX3 yX3_seek yX3_seek, Cond.initialized RX3]
def wsX3_know_r4 : List Cond := [Cond.code yX3_seek cX3_seek 7 (some .boolean), Cond.methodLink RX3 55 yX3_seekIn, Cond.instanceMethod yX3_seekIn, Cond.selects RX3 yX3_seekIn yX3_seekIn, Cond.code yX3_seekIn cX3_seekIn 8 (some .boolean), Cond.fieldLink RX3 29 "HoleHouse$Products" "earliest" "[I", Cond.methodLink RX3 59 yX2_holesOf, Cond.instanceMethod yX2_holesOf, Cond.selects RX2 yX2_holesOf yX2_holesOf, Cond.code yX2_holesOf cX2_holesOf 4 (some .int), Cond.methodLink RX2 43 yX2_isDimension, Cond.static yX2_isDimension, Cond.code yX2_isDimension cX2_isDimension 1 (some .boolean), Cond.methodLink RX3 63 yX3_measure, Cond.instanceMethod yX3_measure, Cond.selects RX3 yX3_measure yX3_measure, Cond.code yX3_measure cX3_measure 16 (some .int), Cond.fieldLink RX3 22 "HoleHouse$Products" "left" "[J", Cond.fieldLink RX3 26 "HoleHouse$Products" "right" "[J", Cond.fieldLink RX3 18 "HoleHouse$Products" "basis" "LHoleHouse$Basis;", Cond.methodLink RX3 67 yX6_inside, Cond.methodLink RX3 73 yX3_fillClosed, Cond.instanceMethod yX3_fillClosed, Cond.selects RX3 yX3_fillClosed yX3_fillClosed]
def wsX3_know_r5 : List Cond := [Cond.code yX3_fillClosed cX3_fillClosed 13 (some .int), Cond.methodLink RX3 77 yX6_ofSize, Cond.methodLink RX3 92 yX0_clear, Cond.methodLink RX3 96 yX6_above, Cond.static yX6_above, Cond.code yX6_above cX6_above 4 (some .long), Cond.methodLink RX3 99 yX6_holds, Cond.methodLink RX3 88 yX0_add, Cond.methodLink RX3 103 yX0_remainder, Cond.instanceMethod yX0_remainder, Cond.selects RX0 yX0_remainder yX0_remainder, Cond.code yX0_remainder cX0_remainder 1 (some .long), Cond.methodLink RX3 80 yX3_addRises, Cond.instanceMethod yX3_addRises, Cond.selects RX3 yX3_addRises yX3_addRises, Cond.code yX3_addRises cX3_addRises 6 none, Cond.constantLong RX3 107 (-1), Cond.methodLink RX3 84 yX3_multiply, Cond.static yX3_multiply, Cond.code yX3_multiply cX3_multiply 11 (some .long)]
def wsX3_know : List Cond := .code yX3_know cX3_know 4 none :: ((wsX3_know_r1 ++ (wsX3_know_r2 ++ (wsX3_know_r3 ++ (wsX3_know_r4 ++ wsX3_know_r5)))) ++ wsX30 ++ wsX20 ++ wsX00)
def wsX3_arePlain : List Cond := .code yX3_arePlain cX3_arePlain 1 (some .boolean) :: ([.fieldLink RX3 51 "HoleHouse$Products" "plain" "Z"] ++ wsX30)
def wsX3_told : List Cond := .code yX3_told cX3_told 2 (some .int) :: ([.fieldLink RX3 51 "HoleHouse$Products" "plain" "Z", .fieldLink RX3 29 "HoleHouse$Products" "earliest" "[I"] ++ wsX30)
def wsX4_init : List Cond := .code yX4_init cX4_init 1 none :: ([.methodLink RX4 3 objectInit, .instanceMethod objectInit, .code objectInit ⟨#[0xb1]⟩ 1 none, .fieldLink RX4 9 "HoleHouse$Reader" "toldSets" "J"] ++ wsX40)
def wsX4_toldPoints : List Cond := .code yX4_toldPoints cX4_toldPoints 1 (some .int) :: ([.fieldLink RX4 15 "HoleHouse$Reader" "told" "I"] ++ wsX40)
def wsX4_toldFamily : List Cond := .code yX4_toldFamily cX4_toldFamily 1 (some .long) :: ([.fieldLink RX4 9 "HoleHouse$Reader" "toldSets" "J"] ++ wsX40)
def wsX5_size : List Cond := .code yX5_size cX5_size 1 (some .int) :: ([.fieldLink RX5 15 "HoleHouse$Row" "length" "I"] ++ wsX50)
def wsX5_at : List Cond := .code yX5_at cX5_at 2 (some .int) :: ([.fieldLink RX5 15 "HoleHouse$Row" "length" "I", .fieldLink RX5 9 "HoleHouse$Row" "bytes" "[I"] ++ wsX50)
def wsX4_isBlank : List Cond := .code yX4_isBlank cX4_isBlank 1 (some .boolean) :: ([])
def wsX4_behindBlanks : List Cond := .code yX4_behindBlanks cX4_behindBlanks 3 (some .int) :: ([.methodLink RX4 32 yX5_size, .instanceMethod yX5_size, .selects RX5 yX5_size yX5_size, .initialized RX5, .code yX5_size cX5_size 1 (some .int), .fieldLink RX5 15 "HoleHouse$Row" "length" "I", .methodLink RX4 23 yX5_at, .instanceMethod yX5_at, .selects RX5 yX5_at yX5_at, .code yX5_at cX5_at 2 (some .int), .fieldLink RX5 9 "HoleHouse$Row" "bytes" "[I", .methodLink RX4 36 yX4_isBlank, .static yX4_isBlank, .initialized RX4, .code yX4_isBlank cX4_isBlank 1 (some .boolean)] ++ wsX50)
def wsX4_parseFaces : List Cond := .code yX4_parseFaces cX4_parseFaces 8 (some .int) :: ([.fieldLink RX4 9 "HoleHouse$Reader" "toldSets" "J", .fieldLink RX4 15 "HoleHouse$Reader" "told" "I", .methodLink RX4 32 yX5_size, .instanceMethod yX5_size, .selects RX5 yX5_size yX5_size, .initialized RX5, .code yX5_size cX5_size 1 (some .int), .fieldLink RX5 15 "HoleHouse$Row" "length" "I", .methodLink RX4 23 yX5_at, .instanceMethod yX5_at, .selects RX5 yX5_at yX5_at, .code yX5_at cX5_at 2 (some .int), .fieldLink RX5 9 "HoleHouse$Row" "bytes" "[I", .methodLink RX4 36 yX4_isBlank, .static yX4_isBlank, .initialized RX4, .code yX4_isBlank cX4_isBlank 1 (some .boolean), .methodLink RX4 40 yX6_inside, .static yX6_inside, .initialized RX6, .code yX6_inside cX6_inside 4 (some .long), .methodLink RX6 15 yX6_hasPoint, .static yX6_hasPoint, .code yX6_hasPoint cX6_hasPoint 2 (some .boolean)] ++ wsX40 ++ wsX50)
def wsX4_parse_r1 : List Cond := [Cond.fieldLink RX4 15 "HoleHouse$Reader" "told" "I", Cond.methodLink RX4 19 yX4_behindBlanks, Cond.static yX4_behindBlanks, Cond.initialized RX4, Cond.code yX4_behindBlanks cX4_behindBlanks 3 (some .int), Cond.methodLink RX4 32 yX5_size, Cond.instanceMethod yX5_size, Cond.selects RX5 yX5_size yX5_size, Cond.initialized RX5, Cond.code yX5_size cX5_size 1 (some .int), Cond.fieldLink RX5 15 "HoleHouse$Row" "length" "I", Cond.methodLink RX4 23 yX5_at, Cond.instanceMethod yX5_at, Cond.selects RX5 yX5_at yX5_at, Cond.code yX5_at cX5_at 2 (some .int), Cond.fieldLink RX5 9 "HoleHouse$Row" "bytes" "[I", Cond.methodLink RX4 36 yX4_isBlank, Cond.static yX4_isBlank, Cond.code yX4_isBlank cX4_isBlank 1 (some .boolean), Cond.methodLink RX4 29 yX4_parseFaces, Cond.instanceMethod yX4_parseFaces, Cond.selects RX4 yX4_parseFaces yX4_parseFaces, Cond.code yX4_parseFaces cX4_parseFaces 8 (some .int), Cond.fieldLink RX4 9 "HoleHouse$Reader" "toldSets" "J"]
def wsX4_parse_r2 : List Cond := [Cond.methodLink RX4 40 yX6_inside, Cond.static yX6_inside, Cond.initialized RX6, Cond.code yX6_inside cX6_inside 4 (some .long), Cond.methodLink RX6 15 yX6_hasPoint, Cond.static yX6_hasPoint, Cond.code yX6_hasPoint cX6_hasPoint 2 (some .boolean)]
def wsX4_parse : List Cond := .code yX4_parse cX4_parse 4 (some .int) :: ((wsX4_parse_r1 ++ wsX4_parse_r2) ++ wsX40 ++ wsX50)
def wsX5_init : List Cond := .code yX5_init cX5_init 1 none :: ([.methodLink RX5 3 objectInit, .instanceMethod objectInit, .code objectInit ⟨#[0xb1]⟩ 1 none, .arrayClass .int, .fieldLink RX5 9 "HoleHouse$Row" "bytes" "[I"] ++ wsX50)
def wsX5_add : List Cond := .code yX5_add cX5_add 2 none :: ([.fieldLink RX5 15 "HoleHouse$Row" "length" "I", .fieldLink RX5 9 "HoleHouse$Row" "bytes" "[I"] ++ wsX50)
def wsX5_addNumber : List Cond := .code yX5_addNumber cX5_addNumber 2 none :: ([.methodLink RX5 19 yX5_add, .instanceMethod yX5_add, .selects RX5 yX5_add yX5_add, .initialized RX5, .code yX5_add cX5_add 2 none, .fieldLink RX5 15 "HoleHouse$Row" "length" "I", .fieldLink RX5 9 "HoleHouse$Row" "bytes" "[I"] ++ wsX50)
def wsX5_addDigitsOf : List Cond := .code yX5_addDigitsOf cX5_addDigitsOf 3 none :: ([.methodLink RX5 23 yX6_hasPoint, .static yX6_hasPoint, .initialized RX6, .code yX6_hasPoint cX6_hasPoint 2 (some .boolean), .methodLink RX5 19 yX5_add, .instanceMethod yX5_add, .selects RX5 yX5_add yX5_add, .initialized RX5, .code yX5_add cX5_add 2 none, .fieldLink RX5 15 "HoleHouse$Row" "length" "I", .fieldLink RX5 9 "HoleHouse$Row" "bytes" "[I"] ++ wsX50)
def wsX5_shorten : List Cond := .code yX5_shorten cX5_shorten 2 none :: ([.fieldLink RX5 15 "HoleHouse$Row" "length" "I"] ++ wsX50)
def wsX6_around : List Cond := .code yX6_around cX6_around 1 (some .long) :: ([.methodLink RX6 19 yX6_inside, .static yX6_inside, .initialized RX6, .code yX6_inside cX6_inside 4 (some .long), .methodLink RX6 15 yX6_hasPoint, .static yX6_hasPoint, .code yX6_hasPoint cX6_hasPoint 2 (some .boolean)])
def wsX6_spread : List Cond := .code yX6_spread cX6_spread 5 (some .int) :: ([.methodLink RX6 15 yX6_hasPoint, .static yX6_hasPoint, .initialized RX6, .code yX6_hasPoint cX6_hasPoint 2 (some .boolean)])
def wsX7_init : List Cond := .code yX7_init cX7_init 1 none :: ([.methodLink RX7 3 objectInit, .instanceMethod objectInit, .code objectInit ⟨#[0xb1]⟩ 1 none, .arrayClass .int, .fieldLink RX7 9 "HoleHouse$Turns" "images" "[I", .fieldLink RX7 15 "HoleHouse$Turns" "reached" "[I"] ++ wsX70)
def wsX7_tally : List Cond := .code yX7_tally cX7_tally 2 none :: ([.fieldLink RX7 26 "HoleHouse$Turns" "count" "I", .fieldLink RX7 18 "HoleHouse$Turns" "knownPoints" "I", .fieldLink RX7 15 "HoleHouse$Turns" "reached" "[I", .fieldLink RX7 9 "HoleHouse$Turns" "images" "[I"] ++ wsX70)
def wsX7_fits : List Cond := .code yX7_fits cX7_fits 6 (some .boolean) :: ([.fieldLink RX7 9 "HoleHouse$Turns" "images" "[I", .fieldLink RX7 22 "HoleHouse$Turns" "knownFamily" "J", .methodLink RX7 45 yX6_holds, .static yX6_holds, .initialized RX6, .code yX6_holds cX6_holds 3 (some .boolean)] ++ wsX70)
def wsX7_place : List Cond := .code yX7_place cX7_place 4 none :: ([.fieldLink RX7 18 "HoleHouse$Turns" "knownPoints" "I", .methodLink RX7 39 yX7_tally, .instanceMethod yX7_tally, .selects RX7 yX7_tally yX7_tally, .initialized RX7, .code yX7_tally cX7_tally 2 none, .fieldLink RX7 26 "HoleHouse$Turns" "count" "I", .fieldLink RX7 15 "HoleHouse$Turns" "reached" "[I", .fieldLink RX7 9 "HoleHouse$Turns" "images" "[I", .methodLink RX7 33 yX6_hasPoint, .static yX6_hasPoint, .initialized RX6, .code yX6_hasPoint cX6_hasPoint 2 (some .boolean), .methodLink RX7 42 yX7_fits, .instanceMethod yX7_fits, .selects RX7 yX7_fits yX7_fits, .code yX7_fits cX7_fits 6 (some .boolean), .fieldLink RX7 22 "HoleHouse$Turns" "knownFamily" "J", .methodLink RX7 45 yX6_holds, .static yX6_holds, .code yX6_holds cX6_holds 3 (some .boolean), .methodLink RX7 29 yX7_place, .static yX7_place] ++ wsX70)
def wsX7_know : List Cond := .code yX7_know cX7_know 5 none :: ([.fieldLink RX7 18 "HoleHouse$Turns" "knownPoints" "I", .fieldLink RX7 22 "HoleHouse$Turns" "knownFamily" "J", .fieldLink RX7 26 "HoleHouse$Turns" "count" "I", .fieldLink RX7 15 "HoleHouse$Turns" "reached" "[I", .methodLink RX7 29 yX7_place, .static yX7_place, .initialized RX7, .code yX7_place cX7_place 4 none, .methodLink RX7 39 yX7_tally, .instanceMethod yX7_tally, .selects RX7 yX7_tally yX7_tally, .code yX7_tally cX7_tally 2 none, .fieldLink RX7 9 "HoleHouse$Turns" "images" "[I", .methodLink RX7 33 yX6_hasPoint, .static yX6_hasPoint, .initialized RX6, .code yX6_hasPoint cX6_hasPoint 2 (some .boolean), .methodLink RX7 42 yX7_fits, .instanceMethod yX7_fits, .selects RX7 yX7_fits yX7_fits, .code yX7_fits cX7_fits 6 (some .boolean), .methodLink RX7 45 yX6_holds, .static yX6_holds, .code yX6_holds cX6_holds 3 (some .boolean)] ++ wsX70)
def wsX7_howMany : List Cond := .code yX7_howMany cX7_howMany 1 (some .int) :: ([.fieldLink RX7 26 "HoleHouse$Turns" "count" "I"] ++ wsX70)
def wsX7_bring : List Cond := .code yX7_bring cX7_bring 3 (some .boolean) :: ([.fieldLink RX7 15 "HoleHouse$Turns" "reached" "[I", .methodLink RX7 33 yX6_hasPoint, .static yX6_hasPoint, .initialized RX6, .code yX6_hasPoint cX6_hasPoint 2 (some .boolean)] ++ wsX70)
def wsX7_classes : List Cond := .code yX7_classes cX7_classes 3 (some .int) :: ([.fieldLink RX7 18 "HoleHouse$Turns" "knownPoints" "I", .fieldLink RX7 15 "HoleHouse$Turns" "reached" "[I"] ++ wsX70)
def wsX8_init_r1 : List Cond := [Cond.methodLink RX8 1 objectInit, Cond.instanceMethod objectInit, Cond.code objectInit ⟨#[0xb1]⟩ 1 none, Cond.classLink RX8 7 RX1, Cond.instantiable RX1 3, Cond.initialized RX1, Cond.fieldLink RX8 10 "HoleHouse" "history" "LHoleHouse$History;", Cond.classLink RX8 16 RX5, Cond.instantiable RX5 2, Cond.initialized RX5, Cond.fieldLink RX8 19 "HoleHouse" "tape" "LHoleHouse$Row;", Cond.fieldLink RX8 23 "HoleHouse" "output" "LHoleHouse$Row;", Cond.classLink RX8 26 RX4, Cond.instantiable RX4 2, Cond.initialized RX4, Cond.fieldLink RX8 29 "HoleHouse" "reader" "LHoleHouse$Reader;", Cond.classLink RX8 33 RX2, Cond.instantiable RX2 5, Cond.initialized RX2, Cond.fieldLink RX8 36 "HoleHouse" "parts" "LHoleHouse$Parts;", Cond.classLink RX8 40 RX3, Cond.instantiable RX3 8, Cond.initialized RX3, Cond.fieldLink RX8 45 "HoleHouse" "products" "LHoleHouse$Products;"]
def wsX8_init_r2 : List Cond := [Cond.classLink RX8 49 RX7, Cond.instantiable RX7 5, Cond.initialized RX7, Cond.fieldLink RX8 52 "HoleHouse" "turns" "LHoleHouse$Turns;", Cond.fieldLink RX8 56 "HoleHouse" "points" "I", Cond.fieldLink RX8 60 "HoleHouse" "family" "J", Cond.fieldLink RX8 64 "HoleHouse" "faultPlace" "I", Cond.methodLink RX8 9 yX1_init, Cond.instanceMethod yX1_init, Cond.code yX1_init cX1_init 1 none, Cond.methodLink RX1 3 objectInit, Cond.arrayClass .int, Cond.fieldLink RX1 11 "HoleHouse$History" "keptPoints" "[I", Cond.arrayClass .long, Cond.fieldLink RX1 15 "HoleHouse$History" "keptFamilies" "[J", Cond.methodLink RX8 18 yX5_init, Cond.instanceMethod yX5_init, Cond.code yX5_init cX5_init 1 none, Cond.methodLink RX5 3 objectInit, Cond.fieldLink RX5 9 "HoleHouse$Row" "bytes" "[I", Cond.methodLink RX8 28 yX4_init, Cond.instanceMethod yX4_init, Cond.code yX4_init cX4_init 1 none, Cond.methodLink RX4 3 objectInit]
def wsX8_init_r3 : List Cond := [Cond.fieldLink RX4 9 "HoleHouse$Reader" "toldSets" "J", Cond.methodLink RX8 35 yX2_init, Cond.instanceMethod yX2_init, Cond.code yX2_init cX2_init 1 none, Cond.methodLink RX2 3 objectInit, Cond.fieldLink RX2 11 "HoleHouse$Parts" "counts" "[I", Cond.fieldLink RX2 15 "HoleHouse$Parts" "borders" "[I", Cond.classLink RX2 18 RX0, Cond.instantiable RX0 5, Cond.initialized RX0, Cond.fieldLink RX2 21 "HoleHouse$Parts" "basis" "LHoleHouse$Basis;", Cond.methodLink RX2 20 yX0_init, Cond.instanceMethod yX0_init, Cond.code yX0_init cX0_init 1 none, Cond.methodLink RX0 3 objectInit, Cond.fieldLink RX0 9 "HoleHouse$Basis" "rows" "[J", Cond.fieldLink RX0 15 "HoleHouse$Basis" "leads" "[J", Cond.methodLink RX8 42 yX3_init, Cond.instanceMethod yX3_init, Cond.code yX3_init cX3_init 2 none, Cond.methodLink RX3 3 objectInit, Cond.fieldLink RX3 9 "HoleHouse$Products" "parts" "LHoleHouse$Parts;", Cond.classLink RX3 15 RX0, Cond.fieldLink RX3 18 "HoleHouse$Products" "basis" "LHoleHouse$Basis;"]
def wsX8_init_r4 : List Cond := [Cond.fieldLink RX3 22 "HoleHouse$Products" "left" "[J", Cond.fieldLink RX3 26 "HoleHouse$Products" "right" "[J", Cond.fieldLink RX3 29 "HoleHouse$Products" "earliest" "[I", Cond.methodLink RX3 17 yX0_init, Cond.methodLink RX8 51 yX7_init, Cond.instanceMethod yX7_init, Cond.code yX7_init cX7_init 1 none, Cond.methodLink RX7 3 objectInit, Cond.fieldLink RX7 9 "HoleHouse$Turns" "images" "[I", Cond.fieldLink RX7 15 "HoleHouse$Turns" "reached" "[I"]
def wsX8_init : List Cond := .code yX8_init cX8_init 1 none :: ((wsX8_init_r1 ++ (wsX8_init_r2 ++ (wsX8_init_r3 ++ wsX8_init_r4))) ++ wsX10 ++ wsX80 ++ wsX50 ++ wsX40 ++ wsX20 ++ wsX30 ++ wsX70 ++ wsX00)
def wsX8_change : List Cond := .code yX8_change cX8_change 4 none :: ([.fieldLink RX8 10 "HoleHouse" "history" "LHoleHouse$History;", .fieldLink RX8 56 "HoleHouse" "points" "I", .fieldLink RX8 60 "HoleHouse" "family" "J", .methodLink RX8 202 yX1_keep, .instanceMethod yX1_keep, .selects RX1 yX1_keep yX1_keep, .initialized RX1, .code yX1_keep cX1_keep 4 none, .fieldLink RX1 19 "HoleHouse$History" "count" "I", .fieldLink RX1 11 "HoleHouse$History" "keptPoints" "[I", .methodLink RX1 23 arraycopyName, .native arraycopyName, .static arraycopyName, .initialized "java/lang/System", .fieldLink RX1 15 "HoleHouse$History" "keptFamilies" "[J"] ++ wsX80 ++ wsX10)
def wsX8_points : List Cond := .code yX8_points cX8_points 2 (some .boolean) :: ([.methodLink RX8 67 yX8_change, .instanceMethod yX8_change, .selects RX8 yX8_change yX8_change, .initialized RX8, .code yX8_change cX8_change 4 none, .fieldLink RX8 10 "HoleHouse" "history" "LHoleHouse$History;", .fieldLink RX8 56 "HoleHouse" "points" "I", .fieldLink RX8 60 "HoleHouse" "family" "J", .methodLink RX8 202 yX1_keep, .instanceMethod yX1_keep, .selects RX1 yX1_keep yX1_keep, .initialized RX1, .code yX1_keep cX1_keep 4 none, .fieldLink RX1 19 "HoleHouse$History" "count" "I", .fieldLink RX1 11 "HoleHouse$History" "keptPoints" "[I", .methodLink RX1 23 arraycopyName, .native arraycopyName, .static arraycopyName, .initialized "java/lang/System", .fieldLink RX1 15 "HoleHouse$History" "keptFamilies" "[J"] ++ wsX80 ++ wsX10)
def wsX8_allPoints : List Cond := .code yX8_allPoints cX8_allPoints 1 (some .int) :: ([.fieldLink RX8 56 "HoleHouse" "points" "I"] ++ wsX80)
def wsX8_isSet : List Cond := .code yX8_isSet cX8_isSet 2 (some .boolean) :: ([.methodLink RX8 95 yX8_allPoints, .instanceMethod yX8_allPoints, .selects RX8 yX8_allPoints yX8_allPoints, .initialized RX8, .code yX8_allPoints cX8_allPoints 1 (some .int), .fieldLink RX8 56 "HoleHouse" "points" "I"] ++ wsX80)
def wsX8_face_r1 : List Cond := [Cond.fieldLink RX8 60 "HoleHouse" "family" "J", Cond.fieldLink RX8 56 "HoleHouse" "points" "I", Cond.methodLink RX8 71 yX8_isSet, Cond.instanceMethod yX8_isSet, Cond.selects RX8 yX8_isSet yX8_isSet, Cond.initialized RX8, Cond.code yX8_isSet cX8_isSet 2 (some .boolean), Cond.methodLink RX8 95 yX8_allPoints, Cond.instanceMethod yX8_allPoints, Cond.selects RX8 yX8_allPoints yX8_allPoints, Cond.code yX8_allPoints cX8_allPoints 1 (some .int), Cond.methodLink RX8 75 yJ13_bitCount_95d88, Cond.static yJ13_bitCount_95d88, Cond.initialized RJ13, Cond.code yJ13_bitCount_95d88 cJ13_bitCount_95d88 2 (some .int), Cond.constantLong RJ13 314 (6148914691236517205), Cond.constantLong RJ13 316 (3689348814741910323), Cond.constantLong RJ13 318 (1085102592571150095), Cond.methodLink RX8 81 yX6_inside, Cond.static yX6_inside, Cond.initialized RX6, Cond.code yX6_inside cX6_inside 4 (some .long), Cond.methodLink RX6 15 yX6_hasPoint, Cond.static yX6_hasPoint]
def wsX8_face_r2 : List Cond := [Cond.code yX6_hasPoint cX6_hasPoint 2 (some .boolean), Cond.methodLink RX8 67 yX8_change, Cond.instanceMethod yX8_change, Cond.selects RX8 yX8_change yX8_change, Cond.code yX8_change cX8_change 4 none, Cond.fieldLink RX8 10 "HoleHouse" "history" "LHoleHouse$History;", Cond.methodLink RX8 202 yX1_keep, Cond.instanceMethod yX1_keep, Cond.selects RX1 yX1_keep yX1_keep, Cond.initialized RX1, Cond.code yX1_keep cX1_keep 4 none, Cond.fieldLink RX1 19 "HoleHouse$History" "count" "I", Cond.fieldLink RX1 11 "HoleHouse$History" "keptPoints" "[I", Cond.methodLink RX1 23 arraycopyName, Cond.native arraycopyName, Cond.static arraycopyName, Cond.initialized "java/lang/System", Cond.fieldLink RX1 15 "HoleHouse$History" "keptFamilies" "[J"]
def wsX8_face : List Cond := .code yX8_face cX8_face 3 (some .int) :: ((wsX8_face_r1 ++ wsX8_face_r2) ++ wsX80 ++ wsX10)
def wsX8_isNonemptyFace : List Cond := .code yX8_isNonemptyFace cX8_isNonemptyFace 2 (some .boolean) :: ([.fieldLink RX8 60 "HoleHouse" "family" "J", .methodLink RX8 71 yX8_isSet, .instanceMethod yX8_isSet, .selects RX8 yX8_isSet yX8_isSet, .initialized RX8, .code yX8_isSet cX8_isSet 2 (some .boolean), .methodLink RX8 95 yX8_allPoints, .instanceMethod yX8_allPoints, .selects RX8 yX8_allPoints yX8_allPoints, .code yX8_allPoints cX8_allPoints 1 (some .int), .fieldLink RX8 56 "HoleHouse" "points" "I", .methodLink RX8 108 yX6_holds, .static yX6_holds, .initialized RX6, .code yX6_holds cX6_holds 3 (some .boolean)] ++ wsX80)
def wsX8_cut_r1 : List Cond := [Cond.fieldLink RX8 60 "HoleHouse" "family" "J", Cond.fieldLink RX8 56 "HoleHouse" "points" "I", Cond.constantLong RX8 93 (-1), Cond.methodLink RX8 87 yX8_isNonemptyFace, Cond.instanceMethod yX8_isNonemptyFace, Cond.selects RX8 yX8_isNonemptyFace yX8_isNonemptyFace, Cond.initialized RX8, Cond.code yX8_isNonemptyFace cX8_isNonemptyFace 2 (some .boolean), Cond.methodLink RX8 71 yX8_isSet, Cond.instanceMethod yX8_isSet, Cond.selects RX8 yX8_isSet yX8_isSet, Cond.code yX8_isSet cX8_isSet 2 (some .boolean), Cond.methodLink RX8 95 yX8_allPoints, Cond.instanceMethod yX8_allPoints, Cond.selects RX8 yX8_allPoints yX8_allPoints, Cond.code yX8_allPoints cX8_allPoints 1 (some .int), Cond.methodLink RX8 108 yX6_holds, Cond.static yX6_holds, Cond.initialized RX6, Cond.code yX6_holds cX6_holds 3 (some .boolean), Cond.methodLink RX8 75 yJ13_bitCount_95d88, Cond.static yJ13_bitCount_95d88, Cond.initialized RJ13, Cond.code yJ13_bitCount_95d88 cJ13_bitCount_95d88 2 (some .int)]
def wsX8_cut_r2 : List Cond := [Cond.constantLong RJ13 314 (6148914691236517205), Cond.constantLong RJ13 316 (3689348814741910323), Cond.constantLong RJ13 318 (1085102592571150095), Cond.methodLink RX8 90 yX6_around, Cond.static yX6_around, Cond.code yX6_around cX6_around 1 (some .long), Cond.methodLink RX6 19 yX6_inside, Cond.static yX6_inside, Cond.code yX6_inside cX6_inside 4 (some .long), Cond.methodLink RX6 15 yX6_hasPoint, Cond.static yX6_hasPoint, Cond.code yX6_hasPoint cX6_hasPoint 2 (some .boolean), Cond.methodLink RX8 67 yX8_change, Cond.instanceMethod yX8_change, Cond.selects RX8 yX8_change yX8_change, Cond.code yX8_change cX8_change 4 none, Cond.fieldLink RX8 10 "HoleHouse" "history" "LHoleHouse$History;", Cond.methodLink RX8 202 yX1_keep, Cond.instanceMethod yX1_keep, Cond.selects RX1 yX1_keep yX1_keep, Cond.initialized RX1, Cond.code yX1_keep cX1_keep 4 none, Cond.fieldLink RX1 19 "HoleHouse$History" "count" "I", Cond.fieldLink RX1 11 "HoleHouse$History" "keptPoints" "[I"]
def wsX8_cut_r3 : List Cond := [Cond.methodLink RX1 23 arraycopyName, Cond.native arraycopyName, Cond.static arraycopyName, Cond.initialized "java/lang/System", Cond.fieldLink RX1 15 "HoleHouse$History" "keptFamilies" "[J"]
def wsX8_cut : List Cond := .code yX8_cut cX8_cut 3 (some .int) :: ((wsX8_cut_r1 ++ (wsX8_cut_r2 ++ wsX8_cut_r3)) ++ wsX80 ++ wsX10)
def wsX8_link_r1 : List Cond := [Cond.fieldLink RX8 60 "HoleHouse" "family" "J", Cond.methodLink RX8 87 yX8_isNonemptyFace, Cond.instanceMethod yX8_isNonemptyFace, Cond.selects RX8 yX8_isNonemptyFace yX8_isNonemptyFace, Cond.initialized RX8, Cond.code yX8_isNonemptyFace cX8_isNonemptyFace 2 (some .boolean), Cond.methodLink RX8 71 yX8_isSet, Cond.instanceMethod yX8_isSet, Cond.selects RX8 yX8_isSet yX8_isSet, Cond.code yX8_isSet cX8_isSet 2 (some .boolean), Cond.methodLink RX8 95 yX8_allPoints, Cond.instanceMethod yX8_allPoints, Cond.selects RX8 yX8_allPoints yX8_allPoints, Cond.code yX8_allPoints cX8_allPoints 1 (some .int), Cond.fieldLink RX8 56 "HoleHouse" "points" "I", Cond.methodLink RX8 108 yX6_holds, Cond.static yX6_holds, Cond.initialized RX6, Cond.code yX6_holds cX6_holds 3 (some .boolean), Cond.methodLink RX8 99 yJ6_bitCount_0f7a4, Cond.static yJ6_bitCount_0f7a4, Cond.initialized RJ6, Cond.code yJ6_bitCount_0f7a4 cJ6_bitCount_0f7a4 1 (some .int), Cond.constant RJ6 265 (1431655765)]
def wsX8_link_r2 : List Cond := [Cond.constant RJ6 266 (858993459), Cond.constant RJ6 267 (252645135), Cond.methodLink RX8 104 yX6_spread, Cond.static yX6_spread, Cond.code yX6_spread cX6_spread 5 (some .int), Cond.methodLink RX6 15 yX6_hasPoint, Cond.static yX6_hasPoint, Cond.code yX6_hasPoint cX6_hasPoint 2 (some .boolean), Cond.methodLink RX8 67 yX8_change, Cond.instanceMethod yX8_change, Cond.selects RX8 yX8_change yX8_change, Cond.code yX8_change cX8_change 4 none, Cond.fieldLink RX8 10 "HoleHouse" "history" "LHoleHouse$History;", Cond.methodLink RX8 202 yX1_keep, Cond.instanceMethod yX1_keep, Cond.selects RX1 yX1_keep yX1_keep, Cond.initialized RX1, Cond.code yX1_keep cX1_keep 4 none, Cond.fieldLink RX1 19 "HoleHouse$History" "count" "I", Cond.fieldLink RX1 11 "HoleHouse$History" "keptPoints" "[I", Cond.methodLink RX1 23 arraycopyName, Cond.native arraycopyName, Cond.static arraycopyName, Cond.initialized "java/lang/System"]
def wsX8_link_r3 : List Cond := [Cond.fieldLink RX1 15 "HoleHouse$History" "keptFamilies" "[J"]
def wsX8_link : List Cond := .code yX8_link cX8_link 7 (some .int) :: ((wsX8_link_r1 ++ (wsX8_link_r2 ++ wsX8_link_r3)) ++ wsX80 ++ wsX10)
def wsX8_dual_r1 : List Cond := [Cond.fieldLink RX8 60 "HoleHouse" "family" "J", Cond.fieldLink RX8 56 "HoleHouse" "points" "I", Cond.methodLink RX8 95 yX8_allPoints, Cond.instanceMethod yX8_allPoints, Cond.selects RX8 yX8_allPoints yX8_allPoints, Cond.initialized RX8, Cond.code yX8_allPoints cX8_allPoints 1 (some .int), Cond.methodLink RX8 108 yX6_holds, Cond.static yX6_holds, Cond.initialized RX6, Cond.code yX6_holds cX6_holds 3 (some .boolean), Cond.methodLink RX8 67 yX8_change, Cond.instanceMethod yX8_change, Cond.selects RX8 yX8_change yX8_change, Cond.code yX8_change cX8_change 4 none, Cond.fieldLink RX8 10 "HoleHouse" "history" "LHoleHouse$History;", Cond.methodLink RX8 202 yX1_keep, Cond.instanceMethod yX1_keep, Cond.selects RX1 yX1_keep yX1_keep, Cond.initialized RX1, Cond.code yX1_keep cX1_keep 4 none, Cond.fieldLink RX1 19 "HoleHouse$History" "count" "I", Cond.fieldLink RX1 11 "HoleHouse$History" "keptPoints" "[I", Cond.methodLink RX1 23 arraycopyName]
def wsX8_dual_r2 : List Cond := [Cond.native arraycopyName, Cond.static arraycopyName, Cond.initialized "java/lang/System", Cond.fieldLink RX1 15 "HoleHouse$History" "keptFamilies" "[J"]
def wsX8_dual : List Cond := .code yX8_dual cX8_dual 5 (some .boolean) :: ((wsX8_dual_r1 ++ wsX8_dual_r2) ++ wsX80 ++ wsX10)
def wsX8_undo : List Cond := .code yX8_undo cX8_undo 1 (some .boolean) :: ([.fieldLink RX8 10 "HoleHouse" "history" "LHoleHouse$History;", .fieldLink RX8 56 "HoleHouse" "points" "I", .fieldLink RX8 60 "HoleHouse" "family" "J", .methodLink RX8 112 yX1_drop, .instanceMethod yX1_drop, .selects RX1 yX1_drop yX1_drop, .initialized RX1, .code yX1_drop cX1_drop 1 (some .boolean), .fieldLink RX1 19 "HoleHouse$History" "count" "I", .methodLink RX8 116 yX1_droppedPoints, .instanceMethod yX1_droppedPoints, .selects RX1 yX1_droppedPoints yX1_droppedPoints, .code yX1_droppedPoints cX1_droppedPoints 1 (some .int), .fieldLink RX1 11 "HoleHouse$History" "keptPoints" "[I", .methodLink RX8 119 yX1_droppedFamily, .instanceMethod yX1_droppedFamily, .selects RX1 yX1_droppedFamily yX1_droppedFamily, .code yX1_droppedFamily cX1_droppedFamily 1 (some .long), .fieldLink RX1 15 "HoleHouse$History" "keptFamilies" "[J"] ++ wsX80 ++ wsX10)
def wsX8_greatestDimension : List Cond := .code yX8_greatestDimension cX8_greatestDimension 2 (some .int) :: ([.fieldLink RX8 60 "HoleHouse" "family" "J", .methodLink RX8 129 yX6_ofSize, .static yX6_ofSize, .initialized RX6, .code yX6_ofSize cX6_ofSize 1 (some .long), .fieldLink RX6 9 "HoleHouse$Sets" "BY_SIZE" "[J"] ++ wsX80)
def wsX8_missingFamily : List Cond := .code yX8_missingFamily cX8_missingFamily 4 (some .long) :: ([.fieldLink RX8 60 "HoleHouse" "family" "J", .constantLong RX8 93 (-1), .methodLink RX8 95 yX8_allPoints, .instanceMethod yX8_allPoints, .selects RX8 yX8_allPoints yX8_allPoints, .initialized RX8, .code yX8_allPoints cX8_allPoints 1 (some .int), .fieldLink RX8 56 "HoleHouse" "points" "I", .methodLink RX8 108 yX6_holds, .static yX6_holds, .initialized RX6, .code yX6_holds cX6_holds 3 (some .boolean), .methodLink RX8 205 yX6_below, .static yX6_below, .code yX6_below cX6_below 4 (some .long), .methodLink RX6 15 yX6_hasPoint, .static yX6_hasPoint, .code yX6_hasPoint cX6_hasPoint 2 (some .boolean)] ++ wsX80)
def wsX8_asNumber : List Cond := .code yX8_asNumber cX8_asNumber 1 (some .int) :: ([])
def wsX8_look_r1 : List Cond := [Cond.fieldLink RX8 56 "HoleHouse" "points" "I", Cond.fieldLink RX8 60 "HoleHouse" "family" "J", Cond.constantLong RX8 93 (-1), Cond.fieldLink RX8 45 "HoleHouse" "products" "LHoleHouse$Products;", Cond.fieldLink RX8 52 "HoleHouse" "turns" "LHoleHouse$Turns;", Cond.methodLink RX8 75 yJ13_bitCount_95d88, Cond.static yJ13_bitCount_95d88, Cond.initialized RJ13, Cond.code yJ13_bitCount_95d88 cJ13_bitCount_95d88 2 (some .int), Cond.constantLong RJ13 314 (6148914691236517205), Cond.constantLong RJ13 316 (3689348814741910323), Cond.constantLong RJ13 318 (1085102592571150095), Cond.methodLink RX8 123 yX8_greatestDimension, Cond.instanceMethod yX8_greatestDimension, Cond.selects RX8 yX8_greatestDimension yX8_greatestDimension, Cond.initialized RX8, Cond.code yX8_greatestDimension cX8_greatestDimension 2 (some .int), Cond.methodLink RX8 129 yX6_ofSize, Cond.static yX6_ofSize, Cond.initialized RX6, Cond.code yX6_ofSize cX6_ofSize 1 (some .long), Cond.fieldLink RX6 9 "HoleHouse$Sets" "BY_SIZE" "[J", Cond.methodLink RX8 126 yX8_missingFamily, Cond.instanceMethod yX8_missingFamily]
def wsX8_look_r2 : List Cond := [Cond.selects RX8 yX8_missingFamily yX8_missingFamily, Cond.code yX8_missingFamily cX8_missingFamily 4 (some .long), Cond.methodLink RX8 95 yX8_allPoints, Cond.instanceMethod yX8_allPoints, Cond.selects RX8 yX8_allPoints yX8_allPoints, Cond.code yX8_allPoints cX8_allPoints 1 (some .int), Cond.methodLink RX8 108 yX6_holds, Cond.static yX6_holds, Cond.code yX6_holds cX6_holds 3 (some .boolean), Cond.methodLink RX8 205 yX6_below, Cond.static yX6_below, Cond.code yX6_below cX6_below 4 (some .long), Cond.methodLink RX6 15 yX6_hasPoint, Cond.static yX6_hasPoint, Cond.code yX6_hasPoint cX6_hasPoint 2 (some .boolean), Cond.methodLink RX8 132 yX8_asNumber, Cond.static yX8_asNumber, Cond.code yX8_asNumber cX8_asNumber 1 (some .int), Cond.methodLink RX8 136 yX3_know, Cond.instanceMethod yX3_know, Cond.selects RX3 yX3_know yX3_know, Cond.initialized RX3, Cond.code yX3_know cX3_know 4 none, Cond.fieldLink RX3 33 "HoleHouse$Products" "knownPoints" "I"]
def wsX8_look_r3 : List Cond := [Cond.fieldLink RX3 37 "HoleHouse$Products" "knownFamily" "J", Cond.fieldLink RX3 9 "HoleHouse$Products" "parts" "LHoleHouse$Parts;", Cond.fieldLink RX3 51 "HoleHouse$Products" "plain" "Z", Cond.methodLink RX3 41 yX2_know, Cond.instanceMethod yX2_know, Cond.selects RX2 yX2_know yX2_know, Cond.initialized RX2, Cond.code yX2_know cX2_know 5 none, Cond.fieldLink RX2 25 "HoleHouse$Parts" "knownPoints" "I", Cond.fieldLink RX2 29 "HoleHouse$Parts" "knownFamily" "J", Cond.methodLink RX2 33 yX6_inside, Cond.static yX6_inside, Cond.code yX6_inside cX6_inside 4 (some .long), Cond.methodLink RX2 39 yX2_countHoles, Cond.instanceMethod yX2_countHoles, Cond.selects RX2 yX2_countHoles yX2_countHoles, Cond.code yX2_countHoles cX2_countHoles 6 none, Cond.fieldLink RX2 11 "HoleHouse$Parts" "counts" "[I", Cond.fieldLink RX2 15 "HoleHouse$Parts" "borders" "[I", Cond.methodLink RX2 47 yX2_countBorders, Cond.instanceMethod yX2_countBorders, Cond.selects RX2 yX2_countBorders yX2_countBorders, Cond.code yX2_countBorders cX2_countBorders 5 none, Cond.fieldLink RX2 21 "HoleHouse$Parts" "basis" "LHoleHouse$Basis;"]
def wsX8_look_r4 : List Cond := [Cond.constantLong RX2 59 (-1), Cond.methodLink RX2 61 yX0_clear, Cond.instanceMethod yX0_clear, Cond.selects RX0 yX0_clear yX0_clear, Cond.initialized RX0, Cond.code yX0_clear cX0_clear 3 none, Cond.fieldLink RX0 18 "HoleHouse$Basis" "leading" "J", Cond.fieldLink RX0 22 "HoleHouse$Basis" "rest" "J", Cond.fieldLink RX0 25 "HoleHouse$Basis" "count" "I", Cond.methodLink RX2 65 yX6_holds, Cond.methodLink RX2 69 yX6_below, Cond.methodLink RX2 72 yX0_add, Cond.instanceMethod yX0_add, Cond.selects RX0 yX0_add yX0_add, Cond.code yX0_add cX0_add 5 (some .boolean), Cond.fieldLink RX0 15 "HoleHouse$Basis" "leads" "[J", Cond.fieldLink RX0 9 "HoleHouse$Basis" "rows" "[J", Cond.methodLink RX2 76 yJ6_bitCount_0f7a4, Cond.static yJ6_bitCount_0f7a4, Cond.initialized RJ6, Cond.code yJ6_bitCount_0f7a4 cJ6_bitCount_0f7a4 1 (some .int), Cond.constant RJ6 265 (1431655765), Cond.constant RJ6 266 (858993459), Cond.constant RJ6 267 (252645135)]
def wsX8_look_r5 : List Cond := [Cond.methodLink RX2 50 yX6_ofSize, Cond.methodLink RX2 53 yJ13_bitCount_95d88, Cond.methodLink RX3 47 yX3_seek, Cond.instanceMethod yX3_seek, Cond.selects RX3 yX3_seek yX3_seek, Cond.code yX3_seek cX3_seek 7 (some .boolean), Cond.methodLink RX3 55 yX3_seekIn, Cond.instanceMethod yX3_seekIn, Cond.selects RX3 yX3_seekIn yX3_seekIn, Cond.code yX3_seekIn cX3_seekIn 8 (some .boolean), Cond.fieldLink RX3 29 "HoleHouse$Products" "earliest" "[I", Cond.methodLink RX3 59 yX2_holesOf, Cond.instanceMethod yX2_holesOf, Cond.selects RX2 yX2_holesOf yX2_holesOf, Cond.code yX2_holesOf cX2_holesOf 4 (some .int), Cond.methodLink RX2 43 yX2_isDimension, Cond.static yX2_isDimension, Cond.code yX2_isDimension cX2_isDimension 1 (some .boolean), Cond.methodLink RX3 63 yX3_measure, Cond.instanceMethod yX3_measure, Cond.selects RX3 yX3_measure yX3_measure, Cond.code yX3_measure cX3_measure 16 (some .int), Cond.fieldLink RX3 22 "HoleHouse$Products" "left" "[J", Cond.fieldLink RX3 26 "HoleHouse$Products" "right" "[J"]
def wsX8_look_r6 : List Cond := [Cond.fieldLink RX3 18 "HoleHouse$Products" "basis" "LHoleHouse$Basis;", Cond.methodLink RX3 67 yX6_inside, Cond.methodLink RX3 73 yX3_fillClosed, Cond.instanceMethod yX3_fillClosed, Cond.selects RX3 yX3_fillClosed yX3_fillClosed, Cond.code yX3_fillClosed cX3_fillClosed 13 (some .int), Cond.methodLink RX3 77 yX6_ofSize, Cond.methodLink RX3 92 yX0_clear, Cond.methodLink RX3 96 yX6_above, Cond.static yX6_above, Cond.code yX6_above cX6_above 4 (some .long), Cond.methodLink RX3 99 yX6_holds, Cond.methodLink RX3 88 yX0_add, Cond.methodLink RX3 103 yX0_remainder, Cond.instanceMethod yX0_remainder, Cond.selects RX0 yX0_remainder yX0_remainder, Cond.code yX0_remainder cX0_remainder 1 (some .long), Cond.methodLink RX3 80 yX3_addRises, Cond.instanceMethod yX3_addRises, Cond.selects RX3 yX3_addRises yX3_addRises, Cond.code yX3_addRises cX3_addRises 6 none, Cond.constantLong RX3 107 (-1), Cond.methodLink RX3 84 yX3_multiply, Cond.static yX3_multiply]
def wsX8_look_r7 : List Cond := [Cond.code yX3_multiply cX3_multiply 11 (some .long), Cond.methodLink RX8 139 yX3_arePlain, Cond.instanceMethod yX3_arePlain, Cond.selects RX3 yX3_arePlain yX3_arePlain, Cond.code yX3_arePlain cX3_arePlain 1 (some .boolean), Cond.methodLink RX8 142 yX7_know, Cond.instanceMethod yX7_know, Cond.selects RX7 yX7_know yX7_know, Cond.initialized RX7, Cond.code yX7_know cX7_know 5 none, Cond.fieldLink RX7 18 "HoleHouse$Turns" "knownPoints" "I", Cond.fieldLink RX7 22 "HoleHouse$Turns" "knownFamily" "J", Cond.fieldLink RX7 26 "HoleHouse$Turns" "count" "I", Cond.fieldLink RX7 15 "HoleHouse$Turns" "reached" "[I", Cond.methodLink RX7 29 yX7_place, Cond.static yX7_place, Cond.code yX7_place cX7_place 4 none, Cond.methodLink RX7 39 yX7_tally, Cond.instanceMethod yX7_tally, Cond.selects RX7 yX7_tally yX7_tally, Cond.code yX7_tally cX7_tally 2 none, Cond.fieldLink RX7 9 "HoleHouse$Turns" "images" "[I", Cond.methodLink RX7 33 yX6_hasPoint, Cond.methodLink RX7 42 yX7_fits]
def wsX8_look_r8 : List Cond := [Cond.instanceMethod yX7_fits, Cond.selects RX7 yX7_fits yX7_fits, Cond.code yX7_fits cX7_fits 6 (some .boolean), Cond.methodLink RX7 45 yX6_holds, Cond.methodLink RX8 143 yX7_howMany, Cond.instanceMethod yX7_howMany, Cond.selects RX7 yX7_howMany yX7_howMany, Cond.code yX7_howMany cX7_howMany 1 (some .int), Cond.methodLink RX8 146 yX7_classes, Cond.instanceMethod yX7_classes, Cond.selects RX7 yX7_classes yX7_classes, Cond.code yX7_classes cX7_classes 3 (some .int)]
def wsX8_look : List Cond := .code yX8_look cX8_look 2 (some .int) :: ((wsX8_look_r1 ++ (wsX8_look_r2 ++ (wsX8_look_r3 ++ (wsX8_look_r4 ++ (wsX8_look_r5 ++ (wsX8_look_r6 ++ (wsX8_look_r7 ++ wsX8_look_r8))))))) ++ wsX80 ++ wsX30 ++ wsX20 ++ wsX00 ++ wsX70)
def wsX8_has : List Cond := .code yX8_has cX8_has 2 (some .int) :: ([.fieldLink RX8 60 "HoleHouse" "family" "J", .methodLink RX8 71 yX8_isSet, .instanceMethod yX8_isSet, .selects RX8 yX8_isSet yX8_isSet, .initialized RX8, .code yX8_isSet cX8_isSet 2 (some .boolean), .methodLink RX8 95 yX8_allPoints, .instanceMethod yX8_allPoints, .selects RX8 yX8_allPoints yX8_allPoints, .code yX8_allPoints cX8_allPoints 1 (some .int), .fieldLink RX8 56 "HoleHouse" "points" "I", .methodLink RX8 108 yX6_holds, .static yX6_holds, .initialized RX6, .code yX6_holds cX6_holds 3 (some .boolean), .methodLink RX8 132 yX8_asNumber, .static yX8_asNumber, .code yX8_asNumber cX8_asNumber 1 (some .int)] ++ wsX80)
def wsX8_faces : List Cond := .code yX8_faces cX8_faces 2 (some .int) :: ([.fieldLink RX8 60 "HoleHouse" "family" "J", .methodLink RX8 149 yX2_isDimension, .static yX2_isDimension, .initialized RX2, .code yX2_isDimension cX2_isDimension 1 (some .boolean), .methodLink RX8 129 yX6_ofSize, .static yX6_ofSize, .initialized RX6, .code yX6_ofSize cX6_ofSize 1 (some .long), .fieldLink RX6 9 "HoleHouse$Sets" "BY_SIZE" "[J", .methodLink RX8 75 yJ13_bitCount_95d88, .static yJ13_bitCount_95d88, .initialized RJ13, .code yJ13_bitCount_95d88 cJ13_bitCount_95d88 2 (some .int), .constantLong RJ13 314 (6148914691236517205), .constantLong RJ13 316 (3689348814741910323), .constantLong RJ13 318 (1085102592571150095)] ++ wsX80)
def wsX8_missing : List Cond := .code yX8_missing cX8_missing 6 (some .int) :: ([.methodLink RX8 126 yX8_missingFamily, .instanceMethod yX8_missingFamily, .selects RX8 yX8_missingFamily yX8_missingFamily, .initialized RX8, .code yX8_missingFamily cX8_missingFamily 4 (some .long), .fieldLink RX8 60 "HoleHouse" "family" "J", .constantLong RX8 93 (-1), .methodLink RX8 95 yX8_allPoints, .instanceMethod yX8_allPoints, .selects RX8 yX8_allPoints yX8_allPoints, .code yX8_allPoints cX8_allPoints 1 (some .int), .fieldLink RX8 56 "HoleHouse" "points" "I", .methodLink RX8 108 yX6_holds, .static yX6_holds, .initialized RX6, .code yX6_holds cX6_holds 3 (some .boolean), .methodLink RX8 205 yX6_below, .static yX6_below, .code yX6_below cX6_below 4 (some .long), .methodLink RX6 15 yX6_hasPoint, .static yX6_hasPoint, .code yX6_hasPoint cX6_hasPoint 2 (some .boolean)] ++ wsX80)
def wsX8_holes_r1 : List Cond := [Cond.fieldLink RX8 36 "HoleHouse" "parts" "LHoleHouse$Parts;", Cond.fieldLink RX8 56 "HoleHouse" "points" "I", Cond.fieldLink RX8 60 "HoleHouse" "family" "J", Cond.methodLink RX8 71 yX8_isSet, Cond.instanceMethod yX8_isSet, Cond.selects RX8 yX8_isSet yX8_isSet, Cond.initialized RX8, Cond.code yX8_isSet cX8_isSet 2 (some .boolean), Cond.methodLink RX8 95 yX8_allPoints, Cond.instanceMethod yX8_allPoints, Cond.selects RX8 yX8_allPoints yX8_allPoints, Cond.code yX8_allPoints cX8_allPoints 1 (some .int), Cond.methodLink RX8 149 yX2_isDimension, Cond.static yX2_isDimension, Cond.initialized RX2, Cond.code yX2_isDimension cX2_isDimension 1 (some .boolean), Cond.methodLink RX8 152 yX2_know, Cond.instanceMethod yX2_know, Cond.selects RX2 yX2_know yX2_know, Cond.code yX2_know cX2_know 5 none, Cond.fieldLink RX2 25 "HoleHouse$Parts" "knownPoints" "I", Cond.fieldLink RX2 29 "HoleHouse$Parts" "knownFamily" "J", Cond.methodLink RX2 33 yX6_inside, Cond.static yX6_inside]
def wsX8_holes_r2 : List Cond := [Cond.initialized RX6, Cond.code yX6_inside cX6_inside 4 (some .long), Cond.methodLink RX6 15 yX6_hasPoint, Cond.static yX6_hasPoint, Cond.code yX6_hasPoint cX6_hasPoint 2 (some .boolean), Cond.methodLink RX2 39 yX2_countHoles, Cond.instanceMethod yX2_countHoles, Cond.selects RX2 yX2_countHoles yX2_countHoles, Cond.code yX2_countHoles cX2_countHoles 6 none, Cond.fieldLink RX2 11 "HoleHouse$Parts" "counts" "[I", Cond.fieldLink RX2 15 "HoleHouse$Parts" "borders" "[I", Cond.methodLink RX2 47 yX2_countBorders, Cond.instanceMethod yX2_countBorders, Cond.selects RX2 yX2_countBorders yX2_countBorders, Cond.code yX2_countBorders cX2_countBorders 5 none, Cond.fieldLink RX2 21 "HoleHouse$Parts" "basis" "LHoleHouse$Basis;", Cond.constantLong RX2 59 (-1), Cond.methodLink RX2 61 yX0_clear, Cond.instanceMethod yX0_clear, Cond.selects RX0 yX0_clear yX0_clear, Cond.initialized RX0, Cond.code yX0_clear cX0_clear 3 none, Cond.fieldLink RX0 18 "HoleHouse$Basis" "leading" "J", Cond.fieldLink RX0 22 "HoleHouse$Basis" "rest" "J"]
def wsX8_holes_r3 : List Cond := [Cond.fieldLink RX0 25 "HoleHouse$Basis" "count" "I", Cond.methodLink RX2 65 yX6_holds, Cond.static yX6_holds, Cond.code yX6_holds cX6_holds 3 (some .boolean), Cond.methodLink RX2 69 yX6_below, Cond.static yX6_below, Cond.code yX6_below cX6_below 4 (some .long), Cond.methodLink RX2 72 yX0_add, Cond.instanceMethod yX0_add, Cond.selects RX0 yX0_add yX0_add, Cond.code yX0_add cX0_add 5 (some .boolean), Cond.fieldLink RX0 15 "HoleHouse$Basis" "leads" "[J", Cond.fieldLink RX0 9 "HoleHouse$Basis" "rows" "[J", Cond.methodLink RX2 76 yJ6_bitCount_0f7a4, Cond.static yJ6_bitCount_0f7a4, Cond.initialized RJ6, Cond.code yJ6_bitCount_0f7a4 cJ6_bitCount_0f7a4 1 (some .int), Cond.constant RJ6 265 (1431655765), Cond.constant RJ6 266 (858993459), Cond.constant RJ6 267 (252645135), Cond.methodLink RX2 50 yX6_ofSize, Cond.static yX6_ofSize, Cond.code yX6_ofSize cX6_ofSize 1 (some .long), Cond.fieldLink RX6 9 "HoleHouse$Sets" "BY_SIZE" "[J"]
def wsX8_holes_r4 : List Cond := [Cond.methodLink RX2 53 yJ13_bitCount_95d88, Cond.static yJ13_bitCount_95d88, Cond.initialized RJ13, Cond.code yJ13_bitCount_95d88 cJ13_bitCount_95d88 2 (some .int), Cond.constantLong RJ13 314 (6148914691236517205), Cond.constantLong RJ13 316 (3689348814741910323), Cond.constantLong RJ13 318 (1085102592571150095), Cond.methodLink RX8 153 yX2_holesOf, Cond.instanceMethod yX2_holesOf, Cond.selects RX2 yX2_holesOf yX2_holesOf, Cond.code yX2_holesOf cX2_holesOf 4 (some .int), Cond.methodLink RX2 43 yX2_isDimension]
def wsX8_holes : List Cond := .code yX8_holes cX8_holes 3 (some .int) :: ((wsX8_holes_r1 ++ (wsX8_holes_r2 ++ (wsX8_holes_r3 ++ wsX8_holes_r4))) ++ wsX80 ++ wsX20 ++ wsX00)
def wsX8_space_r1 : List Cond := [Cond.fieldLink RX8 36 "HoleHouse" "parts" "LHoleHouse$Parts;", Cond.fieldLink RX8 56 "HoleHouse" "points" "I", Cond.fieldLink RX8 60 "HoleHouse" "family" "J", Cond.methodLink RX8 152 yX2_know, Cond.instanceMethod yX2_know, Cond.selects RX2 yX2_know yX2_know, Cond.initialized RX2, Cond.code yX2_know cX2_know 5 none, Cond.fieldLink RX2 25 "HoleHouse$Parts" "knownPoints" "I", Cond.fieldLink RX2 29 "HoleHouse$Parts" "knownFamily" "J", Cond.methodLink RX2 33 yX6_inside, Cond.static yX6_inside, Cond.initialized RX6, Cond.code yX6_inside cX6_inside 4 (some .long), Cond.methodLink RX6 15 yX6_hasPoint, Cond.static yX6_hasPoint, Cond.code yX6_hasPoint cX6_hasPoint 2 (some .boolean), Cond.methodLink RX2 39 yX2_countHoles, Cond.instanceMethod yX2_countHoles, Cond.selects RX2 yX2_countHoles yX2_countHoles, Cond.code yX2_countHoles cX2_countHoles 6 none, Cond.fieldLink RX2 11 "HoleHouse$Parts" "counts" "[I", Cond.fieldLink RX2 15 "HoleHouse$Parts" "borders" "[I", Cond.methodLink RX2 47 yX2_countBorders]
def wsX8_space_r2 : List Cond := [Cond.instanceMethod yX2_countBorders, Cond.selects RX2 yX2_countBorders yX2_countBorders, Cond.code yX2_countBorders cX2_countBorders 5 none, Cond.fieldLink RX2 21 "HoleHouse$Parts" "basis" "LHoleHouse$Basis;", Cond.constantLong RX2 59 (-1), Cond.methodLink RX2 61 yX0_clear, Cond.instanceMethod yX0_clear, Cond.selects RX0 yX0_clear yX0_clear, Cond.initialized RX0, Cond.code yX0_clear cX0_clear 3 none, Cond.fieldLink RX0 18 "HoleHouse$Basis" "leading" "J", Cond.fieldLink RX0 22 "HoleHouse$Basis" "rest" "J", Cond.fieldLink RX0 25 "HoleHouse$Basis" "count" "I", Cond.methodLink RX2 65 yX6_holds, Cond.static yX6_holds, Cond.code yX6_holds cX6_holds 3 (some .boolean), Cond.methodLink RX2 69 yX6_below, Cond.static yX6_below, Cond.code yX6_below cX6_below 4 (some .long), Cond.methodLink RX2 72 yX0_add, Cond.instanceMethod yX0_add, Cond.selects RX0 yX0_add yX0_add, Cond.code yX0_add cX0_add 5 (some .boolean), Cond.fieldLink RX0 15 "HoleHouse$Basis" "leads" "[J"]
def wsX8_space_r3 : List Cond := [Cond.fieldLink RX0 9 "HoleHouse$Basis" "rows" "[J", Cond.methodLink RX2 76 yJ6_bitCount_0f7a4, Cond.static yJ6_bitCount_0f7a4, Cond.initialized RJ6, Cond.code yJ6_bitCount_0f7a4 cJ6_bitCount_0f7a4 1 (some .int), Cond.constant RJ6 265 (1431655765), Cond.constant RJ6 266 (858993459), Cond.constant RJ6 267 (252645135), Cond.methodLink RX2 50 yX6_ofSize, Cond.static yX6_ofSize, Cond.code yX6_ofSize cX6_ofSize 1 (some .long), Cond.fieldLink RX6 9 "HoleHouse$Sets" "BY_SIZE" "[J", Cond.methodLink RX2 53 yJ13_bitCount_95d88, Cond.static yJ13_bitCount_95d88, Cond.initialized RJ13, Cond.code yJ13_bitCount_95d88 cJ13_bitCount_95d88 2 (some .int), Cond.constantLong RJ13 314 (6148914691236517205), Cond.constantLong RJ13 316 (3689348814741910323), Cond.constantLong RJ13 318 (1085102592571150095), Cond.methodLink RX8 95 yX8_allPoints, Cond.instanceMethod yX8_allPoints, Cond.selects RX8 yX8_allPoints yX8_allPoints, Cond.initialized RX8, Cond.code yX8_allPoints cX8_allPoints 1 (some .int)]
def wsX8_space_r4 : List Cond := [Cond.methodLink RX8 99 yJ6_bitCount_0f7a4, Cond.methodLink RX8 153 yX2_holesOf, Cond.instanceMethod yX2_holesOf, Cond.selects RX2 yX2_holesOf yX2_holesOf, Cond.code yX2_holesOf cX2_holesOf 4 (some .int), Cond.methodLink RX2 43 yX2_isDimension, Cond.static yX2_isDimension, Cond.code yX2_isDimension cX2_isDimension 1 (some .boolean)]
def wsX8_space : List Cond := .code yX8_space cX8_space 6 (some .int) :: ((wsX8_space_r1 ++ (wsX8_space_r2 ++ (wsX8_space_r3 ++ wsX8_space_r4))) ++ wsX80 ++ wsX20 ++ wsX00)
def wsX8_tower_r1 : List Cond := [Cond.fieldLink RX8 36 "HoleHouse" "parts" "LHoleHouse$Parts;", Cond.fieldLink RX8 56 "HoleHouse" "points" "I", Cond.fieldLink RX8 60 "HoleHouse" "family" "J", Cond.methodLink RX8 152 yX2_know, Cond.instanceMethod yX2_know, Cond.selects RX2 yX2_know yX2_know, Cond.initialized RX2, Cond.code yX2_know cX2_know 5 none, Cond.fieldLink RX2 25 "HoleHouse$Parts" "knownPoints" "I", Cond.fieldLink RX2 29 "HoleHouse$Parts" "knownFamily" "J", Cond.methodLink RX2 33 yX6_inside, Cond.static yX6_inside, Cond.initialized RX6, Cond.code yX6_inside cX6_inside 4 (some .long), Cond.methodLink RX6 15 yX6_hasPoint, Cond.static yX6_hasPoint, Cond.code yX6_hasPoint cX6_hasPoint 2 (some .boolean), Cond.methodLink RX2 39 yX2_countHoles, Cond.instanceMethod yX2_countHoles, Cond.selects RX2 yX2_countHoles yX2_countHoles, Cond.code yX2_countHoles cX2_countHoles 6 none, Cond.fieldLink RX2 11 "HoleHouse$Parts" "counts" "[I", Cond.fieldLink RX2 15 "HoleHouse$Parts" "borders" "[I", Cond.methodLink RX2 47 yX2_countBorders]
def wsX8_tower_r2 : List Cond := [Cond.instanceMethod yX2_countBorders, Cond.selects RX2 yX2_countBorders yX2_countBorders, Cond.code yX2_countBorders cX2_countBorders 5 none, Cond.fieldLink RX2 21 "HoleHouse$Parts" "basis" "LHoleHouse$Basis;", Cond.constantLong RX2 59 (-1), Cond.methodLink RX2 61 yX0_clear, Cond.instanceMethod yX0_clear, Cond.selects RX0 yX0_clear yX0_clear, Cond.initialized RX0, Cond.code yX0_clear cX0_clear 3 none, Cond.fieldLink RX0 18 "HoleHouse$Basis" "leading" "J", Cond.fieldLink RX0 22 "HoleHouse$Basis" "rest" "J", Cond.fieldLink RX0 25 "HoleHouse$Basis" "count" "I", Cond.methodLink RX2 65 yX6_holds, Cond.static yX6_holds, Cond.code yX6_holds cX6_holds 3 (some .boolean), Cond.methodLink RX2 69 yX6_below, Cond.static yX6_below, Cond.code yX6_below cX6_below 4 (some .long), Cond.methodLink RX2 72 yX0_add, Cond.instanceMethod yX0_add, Cond.selects RX0 yX0_add yX0_add, Cond.code yX0_add cX0_add 5 (some .boolean), Cond.fieldLink RX0 15 "HoleHouse$Basis" "leads" "[J"]
def wsX8_tower_r3 : List Cond := [Cond.fieldLink RX0 9 "HoleHouse$Basis" "rows" "[J", Cond.methodLink RX2 76 yJ6_bitCount_0f7a4, Cond.static yJ6_bitCount_0f7a4, Cond.initialized RJ6, Cond.code yJ6_bitCount_0f7a4 cJ6_bitCount_0f7a4 1 (some .int), Cond.constant RJ6 265 (1431655765), Cond.constant RJ6 266 (858993459), Cond.constant RJ6 267 (252645135), Cond.methodLink RX2 50 yX6_ofSize, Cond.static yX6_ofSize, Cond.code yX6_ofSize cX6_ofSize 1 (some .long), Cond.fieldLink RX6 9 "HoleHouse$Sets" "BY_SIZE" "[J", Cond.methodLink RX2 53 yJ13_bitCount_95d88, Cond.static yJ13_bitCount_95d88, Cond.initialized RJ13, Cond.code yJ13_bitCount_95d88 cJ13_bitCount_95d88 2 (some .int), Cond.constantLong RJ13 314 (6148914691236517205), Cond.constantLong RJ13 316 (3689348814741910323), Cond.constantLong RJ13 318 (1085102592571150095), Cond.methodLink RX8 95 yX8_allPoints, Cond.instanceMethod yX8_allPoints, Cond.selects RX8 yX8_allPoints yX8_allPoints, Cond.initialized RX8, Cond.code yX8_allPoints cX8_allPoints 1 (some .int)]
def wsX8_tower_r4 : List Cond := [Cond.methodLink RX8 99 yJ6_bitCount_0f7a4, Cond.methodLink RX8 153 yX2_holesOf, Cond.instanceMethod yX2_holesOf, Cond.selects RX2 yX2_holesOf yX2_holesOf, Cond.code yX2_holesOf cX2_holesOf 4 (some .int), Cond.methodLink RX2 43 yX2_isDimension, Cond.static yX2_isDimension, Cond.code yX2_isDimension cX2_isDimension 1 (some .boolean)]
def wsX8_tower : List Cond := .code yX8_tower cX8_tower 5 (some .int) :: ((wsX8_tower_r1 ++ (wsX8_tower_r2 ++ (wsX8_tower_r3 ++ wsX8_tower_r4))) ++ wsX80 ++ wsX20 ++ wsX00)
def wsX8_rank_r1 : List Cond := [Cond.fieldLink RX8 36 "HoleHouse" "parts" "LHoleHouse$Parts;", Cond.fieldLink RX8 56 "HoleHouse" "points" "I", Cond.fieldLink RX8 60 "HoleHouse" "family" "J", Cond.fieldLink RX8 45 "HoleHouse" "products" "LHoleHouse$Products;", Cond.methodLink RX8 71 yX8_isSet, Cond.instanceMethod yX8_isSet, Cond.selects RX8 yX8_isSet yX8_isSet, Cond.initialized RX8, Cond.code yX8_isSet cX8_isSet 2 (some .boolean), Cond.methodLink RX8 95 yX8_allPoints, Cond.instanceMethod yX8_allPoints, Cond.selects RX8 yX8_allPoints yX8_allPoints, Cond.code yX8_allPoints cX8_allPoints 1 (some .int), Cond.methodLink RX8 152 yX2_know, Cond.instanceMethod yX2_know, Cond.selects RX2 yX2_know yX2_know, Cond.initialized RX2, Cond.code yX2_know cX2_know 5 none, Cond.fieldLink RX2 25 "HoleHouse$Parts" "knownPoints" "I", Cond.fieldLink RX2 29 "HoleHouse$Parts" "knownFamily" "J", Cond.methodLink RX2 33 yX6_inside, Cond.static yX6_inside, Cond.initialized RX6, Cond.code yX6_inside cX6_inside 4 (some .long)]
def wsX8_rank_r2 : List Cond := [Cond.methodLink RX6 15 yX6_hasPoint, Cond.static yX6_hasPoint, Cond.code yX6_hasPoint cX6_hasPoint 2 (some .boolean), Cond.methodLink RX2 39 yX2_countHoles, Cond.instanceMethod yX2_countHoles, Cond.selects RX2 yX2_countHoles yX2_countHoles, Cond.code yX2_countHoles cX2_countHoles 6 none, Cond.fieldLink RX2 11 "HoleHouse$Parts" "counts" "[I", Cond.fieldLink RX2 15 "HoleHouse$Parts" "borders" "[I", Cond.methodLink RX2 47 yX2_countBorders, Cond.instanceMethod yX2_countBorders, Cond.selects RX2 yX2_countBorders yX2_countBorders, Cond.code yX2_countBorders cX2_countBorders 5 none, Cond.fieldLink RX2 21 "HoleHouse$Parts" "basis" "LHoleHouse$Basis;", Cond.constantLong RX2 59 (-1), Cond.methodLink RX2 61 yX0_clear, Cond.instanceMethod yX0_clear, Cond.selects RX0 yX0_clear yX0_clear, Cond.initialized RX0, Cond.code yX0_clear cX0_clear 3 none, Cond.fieldLink RX0 18 "HoleHouse$Basis" "leading" "J", Cond.fieldLink RX0 22 "HoleHouse$Basis" "rest" "J", Cond.fieldLink RX0 25 "HoleHouse$Basis" "count" "I", Cond.methodLink RX2 65 yX6_holds]
def wsX8_rank_r3 : List Cond := [Cond.static yX6_holds, Cond.code yX6_holds cX6_holds 3 (some .boolean), Cond.methodLink RX2 69 yX6_below, Cond.static yX6_below, Cond.code yX6_below cX6_below 4 (some .long), Cond.methodLink RX2 72 yX0_add, Cond.instanceMethod yX0_add, Cond.selects RX0 yX0_add yX0_add, Cond.code yX0_add cX0_add 5 (some .boolean), Cond.fieldLink RX0 15 "HoleHouse$Basis" "leads" "[J", Cond.fieldLink RX0 9 "HoleHouse$Basis" "rows" "[J", Cond.methodLink RX2 76 yJ6_bitCount_0f7a4, Cond.static yJ6_bitCount_0f7a4, Cond.initialized RJ6, Cond.code yJ6_bitCount_0f7a4 cJ6_bitCount_0f7a4 1 (some .int), Cond.constant RJ6 265 (1431655765), Cond.constant RJ6 266 (858993459), Cond.constant RJ6 267 (252645135), Cond.methodLink RX2 50 yX6_ofSize, Cond.static yX6_ofSize, Cond.code yX6_ofSize cX6_ofSize 1 (some .long), Cond.fieldLink RX6 9 "HoleHouse$Sets" "BY_SIZE" "[J", Cond.methodLink RX2 53 yJ13_bitCount_95d88, Cond.static yJ13_bitCount_95d88]
def wsX8_rank_r4 : List Cond := [Cond.initialized RJ13, Cond.code yJ13_bitCount_95d88 cJ13_bitCount_95d88 2 (some .int), Cond.constantLong RJ13 314 (6148914691236517205), Cond.constantLong RJ13 316 (3689348814741910323), Cond.constantLong RJ13 318 (1085102592571150095), Cond.methodLink RX8 156 yX3_measure, Cond.instanceMethod yX3_measure, Cond.selects RX3 yX3_measure yX3_measure, Cond.initialized RX3, Cond.code yX3_measure cX3_measure 16 (some .int), Cond.fieldLink RX3 9 "HoleHouse$Products" "parts" "LHoleHouse$Parts;", Cond.fieldLink RX3 22 "HoleHouse$Products" "left" "[J", Cond.fieldLink RX3 26 "HoleHouse$Products" "right" "[J", Cond.fieldLink RX3 18 "HoleHouse$Products" "basis" "LHoleHouse$Basis;", Cond.methodLink RX3 59 yX2_holesOf, Cond.instanceMethod yX2_holesOf, Cond.selects RX2 yX2_holesOf yX2_holesOf, Cond.code yX2_holesOf cX2_holesOf 4 (some .int), Cond.methodLink RX2 43 yX2_isDimension, Cond.static yX2_isDimension, Cond.code yX2_isDimension cX2_isDimension 1 (some .boolean), Cond.methodLink RX3 67 yX6_inside, Cond.methodLink RX3 73 yX3_fillClosed, Cond.instanceMethod yX3_fillClosed]
def wsX8_rank_r5 : List Cond := [Cond.selects RX3 yX3_fillClosed yX3_fillClosed, Cond.code yX3_fillClosed cX3_fillClosed 13 (some .int), Cond.methodLink RX3 77 yX6_ofSize, Cond.methodLink RX3 92 yX0_clear, Cond.methodLink RX3 96 yX6_above, Cond.static yX6_above, Cond.code yX6_above cX6_above 4 (some .long), Cond.methodLink RX3 99 yX6_holds, Cond.methodLink RX3 88 yX0_add, Cond.methodLink RX3 103 yX0_remainder, Cond.instanceMethod yX0_remainder, Cond.selects RX0 yX0_remainder yX0_remainder, Cond.code yX0_remainder cX0_remainder 1 (some .long), Cond.methodLink RX3 80 yX3_addRises, Cond.instanceMethod yX3_addRises, Cond.selects RX3 yX3_addRises yX3_addRises, Cond.code yX3_addRises cX3_addRises 6 none, Cond.constantLong RX3 107 (-1), Cond.methodLink RX3 84 yX3_multiply, Cond.static yX3_multiply, Cond.code yX3_multiply cX3_multiply 11 (some .long)]
def wsX8_rank : List Cond := .code yX8_rank cX8_rank 7 (some .int) :: ((wsX8_rank_r1 ++ (wsX8_rank_r2 ++ (wsX8_rank_r3 ++ (wsX8_rank_r4 ++ wsX8_rank_r5)))) ++ wsX80 ++ wsX20 ++ wsX00 ++ wsX30)
def wsX8_first_r1 : List Cond := [Cond.fieldLink RX8 45 "HoleHouse" "products" "LHoleHouse$Products;", Cond.fieldLink RX8 56 "HoleHouse" "points" "I", Cond.fieldLink RX8 60 "HoleHouse" "family" "J", Cond.methodLink RX8 136 yX3_know, Cond.instanceMethod yX3_know, Cond.selects RX3 yX3_know yX3_know, Cond.initialized RX3, Cond.code yX3_know cX3_know 4 none, Cond.fieldLink RX3 33 "HoleHouse$Products" "knownPoints" "I", Cond.fieldLink RX3 37 "HoleHouse$Products" "knownFamily" "J", Cond.fieldLink RX3 9 "HoleHouse$Products" "parts" "LHoleHouse$Parts;", Cond.fieldLink RX3 51 "HoleHouse$Products" "plain" "Z", Cond.methodLink RX3 41 yX2_know, Cond.instanceMethod yX2_know, Cond.selects RX2 yX2_know yX2_know, Cond.initialized RX2, Cond.code yX2_know cX2_know 5 none, Cond.fieldLink RX2 25 "HoleHouse$Parts" "knownPoints" "I", Cond.fieldLink RX2 29 "HoleHouse$Parts" "knownFamily" "J", Cond.methodLink RX2 33 yX6_inside, Cond.static yX6_inside, Cond.initialized RX6, Cond.code yX6_inside cX6_inside 4 (some .long), Cond.methodLink RX6 15 yX6_hasPoint]
def wsX8_first_r2 : List Cond := [Cond.static yX6_hasPoint, Cond.code yX6_hasPoint cX6_hasPoint 2 (some .boolean), Cond.methodLink RX2 39 yX2_countHoles, Cond.instanceMethod yX2_countHoles, Cond.selects RX2 yX2_countHoles yX2_countHoles, Cond.code yX2_countHoles cX2_countHoles 6 none, Cond.fieldLink RX2 11 "HoleHouse$Parts" "counts" "[I", Cond.fieldLink RX2 15 "HoleHouse$Parts" "borders" "[I", Cond.methodLink RX2 47 yX2_countBorders, Cond.instanceMethod yX2_countBorders, Cond.selects RX2 yX2_countBorders yX2_countBorders, Cond.code yX2_countBorders cX2_countBorders 5 none, Cond.fieldLink RX2 21 "HoleHouse$Parts" "basis" "LHoleHouse$Basis;", Cond.constantLong RX2 59 (-1), Cond.methodLink RX2 61 yX0_clear, Cond.instanceMethod yX0_clear, Cond.selects RX0 yX0_clear yX0_clear, Cond.initialized RX0, Cond.code yX0_clear cX0_clear 3 none, Cond.fieldLink RX0 18 "HoleHouse$Basis" "leading" "J", Cond.fieldLink RX0 22 "HoleHouse$Basis" "rest" "J", Cond.fieldLink RX0 25 "HoleHouse$Basis" "count" "I", Cond.methodLink RX2 65 yX6_holds, Cond.static yX6_holds]
def wsX8_first_r3 : List Cond := [Cond.code yX6_holds cX6_holds 3 (some .boolean), Cond.methodLink RX2 69 yX6_below, Cond.static yX6_below, Cond.code yX6_below cX6_below 4 (some .long), Cond.methodLink RX2 72 yX0_add, Cond.instanceMethod yX0_add, Cond.selects RX0 yX0_add yX0_add, Cond.code yX0_add cX0_add 5 (some .boolean), Cond.fieldLink RX0 15 "HoleHouse$Basis" "leads" "[J", Cond.fieldLink RX0 9 "HoleHouse$Basis" "rows" "[J", Cond.methodLink RX2 76 yJ6_bitCount_0f7a4, Cond.static yJ6_bitCount_0f7a4, Cond.initialized RJ6, Cond.code yJ6_bitCount_0f7a4 cJ6_bitCount_0f7a4 1 (some .int), Cond.constant RJ6 265 (1431655765), Cond.constant RJ6 266 (858993459), Cond.constant RJ6 267 (252645135), Cond.methodLink RX2 50 yX6_ofSize, Cond.static yX6_ofSize, Cond.code yX6_ofSize cX6_ofSize 1 (some .long), Cond.fieldLink RX6 9 "HoleHouse$Sets" "BY_SIZE" "[J", Cond.methodLink RX2 53 yJ13_bitCount_95d88, Cond.static yJ13_bitCount_95d88, Cond.initialized RJ13]
def wsX8_first_r4 : List Cond := [Cond.code yJ13_bitCount_95d88 cJ13_bitCount_95d88 2 (some .int), Cond.constantLong RJ13 314 (6148914691236517205), Cond.constantLong RJ13 316 (3689348814741910323), Cond.constantLong RJ13 318 (1085102592571150095), Cond.methodLink RX3 47 yX3_seek, Cond.instanceMethod yX3_seek, Cond.selects RX3 yX3_seek yX3_seek, Cond.code yX3_seek cX3_seek 7 (some .boolean), Cond.methodLink RX3 55 yX3_seekIn, Cond.instanceMethod yX3_seekIn, Cond.selects RX3 yX3_seekIn yX3_seekIn, Cond.code yX3_seekIn cX3_seekIn 8 (some .boolean), Cond.fieldLink RX3 29 "HoleHouse$Products" "earliest" "[I", Cond.methodLink RX3 59 yX2_holesOf, Cond.instanceMethod yX2_holesOf, Cond.selects RX2 yX2_holesOf yX2_holesOf, Cond.code yX2_holesOf cX2_holesOf 4 (some .int), Cond.methodLink RX2 43 yX2_isDimension, Cond.static yX2_isDimension, Cond.code yX2_isDimension cX2_isDimension 1 (some .boolean), Cond.methodLink RX3 63 yX3_measure, Cond.instanceMethod yX3_measure, Cond.selects RX3 yX3_measure yX3_measure, Cond.code yX3_measure cX3_measure 16 (some .int)]
def wsX8_first_r5 : List Cond := [Cond.fieldLink RX3 22 "HoleHouse$Products" "left" "[J", Cond.fieldLink RX3 26 "HoleHouse$Products" "right" "[J", Cond.fieldLink RX3 18 "HoleHouse$Products" "basis" "LHoleHouse$Basis;", Cond.methodLink RX3 67 yX6_inside, Cond.methodLink RX3 73 yX3_fillClosed, Cond.instanceMethod yX3_fillClosed, Cond.selects RX3 yX3_fillClosed yX3_fillClosed, Cond.code yX3_fillClosed cX3_fillClosed 13 (some .int), Cond.methodLink RX3 77 yX6_ofSize, Cond.methodLink RX3 92 yX0_clear, Cond.methodLink RX3 96 yX6_above, Cond.static yX6_above, Cond.code yX6_above cX6_above 4 (some .long), Cond.methodLink RX3 99 yX6_holds, Cond.methodLink RX3 88 yX0_add, Cond.methodLink RX3 103 yX0_remainder, Cond.instanceMethod yX0_remainder, Cond.selects RX0 yX0_remainder yX0_remainder, Cond.code yX0_remainder cX0_remainder 1 (some .long), Cond.methodLink RX3 80 yX3_addRises, Cond.instanceMethod yX3_addRises, Cond.selects RX3 yX3_addRises yX3_addRises, Cond.code yX3_addRises cX3_addRises 6 none, Cond.constantLong RX3 107 (-1)]
def wsX8_first_r6 : List Cond := [Cond.methodLink RX3 84 yX3_multiply, Cond.static yX3_multiply, Cond.code yX3_multiply cX3_multiply 11 (some .long), Cond.methodLink RX8 160 yX3_told, Cond.instanceMethod yX3_told, Cond.selects RX3 yX3_told yX3_told, Cond.code yX3_told cX3_told 2 (some .int)]
def wsX8_first : List Cond := .code yX8_first cX8_first 2 (some .int) :: ((wsX8_first_r1 ++ (wsX8_first_r2 ++ (wsX8_first_r3 ++ (wsX8_first_r4 ++ (wsX8_first_r5 ++ wsX8_first_r6))))) ++ wsX80 ++ wsX30 ++ wsX20 ++ wsX00)
def wsX8_isPoint : List Cond := .code yX8_isPoint cX8_isPoint 2 (some .boolean) :: ([.fieldLink RX8 56 "HoleHouse" "points" "I"] ++ wsX80)
def wsX8_alike_r1 : List Cond := [Cond.fieldLink RX8 52 "HoleHouse" "turns" "LHoleHouse$Turns;", Cond.fieldLink RX8 56 "HoleHouse" "points" "I", Cond.fieldLink RX8 60 "HoleHouse" "family" "J", Cond.methodLink RX8 163 yX8_isPoint, Cond.instanceMethod yX8_isPoint, Cond.selects RX8 yX8_isPoint yX8_isPoint, Cond.initialized RX8, Cond.code yX8_isPoint cX8_isPoint 2 (some .boolean), Cond.methodLink RX8 142 yX7_know, Cond.instanceMethod yX7_know, Cond.selects RX7 yX7_know yX7_know, Cond.initialized RX7, Cond.code yX7_know cX7_know 5 none, Cond.fieldLink RX7 18 "HoleHouse$Turns" "knownPoints" "I", Cond.fieldLink RX7 22 "HoleHouse$Turns" "knownFamily" "J", Cond.fieldLink RX7 26 "HoleHouse$Turns" "count" "I", Cond.fieldLink RX7 15 "HoleHouse$Turns" "reached" "[I", Cond.methodLink RX7 29 yX7_place, Cond.static yX7_place, Cond.code yX7_place cX7_place 4 none, Cond.methodLink RX7 39 yX7_tally, Cond.instanceMethod yX7_tally, Cond.selects RX7 yX7_tally yX7_tally, Cond.code yX7_tally cX7_tally 2 none]
def wsX8_alike_r2 : List Cond := [Cond.fieldLink RX7 9 "HoleHouse$Turns" "images" "[I", Cond.methodLink RX7 33 yX6_hasPoint, Cond.static yX6_hasPoint, Cond.initialized RX6, Cond.code yX6_hasPoint cX6_hasPoint 2 (some .boolean), Cond.methodLink RX7 42 yX7_fits, Cond.instanceMethod yX7_fits, Cond.selects RX7 yX7_fits yX7_fits, Cond.code yX7_fits cX7_fits 6 (some .boolean), Cond.methodLink RX7 45 yX6_holds, Cond.static yX6_holds, Cond.code yX6_holds cX6_holds 3 (some .boolean), Cond.methodLink RX8 166 yX7_bring, Cond.instanceMethod yX7_bring, Cond.selects RX7 yX7_bring yX7_bring, Cond.code yX7_bring cX7_bring 3 (some .boolean), Cond.methodLink RX8 132 yX8_asNumber, Cond.static yX8_asNumber, Cond.code yX8_asNumber cX8_asNumber 1 (some .int)]
def wsX8_alike : List Cond := .code yX8_alike cX8_alike 3 (some .int) :: ((wsX8_alike_r1 ++ wsX8_alike_r2) ++ wsX80 ++ wsX70)
def wsX8_feed : List Cond := .code yX8_feed cX8_feed 6 (some .int) :: ([.fieldLink RX8 19 "HoleHouse" "tape" "LHoleHouse$Row;", .methodLink RX8 170 yX5_size, .instanceMethod yX5_size, .selects RX5 yX5_size yX5_size, .initialized RX5, .code yX5_size cX5_size 1 (some .int), .fieldLink RX5 15 "HoleHouse$Row" "length" "I", .methodLink RX8 173 yX5_addNumber, .instanceMethod yX5_addNumber, .selects RX5 yX5_addNumber yX5_addNumber, .code yX5_addNumber cX5_addNumber 2 none, .methodLink RX5 19 yX5_add, .instanceMethod yX5_add, .selects RX5 yX5_add yX5_add, .code yX5_add cX5_add 2 none, .fieldLink RX5 9 "HoleHouse$Row" "bytes" "[I"] ++ wsX80 ++ wsX50)
def wsX8_end : List Cond := .code yX8_end cX8_end 2 (some .boolean) :: ([.fieldLink RX8 19 "HoleHouse" "tape" "LHoleHouse$Row;", .methodLink RX8 170 yX5_size, .instanceMethod yX5_size, .selects RX5 yX5_size yX5_size, .initialized RX5, .code yX5_size cX5_size 1 (some .int), .fieldLink RX5 15 "HoleHouse$Row" "length" "I", .methodLink RX8 177 yX5_shorten, .instanceMethod yX5_shorten, .selects RX5 yX5_shorten yX5_shorten, .code yX5_shorten cX5_shorten 2 none] ++ wsX80 ++ wsX50)
def wsX8_read_r1 : List Cond := [Cond.fieldLink RX8 29 "HoleHouse" "reader" "LHoleHouse$Reader;", Cond.fieldLink RX8 19 "HoleHouse" "tape" "LHoleHouse$Row;", Cond.fieldLink RX8 64 "HoleHouse" "faultPlace" "I", Cond.fieldLink RX8 60 "HoleHouse" "family" "J", Cond.methodLink RX8 180 yX4_parse, Cond.instanceMethod yX4_parse, Cond.selects RX4 yX4_parse yX4_parse, Cond.initialized RX4, Cond.code yX4_parse cX4_parse 4 (some .int), Cond.fieldLink RX4 15 "HoleHouse$Reader" "told" "I", Cond.methodLink RX4 19 yX4_behindBlanks, Cond.static yX4_behindBlanks, Cond.code yX4_behindBlanks cX4_behindBlanks 3 (some .int), Cond.methodLink RX4 32 yX5_size, Cond.instanceMethod yX5_size, Cond.selects RX5 yX5_size yX5_size, Cond.initialized RX5, Cond.code yX5_size cX5_size 1 (some .int), Cond.fieldLink RX5 15 "HoleHouse$Row" "length" "I", Cond.methodLink RX4 23 yX5_at, Cond.instanceMethod yX5_at, Cond.selects RX5 yX5_at yX5_at, Cond.code yX5_at cX5_at 2 (some .int), Cond.fieldLink RX5 9 "HoleHouse$Row" "bytes" "[I"]
def wsX8_read_r2 : List Cond := [Cond.methodLink RX4 36 yX4_isBlank, Cond.static yX4_isBlank, Cond.code yX4_isBlank cX4_isBlank 1 (some .boolean), Cond.methodLink RX4 29 yX4_parseFaces, Cond.instanceMethod yX4_parseFaces, Cond.selects RX4 yX4_parseFaces yX4_parseFaces, Cond.code yX4_parseFaces cX4_parseFaces 8 (some .int), Cond.fieldLink RX4 9 "HoleHouse$Reader" "toldSets" "J", Cond.methodLink RX4 40 yX6_inside, Cond.static yX6_inside, Cond.initialized RX6, Cond.code yX6_inside cX6_inside 4 (some .long), Cond.methodLink RX6 15 yX6_hasPoint, Cond.static yX6_hasPoint, Cond.code yX6_hasPoint cX6_hasPoint 2 (some .boolean), Cond.methodLink RX8 177 yX5_shorten, Cond.instanceMethod yX5_shorten, Cond.selects RX5 yX5_shorten yX5_shorten, Cond.code yX5_shorten cX5_shorten 2 none, Cond.methodLink RX8 184 yX4_toldPoints, Cond.instanceMethod yX4_toldPoints, Cond.selects RX4 yX4_toldPoints yX4_toldPoints, Cond.code yX4_toldPoints cX4_toldPoints 1 (some .int), Cond.methodLink RX8 187 yX4_toldFamily]
def wsX8_read_r3 : List Cond := [Cond.instanceMethod yX4_toldFamily, Cond.selects RX4 yX4_toldFamily yX4_toldFamily, Cond.code yX4_toldFamily cX4_toldFamily 1 (some .long), Cond.methodLink RX8 67 yX8_change, Cond.instanceMethod yX8_change, Cond.selects RX8 yX8_change yX8_change, Cond.initialized RX8, Cond.code yX8_change cX8_change 4 none, Cond.fieldLink RX8 10 "HoleHouse" "history" "LHoleHouse$History;", Cond.fieldLink RX8 56 "HoleHouse" "points" "I", Cond.methodLink RX8 202 yX1_keep, Cond.instanceMethod yX1_keep, Cond.selects RX1 yX1_keep yX1_keep, Cond.initialized RX1, Cond.code yX1_keep cX1_keep 4 none, Cond.fieldLink RX1 19 "HoleHouse$History" "count" "I", Cond.fieldLink RX1 11 "HoleHouse$History" "keptPoints" "[I", Cond.methodLink RX1 23 arraycopyName, Cond.native arraycopyName, Cond.static arraycopyName, Cond.initialized "java/lang/System", Cond.fieldLink RX1 15 "HoleHouse$History" "keptFamilies" "[J", Cond.methodLink RX8 75 yJ13_bitCount_95d88, Cond.static yJ13_bitCount_95d88]
def wsX8_read_r4 : List Cond := [Cond.initialized RJ13, Cond.code yJ13_bitCount_95d88 cJ13_bitCount_95d88 2 (some .int), Cond.constantLong RJ13 314 (6148914691236517205), Cond.constantLong RJ13 316 (3689348814741910323), Cond.constantLong RJ13 318 (1085102592571150095)]
def wsX8_read : List Cond := .code yX8_read cX8_read 1 (some .int) :: ((wsX8_read_r1 ++ (wsX8_read_r2 ++ (wsX8_read_r3 ++ wsX8_read_r4))) ++ wsX80 ++ wsX40 ++ wsX50 ++ wsX10)
def wsX8_fault : List Cond := .code yX8_fault cX8_fault 1 (some .int) :: ([.fieldLink RX8 64 "HoleHouse" "faultPlace" "I"] ++ wsX80)
def wsX8_write_r1 : List Cond := [Cond.fieldLink RX8 23 "HoleHouse" "output" "LHoleHouse$Row;", Cond.fieldLink RX8 56 "HoleHouse" "points" "I", Cond.fieldLink RX8 60 "HoleHouse" "family" "J", Cond.methodLink RX8 177 yX5_shorten, Cond.instanceMethod yX5_shorten, Cond.selects RX5 yX5_shorten yX5_shorten, Cond.initialized RX5, Cond.code yX5_shorten cX5_shorten 2 none, Cond.fieldLink RX5 15 "HoleHouse$Row" "length" "I", Cond.methodLink RX8 190 yX5_add, Cond.instanceMethod yX5_add, Cond.selects RX5 yX5_add yX5_add, Cond.code yX5_add cX5_add 2 none, Cond.fieldLink RX5 9 "HoleHouse$Row" "bytes" "[I", Cond.methodLink RX8 95 yX8_allPoints, Cond.instanceMethod yX8_allPoints, Cond.selects RX8 yX8_allPoints yX8_allPoints, Cond.initialized RX8, Cond.code yX8_allPoints cX8_allPoints 1 (some .int), Cond.methodLink RX8 108 yX6_holds, Cond.static yX6_holds, Cond.initialized RX6, Cond.code yX6_holds cX6_holds 3 (some .boolean), Cond.methodLink RX8 193 yX6_above]
def wsX8_write_r2 : List Cond := [Cond.static yX6_above, Cond.code yX6_above cX6_above 4 (some .long), Cond.methodLink RX6 15 yX6_hasPoint, Cond.static yX6_hasPoint, Cond.code yX6_hasPoint cX6_hasPoint 2 (some .boolean), Cond.methodLink RX8 196 yX5_addDigitsOf, Cond.instanceMethod yX5_addDigitsOf, Cond.selects RX5 yX5_addDigitsOf yX5_addDigitsOf, Cond.code yX5_addDigitsOf cX5_addDigitsOf 3 none, Cond.methodLink RX5 23 yX6_hasPoint, Cond.methodLink RX5 19 yX5_add, Cond.methodLink RX8 170 yX5_size, Cond.instanceMethod yX5_size, Cond.selects RX5 yX5_size yX5_size, Cond.code yX5_size cX5_size 1 (some .int)]
def wsX8_write : List Cond := .code yX8_write cX8_write 2 (some .int) :: ((wsX8_write_r1 ++ wsX8_write_r2) ++ wsX80 ++ wsX50)
def wsX8_out : List Cond := .code yX8_out cX8_out 2 (some .int) :: ([.fieldLink RX8 23 "HoleHouse" "output" "LHoleHouse$Row;", .methodLink RX8 199 yX5_at, .instanceMethod yX5_at, .selects RX5 yX5_at yX5_at, .initialized RX5, .code yX5_at cX5_at 2 (some .int), .fieldLink RX5 15 "HoleHouse$Row" "length" "I", .fieldLink RX5 9 "HoleHouse$Row" "bytes" "[I"] ++ wsX80 ++ wsX50)
def wsX8_take : List Cond := .code yX8_take cX8_take 2 (some .int) :: ([.fieldLink RX8 19 "HoleHouse" "tape" "LHoleHouse$Row;", .fieldLink RX8 23 "HoleHouse" "output" "LHoleHouse$Row;", .methodLink RX8 177 yX5_shorten, .instanceMethod yX5_shorten, .selects RX5 yX5_shorten yX5_shorten, .initialized RX5, .code yX5_shorten cX5_shorten 2 none, .fieldLink RX5 15 "HoleHouse$Row" "length" "I", .methodLink RX8 170 yX5_size, .instanceMethod yX5_size, .selects RX5 yX5_size yX5_size, .code yX5_size cX5_size 1 (some .int), .methodLink RX8 199 yX5_at, .instanceMethod yX5_at, .selects RX5 yX5_at yX5_at, .code yX5_at cX5_at 2 (some .int), .fieldLink RX5 9 "HoleHouse$Row" "bytes" "[I", .methodLink RX8 190 yX5_add, .instanceMethod yX5_add, .selects RX5 yX5_add yX5_add, .code yX5_add cX5_add 2 none] ++ wsX80 ++ wsX50)
def wsX9_init : List Cond := .code yX9_init cX9_init 1 none :: ([.methodLink RX9 1 objectInit, .instanceMethod objectInit, .code objectInit ⟨#[0xb1]⟩ 1 none, .fieldLink RX9 7 "HoleHouseModel" "points" "I", .fieldLink RX9 13 "HoleHouseModel" "faces" "J", .arrayClass .int, .fieldLink RX9 17 "HoleHouseModel" "pointsHad" "[I", .arrayClass .long, .fieldLink RX9 21 "HoleHouseModel" "facesHad" "[J", .fieldLink RX9 25 "HoleHouseModel" "base" "[J", .fieldLink RX9 28 "HoleHouseModel" "rises" "[J", .fieldLink RX9 31 "HoleHouseModel" "marks" "[J", .fieldLink RX9 34 "HoleHouseModel" "closedJ" "[J", .fieldLink RX9 37 "HoleHouseModel" "closedL" "[J", .fieldLink RX9 40 "HoleHouseModel" "table" "[I", .fieldLink RX9 43 "HoleHouseModel" "order" "[I", .fieldLink RX9 46 "HoleHouseModel" "tape" "[I", .fieldLink RX9 49 "HoleHouseModel" "out" "[I", .fieldLink RX9 52 "HoleHouseModel" "wrong" "I"] ++ wsX90)
def wsX9_isIn : List Cond := .code yX9_isIn cX9_isIn 3 (some .boolean) :: ([])
def wsX9_all : List Cond := .code yX9_all cX9_all 1 (some .int) :: ([.fieldLink RX9 7 "HoleHouseModel" "points" "I"] ++ wsX90)
def wsX9_isSet : List Cond := .code yX9_isSet cX9_isSet 2 (some .boolean) :: ([.methodLink RX9 55 yX9_all, .instanceMethod yX9_all, .selects RX9 yX9_all yX9_all, .initialized RX9, .code yX9_all cX9_all 1 (some .int), .fieldLink RX9 7 "HoleHouseModel" "points" "I", .methodLink RX9 59 yX9_isIn, .static yX9_isIn, .code yX9_isIn cX9_isIn 3 (some .boolean)] ++ wsX90)
def wsX9_isFace : List Cond := .code yX9_isFace cX9_isFace 2 (some .boolean) :: ([.fieldLink RX9 13 "HoleHouseModel" "faces" "J"] ++ wsX90)
def wsX9_size : List Cond := .code yX9_size cX9_size 3 (some .int) :: ([])
def wsX9_keep : List Cond := .code yX9_keep cX9_keep 2 none :: ([.fieldLink RX9 63 "HoleHouseModel" "kept" "I", .fieldLink RX9 17 "HoleHouseModel" "pointsHad" "[I", .fieldLink RX9 21 "HoleHouseModel" "facesHad" "[J", .fieldLink RX9 7 "HoleHouseModel" "points" "I", .fieldLink RX9 13 "HoleHouseModel" "faces" "J"] ++ wsX90)
def wsX9_becomes : List Cond := .code yX9_becomes cX9_becomes 4 none :: ([.fieldLink RX9 7 "HoleHouseModel" "points" "I", .fieldLink RX9 13 "HoleHouseModel" "faces" "J", .methodLink RX9 66 yX9_keep, .instanceMethod yX9_keep, .selects RX9 yX9_keep yX9_keep, .initialized RX9, .code yX9_keep cX9_keep 2 none, .fieldLink RX9 63 "HoleHouseModel" "kept" "I", .fieldLink RX9 17 "HoleHouseModel" "pointsHad" "[I", .fieldLink RX9 21 "HoleHouseModel" "facesHad" "[J"] ++ wsX90)
def wsX9_undo : List Cond := .code yX9_undo cX9_undo 1 (some .boolean) :: ([.fieldLink RX9 63 "HoleHouseModel" "kept" "I", .fieldLink RX9 17 "HoleHouseModel" "pointsHad" "[I", .fieldLink RX9 7 "HoleHouseModel" "points" "I", .fieldLink RX9 21 "HoleHouseModel" "facesHad" "[J", .fieldLink RX9 13 "HoleHouseModel" "faces" "J"] ++ wsX90)
def wsX9_points : List Cond := .code yX9_points cX9_points 2 (some .boolean) :: ([.methodLink RX9 59 yX9_isIn, .static yX9_isIn, .initialized RX9, .code yX9_isIn cX9_isIn 3 (some .boolean), .methodLink RX9 69 yX9_becomes, .instanceMethod yX9_becomes, .selects RX9 yX9_becomes yX9_becomes, .code yX9_becomes cX9_becomes 4 none, .fieldLink RX9 7 "HoleHouseModel" "points" "I", .fieldLink RX9 13 "HoleHouseModel" "faces" "J", .methodLink RX9 66 yX9_keep, .instanceMethod yX9_keep, .selects RX9 yX9_keep yX9_keep, .code yX9_keep cX9_keep 2 none, .fieldLink RX9 63 "HoleHouseModel" "kept" "I", .fieldLink RX9 17 "HoleHouseModel" "pointsHad" "[I", .fieldLink RX9 21 "HoleHouseModel" "facesHad" "[J"] ++ wsX90)
def wsX9_within : List Cond := .code yX9_within cX9_within 4 (some .long) :: ([])
def wsX9_many : List Cond := .code yX9_many cX9_many 4 (some .int) :: ([])
def wsX9_face_r1 : List Cond := [Cond.fieldLink RX9 13 "HoleHouseModel" "faces" "J", Cond.fieldLink RX9 7 "HoleHouseModel" "points" "I", Cond.methodLink RX9 73 yX9_isSet, Cond.instanceMethod yX9_isSet, Cond.selects RX9 yX9_isSet yX9_isSet, Cond.initialized RX9, Cond.code yX9_isSet cX9_isSet 2 (some .boolean), Cond.methodLink RX9 55 yX9_all, Cond.instanceMethod yX9_all, Cond.selects RX9 yX9_all yX9_all, Cond.code yX9_all cX9_all 1 (some .int), Cond.methodLink RX9 59 yX9_isIn, Cond.static yX9_isIn, Cond.code yX9_isIn cX9_isIn 3 (some .boolean), Cond.methodLink RX9 77 yX9_many, Cond.static yX9_many, Cond.code yX9_many cX9_many 4 (some .int), Cond.methodLink RX9 81 yX9_within, Cond.static yX9_within, Cond.code yX9_within cX9_within 4 (some .long), Cond.methodLink RX9 69 yX9_becomes, Cond.instanceMethod yX9_becomes, Cond.selects RX9 yX9_becomes yX9_becomes, Cond.code yX9_becomes cX9_becomes 4 none]
def wsX9_face_r2 : List Cond := [Cond.methodLink RX9 66 yX9_keep, Cond.instanceMethod yX9_keep, Cond.selects RX9 yX9_keep yX9_keep, Cond.code yX9_keep cX9_keep 2 none, Cond.fieldLink RX9 63 "HoleHouseModel" "kept" "I", Cond.fieldLink RX9 17 "HoleHouseModel" "pointsHad" "[I", Cond.fieldLink RX9 21 "HoleHouseModel" "facesHad" "[J"]
def wsX9_face : List Cond := .code yX9_face cX9_face 3 (some .int) :: ((wsX9_face_r1 ++ wsX9_face_r2) ++ wsX90)
def wsX9_cut_r1 : List Cond := [Cond.fieldLink RX9 13 "HoleHouseModel" "faces" "J", Cond.constantLong RX9 88 (-1), Cond.fieldLink RX9 7 "HoleHouseModel" "points" "I", Cond.methodLink RX9 73 yX9_isSet, Cond.instanceMethod yX9_isSet, Cond.selects RX9 yX9_isSet yX9_isSet, Cond.initialized RX9, Cond.code yX9_isSet cX9_isSet 2 (some .boolean), Cond.methodLink RX9 55 yX9_all, Cond.instanceMethod yX9_all, Cond.selects RX9 yX9_all yX9_all, Cond.code yX9_all cX9_all 1 (some .int), Cond.methodLink RX9 59 yX9_isIn, Cond.static yX9_isIn, Cond.code yX9_isIn cX9_isIn 3 (some .boolean), Cond.methodLink RX9 85 yX9_isFace, Cond.instanceMethod yX9_isFace, Cond.selects RX9 yX9_isFace yX9_isFace, Cond.code yX9_isFace cX9_isFace 2 (some .boolean), Cond.methodLink RX9 77 yX9_many, Cond.static yX9_many, Cond.code yX9_many cX9_many 4 (some .int), Cond.methodLink RX9 69 yX9_becomes, Cond.instanceMethod yX9_becomes]
def wsX9_cut_r2 : List Cond := [Cond.selects RX9 yX9_becomes yX9_becomes, Cond.code yX9_becomes cX9_becomes 4 none, Cond.methodLink RX9 66 yX9_keep, Cond.instanceMethod yX9_keep, Cond.selects RX9 yX9_keep yX9_keep, Cond.code yX9_keep cX9_keep 2 none, Cond.fieldLink RX9 63 "HoleHouseModel" "kept" "I", Cond.fieldLink RX9 17 "HoleHouseModel" "pointsHad" "[I", Cond.fieldLink RX9 21 "HoleHouseModel" "facesHad" "[J"]
def wsX9_cut : List Cond := .code yX9_cut cX9_cut 6 (some .int) :: ((wsX9_cut_r1 ++ wsX9_cut_r2) ++ wsX90)
def wsX9_spread : List Cond := .code yX9_spread cX9_spread 6 (some .int) :: ([.fieldLink RX9 7 "HoleHouseModel" "points" "I"] ++ wsX90)
def wsX9_link_r1 : List Cond := [Cond.fieldLink RX9 7 "HoleHouseModel" "points" "I", Cond.methodLink RX9 73 yX9_isSet, Cond.instanceMethod yX9_isSet, Cond.selects RX9 yX9_isSet yX9_isSet, Cond.initialized RX9, Cond.code yX9_isSet cX9_isSet 2 (some .boolean), Cond.methodLink RX9 55 yX9_all, Cond.instanceMethod yX9_all, Cond.selects RX9 yX9_all yX9_all, Cond.code yX9_all cX9_all 1 (some .int), Cond.methodLink RX9 59 yX9_isIn, Cond.static yX9_isIn, Cond.code yX9_isIn cX9_isIn 3 (some .boolean), Cond.methodLink RX9 85 yX9_isFace, Cond.instanceMethod yX9_isFace, Cond.selects RX9 yX9_isFace yX9_isFace, Cond.code yX9_isFace cX9_isFace 2 (some .boolean), Cond.fieldLink RX9 13 "HoleHouseModel" "faces" "J", Cond.methodLink RX9 90 yX9_size, Cond.static yX9_size, Cond.code yX9_size cX9_size 3 (some .int), Cond.methodLink RX9 94 yX9_spread, Cond.instanceMethod yX9_spread, Cond.selects RX9 yX9_spread yX9_spread]
def wsX9_link_r2 : List Cond := [Cond.code yX9_spread cX9_spread 6 (some .int), Cond.methodLink RX9 69 yX9_becomes, Cond.instanceMethod yX9_becomes, Cond.selects RX9 yX9_becomes yX9_becomes, Cond.code yX9_becomes cX9_becomes 4 none, Cond.methodLink RX9 66 yX9_keep, Cond.instanceMethod yX9_keep, Cond.selects RX9 yX9_keep yX9_keep, Cond.code yX9_keep cX9_keep 2 none, Cond.fieldLink RX9 63 "HoleHouseModel" "kept" "I", Cond.fieldLink RX9 17 "HoleHouseModel" "pointsHad" "[I", Cond.fieldLink RX9 21 "HoleHouseModel" "facesHad" "[J"]
def wsX9_link : List Cond := .code yX9_link cX9_link 6 (some .int) :: ((wsX9_link_r1 ++ wsX9_link_r2) ++ wsX90)
def wsX9_dual : List Cond := .code yX9_dual cX9_dual 4 (some .boolean) :: ([.fieldLink RX9 7 "HoleHouseModel" "points" "I", .methodLink RX9 55 yX9_all, .instanceMethod yX9_all, .selects RX9 yX9_all yX9_all, .initialized RX9, .code yX9_all cX9_all 1 (some .int), .methodLink RX9 85 yX9_isFace, .instanceMethod yX9_isFace, .selects RX9 yX9_isFace yX9_isFace, .code yX9_isFace cX9_isFace 2 (some .boolean), .fieldLink RX9 13 "HoleHouseModel" "faces" "J", .methodLink RX9 69 yX9_becomes, .instanceMethod yX9_becomes, .selects RX9 yX9_becomes yX9_becomes, .code yX9_becomes cX9_becomes 4 none, .methodLink RX9 66 yX9_keep, .instanceMethod yX9_keep, .selects RX9 yX9_keep yX9_keep, .code yX9_keep cX9_keep 2 none, .fieldLink RX9 63 "HoleHouseModel" "kept" "I", .fieldLink RX9 17 "HoleHouseModel" "pointsHad" "[I", .fieldLink RX9 21 "HoleHouseModel" "facesHad" "[J"] ++ wsX90)
def wsX9_has : List Cond := .code yX9_has cX9_has 2 (some .int) :: ([.methodLink RX9 73 yX9_isSet, .instanceMethod yX9_isSet, .selects RX9 yX9_isSet yX9_isSet, .initialized RX9, .code yX9_isSet cX9_isSet 2 (some .boolean), .methodLink RX9 55 yX9_all, .instanceMethod yX9_all, .selects RX9 yX9_all yX9_all, .code yX9_all cX9_all 1 (some .int), .fieldLink RX9 7 "HoleHouseModel" "points" "I", .methodLink RX9 59 yX9_isIn, .static yX9_isIn, .code yX9_isIn cX9_isIn 3 (some .boolean), .methodLink RX9 85 yX9_isFace, .instanceMethod yX9_isFace, .selects RX9 yX9_isFace yX9_isFace, .code yX9_isFace cX9_isFace 2 (some .boolean), .fieldLink RX9 13 "HoleHouseModel" "faces" "J"] ++ wsX90)
def wsX9_facesOf : List Cond := .code yX9_facesOf cX9_facesOf 6 (some .long) :: ([.methodLink RX9 55 yX9_all, .instanceMethod yX9_all, .selects RX9 yX9_all yX9_all, .initialized RX9, .code yX9_all cX9_all 1 (some .int), .fieldLink RX9 7 "HoleHouseModel" "points" "I", .methodLink RX9 85 yX9_isFace, .instanceMethod yX9_isFace, .selects RX9 yX9_isFace yX9_isFace, .code yX9_isFace cX9_isFace 2 (some .boolean), .fieldLink RX9 13 "HoleHouseModel" "faces" "J", .methodLink RX9 90 yX9_size, .static yX9_size, .code yX9_size cX9_size 3 (some .int)] ++ wsX90)
def wsX9_faces : List Cond := .code yX9_faces cX9_faces 2 (some .int) :: ([.methodLink RX9 59 yX9_isIn, .static yX9_isIn, .initialized RX9, .code yX9_isIn cX9_isIn 3 (some .boolean), .methodLink RX9 55 yX9_all, .instanceMethod yX9_all, .selects RX9 yX9_all yX9_all, .code yX9_all cX9_all 1 (some .int), .fieldLink RX9 7 "HoleHouseModel" "points" "I", .methodLink RX9 98 yX9_facesOf, .instanceMethod yX9_facesOf, .selects RX9 yX9_facesOf yX9_facesOf, .code yX9_facesOf cX9_facesOf 6 (some .long), .methodLink RX9 85 yX9_isFace, .instanceMethod yX9_isFace, .selects RX9 yX9_isFace yX9_isFace, .code yX9_isFace cX9_isFace 2 (some .boolean), .fieldLink RX9 13 "HoleHouseModel" "faces" "J", .methodLink RX9 90 yX9_size, .static yX9_size, .code yX9_size cX9_size 3 (some .int), .methodLink RX9 77 yX9_many, .static yX9_many, .code yX9_many cX9_many 4 (some .int)] ++ wsX90)
def wsX9_isMissing : List Cond := .code yX9_isMissing cX9_isMissing 4 (some .boolean) :: ([.fieldLink RX9 7 "HoleHouseModel" "points" "I", .methodLink RX9 85 yX9_isFace, .instanceMethod yX9_isFace, .selects RX9 yX9_isFace yX9_isFace, .initialized RX9, .code yX9_isFace cX9_isFace 2 (some .boolean), .fieldLink RX9 13 "HoleHouseModel" "faces" "J"] ++ wsX90)
def wsX9_missing : List Cond := .code yX9_missing cX9_missing 4 (some .int) :: ([.methodLink RX9 55 yX9_all, .instanceMethod yX9_all, .selects RX9 yX9_all yX9_all, .initialized RX9, .code yX9_all cX9_all 1 (some .int), .fieldLink RX9 7 "HoleHouseModel" "points" "I", .methodLink RX9 102 yX9_isMissing, .instanceMethod yX9_isMissing, .selects RX9 yX9_isMissing yX9_isMissing, .code yX9_isMissing cX9_isMissing 4 (some .boolean), .methodLink RX9 85 yX9_isFace, .instanceMethod yX9_isFace, .selects RX9 yX9_isFace yX9_isFace, .code yX9_isFace cX9_isFace 2 (some .boolean), .fieldLink RX9 13 "HoleHouseModel" "faces" "J"] ++ wsX90)
def wsX9_missingMany : List Cond := .code yX9_missingMany cX9_missingMany 3 (some .int) :: ([.methodLink RX9 55 yX9_all, .instanceMethod yX9_all, .selects RX9 yX9_all yX9_all, .initialized RX9, .code yX9_all cX9_all 1 (some .int), .fieldLink RX9 7 "HoleHouseModel" "points" "I", .methodLink RX9 102 yX9_isMissing, .instanceMethod yX9_isMissing, .selects RX9 yX9_isMissing yX9_isMissing, .code yX9_isMissing cX9_isMissing 4 (some .boolean), .methodLink RX9 85 yX9_isFace, .instanceMethod yX9_isFace, .selects RX9 yX9_isFace yX9_isFace, .code yX9_isFace cX9_isFace 2 (some .boolean), .fieldLink RX9 13 "HoleHouseModel" "faces" "J"] ++ wsX90)
def wsX9_isFlag : List Cond := .code yX9_isFlag cX9_isFlag 3 (some .boolean) :: ([.methodLink RX9 55 yX9_all, .instanceMethod yX9_all, .selects RX9 yX9_all yX9_all, .initialized RX9, .code yX9_all cX9_all 1 (some .int), .fieldLink RX9 7 "HoleHouseModel" "points" "I", .methodLink RX9 102 yX9_isMissing, .instanceMethod yX9_isMissing, .selects RX9 yX9_isMissing yX9_isMissing, .code yX9_isMissing cX9_isMissing 4 (some .boolean), .methodLink RX9 85 yX9_isFace, .instanceMethod yX9_isFace, .selects RX9 yX9_isFace yX9_isFace, .code yX9_isFace cX9_isFace 2 (some .boolean), .fieldLink RX9 13 "HoleHouseModel" "faces" "J", .methodLink RX9 90 yX9_size, .static yX9_size, .code yX9_size cX9_size 3 (some .int)] ++ wsX90)
def wsX9_clear : List Cond := .code yX9_clear cX9_clear 2 none :: ([.fieldLink RX9 25 "HoleHouseModel" "base" "[J"] ++ wsX90)
def wsX9_lays : List Cond := .code yX9_lays cX9_lays 6 (some .boolean) :: ([.fieldLink RX9 25 "HoleHouseModel" "base" "[J"] ++ wsX90)
def wsX9_border : List Cond := .code yX9_border cX9_border 5 (some .long) :: ([.fieldLink RX9 7 "HoleHouseModel" "points" "I"] ++ wsX90)
def wsX9_borders_r1 : List Cond := [Cond.methodLink RX9 105 yX9_clear, Cond.instanceMethod yX9_clear, Cond.selects RX9 yX9_clear yX9_clear, Cond.initialized RX9, Cond.code yX9_clear cX9_clear 2 none, Cond.fieldLink RX9 25 "HoleHouseModel" "base" "[J", Cond.methodLink RX9 55 yX9_all, Cond.instanceMethod yX9_all, Cond.selects RX9 yX9_all yX9_all, Cond.code yX9_all cX9_all 1 (some .int), Cond.fieldLink RX9 7 "HoleHouseModel" "points" "I", Cond.methodLink RX9 90 yX9_size, Cond.static yX9_size, Cond.code yX9_size cX9_size 3 (some .int), Cond.methodLink RX9 85 yX9_isFace, Cond.instanceMethod yX9_isFace, Cond.selects RX9 yX9_isFace yX9_isFace, Cond.code yX9_isFace cX9_isFace 2 (some .boolean), Cond.fieldLink RX9 13 "HoleHouseModel" "faces" "J", Cond.methodLink RX9 108 yX9_border, Cond.instanceMethod yX9_border, Cond.selects RX9 yX9_border yX9_border, Cond.code yX9_border cX9_border 5 (some .long), Cond.methodLink RX9 111 yX9_lays]
def wsX9_borders_r2 : List Cond := [Cond.instanceMethod yX9_lays, Cond.selects RX9 yX9_lays yX9_lays, Cond.code yX9_lays cX9_lays 6 (some .boolean)]
def wsX9_borders : List Cond := .code yX9_borders cX9_borders 5 (some .int) :: ((wsX9_borders_r1 ++ wsX9_borders_r2) ++ wsX90)
def wsX9_holesOf_r1 : List Cond := [Cond.methodLink RX9 98 yX9_facesOf, Cond.instanceMethod yX9_facesOf, Cond.selects RX9 yX9_facesOf yX9_facesOf, Cond.initialized RX9, Cond.code yX9_facesOf cX9_facesOf 6 (some .long), Cond.methodLink RX9 55 yX9_all, Cond.instanceMethod yX9_all, Cond.selects RX9 yX9_all yX9_all, Cond.code yX9_all cX9_all 1 (some .int), Cond.fieldLink RX9 7 "HoleHouseModel" "points" "I", Cond.methodLink RX9 85 yX9_isFace, Cond.instanceMethod yX9_isFace, Cond.selects RX9 yX9_isFace yX9_isFace, Cond.code yX9_isFace cX9_isFace 2 (some .boolean), Cond.fieldLink RX9 13 "HoleHouseModel" "faces" "J", Cond.methodLink RX9 90 yX9_size, Cond.static yX9_size, Cond.code yX9_size cX9_size 3 (some .int), Cond.methodLink RX9 77 yX9_many, Cond.static yX9_many, Cond.code yX9_many cX9_many 4 (some .int), Cond.methodLink RX9 115 yX9_borders, Cond.instanceMethod yX9_borders, Cond.selects RX9 yX9_borders yX9_borders]
def wsX9_holesOf_r2 : List Cond := [Cond.code yX9_borders cX9_borders 5 (some .int), Cond.methodLink RX9 105 yX9_clear, Cond.instanceMethod yX9_clear, Cond.selects RX9 yX9_clear yX9_clear, Cond.code yX9_clear cX9_clear 2 none, Cond.fieldLink RX9 25 "HoleHouseModel" "base" "[J", Cond.methodLink RX9 108 yX9_border, Cond.instanceMethod yX9_border, Cond.selects RX9 yX9_border yX9_border, Cond.code yX9_border cX9_border 5 (some .long), Cond.methodLink RX9 111 yX9_lays, Cond.instanceMethod yX9_lays, Cond.selects RX9 yX9_lays yX9_lays, Cond.code yX9_lays cX9_lays 6 (some .boolean)]
def wsX9_holesOf : List Cond := .code yX9_holesOf cX9_holesOf 3 (some .int) :: ((wsX9_holesOf_r1 ++ wsX9_holesOf_r2) ++ wsX90)
def wsX9_holes_r1 : List Cond := [Cond.methodLink RX9 73 yX9_isSet, Cond.instanceMethod yX9_isSet, Cond.selects RX9 yX9_isSet yX9_isSet, Cond.initialized RX9, Cond.code yX9_isSet cX9_isSet 2 (some .boolean), Cond.methodLink RX9 55 yX9_all, Cond.instanceMethod yX9_all, Cond.selects RX9 yX9_all yX9_all, Cond.code yX9_all cX9_all 1 (some .int), Cond.fieldLink RX9 7 "HoleHouseModel" "points" "I", Cond.methodLink RX9 59 yX9_isIn, Cond.static yX9_isIn, Cond.code yX9_isIn cX9_isIn 3 (some .boolean), Cond.methodLink RX9 118 yX9_holesOf, Cond.instanceMethod yX9_holesOf, Cond.selects RX9 yX9_holesOf yX9_holesOf, Cond.code yX9_holesOf cX9_holesOf 3 (some .int), Cond.methodLink RX9 98 yX9_facesOf, Cond.instanceMethod yX9_facesOf, Cond.selects RX9 yX9_facesOf yX9_facesOf, Cond.code yX9_facesOf cX9_facesOf 6 (some .long), Cond.methodLink RX9 85 yX9_isFace, Cond.instanceMethod yX9_isFace, Cond.selects RX9 yX9_isFace yX9_isFace]
def wsX9_holes_r2 : List Cond := [Cond.code yX9_isFace cX9_isFace 2 (some .boolean), Cond.fieldLink RX9 13 "HoleHouseModel" "faces" "J", Cond.methodLink RX9 90 yX9_size, Cond.static yX9_size, Cond.code yX9_size cX9_size 3 (some .int), Cond.methodLink RX9 77 yX9_many, Cond.static yX9_many, Cond.code yX9_many cX9_many 4 (some .int), Cond.methodLink RX9 115 yX9_borders, Cond.instanceMethod yX9_borders, Cond.selects RX9 yX9_borders yX9_borders, Cond.code yX9_borders cX9_borders 5 (some .int), Cond.methodLink RX9 105 yX9_clear, Cond.instanceMethod yX9_clear, Cond.selects RX9 yX9_clear yX9_clear, Cond.code yX9_clear cX9_clear 2 none, Cond.fieldLink RX9 25 "HoleHouseModel" "base" "[J", Cond.methodLink RX9 108 yX9_border, Cond.instanceMethod yX9_border, Cond.selects RX9 yX9_border yX9_border, Cond.code yX9_border cX9_border 5 (some .long), Cond.methodLink RX9 111 yX9_lays, Cond.instanceMethod yX9_lays, Cond.selects RX9 yX9_lays yX9_lays]
def wsX9_holes_r3 : List Cond := [Cond.code yX9_lays cX9_lays 6 (some .boolean)]
def wsX9_holes : List Cond := .code yX9_holes cX9_holes 3 (some .int) :: ((wsX9_holes_r1 ++ (wsX9_holes_r2 ++ wsX9_holes_r3)) ++ wsX90)
def wsX9_space_r1 : List Cond := [Cond.methodLink RX9 59 yX9_isIn, Cond.static yX9_isIn, Cond.initialized RX9, Cond.code yX9_isIn cX9_isIn 3 (some .boolean), Cond.methodLink RX9 55 yX9_all, Cond.instanceMethod yX9_all, Cond.selects RX9 yX9_all yX9_all, Cond.code yX9_all cX9_all 1 (some .int), Cond.fieldLink RX9 7 "HoleHouseModel" "points" "I", Cond.methodLink RX9 90 yX9_size, Cond.static yX9_size, Cond.code yX9_size cX9_size 3 (some .int), Cond.methodLink RX9 118 yX9_holesOf, Cond.instanceMethod yX9_holesOf, Cond.selects RX9 yX9_holesOf yX9_holesOf, Cond.code yX9_holesOf cX9_holesOf 3 (some .int), Cond.methodLink RX9 98 yX9_facesOf, Cond.instanceMethod yX9_facesOf, Cond.selects RX9 yX9_facesOf yX9_facesOf, Cond.code yX9_facesOf cX9_facesOf 6 (some .long), Cond.methodLink RX9 85 yX9_isFace, Cond.instanceMethod yX9_isFace, Cond.selects RX9 yX9_isFace yX9_isFace, Cond.code yX9_isFace cX9_isFace 2 (some .boolean)]
def wsX9_space_r2 : List Cond := [Cond.fieldLink RX9 13 "HoleHouseModel" "faces" "J", Cond.methodLink RX9 77 yX9_many, Cond.static yX9_many, Cond.code yX9_many cX9_many 4 (some .int), Cond.methodLink RX9 115 yX9_borders, Cond.instanceMethod yX9_borders, Cond.selects RX9 yX9_borders yX9_borders, Cond.code yX9_borders cX9_borders 5 (some .int), Cond.methodLink RX9 105 yX9_clear, Cond.instanceMethod yX9_clear, Cond.selects RX9 yX9_clear yX9_clear, Cond.code yX9_clear cX9_clear 2 none, Cond.fieldLink RX9 25 "HoleHouseModel" "base" "[J", Cond.methodLink RX9 108 yX9_border, Cond.instanceMethod yX9_border, Cond.selects RX9 yX9_border yX9_border, Cond.code yX9_border cX9_border 5 (some .long), Cond.methodLink RX9 111 yX9_lays, Cond.instanceMethod yX9_lays, Cond.selects RX9 yX9_lays yX9_lays, Cond.code yX9_lays cX9_lays 6 (some .boolean)]
def wsX9_space : List Cond := .code yX9_space cX9_space 6 (some .int) :: ((wsX9_space_r1 ++ wsX9_space_r2) ++ wsX90)
def wsX9_tower_r1 : List Cond := [Cond.methodLink RX9 59 yX9_isIn, Cond.static yX9_isIn, Cond.initialized RX9, Cond.code yX9_isIn cX9_isIn 3 (some .boolean), Cond.methodLink RX9 55 yX9_all, Cond.instanceMethod yX9_all, Cond.selects RX9 yX9_all yX9_all, Cond.code yX9_all cX9_all 1 (some .int), Cond.fieldLink RX9 7 "HoleHouseModel" "points" "I", Cond.methodLink RX9 90 yX9_size, Cond.static yX9_size, Cond.code yX9_size cX9_size 3 (some .int), Cond.methodLink RX9 118 yX9_holesOf, Cond.instanceMethod yX9_holesOf, Cond.selects RX9 yX9_holesOf yX9_holesOf, Cond.code yX9_holesOf cX9_holesOf 3 (some .int), Cond.methodLink RX9 98 yX9_facesOf, Cond.instanceMethod yX9_facesOf, Cond.selects RX9 yX9_facesOf yX9_facesOf, Cond.code yX9_facesOf cX9_facesOf 6 (some .long), Cond.methodLink RX9 85 yX9_isFace, Cond.instanceMethod yX9_isFace, Cond.selects RX9 yX9_isFace yX9_isFace, Cond.code yX9_isFace cX9_isFace 2 (some .boolean)]
def wsX9_tower_r2 : List Cond := [Cond.fieldLink RX9 13 "HoleHouseModel" "faces" "J", Cond.methodLink RX9 77 yX9_many, Cond.static yX9_many, Cond.code yX9_many cX9_many 4 (some .int), Cond.methodLink RX9 115 yX9_borders, Cond.instanceMethod yX9_borders, Cond.selects RX9 yX9_borders yX9_borders, Cond.code yX9_borders cX9_borders 5 (some .int), Cond.methodLink RX9 105 yX9_clear, Cond.instanceMethod yX9_clear, Cond.selects RX9 yX9_clear yX9_clear, Cond.code yX9_clear cX9_clear 2 none, Cond.fieldLink RX9 25 "HoleHouseModel" "base" "[J", Cond.methodLink RX9 108 yX9_border, Cond.instanceMethod yX9_border, Cond.selects RX9 yX9_border yX9_border, Cond.code yX9_border cX9_border 5 (some .long), Cond.methodLink RX9 111 yX9_lays, Cond.instanceMethod yX9_lays, Cond.selects RX9 yX9_lays yX9_lays, Cond.code yX9_lays cX9_lays 6 (some .boolean)]
def wsX9_tower : List Cond := .code yX9_tower cX9_tower 5 (some .int) :: ((wsX9_tower_r1 ++ wsX9_tower_r2) ++ wsX90)
def wsX9_odd : List Cond := .code yX9_odd cX9_odd 7 (some .boolean) :: ([.fieldLink RX9 7 "HoleHouseModel" "points" "I"] ++ wsX90)
def wsX9_rise : List Cond := .code yX9_rise cX9_rise 8 (some .long) :: ([.methodLink RX9 55 yX9_all, .instanceMethod yX9_all, .selects RX9 yX9_all yX9_all, .initialized RX9, .code yX9_all cX9_all 1 (some .int), .fieldLink RX9 7 "HoleHouseModel" "points" "I", .methodLink RX9 90 yX9_size, .static yX9_size, .code yX9_size cX9_size 3 (some .int), .methodLink RX9 85 yX9_isFace, .instanceMethod yX9_isFace, .selects RX9 yX9_isFace yX9_isFace, .code yX9_isFace cX9_isFace 2 (some .boolean), .fieldLink RX9 13 "HoleHouseModel" "faces" "J", .methodLink RX9 121 yX9_odd, .instanceMethod yX9_odd, .selects RX9 yX9_odd yX9_odd, .code yX9_odd cX9_odd 7 (some .boolean)] ++ wsX90)
def wsX9_highest : List Cond := .code yX9_highest cX9_highest 3 (some .long) :: ([])
def wsX9_closed_r1 : List Cond := [Cond.fieldLink RX9 28 "HoleHouseModel" "rises" "[J", Cond.fieldLink RX9 31 "HoleHouseModel" "marks" "[J", Cond.methodLink RX9 55 yX9_all, Cond.instanceMethod yX9_all, Cond.selects RX9 yX9_all yX9_all, Cond.initialized RX9, Cond.code yX9_all cX9_all 1 (some .int), Cond.fieldLink RX9 7 "HoleHouseModel" "points" "I", Cond.methodLink RX9 90 yX9_size, Cond.static yX9_size, Cond.code yX9_size cX9_size 3 (some .int), Cond.methodLink RX9 85 yX9_isFace, Cond.instanceMethod yX9_isFace, Cond.selects RX9 yX9_isFace yX9_isFace, Cond.code yX9_isFace cX9_isFace 2 (some .boolean), Cond.fieldLink RX9 13 "HoleHouseModel" "faces" "J", Cond.methodLink RX9 125 yX9_rise, Cond.instanceMethod yX9_rise, Cond.selects RX9 yX9_rise yX9_rise, Cond.code yX9_rise cX9_rise 8 (some .long), Cond.methodLink RX9 121 yX9_odd, Cond.instanceMethod yX9_odd, Cond.selects RX9 yX9_odd yX9_odd, Cond.code yX9_odd cX9_odd 7 (some .boolean)]
def wsX9_closed_r2 : List Cond := [Cond.methodLink RX9 129 yX9_highest, Cond.static yX9_highest, Cond.code yX9_highest cX9_highest 3 (some .long)]
def wsX9_closed : List Cond := .code yX9_closed cX9_closed 12 (some .int) :: ((wsX9_closed_r1 ++ wsX9_closed_r2) ++ wsX90)
def wsX9_product : List Cond := .code yX9_product cX9_product 12 (some .long) :: ([.methodLink RX9 55 yX9_all, .instanceMethod yX9_all, .selects RX9 yX9_all yX9_all, .initialized RX9, .code yX9_all cX9_all 1 (some .int), .fieldLink RX9 7 "HoleHouseModel" "points" "I", .methodLink RX9 90 yX9_size, .static yX9_size, .code yX9_size cX9_size 3 (some .int), .methodLink RX9 85 yX9_isFace, .instanceMethod yX9_isFace, .selects RX9 yX9_isFace yX9_isFace, .code yX9_isFace cX9_isFace 2 (some .boolean), .fieldLink RX9 13 "HoleHouseModel" "faces" "J"] ++ wsX90)
def wsX9_rankOf_r1 : List Cond := [Cond.fieldLink RX9 34 "HoleHouseModel" "closedJ" "[J", Cond.fieldLink RX9 37 "HoleHouseModel" "closedL" "[J", Cond.methodLink RX9 133 yX9_closed, Cond.instanceMethod yX9_closed, Cond.selects RX9 yX9_closed yX9_closed, Cond.initialized RX9, Cond.code yX9_closed cX9_closed 12 (some .int), Cond.fieldLink RX9 28 "HoleHouseModel" "rises" "[J", Cond.fieldLink RX9 31 "HoleHouseModel" "marks" "[J", Cond.methodLink RX9 55 yX9_all, Cond.instanceMethod yX9_all, Cond.selects RX9 yX9_all yX9_all, Cond.code yX9_all cX9_all 1 (some .int), Cond.fieldLink RX9 7 "HoleHouseModel" "points" "I", Cond.methodLink RX9 90 yX9_size, Cond.static yX9_size, Cond.code yX9_size cX9_size 3 (some .int), Cond.methodLink RX9 85 yX9_isFace, Cond.instanceMethod yX9_isFace, Cond.selects RX9 yX9_isFace yX9_isFace, Cond.code yX9_isFace cX9_isFace 2 (some .boolean), Cond.fieldLink RX9 13 "HoleHouseModel" "faces" "J", Cond.methodLink RX9 125 yX9_rise, Cond.instanceMethod yX9_rise]
def wsX9_rankOf_r2 : List Cond := [Cond.selects RX9 yX9_rise yX9_rise, Cond.code yX9_rise cX9_rise 8 (some .long), Cond.methodLink RX9 121 yX9_odd, Cond.instanceMethod yX9_odd, Cond.selects RX9 yX9_odd yX9_odd, Cond.code yX9_odd cX9_odd 7 (some .boolean), Cond.methodLink RX9 129 yX9_highest, Cond.static yX9_highest, Cond.code yX9_highest cX9_highest 3 (some .long), Cond.methodLink RX9 105 yX9_clear, Cond.instanceMethod yX9_clear, Cond.selects RX9 yX9_clear yX9_clear, Cond.code yX9_clear cX9_clear 2 none, Cond.fieldLink RX9 25 "HoleHouseModel" "base" "[J", Cond.methodLink RX9 111 yX9_lays, Cond.instanceMethod yX9_lays, Cond.selects RX9 yX9_lays yX9_lays, Cond.code yX9_lays cX9_lays 6 (some .boolean), Cond.methodLink RX9 137 yX9_product, Cond.instanceMethod yX9_product, Cond.selects RX9 yX9_product yX9_product, Cond.code yX9_product cX9_product 12 (some .long)]
def wsX9_rankOf : List Cond := .code yX9_rankOf cX9_rankOf 10 (some .int) :: ((wsX9_rankOf_r1 ++ wsX9_rankOf_r2) ++ wsX90)
def wsX9_rank_r1 : List Cond := [Cond.methodLink RX9 73 yX9_isSet, Cond.instanceMethod yX9_isSet, Cond.selects RX9 yX9_isSet yX9_isSet, Cond.initialized RX9, Cond.code yX9_isSet cX9_isSet 2 (some .boolean), Cond.methodLink RX9 55 yX9_all, Cond.instanceMethod yX9_all, Cond.selects RX9 yX9_all yX9_all, Cond.code yX9_all cX9_all 1 (some .int), Cond.fieldLink RX9 7 "HoleHouseModel" "points" "I", Cond.methodLink RX9 59 yX9_isIn, Cond.static yX9_isIn, Cond.code yX9_isIn cX9_isIn 3 (some .boolean), Cond.methodLink RX9 141 yX9_rankOf, Cond.instanceMethod yX9_rankOf, Cond.selects RX9 yX9_rankOf yX9_rankOf, Cond.code yX9_rankOf cX9_rankOf 10 (some .int), Cond.fieldLink RX9 34 "HoleHouseModel" "closedJ" "[J", Cond.fieldLink RX9 37 "HoleHouseModel" "closedL" "[J", Cond.methodLink RX9 133 yX9_closed, Cond.instanceMethod yX9_closed, Cond.selects RX9 yX9_closed yX9_closed, Cond.code yX9_closed cX9_closed 12 (some .int), Cond.fieldLink RX9 28 "HoleHouseModel" "rises" "[J"]
def wsX9_rank_r2 : List Cond := [Cond.fieldLink RX9 31 "HoleHouseModel" "marks" "[J", Cond.methodLink RX9 90 yX9_size, Cond.static yX9_size, Cond.code yX9_size cX9_size 3 (some .int), Cond.methodLink RX9 85 yX9_isFace, Cond.instanceMethod yX9_isFace, Cond.selects RX9 yX9_isFace yX9_isFace, Cond.code yX9_isFace cX9_isFace 2 (some .boolean), Cond.fieldLink RX9 13 "HoleHouseModel" "faces" "J", Cond.methodLink RX9 125 yX9_rise, Cond.instanceMethod yX9_rise, Cond.selects RX9 yX9_rise yX9_rise, Cond.code yX9_rise cX9_rise 8 (some .long), Cond.methodLink RX9 121 yX9_odd, Cond.instanceMethod yX9_odd, Cond.selects RX9 yX9_odd yX9_odd, Cond.code yX9_odd cX9_odd 7 (some .boolean), Cond.methodLink RX9 129 yX9_highest, Cond.static yX9_highest, Cond.code yX9_highest cX9_highest 3 (some .long), Cond.methodLink RX9 105 yX9_clear, Cond.instanceMethod yX9_clear, Cond.selects RX9 yX9_clear yX9_clear, Cond.code yX9_clear cX9_clear 2 none]
def wsX9_rank_r3 : List Cond := [Cond.fieldLink RX9 25 "HoleHouseModel" "base" "[J", Cond.methodLink RX9 111 yX9_lays, Cond.instanceMethod yX9_lays, Cond.selects RX9 yX9_lays yX9_lays, Cond.code yX9_lays cX9_lays 6 (some .boolean), Cond.methodLink RX9 137 yX9_product, Cond.instanceMethod yX9_product, Cond.selects RX9 yX9_product yX9_product, Cond.code yX9_product cX9_product 12 (some .long)]
def wsX9_rank : List Cond := .code yX9_rank cX9_rank 5 (some .int) :: ((wsX9_rank_r1 ++ (wsX9_rank_r2 ++ wsX9_rank_r3)) ++ wsX90)
def wsX9_seeks_r1 : List Cond := [Cond.fieldLink RX9 159 "HoleHouseModel" "firstJ" "I", Cond.fieldLink RX9 162 "HoleHouseModel" "firstL" "I", Cond.fieldLink RX9 165 "HoleHouseModel" "firstA" "I", Cond.fieldLink RX9 168 "HoleHouseModel" "firstB" "I", Cond.fieldLink RX9 40 "HoleHouseModel" "table" "[I", Cond.fieldLink RX9 171 "HoleHouseModel" "firstRank" "I", Cond.methodLink RX9 55 yX9_all, Cond.instanceMethod yX9_all, Cond.selects RX9 yX9_all yX9_all, Cond.initialized RX9, Cond.code yX9_all cX9_all 1 (some .int), Cond.fieldLink RX9 7 "HoleHouseModel" "points" "I", Cond.methodLink RX9 90 yX9_size, Cond.static yX9_size, Cond.code yX9_size cX9_size 3 (some .int), Cond.methodLink RX9 141 yX9_rankOf, Cond.instanceMethod yX9_rankOf, Cond.selects RX9 yX9_rankOf yX9_rankOf, Cond.code yX9_rankOf cX9_rankOf 10 (some .int), Cond.fieldLink RX9 34 "HoleHouseModel" "closedJ" "[J", Cond.fieldLink RX9 37 "HoleHouseModel" "closedL" "[J", Cond.methodLink RX9 133 yX9_closed, Cond.instanceMethod yX9_closed, Cond.selects RX9 yX9_closed yX9_closed]
def wsX9_seeks_r2 : List Cond := [Cond.code yX9_closed cX9_closed 12 (some .int), Cond.fieldLink RX9 28 "HoleHouseModel" "rises" "[J", Cond.fieldLink RX9 31 "HoleHouseModel" "marks" "[J", Cond.methodLink RX9 85 yX9_isFace, Cond.instanceMethod yX9_isFace, Cond.selects RX9 yX9_isFace yX9_isFace, Cond.code yX9_isFace cX9_isFace 2 (some .boolean), Cond.fieldLink RX9 13 "HoleHouseModel" "faces" "J", Cond.methodLink RX9 125 yX9_rise, Cond.instanceMethod yX9_rise, Cond.selects RX9 yX9_rise yX9_rise, Cond.code yX9_rise cX9_rise 8 (some .long), Cond.methodLink RX9 121 yX9_odd, Cond.instanceMethod yX9_odd, Cond.selects RX9 yX9_odd yX9_odd, Cond.code yX9_odd cX9_odd 7 (some .boolean), Cond.methodLink RX9 129 yX9_highest, Cond.static yX9_highest, Cond.code yX9_highest cX9_highest 3 (some .long), Cond.methodLink RX9 105 yX9_clear, Cond.instanceMethod yX9_clear, Cond.selects RX9 yX9_clear yX9_clear, Cond.code yX9_clear cX9_clear 2 none, Cond.fieldLink RX9 25 "HoleHouseModel" "base" "[J"]
def wsX9_seeks_r3 : List Cond := [Cond.methodLink RX9 111 yX9_lays, Cond.instanceMethod yX9_lays, Cond.selects RX9 yX9_lays yX9_lays, Cond.code yX9_lays cX9_lays 6 (some .boolean), Cond.methodLink RX9 137 yX9_product, Cond.instanceMethod yX9_product, Cond.selects RX9 yX9_product yX9_product, Cond.code yX9_product cX9_product 12 (some .long)]
def wsX9_seeks : List Cond := .code yX9_seeks cX9_seeks 1 (some .boolean) :: ((wsX9_seeks_r1 ++ (wsX9_seeks_r2 ++ wsX9_seeks_r3)) ++ wsX90)
def wsX9_finds_r1 : List Cond := [Cond.fieldLink RX9 145 "HoleHouseModel" "askedPoints" "I", Cond.fieldLink RX9 7 "HoleHouseModel" "points" "I", Cond.fieldLink RX9 148 "HoleHouseModel" "askedFaces" "J", Cond.fieldLink RX9 13 "HoleHouseModel" "faces" "J", Cond.fieldLink RX9 151 "HoleHouseModel" "hasFirst" "Z", Cond.fieldLink RX9 40 "HoleHouseModel" "table" "[I", Cond.methodLink RX9 55 yX9_all, Cond.instanceMethod yX9_all, Cond.selects RX9 yX9_all yX9_all, Cond.initialized RX9, Cond.code yX9_all cX9_all 1 (some .int), Cond.methodLink RX9 118 yX9_holesOf, Cond.instanceMethod yX9_holesOf, Cond.selects RX9 yX9_holesOf yX9_holesOf, Cond.code yX9_holesOf cX9_holesOf 3 (some .int), Cond.methodLink RX9 98 yX9_facesOf, Cond.instanceMethod yX9_facesOf, Cond.selects RX9 yX9_facesOf yX9_facesOf, Cond.code yX9_facesOf cX9_facesOf 6 (some .long), Cond.methodLink RX9 85 yX9_isFace, Cond.instanceMethod yX9_isFace, Cond.selects RX9 yX9_isFace yX9_isFace, Cond.code yX9_isFace cX9_isFace 2 (some .boolean), Cond.methodLink RX9 90 yX9_size]
def wsX9_finds_r2 : List Cond := [Cond.static yX9_size, Cond.code yX9_size cX9_size 3 (some .int), Cond.methodLink RX9 77 yX9_many, Cond.static yX9_many, Cond.code yX9_many cX9_many 4 (some .int), Cond.methodLink RX9 115 yX9_borders, Cond.instanceMethod yX9_borders, Cond.selects RX9 yX9_borders yX9_borders, Cond.code yX9_borders cX9_borders 5 (some .int), Cond.methodLink RX9 105 yX9_clear, Cond.instanceMethod yX9_clear, Cond.selects RX9 yX9_clear yX9_clear, Cond.code yX9_clear cX9_clear 2 none, Cond.fieldLink RX9 25 "HoleHouseModel" "base" "[J", Cond.methodLink RX9 108 yX9_border, Cond.instanceMethod yX9_border, Cond.selects RX9 yX9_border yX9_border, Cond.code yX9_border cX9_border 5 (some .long), Cond.methodLink RX9 111 yX9_lays, Cond.instanceMethod yX9_lays, Cond.selects RX9 yX9_lays yX9_lays, Cond.code yX9_lays cX9_lays 6 (some .boolean), Cond.methodLink RX9 155 yX9_seeks, Cond.instanceMethod yX9_seeks]
def wsX9_finds_r3 : List Cond := [Cond.selects RX9 yX9_seeks yX9_seeks, Cond.code yX9_seeks cX9_seeks 1 (some .boolean), Cond.fieldLink RX9 159 "HoleHouseModel" "firstJ" "I", Cond.fieldLink RX9 162 "HoleHouseModel" "firstL" "I", Cond.fieldLink RX9 165 "HoleHouseModel" "firstA" "I", Cond.fieldLink RX9 168 "HoleHouseModel" "firstB" "I", Cond.fieldLink RX9 171 "HoleHouseModel" "firstRank" "I", Cond.methodLink RX9 141 yX9_rankOf, Cond.instanceMethod yX9_rankOf, Cond.selects RX9 yX9_rankOf yX9_rankOf, Cond.code yX9_rankOf cX9_rankOf 10 (some .int), Cond.fieldLink RX9 34 "HoleHouseModel" "closedJ" "[J", Cond.fieldLink RX9 37 "HoleHouseModel" "closedL" "[J", Cond.methodLink RX9 133 yX9_closed, Cond.instanceMethod yX9_closed, Cond.selects RX9 yX9_closed yX9_closed, Cond.code yX9_closed cX9_closed 12 (some .int), Cond.fieldLink RX9 28 "HoleHouseModel" "rises" "[J", Cond.fieldLink RX9 31 "HoleHouseModel" "marks" "[J", Cond.methodLink RX9 125 yX9_rise, Cond.instanceMethod yX9_rise, Cond.selects RX9 yX9_rise yX9_rise, Cond.code yX9_rise cX9_rise 8 (some .long), Cond.methodLink RX9 121 yX9_odd]
def wsX9_finds_r4 : List Cond := [Cond.instanceMethod yX9_odd, Cond.selects RX9 yX9_odd yX9_odd, Cond.code yX9_odd cX9_odd 7 (some .boolean), Cond.methodLink RX9 129 yX9_highest, Cond.static yX9_highest, Cond.code yX9_highest cX9_highest 3 (some .long), Cond.methodLink RX9 137 yX9_product, Cond.instanceMethod yX9_product, Cond.selects RX9 yX9_product yX9_product, Cond.code yX9_product cX9_product 12 (some .long)]
def wsX9_finds : List Cond := .code yX9_finds cX9_finds 3 (some .boolean) :: ((wsX9_finds_r1 ++ (wsX9_finds_r2 ++ (wsX9_finds_r3 ++ wsX9_finds_r4))) ++ wsX90)
def wsX9_first_r1 : List Cond := [Cond.fieldLink RX9 159 "HoleHouseModel" "firstJ" "I", Cond.fieldLink RX9 162 "HoleHouseModel" "firstL" "I", Cond.fieldLink RX9 165 "HoleHouseModel" "firstA" "I", Cond.fieldLink RX9 168 "HoleHouseModel" "firstB" "I", Cond.fieldLink RX9 171 "HoleHouseModel" "firstRank" "I", Cond.methodLink RX9 59 yX9_isIn, Cond.static yX9_isIn, Cond.initialized RX9, Cond.code yX9_isIn cX9_isIn 3 (some .boolean), Cond.methodLink RX9 174 yX9_finds, Cond.instanceMethod yX9_finds, Cond.selects RX9 yX9_finds yX9_finds, Cond.code yX9_finds cX9_finds 3 (some .boolean), Cond.fieldLink RX9 145 "HoleHouseModel" "askedPoints" "I", Cond.fieldLink RX9 7 "HoleHouseModel" "points" "I", Cond.fieldLink RX9 148 "HoleHouseModel" "askedFaces" "J", Cond.fieldLink RX9 13 "HoleHouseModel" "faces" "J", Cond.fieldLink RX9 151 "HoleHouseModel" "hasFirst" "Z", Cond.fieldLink RX9 40 "HoleHouseModel" "table" "[I", Cond.methodLink RX9 55 yX9_all, Cond.instanceMethod yX9_all, Cond.selects RX9 yX9_all yX9_all, Cond.code yX9_all cX9_all 1 (some .int), Cond.methodLink RX9 118 yX9_holesOf]
def wsX9_first_r2 : List Cond := [Cond.instanceMethod yX9_holesOf, Cond.selects RX9 yX9_holesOf yX9_holesOf, Cond.code yX9_holesOf cX9_holesOf 3 (some .int), Cond.methodLink RX9 98 yX9_facesOf, Cond.instanceMethod yX9_facesOf, Cond.selects RX9 yX9_facesOf yX9_facesOf, Cond.code yX9_facesOf cX9_facesOf 6 (some .long), Cond.methodLink RX9 85 yX9_isFace, Cond.instanceMethod yX9_isFace, Cond.selects RX9 yX9_isFace yX9_isFace, Cond.code yX9_isFace cX9_isFace 2 (some .boolean), Cond.methodLink RX9 90 yX9_size, Cond.static yX9_size, Cond.code yX9_size cX9_size 3 (some .int), Cond.methodLink RX9 77 yX9_many, Cond.static yX9_many, Cond.code yX9_many cX9_many 4 (some .int), Cond.methodLink RX9 115 yX9_borders, Cond.instanceMethod yX9_borders, Cond.selects RX9 yX9_borders yX9_borders, Cond.code yX9_borders cX9_borders 5 (some .int), Cond.methodLink RX9 105 yX9_clear, Cond.instanceMethod yX9_clear, Cond.selects RX9 yX9_clear yX9_clear]
def wsX9_first_r3 : List Cond := [Cond.code yX9_clear cX9_clear 2 none, Cond.fieldLink RX9 25 "HoleHouseModel" "base" "[J", Cond.methodLink RX9 108 yX9_border, Cond.instanceMethod yX9_border, Cond.selects RX9 yX9_border yX9_border, Cond.code yX9_border cX9_border 5 (some .long), Cond.methodLink RX9 111 yX9_lays, Cond.instanceMethod yX9_lays, Cond.selects RX9 yX9_lays yX9_lays, Cond.code yX9_lays cX9_lays 6 (some .boolean), Cond.methodLink RX9 155 yX9_seeks, Cond.instanceMethod yX9_seeks, Cond.selects RX9 yX9_seeks yX9_seeks, Cond.code yX9_seeks cX9_seeks 1 (some .boolean), Cond.methodLink RX9 141 yX9_rankOf, Cond.instanceMethod yX9_rankOf, Cond.selects RX9 yX9_rankOf yX9_rankOf, Cond.code yX9_rankOf cX9_rankOf 10 (some .int), Cond.fieldLink RX9 34 "HoleHouseModel" "closedJ" "[J", Cond.fieldLink RX9 37 "HoleHouseModel" "closedL" "[J", Cond.methodLink RX9 133 yX9_closed, Cond.instanceMethod yX9_closed, Cond.selects RX9 yX9_closed yX9_closed, Cond.code yX9_closed cX9_closed 12 (some .int)]
def wsX9_first_r4 : List Cond := [Cond.fieldLink RX9 28 "HoleHouseModel" "rises" "[J", Cond.fieldLink RX9 31 "HoleHouseModel" "marks" "[J", Cond.methodLink RX9 125 yX9_rise, Cond.instanceMethod yX9_rise, Cond.selects RX9 yX9_rise yX9_rise, Cond.code yX9_rise cX9_rise 8 (some .long), Cond.methodLink RX9 121 yX9_odd, Cond.instanceMethod yX9_odd, Cond.selects RX9 yX9_odd yX9_odd, Cond.code yX9_odd cX9_odd 7 (some .boolean), Cond.methodLink RX9 129 yX9_highest, Cond.static yX9_highest, Cond.code yX9_highest cX9_highest 3 (some .long), Cond.methodLink RX9 137 yX9_product, Cond.instanceMethod yX9_product, Cond.selects RX9 yX9_product yX9_product, Cond.code yX9_product cX9_product 12 (some .long)]
def wsX9_first : List Cond := .code yX9_first cX9_first 2 (some .int) :: ((wsX9_first_r1 ++ (wsX9_first_r2 ++ (wsX9_first_r3 ++ wsX9_first_r4))) ++ wsX90)
def wsX9_keeps : List Cond := .code yX9_keeps cX9_keeps 5 (some .boolean) :: ([.fieldLink RX9 7 "HoleHouseModel" "points" "I", .fieldLink RX9 43 "HoleHouseModel" "order" "[I", .methodLink RX9 55 yX9_all, .instanceMethod yX9_all, .selects RX9 yX9_all yX9_all, .initialized RX9, .code yX9_all cX9_all 1 (some .int), .methodLink RX9 85 yX9_isFace, .instanceMethod yX9_isFace, .selects RX9 yX9_isFace yX9_isFace, .code yX9_isFace cX9_isFace 2 (some .boolean), .fieldLink RX9 13 "HoleHouseModel" "faces" "J"] ++ wsX90)
def wsX9_nextOrder : List Cond := .code yX9_nextOrder cX9_nextOrder 6 (some .boolean) :: ([.fieldLink RX9 7 "HoleHouseModel" "points" "I", .fieldLink RX9 43 "HoleHouseModel" "order" "[I"] ++ wsX90)
def wsX9_turns : List Cond := .code yX9_turns cX9_turns 5 (some .int) :: ([.fieldLink RX9 7 "HoleHouseModel" "points" "I", .fieldLink RX9 43 "HoleHouseModel" "order" "[I", .methodLink RX9 177 yX9_keeps, .instanceMethod yX9_keeps, .selects RX9 yX9_keeps yX9_keeps, .initialized RX9, .code yX9_keeps cX9_keeps 5 (some .boolean), .methodLink RX9 55 yX9_all, .instanceMethod yX9_all, .selects RX9 yX9_all yX9_all, .code yX9_all cX9_all 1 (some .int), .methodLink RX9 85 yX9_isFace, .instanceMethod yX9_isFace, .selects RX9 yX9_isFace yX9_isFace, .code yX9_isFace cX9_isFace 2 (some .boolean), .fieldLink RX9 13 "HoleHouseModel" "faces" "J", .methodLink RX9 180 yX9_nextOrder, .instanceMethod yX9_nextOrder, .selects RX9 yX9_nextOrder yX9_nextOrder, .code yX9_nextOrder cX9_nextOrder 6 (some .boolean)] ++ wsX90)
def wsX9_isPoint : List Cond := .code yX9_isPoint cX9_isPoint 2 (some .boolean) :: ([.fieldLink RX9 7 "HoleHouseModel" "points" "I", .methodLink RX9 59 yX9_isIn, .static yX9_isIn, .initialized RX9, .code yX9_isIn cX9_isIn 3 (some .boolean)] ++ wsX90)
def wsX9_alike_r1 : List Cond := [Cond.methodLink RX9 183 yX9_isPoint, Cond.instanceMethod yX9_isPoint, Cond.selects RX9 yX9_isPoint yX9_isPoint, Cond.initialized RX9, Cond.code yX9_isPoint cX9_isPoint 2 (some .boolean), Cond.fieldLink RX9 7 "HoleHouseModel" "points" "I", Cond.methodLink RX9 59 yX9_isIn, Cond.static yX9_isIn, Cond.code yX9_isIn cX9_isIn 3 (some .boolean), Cond.methodLink RX9 186 yX9_turns, Cond.instanceMethod yX9_turns, Cond.selects RX9 yX9_turns yX9_turns, Cond.code yX9_turns cX9_turns 5 (some .int), Cond.fieldLink RX9 43 "HoleHouseModel" "order" "[I", Cond.methodLink RX9 177 yX9_keeps, Cond.instanceMethod yX9_keeps, Cond.selects RX9 yX9_keeps yX9_keeps, Cond.code yX9_keeps cX9_keeps 5 (some .boolean), Cond.methodLink RX9 55 yX9_all, Cond.instanceMethod yX9_all, Cond.selects RX9 yX9_all yX9_all, Cond.code yX9_all cX9_all 1 (some .int), Cond.methodLink RX9 85 yX9_isFace, Cond.instanceMethod yX9_isFace]
def wsX9_alike_r2 : List Cond := [Cond.selects RX9 yX9_isFace yX9_isFace, Cond.code yX9_isFace cX9_isFace 2 (some .boolean), Cond.fieldLink RX9 13 "HoleHouseModel" "faces" "J", Cond.methodLink RX9 180 yX9_nextOrder, Cond.instanceMethod yX9_nextOrder, Cond.selects RX9 yX9_nextOrder yX9_nextOrder, Cond.code yX9_nextOrder cX9_nextOrder 6 (some .boolean)]
def wsX9_alike : List Cond := .code yX9_alike cX9_alike 3 (some .int) :: ((wsX9_alike_r1 ++ wsX9_alike_r2) ++ wsX90)
def wsX9_classes : List Cond := .code yX9_classes cX9_classes 5 (some .int) :: ([.fieldLink RX9 7 "HoleHouseModel" "points" "I", .methodLink RX9 186 yX9_turns, .instanceMethod yX9_turns, .selects RX9 yX9_turns yX9_turns, .initialized RX9, .code yX9_turns cX9_turns 5 (some .int), .fieldLink RX9 43 "HoleHouseModel" "order" "[I", .methodLink RX9 177 yX9_keeps, .instanceMethod yX9_keeps, .selects RX9 yX9_keeps yX9_keeps, .code yX9_keeps cX9_keeps 5 (some .boolean), .methodLink RX9 55 yX9_all, .instanceMethod yX9_all, .selects RX9 yX9_all yX9_all, .code yX9_all cX9_all 1 (some .int), .methodLink RX9 85 yX9_isFace, .instanceMethod yX9_isFace, .selects RX9 yX9_isFace yX9_isFace, .code yX9_isFace cX9_isFace 2 (some .boolean), .fieldLink RX9 13 "HoleHouseModel" "faces" "J", .methodLink RX9 180 yX9_nextOrder, .instanceMethod yX9_nextOrder, .selects RX9 yX9_nextOrder yX9_nextOrder, .code yX9_nextOrder cX9_nextOrder 6 (some .boolean)] ++ wsX90)
def wsX9_look_r1 : List Cond := [Cond.fieldLink RX9 7 "HoleHouseModel" "points" "I", Cond.fieldLink RX9 13 "HoleHouseModel" "faces" "J", Cond.methodLink RX9 77 yX9_many, Cond.static yX9_many, Cond.initialized RX9, Cond.code yX9_many cX9_many 4 (some .int), Cond.methodLink RX9 55 yX9_all, Cond.instanceMethod yX9_all, Cond.selects RX9 yX9_all yX9_all, Cond.code yX9_all cX9_all 1 (some .int), Cond.methodLink RX9 98 yX9_facesOf, Cond.instanceMethod yX9_facesOf, Cond.selects RX9 yX9_facesOf yX9_facesOf, Cond.code yX9_facesOf cX9_facesOf 6 (some .long), Cond.methodLink RX9 85 yX9_isFace, Cond.instanceMethod yX9_isFace, Cond.selects RX9 yX9_isFace yX9_isFace, Cond.code yX9_isFace cX9_isFace 2 (some .boolean), Cond.methodLink RX9 90 yX9_size, Cond.static yX9_size, Cond.code yX9_size cX9_size 3 (some .int), Cond.methodLink RX9 189 yX9_missingMany, Cond.instanceMethod yX9_missingMany, Cond.selects RX9 yX9_missingMany yX9_missingMany]
def wsX9_look_r2 : List Cond := [Cond.code yX9_missingMany cX9_missingMany 3 (some .int), Cond.methodLink RX9 102 yX9_isMissing, Cond.instanceMethod yX9_isMissing, Cond.selects RX9 yX9_isMissing yX9_isMissing, Cond.code yX9_isMissing cX9_isMissing 4 (some .boolean), Cond.methodLink RX9 192 yX9_isFlag, Cond.instanceMethod yX9_isFlag, Cond.selects RX9 yX9_isFlag yX9_isFlag, Cond.code yX9_isFlag cX9_isFlag 3 (some .boolean), Cond.methodLink RX9 174 yX9_finds, Cond.instanceMethod yX9_finds, Cond.selects RX9 yX9_finds yX9_finds, Cond.code yX9_finds cX9_finds 3 (some .boolean), Cond.fieldLink RX9 145 "HoleHouseModel" "askedPoints" "I", Cond.fieldLink RX9 148 "HoleHouseModel" "askedFaces" "J", Cond.fieldLink RX9 151 "HoleHouseModel" "hasFirst" "Z", Cond.fieldLink RX9 40 "HoleHouseModel" "table" "[I", Cond.methodLink RX9 118 yX9_holesOf, Cond.instanceMethod yX9_holesOf, Cond.selects RX9 yX9_holesOf yX9_holesOf, Cond.code yX9_holesOf cX9_holesOf 3 (some .int), Cond.methodLink RX9 115 yX9_borders, Cond.instanceMethod yX9_borders, Cond.selects RX9 yX9_borders yX9_borders]
def wsX9_look_r3 : List Cond := [Cond.code yX9_borders cX9_borders 5 (some .int), Cond.methodLink RX9 105 yX9_clear, Cond.instanceMethod yX9_clear, Cond.selects RX9 yX9_clear yX9_clear, Cond.code yX9_clear cX9_clear 2 none, Cond.fieldLink RX9 25 "HoleHouseModel" "base" "[J", Cond.methodLink RX9 108 yX9_border, Cond.instanceMethod yX9_border, Cond.selects RX9 yX9_border yX9_border, Cond.code yX9_border cX9_border 5 (some .long), Cond.methodLink RX9 111 yX9_lays, Cond.instanceMethod yX9_lays, Cond.selects RX9 yX9_lays yX9_lays, Cond.code yX9_lays cX9_lays 6 (some .boolean), Cond.methodLink RX9 155 yX9_seeks, Cond.instanceMethod yX9_seeks, Cond.selects RX9 yX9_seeks yX9_seeks, Cond.code yX9_seeks cX9_seeks 1 (some .boolean), Cond.fieldLink RX9 159 "HoleHouseModel" "firstJ" "I", Cond.fieldLink RX9 162 "HoleHouseModel" "firstL" "I", Cond.fieldLink RX9 165 "HoleHouseModel" "firstA" "I", Cond.fieldLink RX9 168 "HoleHouseModel" "firstB" "I", Cond.fieldLink RX9 171 "HoleHouseModel" "firstRank" "I", Cond.methodLink RX9 141 yX9_rankOf]
def wsX9_look_r4 : List Cond := [Cond.instanceMethod yX9_rankOf, Cond.selects RX9 yX9_rankOf yX9_rankOf, Cond.code yX9_rankOf cX9_rankOf 10 (some .int), Cond.fieldLink RX9 34 "HoleHouseModel" "closedJ" "[J", Cond.fieldLink RX9 37 "HoleHouseModel" "closedL" "[J", Cond.methodLink RX9 133 yX9_closed, Cond.instanceMethod yX9_closed, Cond.selects RX9 yX9_closed yX9_closed, Cond.code yX9_closed cX9_closed 12 (some .int), Cond.fieldLink RX9 28 "HoleHouseModel" "rises" "[J", Cond.fieldLink RX9 31 "HoleHouseModel" "marks" "[J", Cond.methodLink RX9 125 yX9_rise, Cond.instanceMethod yX9_rise, Cond.selects RX9 yX9_rise yX9_rise, Cond.code yX9_rise cX9_rise 8 (some .long), Cond.methodLink RX9 121 yX9_odd, Cond.instanceMethod yX9_odd, Cond.selects RX9 yX9_odd yX9_odd, Cond.code yX9_odd cX9_odd 7 (some .boolean), Cond.methodLink RX9 129 yX9_highest, Cond.static yX9_highest, Cond.code yX9_highest cX9_highest 3 (some .long), Cond.methodLink RX9 137 yX9_product, Cond.instanceMethod yX9_product]
def wsX9_look_r5 : List Cond := [Cond.selects RX9 yX9_product yX9_product, Cond.code yX9_product cX9_product 12 (some .long), Cond.methodLink RX9 186 yX9_turns, Cond.instanceMethod yX9_turns, Cond.selects RX9 yX9_turns yX9_turns, Cond.code yX9_turns cX9_turns 5 (some .int), Cond.fieldLink RX9 43 "HoleHouseModel" "order" "[I", Cond.methodLink RX9 177 yX9_keeps, Cond.instanceMethod yX9_keeps, Cond.selects RX9 yX9_keeps yX9_keeps, Cond.code yX9_keeps cX9_keeps 5 (some .boolean), Cond.methodLink RX9 180 yX9_nextOrder, Cond.instanceMethod yX9_nextOrder, Cond.selects RX9 yX9_nextOrder yX9_nextOrder, Cond.code yX9_nextOrder cX9_nextOrder 6 (some .boolean), Cond.methodLink RX9 195 yX9_classes, Cond.instanceMethod yX9_classes, Cond.selects RX9 yX9_classes yX9_classes, Cond.code yX9_classes cX9_classes 5 (some .int)]
def wsX9_look : List Cond := .code yX9_look cX9_look 3 (some .int) :: ((wsX9_look_r1 ++ (wsX9_look_r2 ++ (wsX9_look_r3 ++ (wsX9_look_r4 ++ wsX9_look_r5)))) ++ wsX90)
def wsX9_feed : List Cond := .code yX9_feed cX9_feed 8 (some .int) :: ([.fieldLink RX9 198 "HoleHouseModel" "taped" "I", .fieldLink RX9 46 "HoleHouseModel" "tape" "[I"] ++ wsX90)
def wsX9_end : List Cond := .code yX9_end cX9_end 2 (some .boolean) :: ([.fieldLink RX9 198 "HoleHouseModel" "taped" "I", .methodLink RX9 59 yX9_isIn, .static yX9_isIn, .initialized RX9, .code yX9_isIn cX9_isIn 3 (some .boolean)] ++ wsX90)
def wsX9_see : List Cond := .code yX9_see cX9_see 2 (some .int) :: ([.fieldLink RX9 198 "HoleHouseModel" "taped" "I", .fieldLink RX9 46 "HoleHouseModel" "tape" "[I"] ++ wsX90)
def wsX9_blanks : List Cond := .code yX9_blanks cX9_blanks 3 (some .int) :: ([.methodLink RX9 201 yX9_see, .instanceMethod yX9_see, .selects RX9 yX9_see yX9_see, .initialized RX9, .code yX9_see cX9_see 2 (some .int), .fieldLink RX9 198 "HoleHouseModel" "taped" "I", .fieldLink RX9 46 "HoleHouseModel" "tape" "[I"] ++ wsX90)
def wsX9_reads : List Cond := .code yX9_reads cX9_reads 5 (some .int) :: ([.fieldLink RX9 207 "HoleHouseModel" "readPoints" "I", .fieldLink RX9 210 "HoleHouseModel" "readFaces" "J", .fieldLink RX9 198 "HoleHouseModel" "taped" "I", .methodLink RX9 204 yX9_blanks, .instanceMethod yX9_blanks, .selects RX9 yX9_blanks yX9_blanks, .initialized RX9, .code yX9_blanks cX9_blanks 3 (some .int), .methodLink RX9 201 yX9_see, .instanceMethod yX9_see, .selects RX9 yX9_see yX9_see, .code yX9_see cX9_see 2 (some .int), .fieldLink RX9 46 "HoleHouseModel" "tape" "[I", .methodLink RX9 59 yX9_isIn, .static yX9_isIn, .code yX9_isIn cX9_isIn 3 (some .boolean), .methodLink RX9 81 yX9_within, .static yX9_within, .code yX9_within cX9_within 4 (some .long)] ++ wsX90)
def wsX9_read_r1 : List Cond := [Cond.fieldLink RX9 52 "HoleHouseModel" "wrong" "I", Cond.fieldLink RX9 198 "HoleHouseModel" "taped" "I", Cond.fieldLink RX9 207 "HoleHouseModel" "readPoints" "I", Cond.fieldLink RX9 210 "HoleHouseModel" "readFaces" "J", Cond.fieldLink RX9 13 "HoleHouseModel" "faces" "J", Cond.methodLink RX9 213 yX9_reads, Cond.instanceMethod yX9_reads, Cond.selects RX9 yX9_reads yX9_reads, Cond.initialized RX9, Cond.code yX9_reads cX9_reads 5 (some .int), Cond.methodLink RX9 204 yX9_blanks, Cond.instanceMethod yX9_blanks, Cond.selects RX9 yX9_blanks yX9_blanks, Cond.code yX9_blanks cX9_blanks 3 (some .int), Cond.methodLink RX9 201 yX9_see, Cond.instanceMethod yX9_see, Cond.selects RX9 yX9_see yX9_see, Cond.code yX9_see cX9_see 2 (some .int), Cond.fieldLink RX9 46 "HoleHouseModel" "tape" "[I", Cond.methodLink RX9 59 yX9_isIn, Cond.static yX9_isIn, Cond.code yX9_isIn cX9_isIn 3 (some .boolean), Cond.methodLink RX9 81 yX9_within, Cond.static yX9_within]
def wsX9_read_r2 : List Cond := [Cond.code yX9_within cX9_within 4 (some .long), Cond.methodLink RX9 69 yX9_becomes, Cond.instanceMethod yX9_becomes, Cond.selects RX9 yX9_becomes yX9_becomes, Cond.code yX9_becomes cX9_becomes 4 none, Cond.fieldLink RX9 7 "HoleHouseModel" "points" "I", Cond.methodLink RX9 66 yX9_keep, Cond.instanceMethod yX9_keep, Cond.selects RX9 yX9_keep yX9_keep, Cond.code yX9_keep cX9_keep 2 none, Cond.fieldLink RX9 63 "HoleHouseModel" "kept" "I", Cond.fieldLink RX9 17 "HoleHouseModel" "pointsHad" "[I", Cond.fieldLink RX9 21 "HoleHouseModel" "facesHad" "[J", Cond.methodLink RX9 77 yX9_many, Cond.static yX9_many, Cond.code yX9_many cX9_many 4 (some .int)]
def wsX9_read : List Cond := .code yX9_read cX9_read 1 (some .int) :: ((wsX9_read_r1 ++ wsX9_read_r2) ++ wsX90)
def wsX9_fault : List Cond := .code yX9_fault cX9_fault 1 (some .int) :: ([.fieldLink RX9 52 "HoleHouseModel" "wrong" "I"] ++ wsX90)
def wsX9_isGreatest : List Cond := .code yX9_isGreatest cX9_isGreatest 4 (some .boolean) :: ([.fieldLink RX9 7 "HoleHouseModel" "points" "I", .methodLink RX9 85 yX9_isFace, .instanceMethod yX9_isFace, .selects RX9 yX9_isFace yX9_isFace, .initialized RX9, .code yX9_isFace cX9_isFace 2 (some .boolean), .fieldLink RX9 13 "HoleHouseModel" "faces" "J"] ++ wsX90)
def wsX9_puts : List Cond := .code yX9_puts cX9_puts 2 none :: ([.fieldLink RX9 49 "HoleHouseModel" "out" "[I", .fieldLink RX9 216 "HoleHouseModel" "outs" "I"] ++ wsX90)
def wsX9_write : List Cond := .code yX9_write cX9_write 3 (some .int) :: ([.fieldLink RX9 216 "HoleHouseModel" "outs" "I", .fieldLink RX9 7 "HoleHouseModel" "points" "I", .methodLink RX9 219 yX9_puts, .instanceMethod yX9_puts, .selects RX9 yX9_puts yX9_puts, .initialized RX9, .code yX9_puts cX9_puts 2 none, .fieldLink RX9 49 "HoleHouseModel" "out" "[I", .methodLink RX9 55 yX9_all, .instanceMethod yX9_all, .selects RX9 yX9_all yX9_all, .code yX9_all cX9_all 1 (some .int), .methodLink RX9 223 yX9_isGreatest, .instanceMethod yX9_isGreatest, .selects RX9 yX9_isGreatest yX9_isGreatest, .code yX9_isGreatest cX9_isGreatest 4 (some .boolean), .methodLink RX9 85 yX9_isFace, .instanceMethod yX9_isFace, .selects RX9 yX9_isFace yX9_isFace, .code yX9_isFace cX9_isFace 2 (some .boolean), .fieldLink RX9 13 "HoleHouseModel" "faces" "J"] ++ wsX90)
def wsX9_out : List Cond := .code yX9_out cX9_out 2 (some .int) :: ([.fieldLink RX9 216 "HoleHouseModel" "outs" "I", .fieldLink RX9 49 "HoleHouseModel" "out" "[I", .methodLink RX9 59 yX9_isIn, .static yX9_isIn, .initialized RX9, .code yX9_isIn cX9_isIn 3 (some .boolean)] ++ wsX90)
def wsX9_take : List Cond := .code yX9_take cX9_take 2 (some .int) :: ([.fieldLink RX9 216 "HoleHouseModel" "outs" "I", .fieldLink RX9 198 "HoleHouseModel" "taped" "I", .fieldLink RX9 46 "HoleHouseModel" "tape" "[I", .fieldLink RX9 49 "HoleHouseModel" "out" "[I"] ++ wsX90)
def wsL_law_r1 : List Cond := [Cond.classLink RL 7 RX8, Cond.instantiable RX8 10, Cond.initialized RX8, Cond.classLink RL 10 RX9, Cond.instantiable RX9 27, Cond.initialized RX9, Cond.methodLink RL 9 yX8_init, Cond.instanceMethod yX8_init, Cond.code yX8_init cX8_init 1 none, Cond.methodLink RX8 1 objectInit, Cond.instanceMethod objectInit, Cond.code objectInit ⟨#[0xb1]⟩ 1 none, Cond.classLink RX8 7 RX1, Cond.instantiable RX1 3, Cond.initialized RX1, Cond.fieldLink RX8 10 "HoleHouse" "history" "LHoleHouse$History;", Cond.classLink RX8 16 RX5, Cond.instantiable RX5 2, Cond.initialized RX5, Cond.fieldLink RX8 19 "HoleHouse" "tape" "LHoleHouse$Row;", Cond.fieldLink RX8 23 "HoleHouse" "output" "LHoleHouse$Row;", Cond.classLink RX8 26 RX4, Cond.instantiable RX4 2, Cond.initialized RX4]
def wsL_law_r2 : List Cond := [Cond.fieldLink RX8 29 "HoleHouse" "reader" "LHoleHouse$Reader;", Cond.classLink RX8 33 RX2, Cond.instantiable RX2 5, Cond.initialized RX2, Cond.fieldLink RX8 36 "HoleHouse" "parts" "LHoleHouse$Parts;", Cond.classLink RX8 40 RX3, Cond.instantiable RX3 8, Cond.initialized RX3, Cond.fieldLink RX8 45 "HoleHouse" "products" "LHoleHouse$Products;", Cond.classLink RX8 49 RX7, Cond.instantiable RX7 5, Cond.initialized RX7, Cond.fieldLink RX8 52 "HoleHouse" "turns" "LHoleHouse$Turns;", Cond.fieldLink RX8 56 "HoleHouse" "points" "I", Cond.fieldLink RX8 60 "HoleHouse" "family" "J", Cond.fieldLink RX8 64 "HoleHouse" "faultPlace" "I", Cond.methodLink RX8 9 yX1_init, Cond.instanceMethod yX1_init, Cond.code yX1_init cX1_init 1 none, Cond.methodLink RX1 3 objectInit, Cond.arrayClass .int, Cond.fieldLink RX1 11 "HoleHouse$History" "keptPoints" "[I", Cond.arrayClass .long, Cond.fieldLink RX1 15 "HoleHouse$History" "keptFamilies" "[J"]
def wsL_law_r3 : List Cond := [Cond.methodLink RX8 18 yX5_init, Cond.instanceMethod yX5_init, Cond.code yX5_init cX5_init 1 none, Cond.methodLink RX5 3 objectInit, Cond.fieldLink RX5 9 "HoleHouse$Row" "bytes" "[I", Cond.methodLink RX8 28 yX4_init, Cond.instanceMethod yX4_init, Cond.code yX4_init cX4_init 1 none, Cond.methodLink RX4 3 objectInit, Cond.fieldLink RX4 9 "HoleHouse$Reader" "toldSets" "J", Cond.methodLink RX8 35 yX2_init, Cond.instanceMethod yX2_init, Cond.code yX2_init cX2_init 1 none, Cond.methodLink RX2 3 objectInit, Cond.fieldLink RX2 11 "HoleHouse$Parts" "counts" "[I", Cond.fieldLink RX2 15 "HoleHouse$Parts" "borders" "[I", Cond.classLink RX2 18 RX0, Cond.instantiable RX0 5, Cond.initialized RX0, Cond.fieldLink RX2 21 "HoleHouse$Parts" "basis" "LHoleHouse$Basis;", Cond.methodLink RX2 20 yX0_init, Cond.instanceMethod yX0_init, Cond.code yX0_init cX0_init 1 none, Cond.methodLink RX0 3 objectInit]
def wsL_law_r4 : List Cond := [Cond.fieldLink RX0 9 "HoleHouse$Basis" "rows" "[J", Cond.fieldLink RX0 15 "HoleHouse$Basis" "leads" "[J", Cond.methodLink RX8 42 yX3_init, Cond.instanceMethod yX3_init, Cond.code yX3_init cX3_init 2 none, Cond.methodLink RX3 3 objectInit, Cond.fieldLink RX3 9 "HoleHouse$Products" "parts" "LHoleHouse$Parts;", Cond.classLink RX3 15 RX0, Cond.fieldLink RX3 18 "HoleHouse$Products" "basis" "LHoleHouse$Basis;", Cond.fieldLink RX3 22 "HoleHouse$Products" "left" "[J", Cond.fieldLink RX3 26 "HoleHouse$Products" "right" "[J", Cond.fieldLink RX3 29 "HoleHouse$Products" "earliest" "[I", Cond.methodLink RX3 17 yX0_init, Cond.methodLink RX8 51 yX7_init, Cond.instanceMethod yX7_init, Cond.code yX7_init cX7_init 1 none, Cond.methodLink RX7 3 objectInit, Cond.fieldLink RX7 9 "HoleHouse$Turns" "images" "[I", Cond.fieldLink RX7 15 "HoleHouse$Turns" "reached" "[I", Cond.methodLink RL 12 yX9_init, Cond.instanceMethod yX9_init, Cond.code yX9_init cX9_init 1 none, Cond.methodLink RX9 1 objectInit, Cond.fieldLink RX9 7 "HoleHouseModel" "points" "I"]
def wsL_law_r5 : List Cond := [Cond.fieldLink RX9 13 "HoleHouseModel" "faces" "J", Cond.fieldLink RX9 17 "HoleHouseModel" "pointsHad" "[I", Cond.fieldLink RX9 21 "HoleHouseModel" "facesHad" "[J", Cond.fieldLink RX9 25 "HoleHouseModel" "base" "[J", Cond.fieldLink RX9 28 "HoleHouseModel" "rises" "[J", Cond.fieldLink RX9 31 "HoleHouseModel" "marks" "[J", Cond.fieldLink RX9 34 "HoleHouseModel" "closedJ" "[J", Cond.fieldLink RX9 37 "HoleHouseModel" "closedL" "[J", Cond.fieldLink RX9 40 "HoleHouseModel" "table" "[I", Cond.fieldLink RX9 43 "HoleHouseModel" "order" "[I", Cond.fieldLink RX9 46 "HoleHouseModel" "tape" "[I", Cond.fieldLink RX9 49 "HoleHouseModel" "out" "[I", Cond.fieldLink RX9 52 "HoleHouseModel" "wrong" "I", Cond.methodLink RL 13 yX8_points, Cond.instanceMethod yX8_points, Cond.selects RX8 yX8_points yX8_points, Cond.code yX8_points cX8_points 2 (some .boolean), Cond.methodLink RX8 67 yX8_change, Cond.instanceMethod yX8_change, Cond.selects RX8 yX8_change yX8_change, Cond.code yX8_change cX8_change 4 none, Cond.methodLink RX8 202 yX1_keep, Cond.instanceMethod yX1_keep, Cond.selects RX1 yX1_keep yX1_keep]
def wsL_law_r6 : List Cond := [Cond.code yX1_keep cX1_keep 4 none, Cond.fieldLink RX1 19 "HoleHouse$History" "count" "I", Cond.methodLink RX1 23 arraycopyName, Cond.native arraycopyName, Cond.static arraycopyName, Cond.initialized "java/lang/System", Cond.methodLink RL 17 yX9_points, Cond.instanceMethod yX9_points, Cond.selects RX9 yX9_points yX9_points, Cond.code yX9_points cX9_points 2 (some .boolean), Cond.methodLink RX9 59 yX9_isIn, Cond.static yX9_isIn, Cond.code yX9_isIn cX9_isIn 3 (some .boolean), Cond.methodLink RX9 69 yX9_becomes, Cond.instanceMethod yX9_becomes, Cond.selects RX9 yX9_becomes yX9_becomes, Cond.code yX9_becomes cX9_becomes 4 none, Cond.methodLink RX9 66 yX9_keep, Cond.instanceMethod yX9_keep, Cond.selects RX9 yX9_keep yX9_keep, Cond.code yX9_keep cX9_keep 2 none, Cond.fieldLink RX9 63 "HoleHouseModel" "kept" "I", Cond.methodLink RL 18 yX8_face, Cond.instanceMethod yX8_face]
def wsL_law_r7 : List Cond := [Cond.selects RX8 yX8_face yX8_face, Cond.code yX8_face cX8_face 3 (some .int), Cond.methodLink RX8 71 yX8_isSet, Cond.instanceMethod yX8_isSet, Cond.selects RX8 yX8_isSet yX8_isSet, Cond.code yX8_isSet cX8_isSet 2 (some .boolean), Cond.methodLink RX8 95 yX8_allPoints, Cond.instanceMethod yX8_allPoints, Cond.selects RX8 yX8_allPoints yX8_allPoints, Cond.code yX8_allPoints cX8_allPoints 1 (some .int), Cond.methodLink RX8 75 yJ13_bitCount_95d88, Cond.static yJ13_bitCount_95d88, Cond.initialized RJ13, Cond.code yJ13_bitCount_95d88 cJ13_bitCount_95d88 2 (some .int), Cond.constantLong RJ13 314 (6148914691236517205), Cond.constantLong RJ13 316 (3689348814741910323), Cond.constantLong RJ13 318 (1085102592571150095), Cond.methodLink RX8 81 yX6_inside, Cond.static yX6_inside, Cond.initialized RX6, Cond.code yX6_inside cX6_inside 4 (some .long), Cond.methodLink RX6 15 yX6_hasPoint, Cond.static yX6_hasPoint, Cond.code yX6_hasPoint cX6_hasPoint 2 (some .boolean)]
def wsL_law_r8 : List Cond := [Cond.methodLink RL 22 yX9_face, Cond.instanceMethod yX9_face, Cond.selects RX9 yX9_face yX9_face, Cond.code yX9_face cX9_face 3 (some .int), Cond.methodLink RX9 73 yX9_isSet, Cond.instanceMethod yX9_isSet, Cond.selects RX9 yX9_isSet yX9_isSet, Cond.code yX9_isSet cX9_isSet 2 (some .boolean), Cond.methodLink RX9 55 yX9_all, Cond.instanceMethod yX9_all, Cond.selects RX9 yX9_all yX9_all, Cond.code yX9_all cX9_all 1 (some .int), Cond.methodLink RX9 77 yX9_many, Cond.static yX9_many, Cond.code yX9_many cX9_many 4 (some .int), Cond.methodLink RX9 81 yX9_within, Cond.static yX9_within, Cond.code yX9_within cX9_within 4 (some .long), Cond.methodLink RL 23 yX8_cut, Cond.instanceMethod yX8_cut, Cond.selects RX8 yX8_cut yX8_cut, Cond.code yX8_cut cX8_cut 3 (some .int), Cond.constantLong RX8 93 (-1), Cond.methodLink RX8 87 yX8_isNonemptyFace]
def wsL_law_r9 : List Cond := [Cond.instanceMethod yX8_isNonemptyFace, Cond.selects RX8 yX8_isNonemptyFace yX8_isNonemptyFace, Cond.code yX8_isNonemptyFace cX8_isNonemptyFace 2 (some .boolean), Cond.methodLink RX8 108 yX6_holds, Cond.static yX6_holds, Cond.code yX6_holds cX6_holds 3 (some .boolean), Cond.methodLink RX8 90 yX6_around, Cond.static yX6_around, Cond.code yX6_around cX6_around 1 (some .long), Cond.methodLink RX6 19 yX6_inside, Cond.methodLink RL 26 yX9_cut, Cond.instanceMethod yX9_cut, Cond.selects RX9 yX9_cut yX9_cut, Cond.code yX9_cut cX9_cut 6 (some .int), Cond.constantLong RX9 88 (-1), Cond.methodLink RX9 85 yX9_isFace, Cond.instanceMethod yX9_isFace, Cond.selects RX9 yX9_isFace yX9_isFace, Cond.code yX9_isFace cX9_isFace 2 (some .boolean), Cond.methodLink RL 27 yX8_link, Cond.instanceMethod yX8_link, Cond.selects RX8 yX8_link yX8_link, Cond.code yX8_link cX8_link 7 (some .int), Cond.methodLink RX8 99 yJ6_bitCount_0f7a4]
def wsL_law_r10 : List Cond := [Cond.static yJ6_bitCount_0f7a4, Cond.initialized RJ6, Cond.code yJ6_bitCount_0f7a4 cJ6_bitCount_0f7a4 1 (some .int), Cond.constant RJ6 265 (1431655765), Cond.constant RJ6 266 (858993459), Cond.constant RJ6 267 (252645135), Cond.methodLink RX8 104 yX6_spread, Cond.static yX6_spread, Cond.code yX6_spread cX6_spread 5 (some .int), Cond.methodLink RL 30 yX9_link, Cond.instanceMethod yX9_link, Cond.selects RX9 yX9_link yX9_link, Cond.code yX9_link cX9_link 6 (some .int), Cond.methodLink RX9 90 yX9_size, Cond.static yX9_size, Cond.code yX9_size cX9_size 3 (some .int), Cond.methodLink RX9 94 yX9_spread, Cond.instanceMethod yX9_spread, Cond.selects RX9 yX9_spread yX9_spread, Cond.code yX9_spread cX9_spread 6 (some .int), Cond.methodLink RL 31 yX8_dual, Cond.instanceMethod yX8_dual, Cond.selects RX8 yX8_dual yX8_dual, Cond.code yX8_dual cX8_dual 5 (some .boolean)]
def wsL_law_r11 : List Cond := [Cond.methodLink RL 35 yX9_dual, Cond.instanceMethod yX9_dual, Cond.selects RX9 yX9_dual yX9_dual, Cond.code yX9_dual cX9_dual 4 (some .boolean), Cond.methodLink RL 36 yX8_undo, Cond.instanceMethod yX8_undo, Cond.selects RX8 yX8_undo yX8_undo, Cond.code yX8_undo cX8_undo 1 (some .boolean), Cond.methodLink RX8 112 yX1_drop, Cond.instanceMethod yX1_drop, Cond.selects RX1 yX1_drop yX1_drop, Cond.code yX1_drop cX1_drop 1 (some .boolean), Cond.methodLink RX8 116 yX1_droppedPoints, Cond.instanceMethod yX1_droppedPoints, Cond.selects RX1 yX1_droppedPoints yX1_droppedPoints, Cond.code yX1_droppedPoints cX1_droppedPoints 1 (some .int), Cond.methodLink RX8 119 yX1_droppedFamily, Cond.instanceMethod yX1_droppedFamily, Cond.selects RX1 yX1_droppedFamily yX1_droppedFamily, Cond.code yX1_droppedFamily cX1_droppedFamily 1 (some .long), Cond.methodLink RL 39 yX9_undo, Cond.instanceMethod yX9_undo, Cond.selects RX9 yX9_undo yX9_undo, Cond.code yX9_undo cX9_undo 1 (some .boolean)]
def wsL_law_r12 : List Cond := [Cond.methodLink RL 40 yX8_look, Cond.instanceMethod yX8_look, Cond.selects RX8 yX8_look yX8_look, Cond.code yX8_look cX8_look 2 (some .int), Cond.methodLink RX8 123 yX8_greatestDimension, Cond.instanceMethod yX8_greatestDimension, Cond.selects RX8 yX8_greatestDimension yX8_greatestDimension, Cond.code yX8_greatestDimension cX8_greatestDimension 2 (some .int), Cond.methodLink RX8 129 yX6_ofSize, Cond.static yX6_ofSize, Cond.code yX6_ofSize cX6_ofSize 1 (some .long), Cond.fieldLink RX6 9 "HoleHouse$Sets" "BY_SIZE" "[J", Cond.methodLink RX8 126 yX8_missingFamily, Cond.instanceMethod yX8_missingFamily, Cond.selects RX8 yX8_missingFamily yX8_missingFamily, Cond.code yX8_missingFamily cX8_missingFamily 4 (some .long), Cond.methodLink RX8 205 yX6_below, Cond.static yX6_below, Cond.code yX6_below cX6_below 4 (some .long), Cond.methodLink RX8 132 yX8_asNumber, Cond.static yX8_asNumber, Cond.code yX8_asNumber cX8_asNumber 1 (some .int), Cond.methodLink RX8 136 yX3_know, Cond.instanceMethod yX3_know]
def wsL_law_r13 : List Cond := [Cond.selects RX3 yX3_know yX3_know, Cond.code yX3_know cX3_know 4 none, Cond.fieldLink RX3 33 "HoleHouse$Products" "knownPoints" "I", Cond.fieldLink RX3 37 "HoleHouse$Products" "knownFamily" "J", Cond.fieldLink RX3 51 "HoleHouse$Products" "plain" "Z", Cond.methodLink RX3 41 yX2_know, Cond.instanceMethod yX2_know, Cond.selects RX2 yX2_know yX2_know, Cond.code yX2_know cX2_know 5 none, Cond.fieldLink RX2 25 "HoleHouse$Parts" "knownPoints" "I", Cond.fieldLink RX2 29 "HoleHouse$Parts" "knownFamily" "J", Cond.methodLink RX2 33 yX6_inside, Cond.methodLink RX2 39 yX2_countHoles, Cond.instanceMethod yX2_countHoles, Cond.selects RX2 yX2_countHoles yX2_countHoles, Cond.code yX2_countHoles cX2_countHoles 6 none, Cond.methodLink RX2 47 yX2_countBorders, Cond.instanceMethod yX2_countBorders, Cond.selects RX2 yX2_countBorders yX2_countBorders, Cond.code yX2_countBorders cX2_countBorders 5 none, Cond.constantLong RX2 59 (-1), Cond.methodLink RX2 61 yX0_clear, Cond.instanceMethod yX0_clear, Cond.selects RX0 yX0_clear yX0_clear]
def wsL_law_r14 : List Cond := [Cond.code yX0_clear cX0_clear 3 none, Cond.fieldLink RX0 18 "HoleHouse$Basis" "leading" "J", Cond.fieldLink RX0 22 "HoleHouse$Basis" "rest" "J", Cond.fieldLink RX0 25 "HoleHouse$Basis" "count" "I", Cond.methodLink RX2 65 yX6_holds, Cond.methodLink RX2 69 yX6_below, Cond.methodLink RX2 72 yX0_add, Cond.instanceMethod yX0_add, Cond.selects RX0 yX0_add yX0_add, Cond.code yX0_add cX0_add 5 (some .boolean), Cond.methodLink RX2 76 yJ6_bitCount_0f7a4, Cond.methodLink RX2 50 yX6_ofSize, Cond.methodLink RX2 53 yJ13_bitCount_95d88, Cond.methodLink RX3 47 yX3_seek, Cond.instanceMethod yX3_seek, Cond.selects RX3 yX3_seek yX3_seek, Cond.code yX3_seek cX3_seek 7 (some .boolean), Cond.methodLink RX3 55 yX3_seekIn, Cond.instanceMethod yX3_seekIn, Cond.selects RX3 yX3_seekIn yX3_seekIn, Cond.code yX3_seekIn cX3_seekIn 8 (some .boolean), Cond.methodLink RX3 59 yX2_holesOf, Cond.instanceMethod yX2_holesOf, Cond.selects RX2 yX2_holesOf yX2_holesOf]
def wsL_law_r15 : List Cond := [Cond.code yX2_holesOf cX2_holesOf 4 (some .int), Cond.methodLink RX2 43 yX2_isDimension, Cond.static yX2_isDimension, Cond.code yX2_isDimension cX2_isDimension 1 (some .boolean), Cond.methodLink RX3 63 yX3_measure, Cond.instanceMethod yX3_measure, Cond.selects RX3 yX3_measure yX3_measure, Cond.code yX3_measure cX3_measure 16 (some .int), Cond.methodLink RX3 67 yX6_inside, Cond.methodLink RX3 73 yX3_fillClosed, Cond.instanceMethod yX3_fillClosed, Cond.selects RX3 yX3_fillClosed yX3_fillClosed, Cond.code yX3_fillClosed cX3_fillClosed 13 (some .int), Cond.methodLink RX3 77 yX6_ofSize, Cond.methodLink RX3 92 yX0_clear, Cond.methodLink RX3 96 yX6_above, Cond.static yX6_above, Cond.code yX6_above cX6_above 4 (some .long), Cond.methodLink RX3 99 yX6_holds, Cond.methodLink RX3 88 yX0_add, Cond.methodLink RX3 103 yX0_remainder, Cond.instanceMethod yX0_remainder, Cond.selects RX0 yX0_remainder yX0_remainder, Cond.code yX0_remainder cX0_remainder 1 (some .long)]
def wsL_law_r16 : List Cond := [Cond.methodLink RX3 80 yX3_addRises, Cond.instanceMethod yX3_addRises, Cond.selects RX3 yX3_addRises yX3_addRises, Cond.code yX3_addRises cX3_addRises 6 none, Cond.constantLong RX3 107 (-1), Cond.methodLink RX3 84 yX3_multiply, Cond.static yX3_multiply, Cond.code yX3_multiply cX3_multiply 11 (some .long), Cond.methodLink RX8 139 yX3_arePlain, Cond.instanceMethod yX3_arePlain, Cond.selects RX3 yX3_arePlain yX3_arePlain, Cond.code yX3_arePlain cX3_arePlain 1 (some .boolean), Cond.methodLink RX8 142 yX7_know, Cond.instanceMethod yX7_know, Cond.selects RX7 yX7_know yX7_know, Cond.code yX7_know cX7_know 5 none, Cond.fieldLink RX7 18 "HoleHouse$Turns" "knownPoints" "I", Cond.fieldLink RX7 22 "HoleHouse$Turns" "knownFamily" "J", Cond.fieldLink RX7 26 "HoleHouse$Turns" "count" "I", Cond.methodLink RX7 29 yX7_place, Cond.static yX7_place, Cond.code yX7_place cX7_place 4 none, Cond.methodLink RX7 39 yX7_tally, Cond.instanceMethod yX7_tally]
def wsL_law_r17 : List Cond := [Cond.selects RX7 yX7_tally yX7_tally, Cond.code yX7_tally cX7_tally 2 none, Cond.methodLink RX7 33 yX6_hasPoint, Cond.methodLink RX7 42 yX7_fits, Cond.instanceMethod yX7_fits, Cond.selects RX7 yX7_fits yX7_fits, Cond.code yX7_fits cX7_fits 6 (some .boolean), Cond.methodLink RX7 45 yX6_holds, Cond.methodLink RX8 143 yX7_howMany, Cond.instanceMethod yX7_howMany, Cond.selects RX7 yX7_howMany yX7_howMany, Cond.code yX7_howMany cX7_howMany 1 (some .int), Cond.methodLink RX8 146 yX7_classes, Cond.instanceMethod yX7_classes, Cond.selects RX7 yX7_classes yX7_classes, Cond.code yX7_classes cX7_classes 3 (some .int), Cond.methodLink RL 43 yX9_look, Cond.instanceMethod yX9_look, Cond.selects RX9 yX9_look yX9_look, Cond.code yX9_look cX9_look 3 (some .int), Cond.methodLink RX9 98 yX9_facesOf, Cond.instanceMethod yX9_facesOf, Cond.selects RX9 yX9_facesOf yX9_facesOf, Cond.code yX9_facesOf cX9_facesOf 6 (some .long)]
def wsL_law_r18 : List Cond := [Cond.methodLink RX9 189 yX9_missingMany, Cond.instanceMethod yX9_missingMany, Cond.selects RX9 yX9_missingMany yX9_missingMany, Cond.code yX9_missingMany cX9_missingMany 3 (some .int), Cond.methodLink RX9 102 yX9_isMissing, Cond.instanceMethod yX9_isMissing, Cond.selects RX9 yX9_isMissing yX9_isMissing, Cond.code yX9_isMissing cX9_isMissing 4 (some .boolean), Cond.methodLink RX9 192 yX9_isFlag, Cond.instanceMethod yX9_isFlag, Cond.selects RX9 yX9_isFlag yX9_isFlag, Cond.code yX9_isFlag cX9_isFlag 3 (some .boolean), Cond.methodLink RX9 174 yX9_finds, Cond.instanceMethod yX9_finds, Cond.selects RX9 yX9_finds yX9_finds, Cond.code yX9_finds cX9_finds 3 (some .boolean), Cond.fieldLink RX9 145 "HoleHouseModel" "askedPoints" "I", Cond.fieldLink RX9 148 "HoleHouseModel" "askedFaces" "J", Cond.fieldLink RX9 151 "HoleHouseModel" "hasFirst" "Z", Cond.methodLink RX9 118 yX9_holesOf, Cond.instanceMethod yX9_holesOf, Cond.selects RX9 yX9_holesOf yX9_holesOf, Cond.code yX9_holesOf cX9_holesOf 3 (some .int), Cond.methodLink RX9 115 yX9_borders]
def wsL_law_r19 : List Cond := [Cond.instanceMethod yX9_borders, Cond.selects RX9 yX9_borders yX9_borders, Cond.code yX9_borders cX9_borders 5 (some .int), Cond.methodLink RX9 105 yX9_clear, Cond.instanceMethod yX9_clear, Cond.selects RX9 yX9_clear yX9_clear, Cond.code yX9_clear cX9_clear 2 none, Cond.methodLink RX9 108 yX9_border, Cond.instanceMethod yX9_border, Cond.selects RX9 yX9_border yX9_border, Cond.code yX9_border cX9_border 5 (some .long), Cond.methodLink RX9 111 yX9_lays, Cond.instanceMethod yX9_lays, Cond.selects RX9 yX9_lays yX9_lays, Cond.code yX9_lays cX9_lays 6 (some .boolean), Cond.methodLink RX9 155 yX9_seeks, Cond.instanceMethod yX9_seeks, Cond.selects RX9 yX9_seeks yX9_seeks, Cond.code yX9_seeks cX9_seeks 1 (some .boolean), Cond.fieldLink RX9 159 "HoleHouseModel" "firstJ" "I", Cond.fieldLink RX9 162 "HoleHouseModel" "firstL" "I", Cond.fieldLink RX9 165 "HoleHouseModel" "firstA" "I", Cond.fieldLink RX9 168 "HoleHouseModel" "firstB" "I", Cond.fieldLink RX9 171 "HoleHouseModel" "firstRank" "I"]
def wsL_law_r20 : List Cond := [Cond.methodLink RX9 141 yX9_rankOf, Cond.instanceMethod yX9_rankOf, Cond.selects RX9 yX9_rankOf yX9_rankOf, Cond.code yX9_rankOf cX9_rankOf 10 (some .int), Cond.methodLink RX9 133 yX9_closed, Cond.instanceMethod yX9_closed, Cond.selects RX9 yX9_closed yX9_closed, Cond.code yX9_closed cX9_closed 12 (some .int), Cond.methodLink RX9 125 yX9_rise, Cond.instanceMethod yX9_rise, Cond.selects RX9 yX9_rise yX9_rise, Cond.code yX9_rise cX9_rise 8 (some .long), Cond.methodLink RX9 121 yX9_odd, Cond.instanceMethod yX9_odd, Cond.selects RX9 yX9_odd yX9_odd, Cond.code yX9_odd cX9_odd 7 (some .boolean), Cond.methodLink RX9 129 yX9_highest, Cond.static yX9_highest, Cond.code yX9_highest cX9_highest 3 (some .long), Cond.methodLink RX9 137 yX9_product, Cond.instanceMethod yX9_product, Cond.selects RX9 yX9_product yX9_product, Cond.code yX9_product cX9_product 12 (some .long), Cond.methodLink RX9 186 yX9_turns]
def wsL_law_r21 : List Cond := [Cond.instanceMethod yX9_turns, Cond.selects RX9 yX9_turns yX9_turns, Cond.code yX9_turns cX9_turns 5 (some .int), Cond.methodLink RX9 177 yX9_keeps, Cond.instanceMethod yX9_keeps, Cond.selects RX9 yX9_keeps yX9_keeps, Cond.code yX9_keeps cX9_keeps 5 (some .boolean), Cond.methodLink RX9 180 yX9_nextOrder, Cond.instanceMethod yX9_nextOrder, Cond.selects RX9 yX9_nextOrder yX9_nextOrder, Cond.code yX9_nextOrder cX9_nextOrder 6 (some .boolean), Cond.methodLink RX9 195 yX9_classes, Cond.instanceMethod yX9_classes, Cond.selects RX9 yX9_classes yX9_classes, Cond.code yX9_classes cX9_classes 5 (some .int), Cond.methodLink RL 44 yX8_has, Cond.instanceMethod yX8_has, Cond.selects RX8 yX8_has yX8_has, Cond.code yX8_has cX8_has 2 (some .int), Cond.methodLink RL 47 yX9_has, Cond.instanceMethod yX9_has, Cond.selects RX9 yX9_has yX9_has, Cond.code yX9_has cX9_has 2 (some .int), Cond.methodLink RL 48 yX8_faces]
def wsL_law_r22 : List Cond := [Cond.instanceMethod yX8_faces, Cond.selects RX8 yX8_faces yX8_faces, Cond.code yX8_faces cX8_faces 2 (some .int), Cond.methodLink RX8 149 yX2_isDimension, Cond.methodLink RL 51 yX9_faces, Cond.instanceMethod yX9_faces, Cond.selects RX9 yX9_faces yX9_faces, Cond.code yX9_faces cX9_faces 2 (some .int), Cond.methodLink RL 52 yX8_missing, Cond.instanceMethod yX8_missing, Cond.selects RX8 yX8_missing yX8_missing, Cond.code yX8_missing cX8_missing 6 (some .int), Cond.methodLink RL 55 yX9_missing, Cond.instanceMethod yX9_missing, Cond.selects RX9 yX9_missing yX9_missing, Cond.code yX9_missing cX9_missing 4 (some .int), Cond.methodLink RL 56 yX8_holes, Cond.instanceMethod yX8_holes, Cond.selects RX8 yX8_holes yX8_holes, Cond.code yX8_holes cX8_holes 3 (some .int), Cond.methodLink RX8 152 yX2_know, Cond.methodLink RX8 153 yX2_holesOf, Cond.methodLink RL 60 yX9_holes, Cond.instanceMethod yX9_holes]
def wsL_law_r23 : List Cond := [Cond.selects RX9 yX9_holes yX9_holes, Cond.code yX9_holes cX9_holes 3 (some .int), Cond.methodLink RL 61 yX8_space, Cond.instanceMethod yX8_space, Cond.selects RX8 yX8_space yX8_space, Cond.code yX8_space cX8_space 6 (some .int), Cond.methodLink RL 64 yX9_space, Cond.instanceMethod yX9_space, Cond.selects RX9 yX9_space yX9_space, Cond.code yX9_space cX9_space 6 (some .int), Cond.methodLink RL 65 yX8_tower, Cond.instanceMethod yX8_tower, Cond.selects RX8 yX8_tower yX8_tower, Cond.code yX8_tower cX8_tower 5 (some .int), Cond.methodLink RL 68 yX9_tower, Cond.instanceMethod yX9_tower, Cond.selects RX9 yX9_tower yX9_tower, Cond.code yX9_tower cX9_tower 5 (some .int), Cond.methodLink RL 69 yX8_rank, Cond.instanceMethod yX8_rank, Cond.selects RX8 yX8_rank yX8_rank, Cond.code yX8_rank cX8_rank 7 (some .int), Cond.methodLink RX8 156 yX3_measure, Cond.methodLink RL 73 yX9_rank]
def wsL_law_r24 : List Cond := [Cond.instanceMethod yX9_rank, Cond.selects RX9 yX9_rank yX9_rank, Cond.code yX9_rank cX9_rank 5 (some .int), Cond.methodLink RL 74 yX8_first, Cond.instanceMethod yX8_first, Cond.selects RX8 yX8_first yX8_first, Cond.code yX8_first cX8_first 2 (some .int), Cond.methodLink RX8 160 yX3_told, Cond.instanceMethod yX3_told, Cond.selects RX3 yX3_told yX3_told, Cond.code yX3_told cX3_told 2 (some .int), Cond.methodLink RL 77 yX9_first, Cond.instanceMethod yX9_first, Cond.selects RX9 yX9_first yX9_first, Cond.code yX9_first cX9_first 2 (some .int), Cond.methodLink RL 78 yX8_alike, Cond.instanceMethod yX8_alike, Cond.selects RX8 yX8_alike yX8_alike, Cond.code yX8_alike cX8_alike 3 (some .int), Cond.methodLink RX8 163 yX8_isPoint, Cond.instanceMethod yX8_isPoint, Cond.selects RX8 yX8_isPoint yX8_isPoint, Cond.code yX8_isPoint cX8_isPoint 2 (some .boolean), Cond.methodLink RX8 166 yX7_bring]
def wsL_law_r25 : List Cond := [Cond.instanceMethod yX7_bring, Cond.selects RX7 yX7_bring yX7_bring, Cond.code yX7_bring cX7_bring 3 (some .boolean), Cond.methodLink RL 81 yX9_alike, Cond.instanceMethod yX9_alike, Cond.selects RX9 yX9_alike yX9_alike, Cond.code yX9_alike cX9_alike 3 (some .int), Cond.methodLink RX9 183 yX9_isPoint, Cond.instanceMethod yX9_isPoint, Cond.selects RX9 yX9_isPoint yX9_isPoint, Cond.code yX9_isPoint cX9_isPoint 2 (some .boolean), Cond.methodLink RL 82 yX8_feed, Cond.instanceMethod yX8_feed, Cond.selects RX8 yX8_feed yX8_feed, Cond.code yX8_feed cX8_feed 6 (some .int), Cond.methodLink RX8 170 yX5_size, Cond.instanceMethod yX5_size, Cond.selects RX5 yX5_size yX5_size, Cond.code yX5_size cX5_size 1 (some .int), Cond.fieldLink RX5 15 "HoleHouse$Row" "length" "I", Cond.methodLink RX8 173 yX5_addNumber, Cond.instanceMethod yX5_addNumber, Cond.selects RX5 yX5_addNumber yX5_addNumber, Cond.code yX5_addNumber cX5_addNumber 2 none]
def wsL_law_r26 : List Cond := [Cond.methodLink RX5 19 yX5_add, Cond.instanceMethod yX5_add, Cond.selects RX5 yX5_add yX5_add, Cond.code yX5_add cX5_add 2 none, Cond.methodLink RL 86 yX9_feed, Cond.instanceMethod yX9_feed, Cond.selects RX9 yX9_feed yX9_feed, Cond.code yX9_feed cX9_feed 8 (some .int), Cond.fieldLink RX9 198 "HoleHouseModel" "taped" "I", Cond.methodLink RL 87 yX8_end, Cond.instanceMethod yX8_end, Cond.selects RX8 yX8_end yX8_end, Cond.code yX8_end cX8_end 2 (some .boolean), Cond.methodLink RX8 177 yX5_shorten, Cond.instanceMethod yX5_shorten, Cond.selects RX5 yX5_shorten yX5_shorten, Cond.code yX5_shorten cX5_shorten 2 none, Cond.methodLink RL 90 yX9_end, Cond.instanceMethod yX9_end, Cond.selects RX9 yX9_end yX9_end, Cond.code yX9_end cX9_end 2 (some .boolean), Cond.methodLink RL 91 yX8_read, Cond.instanceMethod yX8_read, Cond.selects RX8 yX8_read yX8_read]
def wsL_law_r27 : List Cond := [Cond.code yX8_read cX8_read 1 (some .int), Cond.methodLink RX8 180 yX4_parse, Cond.instanceMethod yX4_parse, Cond.selects RX4 yX4_parse yX4_parse, Cond.code yX4_parse cX4_parse 4 (some .int), Cond.fieldLink RX4 15 "HoleHouse$Reader" "told" "I", Cond.methodLink RX4 19 yX4_behindBlanks, Cond.static yX4_behindBlanks, Cond.code yX4_behindBlanks cX4_behindBlanks 3 (some .int), Cond.methodLink RX4 32 yX5_size, Cond.methodLink RX4 23 yX5_at, Cond.instanceMethod yX5_at, Cond.selects RX5 yX5_at yX5_at, Cond.code yX5_at cX5_at 2 (some .int), Cond.methodLink RX4 36 yX4_isBlank, Cond.static yX4_isBlank, Cond.code yX4_isBlank cX4_isBlank 1 (some .boolean), Cond.methodLink RX4 29 yX4_parseFaces, Cond.instanceMethod yX4_parseFaces, Cond.selects RX4 yX4_parseFaces yX4_parseFaces, Cond.code yX4_parseFaces cX4_parseFaces 8 (some .int), Cond.methodLink RX4 40 yX6_inside, Cond.methodLink RX8 184 yX4_toldPoints, Cond.instanceMethod yX4_toldPoints]
def wsL_law_r28 : List Cond := [Cond.selects RX4 yX4_toldPoints yX4_toldPoints, Cond.code yX4_toldPoints cX4_toldPoints 1 (some .int), Cond.methodLink RX8 187 yX4_toldFamily, Cond.instanceMethod yX4_toldFamily, Cond.selects RX4 yX4_toldFamily yX4_toldFamily, Cond.code yX4_toldFamily cX4_toldFamily 1 (some .long), Cond.methodLink RL 95 yX9_read, Cond.instanceMethod yX9_read, Cond.selects RX9 yX9_read yX9_read, Cond.code yX9_read cX9_read 1 (some .int), Cond.fieldLink RX9 207 "HoleHouseModel" "readPoints" "I", Cond.fieldLink RX9 210 "HoleHouseModel" "readFaces" "J", Cond.methodLink RX9 213 yX9_reads, Cond.instanceMethod yX9_reads, Cond.selects RX9 yX9_reads yX9_reads, Cond.code yX9_reads cX9_reads 5 (some .int), Cond.methodLink RX9 204 yX9_blanks, Cond.instanceMethod yX9_blanks, Cond.selects RX9 yX9_blanks yX9_blanks, Cond.code yX9_blanks cX9_blanks 3 (some .int), Cond.methodLink RX9 201 yX9_see, Cond.instanceMethod yX9_see, Cond.selects RX9 yX9_see yX9_see, Cond.code yX9_see cX9_see 2 (some .int)]
def wsL_law_r29 : List Cond := [Cond.methodLink RL 96 yX8_fault, Cond.instanceMethod yX8_fault, Cond.selects RX8 yX8_fault yX8_fault, Cond.code yX8_fault cX8_fault 1 (some .int), Cond.methodLink RL 99 yX9_fault, Cond.instanceMethod yX9_fault, Cond.selects RX9 yX9_fault yX9_fault, Cond.code yX9_fault cX9_fault 1 (some .int), Cond.methodLink RL 100 yX8_write, Cond.instanceMethod yX8_write, Cond.selects RX8 yX8_write yX8_write, Cond.code yX8_write cX8_write 2 (some .int), Cond.methodLink RX8 190 yX5_add, Cond.methodLink RX8 193 yX6_above, Cond.methodLink RX8 196 yX5_addDigitsOf, Cond.instanceMethod yX5_addDigitsOf, Cond.selects RX5 yX5_addDigitsOf yX5_addDigitsOf, Cond.code yX5_addDigitsOf cX5_addDigitsOf 3 none, Cond.methodLink RX5 23 yX6_hasPoint, Cond.methodLink RL 103 yX9_write, Cond.instanceMethod yX9_write, Cond.selects RX9 yX9_write yX9_write, Cond.code yX9_write cX9_write 3 (some .int), Cond.fieldLink RX9 216 "HoleHouseModel" "outs" "I"]
def wsL_law_r30 : List Cond := [Cond.methodLink RX9 219 yX9_puts, Cond.instanceMethod yX9_puts, Cond.selects RX9 yX9_puts yX9_puts, Cond.code yX9_puts cX9_puts 2 none, Cond.methodLink RX9 223 yX9_isGreatest, Cond.instanceMethod yX9_isGreatest, Cond.selects RX9 yX9_isGreatest yX9_isGreatest, Cond.code yX9_isGreatest cX9_isGreatest 4 (some .boolean), Cond.methodLink RL 104 yX8_out, Cond.instanceMethod yX8_out, Cond.selects RX8 yX8_out yX8_out, Cond.code yX8_out cX8_out 2 (some .int), Cond.methodLink RX8 199 yX5_at, Cond.methodLink RL 107 yX9_out, Cond.instanceMethod yX9_out, Cond.selects RX9 yX9_out yX9_out, Cond.code yX9_out cX9_out 2 (some .int), Cond.methodLink RL 108 yX8_take, Cond.instanceMethod yX8_take, Cond.selects RX8 yX8_take yX8_take, Cond.code yX8_take cX8_take 2 (some .int), Cond.methodLink RL 111 yX9_take, Cond.instanceMethod yX9_take, Cond.selects RX9 yX9_take yX9_take]
def wsL_law_r31 : List Cond := [Cond.code yX9_take cX9_take 2 (some .int)]
def wsL_law : List Cond := (wsL_law_r1 ++ (wsL_law_r2 ++ (wsL_law_r3 ++ (wsL_law_r4 ++ (wsL_law_r5 ++ (wsL_law_r6 ++ (wsL_law_r7 ++ (wsL_law_r8 ++ (wsL_law_r9 ++ (wsL_law_r10 ++ (wsL_law_r11 ++ (wsL_law_r12 ++ (wsL_law_r13 ++ (wsL_law_r14 ++ (wsL_law_r15 ++ (wsL_law_r16 ++ (wsL_law_r17 ++ (wsL_law_r18 ++ (wsL_law_r19 ++ (wsL_law_r20 ++ (wsL_law_r21 ++ (wsL_law_r22 ++ (wsL_law_r23 ++ (wsL_law_r24 ++ (wsL_law_r25 ++ (wsL_law_r26 ++ (wsL_law_r27 ++ (wsL_law_r28 ++ (wsL_law_r29 ++ (wsL_law_r30 ++ wsL_law_r31)))))))))))))))))))))))))))))) ++ wsX80 ++ wsX90 ++ wsX10 ++ wsX50 ++ wsX40 ++ wsX20 ++ wsX30 ++ wsX70 ++ wsX00 ++ ([] : List Cond)
end
section
theorem dX0_init_0 : decode cX0_init 0 = .ok (.aload_n 0, 1) := by decide +kernel
theorem dX0_init_1 : decode cX0_init 1 = .ok (.invokespecial 3, 3) := by decide +kernel
theorem dX0_init_4 : decode cX0_init 4 = .ok (.aload_n 0, 1) := by decide +kernel
theorem dX0_init_5 : decode cX0_init 5 = .ok (.bipush 64, 2) := by decide +kernel
theorem dX0_init_7 : decode cX0_init 7 = .ok (.newarray .long, 2) := by decide +kernel
theorem dX0_init_9 : decode cX0_init 9 = .ok (.putfield 9, 3) := by decide +kernel
theorem dX0_init_12 : decode cX0_init 12 = .ok (.aload_n 0, 1) := by decide +kernel
theorem dX0_init_13 : decode cX0_init 13 = .ok (.bipush 64, 2) := by decide +kernel
theorem dX0_init_15 : decode cX0_init 15 = .ok (.newarray .long, 2) := by decide +kernel
theorem dX0_init_17 : decode cX0_init 17 = .ok (.putfield 15, 3) := by decide +kernel
theorem dX0_init_20 : decode cX0_init 20 = .ok (.return_, 1) := by decide +kernel
theorem dX0_clear_0 : decode cX0_clear 0 = .ok (.aload_n 0, 1) := by decide +kernel
theorem dX0_clear_1 : decode cX0_clear 1 = .ok (.lload_n 1, 1) := by decide +kernel
theorem dX0_clear_2 : decode cX0_clear 2 = .ok (.putfield 18, 3) := by decide +kernel
theorem dX0_clear_5 : decode cX0_clear 5 = .ok (.aload_n 0, 1) := by decide +kernel
theorem dX0_clear_6 : decode cX0_clear 6 = .ok (.lconst 0, 1) := by decide +kernel
theorem dX0_clear_7 : decode cX0_clear 7 = .ok (.putfield 22, 3) := by decide +kernel
theorem dX0_clear_10 : decode cX0_clear 10 = .ok (.aload_n 0, 1) := by decide +kernel
theorem dX0_clear_11 : decode cX0_clear 11 = .ok (.iconst 0, 1) := by decide +kernel
theorem dX0_clear_12 : decode cX0_clear 12 = .ok (.putfield 25, 3) := by decide +kernel
theorem dX0_clear_15 : decode cX0_clear 15 = .ok (.return_, 1) := by decide +kernel
theorem dX0_add_0 : decode cX0_add 0 = .ok (.aload_n 0, 1) := by decide +kernel
theorem dX0_add_1 : decode cX0_add 1 = .ok (.lload_n 1, 1) := by decide +kernel
theorem dX0_add_2 : decode cX0_add 2 = .ok (.putfield 22, 3) := by decide +kernel
theorem dX0_add_5 : decode cX0_add 5 = .ok (.iconst 0, 1) := by decide +kernel
theorem dX0_add_6 : decode cX0_add 6 = .ok (.istore_n 3, 1) := by decide +kernel
theorem dX0_add_7 : decode cX0_add 7 = .ok (.iload_n 3, 1) := by decide +kernel
theorem dX0_add_8 : decode cX0_add 8 = .ok (.aload_n 0, 1) := by decide +kernel
theorem dX0_add_9 : decode cX0_add 9 = .ok (.getfield 25, 3) := by decide +kernel
theorem dX0_add_12 : decode cX0_add 12 = .ok (.if_icmp .ge 46, 3) := by decide +kernel
theorem dX0_add_15 : decode cX0_add 15 = .ok (.iload_n 3, 1) := by decide +kernel
theorem dX0_add_16 : decode cX0_add 16 = .ok (.bipush 64, 2) := by decide +kernel
theorem dX0_add_18 : decode cX0_add 18 = .ok (.if_icmp .ge 40, 3) := by decide +kernel
theorem dX0_add_21 : decode cX0_add 21 = .ok (.aload_n 0, 1) := by decide +kernel
theorem dX0_add_22 : decode cX0_add 22 = .ok (.getfield 22, 3) := by decide +kernel
theorem dX0_add_25 : decode cX0_add 25 = .ok (.aload_n 0, 1) := by decide +kernel
theorem dX0_add_26 : decode cX0_add 26 = .ok (.getfield 15, 3) := by decide +kernel
theorem dX0_add_29 : decode cX0_add 29 = .ok (.iload_n 3, 1) := by decide +kernel
theorem dX0_add_30 : decode cX0_add 30 = .ok (.laload, 1) := by decide +kernel
theorem dX0_add_31 : decode cX0_add 31 = .ok (.land, 1) := by decide +kernel
theorem dX0_add_32 : decode cX0_add 32 = .ok (.lconst 0, 1) := by decide +kernel
theorem dX0_add_33 : decode cX0_add 33 = .ok (.lcmp, 1) := by decide +kernel
theorem dX0_add_34 : decode cX0_add 34 = .ok (.ifCond .eq 18, 3) := by decide +kernel
theorem dX0_add_37 : decode cX0_add 37 = .ok (.aload_n 0, 1) := by decide +kernel
theorem dX0_add_38 : decode cX0_add 38 = .ok (.dup, 1) := by decide +kernel
theorem dX0_add_39 : decode cX0_add 39 = .ok (.getfield 22, 3) := by decide +kernel
theorem dX0_add_42 : decode cX0_add 42 = .ok (.aload_n 0, 1) := by decide +kernel
theorem dX0_add_43 : decode cX0_add 43 = .ok (.getfield 9, 3) := by decide +kernel
theorem dX0_add_46 : decode cX0_add 46 = .ok (.iload_n 3, 1) := by decide +kernel
theorem dX0_add_47 : decode cX0_add 47 = .ok (.laload, 1) := by decide +kernel
theorem dX0_add_48 : decode cX0_add 48 = .ok (.lxor, 1) := by decide +kernel
theorem dX0_add_49 : decode cX0_add 49 = .ok (.putfield 22, 3) := by decide +kernel
theorem dX0_add_52 : decode cX0_add 52 = .ok (.iinc 3 1, 3) := by decide +kernel
theorem dX0_add_55 : decode cX0_add 55 = .ok (.goto (-48), 3) := by decide +kernel
theorem dX0_add_58 : decode cX0_add 58 = .ok (.aload_n 0, 1) := by decide +kernel
theorem dX0_add_59 : decode cX0_add 59 = .ok (.getfield 22, 3) := by decide +kernel
theorem dX0_add_62 : decode cX0_add 62 = .ok (.aload_n 0, 1) := by decide +kernel
theorem dX0_add_63 : decode cX0_add 63 = .ok (.getfield 18, 3) := by decide +kernel
theorem dX0_add_66 : decode cX0_add 66 = .ok (.land, 1) := by decide +kernel
theorem dX0_add_67 : decode cX0_add 67 = .ok (.lstore_n 3, 1) := by decide +kernel
theorem dX0_add_68 : decode cX0_add 68 = .ok (.lload_n 3, 1) := by decide +kernel
theorem dX0_add_69 : decode cX0_add 69 = .ok (.lconst 0, 1) := by decide +kernel
theorem dX0_add_70 : decode cX0_add 70 = .ok (.lcmp, 1) := by decide +kernel
theorem dX0_add_71 : decode cX0_add 71 = .ok (.ifCond .eq 12, 3) := by decide +kernel
theorem dX0_add_74 : decode cX0_add 74 = .ok (.aload_n 0, 1) := by decide +kernel
theorem dX0_add_75 : decode cX0_add 75 = .ok (.getfield 25, 3) := by decide +kernel
theorem dX0_add_78 : decode cX0_add 78 = .ok (.bipush 64, 2) := by decide +kernel
theorem dX0_add_80 : decode cX0_add 80 = .ok (.if_icmp .lt 5, 3) := by decide +kernel
theorem dX0_add_83 : decode cX0_add 83 = .ok (.iconst 0, 1) := by decide +kernel
theorem dX0_add_84 : decode cX0_add 84 = .ok (.ireturn, 1) := by decide +kernel
theorem dX0_add_85 : decode cX0_add 85 = .ok (.aload_n 0, 1) := by decide +kernel
theorem dX0_add_86 : decode cX0_add 86 = .ok (.getfield 9, 3) := by decide +kernel
theorem dX0_add_89 : decode cX0_add 89 = .ok (.aload_n 0, 1) := by decide +kernel
theorem dX0_add_90 : decode cX0_add 90 = .ok (.getfield 25, 3) := by decide +kernel
theorem dX0_add_93 : decode cX0_add 93 = .ok (.aload_n 0, 1) := by decide +kernel
theorem dX0_add_94 : decode cX0_add 94 = .ok (.getfield 22, 3) := by decide +kernel
theorem dX0_add_97 : decode cX0_add 97 = .ok (.lastore, 1) := by decide +kernel
theorem dX0_add_98 : decode cX0_add 98 = .ok (.aload_n 0, 1) := by decide +kernel
theorem dX0_add_99 : decode cX0_add 99 = .ok (.getfield 15, 3) := by decide +kernel
theorem dX0_add_102 : decode cX0_add 102 = .ok (.aload_n 0, 1) := by decide +kernel
theorem dX0_add_103 : decode cX0_add 103 = .ok (.getfield 25, 3) := by decide +kernel
theorem dX0_add_106 : decode cX0_add 106 = .ok (.lload_n 3, 1) := by decide +kernel
theorem dX0_add_107 : decode cX0_add 107 = .ok (.lload_n 3, 1) := by decide +kernel
theorem dX0_add_108 : decode cX0_add 108 = .ok (.lneg, 1) := by decide +kernel
theorem dX0_add_109 : decode cX0_add 109 = .ok (.land, 1) := by decide +kernel
theorem dX0_add_110 : decode cX0_add 110 = .ok (.lastore, 1) := by decide +kernel
theorem dX0_add_111 : decode cX0_add 111 = .ok (.aload_n 0, 1) := by decide +kernel
theorem dX0_add_112 : decode cX0_add 112 = .ok (.dup, 1) := by decide +kernel
theorem dX0_add_113 : decode cX0_add 113 = .ok (.getfield 25, 3) := by decide +kernel
theorem dX0_add_116 : decode cX0_add 116 = .ok (.iconst 1, 1) := by decide +kernel
theorem dX0_add_117 : decode cX0_add 117 = .ok (.iadd, 1) := by decide +kernel
theorem dX0_add_118 : decode cX0_add 118 = .ok (.putfield 25, 3) := by decide +kernel
theorem dX0_add_121 : decode cX0_add 121 = .ok (.iconst 1, 1) := by decide +kernel
theorem dX0_add_122 : decode cX0_add 122 = .ok (.ireturn, 1) := by decide +kernel
theorem dX0_remainder_0 : decode cX0_remainder 0 = .ok (.aload_n 0, 1) := by decide +kernel
theorem dX0_remainder_1 : decode cX0_remainder 1 = .ok (.getfield 22, 3) := by decide +kernel
theorem dX0_remainder_4 : decode cX0_remainder 4 = .ok (.lreturn, 1) := by decide +kernel
theorem dX1_init_0 : decode cX1_init 0 = .ok (.aload_n 0, 1) := by decide +kernel
theorem dX1_init_1 : decode cX1_init 1 = .ok (.invokespecial 3, 3) := by decide +kernel
theorem dX1_init_4 : decode cX1_init 4 = .ok (.aload_n 0, 1) := by decide +kernel
theorem dX1_init_5 : decode cX1_init 5 = .ok (.bipush 8, 2) := by decide +kernel
theorem dX1_init_7 : decode cX1_init 7 = .ok (.newarray .int, 2) := by decide +kernel
theorem dX1_init_9 : decode cX1_init 9 = .ok (.putfield 11, 3) := by decide +kernel
theorem dX1_init_12 : decode cX1_init 12 = .ok (.aload_n 0, 1) := by decide +kernel
theorem dX1_init_13 : decode cX1_init 13 = .ok (.bipush 8, 2) := by decide +kernel
theorem dX1_init_15 : decode cX1_init 15 = .ok (.newarray .long, 2) := by decide +kernel
theorem dX1_init_17 : decode cX1_init 17 = .ok (.putfield 15, 3) := by decide +kernel
theorem dX1_init_20 : decode cX1_init 20 = .ok (.return_, 1) := by decide +kernel
theorem dX1_keep_0 : decode cX1_keep 0 = .ok (.aload_n 0, 1) := by decide +kernel
theorem dX1_keep_1 : decode cX1_keep 1 = .ok (.getfield 19, 3) := by decide +kernel
theorem dX1_keep_4 : decode cX1_keep 4 = .ok (.bipush 8, 2) := by decide +kernel
theorem dX1_keep_6 : decode cX1_keep 6 = .ok (.if_icmp .lt 39, 3) := by decide +kernel
theorem dX1_keep_9 : decode cX1_keep 9 = .ok (.aload_n 0, 1) := by decide +kernel
theorem dX1_keep_10 : decode cX1_keep 10 = .ok (.getfield 11, 3) := by decide +kernel
theorem dX1_keep_13 : decode cX1_keep 13 = .ok (.iconst 1, 1) := by decide +kernel
theorem dX1_keep_14 : decode cX1_keep 14 = .ok (.aload_n 0, 1) := by decide +kernel
theorem dX1_keep_15 : decode cX1_keep 15 = .ok (.getfield 11, 3) := by decide +kernel
theorem dX1_keep_18 : decode cX1_keep 18 = .ok (.iconst 0, 1) := by decide +kernel
theorem dX1_keep_19 : decode cX1_keep 19 = .ok (.bipush 7, 2) := by decide +kernel
theorem dX1_keep_21 : decode cX1_keep 21 = .ok (.invokestatic 23, 3) := by decide +kernel
theorem dX1_keep_24 : decode cX1_keep 24 = .ok (.aload_n 0, 1) := by decide +kernel
theorem dX1_keep_25 : decode cX1_keep 25 = .ok (.getfield 15, 3) := by decide +kernel
theorem dX1_keep_28 : decode cX1_keep 28 = .ok (.iconst 1, 1) := by decide +kernel
theorem dX1_keep_29 : decode cX1_keep 29 = .ok (.aload_n 0, 1) := by decide +kernel
theorem dX1_keep_30 : decode cX1_keep 30 = .ok (.getfield 15, 3) := by decide +kernel
theorem dX1_keep_33 : decode cX1_keep 33 = .ok (.iconst 0, 1) := by decide +kernel
theorem dX1_keep_34 : decode cX1_keep 34 = .ok (.bipush 7, 2) := by decide +kernel
theorem dX1_keep_36 : decode cX1_keep 36 = .ok (.invokestatic 23, 3) := by decide +kernel
theorem dX1_keep_39 : decode cX1_keep 39 = .ok (.aload_n 0, 1) := by decide +kernel
theorem dX1_keep_40 : decode cX1_keep 40 = .ok (.bipush 7, 2) := by decide +kernel
theorem dX1_keep_42 : decode cX1_keep 42 = .ok (.putfield 19, 3) := by decide +kernel
theorem dX1_keep_45 : decode cX1_keep 45 = .ok (.aload_n 0, 1) := by decide +kernel
theorem dX1_keep_46 : decode cX1_keep 46 = .ok (.getfield 11, 3) := by decide +kernel
theorem dX1_keep_49 : decode cX1_keep 49 = .ok (.aload_n 0, 1) := by decide +kernel
theorem dX1_keep_50 : decode cX1_keep 50 = .ok (.getfield 19, 3) := by decide +kernel
theorem dX1_keep_53 : decode cX1_keep 53 = .ok (.iload_n 1, 1) := by decide +kernel
theorem dX1_keep_54 : decode cX1_keep 54 = .ok (.iastore, 1) := by decide +kernel
theorem dX1_keep_55 : decode cX1_keep 55 = .ok (.aload_n 0, 1) := by decide +kernel
theorem dX1_keep_56 : decode cX1_keep 56 = .ok (.getfield 15, 3) := by decide +kernel
theorem dX1_keep_59 : decode cX1_keep 59 = .ok (.aload_n 0, 1) := by decide +kernel
theorem dX1_keep_60 : decode cX1_keep 60 = .ok (.getfield 19, 3) := by decide +kernel
theorem dX1_keep_63 : decode cX1_keep 63 = .ok (.lload_n 2, 1) := by decide +kernel
theorem dX1_keep_64 : decode cX1_keep 64 = .ok (.lastore, 1) := by decide +kernel
theorem dX1_keep_65 : decode cX1_keep 65 = .ok (.aload_n 0, 1) := by decide +kernel
theorem dX1_keep_66 : decode cX1_keep 66 = .ok (.dup, 1) := by decide +kernel
theorem dX1_keep_67 : decode cX1_keep 67 = .ok (.getfield 19, 3) := by decide +kernel
theorem dX1_keep_70 : decode cX1_keep 70 = .ok (.iconst 1, 1) := by decide +kernel
theorem dX1_keep_71 : decode cX1_keep 71 = .ok (.iadd, 1) := by decide +kernel
theorem dX1_keep_72 : decode cX1_keep 72 = .ok (.putfield 19, 3) := by decide +kernel
theorem dX1_keep_75 : decode cX1_keep 75 = .ok (.return_, 1) := by decide +kernel
theorem dX1_drop_0 : decode cX1_drop 0 = .ok (.aload_n 0, 1) := by decide +kernel
theorem dX1_drop_1 : decode cX1_drop 1 = .ok (.getfield 19, 3) := by decide +kernel
theorem dX1_drop_4 : decode cX1_drop 4 = .ok (.ifCond .gt 5, 3) := by decide +kernel
theorem dX1_drop_7 : decode cX1_drop 7 = .ok (.iconst 0, 1) := by decide +kernel
theorem dX1_drop_8 : decode cX1_drop 8 = .ok (.ireturn, 1) := by decide +kernel
theorem dX1_drop_9 : decode cX1_drop 9 = .ok (.aload_n 0, 1) := by decide +kernel
theorem dX1_drop_10 : decode cX1_drop 10 = .ok (.dup, 1) := by decide +kernel
theorem dX1_drop_11 : decode cX1_drop 11 = .ok (.getfield 19, 3) := by decide +kernel
theorem dX1_drop_14 : decode cX1_drop 14 = .ok (.iconst 1, 1) := by decide +kernel
theorem dX1_drop_15 : decode cX1_drop 15 = .ok (.isub, 1) := by decide +kernel
theorem dX1_drop_16 : decode cX1_drop 16 = .ok (.putfield 19, 3) := by decide +kernel
theorem dX1_drop_19 : decode cX1_drop 19 = .ok (.iconst 1, 1) := by decide +kernel
theorem dX1_drop_20 : decode cX1_drop 20 = .ok (.ireturn, 1) := by decide +kernel
theorem dX1_droppedPoints_0 : decode cX1_droppedPoints 0 = .ok (.aload_n 0, 1) := by decide +kernel
theorem dX1_droppedPoints_1 : decode cX1_droppedPoints 1 = .ok (.getfield 19, 3) := by decide +kernel
theorem dX1_droppedPoints_4 : decode cX1_droppedPoints 4 = .ok (.bipush 8, 2) := by decide +kernel
theorem dX1_droppedPoints_6 : decode cX1_droppedPoints 6 = .ok (.if_icmp .ge 15, 3) := by decide +kernel
theorem dX1_droppedPoints_9 : decode cX1_droppedPoints 9 = .ok (.aload_n 0, 1) := by decide +kernel
theorem dX1_droppedPoints_10 : decode cX1_droppedPoints 10 = .ok (.getfield 11, 3) := by decide +kernel
theorem dX1_droppedPoints_13 : decode cX1_droppedPoints 13 = .ok (.aload_n 0, 1) := by decide +kernel
theorem dX1_droppedPoints_14 : decode cX1_droppedPoints 14 = .ok (.getfield 19, 3) := by decide +kernel
theorem dX1_droppedPoints_17 : decode cX1_droppedPoints 17 = .ok (.iaload, 1) := by decide +kernel
theorem dX1_droppedPoints_18 : decode cX1_droppedPoints 18 = .ok (.goto 4, 3) := by decide +kernel
theorem dX1_droppedPoints_21 : decode cX1_droppedPoints 21 = .ok (.iconst 4, 1) := by decide +kernel
theorem dX1_droppedPoints_22 : decode cX1_droppedPoints 22 = .ok (.ireturn, 1) := by decide +kernel
theorem dX1_droppedFamily_0 : decode cX1_droppedFamily 0 = .ok (.aload_n 0, 1) := by decide +kernel
theorem dX1_droppedFamily_1 : decode cX1_droppedFamily 1 = .ok (.getfield 19, 3) := by decide +kernel
theorem dX1_droppedFamily_4 : decode cX1_droppedFamily 4 = .ok (.bipush 8, 2) := by decide +kernel
theorem dX1_droppedFamily_6 : decode cX1_droppedFamily 6 = .ok (.if_icmp .ge 15, 3) := by decide +kernel
theorem dX1_droppedFamily_9 : decode cX1_droppedFamily 9 = .ok (.aload_n 0, 1) := by decide +kernel
theorem dX1_droppedFamily_10 : decode cX1_droppedFamily 10 = .ok (.getfield 15, 3) := by decide +kernel
theorem dX1_droppedFamily_13 : decode cX1_droppedFamily 13 = .ok (.aload_n 0, 1) := by decide +kernel
theorem dX1_droppedFamily_14 : decode cX1_droppedFamily 14 = .ok (.getfield 19, 3) := by decide +kernel
theorem dX1_droppedFamily_17 : decode cX1_droppedFamily 17 = .ok (.laload, 1) := by decide +kernel
theorem dX1_droppedFamily_18 : decode cX1_droppedFamily 18 = .ok (.goto 4, 3) := by decide +kernel
theorem dX1_droppedFamily_21 : decode cX1_droppedFamily 21 = .ok (.lconst 1, 1) := by decide +kernel
theorem dX1_droppedFamily_22 : decode cX1_droppedFamily 22 = .ok (.lreturn, 1) := by decide +kernel
set_option maxRecDepth 20000 in
theorem ggX2_init_X0_init : GoodIn wsX2_init wsX0_init := goodIn_r _ [13, 14, 2, 3, 15, 16, 17, 23, 24, 25, 26, 27] (by decide +kernel) (by decide +kernel)
set_option maxRecDepth 20000 in
theorem gX2_init_X0_init : GoodIn wsX2_init (wsX0_init) := ggX2_init_X0_init
theorem dX2_init_0 : decode cX2_init 0 = .ok (.aload_n 0, 1) := by decide +kernel
theorem dX2_init_1 : decode cX2_init 1 = .ok (.invokespecial 3, 3) := by decide +kernel
theorem dX2_init_4 : decode cX2_init 4 = .ok (.aload_n 0, 1) := by decide +kernel
theorem dX2_init_5 : decode cX2_init 5 = .ok (.sipush 448, 3) := by decide +kernel
theorem dX2_init_8 : decode cX2_init 8 = .ok (.newarray .int, 2) := by decide +kernel
theorem dX2_init_10 : decode cX2_init 10 = .ok (.putfield 11, 3) := by decide +kernel
theorem dX2_init_13 : decode cX2_init 13 = .ok (.aload_n 0, 1) := by decide +kernel
theorem dX2_init_14 : decode cX2_init 14 = .ok (.bipush 8, 2) := by decide +kernel
theorem dX2_init_16 : decode cX2_init 16 = .ok (.newarray .int, 2) := by decide +kernel
theorem dX2_init_18 : decode cX2_init 18 = .ok (.putfield 15, 3) := by decide +kernel
theorem dX2_init_21 : decode cX2_init 21 = .ok (.aload_n 0, 1) := by decide +kernel
theorem dX2_init_22 : decode cX2_init 22 = .ok (.new 18, 3) := by decide +kernel
theorem dX2_init_25 : decode cX2_init 25 = .ok (.dup, 1) := by decide +kernel
theorem dX2_init_26 : decode cX2_init 26 = .ok (.invokespecial 20, 3) := by decide +kernel
theorem dX2_init_29 : decode cX2_init 29 = .ok (.putfield 21, 3) := by decide +kernel
theorem dX2_init_32 : decode cX2_init 32 = .ok (.return_, 1) := by decide +kernel
set_option maxRecDepth 20000 in
theorem ggX2_know_X6_inside : GoodIn wsX2_know wsX6_inside := goodIn_r _ [6, 7, 8, 5, 9] (by decide +kernel) (by decide +kernel)
set_option maxRecDepth 20000 in
theorem gX2_know_X6_inside : GoodIn wsX2_know (va_wsS RX2 33 yX6_inside wsX6_inside) := goodIn_app (goodIn_of _ (by decide +kernel)) ggX2_know_X6_inside
set_option maxRecDepth 20000 in
theorem ggX2_know_X2_countHoles : GoodIn wsX2_know wsX2_countHoles := goodIn_r _ [14, 15, 16, 17, 18, 19, 13, 20, 21, 22, 23, 24, 25, 26, 27, 28, 29, 30, 31, 32, 5, 33, 34, 35, 36, 7, 8, 9, 37, 38, 39, 40, 41, 42, 43, 44, 45, 46, 47, 48, 49, 50, 51, 52, 53, 54, 55, 56, 57, 58, 59, 60, 61, 62, 63, 64, 65, 66, 67, 68, 69, 70] (by decide +kernel) (by decide +kernel)
set_option maxRecDepth 20000 in
theorem gX2_know_X2_countHoles : GoodIn wsX2_know (wsV RX2 39 RX2 yX2_countHoles wsX2_countHoles) := goodIn_app (goodIn_of _ (by decide +kernel)) ggX2_know_X2_countHoles
theorem dX2_know_0 : decode cX2_know 0 = .ok (.iload_n 1, 1) := by decide +kernel
theorem dX2_know_1 : decode cX2_know 1 = .ok (.aload_n 0, 1) := by decide +kernel
theorem dX2_know_2 : decode cX2_know 2 = .ok (.getfield 25, 3) := by decide +kernel
theorem dX2_know_5 : decode cX2_know 5 = .ok (.if_icmp .ne 13, 3) := by decide +kernel
theorem dX2_know_8 : decode cX2_know 8 = .ok (.lload_n 2, 1) := by decide +kernel
theorem dX2_know_9 : decode cX2_know 9 = .ok (.aload_n 0, 1) := by decide +kernel
theorem dX2_know_10 : decode cX2_know 10 = .ok (.getfield 29, 3) := by decide +kernel
theorem dX2_know_13 : decode cX2_know 13 = .ok (.lcmp, 1) := by decide +kernel
theorem dX2_know_14 : decode cX2_know 14 = .ok (.ifCond .ne 4, 3) := by decide +kernel
theorem dX2_know_17 : decode cX2_know 17 = .ok (.return_, 1) := by decide +kernel
theorem dX2_know_18 : decode cX2_know 18 = .ok (.aload_n 0, 1) := by decide +kernel
theorem dX2_know_19 : decode cX2_know 19 = .ok (.iload_n 1, 1) := by decide +kernel
theorem dX2_know_20 : decode cX2_know 20 = .ok (.putfield 25, 3) := by decide +kernel
theorem dX2_know_23 : decode cX2_know 23 = .ok (.aload_n 0, 1) := by decide +kernel
theorem dX2_know_24 : decode cX2_know 24 = .ok (.lload_n 2, 1) := by decide +kernel
theorem dX2_know_25 : decode cX2_know 25 = .ok (.putfield 29, 3) := by decide +kernel
theorem dX2_know_28 : decode cX2_know 28 = .ok (.iconst 0, 1) := by decide +kernel
theorem dX2_know_29 : decode cX2_know 29 = .ok (.istore 4, 2) := by decide +kernel
theorem dX2_know_31 : decode cX2_know 31 = .ok (.iload 4, 2) := by decide +kernel
theorem dX2_know_33 : decode cX2_know 33 = .ok (.bipush 64, 2) := by decide +kernel
theorem dX2_know_35 : decode cX2_know 35 = .ok (.if_icmp .ge 30, 3) := by decide +kernel
theorem dX2_know_38 : decode cX2_know 38 = .ok (.iload 4, 2) := by decide +kernel
theorem dX2_know_40 : decode cX2_know 40 = .ok (.iconst 1, 1) := by decide +kernel
theorem dX2_know_41 : decode cX2_know 41 = .ok (.iload_n 1, 1) := by decide +kernel
theorem dX2_know_42 : decode cX2_know 42 = .ok (.ishl, 1) := by decide +kernel
theorem dX2_know_43 : decode cX2_know 43 = .ok (.if_icmp .ge 22, 3) := by decide +kernel
theorem dX2_know_46 : decode cX2_know 46 = .ok (.aload_n 0, 1) := by decide +kernel
theorem dX2_know_47 : decode cX2_know 47 = .ok (.iload 4, 2) := by decide +kernel
theorem dX2_know_49 : decode cX2_know 49 = .ok (.lload_n 2, 1) := by decide +kernel
theorem dX2_know_50 : decode cX2_know 50 = .ok (.iload 4, 2) := by decide +kernel
theorem dX2_know_52 : decode cX2_know 52 = .ok (.invokestatic 33, 3) := by decide +kernel
theorem dX2_know_55 : decode cX2_know 55 = .ok (.land, 1) := by decide +kernel
theorem dX2_know_56 : decode cX2_know 56 = .ok (.invokevirtual 39, 3) := by decide +kernel
theorem dX2_know_59 : decode cX2_know 59 = .ok (.iinc 4 1, 3) := by decide +kernel
theorem dX2_know_62 : decode cX2_know 62 = .ok (.goto (-31), 3) := by decide +kernel
theorem dX2_know_65 : decode cX2_know 65 = .ok (.return_, 1) := by decide +kernel
theorem dX2_isDimension_0 : decode cX2_isDimension 0 = .ok (.iload_n 0, 1) := by decide +kernel
theorem dX2_isDimension_1 : decode cX2_isDimension 1 = .ok (.iconst (-1), 1) := by decide +kernel
theorem dX2_isDimension_2 : decode cX2_isDimension 2 = .ok (.if_icmp .lt 12, 3) := by decide +kernel
theorem dX2_isDimension_5 : decode cX2_isDimension 5 = .ok (.iload_n 0, 1) := by decide +kernel
theorem dX2_isDimension_6 : decode cX2_isDimension 6 = .ok (.iconst 5, 1) := by decide +kernel
theorem dX2_isDimension_7 : decode cX2_isDimension 7 = .ok (.if_icmp .gt 7, 3) := by decide +kernel
theorem dX2_isDimension_10 : decode cX2_isDimension 10 = .ok (.iconst 1, 1) := by decide +kernel
theorem dX2_isDimension_11 : decode cX2_isDimension 11 = .ok (.goto 4, 3) := by decide +kernel
theorem dX2_isDimension_14 : decode cX2_isDimension 14 = .ok (.iconst 0, 1) := by decide +kernel
theorem dX2_isDimension_15 : decode cX2_isDimension 15 = .ok (.ireturn, 1) := by decide +kernel
set_option maxRecDepth 20000 in
theorem ggX2_holesOf_X2_isDimension : GoodIn wsX2_holesOf wsX2_isDimension := goodIn_r _ [5] (by decide +kernel) (by decide +kernel)
set_option maxRecDepth 20000 in
theorem gX2_holesOf_X2_isDimension : GoodIn wsX2_holesOf (va_wsS RX2 43 yX2_isDimension wsX2_isDimension) := goodIn_app (goodIn_of _ (by decide +kernel)) ggX2_holesOf_X2_isDimension
theorem dX2_holesOf_0 : decode cX2_holesOf 0 = .ok (.iload_n 1, 1) := by decide +kernel
theorem dX2_holesOf_1 : decode cX2_holesOf 1 = .ok (.ifCond .lt 20, 3) := by decide +kernel
theorem dX2_holesOf_4 : decode cX2_holesOf 4 = .ok (.iload_n 1, 1) := by decide +kernel
theorem dX2_holesOf_5 : decode cX2_holesOf 5 = .ok (.bipush 64, 2) := by decide +kernel
theorem dX2_holesOf_7 : decode cX2_holesOf 7 = .ok (.if_icmp .ge 14, 3) := by decide +kernel
theorem dX2_holesOf_10 : decode cX2_holesOf 10 = .ok (.iload_n 2, 1) := by decide +kernel
theorem dX2_holesOf_11 : decode cX2_holesOf 11 = .ok (.invokestatic 43, 3) := by decide +kernel
theorem dX2_holesOf_14 : decode cX2_holesOf 14 = .ok (.ifCond .eq 7, 3) := by decide +kernel
theorem dX2_holesOf_17 : decode cX2_holesOf 17 = .ok (.iconst 1, 1) := by decide +kernel
theorem dX2_holesOf_18 : decode cX2_holesOf 18 = .ok (.goto 4, 3) := by decide +kernel
theorem dX2_holesOf_21 : decode cX2_holesOf 21 = .ok (.iconst 0, 1) := by decide +kernel
theorem dX2_holesOf_22 : decode cX2_holesOf 22 = .ok (.istore_n 3, 1) := by decide +kernel
theorem dX2_holesOf_23 : decode cX2_holesOf 23 = .ok (.iload_n 3, 1) := by decide +kernel
theorem dX2_holesOf_24 : decode cX2_holesOf 24 = .ok (.ifCond .eq 19, 3) := by decide +kernel
theorem dX2_holesOf_27 : decode cX2_holesOf 27 = .ok (.aload_n 0, 1) := by decide +kernel
theorem dX2_holesOf_28 : decode cX2_holesOf 28 = .ok (.getfield 11, 3) := by decide +kernel
theorem dX2_holesOf_31 : decode cX2_holesOf 31 = .ok (.iload_n 1, 1) := by decide +kernel
theorem dX2_holesOf_32 : decode cX2_holesOf 32 = .ok (.bipush 7, 2) := by decide +kernel
theorem dX2_holesOf_34 : decode cX2_holesOf 34 = .ok (.imul, 1) := by decide +kernel
theorem dX2_holesOf_35 : decode cX2_holesOf 35 = .ok (.iload_n 2, 1) := by decide +kernel
theorem dX2_holesOf_36 : decode cX2_holesOf 36 = .ok (.iadd, 1) := by decide +kernel
theorem dX2_holesOf_37 : decode cX2_holesOf 37 = .ok (.iconst 1, 1) := by decide +kernel
theorem dX2_holesOf_38 : decode cX2_holesOf 38 = .ok (.iadd, 1) := by decide +kernel
theorem dX2_holesOf_39 : decode cX2_holesOf 39 = .ok (.iaload, 1) := by decide +kernel
theorem dX2_holesOf_40 : decode cX2_holesOf 40 = .ok (.goto 4, 3) := by decide +kernel
theorem dX2_holesOf_43 : decode cX2_holesOf 43 = .ok (.iconst 0, 1) := by decide +kernel
theorem dX2_holesOf_44 : decode cX2_holesOf 44 = .ok (.ireturn, 1) := by decide +kernel
set_option maxRecDepth 20000 in
theorem ggX2_countHoles_X2_countBorders : GoodIn wsX2_countHoles wsX2_countBorders := goodIn_r _ [7, 2, 8, 9, 10, 11, 12, 13, 14, 15, 16, 17, 18, 19, 20, 21, 22, 23, 24, 25, 26, 27, 28, 29, 30, 31, 32, 33, 34, 35, 36, 37, 38, 39, 40, 52, 53, 54, 55, 56, 57, 58, 59, 60, 61] (by decide +kernel) (by decide +kernel)
set_option maxRecDepth 20000 in
theorem gX2_countHoles_X2_countBorders : GoodIn wsX2_countHoles (wsV RX2 47 RX2 yX2_countBorders wsX2_countBorders) := goodIn_app (goodIn_of _ (by decide +kernel)) ggX2_countHoles_X2_countBorders
set_option maxRecDepth 20000 in
theorem ggX2_countHoles_X6_ofSize : GoodIn wsX2_countHoles wsX6_ofSize := goodIn_r _ [43, 44] (by decide +kernel) (by decide +kernel)
set_option maxRecDepth 20000 in
theorem gX2_countHoles_X6_ofSize : GoodIn wsX2_countHoles (va_wsS RX2 50 yX6_ofSize wsX6_ofSize) := goodIn_app (goodIn_of _ (by decide +kernel)) ggX2_countHoles_X6_ofSize
set_option maxRecDepth 20000 in
theorem ggX2_countHoles_J13_bitCount_95d88 : GoodIn wsX2_countHoles wsJ13_bitCount_95d88 := goodIn_r _ [48, 49, 50, 51] (by decide +kernel) (by decide +kernel)
set_option maxRecDepth 20000 in
theorem gX2_countHoles_J13_bitCount_95d88 : GoodIn wsX2_countHoles (va_wsS RX2 53 yJ13_bitCount_95d88 wsJ13_bitCount_95d88) := goodIn_app (goodIn_of _ (by decide +kernel)) ggX2_countHoles_J13_bitCount_95d88
theorem dX2_countHoles_0 : decode cX2_countHoles 0 = .ok (.aload_n 0, 1) := by decide +kernel
theorem dX2_countHoles_1 : decode cX2_countHoles 1 = .ok (.iload_n 1, 1) := by decide +kernel
theorem dX2_countHoles_2 : decode cX2_countHoles 2 = .ok (.lload_n 2, 1) := by decide +kernel
theorem dX2_countHoles_3 : decode cX2_countHoles 3 = .ok (.invokevirtual 47, 3) := by decide +kernel
theorem dX2_countHoles_6 : decode cX2_countHoles 6 = .ok (.iconst 0, 1) := by decide +kernel
theorem dX2_countHoles_7 : decode cX2_countHoles 7 = .ok (.istore 4, 2) := by decide +kernel
theorem dX2_countHoles_9 : decode cX2_countHoles 9 = .ok (.iload 4, 2) := by decide +kernel
theorem dX2_countHoles_11 : decode cX2_countHoles 11 = .ok (.bipush 7, 2) := by decide +kernel
theorem dX2_countHoles_13 : decode cX2_countHoles 13 = .ok (.if_icmp .ge 53, 3) := by decide +kernel
theorem dX2_countHoles_16 : decode cX2_countHoles 16 = .ok (.lload_n 2, 1) := by decide +kernel
theorem dX2_countHoles_17 : decode cX2_countHoles 17 = .ok (.iload 4, 2) := by decide +kernel
theorem dX2_countHoles_19 : decode cX2_countHoles 19 = .ok (.invokestatic 50, 3) := by decide +kernel
theorem dX2_countHoles_22 : decode cX2_countHoles 22 = .ok (.land, 1) := by decide +kernel
theorem dX2_countHoles_23 : decode cX2_countHoles 23 = .ok (.invokestatic 53, 3) := by decide +kernel
theorem dX2_countHoles_26 : decode cX2_countHoles 26 = .ok (.istore 5, 2) := by decide +kernel
theorem dX2_countHoles_28 : decode cX2_countHoles 28 = .ok (.aload_n 0, 1) := by decide +kernel
theorem dX2_countHoles_29 : decode cX2_countHoles 29 = .ok (.getfield 11, 3) := by decide +kernel
theorem dX2_countHoles_32 : decode cX2_countHoles 32 = .ok (.iload_n 1, 1) := by decide +kernel
theorem dX2_countHoles_33 : decode cX2_countHoles 33 = .ok (.bipush 7, 2) := by decide +kernel
theorem dX2_countHoles_35 : decode cX2_countHoles 35 = .ok (.imul, 1) := by decide +kernel
theorem dX2_countHoles_36 : decode cX2_countHoles 36 = .ok (.iload 4, 2) := by decide +kernel
theorem dX2_countHoles_38 : decode cX2_countHoles 38 = .ok (.iadd, 1) := by decide +kernel
theorem dX2_countHoles_39 : decode cX2_countHoles 39 = .ok (.iload 5, 2) := by decide +kernel
theorem dX2_countHoles_41 : decode cX2_countHoles 41 = .ok (.aload_n 0, 1) := by decide +kernel
theorem dX2_countHoles_42 : decode cX2_countHoles 42 = .ok (.getfield 15, 3) := by decide +kernel
theorem dX2_countHoles_45 : decode cX2_countHoles 45 = .ok (.iload 4, 2) := by decide +kernel
theorem dX2_countHoles_47 : decode cX2_countHoles 47 = .ok (.iaload, 1) := by decide +kernel
theorem dX2_countHoles_48 : decode cX2_countHoles 48 = .ok (.isub, 1) := by decide +kernel
theorem dX2_countHoles_49 : decode cX2_countHoles 49 = .ok (.aload_n 0, 1) := by decide +kernel
theorem dX2_countHoles_50 : decode cX2_countHoles 50 = .ok (.getfield 15, 3) := by decide +kernel
theorem dX2_countHoles_53 : decode cX2_countHoles 53 = .ok (.iload 4, 2) := by decide +kernel
theorem dX2_countHoles_55 : decode cX2_countHoles 55 = .ok (.iconst 1, 1) := by decide +kernel
theorem dX2_countHoles_56 : decode cX2_countHoles 56 = .ok (.iadd, 1) := by decide +kernel
theorem dX2_countHoles_57 : decode cX2_countHoles 57 = .ok (.iaload, 1) := by decide +kernel
theorem dX2_countHoles_58 : decode cX2_countHoles 58 = .ok (.isub, 1) := by decide +kernel
theorem dX2_countHoles_59 : decode cX2_countHoles 59 = .ok (.iastore, 1) := by decide +kernel
theorem dX2_countHoles_60 : decode cX2_countHoles 60 = .ok (.iinc 4 1, 3) := by decide +kernel
theorem dX2_countHoles_63 : decode cX2_countHoles 63 = .ok (.goto (-54), 3) := by decide +kernel
theorem dX2_countHoles_66 : decode cX2_countHoles 66 = .ok (.return_, 1) := by decide +kernel
set_option maxRecDepth 20000 in
theorem ggX2_countBorders_X0_clear : GoodIn wsX2_countBorders wsX0_clear := goodIn_r _ [8, 9, 10, 11, 40, 41, 42, 43, 44] (by decide +kernel) (by decide +kernel)
set_option maxRecDepth 20000 in
theorem gX2_countBorders_X0_clear : GoodIn wsX2_countBorders (wsV RX2 61 RX0 yX0_clear wsX0_clear) := goodIn_app (goodIn_of _ (by decide +kernel)) ggX2_countBorders_X0_clear
set_option maxRecDepth 20000 in
theorem ggX2_countBorders_X6_holds : GoodIn wsX2_countBorders wsX6_holds := goodIn_r _ [15] (by decide +kernel) (by decide +kernel)
set_option maxRecDepth 20000 in
theorem gX2_countBorders_X6_holds : GoodIn wsX2_countBorders (va_wsS RX2 65 yX6_holds wsX6_holds) := goodIn_app (goodIn_of _ (by decide +kernel)) ggX2_countBorders_X6_holds
set_option maxRecDepth 20000 in
theorem ggX2_countBorders_X6_below : GoodIn wsX2_countBorders wsX6_below := goodIn_r _ [18, 19, 20, 14, 21] (by decide +kernel) (by decide +kernel)
set_option maxRecDepth 20000 in
theorem gX2_countBorders_X6_below : GoodIn wsX2_countBorders (va_wsS RX2 69 yX6_below wsX6_below) := goodIn_app (goodIn_of _ (by decide +kernel)) ggX2_countBorders_X6_below
set_option maxRecDepth 20000 in
theorem ggX2_countBorders_X0_add : GoodIn wsX2_countBorders wsX0_add := goodIn_r _ [25, 10, 11, 26, 27, 9, 40, 41, 42, 43, 44] (by decide +kernel) (by decide +kernel)
set_option maxRecDepth 20000 in
theorem gX2_countBorders_X0_add : GoodIn wsX2_countBorders (wsV RX2 72 RX0 yX0_add wsX0_add) := goodIn_app (goodIn_of _ (by decide +kernel)) ggX2_countBorders_X0_add
set_option maxRecDepth 20000 in
theorem ggX2_countBorders_J6_bitCount_0f7a4 : GoodIn wsX2_countBorders wsJ6_bitCount_0f7a4 := goodIn_r _ [31, 32, 33, 34] (by decide +kernel) (by decide +kernel)
set_option maxRecDepth 20000 in
theorem gX2_countBorders_J6_bitCount_0f7a4 : GoodIn wsX2_countBorders (va_wsS RX2 76 yJ6_bitCount_0f7a4 wsJ6_bitCount_0f7a4) := goodIn_app (goodIn_of _ (by decide +kernel)) ggX2_countBorders_J6_bitCount_0f7a4
theorem dX2_countBorders_0 : decode cX2_countBorders 0 = .ok (.iconst 0, 1) := by decide +kernel
theorem dX2_countBorders_1 : decode cX2_countBorders 1 = .ok (.istore 4, 2) := by decide +kernel
theorem dX2_countBorders_3 : decode cX2_countBorders 3 = .ok (.iload 4, 2) := by decide +kernel
theorem dX2_countBorders_5 : decode cX2_countBorders 5 = .ok (.bipush 7, 2) := by decide +kernel
theorem dX2_countBorders_7 : decode cX2_countBorders 7 = .ok (.if_icmp .gt 17, 3) := by decide +kernel
theorem dX2_countBorders_10 : decode cX2_countBorders 10 = .ok (.aload_n 0, 1) := by decide +kernel
theorem dX2_countBorders_11 : decode cX2_countBorders 11 = .ok (.getfield 15, 3) := by decide +kernel
theorem dX2_countBorders_14 : decode cX2_countBorders 14 = .ok (.iload 4, 2) := by decide +kernel
theorem dX2_countBorders_16 : decode cX2_countBorders 16 = .ok (.iconst 0, 1) := by decide +kernel
theorem dX2_countBorders_17 : decode cX2_countBorders 17 = .ok (.iastore, 1) := by decide +kernel
theorem dX2_countBorders_18 : decode cX2_countBorders 18 = .ok (.iinc 4 1, 3) := by decide +kernel
theorem dX2_countBorders_21 : decode cX2_countBorders 21 = .ok (.goto (-18), 3) := by decide +kernel
theorem dX2_countBorders_24 : decode cX2_countBorders 24 = .ok (.aload_n 0, 1) := by decide +kernel
theorem dX2_countBorders_25 : decode cX2_countBorders 25 = .ok (.getfield 21, 3) := by decide +kernel
theorem dX2_countBorders_28 : decode cX2_countBorders 28 = .ok (.ldc2_w 59, 3) := by decide +kernel
theorem dX2_countBorders_31 : decode cX2_countBorders 31 = .ok (.invokevirtual 61, 3) := by decide +kernel
theorem dX2_countBorders_34 : decode cX2_countBorders 34 = .ok (.iconst 1, 1) := by decide +kernel
theorem dX2_countBorders_35 : decode cX2_countBorders 35 = .ok (.istore 4, 2) := by decide +kernel
theorem dX2_countBorders_37 : decode cX2_countBorders 37 = .ok (.iload 4, 2) := by decide +kernel
theorem dX2_countBorders_39 : decode cX2_countBorders 39 = .ok (.iload_n 1, 1) := by decide +kernel
theorem dX2_countBorders_40 : decode cX2_countBorders 40 = .ok (.if_icmp .gt 54, 3) := by decide +kernel
theorem dX2_countBorders_43 : decode cX2_countBorders 43 = .ok (.iload 4, 2) := by decide +kernel
theorem dX2_countBorders_45 : decode cX2_countBorders 45 = .ok (.bipush 64, 2) := by decide +kernel
theorem dX2_countBorders_47 : decode cX2_countBorders 47 = .ok (.if_icmp .ge 47, 3) := by decide +kernel
theorem dX2_countBorders_50 : decode cX2_countBorders 50 = .ok (.lload_n 2, 1) := by decide +kernel
theorem dX2_countBorders_51 : decode cX2_countBorders 51 = .ok (.iload 4, 2) := by decide +kernel
theorem dX2_countBorders_53 : decode cX2_countBorders 53 = .ok (.invokestatic 65, 3) := by decide +kernel
theorem dX2_countBorders_56 : decode cX2_countBorders 56 = .ok (.ifCond .eq 32, 3) := by decide +kernel
theorem dX2_countBorders_59 : decode cX2_countBorders 59 = .ok (.aload_n 0, 1) := by decide +kernel
theorem dX2_countBorders_60 : decode cX2_countBorders 60 = .ok (.getfield 21, 3) := by decide +kernel
theorem dX2_countBorders_63 : decode cX2_countBorders 63 = .ok (.iload 4, 2) := by decide +kernel
theorem dX2_countBorders_65 : decode cX2_countBorders 65 = .ok (.invokestatic 69, 3) := by decide +kernel
theorem dX2_countBorders_68 : decode cX2_countBorders 68 = .ok (.invokevirtual 72, 3) := by decide +kernel
theorem dX2_countBorders_71 : decode cX2_countBorders 71 = .ok (.ifCond .eq 17, 3) := by decide +kernel
theorem dX2_countBorders_74 : decode cX2_countBorders 74 = .ok (.aload_n 0, 1) := by decide +kernel
theorem dX2_countBorders_75 : decode cX2_countBorders 75 = .ok (.getfield 15, 3) := by decide +kernel
theorem dX2_countBorders_78 : decode cX2_countBorders 78 = .ok (.iload 4, 2) := by decide +kernel
theorem dX2_countBorders_80 : decode cX2_countBorders 80 = .ok (.invokestatic 76, 3) := by decide +kernel
theorem dX2_countBorders_83 : decode cX2_countBorders 83 = .ok (.dup2, 1) := by decide +kernel
theorem dX2_countBorders_84 : decode cX2_countBorders 84 = .ok (.iaload, 1) := by decide +kernel
theorem dX2_countBorders_85 : decode cX2_countBorders 85 = .ok (.iconst 1, 1) := by decide +kernel
theorem dX2_countBorders_86 : decode cX2_countBorders 86 = .ok (.iadd, 1) := by decide +kernel
theorem dX2_countBorders_87 : decode cX2_countBorders 87 = .ok (.iastore, 1) := by decide +kernel
theorem dX2_countBorders_88 : decode cX2_countBorders 88 = .ok (.iinc 4 1, 3) := by decide +kernel
theorem dX2_countBorders_91 : decode cX2_countBorders 91 = .ok (.goto (-54), 3) := by decide +kernel
theorem dX2_countBorders_94 : decode cX2_countBorders 94 = .ok (.return_, 1) := by decide +kernel
set_option maxRecDepth 20000 in
theorem ggX3_init_X0_init : GoodIn wsX3_init wsX0_init := goodIn_r _ [16, 17, 2, 3, 9, 18, 19, 28, 29, 30, 31, 32] (by decide +kernel) (by decide +kernel)
set_option maxRecDepth 20000 in
theorem gX3_init_X0_init : GoodIn wsX3_init (wsX0_init) := ggX3_init_X0_init
theorem dX3_init_0 : decode cX3_init 0 = .ok (.aload_n 0, 1) := by decide +kernel
theorem dX3_init_1 : decode cX3_init 1 = .ok (.invokespecial 3, 3) := by decide +kernel
theorem dX3_init_4 : decode cX3_init 4 = .ok (.aload_n 0, 1) := by decide +kernel
theorem dX3_init_5 : decode cX3_init 5 = .ok (.aload_n 1, 1) := by decide +kernel
theorem dX3_init_6 : decode cX3_init 6 = .ok (.putfield 9, 3) := by decide +kernel
theorem dX3_init_9 : decode cX3_init 9 = .ok (.aload_n 0, 1) := by decide +kernel
theorem dX3_init_10 : decode cX3_init 10 = .ok (.new 15, 3) := by decide +kernel
theorem dX3_init_13 : decode cX3_init 13 = .ok (.dup, 1) := by decide +kernel
theorem dX3_init_14 : decode cX3_init 14 = .ok (.invokespecial 17, 3) := by decide +kernel
theorem dX3_init_17 : decode cX3_init 17 = .ok (.putfield 18, 3) := by decide +kernel
theorem dX3_init_20 : decode cX3_init 20 = .ok (.aload_n 0, 1) := by decide +kernel
theorem dX3_init_21 : decode cX3_init 21 = .ok (.bipush 64, 2) := by decide +kernel
theorem dX3_init_23 : decode cX3_init 23 = .ok (.newarray .long, 2) := by decide +kernel
theorem dX3_init_25 : decode cX3_init 25 = .ok (.putfield 22, 3) := by decide +kernel
theorem dX3_init_28 : decode cX3_init 28 = .ok (.aload_n 0, 1) := by decide +kernel
theorem dX3_init_29 : decode cX3_init 29 = .ok (.bipush 64, 2) := by decide +kernel
theorem dX3_init_31 : decode cX3_init 31 = .ok (.newarray .long, 2) := by decide +kernel
theorem dX3_init_33 : decode cX3_init 33 = .ok (.putfield 26, 3) := by decide +kernel
theorem dX3_init_36 : decode cX3_init 36 = .ok (.aload_n 0, 1) := by decide +kernel
theorem dX3_init_37 : decode cX3_init 37 = .ok (.iconst 5, 1) := by decide +kernel
theorem dX3_init_38 : decode cX3_init 38 = .ok (.newarray .int, 2) := by decide +kernel
theorem dX3_init_40 : decode cX3_init 40 = .ok (.putfield 29, 3) := by decide +kernel
theorem dX3_init_43 : decode cX3_init 43 = .ok (.return_, 1) := by decide +kernel
set_option maxRecDepth 20000 in
theorem ggX3_know_X2_know : GoodIn wsX3_know wsX2_know := goodIn_r _ [9, 10, 11, 12, 13, 14, 15, 16, 17, 18, 19, 20, 21, 8, 22, 23, 24, 25, 26, 27, 28, 29, 30, 31, 32, 33, 34, 35, 36, 37, 38, 39, 40, 41, 42, 43, 44, 45, 46, 47, 48, 49, 50, 51, 52, 53, 54, 55, 56, 57, 58, 59, 60, 61, 62, 63, 64, 65, 66, 67, 68, 125, 126, 127, 128, 129, 130, 131, 132, 133, 134] (by decide +kernel) (by decide +kernel)
set_option maxRecDepth 20000 in
theorem gX3_know_X2_know : GoodIn wsX3_know (wsV RX3 41 RX2 yX2_know wsX2_know) := goodIn_app (goodIn_of _ (by decide +kernel)) ggX3_know_X2_know
set_option maxRecDepth 20000 in
theorem ggX3_know_X3_seek : GoodIn wsX3_know wsX3_seek := goodIn_r _ [73, 74, 75, 76, 72, 77, 3, 78, 79, 80, 81, 8, 82, 23, 83, 84, 85, 86, 87, 88, 89, 90, 91, 92, 93, 13, 14, 15, 16, 17, 18, 94, 95, 96, 97, 98, 59, 60, 61, 99, 32, 33, 34, 35, 36, 37, 38, 100, 101, 102, 103, 40, 41, 104, 46, 47, 48, 49, 50, 105, 106, 107, 108, 109, 110, 111, 112, 113, 114, 115, 116, 117, 118, 119, 120, 121, 122, 123, 124, 125, 126, 127, 128, 129, 130, 131, 132, 133, 134] (by decide +kernel) (by decide +kernel)
set_option maxRecDepth 20000 in
theorem gX3_know_X3_seek : GoodIn wsX3_know (wsV RX3 47 RX3 yX3_seek wsX3_seek) := goodIn_app (goodIn_of _ (by decide +kernel)) ggX3_know_X3_seek
theorem dX3_know_0 : decode cX3_know 0 = .ok (.iload_n 1, 1) := by decide +kernel
theorem dX3_know_1 : decode cX3_know 1 = .ok (.aload_n 0, 1) := by decide +kernel
theorem dX3_know_2 : decode cX3_know 2 = .ok (.getfield 33, 3) := by decide +kernel
theorem dX3_know_5 : decode cX3_know 5 = .ok (.if_icmp .ne 13, 3) := by decide +kernel
theorem dX3_know_8 : decode cX3_know 8 = .ok (.lload_n 2, 1) := by decide +kernel
theorem dX3_know_9 : decode cX3_know 9 = .ok (.aload_n 0, 1) := by decide +kernel
theorem dX3_know_10 : decode cX3_know 10 = .ok (.getfield 37, 3) := by decide +kernel
theorem dX3_know_13 : decode cX3_know 13 = .ok (.lcmp, 1) := by decide +kernel
theorem dX3_know_14 : decode cX3_know 14 = .ok (.ifCond .ne 4, 3) := by decide +kernel
theorem dX3_know_17 : decode cX3_know 17 = .ok (.return_, 1) := by decide +kernel
theorem dX3_know_18 : decode cX3_know 18 = .ok (.aload_n 0, 1) := by decide +kernel
theorem dX3_know_19 : decode cX3_know 19 = .ok (.iload_n 1, 1) := by decide +kernel
theorem dX3_know_20 : decode cX3_know 20 = .ok (.putfield 33, 3) := by decide +kernel
theorem dX3_know_23 : decode cX3_know 23 = .ok (.aload_n 0, 1) := by decide +kernel
theorem dX3_know_24 : decode cX3_know 24 = .ok (.lload_n 2, 1) := by decide +kernel
theorem dX3_know_25 : decode cX3_know 25 = .ok (.putfield 37, 3) := by decide +kernel
theorem dX3_know_28 : decode cX3_know 28 = .ok (.aload_n 0, 1) := by decide +kernel
theorem dX3_know_29 : decode cX3_know 29 = .ok (.getfield 9, 3) := by decide +kernel
theorem dX3_know_32 : decode cX3_know 32 = .ok (.iload_n 1, 1) := by decide +kernel
theorem dX3_know_33 : decode cX3_know 33 = .ok (.lload_n 2, 1) := by decide +kernel
theorem dX3_know_34 : decode cX3_know 34 = .ok (.invokevirtual 41, 3) := by decide +kernel
theorem dX3_know_37 : decode cX3_know 37 = .ok (.aload_n 0, 1) := by decide +kernel
theorem dX3_know_38 : decode cX3_know 38 = .ok (.aload_n 0, 1) := by decide +kernel
theorem dX3_know_39 : decode cX3_know 39 = .ok (.iload_n 1, 1) := by decide +kernel
theorem dX3_know_40 : decode cX3_know 40 = .ok (.lload_n 2, 1) := by decide +kernel
theorem dX3_know_41 : decode cX3_know 41 = .ok (.invokevirtual 47, 3) := by decide +kernel
theorem dX3_know_44 : decode cX3_know 44 = .ok (.ifCond .ne 7, 3) := by decide +kernel
theorem dX3_know_47 : decode cX3_know 47 = .ok (.iconst 1, 1) := by decide +kernel
theorem dX3_know_48 : decode cX3_know 48 = .ok (.goto 4, 3) := by decide +kernel
theorem dX3_know_51 : decode cX3_know 51 = .ok (.iconst 0, 1) := by decide +kernel
theorem dX3_know_52 : decode cX3_know 52 = .ok (.putfield 51, 3) := by decide +kernel
theorem dX3_know_55 : decode cX3_know 55 = .ok (.return_, 1) := by decide +kernel
theorem dX3_arePlain_0 : decode cX3_arePlain 0 = .ok (.aload_n 0, 1) := by decide +kernel
theorem dX3_arePlain_1 : decode cX3_arePlain 1 = .ok (.getfield 51, 3) := by decide +kernel
theorem dX3_arePlain_4 : decode cX3_arePlain 4 = .ok (.ireturn, 1) := by decide +kernel
theorem dX3_told_0 : decode cX3_told 0 = .ok (.aload_n 0, 1) := by decide +kernel
theorem dX3_told_1 : decode cX3_told 1 = .ok (.getfield 51, 3) := by decide +kernel
theorem dX3_told_4 : decode cX3_told 4 = .ok (.ifCond .ne 12, 3) := by decide +kernel
theorem dX3_told_7 : decode cX3_told 7 = .ok (.iload_n 1, 1) := by decide +kernel
theorem dX3_told_8 : decode cX3_told 8 = .ok (.ifCond .lt 8, 3) := by decide +kernel
theorem dX3_told_11 : decode cX3_told 11 = .ok (.iload_n 1, 1) := by decide +kernel
theorem dX3_told_12 : decode cX3_told 12 = .ok (.iconst 5, 1) := by decide +kernel
theorem dX3_told_13 : decode cX3_told 13 = .ok (.if_icmp .lt 7, 3) := by decide +kernel
theorem dX3_told_16 : decode cX3_told 16 = .ok (.iconst (-1), 1) := by decide +kernel
theorem dX3_told_17 : decode cX3_told 17 = .ok (.goto 9, 3) := by decide +kernel
theorem dX3_told_20 : decode cX3_told 20 = .ok (.aload_n 0, 1) := by decide +kernel
theorem dX3_told_21 : decode cX3_told 21 = .ok (.getfield 29, 3) := by decide +kernel
theorem dX3_told_24 : decode cX3_told 24 = .ok (.iload_n 1, 1) := by decide +kernel
theorem dX3_told_25 : decode cX3_told 25 = .ok (.iaload, 1) := by decide +kernel
theorem dX3_told_26 : decode cX3_told 26 = .ok (.ireturn, 1) := by decide +kernel
set_option maxRecDepth 20000 in
theorem ggX3_seek_X3_seekIn : GoodIn wsX3_seek wsX3_seekIn := goodIn_r _ [5, 6, 7, 8, 9, 10, 11, 12, 13, 14, 15, 16, 17, 18, 19, 4, 20, 21, 22, 23, 24, 25, 26, 27, 28, 29, 30, 31, 32, 33, 34, 35, 36, 37, 38, 39, 40, 41, 42, 43, 44, 45, 46, 47, 48, 49, 50, 51, 52, 53, 54, 55, 56, 57, 58, 59, 60, 61, 62, 63, 64, 65, 66, 67, 68, 69, 70, 71, 72, 73, 74, 75, 76, 77, 78, 79, 80, 81, 82, 83, 84, 85, 86, 87, 88] (by decide +kernel) (by decide +kernel)
set_option maxRecDepth 20000 in
theorem gX3_seek_X3_seekIn : GoodIn wsX3_seek (wsV RX3 55 RX3 yX3_seekIn wsX3_seekIn) := goodIn_app (goodIn_of _ (by decide +kernel)) ggX3_seek_X3_seekIn
theorem dX3_seek_0 : decode cX3_seek 0 = .ok (.iconst 1, 1) := by decide +kernel
theorem dX3_seek_1 : decode cX3_seek 1 = .ok (.iload_n 1, 1) := by decide +kernel
theorem dX3_seek_2 : decode cX3_seek 2 = .ok (.ishl, 1) := by decide +kernel
theorem dX3_seek_3 : decode cX3_seek 3 = .ok (.istore 4, 2) := by decide +kernel
theorem dX3_seek_5 : decode cX3_seek 5 = .ok (.iconst 1, 1) := by decide +kernel
theorem dX3_seek_6 : decode cX3_seek 6 = .ok (.istore 5, 2) := by decide +kernel
theorem dX3_seek_8 : decode cX3_seek 8 = .ok (.iload 5, 2) := by decide +kernel
theorem dX3_seek_10 : decode cX3_seek 10 = .ok (.iload 4, 2) := by decide +kernel
theorem dX3_seek_12 : decode cX3_seek 12 = .ok (.if_icmp .ge 50, 3) := by decide +kernel
theorem dX3_seek_15 : decode cX3_seek 15 = .ok (.iload 5, 2) := by decide +kernel
theorem dX3_seek_17 : decode cX3_seek 17 = .ok (.iconst 1, 1) := by decide +kernel
theorem dX3_seek_18 : decode cX3_seek 18 = .ok (.iadd, 1) := by decide +kernel
theorem dX3_seek_19 : decode cX3_seek 19 = .ok (.istore 6, 2) := by decide +kernel
theorem dX3_seek_21 : decode cX3_seek 21 = .ok (.iload 6, 2) := by decide +kernel
theorem dX3_seek_23 : decode cX3_seek 23 = .ok (.iload 4, 2) := by decide +kernel
theorem dX3_seek_25 : decode cX3_seek 25 = .ok (.if_icmp .ge 31, 3) := by decide +kernel
theorem dX3_seek_28 : decode cX3_seek 28 = .ok (.iload 5, 2) := by decide +kernel
theorem dX3_seek_30 : decode cX3_seek 30 = .ok (.iload 6, 2) := by decide +kernel
theorem dX3_seek_32 : decode cX3_seek 32 = .ok (.iand, 1) := by decide +kernel
theorem dX3_seek_33 : decode cX3_seek 33 = .ok (.ifCond .ne 17, 3) := by decide +kernel
theorem dX3_seek_36 : decode cX3_seek 36 = .ok (.aload_n 0, 1) := by decide +kernel
theorem dX3_seek_37 : decode cX3_seek 37 = .ok (.lload_n 2, 1) := by decide +kernel
theorem dX3_seek_38 : decode cX3_seek 38 = .ok (.iload 5, 2) := by decide +kernel
theorem dX3_seek_40 : decode cX3_seek 40 = .ok (.iload 6, 2) := by decide +kernel
theorem dX3_seek_42 : decode cX3_seek 42 = .ok (.invokevirtual 55, 3) := by decide +kernel
theorem dX3_seek_45 : decode cX3_seek 45 = .ok (.ifCond .eq 5, 3) := by decide +kernel
theorem dX3_seek_48 : decode cX3_seek 48 = .ok (.iconst 1, 1) := by decide +kernel
theorem dX3_seek_49 : decode cX3_seek 49 = .ok (.ireturn, 1) := by decide +kernel
theorem dX3_seek_50 : decode cX3_seek 50 = .ok (.iinc 6 1, 3) := by decide +kernel
theorem dX3_seek_53 : decode cX3_seek 53 = .ok (.goto (-32), 3) := by decide +kernel
theorem dX3_seek_56 : decode cX3_seek 56 = .ok (.iinc 5 1, 3) := by decide +kernel
theorem dX3_seek_59 : decode cX3_seek 59 = .ok (.goto (-51), 3) := by decide +kernel
theorem dX3_seek_62 : decode cX3_seek 62 = .ok (.iconst 0, 1) := by decide +kernel
theorem dX3_seek_63 : decode cX3_seek 63 = .ok (.ireturn, 1) := by decide +kernel
set_option maxRecDepth 20000 in
theorem ggX3_seekIn_X2_holesOf : GoodIn wsX3_seekIn wsX2_holesOf := goodIn_r _ [7, 8, 9, 10, 6, 11, 75, 76, 77, 78, 79] (by decide +kernel) (by decide +kernel)
set_option maxRecDepth 20000 in
theorem gX3_seekIn_X2_holesOf : GoodIn wsX3_seekIn (wsV RX3 59 RX2 yX2_holesOf wsX2_holesOf) := goodIn_app (goodIn_of _ (by decide +kernel)) ggX3_seekIn_X2_holesOf
set_option maxRecDepth 20000 in
theorem ggX3_seekIn_X3_measure : GoodIn wsX3_seekIn wsX3_measure := goodIn_r _ [16, 1, 17, 18, 19, 3, 4, 5, 6, 7, 8, 9, 10, 11, 20, 21, 22, 23, 24, 25, 26, 27, 28, 29, 15, 30, 31, 32, 33, 34, 35, 36, 37, 38, 39, 40, 41, 42, 43, 44, 45, 46, 47, 48, 49, 50, 51, 52, 53, 54, 55, 56, 57, 58, 59, 60, 61, 62, 63, 64, 65, 66, 67, 68, 69, 70, 71, 72, 73, 74, 75, 76, 77, 78, 79, 80, 81, 82, 83, 84] (by decide +kernel) (by decide +kernel)
set_option maxRecDepth 20000 in
theorem gX3_seekIn_X3_measure : GoodIn wsX3_seekIn (wsV RX3 63 RX3 yX3_measure wsX3_measure) := goodIn_app (goodIn_of _ (by decide +kernel)) ggX3_seekIn_X3_measure
theorem dX3_seekIn_0 : decode cX3_seekIn 0 = .ok (.iconst 0, 1) := by decide +kernel
theorem dX3_seekIn_1 : decode cX3_seekIn 1 = .ok (.istore 5, 2) := by decide +kernel
theorem dX3_seekIn_3 : decode cX3_seekIn 3 = .ok (.iload 5, 2) := by decide +kernel
theorem dX3_seekIn_5 : decode cX3_seekIn 5 = .ok (.iconst 5, 1) := by decide +kernel
theorem dX3_seekIn_6 : decode cX3_seekIn 6 = .ok (.if_icmp .gt 97, 3) := by decide +kernel
theorem dX3_seekIn_9 : decode cX3_seekIn 9 = .ok (.iconst 0, 1) := by decide +kernel
theorem dX3_seekIn_10 : decode cX3_seekIn 10 = .ok (.istore 6, 2) := by decide +kernel
theorem dX3_seekIn_12 : decode cX3_seekIn 12 = .ok (.iload 6, 2) := by decide +kernel
theorem dX3_seekIn_14 : decode cX3_seekIn 14 = .ok (.iconst 5, 1) := by decide +kernel
theorem dX3_seekIn_15 : decode cX3_seekIn 15 = .ok (.if_icmp .gt 82, 3) := by decide +kernel
theorem dX3_seekIn_18 : decode cX3_seekIn 18 = .ok (.aload_n 0, 1) := by decide +kernel
theorem dX3_seekIn_19 : decode cX3_seekIn 19 = .ok (.getfield 9, 3) := by decide +kernel
theorem dX3_seekIn_22 : decode cX3_seekIn 22 = .ok (.iload_n 3, 1) := by decide +kernel
theorem dX3_seekIn_23 : decode cX3_seekIn 23 = .ok (.iload 5, 2) := by decide +kernel
theorem dX3_seekIn_25 : decode cX3_seekIn 25 = .ok (.invokevirtual 59, 3) := by decide +kernel
theorem dX3_seekIn_28 : decode cX3_seekIn 28 = .ok (.ifCond .le 69, 3) := by decide +kernel
theorem dX3_seekIn_31 : decode cX3_seekIn 31 = .ok (.aload_n 0, 1) := by decide +kernel
theorem dX3_seekIn_32 : decode cX3_seekIn 32 = .ok (.lload_n 1, 1) := by decide +kernel
theorem dX3_seekIn_33 : decode cX3_seekIn 33 = .ok (.iload_n 3, 1) := by decide +kernel
theorem dX3_seekIn_34 : decode cX3_seekIn 34 = .ok (.iload 4, 2) := by decide +kernel
theorem dX3_seekIn_36 : decode cX3_seekIn 36 = .ok (.iload 5, 2) := by decide +kernel
theorem dX3_seekIn_38 : decode cX3_seekIn 38 = .ok (.iload 6, 2) := by decide +kernel
theorem dX3_seekIn_40 : decode cX3_seekIn 40 = .ok (.invokevirtual 63, 3) := by decide +kernel
theorem dX3_seekIn_43 : decode cX3_seekIn 43 = .ok (.istore 7, 2) := by decide +kernel
theorem dX3_seekIn_45 : decode cX3_seekIn 45 = .ok (.iload 7, 2) := by decide +kernel
theorem dX3_seekIn_47 : decode cX3_seekIn 47 = .ok (.ifCond .le 44, 3) := by decide +kernel
theorem dX3_seekIn_50 : decode cX3_seekIn 50 = .ok (.aload_n 0, 1) := by decide +kernel
theorem dX3_seekIn_51 : decode cX3_seekIn 51 = .ok (.getfield 29, 3) := by decide +kernel
theorem dX3_seekIn_54 : decode cX3_seekIn 54 = .ok (.iconst 0, 1) := by decide +kernel
theorem dX3_seekIn_55 : decode cX3_seekIn 55 = .ok (.iload_n 3, 1) := by decide +kernel
theorem dX3_seekIn_56 : decode cX3_seekIn 56 = .ok (.iastore, 1) := by decide +kernel
theorem dX3_seekIn_57 : decode cX3_seekIn 57 = .ok (.aload_n 0, 1) := by decide +kernel
theorem dX3_seekIn_58 : decode cX3_seekIn 58 = .ok (.getfield 29, 3) := by decide +kernel
theorem dX3_seekIn_61 : decode cX3_seekIn 61 = .ok (.iconst 1, 1) := by decide +kernel
theorem dX3_seekIn_62 : decode cX3_seekIn 62 = .ok (.iload 4, 2) := by decide +kernel
theorem dX3_seekIn_64 : decode cX3_seekIn 64 = .ok (.iastore, 1) := by decide +kernel
theorem dX3_seekIn_65 : decode cX3_seekIn 65 = .ok (.aload_n 0, 1) := by decide +kernel
theorem dX3_seekIn_66 : decode cX3_seekIn 66 = .ok (.getfield 29, 3) := by decide +kernel
theorem dX3_seekIn_69 : decode cX3_seekIn 69 = .ok (.iconst 2, 1) := by decide +kernel
theorem dX3_seekIn_70 : decode cX3_seekIn 70 = .ok (.iload 5, 2) := by decide +kernel
theorem dX3_seekIn_72 : decode cX3_seekIn 72 = .ok (.iastore, 1) := by decide +kernel
theorem dX3_seekIn_73 : decode cX3_seekIn 73 = .ok (.aload_n 0, 1) := by decide +kernel
theorem dX3_seekIn_74 : decode cX3_seekIn 74 = .ok (.getfield 29, 3) := by decide +kernel
theorem dX3_seekIn_77 : decode cX3_seekIn 77 = .ok (.iconst 3, 1) := by decide +kernel
theorem dX3_seekIn_78 : decode cX3_seekIn 78 = .ok (.iload 6, 2) := by decide +kernel
theorem dX3_seekIn_80 : decode cX3_seekIn 80 = .ok (.iastore, 1) := by decide +kernel
theorem dX3_seekIn_81 : decode cX3_seekIn 81 = .ok (.aload_n 0, 1) := by decide +kernel
theorem dX3_seekIn_82 : decode cX3_seekIn 82 = .ok (.getfield 29, 3) := by decide +kernel
theorem dX3_seekIn_85 : decode cX3_seekIn 85 = .ok (.iconst 4, 1) := by decide +kernel
theorem dX3_seekIn_86 : decode cX3_seekIn 86 = .ok (.iload 7, 2) := by decide +kernel
theorem dX3_seekIn_88 : decode cX3_seekIn 88 = .ok (.iastore, 1) := by decide +kernel
theorem dX3_seekIn_89 : decode cX3_seekIn 89 = .ok (.iconst 1, 1) := by decide +kernel
theorem dX3_seekIn_90 : decode cX3_seekIn 90 = .ok (.ireturn, 1) := by decide +kernel
theorem dX3_seekIn_91 : decode cX3_seekIn 91 = .ok (.iinc 6 1, 3) := by decide +kernel
theorem dX3_seekIn_94 : decode cX3_seekIn 94 = .ok (.goto (-82), 3) := by decide +kernel
theorem dX3_seekIn_97 : decode cX3_seekIn 97 = .ok (.iinc 5 1, 3) := by decide +kernel
theorem dX3_seekIn_100 : decode cX3_seekIn 100 = .ok (.goto (-97), 3) := by decide +kernel
theorem dX3_seekIn_103 : decode cX3_seekIn 103 = .ok (.iconst 0, 1) := by decide +kernel
theorem dX3_seekIn_104 : decode cX3_seekIn 104 = .ok (.ireturn, 1) := by decide +kernel
set_option maxRecDepth 20000 in
theorem ggX3_measure_X2_holesOf : GoodIn wsX3_measure wsX2_holesOf := goodIn_r _ [9, 10, 11, 12, 8, 13, 70, 71, 72, 73, 74] (by decide +kernel) (by decide +kernel)
set_option maxRecDepth 20000 in
theorem gX3_measure_X2_holesOf : GoodIn wsX3_measure (wsV RX3 59 RX2 yX2_holesOf wsX2_holesOf) := goodIn_app (goodIn_of _ (by decide +kernel)) ggX3_measure_X2_holesOf
set_option maxRecDepth 20000 in
theorem ggX3_measure_X6_inside : GoodIn wsX3_measure wsX6_inside := goodIn_r _ [17, 18, 19, 16, 20] (by decide +kernel) (by decide +kernel)
set_option maxRecDepth 20000 in
theorem gX3_measure_X6_inside : GoodIn wsX3_measure (va_wsS RX3 67 yX6_inside wsX6_inside) := goodIn_app (goodIn_of _ (by decide +kernel)) ggX3_measure_X6_inside
set_option maxRecDepth 20000 in
theorem ggX3_measure_X3_fillClosed : GoodIn wsX3_measure wsX3_fillClosed := goodIn_r _ [25, 4, 26, 27, 16, 28, 29, 30, 31, 32, 33, 34, 35, 36, 37, 38, 39, 40, 18, 19, 20, 41, 42, 43, 44, 45, 46, 47, 48, 49, 50, 51, 52, 53, 62, 63, 64, 65, 66, 67, 68, 69, 75, 76, 77, 78, 79] (by decide +kernel) (by decide +kernel)
set_option maxRecDepth 20000 in
theorem gX3_measure_X3_fillClosed : GoodIn wsX3_measure (wsV RX3 73 RX3 yX3_fillClosed wsX3_fillClosed) := goodIn_app (goodIn_of _ (by decide +kernel)) ggX3_measure_X3_fillClosed
set_option maxRecDepth 20000 in
theorem ggX3_measure_X6_ofSize : GoodIn wsX3_measure wsX6_ofSize := goodIn_r _ [28, 29] (by decide +kernel) (by decide +kernel)
set_option maxRecDepth 20000 in
theorem gX3_measure_X6_ofSize : GoodIn wsX3_measure (va_wsS RX3 77 yX6_ofSize wsX6_ofSize) := goodIn_app (goodIn_of _ (by decide +kernel)) ggX3_measure_X6_ofSize
set_option maxRecDepth 20000 in
theorem ggX3_measure_X3_addRises : GoodIn wsX3_measure wsX3_addRises := goodIn_r _ [57, 4, 58, 30, 31, 32, 33, 34, 35, 36, 37, 41, 42, 16, 43, 38, 39, 40, 18, 19, 20, 44, 45, 46, 47, 48, 49, 62, 63, 64, 65, 66, 67, 68, 69, 75, 76, 77, 78, 79] (by decide +kernel) (by decide +kernel)
set_option maxRecDepth 20000 in
theorem gX3_measure_X3_addRises : GoodIn wsX3_measure (wsV RX3 80 RX3 yX3_addRises wsX3_addRises) := goodIn_app (goodIn_of _ (by decide +kernel)) ggX3_measure_X3_addRises
set_option maxRecDepth 20000 in
theorem ggX3_measure_X3_multiply : GoodIn wsX3_measure wsX3_multiply := goodIn_r _ [61, 41, 42, 16, 43] (by decide +kernel) (by decide +kernel)
set_option maxRecDepth 20000 in
theorem gX3_measure_X3_multiply : GoodIn wsX3_measure (va_wsS RX3 84 yX3_multiply wsX3_multiply) := goodIn_app (goodIn_of _ (by decide +kernel)) ggX3_measure_X3_multiply
set_option maxRecDepth 20000 in
theorem ggX3_measure_X0_add : GoodIn wsX3_measure wsX0_add := goodIn_r _ [47, 36, 37, 48, 49, 35, 75, 76, 77, 78, 79] (by decide +kernel) (by decide +kernel)
set_option maxRecDepth 20000 in
theorem gX3_measure_X0_add : GoodIn wsX3_measure (wsV RX3 88 RX0 yX0_add wsX0_add) := goodIn_app (goodIn_of _ (by decide +kernel)) ggX3_measure_X0_add
theorem dX3_measure_0 : decode cX3_measure 0 = .ok (.aload_n 0, 1) := by decide +kernel
theorem dX3_measure_1 : decode cX3_measure 1 = .ok (.getfield 9, 3) := by decide +kernel
theorem dX3_measure_4 : decode cX3_measure 4 = .ok (.iload_n 3, 1) := by decide +kernel
theorem dX3_measure_5 : decode cX3_measure 5 = .ok (.iload 5, 2) := by decide +kernel
theorem dX3_measure_7 : decode cX3_measure 7 = .ok (.invokevirtual 59, 3) := by decide +kernel
theorem dX3_measure_10 : decode cX3_measure 10 = .ok (.ifCond .eq 38, 3) := by decide +kernel
theorem dX3_measure_13 : decode cX3_measure 13 = .ok (.aload_n 0, 1) := by decide +kernel
theorem dX3_measure_14 : decode cX3_measure 14 = .ok (.getfield 9, 3) := by decide +kernel
theorem dX3_measure_17 : decode cX3_measure 17 = .ok (.iload 4, 2) := by decide +kernel
theorem dX3_measure_19 : decode cX3_measure 19 = .ok (.iload 6, 2) := by decide +kernel
theorem dX3_measure_21 : decode cX3_measure 21 = .ok (.invokevirtual 59, 3) := by decide +kernel
theorem dX3_measure_24 : decode cX3_measure 24 = .ok (.ifCond .eq 24, 3) := by decide +kernel
theorem dX3_measure_27 : decode cX3_measure 27 = .ok (.aload_n 0, 1) := by decide +kernel
theorem dX3_measure_28 : decode cX3_measure 28 = .ok (.getfield 9, 3) := by decide +kernel
theorem dX3_measure_31 : decode cX3_measure 31 = .ok (.iload_n 3, 1) := by decide +kernel
theorem dX3_measure_32 : decode cX3_measure 32 = .ok (.iload 4, 2) := by decide +kernel
theorem dX3_measure_34 : decode cX3_measure 34 = .ok (.ior, 1) := by decide +kernel
theorem dX3_measure_35 : decode cX3_measure 35 = .ok (.iload 5, 2) := by decide +kernel
theorem dX3_measure_37 : decode cX3_measure 37 = .ok (.iload 6, 2) := by decide +kernel
theorem dX3_measure_39 : decode cX3_measure 39 = .ok (.iadd, 1) := by decide +kernel
theorem dX3_measure_40 : decode cX3_measure 40 = .ok (.iconst 1, 1) := by decide +kernel
theorem dX3_measure_41 : decode cX3_measure 41 = .ok (.iadd, 1) := by decide +kernel
theorem dX3_measure_42 : decode cX3_measure 42 = .ok (.invokevirtual 59, 3) := by decide +kernel
theorem dX3_measure_45 : decode cX3_measure 45 = .ok (.ifCond .ne 5, 3) := by decide +kernel
theorem dX3_measure_48 : decode cX3_measure 48 = .ok (.iconst 0, 1) := by decide +kernel
theorem dX3_measure_49 : decode cX3_measure 49 = .ok (.ireturn, 1) := by decide +kernel
theorem dX3_measure_50 : decode cX3_measure 50 = .ok (.aload_n 0, 1) := by decide +kernel
theorem dX3_measure_51 : decode cX3_measure 51 = .ok (.aload_n 0, 1) := by decide +kernel
theorem dX3_measure_52 : decode cX3_measure 52 = .ok (.getfield 22, 3) := by decide +kernel
theorem dX3_measure_55 : decode cX3_measure 55 = .ok (.lload_n 1, 1) := by decide +kernel
theorem dX3_measure_56 : decode cX3_measure 56 = .ok (.iload_n 3, 1) := by decide +kernel
theorem dX3_measure_57 : decode cX3_measure 57 = .ok (.invokestatic 67, 3) := by decide +kernel
theorem dX3_measure_60 : decode cX3_measure 60 = .ok (.land, 1) := by decide +kernel
theorem dX3_measure_61 : decode cX3_measure 61 = .ok (.iload 5, 2) := by decide +kernel
theorem dX3_measure_63 : decode cX3_measure 63 = .ok (.invokevirtual 73, 3) := by decide +kernel
theorem dX3_measure_66 : decode cX3_measure 66 = .ok (.istore 7, 2) := by decide +kernel
theorem dX3_measure_68 : decode cX3_measure 68 = .ok (.aload_n 0, 1) := by decide +kernel
theorem dX3_measure_69 : decode cX3_measure 69 = .ok (.aload_n 0, 1) := by decide +kernel
theorem dX3_measure_70 : decode cX3_measure 70 = .ok (.getfield 26, 3) := by decide +kernel
theorem dX3_measure_73 : decode cX3_measure 73 = .ok (.lload_n 1, 1) := by decide +kernel
theorem dX3_measure_74 : decode cX3_measure 74 = .ok (.iload 4, 2) := by decide +kernel
theorem dX3_measure_76 : decode cX3_measure 76 = .ok (.invokestatic 67, 3) := by decide +kernel
theorem dX3_measure_79 : decode cX3_measure 79 = .ok (.land, 1) := by decide +kernel
theorem dX3_measure_80 : decode cX3_measure 80 = .ok (.iload 6, 2) := by decide +kernel
theorem dX3_measure_82 : decode cX3_measure 82 = .ok (.invokevirtual 73, 3) := by decide +kernel
theorem dX3_measure_85 : decode cX3_measure 85 = .ok (.istore 8, 2) := by decide +kernel
theorem dX3_measure_87 : decode cX3_measure 87 = .ok (.lload_n 1, 1) := by decide +kernel
theorem dX3_measure_88 : decode cX3_measure 88 = .ok (.iload_n 3, 1) := by decide +kernel
theorem dX3_measure_89 : decode cX3_measure 89 = .ok (.iload 4, 2) := by decide +kernel
theorem dX3_measure_91 : decode cX3_measure 91 = .ok (.ior, 1) := by decide +kernel
theorem dX3_measure_92 : decode cX3_measure 92 = .ok (.invokestatic 67, 3) := by decide +kernel
theorem dX3_measure_95 : decode cX3_measure 95 = .ok (.land, 1) := by decide +kernel
theorem dX3_measure_96 : decode cX3_measure 96 = .ok (.lstore 9, 2) := by decide +kernel
theorem dX3_measure_98 : decode cX3_measure 98 = .ok (.lload 9, 2) := by decide +kernel
theorem dX3_measure_100 : decode cX3_measure 100 = .ok (.iload 5, 2) := by decide +kernel
theorem dX3_measure_102 : decode cX3_measure 102 = .ok (.iload 6, 2) := by decide +kernel
theorem dX3_measure_104 : decode cX3_measure 104 = .ok (.iadd, 1) := by decide +kernel
theorem dX3_measure_105 : decode cX3_measure 105 = .ok (.iconst 2, 1) := by decide +kernel
theorem dX3_measure_106 : decode cX3_measure 106 = .ok (.iadd, 1) := by decide +kernel
theorem dX3_measure_107 : decode cX3_measure 107 = .ok (.invokestatic 77, 3) := by decide +kernel
theorem dX3_measure_110 : decode cX3_measure 110 = .ok (.land, 1) := by decide +kernel
theorem dX3_measure_111 : decode cX3_measure 111 = .ok (.lstore 11, 2) := by decide +kernel
theorem dX3_measure_113 : decode cX3_measure 113 = .ok (.aload_n 0, 1) := by decide +kernel
theorem dX3_measure_114 : decode cX3_measure 114 = .ok (.lload 9, 2) := by decide +kernel
theorem dX3_measure_116 : decode cX3_measure 116 = .ok (.iload 5, 2) := by decide +kernel
theorem dX3_measure_118 : decode cX3_measure 118 = .ok (.iload 6, 2) := by decide +kernel
theorem dX3_measure_120 : decode cX3_measure 120 = .ok (.iadd, 1) := by decide +kernel
theorem dX3_measure_121 : decode cX3_measure 121 = .ok (.iconst 1, 1) := by decide +kernel
theorem dX3_measure_122 : decode cX3_measure 122 = .ok (.iadd, 1) := by decide +kernel
theorem dX3_measure_123 : decode cX3_measure 123 = .ok (.invokestatic 77, 3) := by decide +kernel
theorem dX3_measure_126 : decode cX3_measure 126 = .ok (.land, 1) := by decide +kernel
theorem dX3_measure_127 : decode cX3_measure 127 = .ok (.lload 11, 2) := by decide +kernel
theorem dX3_measure_129 : decode cX3_measure 129 = .ok (.invokevirtual 80, 3) := by decide +kernel
theorem dX3_measure_132 : decode cX3_measure 132 = .ok (.iconst 0, 1) := by decide +kernel
theorem dX3_measure_133 : decode cX3_measure 133 = .ok (.istore 13, 2) := by decide +kernel
theorem dX3_measure_135 : decode cX3_measure 135 = .ok (.iconst 0, 1) := by decide +kernel
theorem dX3_measure_136 : decode cX3_measure 136 = .ok (.istore 14, 2) := by decide +kernel
theorem dX3_measure_138 : decode cX3_measure 138 = .ok (.iload 14, 2) := by decide +kernel
theorem dX3_measure_140 : decode cX3_measure 140 = .ok (.iload 7, 2) := by decide +kernel
theorem dX3_measure_142 : decode cX3_measure 142 = .ok (.if_icmp .ge 74, 3) := by decide +kernel
theorem dX3_measure_145 : decode cX3_measure 145 = .ok (.iload 14, 2) := by decide +kernel
theorem dX3_measure_147 : decode cX3_measure 147 = .ok (.bipush 64, 2) := by decide +kernel
theorem dX3_measure_149 : decode cX3_measure 149 = .ok (.if_icmp .ge 67, 3) := by decide +kernel
theorem dX3_measure_152 : decode cX3_measure 152 = .ok (.iconst 0, 1) := by decide +kernel
theorem dX3_measure_153 : decode cX3_measure 153 = .ok (.istore 15, 2) := by decide +kernel
theorem dX3_measure_155 : decode cX3_measure 155 = .ok (.iload 15, 2) := by decide +kernel
theorem dX3_measure_157 : decode cX3_measure 157 = .ok (.iload 8, 2) := by decide +kernel
theorem dX3_measure_159 : decode cX3_measure 159 = .ok (.if_icmp .ge 51, 3) := by decide +kernel
theorem dX3_measure_162 : decode cX3_measure 162 = .ok (.iload 15, 2) := by decide +kernel
theorem dX3_measure_164 : decode cX3_measure 164 = .ok (.bipush 64, 2) := by decide +kernel
theorem dX3_measure_166 : decode cX3_measure 166 = .ok (.if_icmp .ge 44, 3) := by decide +kernel
theorem dX3_measure_169 : decode cX3_measure 169 = .ok (.aload_n 0, 1) := by decide +kernel
theorem dX3_measure_170 : decode cX3_measure 170 = .ok (.getfield 18, 3) := by decide +kernel
theorem dX3_measure_173 : decode cX3_measure 173 = .ok (.lload 11, 2) := by decide +kernel
theorem dX3_measure_175 : decode cX3_measure 175 = .ok (.aload_n 0, 1) := by decide +kernel
theorem dX3_measure_176 : decode cX3_measure 176 = .ok (.getfield 22, 3) := by decide +kernel
theorem dX3_measure_179 : decode cX3_measure 179 = .ok (.iload 14, 2) := by decide +kernel
theorem dX3_measure_181 : decode cX3_measure 181 = .ok (.laload, 1) := by decide +kernel
theorem dX3_measure_182 : decode cX3_measure 182 = .ok (.iload_n 3, 1) := by decide +kernel
theorem dX3_measure_183 : decode cX3_measure 183 = .ok (.aload_n 0, 1) := by decide +kernel
theorem dX3_measure_184 : decode cX3_measure 184 = .ok (.getfield 26, 3) := by decide +kernel
theorem dX3_measure_187 : decode cX3_measure 187 = .ok (.iload 15, 2) := by decide +kernel
theorem dX3_measure_189 : decode cX3_measure 189 = .ok (.laload, 1) := by decide +kernel
theorem dX3_measure_190 : decode cX3_measure 190 = .ok (.iload 4, 2) := by decide +kernel
theorem dX3_measure_192 : decode cX3_measure 192 = .ok (.invokestatic 84, 3) := by decide +kernel
theorem dX3_measure_195 : decode cX3_measure 195 = .ok (.invokevirtual 88, 3) := by decide +kernel
theorem dX3_measure_198 : decode cX3_measure 198 = .ok (.ifCond .eq 6, 3) := by decide +kernel
theorem dX3_measure_201 : decode cX3_measure 201 = .ok (.iinc 13 1, 3) := by decide +kernel
theorem dX3_measure_204 : decode cX3_measure 204 = .ok (.iinc 15 1, 3) := by decide +kernel
theorem dX3_measure_207 : decode cX3_measure 207 = .ok (.goto (-52), 3) := by decide +kernel
theorem dX3_measure_210 : decode cX3_measure 210 = .ok (.iinc 14 1, 3) := by decide +kernel
theorem dX3_measure_213 : decode cX3_measure 213 = .ok (.goto (-75), 3) := by decide +kernel
theorem dX3_measure_216 : decode cX3_measure 216 = .ok (.iload 13, 2) := by decide +kernel
theorem dX3_measure_218 : decode cX3_measure 218 = .ok (.ireturn, 1) := by decide +kernel
set_option maxRecDepth 20000 in
theorem ggX3_fillClosed_X6_ofSize : GoodIn wsX3_fillClosed wsX6_ofSize := goodIn_r _ [5, 6] (by decide +kernel) (by decide +kernel)
set_option maxRecDepth 20000 in
theorem gX3_fillClosed_X6_ofSize : GoodIn wsX3_fillClosed (va_wsS RX3 77 yX6_ofSize wsX6_ofSize) := goodIn_app (goodIn_of _ (by decide +kernel)) ggX3_fillClosed_X6_ofSize
set_option maxRecDepth 20000 in
theorem ggX3_fillClosed_X0_clear : GoodIn wsX3_fillClosed wsX0_clear := goodIn_r _ [11, 12, 13, 14, 42, 43, 44, 45, 46] (by decide +kernel) (by decide +kernel)
set_option maxRecDepth 20000 in
theorem gX3_fillClosed_X0_clear : GoodIn wsX3_fillClosed (wsV RX3 92 RX0 yX0_clear wsX0_clear) := goodIn_app (goodIn_of _ (by decide +kernel)) ggX3_fillClosed_X0_clear
set_option maxRecDepth 20000 in
theorem ggX3_fillClosed_X6_above : GoodIn wsX3_fillClosed wsX6_above := goodIn_r _ [17, 18, 19, 4, 20] (by decide +kernel) (by decide +kernel)
set_option maxRecDepth 20000 in
theorem gX3_fillClosed_X6_above : GoodIn wsX3_fillClosed (va_wsS RX3 96 yX6_above wsX6_above) := goodIn_app (goodIn_of _ (by decide +kernel)) ggX3_fillClosed_X6_above
set_option maxRecDepth 20000 in
theorem ggX3_fillClosed_X6_holds : GoodIn wsX3_fillClosed wsX6_holds := goodIn_r _ [23] (by decide +kernel) (by decide +kernel)
set_option maxRecDepth 20000 in
theorem gX3_fillClosed_X6_holds : GoodIn wsX3_fillClosed (va_wsS RX3 99 yX6_holds wsX6_holds) := goodIn_app (goodIn_of _ (by decide +kernel)) ggX3_fillClosed_X6_holds
set_option maxRecDepth 20000 in
theorem ggX3_fillClosed_X0_add : GoodIn wsX3_fillClosed wsX0_add := goodIn_r _ [27, 13, 14, 28, 29, 12, 42, 43, 44, 45, 46] (by decide +kernel) (by decide +kernel)
set_option maxRecDepth 20000 in
theorem gX3_fillClosed_X0_add : GoodIn wsX3_fillClosed (wsV RX3 88 RX0 yX0_add wsX0_add) := goodIn_app (goodIn_of _ (by decide +kernel)) ggX3_fillClosed_X0_add
set_option maxRecDepth 20000 in
theorem ggX3_fillClosed_X0_remainder : GoodIn wsX3_fillClosed wsX0_remainder := goodIn_r _ [33, 13, 42, 43, 44, 45, 46] (by decide +kernel) (by decide +kernel)
set_option maxRecDepth 20000 in
theorem gX3_fillClosed_X0_remainder : GoodIn wsX3_fillClosed (wsV RX3 103 RX0 yX0_remainder wsX0_remainder) := goodIn_app (goodIn_of _ (by decide +kernel)) ggX3_fillClosed_X0_remainder
theorem dX3_fillClosed_0 : decode cX3_fillClosed 0 = .ok (.lload_n 2, 1) := by decide +kernel
theorem dX3_fillClosed_1 : decode cX3_fillClosed 1 = .ok (.iload 4, 2) := by decide +kernel
theorem dX3_fillClosed_3 : decode cX3_fillClosed 3 = .ok (.iconst 1, 1) := by decide +kernel
theorem dX3_fillClosed_4 : decode cX3_fillClosed 4 = .ok (.iadd, 1) := by decide +kernel
theorem dX3_fillClosed_5 : decode cX3_fillClosed 5 = .ok (.invokestatic 77, 3) := by decide +kernel
theorem dX3_fillClosed_8 : decode cX3_fillClosed 8 = .ok (.land, 1) := by decide +kernel
theorem dX3_fillClosed_9 : decode cX3_fillClosed 9 = .ok (.lstore 5, 2) := by decide +kernel
theorem dX3_fillClosed_11 : decode cX3_fillClosed 11 = .ok (.lload_n 2, 1) := by decide +kernel
theorem dX3_fillClosed_12 : decode cX3_fillClosed 12 = .ok (.iload 4, 2) := by decide +kernel
theorem dX3_fillClosed_14 : decode cX3_fillClosed 14 = .ok (.iconst 2, 1) := by decide +kernel
theorem dX3_fillClosed_15 : decode cX3_fillClosed 15 = .ok (.iadd, 1) := by decide +kernel
theorem dX3_fillClosed_16 : decode cX3_fillClosed 16 = .ok (.invokestatic 77, 3) := by decide +kernel
theorem dX3_fillClosed_19 : decode cX3_fillClosed 19 = .ok (.land, 1) := by decide +kernel
theorem dX3_fillClosed_20 : decode cX3_fillClosed 20 = .ok (.lstore 7, 2) := by decide +kernel
theorem dX3_fillClosed_22 : decode cX3_fillClosed 22 = .ok (.aload_n 0, 1) := by decide +kernel
theorem dX3_fillClosed_23 : decode cX3_fillClosed 23 = .ok (.getfield 18, 3) := by decide +kernel
theorem dX3_fillClosed_26 : decode cX3_fillClosed 26 = .ok (.lload 7, 2) := by decide +kernel
theorem dX3_fillClosed_28 : decode cX3_fillClosed 28 = .ok (.invokevirtual 92, 3) := by decide +kernel
theorem dX3_fillClosed_31 : decode cX3_fillClosed 31 = .ok (.iconst 0, 1) := by decide +kernel
theorem dX3_fillClosed_32 : decode cX3_fillClosed 32 = .ok (.istore 9, 2) := by decide +kernel
theorem dX3_fillClosed_34 : decode cX3_fillClosed 34 = .ok (.iconst 0, 1) := by decide +kernel
theorem dX3_fillClosed_35 : decode cX3_fillClosed 35 = .ok (.istore 10, 2) := by decide +kernel
theorem dX3_fillClosed_37 : decode cX3_fillClosed 37 = .ok (.iload 10, 2) := by decide +kernel
theorem dX3_fillClosed_39 : decode cX3_fillClosed 39 = .ok (.bipush 64, 2) := by decide +kernel
theorem dX3_fillClosed_41 : decode cX3_fillClosed 41 = .ok (.if_icmp .ge 67, 3) := by decide +kernel
theorem dX3_fillClosed_44 : decode cX3_fillClosed 44 = .ok (.lconst 1, 1) := by decide +kernel
theorem dX3_fillClosed_45 : decode cX3_fillClosed 45 = .ok (.iload 10, 2) := by decide +kernel
theorem dX3_fillClosed_47 : decode cX3_fillClosed 47 = .ok (.lshl, 1) := by decide +kernel
theorem dX3_fillClosed_48 : decode cX3_fillClosed 48 = .ok (.iload 10, 2) := by decide +kernel
theorem dX3_fillClosed_50 : decode cX3_fillClosed 50 = .ok (.invokestatic 96, 3) := by decide +kernel
theorem dX3_fillClosed_53 : decode cX3_fillClosed 53 = .ok (.lload 7, 2) := by decide +kernel
theorem dX3_fillClosed_55 : decode cX3_fillClosed 55 = .ok (.land, 1) := by decide +kernel
theorem dX3_fillClosed_56 : decode cX3_fillClosed 56 = .ok (.lor, 1) := by decide +kernel
theorem dX3_fillClosed_57 : decode cX3_fillClosed 57 = .ok (.lstore 11, 2) := by decide +kernel
theorem dX3_fillClosed_59 : decode cX3_fillClosed 59 = .ok (.lload 5, 2) := by decide +kernel
theorem dX3_fillClosed_61 : decode cX3_fillClosed 61 = .ok (.iload 10, 2) := by decide +kernel
theorem dX3_fillClosed_63 : decode cX3_fillClosed 63 = .ok (.invokestatic 99, 3) := by decide +kernel
theorem dX3_fillClosed_66 : decode cX3_fillClosed 66 = .ok (.ifCond .eq 36, 3) := by decide +kernel
theorem dX3_fillClosed_69 : decode cX3_fillClosed 69 = .ok (.aload_n 0, 1) := by decide +kernel
theorem dX3_fillClosed_70 : decode cX3_fillClosed 70 = .ok (.getfield 18, 3) := by decide +kernel
theorem dX3_fillClosed_73 : decode cX3_fillClosed 73 = .ok (.lload 11, 2) := by decide +kernel
theorem dX3_fillClosed_75 : decode cX3_fillClosed 75 = .ok (.invokevirtual 88, 3) := by decide +kernel
theorem dX3_fillClosed_78 : decode cX3_fillClosed 78 = .ok (.ifCond .ne 24, 3) := by decide +kernel
theorem dX3_fillClosed_81 : decode cX3_fillClosed 81 = .ok (.iload 9, 2) := by decide +kernel
theorem dX3_fillClosed_83 : decode cX3_fillClosed 83 = .ok (.aload_n 1, 1) := by decide +kernel
theorem dX3_fillClosed_84 : decode cX3_fillClosed 84 = .ok (.arraylength, 1) := by decide +kernel
theorem dX3_fillClosed_85 : decode cX3_fillClosed 85 = .ok (.if_icmp .ge 17, 3) := by decide +kernel
theorem dX3_fillClosed_88 : decode cX3_fillClosed 88 = .ok (.aload_n 1, 1) := by decide +kernel
theorem dX3_fillClosed_89 : decode cX3_fillClosed 89 = .ok (.iload 9, 2) := by decide +kernel
theorem dX3_fillClosed_91 : decode cX3_fillClosed 91 = .ok (.aload_n 0, 1) := by decide +kernel
theorem dX3_fillClosed_92 : decode cX3_fillClosed 92 = .ok (.getfield 18, 3) := by decide +kernel
theorem dX3_fillClosed_95 : decode cX3_fillClosed 95 = .ok (.invokevirtual 103, 3) := by decide +kernel
theorem dX3_fillClosed_98 : decode cX3_fillClosed 98 = .ok (.lastore, 1) := by decide +kernel
theorem dX3_fillClosed_99 : decode cX3_fillClosed 99 = .ok (.iinc 9 1, 3) := by decide +kernel
theorem dX3_fillClosed_102 : decode cX3_fillClosed 102 = .ok (.iinc 10 1, 3) := by decide +kernel
theorem dX3_fillClosed_105 : decode cX3_fillClosed 105 = .ok (.goto (-68), 3) := by decide +kernel
theorem dX3_fillClosed_108 : decode cX3_fillClosed 108 = .ok (.iload 9, 2) := by decide +kernel
theorem dX3_fillClosed_110 : decode cX3_fillClosed 110 = .ok (.ireturn, 1) := by decide +kernel
set_option maxRecDepth 20000 in
theorem ggX3_addRises_X0_clear : GoodIn wsX3_addRises wsX0_clear := goodIn_r _ [7, 8, 9, 10, 35, 36, 37, 38, 39] (by decide +kernel) (by decide +kernel)
set_option maxRecDepth 20000 in
theorem gX3_addRises_X0_clear : GoodIn wsX3_addRises (wsV RX3 92 RX0 yX0_clear wsX0_clear) := goodIn_app (goodIn_of _ (by decide +kernel)) ggX3_addRises_X0_clear
set_option maxRecDepth 20000 in
theorem ggX3_addRises_X6_holds : GoodIn wsX3_addRises wsX6_holds := goodIn_r _ [14] (by decide +kernel) (by decide +kernel)
set_option maxRecDepth 20000 in
theorem gX3_addRises_X6_holds : GoodIn wsX3_addRises (va_wsS RX3 99 yX6_holds wsX6_holds) := goodIn_app (goodIn_of _ (by decide +kernel)) ggX3_addRises_X6_holds
set_option maxRecDepth 20000 in
theorem ggX3_addRises_X6_above : GoodIn wsX3_addRises wsX6_above := goodIn_r _ [17, 18, 19, 13, 20] (by decide +kernel) (by decide +kernel)
set_option maxRecDepth 20000 in
theorem gX3_addRises_X6_above : GoodIn wsX3_addRises (va_wsS RX3 96 yX6_above wsX6_above) := goodIn_app (goodIn_of _ (by decide +kernel)) ggX3_addRises_X6_above
set_option maxRecDepth 20000 in
theorem ggX3_addRises_X0_add : GoodIn wsX3_addRises wsX0_add := goodIn_r _ [24, 9, 10, 25, 26, 8, 35, 36, 37, 38, 39] (by decide +kernel) (by decide +kernel)
set_option maxRecDepth 20000 in
theorem gX3_addRises_X0_add : GoodIn wsX3_addRises (wsV RX3 88 RX0 yX0_add wsX0_add) := goodIn_app (goodIn_of _ (by decide +kernel)) ggX3_addRises_X0_add
theorem dX3_addRises_0 : decode cX3_addRises 0 = .ok (.aload_n 0, 1) := by decide +kernel
theorem dX3_addRises_1 : decode cX3_addRises 1 = .ok (.getfield 18, 3) := by decide +kernel
theorem dX3_addRises_4 : decode cX3_addRises 4 = .ok (.ldc2_w 107, 3) := by decide +kernel
theorem dX3_addRises_7 : decode cX3_addRises 7 = .ok (.invokevirtual 92, 3) := by decide +kernel
theorem dX3_addRises_10 : decode cX3_addRises 10 = .ok (.iconst 0, 1) := by decide +kernel
theorem dX3_addRises_11 : decode cX3_addRises 11 = .ok (.istore 5, 2) := by decide +kernel
theorem dX3_addRises_13 : decode cX3_addRises 13 = .ok (.iload 5, 2) := by decide +kernel
theorem dX3_addRises_15 : decode cX3_addRises 15 = .ok (.bipush 64, 2) := by decide +kernel
theorem dX3_addRises_17 : decode cX3_addRises 17 = .ok (.if_icmp .ge 33, 3) := by decide +kernel
theorem dX3_addRises_20 : decode cX3_addRises 20 = .ok (.lload_n 1, 1) := by decide +kernel
theorem dX3_addRises_21 : decode cX3_addRises 21 = .ok (.iload 5, 2) := by decide +kernel
theorem dX3_addRises_23 : decode cX3_addRises 23 = .ok (.invokestatic 99, 3) := by decide +kernel
theorem dX3_addRises_26 : decode cX3_addRises 26 = .ok (.ifCond .eq 18, 3) := by decide +kernel
theorem dX3_addRises_29 : decode cX3_addRises 29 = .ok (.aload_n 0, 1) := by decide +kernel
theorem dX3_addRises_30 : decode cX3_addRises 30 = .ok (.getfield 18, 3) := by decide +kernel
theorem dX3_addRises_33 : decode cX3_addRises 33 = .ok (.iload 5, 2) := by decide +kernel
theorem dX3_addRises_35 : decode cX3_addRises 35 = .ok (.invokestatic 96, 3) := by decide +kernel
theorem dX3_addRises_38 : decode cX3_addRises 38 = .ok (.lload_n 3, 1) := by decide +kernel
theorem dX3_addRises_39 : decode cX3_addRises 39 = .ok (.land, 1) := by decide +kernel
theorem dX3_addRises_40 : decode cX3_addRises 40 = .ok (.invokevirtual 88, 3) := by decide +kernel
theorem dX3_addRises_43 : decode cX3_addRises 43 = .ok (.pop, 1) := by decide +kernel
theorem dX3_addRises_44 : decode cX3_addRises 44 = .ok (.iinc 5 1, 3) := by decide +kernel
theorem dX3_addRises_47 : decode cX3_addRises 47 = .ok (.goto (-34), 3) := by decide +kernel
theorem dX3_addRises_50 : decode cX3_addRises 50 = .ok (.return_, 1) := by decide +kernel
set_option maxRecDepth 20000 in
theorem ggX3_multiply_X6_holds : GoodIn wsX3_multiply wsX6_holds := goodIn_r _ [4] (by decide +kernel) (by decide +kernel)
set_option maxRecDepth 20000 in
theorem gX3_multiply_X6_holds : GoodIn wsX3_multiply (va_wsS RX3 99 yX6_holds wsX6_holds) := goodIn_app (goodIn_of _ (by decide +kernel)) ggX3_multiply_X6_holds
theorem dX3_multiply_0 : decode cX3_multiply 0 = .ok (.lconst 0, 1) := by decide +kernel
theorem dX3_multiply_1 : decode cX3_multiply 1 = .ok (.lstore 8, 2) := by decide +kernel
theorem dX3_multiply_3 : decode cX3_multiply 3 = .ok (.iconst 0, 1) := by decide +kernel
theorem dX3_multiply_4 : decode cX3_multiply 4 = .ok (.istore 10, 2) := by decide +kernel
theorem dX3_multiply_6 : decode cX3_multiply 6 = .ok (.iload 10, 2) := by decide +kernel
theorem dX3_multiply_8 : decode cX3_multiply 8 = .ok (.bipush 64, 2) := by decide +kernel
theorem dX3_multiply_10 : decode cX3_multiply 10 = .ok (.if_icmp .ge 52, 3) := by decide +kernel
theorem dX3_multiply_13 : decode cX3_multiply 13 = .ok (.lload_n 0, 1) := by decide +kernel
theorem dX3_multiply_14 : decode cX3_multiply 14 = .ok (.iload 10, 2) := by decide +kernel
theorem dX3_multiply_16 : decode cX3_multiply 16 = .ok (.invokestatic 99, 3) := by decide +kernel
theorem dX3_multiply_19 : decode cX3_multiply 19 = .ok (.ifCond .eq 37, 3) := by decide +kernel
theorem dX3_multiply_22 : decode cX3_multiply 22 = .ok (.lload_n 2, 1) := by decide +kernel
theorem dX3_multiply_23 : decode cX3_multiply 23 = .ok (.iload 10, 2) := by decide +kernel
theorem dX3_multiply_25 : decode cX3_multiply 25 = .ok (.iload 4, 2) := by decide +kernel
theorem dX3_multiply_27 : decode cX3_multiply 27 = .ok (.iand, 1) := by decide +kernel
theorem dX3_multiply_28 : decode cX3_multiply 28 = .ok (.invokestatic 99, 3) := by decide +kernel
theorem dX3_multiply_31 : decode cX3_multiply 31 = .ok (.ifCond .eq 25, 3) := by decide +kernel
theorem dX3_multiply_34 : decode cX3_multiply 34 = .ok (.lload 5, 2) := by decide +kernel
theorem dX3_multiply_36 : decode cX3_multiply 36 = .ok (.iload 10, 2) := by decide +kernel
theorem dX3_multiply_38 : decode cX3_multiply 38 = .ok (.iload 7, 2) := by decide +kernel
theorem dX3_multiply_40 : decode cX3_multiply 40 = .ok (.iand, 1) := by decide +kernel
theorem dX3_multiply_41 : decode cX3_multiply 41 = .ok (.invokestatic 99, 3) := by decide +kernel
theorem dX3_multiply_44 : decode cX3_multiply 44 = .ok (.ifCond .eq 12, 3) := by decide +kernel
theorem dX3_multiply_47 : decode cX3_multiply 47 = .ok (.lload 8, 2) := by decide +kernel
theorem dX3_multiply_49 : decode cX3_multiply 49 = .ok (.lconst 1, 1) := by decide +kernel
theorem dX3_multiply_50 : decode cX3_multiply 50 = .ok (.iload 10, 2) := by decide +kernel
theorem dX3_multiply_52 : decode cX3_multiply 52 = .ok (.lshl, 1) := by decide +kernel
theorem dX3_multiply_53 : decode cX3_multiply 53 = .ok (.lor, 1) := by decide +kernel
theorem dX3_multiply_54 : decode cX3_multiply 54 = .ok (.lstore 8, 2) := by decide +kernel
theorem dX3_multiply_56 : decode cX3_multiply 56 = .ok (.iinc 10 1, 3) := by decide +kernel
theorem dX3_multiply_59 : decode cX3_multiply 59 = .ok (.goto (-53), 3) := by decide +kernel
theorem dX3_multiply_62 : decode cX3_multiply 62 = .ok (.lload 8, 2) := by decide +kernel
theorem dX3_multiply_64 : decode cX3_multiply 64 = .ok (.lreturn, 1) := by decide +kernel
theorem dX4_init_0 : decode cX4_init 0 = .ok (.aload_n 0, 1) := by decide +kernel
theorem dX4_init_1 : decode cX4_init 1 = .ok (.invokespecial 3, 3) := by decide +kernel
theorem dX4_init_4 : decode cX4_init 4 = .ok (.aload_n 0, 1) := by decide +kernel
theorem dX4_init_5 : decode cX4_init 5 = .ok (.lconst 1, 1) := by decide +kernel
theorem dX4_init_6 : decode cX4_init 6 = .ok (.putfield 9, 3) := by decide +kernel
theorem dX4_init_9 : decode cX4_init 9 = .ok (.return_, 1) := by decide +kernel
theorem dX4_toldPoints_0 : decode cX4_toldPoints 0 = .ok (.aload_n 0, 1) := by decide +kernel
theorem dX4_toldPoints_1 : decode cX4_toldPoints 1 = .ok (.getfield 15, 3) := by decide +kernel
theorem dX4_toldPoints_4 : decode cX4_toldPoints 4 = .ok (.ireturn, 1) := by decide +kernel
theorem dX4_toldFamily_0 : decode cX4_toldFamily 0 = .ok (.aload_n 0, 1) := by decide +kernel
theorem dX4_toldFamily_1 : decode cX4_toldFamily 1 = .ok (.getfield 9, 3) := by decide +kernel
theorem dX4_toldFamily_4 : decode cX4_toldFamily 4 = .ok (.lreturn, 1) := by decide +kernel
set_option maxRecDepth 20000 in
theorem ggX4_parse_X4_behindBlanks : GoodIn wsX4_parse wsX4_behindBlanks := goodIn_r _ [5, 6, 7, 8, 9, 10, 11, 12, 13, 14, 15, 16, 17, 18, 4, 19, 34, 35] (by decide +kernel) (by decide +kernel)
set_option maxRecDepth 20000 in
theorem gX4_parse_X4_behindBlanks : GoodIn wsX4_parse (va_wsS RX4 19 yX4_behindBlanks wsX4_behindBlanks) := goodIn_app (goodIn_of _ (by decide +kernel)) ggX4_parse_X4_behindBlanks
set_option maxRecDepth 20000 in
theorem ggX4_parse_X5_at : GoodIn wsX4_parse wsX5_at := goodIn_r _ [15, 11, 16, 34, 35] (by decide +kernel) (by decide +kernel)
set_option maxRecDepth 20000 in
theorem gX4_parse_X5_at : GoodIn wsX4_parse (wsV RX4 23 RX5 yX5_at wsX5_at) := goodIn_app (goodIn_of _ (by decide +kernel)) ggX4_parse_X5_at
set_option maxRecDepth 20000 in
theorem ggX4_parse_X4_parseFaces : GoodIn wsX4_parse wsX4_parseFaces := goodIn_r _ [23, 24, 1, 6, 7, 8, 9, 10, 11, 12, 13, 14, 15, 16, 17, 18, 4, 19, 25, 26, 27, 28, 29, 30, 31, 32, 33, 34, 35] (by decide +kernel) (by decide +kernel)
set_option maxRecDepth 20000 in
theorem gX4_parse_X4_parseFaces : GoodIn wsX4_parse (wsV RX4 29 RX4 yX4_parseFaces wsX4_parseFaces) := goodIn_app (goodIn_of _ (by decide +kernel)) ggX4_parse_X4_parseFaces
theorem dX4_parse_0 : decode cX4_parse 0 = .ok (.aload_n 1, 1) := by decide +kernel
theorem dX4_parse_1 : decode cX4_parse 1 = .ok (.iconst 0, 1) := by decide +kernel
theorem dX4_parse_2 : decode cX4_parse 2 = .ok (.invokestatic 19, 3) := by decide +kernel
theorem dX4_parse_5 : decode cX4_parse 5 = .ok (.istore_n 2, 1) := by decide +kernel
theorem dX4_parse_6 : decode cX4_parse 6 = .ok (.aload_n 1, 1) := by decide +kernel
theorem dX4_parse_7 : decode cX4_parse 7 = .ok (.iload_n 2, 1) := by decide +kernel
theorem dX4_parse_8 : decode cX4_parse 8 = .ok (.invokevirtual 23, 3) := by decide +kernel
theorem dX4_parse_11 : decode cX4_parse 11 = .ok (.bipush 48, 2) := by decide +kernel
theorem dX4_parse_13 : decode cX4_parse 13 = .ok (.isub, 1) := by decide +kernel
theorem dX4_parse_14 : decode cX4_parse 14 = .ok (.istore_n 3, 1) := by decide +kernel
theorem dX4_parse_15 : decode cX4_parse 15 = .ok (.iload_n 3, 1) := by decide +kernel
theorem dX4_parse_16 : decode cX4_parse 16 = .ok (.iconst 1, 1) := by decide +kernel
theorem dX4_parse_17 : decode cX4_parse 17 = .ok (.if_icmp .lt 9, 3) := by decide +kernel
theorem dX4_parse_20 : decode cX4_parse 20 = .ok (.iload_n 3, 1) := by decide +kernel
theorem dX4_parse_21 : decode cX4_parse 21 = .ok (.bipush 6, 2) := by decide +kernel
theorem dX4_parse_23 : decode cX4_parse 23 = .ok (.if_icmp .le 5, 3) := by decide +kernel
theorem dX4_parse_26 : decode cX4_parse 26 = .ok (.iload_n 2, 1) := by decide +kernel
theorem dX4_parse_27 : decode cX4_parse 27 = .ok (.ireturn, 1) := by decide +kernel
theorem dX4_parse_28 : decode cX4_parse 28 = .ok (.aload_n 1, 1) := by decide +kernel
theorem dX4_parse_29 : decode cX4_parse 29 = .ok (.iload_n 2, 1) := by decide +kernel
theorem dX4_parse_30 : decode cX4_parse 30 = .ok (.iconst 1, 1) := by decide +kernel
theorem dX4_parse_31 : decode cX4_parse 31 = .ok (.iadd, 1) := by decide +kernel
theorem dX4_parse_32 : decode cX4_parse 32 = .ok (.invokestatic 19, 3) := by decide +kernel
theorem dX4_parse_35 : decode cX4_parse 35 = .ok (.istore_n 2, 1) := by decide +kernel
theorem dX4_parse_36 : decode cX4_parse 36 = .ok (.aload_n 1, 1) := by decide +kernel
theorem dX4_parse_37 : decode cX4_parse 37 = .ok (.iload_n 2, 1) := by decide +kernel
theorem dX4_parse_38 : decode cX4_parse 38 = .ok (.invokevirtual 23, 3) := by decide +kernel
theorem dX4_parse_41 : decode cX4_parse 41 = .ok (.bipush 58, 2) := by decide +kernel
theorem dX4_parse_43 : decode cX4_parse 43 = .ok (.if_icmp .eq 5, 3) := by decide +kernel
theorem dX4_parse_46 : decode cX4_parse 46 = .ok (.iload_n 2, 1) := by decide +kernel
theorem dX4_parse_47 : decode cX4_parse 47 = .ok (.ireturn, 1) := by decide +kernel
theorem dX4_parse_48 : decode cX4_parse 48 = .ok (.aload_n 0, 1) := by decide +kernel
theorem dX4_parse_49 : decode cX4_parse 49 = .ok (.iload_n 3, 1) := by decide +kernel
theorem dX4_parse_50 : decode cX4_parse 50 = .ok (.putfield 15, 3) := by decide +kernel
theorem dX4_parse_53 : decode cX4_parse 53 = .ok (.aload_n 0, 1) := by decide +kernel
theorem dX4_parse_54 : decode cX4_parse 54 = .ok (.aload_n 1, 1) := by decide +kernel
theorem dX4_parse_55 : decode cX4_parse 55 = .ok (.iload_n 2, 1) := by decide +kernel
theorem dX4_parse_56 : decode cX4_parse 56 = .ok (.iconst 1, 1) := by decide +kernel
theorem dX4_parse_57 : decode cX4_parse 57 = .ok (.iadd, 1) := by decide +kernel
theorem dX4_parse_58 : decode cX4_parse 58 = .ok (.invokevirtual 29, 3) := by decide +kernel
theorem dX4_parse_61 : decode cX4_parse 61 = .ok (.ireturn, 1) := by decide +kernel
set_option maxRecDepth 20000 in
theorem ggX4_parseFaces_X5_size : GoodIn wsX4_parseFaces wsX5_size := goodIn_r _ [7, 8, 27, 28] (by decide +kernel) (by decide +kernel)
set_option maxRecDepth 20000 in
theorem gX4_parseFaces_X5_size : GoodIn wsX4_parseFaces (wsV RX4 32 RX5 yX5_size wsX5_size) := goodIn_app (goodIn_of _ (by decide +kernel)) ggX4_parseFaces_X5_size
set_option maxRecDepth 20000 in
theorem ggX4_parseFaces_X5_at : GoodIn wsX4_parseFaces wsX5_at := goodIn_r _ [12, 8, 13, 27, 28] (by decide +kernel) (by decide +kernel)
set_option maxRecDepth 20000 in
theorem gX4_parseFaces_X5_at : GoodIn wsX4_parseFaces (wsV RX4 23 RX5 yX5_at wsX5_at) := goodIn_app (goodIn_of _ (by decide +kernel)) ggX4_parseFaces_X5_at
set_option maxRecDepth 20000 in
theorem ggX4_parseFaces_X4_isBlank : GoodIn wsX4_parseFaces wsX4_isBlank := goodIn_r _ [17] (by decide +kernel) (by decide +kernel)
set_option maxRecDepth 20000 in
theorem gX4_parseFaces_X4_isBlank : GoodIn wsX4_parseFaces (va_wsS RX4 36 yX4_isBlank wsX4_isBlank) := goodIn_app (goodIn_of _ (by decide +kernel)) ggX4_parseFaces_X4_isBlank
set_option maxRecDepth 20000 in
theorem ggX4_parseFaces_X6_inside : GoodIn wsX4_parseFaces wsX6_inside := goodIn_r _ [21, 22, 23, 20, 24] (by decide +kernel) (by decide +kernel)
set_option maxRecDepth 20000 in
theorem gX4_parseFaces_X6_inside : GoodIn wsX4_parseFaces (va_wsS RX4 40 yX6_inside wsX6_inside) := goodIn_app (goodIn_of _ (by decide +kernel)) ggX4_parseFaces_X6_inside
theorem dX4_parseFaces_0 : decode cX4_parseFaces 0 = .ok (.aload_n 0, 1) := by decide +kernel
theorem dX4_parseFaces_1 : decode cX4_parseFaces 1 = .ok (.lconst 1, 1) := by decide +kernel
theorem dX4_parseFaces_2 : decode cX4_parseFaces 2 = .ok (.putfield 9, 3) := by decide +kernel
theorem dX4_parseFaces_5 : decode cX4_parseFaces 5 = .ok (.iconst (-1), 1) := by decide +kernel
theorem dX4_parseFaces_6 : decode cX4_parseFaces 6 = .ok (.istore_n 3, 1) := by decide +kernel
theorem dX4_parseFaces_7 : decode cX4_parseFaces 7 = .ok (.iconst 0, 1) := by decide +kernel
theorem dX4_parseFaces_8 : decode cX4_parseFaces 8 = .ok (.istore 4, 2) := by decide +kernel
theorem dX4_parseFaces_10 : decode cX4_parseFaces 10 = .ok (.iload_n 2, 1) := by decide +kernel
theorem dX4_parseFaces_11 : decode cX4_parseFaces 11 = .ok (.istore 5, 2) := by decide +kernel
theorem dX4_parseFaces_13 : decode cX4_parseFaces 13 = .ok (.iload 5, 2) := by decide +kernel
theorem dX4_parseFaces_15 : decode cX4_parseFaces 15 = .ok (.aload_n 1, 1) := by decide +kernel
theorem dX4_parseFaces_16 : decode cX4_parseFaces 16 = .ok (.invokevirtual 32, 3) := by decide +kernel
theorem dX4_parseFaces_19 : decode cX4_parseFaces 19 = .ok (.if_icmp .ge 84, 3) := by decide +kernel
theorem dX4_parseFaces_22 : decode cX4_parseFaces 22 = .ok (.aload_n 1, 1) := by decide +kernel
theorem dX4_parseFaces_23 : decode cX4_parseFaces 23 = .ok (.iload 5, 2) := by decide +kernel
theorem dX4_parseFaces_25 : decode cX4_parseFaces 25 = .ok (.invokevirtual 23, 3) := by decide +kernel
theorem dX4_parseFaces_28 : decode cX4_parseFaces 28 = .ok (.istore 6, 2) := by decide +kernel
theorem dX4_parseFaces_30 : decode cX4_parseFaces 30 = .ok (.iload 6, 2) := by decide +kernel
theorem dX4_parseFaces_32 : decode cX4_parseFaces 32 = .ok (.invokestatic 36, 3) := by decide +kernel
theorem dX4_parseFaces_35 : decode cX4_parseFaces 35 = .ok (.ifCond .eq 25, 3) := by decide +kernel
theorem dX4_parseFaces_38 : decode cX4_parseFaces 38 = .ok (.aload_n 0, 1) := by decide +kernel
theorem dX4_parseFaces_39 : decode cX4_parseFaces 39 = .ok (.dup, 1) := by decide +kernel
theorem dX4_parseFaces_40 : decode cX4_parseFaces 40 = .ok (.getfield 9, 3) := by decide +kernel
theorem dX4_parseFaces_43 : decode cX4_parseFaces 43 = .ok (.iload 4, 2) := by decide +kernel
theorem dX4_parseFaces_45 : decode cX4_parseFaces 45 = .ok (.invokestatic 40, 3) := by decide +kernel
theorem dX4_parseFaces_48 : decode cX4_parseFaces 48 = .ok (.lor, 1) := by decide +kernel
theorem dX4_parseFaces_49 : decode cX4_parseFaces 49 = .ok (.putfield 9, 3) := by decide +kernel
theorem dX4_parseFaces_52 : decode cX4_parseFaces 52 = .ok (.iconst (-1), 1) := by decide +kernel
theorem dX4_parseFaces_53 : decode cX4_parseFaces 53 = .ok (.istore_n 3, 1) := by decide +kernel
theorem dX4_parseFaces_54 : decode cX4_parseFaces 54 = .ok (.iconst 0, 1) := by decide +kernel
theorem dX4_parseFaces_55 : decode cX4_parseFaces 55 = .ok (.istore 4, 2) := by decide +kernel
theorem dX4_parseFaces_57 : decode cX4_parseFaces 57 = .ok (.goto 40, 3) := by decide +kernel
theorem dX4_parseFaces_60 : decode cX4_parseFaces 60 = .ok (.iload 6, 2) := by decide +kernel
theorem dX4_parseFaces_62 : decode cX4_parseFaces 62 = .ok (.bipush 48, 2) := by decide +kernel
theorem dX4_parseFaces_64 : decode cX4_parseFaces 64 = .ok (.isub, 1) := by decide +kernel
theorem dX4_parseFaces_65 : decode cX4_parseFaces 65 = .ok (.istore 7, 2) := by decide +kernel
theorem dX4_parseFaces_67 : decode cX4_parseFaces 67 = .ok (.iload 7, 2) := by decide +kernel
theorem dX4_parseFaces_69 : decode cX4_parseFaces 69 = .ok (.iload_n 3, 1) := by decide +kernel
theorem dX4_parseFaces_70 : decode cX4_parseFaces 70 = .ok (.if_icmp .le 12, 3) := by decide +kernel
theorem dX4_parseFaces_73 : decode cX4_parseFaces 73 = .ok (.iload 7, 2) := by decide +kernel
theorem dX4_parseFaces_75 : decode cX4_parseFaces 75 = .ok (.aload_n 0, 1) := by decide +kernel
theorem dX4_parseFaces_76 : decode cX4_parseFaces 76 = .ok (.getfield 15, 3) := by decide +kernel
theorem dX4_parseFaces_79 : decode cX4_parseFaces 79 = .ok (.if_icmp .lt 6, 3) := by decide +kernel
theorem dX4_parseFaces_82 : decode cX4_parseFaces 82 = .ok (.iload 5, 2) := by decide +kernel
theorem dX4_parseFaces_84 : decode cX4_parseFaces 84 = .ok (.ireturn, 1) := by decide +kernel
theorem dX4_parseFaces_85 : decode cX4_parseFaces 85 = .ok (.iload 4, 2) := by decide +kernel
theorem dX4_parseFaces_87 : decode cX4_parseFaces 87 = .ok (.iconst 1, 1) := by decide +kernel
theorem dX4_parseFaces_88 : decode cX4_parseFaces 88 = .ok (.iload 7, 2) := by decide +kernel
theorem dX4_parseFaces_90 : decode cX4_parseFaces 90 = .ok (.ishl, 1) := by decide +kernel
theorem dX4_parseFaces_91 : decode cX4_parseFaces 91 = .ok (.ior, 1) := by decide +kernel
theorem dX4_parseFaces_92 : decode cX4_parseFaces 92 = .ok (.istore 4, 2) := by decide +kernel
theorem dX4_parseFaces_94 : decode cX4_parseFaces 94 = .ok (.iload 7, 2) := by decide +kernel
theorem dX4_parseFaces_96 : decode cX4_parseFaces 96 = .ok (.istore_n 3, 1) := by decide +kernel
theorem dX4_parseFaces_97 : decode cX4_parseFaces 97 = .ok (.iinc 5 1, 3) := by decide +kernel
theorem dX4_parseFaces_100 : decode cX4_parseFaces 100 = .ok (.goto (-87), 3) := by decide +kernel
theorem dX4_parseFaces_103 : decode cX4_parseFaces 103 = .ok (.aload_n 0, 1) := by decide +kernel
theorem dX4_parseFaces_104 : decode cX4_parseFaces 104 = .ok (.dup, 1) := by decide +kernel
theorem dX4_parseFaces_105 : decode cX4_parseFaces 105 = .ok (.getfield 9, 3) := by decide +kernel
theorem dX4_parseFaces_108 : decode cX4_parseFaces 108 = .ok (.iload 4, 2) := by decide +kernel
theorem dX4_parseFaces_110 : decode cX4_parseFaces 110 = .ok (.invokestatic 40, 3) := by decide +kernel
theorem dX4_parseFaces_113 : decode cX4_parseFaces 113 = .ok (.lor, 1) := by decide +kernel
theorem dX4_parseFaces_114 : decode cX4_parseFaces 114 = .ok (.putfield 9, 3) := by decide +kernel
theorem dX4_parseFaces_117 : decode cX4_parseFaces 117 = .ok (.iconst (-1), 1) := by decide +kernel
theorem dX4_parseFaces_118 : decode cX4_parseFaces 118 = .ok (.ireturn, 1) := by decide +kernel
set_option maxRecDepth 20000 in
theorem ggX4_behindBlanks_X5_size : GoodIn wsX4_behindBlanks wsX5_size := goodIn_r _ [5, 6, 16, 17] (by decide +kernel) (by decide +kernel)
set_option maxRecDepth 20000 in
theorem gX4_behindBlanks_X5_size : GoodIn wsX4_behindBlanks (wsV RX4 32 RX5 yX5_size wsX5_size) := goodIn_app (goodIn_of _ (by decide +kernel)) ggX4_behindBlanks_X5_size
set_option maxRecDepth 20000 in
theorem ggX4_behindBlanks_X5_at : GoodIn wsX4_behindBlanks wsX5_at := goodIn_r _ [10, 6, 11, 16, 17] (by decide +kernel) (by decide +kernel)
set_option maxRecDepth 20000 in
theorem gX4_behindBlanks_X5_at : GoodIn wsX4_behindBlanks (wsV RX4 23 RX5 yX5_at wsX5_at) := goodIn_app (goodIn_of _ (by decide +kernel)) ggX4_behindBlanks_X5_at
set_option maxRecDepth 20000 in
theorem ggX4_behindBlanks_X4_isBlank : GoodIn wsX4_behindBlanks wsX4_isBlank := goodIn_r _ [15] (by decide +kernel) (by decide +kernel)
set_option maxRecDepth 20000 in
theorem gX4_behindBlanks_X4_isBlank : GoodIn wsX4_behindBlanks (va_wsS RX4 36 yX4_isBlank wsX4_isBlank) := goodIn_app (goodIn_of _ (by decide +kernel)) ggX4_behindBlanks_X4_isBlank
theorem dX4_behindBlanks_0 : decode cX4_behindBlanks 0 = .ok (.iload_n 1, 1) := by decide +kernel
theorem dX4_behindBlanks_1 : decode cX4_behindBlanks 1 = .ok (.istore_n 2, 1) := by decide +kernel
theorem dX4_behindBlanks_2 : decode cX4_behindBlanks 2 = .ok (.iload_n 2, 1) := by decide +kernel
theorem dX4_behindBlanks_3 : decode cX4_behindBlanks 3 = .ok (.aload_n 0, 1) := by decide +kernel
theorem dX4_behindBlanks_4 : decode cX4_behindBlanks 4 = .ok (.invokevirtual 32, 3) := by decide +kernel
theorem dX4_behindBlanks_7 : decode cX4_behindBlanks 7 = .ok (.if_icmp .ge 22, 3) := by decide +kernel
theorem dX4_behindBlanks_10 : decode cX4_behindBlanks 10 = .ok (.aload_n 0, 1) := by decide +kernel
theorem dX4_behindBlanks_11 : decode cX4_behindBlanks 11 = .ok (.iload_n 2, 1) := by decide +kernel
theorem dX4_behindBlanks_12 : decode cX4_behindBlanks 12 = .ok (.invokevirtual 23, 3) := by decide +kernel
theorem dX4_behindBlanks_15 : decode cX4_behindBlanks 15 = .ok (.invokestatic 36, 3) := by decide +kernel
theorem dX4_behindBlanks_18 : decode cX4_behindBlanks 18 = .ok (.ifCond .ne 5, 3) := by decide +kernel
theorem dX4_behindBlanks_21 : decode cX4_behindBlanks 21 = .ok (.iload_n 2, 1) := by decide +kernel
theorem dX4_behindBlanks_22 : decode cX4_behindBlanks 22 = .ok (.ireturn, 1) := by decide +kernel
theorem dX4_behindBlanks_23 : decode cX4_behindBlanks 23 = .ok (.iinc 2 1, 3) := by decide +kernel
theorem dX4_behindBlanks_26 : decode cX4_behindBlanks 26 = .ok (.goto (-24), 3) := by decide +kernel
theorem dX4_behindBlanks_29 : decode cX4_behindBlanks 29 = .ok (.aload_n 0, 1) := by decide +kernel
theorem dX4_behindBlanks_30 : decode cX4_behindBlanks 30 = .ok (.invokevirtual 32, 3) := by decide +kernel
theorem dX4_behindBlanks_33 : decode cX4_behindBlanks 33 = .ok (.ireturn, 1) := by decide +kernel
theorem dX4_isBlank_0 : decode cX4_isBlank 0 = .ok (.iload_n 0, 1) := by decide +kernel
theorem dX4_isBlank_1 : decode cX4_isBlank 1 = .ok (.bipush 32, 2) := by decide +kernel
theorem dX4_isBlank_3 : decode cX4_isBlank 3 = .ok (.if_icmp .eq 9, 3) := by decide +kernel
theorem dX4_isBlank_6 : decode cX4_isBlank 6 = .ok (.iload_n 0, 1) := by decide +kernel
theorem dX4_isBlank_7 : decode cX4_isBlank 7 = .ok (.bipush 10, 2) := by decide +kernel
theorem dX4_isBlank_9 : decode cX4_isBlank 9 = .ok (.if_icmp .ne 7, 3) := by decide +kernel
theorem dX4_isBlank_12 : decode cX4_isBlank 12 = .ok (.iconst 1, 1) := by decide +kernel
theorem dX4_isBlank_13 : decode cX4_isBlank 13 = .ok (.goto 4, 3) := by decide +kernel
theorem dX4_isBlank_16 : decode cX4_isBlank 16 = .ok (.iconst 0, 1) := by decide +kernel
theorem dX4_isBlank_17 : decode cX4_isBlank 17 = .ok (.ireturn, 1) := by decide +kernel
theorem dX5_init_0 : decode cX5_init 0 = .ok (.aload_n 0, 1) := by decide +kernel
theorem dX5_init_1 : decode cX5_init 1 = .ok (.invokespecial 3, 3) := by decide +kernel
theorem dX5_init_4 : decode cX5_init 4 = .ok (.aload_n 0, 1) := by decide +kernel
theorem dX5_init_5 : decode cX5_init 5 = .ok (.sipush 200, 3) := by decide +kernel
theorem dX5_init_8 : decode cX5_init 8 = .ok (.newarray .int, 2) := by decide +kernel
theorem dX5_init_10 : decode cX5_init 10 = .ok (.putfield 9, 3) := by decide +kernel
theorem dX5_init_13 : decode cX5_init 13 = .ok (.return_, 1) := by decide +kernel
theorem dX5_size_0 : decode cX5_size 0 = .ok (.aload_n 0, 1) := by decide +kernel
theorem dX5_size_1 : decode cX5_size 1 = .ok (.getfield 15, 3) := by decide +kernel
theorem dX5_size_4 : decode cX5_size 4 = .ok (.ireturn, 1) := by decide +kernel
theorem dX5_at_0 : decode cX5_at 0 = .ok (.iload_n 1, 1) := by decide +kernel
theorem dX5_at_1 : decode cX5_at 1 = .ok (.ifCond .lt 27, 3) := by decide +kernel
theorem dX5_at_4 : decode cX5_at 4 = .ok (.iload_n 1, 1) := by decide +kernel
theorem dX5_at_5 : decode cX5_at 5 = .ok (.aload_n 0, 1) := by decide +kernel
theorem dX5_at_6 : decode cX5_at 6 = .ok (.getfield 15, 3) := by decide +kernel
theorem dX5_at_9 : decode cX5_at 9 = .ok (.if_icmp .ge 19, 3) := by decide +kernel
theorem dX5_at_12 : decode cX5_at 12 = .ok (.iload_n 1, 1) := by decide +kernel
theorem dX5_at_13 : decode cX5_at 13 = .ok (.sipush 200, 3) := by decide +kernel
theorem dX5_at_16 : decode cX5_at 16 = .ok (.if_icmp .ge 12, 3) := by decide +kernel
theorem dX5_at_19 : decode cX5_at 19 = .ok (.aload_n 0, 1) := by decide +kernel
theorem dX5_at_20 : decode cX5_at 20 = .ok (.getfield 9, 3) := by decide +kernel
theorem dX5_at_23 : decode cX5_at 23 = .ok (.iload_n 1, 1) := by decide +kernel
theorem dX5_at_24 : decode cX5_at 24 = .ok (.iaload, 1) := by decide +kernel
theorem dX5_at_25 : decode cX5_at 25 = .ok (.goto 4, 3) := by decide +kernel
theorem dX5_at_28 : decode cX5_at 28 = .ok (.iconst (-1), 1) := by decide +kernel
theorem dX5_at_29 : decode cX5_at 29 = .ok (.ireturn, 1) := by decide +kernel
theorem dX5_add_0 : decode cX5_add 0 = .ok (.aload_n 0, 1) := by decide +kernel
theorem dX5_add_1 : decode cX5_add 1 = .ok (.getfield 15, 3) := by decide +kernel
theorem dX5_add_4 : decode cX5_add 4 = .ok (.ifCond .lt 37, 3) := by decide +kernel
theorem dX5_add_7 : decode cX5_add 7 = .ok (.aload_n 0, 1) := by decide +kernel
theorem dX5_add_8 : decode cX5_add 8 = .ok (.getfield 15, 3) := by decide +kernel
theorem dX5_add_11 : decode cX5_add 11 = .ok (.sipush 200, 3) := by decide +kernel
theorem dX5_add_14 : decode cX5_add 14 = .ok (.if_icmp .ge 27, 3) := by decide +kernel
theorem dX5_add_17 : decode cX5_add 17 = .ok (.aload_n 0, 1) := by decide +kernel
theorem dX5_add_18 : decode cX5_add 18 = .ok (.getfield 9, 3) := by decide +kernel
theorem dX5_add_21 : decode cX5_add 21 = .ok (.aload_n 0, 1) := by decide +kernel
theorem dX5_add_22 : decode cX5_add 22 = .ok (.getfield 15, 3) := by decide +kernel
theorem dX5_add_25 : decode cX5_add 25 = .ok (.iload_n 1, 1) := by decide +kernel
theorem dX5_add_26 : decode cX5_add 26 = .ok (.sipush 255, 3) := by decide +kernel
theorem dX5_add_29 : decode cX5_add 29 = .ok (.iand, 1) := by decide +kernel
theorem dX5_add_30 : decode cX5_add 30 = .ok (.iastore, 1) := by decide +kernel
theorem dX5_add_31 : decode cX5_add 31 = .ok (.aload_n 0, 1) := by decide +kernel
theorem dX5_add_32 : decode cX5_add 32 = .ok (.dup, 1) := by decide +kernel
theorem dX5_add_33 : decode cX5_add 33 = .ok (.getfield 15, 3) := by decide +kernel
theorem dX5_add_36 : decode cX5_add 36 = .ok (.iconst 1, 1) := by decide +kernel
theorem dX5_add_37 : decode cX5_add 37 = .ok (.iadd, 1) := by decide +kernel
theorem dX5_add_38 : decode cX5_add 38 = .ok (.putfield 15, 3) := by decide +kernel
theorem dX5_add_41 : decode cX5_add 41 = .ok (.return_, 1) := by decide +kernel
set_option maxRecDepth 20000 in
theorem ggX5_addNumber_X5_add : GoodIn wsX5_addNumber wsX5_add := goodIn_r _ [5, 6, 7, 8, 9] (by decide +kernel) (by decide +kernel)
set_option maxRecDepth 20000 in
theorem gX5_addNumber_X5_add : GoodIn wsX5_addNumber (wsV RX5 19 RX5 yX5_add wsX5_add) := goodIn_app (goodIn_of _ (by decide +kernel)) ggX5_addNumber_X5_add
theorem dX5_addNumber_0 : decode cX5_addNumber 0 = .ok (.aload_n 0, 1) := by decide +kernel
theorem dX5_addNumber_1 : decode cX5_addNumber 1 = .ok (.iload_n 1, 1) := by decide +kernel
theorem dX5_addNumber_2 : decode cX5_addNumber 2 = .ok (.bipush 24, 2) := by decide +kernel
theorem dX5_addNumber_4 : decode cX5_addNumber 4 = .ok (.iushr, 1) := by decide +kernel
theorem dX5_addNumber_5 : decode cX5_addNumber 5 = .ok (.invokevirtual 19, 3) := by decide +kernel
theorem dX5_addNumber_8 : decode cX5_addNumber 8 = .ok (.aload_n 0, 1) := by decide +kernel
theorem dX5_addNumber_9 : decode cX5_addNumber 9 = .ok (.iload_n 1, 1) := by decide +kernel
theorem dX5_addNumber_10 : decode cX5_addNumber 10 = .ok (.bipush 16, 2) := by decide +kernel
theorem dX5_addNumber_12 : decode cX5_addNumber 12 = .ok (.iushr, 1) := by decide +kernel
theorem dX5_addNumber_13 : decode cX5_addNumber 13 = .ok (.invokevirtual 19, 3) := by decide +kernel
theorem dX5_addNumber_16 : decode cX5_addNumber 16 = .ok (.aload_n 0, 1) := by decide +kernel
theorem dX5_addNumber_17 : decode cX5_addNumber 17 = .ok (.iload_n 1, 1) := by decide +kernel
theorem dX5_addNumber_18 : decode cX5_addNumber 18 = .ok (.bipush 8, 2) := by decide +kernel
theorem dX5_addNumber_20 : decode cX5_addNumber 20 = .ok (.iushr, 1) := by decide +kernel
theorem dX5_addNumber_21 : decode cX5_addNumber 21 = .ok (.invokevirtual 19, 3) := by decide +kernel
theorem dX5_addNumber_24 : decode cX5_addNumber 24 = .ok (.aload_n 0, 1) := by decide +kernel
theorem dX5_addNumber_25 : decode cX5_addNumber 25 = .ok (.iload_n 1, 1) := by decide +kernel
theorem dX5_addNumber_26 : decode cX5_addNumber 26 = .ok (.invokevirtual 19, 3) := by decide +kernel
theorem dX5_addNumber_29 : decode cX5_addNumber 29 = .ok (.return_, 1) := by decide +kernel
set_option maxRecDepth 20000 in
theorem ggX5_addDigitsOf_X6_hasPoint : GoodIn wsX5_addDigitsOf wsX6_hasPoint := goodIn_r _ [4] (by decide +kernel) (by decide +kernel)
set_option maxRecDepth 20000 in
theorem gX5_addDigitsOf_X6_hasPoint : GoodIn wsX5_addDigitsOf (va_wsS RX5 23 yX6_hasPoint wsX6_hasPoint) := goodIn_app (goodIn_of _ (by decide +kernel)) ggX5_addDigitsOf_X6_hasPoint
set_option maxRecDepth 20000 in
theorem ggX5_addDigitsOf_X5_add : GoodIn wsX5_addDigitsOf wsX5_add := goodIn_r _ [9, 10, 11, 12, 13] (by decide +kernel) (by decide +kernel)
set_option maxRecDepth 20000 in
theorem gX5_addDigitsOf_X5_add : GoodIn wsX5_addDigitsOf (wsV RX5 19 RX5 yX5_add wsX5_add) := goodIn_app (goodIn_of _ (by decide +kernel)) ggX5_addDigitsOf_X5_add
theorem dX5_addDigitsOf_0 : decode cX5_addDigitsOf 0 = .ok (.iconst 0, 1) := by decide +kernel
theorem dX5_addDigitsOf_1 : decode cX5_addDigitsOf 1 = .ok (.istore_n 2, 1) := by decide +kernel
theorem dX5_addDigitsOf_2 : decode cX5_addDigitsOf 2 = .ok (.iload_n 2, 1) := by decide +kernel
theorem dX5_addDigitsOf_3 : decode cX5_addDigitsOf 3 = .ok (.bipush 6, 2) := by decide +kernel
theorem dX5_addDigitsOf_5 : decode cX5_addDigitsOf 5 = .ok (.if_icmp .ge 25, 3) := by decide +kernel
theorem dX5_addDigitsOf_8 : decode cX5_addDigitsOf 8 = .ok (.iload_n 1, 1) := by decide +kernel
theorem dX5_addDigitsOf_9 : decode cX5_addDigitsOf 9 = .ok (.iload_n 2, 1) := by decide +kernel
theorem dX5_addDigitsOf_10 : decode cX5_addDigitsOf 10 = .ok (.invokestatic 23, 3) := by decide +kernel
theorem dX5_addDigitsOf_13 : decode cX5_addDigitsOf 13 = .ok (.ifCond .eq 11, 3) := by decide +kernel
theorem dX5_addDigitsOf_16 : decode cX5_addDigitsOf 16 = .ok (.aload_n 0, 1) := by decide +kernel
theorem dX5_addDigitsOf_17 : decode cX5_addDigitsOf 17 = .ok (.bipush 48, 2) := by decide +kernel
theorem dX5_addDigitsOf_19 : decode cX5_addDigitsOf 19 = .ok (.iload_n 2, 1) := by decide +kernel
theorem dX5_addDigitsOf_20 : decode cX5_addDigitsOf 20 = .ok (.iadd, 1) := by decide +kernel
theorem dX5_addDigitsOf_21 : decode cX5_addDigitsOf 21 = .ok (.invokevirtual 19, 3) := by decide +kernel
theorem dX5_addDigitsOf_24 : decode cX5_addDigitsOf 24 = .ok (.iinc 2 1, 3) := by decide +kernel
theorem dX5_addDigitsOf_27 : decode cX5_addDigitsOf 27 = .ok (.goto (-25), 3) := by decide +kernel
theorem dX5_addDigitsOf_30 : decode cX5_addDigitsOf 30 = .ok (.return_, 1) := by decide +kernel
theorem dX5_shorten_0 : decode cX5_shorten 0 = .ok (.iload_n 1, 1) := by decide +kernel
theorem dX5_shorten_1 : decode cX5_shorten 1 = .ok (.ifCond .lt 16, 3) := by decide +kernel
theorem dX5_shorten_4 : decode cX5_shorten 4 = .ok (.iload_n 1, 1) := by decide +kernel
theorem dX5_shorten_5 : decode cX5_shorten 5 = .ok (.aload_n 0, 1) := by decide +kernel
theorem dX5_shorten_6 : decode cX5_shorten 6 = .ok (.getfield 15, 3) := by decide +kernel
theorem dX5_shorten_9 : decode cX5_shorten 9 = .ok (.if_icmp .gt 8, 3) := by decide +kernel
theorem dX5_shorten_12 : decode cX5_shorten 12 = .ok (.aload_n 0, 1) := by decide +kernel
theorem dX5_shorten_13 : decode cX5_shorten 13 = .ok (.iload_n 1, 1) := by decide +kernel
theorem dX5_shorten_14 : decode cX5_shorten 14 = .ok (.putfield 15, 3) := by decide +kernel
theorem dX5_shorten_17 : decode cX5_shorten 17 = .ok (.return_, 1) := by decide +kernel
theorem dX6_holds_0 : decode cX6_holds 0 = .ok (.iload_n 2, 1) := by decide +kernel
theorem dX6_holds_1 : decode cX6_holds 1 = .ok (.ifCond .lt 23, 3) := by decide +kernel
theorem dX6_holds_4 : decode cX6_holds 4 = .ok (.iload_n 2, 1) := by decide +kernel
theorem dX6_holds_5 : decode cX6_holds 5 = .ok (.bipush 64, 2) := by decide +kernel
theorem dX6_holds_7 : decode cX6_holds 7 = .ok (.if_icmp .ge 17, 3) := by decide +kernel
theorem dX6_holds_10 : decode cX6_holds 10 = .ok (.lload_n 0, 1) := by decide +kernel
theorem dX6_holds_11 : decode cX6_holds 11 = .ok (.iload_n 2, 1) := by decide +kernel
theorem dX6_holds_12 : decode cX6_holds 12 = .ok (.lushr, 1) := by decide +kernel
theorem dX6_holds_13 : decode cX6_holds 13 = .ok (.lconst 1, 1) := by decide +kernel
theorem dX6_holds_14 : decode cX6_holds 14 = .ok (.land, 1) := by decide +kernel
theorem dX6_holds_15 : decode cX6_holds 15 = .ok (.lconst 0, 1) := by decide +kernel
theorem dX6_holds_16 : decode cX6_holds 16 = .ok (.lcmp, 1) := by decide +kernel
theorem dX6_holds_17 : decode cX6_holds 17 = .ok (.ifCond .eq 7, 3) := by decide +kernel
theorem dX6_holds_20 : decode cX6_holds 20 = .ok (.iconst 1, 1) := by decide +kernel
theorem dX6_holds_21 : decode cX6_holds 21 = .ok (.goto 4, 3) := by decide +kernel
theorem dX6_holds_24 : decode cX6_holds 24 = .ok (.iconst 0, 1) := by decide +kernel
theorem dX6_holds_25 : decode cX6_holds 25 = .ok (.ireturn, 1) := by decide +kernel
theorem dX6_hasPoint_0 : decode cX6_hasPoint 0 = .ok (.iload_n 0, 1) := by decide +kernel
theorem dX6_hasPoint_1 : decode cX6_hasPoint 1 = .ok (.iload_n 1, 1) := by decide +kernel
theorem dX6_hasPoint_2 : decode cX6_hasPoint 2 = .ok (.iushr, 1) := by decide +kernel
theorem dX6_hasPoint_3 : decode cX6_hasPoint 3 = .ok (.iconst 1, 1) := by decide +kernel
theorem dX6_hasPoint_4 : decode cX6_hasPoint 4 = .ok (.iand, 1) := by decide +kernel
theorem dX6_hasPoint_5 : decode cX6_hasPoint 5 = .ok (.ifCond .eq 7, 3) := by decide +kernel
theorem dX6_hasPoint_8 : decode cX6_hasPoint 8 = .ok (.iconst 1, 1) := by decide +kernel
theorem dX6_hasPoint_9 : decode cX6_hasPoint 9 = .ok (.goto 4, 3) := by decide +kernel
theorem dX6_hasPoint_12 : decode cX6_hasPoint 12 = .ok (.iconst 0, 1) := by decide +kernel
theorem dX6_hasPoint_13 : decode cX6_hasPoint 13 = .ok (.ireturn, 1) := by decide +kernel
theorem dX6_ofSize_0 : decode cX6_ofSize 0 = .ok (.iload_n 0, 1) := by decide +kernel
theorem dX6_ofSize_1 : decode cX6_ofSize 1 = .ok (.ifCond .lt 19, 3) := by decide +kernel
theorem dX6_ofSize_4 : decode cX6_ofSize 4 = .ok (.iload_n 0, 1) := by decide +kernel
theorem dX6_ofSize_5 : decode cX6_ofSize 5 = .ok (.getstatic 9, 3) := by decide +kernel
theorem dX6_ofSize_8 : decode cX6_ofSize 8 = .ok (.arraylength, 1) := by decide +kernel
theorem dX6_ofSize_9 : decode cX6_ofSize 9 = .ok (.if_icmp .ge 11, 3) := by decide +kernel
theorem dX6_ofSize_12 : decode cX6_ofSize 12 = .ok (.getstatic 9, 3) := by decide +kernel
theorem dX6_ofSize_15 : decode cX6_ofSize 15 = .ok (.iload_n 0, 1) := by decide +kernel
theorem dX6_ofSize_16 : decode cX6_ofSize 16 = .ok (.laload, 1) := by decide +kernel
theorem dX6_ofSize_17 : decode cX6_ofSize 17 = .ok (.goto 4, 3) := by decide +kernel
theorem dX6_ofSize_20 : decode cX6_ofSize 20 = .ok (.lconst 0, 1) := by decide +kernel
theorem dX6_ofSize_21 : decode cX6_ofSize 21 = .ok (.lreturn, 1) := by decide +kernel
set_option maxRecDepth 20000 in
theorem ggX6_inside_X6_hasPoint : GoodIn wsX6_inside wsX6_hasPoint := goodIn_r _ [4] (by decide +kernel) (by decide +kernel)
set_option maxRecDepth 20000 in
theorem gX6_inside_X6_hasPoint : GoodIn wsX6_inside (va_wsS RX6 15 yX6_hasPoint wsX6_hasPoint) := goodIn_app (goodIn_of _ (by decide +kernel)) ggX6_inside_X6_hasPoint
theorem dX6_inside_0 : decode cX6_inside 0 = .ok (.lconst 1, 1) := by decide +kernel
theorem dX6_inside_1 : decode cX6_inside 1 = .ok (.lstore_n 1, 1) := by decide +kernel
theorem dX6_inside_2 : decode cX6_inside 2 = .ok (.iconst 0, 1) := by decide +kernel
theorem dX6_inside_3 : decode cX6_inside 3 = .ok (.istore_n 3, 1) := by decide +kernel
theorem dX6_inside_4 : decode cX6_inside 4 = .ok (.iload_n 3, 1) := by decide +kernel
theorem dX6_inside_5 : decode cX6_inside 5 = .ok (.bipush 6, 2) := by decide +kernel
theorem dX6_inside_7 : decode cX6_inside 7 = .ok (.if_icmp .ge 25, 3) := by decide +kernel
theorem dX6_inside_10 : decode cX6_inside 10 = .ok (.iload_n 0, 1) := by decide +kernel
theorem dX6_inside_11 : decode cX6_inside 11 = .ok (.iload_n 3, 1) := by decide +kernel
theorem dX6_inside_12 : decode cX6_inside 12 = .ok (.invokestatic 15, 3) := by decide +kernel
theorem dX6_inside_15 : decode cX6_inside 15 = .ok (.ifCond .eq 11, 3) := by decide +kernel
theorem dX6_inside_18 : decode cX6_inside 18 = .ok (.lload_n 1, 1) := by decide +kernel
theorem dX6_inside_19 : decode cX6_inside 19 = .ok (.lload_n 1, 1) := by decide +kernel
theorem dX6_inside_20 : decode cX6_inside 20 = .ok (.iconst 1, 1) := by decide +kernel
theorem dX6_inside_21 : decode cX6_inside 21 = .ok (.iload_n 3, 1) := by decide +kernel
theorem dX6_inside_22 : decode cX6_inside 22 = .ok (.ishl, 1) := by decide +kernel
theorem dX6_inside_23 : decode cX6_inside 23 = .ok (.lshl, 1) := by decide +kernel
theorem dX6_inside_24 : decode cX6_inside 24 = .ok (.lor, 1) := by decide +kernel
theorem dX6_inside_25 : decode cX6_inside 25 = .ok (.lstore_n 1, 1) := by decide +kernel
theorem dX6_inside_26 : decode cX6_inside 26 = .ok (.iinc 3 1, 3) := by decide +kernel
theorem dX6_inside_29 : decode cX6_inside 29 = .ok (.goto (-25), 3) := by decide +kernel
theorem dX6_inside_32 : decode cX6_inside 32 = .ok (.lload_n 1, 1) := by decide +kernel
theorem dX6_inside_33 : decode cX6_inside 33 = .ok (.lreturn, 1) := by decide +kernel
set_option maxRecDepth 20000 in
theorem ggX6_around_X6_inside : GoodIn wsX6_around wsX6_inside := goodIn_r _ [4, 5, 6, 3, 7] (by decide +kernel) (by decide +kernel)
set_option maxRecDepth 20000 in
theorem gX6_around_X6_inside : GoodIn wsX6_around (va_wsS RX6 19 yX6_inside wsX6_inside) := goodIn_app (goodIn_of _ (by decide +kernel)) ggX6_around_X6_inside
theorem dX6_around_0 : decode cX6_around 0 = .ok (.bipush 63, 2) := by decide +kernel
theorem dX6_around_2 : decode cX6_around 2 = .ok (.iload_n 0, 1) := by decide +kernel
theorem dX6_around_3 : decode cX6_around 3 = .ok (.iconst (-1), 1) := by decide +kernel
theorem dX6_around_4 : decode cX6_around 4 = .ok (.ixor, 1) := by decide +kernel
theorem dX6_around_5 : decode cX6_around 5 = .ok (.iand, 1) := by decide +kernel
theorem dX6_around_6 : decode cX6_around 6 = .ok (.invokestatic 19, 3) := by decide +kernel
theorem dX6_around_9 : decode cX6_around 9 = .ok (.iload_n 0, 1) := by decide +kernel
theorem dX6_around_10 : decode cX6_around 10 = .ok (.lshl, 1) := by decide +kernel
theorem dX6_around_11 : decode cX6_around 11 = .ok (.lreturn, 1) := by decide +kernel
set_option maxRecDepth 20000 in
theorem ggX6_below_X6_hasPoint : GoodIn wsX6_below wsX6_hasPoint := goodIn_r _ [4] (by decide +kernel) (by decide +kernel)
set_option maxRecDepth 20000 in
theorem gX6_below_X6_hasPoint : GoodIn wsX6_below (va_wsS RX6 15 yX6_hasPoint wsX6_hasPoint) := goodIn_app (goodIn_of _ (by decide +kernel)) ggX6_below_X6_hasPoint
theorem dX6_below_0 : decode cX6_below 0 = .ok (.lconst 0, 1) := by decide +kernel
theorem dX6_below_1 : decode cX6_below 1 = .ok (.lstore_n 1, 1) := by decide +kernel
theorem dX6_below_2 : decode cX6_below 2 = .ok (.iconst 0, 1) := by decide +kernel
theorem dX6_below_3 : decode cX6_below 3 = .ok (.istore_n 3, 1) := by decide +kernel
theorem dX6_below_4 : decode cX6_below 4 = .ok (.iload_n 3, 1) := by decide +kernel
theorem dX6_below_5 : decode cX6_below 5 = .ok (.bipush 6, 2) := by decide +kernel
theorem dX6_below_7 : decode cX6_below 7 = .ok (.if_icmp .ge 29, 3) := by decide +kernel
theorem dX6_below_10 : decode cX6_below 10 = .ok (.iload_n 0, 1) := by decide +kernel
theorem dX6_below_11 : decode cX6_below 11 = .ok (.iload_n 3, 1) := by decide +kernel
theorem dX6_below_12 : decode cX6_below 12 = .ok (.invokestatic 15, 3) := by decide +kernel
theorem dX6_below_15 : decode cX6_below 15 = .ok (.ifCond .eq 15, 3) := by decide +kernel
theorem dX6_below_18 : decode cX6_below 18 = .ok (.lload_n 1, 1) := by decide +kernel
theorem dX6_below_19 : decode cX6_below 19 = .ok (.lconst 1, 1) := by decide +kernel
theorem dX6_below_20 : decode cX6_below 20 = .ok (.iload_n 0, 1) := by decide +kernel
theorem dX6_below_21 : decode cX6_below 21 = .ok (.iconst 1, 1) := by decide +kernel
theorem dX6_below_22 : decode cX6_below 22 = .ok (.iload_n 3, 1) := by decide +kernel
theorem dX6_below_23 : decode cX6_below 23 = .ok (.ishl, 1) := by decide +kernel
theorem dX6_below_24 : decode cX6_below 24 = .ok (.iconst (-1), 1) := by decide +kernel
theorem dX6_below_25 : decode cX6_below 25 = .ok (.ixor, 1) := by decide +kernel
theorem dX6_below_26 : decode cX6_below 26 = .ok (.iand, 1) := by decide +kernel
theorem dX6_below_27 : decode cX6_below 27 = .ok (.lshl, 1) := by decide +kernel
theorem dX6_below_28 : decode cX6_below 28 = .ok (.lor, 1) := by decide +kernel
theorem dX6_below_29 : decode cX6_below 29 = .ok (.lstore_n 1, 1) := by decide +kernel
theorem dX6_below_30 : decode cX6_below 30 = .ok (.iinc 3 1, 3) := by decide +kernel
theorem dX6_below_33 : decode cX6_below 33 = .ok (.goto (-29), 3) := by decide +kernel
theorem dX6_below_36 : decode cX6_below 36 = .ok (.lload_n 1, 1) := by decide +kernel
theorem dX6_below_37 : decode cX6_below 37 = .ok (.lreturn, 1) := by decide +kernel
set_option maxRecDepth 20000 in
theorem ggX6_above_X6_hasPoint : GoodIn wsX6_above wsX6_hasPoint := goodIn_r _ [4] (by decide +kernel) (by decide +kernel)
set_option maxRecDepth 20000 in
theorem gX6_above_X6_hasPoint : GoodIn wsX6_above (va_wsS RX6 15 yX6_hasPoint wsX6_hasPoint) := goodIn_app (goodIn_of _ (by decide +kernel)) ggX6_above_X6_hasPoint
theorem dX6_above_0 : decode cX6_above 0 = .ok (.lconst 0, 1) := by decide +kernel
theorem dX6_above_1 : decode cX6_above 1 = .ok (.lstore_n 1, 1) := by decide +kernel
theorem dX6_above_2 : decode cX6_above 2 = .ok (.iconst 0, 1) := by decide +kernel
theorem dX6_above_3 : decode cX6_above 3 = .ok (.istore_n 3, 1) := by decide +kernel
theorem dX6_above_4 : decode cX6_above 4 = .ok (.iload_n 3, 1) := by decide +kernel
theorem dX6_above_5 : decode cX6_above 5 = .ok (.bipush 6, 2) := by decide +kernel
theorem dX6_above_7 : decode cX6_above 7 = .ok (.if_icmp .ge 27, 3) := by decide +kernel
theorem dX6_above_10 : decode cX6_above 10 = .ok (.iload_n 0, 1) := by decide +kernel
theorem dX6_above_11 : decode cX6_above 11 = .ok (.iload_n 3, 1) := by decide +kernel
theorem dX6_above_12 : decode cX6_above 12 = .ok (.invokestatic 15, 3) := by decide +kernel
theorem dX6_above_15 : decode cX6_above 15 = .ok (.ifCond .ne 13, 3) := by decide +kernel
theorem dX6_above_18 : decode cX6_above 18 = .ok (.lload_n 1, 1) := by decide +kernel
theorem dX6_above_19 : decode cX6_above 19 = .ok (.lconst 1, 1) := by decide +kernel
theorem dX6_above_20 : decode cX6_above 20 = .ok (.iload_n 0, 1) := by decide +kernel
theorem dX6_above_21 : decode cX6_above 21 = .ok (.iconst 1, 1) := by decide +kernel
theorem dX6_above_22 : decode cX6_above 22 = .ok (.iload_n 3, 1) := by decide +kernel
theorem dX6_above_23 : decode cX6_above 23 = .ok (.ishl, 1) := by decide +kernel
theorem dX6_above_24 : decode cX6_above 24 = .ok (.ior, 1) := by decide +kernel
theorem dX6_above_25 : decode cX6_above 25 = .ok (.lshl, 1) := by decide +kernel
theorem dX6_above_26 : decode cX6_above 26 = .ok (.lor, 1) := by decide +kernel
theorem dX6_above_27 : decode cX6_above 27 = .ok (.lstore_n 1, 1) := by decide +kernel
theorem dX6_above_28 : decode cX6_above 28 = .ok (.iinc 3 1, 3) := by decide +kernel
theorem dX6_above_31 : decode cX6_above 31 = .ok (.goto (-27), 3) := by decide +kernel
theorem dX6_above_34 : decode cX6_above 34 = .ok (.lload_n 1, 1) := by decide +kernel
theorem dX6_above_35 : decode cX6_above 35 = .ok (.lreturn, 1) := by decide +kernel
set_option maxRecDepth 20000 in
theorem ggX6_spread_X6_hasPoint : GoodIn wsX6_spread wsX6_hasPoint := goodIn_r _ [4] (by decide +kernel) (by decide +kernel)
set_option maxRecDepth 20000 in
theorem gX6_spread_X6_hasPoint : GoodIn wsX6_spread (va_wsS RX6 15 yX6_hasPoint wsX6_hasPoint) := goodIn_app (goodIn_of _ (by decide +kernel)) ggX6_spread_X6_hasPoint
theorem dX6_spread_0 : decode cX6_spread 0 = .ok (.iconst 0, 1) := by decide +kernel
theorem dX6_spread_1 : decode cX6_spread 1 = .ok (.istore_n 2, 1) := by decide +kernel
theorem dX6_spread_2 : decode cX6_spread 2 = .ok (.iconst 0, 1) := by decide +kernel
theorem dX6_spread_3 : decode cX6_spread 3 = .ok (.istore_n 3, 1) := by decide +kernel
theorem dX6_spread_4 : decode cX6_spread 4 = .ok (.iconst 0, 1) := by decide +kernel
theorem dX6_spread_5 : decode cX6_spread 5 = .ok (.istore 4, 2) := by decide +kernel
theorem dX6_spread_7 : decode cX6_spread 7 = .ok (.iload 4, 2) := by decide +kernel
theorem dX6_spread_9 : decode cX6_spread 9 = .ok (.bipush 6, 2) := by decide +kernel
theorem dX6_spread_11 : decode cX6_spread 11 = .ok (.if_icmp .ge 36, 3) := by decide +kernel
theorem dX6_spread_14 : decode cX6_spread 14 = .ok (.iload_n 1, 1) := by decide +kernel
theorem dX6_spread_15 : decode cX6_spread 15 = .ok (.iload 4, 2) := by decide +kernel
theorem dX6_spread_17 : decode cX6_spread 17 = .ok (.invokestatic 15, 3) := by decide +kernel
theorem dX6_spread_20 : decode cX6_spread 20 = .ok (.ifCond .eq 21, 3) := by decide +kernel
theorem dX6_spread_23 : decode cX6_spread 23 = .ok (.iload_n 0, 1) := by decide +kernel
theorem dX6_spread_24 : decode cX6_spread 24 = .ok (.iload_n 3, 1) := by decide +kernel
theorem dX6_spread_25 : decode cX6_spread 25 = .ok (.invokestatic 15, 3) := by decide +kernel
theorem dX6_spread_28 : decode cX6_spread 28 = .ok (.ifCond .eq 10, 3) := by decide +kernel
theorem dX6_spread_31 : decode cX6_spread 31 = .ok (.iload_n 2, 1) := by decide +kernel
theorem dX6_spread_32 : decode cX6_spread 32 = .ok (.iconst 1, 1) := by decide +kernel
theorem dX6_spread_33 : decode cX6_spread 33 = .ok (.iload 4, 2) := by decide +kernel
theorem dX6_spread_35 : decode cX6_spread 35 = .ok (.ishl, 1) := by decide +kernel
theorem dX6_spread_36 : decode cX6_spread 36 = .ok (.ior, 1) := by decide +kernel
theorem dX6_spread_37 : decode cX6_spread 37 = .ok (.istore_n 2, 1) := by decide +kernel
theorem dX6_spread_38 : decode cX6_spread 38 = .ok (.iinc 3 1, 3) := by decide +kernel
theorem dX6_spread_41 : decode cX6_spread 41 = .ok (.iinc 4 1, 3) := by decide +kernel
theorem dX6_spread_44 : decode cX6_spread 44 = .ok (.goto (-37), 3) := by decide +kernel
theorem dX6_spread_47 : decode cX6_spread 47 = .ok (.iload_n 2, 1) := by decide +kernel
theorem dX6_spread_48 : decode cX6_spread 48 = .ok (.ireturn, 1) := by decide +kernel
theorem dX7_init_0 : decode cX7_init 0 = .ok (.aload_n 0, 1) := by decide +kernel
theorem dX7_init_1 : decode cX7_init 1 = .ok (.invokespecial 3, 3) := by decide +kernel
theorem dX7_init_4 : decode cX7_init 4 = .ok (.aload_n 0, 1) := by decide +kernel
theorem dX7_init_5 : decode cX7_init 5 = .ok (.bipush 64, 2) := by decide +kernel
theorem dX7_init_7 : decode cX7_init 7 = .ok (.newarray .int, 2) := by decide +kernel
theorem dX7_init_9 : decode cX7_init 9 = .ok (.putfield 9, 3) := by decide +kernel
theorem dX7_init_12 : decode cX7_init 12 = .ok (.aload_n 0, 1) := by decide +kernel
theorem dX7_init_13 : decode cX7_init 13 = .ok (.bipush 6, 2) := by decide +kernel
theorem dX7_init_15 : decode cX7_init 15 = .ok (.newarray .int, 2) := by decide +kernel
theorem dX7_init_17 : decode cX7_init 17 = .ok (.putfield 15, 3) := by decide +kernel
theorem dX7_init_20 : decode cX7_init 20 = .ok (.return_, 1) := by decide +kernel
set_option maxRecDepth 20000 in
theorem ggX7_know_X7_place : GoodIn wsX7_know wsX7_place := goodIn_r _ [8, 1, 9, 10, 11, 7, 12, 3, 4, 13, 14, 15, 16, 17, 18, 19, 20, 21, 2, 22, 23, 24, 5, 6, 25, 26, 27, 28, 29] (by decide +kernel) (by decide +kernel)
set_option maxRecDepth 20000 in
theorem gX7_know_X7_place : GoodIn wsX7_know (va_wsS RX7 29 yX7_place wsX7_place) := goodIn_app (goodIn_of _ (by decide +kernel)) ggX7_know_X7_place
theorem dX7_know_0 : decode cX7_know 0 = .ok (.iload_n 1, 1) := by decide +kernel
theorem dX7_know_1 : decode cX7_know 1 = .ok (.aload_n 0, 1) := by decide +kernel
theorem dX7_know_2 : decode cX7_know 2 = .ok (.getfield 18, 3) := by decide +kernel
theorem dX7_know_5 : decode cX7_know 5 = .ok (.if_icmp .ne 13, 3) := by decide +kernel
theorem dX7_know_8 : decode cX7_know 8 = .ok (.lload_n 2, 1) := by decide +kernel
theorem dX7_know_9 : decode cX7_know 9 = .ok (.aload_n 0, 1) := by decide +kernel
theorem dX7_know_10 : decode cX7_know 10 = .ok (.getfield 22, 3) := by decide +kernel
theorem dX7_know_13 : decode cX7_know 13 = .ok (.lcmp, 1) := by decide +kernel
theorem dX7_know_14 : decode cX7_know 14 = .ok (.ifCond .ne 4, 3) := by decide +kernel
theorem dX7_know_17 : decode cX7_know 17 = .ok (.return_, 1) := by decide +kernel
theorem dX7_know_18 : decode cX7_know 18 = .ok (.aload_n 0, 1) := by decide +kernel
theorem dX7_know_19 : decode cX7_know 19 = .ok (.iload_n 1, 1) := by decide +kernel
theorem dX7_know_20 : decode cX7_know 20 = .ok (.putfield 18, 3) := by decide +kernel
theorem dX7_know_23 : decode cX7_know 23 = .ok (.aload_n 0, 1) := by decide +kernel
theorem dX7_know_24 : decode cX7_know 24 = .ok (.lload_n 2, 1) := by decide +kernel
theorem dX7_know_25 : decode cX7_know 25 = .ok (.putfield 22, 3) := by decide +kernel
theorem dX7_know_28 : decode cX7_know 28 = .ok (.aload_n 0, 1) := by decide +kernel
theorem dX7_know_29 : decode cX7_know 29 = .ok (.iconst 0, 1) := by decide +kernel
theorem dX7_know_30 : decode cX7_know 30 = .ok (.putfield 26, 3) := by decide +kernel
theorem dX7_know_33 : decode cX7_know 33 = .ok (.iconst 0, 1) := by decide +kernel
theorem dX7_know_34 : decode cX7_know 34 = .ok (.istore 4, 2) := by decide +kernel
theorem dX7_know_36 : decode cX7_know 36 = .ok (.iload 4, 2) := by decide +kernel
theorem dX7_know_38 : decode cX7_know 38 = .ok (.bipush 6, 2) := by decide +kernel
theorem dX7_know_40 : decode cX7_know 40 = .ok (.if_icmp .ge 17, 3) := by decide +kernel
theorem dX7_know_43 : decode cX7_know 43 = .ok (.aload_n 0, 1) := by decide +kernel
theorem dX7_know_44 : decode cX7_know 44 = .ok (.getfield 15, 3) := by decide +kernel
theorem dX7_know_47 : decode cX7_know 47 = .ok (.iload 4, 2) := by decide +kernel
theorem dX7_know_49 : decode cX7_know 49 = .ok (.iconst 0, 1) := by decide +kernel
theorem dX7_know_50 : decode cX7_know 50 = .ok (.iastore, 1) := by decide +kernel
theorem dX7_know_51 : decode cX7_know 51 = .ok (.iinc 4 1, 3) := by decide +kernel
theorem dX7_know_54 : decode cX7_know 54 = .ok (.goto (-18), 3) := by decide +kernel
theorem dX7_know_57 : decode cX7_know 57 = .ok (.aload_n 0, 1) := by decide +kernel
theorem dX7_know_58 : decode cX7_know 58 = .ok (.iconst 0, 1) := by decide +kernel
theorem dX7_know_59 : decode cX7_know 59 = .ok (.iconst 0, 1) := by decide +kernel
theorem dX7_know_60 : decode cX7_know 60 = .ok (.invokestatic 29, 3) := by decide +kernel
theorem dX7_know_63 : decode cX7_know 63 = .ok (.return_, 1) := by decide +kernel
theorem dX7_howMany_0 : decode cX7_howMany 0 = .ok (.aload_n 0, 1) := by decide +kernel
theorem dX7_howMany_1 : decode cX7_howMany 1 = .ok (.getfield 26, 3) := by decide +kernel
theorem dX7_howMany_4 : decode cX7_howMany 4 = .ok (.ireturn, 1) := by decide +kernel
set_option maxRecDepth 20000 in
theorem ggX7_bring_X6_hasPoint : GoodIn wsX7_bring wsX6_hasPoint := goodIn_r _ [5] (by decide +kernel) (by decide +kernel)
set_option maxRecDepth 20000 in
theorem gX7_bring_X6_hasPoint : GoodIn wsX7_bring (va_wsS RX7 33 yX6_hasPoint wsX6_hasPoint) := goodIn_app (goodIn_of _ (by decide +kernel)) ggX7_bring_X6_hasPoint
theorem dX7_bring_0 : decode cX7_bring 0 = .ok (.iload_n 1, 1) := by decide +kernel
theorem dX7_bring_1 : decode cX7_bring 1 = .ok (.ifCond .lt 36, 3) := by decide +kernel
theorem dX7_bring_4 : decode cX7_bring 4 = .ok (.iload_n 1, 1) := by decide +kernel
theorem dX7_bring_5 : decode cX7_bring 5 = .ok (.bipush 6, 2) := by decide +kernel
theorem dX7_bring_7 : decode cX7_bring 7 = .ok (.if_icmp .ge 30, 3) := by decide +kernel
theorem dX7_bring_10 : decode cX7_bring 10 = .ok (.iload_n 2, 1) := by decide +kernel
theorem dX7_bring_11 : decode cX7_bring 11 = .ok (.ifCond .lt 26, 3) := by decide +kernel
theorem dX7_bring_14 : decode cX7_bring 14 = .ok (.iload_n 2, 1) := by decide +kernel
theorem dX7_bring_15 : decode cX7_bring 15 = .ok (.bipush 6, 2) := by decide +kernel
theorem dX7_bring_17 : decode cX7_bring 17 = .ok (.if_icmp .ge 20, 3) := by decide +kernel
theorem dX7_bring_20 : decode cX7_bring 20 = .ok (.aload_n 0, 1) := by decide +kernel
theorem dX7_bring_21 : decode cX7_bring 21 = .ok (.getfield 15, 3) := by decide +kernel
theorem dX7_bring_24 : decode cX7_bring 24 = .ok (.iload_n 1, 1) := by decide +kernel
theorem dX7_bring_25 : decode cX7_bring 25 = .ok (.iaload, 1) := by decide +kernel
theorem dX7_bring_26 : decode cX7_bring 26 = .ok (.iload_n 2, 1) := by decide +kernel
theorem dX7_bring_27 : decode cX7_bring 27 = .ok (.invokestatic 33, 3) := by decide +kernel
theorem dX7_bring_30 : decode cX7_bring 30 = .ok (.ifCond .eq 7, 3) := by decide +kernel
theorem dX7_bring_33 : decode cX7_bring 33 = .ok (.iconst 1, 1) := by decide +kernel
theorem dX7_bring_34 : decode cX7_bring 34 = .ok (.goto 4, 3) := by decide +kernel
theorem dX7_bring_37 : decode cX7_bring 37 = .ok (.iconst 0, 1) := by decide +kernel
theorem dX7_bring_38 : decode cX7_bring 38 = .ok (.ireturn, 1) := by decide +kernel
theorem dX7_classes_0 : decode cX7_classes 0 = .ok (.iconst 0, 1) := by decide +kernel
theorem dX7_classes_1 : decode cX7_classes 1 = .ok (.istore_n 1, 1) := by decide +kernel
theorem dX7_classes_2 : decode cX7_classes 2 = .ok (.iconst 0, 1) := by decide +kernel
theorem dX7_classes_3 : decode cX7_classes 3 = .ok (.istore_n 2, 1) := by decide +kernel
theorem dX7_classes_4 : decode cX7_classes 4 = .ok (.iload_n 2, 1) := by decide +kernel
theorem dX7_classes_5 : decode cX7_classes 5 = .ok (.aload_n 0, 1) := by decide +kernel
theorem dX7_classes_6 : decode cX7_classes 6 = .ok (.getfield 18, 3) := by decide +kernel
theorem dX7_classes_9 : decode cX7_classes 9 = .ok (.if_icmp .ge 33, 3) := by decide +kernel
theorem dX7_classes_12 : decode cX7_classes 12 = .ok (.iload_n 2, 1) := by decide +kernel
theorem dX7_classes_13 : decode cX7_classes 13 = .ok (.bipush 6, 2) := by decide +kernel
theorem dX7_classes_15 : decode cX7_classes 15 = .ok (.if_icmp .ge 27, 3) := by decide +kernel
theorem dX7_classes_18 : decode cX7_classes 18 = .ok (.aload_n 0, 1) := by decide +kernel
theorem dX7_classes_19 : decode cX7_classes 19 = .ok (.getfield 15, 3) := by decide +kernel
theorem dX7_classes_22 : decode cX7_classes 22 = .ok (.iload_n 2, 1) := by decide +kernel
theorem dX7_classes_23 : decode cX7_classes 23 = .ok (.iaload, 1) := by decide +kernel
theorem dX7_classes_24 : decode cX7_classes 24 = .ok (.iconst 1, 1) := by decide +kernel
theorem dX7_classes_25 : decode cX7_classes 25 = .ok (.iload_n 2, 1) := by decide +kernel
theorem dX7_classes_26 : decode cX7_classes 26 = .ok (.ishl, 1) := by decide +kernel
theorem dX7_classes_27 : decode cX7_classes 27 = .ok (.iconst 1, 1) := by decide +kernel
theorem dX7_classes_28 : decode cX7_classes 28 = .ok (.isub, 1) := by decide +kernel
theorem dX7_classes_29 : decode cX7_classes 29 = .ok (.iand, 1) := by decide +kernel
theorem dX7_classes_30 : decode cX7_classes 30 = .ok (.ifCond .ne 6, 3) := by decide +kernel
theorem dX7_classes_33 : decode cX7_classes 33 = .ok (.iinc 1 1, 3) := by decide +kernel
theorem dX7_classes_36 : decode cX7_classes 36 = .ok (.iinc 2 1, 3) := by decide +kernel
theorem dX7_classes_39 : decode cX7_classes 39 = .ok (.goto (-35), 3) := by decide +kernel
theorem dX7_classes_42 : decode cX7_classes 42 = .ok (.iload_n 1, 1) := by decide +kernel
theorem dX7_classes_43 : decode cX7_classes 43 = .ok (.ireturn, 1) := by decide +kernel
set_option maxRecDepth 20000 in
theorem ggX7_place_X7_tally : GoodIn wsX7_place wsX7_tally := goodIn_r _ [6, 7, 1, 8, 9, 24, 25, 26, 27, 28] (by decide +kernel) (by decide +kernel)
set_option maxRecDepth 20000 in
theorem gX7_place_X7_tally : GoodIn wsX7_place (wsV RX7 39 RX7 yX7_tally wsX7_tally) := goodIn_app (goodIn_of _ (by decide +kernel)) ggX7_place_X7_tally
set_option maxRecDepth 20000 in
theorem ggX7_place_X6_hasPoint : GoodIn wsX7_place wsX6_hasPoint := goodIn_r _ [13] (by decide +kernel) (by decide +kernel)
set_option maxRecDepth 20000 in
theorem gX7_place_X6_hasPoint : GoodIn wsX7_place (va_wsS RX7 33 yX6_hasPoint wsX6_hasPoint) := goodIn_app (goodIn_of _ (by decide +kernel)) ggX7_place_X6_hasPoint
set_option maxRecDepth 20000 in
theorem ggX7_place_X7_fits : GoodIn wsX7_place wsX7_fits := goodIn_r _ [17, 9, 18, 19, 20, 12, 21, 24, 25, 26, 27, 28] (by decide +kernel) (by decide +kernel)
set_option maxRecDepth 20000 in
theorem gX7_place_X7_fits : GoodIn wsX7_place (wsV RX7 42 RX7 yX7_fits wsX7_fits) := goodIn_app (goodIn_of _ (by decide +kernel)) ggX7_place_X7_fits
set_option maxRecDepth 20000 in
theorem ggX7_place_X7_place : GoodIn wsX7_place wsX7_place := goodIn_r _ [0, 1, 2, 3, 4, 5, 6, 7, 8, 9, 10, 11, 12, 13, 14, 15, 16, 17, 18, 19, 20, 21, 22, 23, 24, 25, 26, 27, 28] (by decide +kernel) (by decide +kernel)
set_option maxRecDepth 20000 in
theorem gX7_place_X7_place : GoodIn wsX7_place (va_wsS RX7 29 yX7_place wsX7_place) := goodIn_app (goodIn_of _ (by decide +kernel)) ggX7_place_X7_place
theorem dX7_place_0 : decode cX7_place 0 = .ok (.iload_n 1, 1) := by decide +kernel
theorem dX7_place_1 : decode cX7_place 1 = .ok (.aload_n 0, 1) := by decide +kernel
theorem dX7_place_2 : decode cX7_place 2 = .ok (.getfield 18, 3) := by decide +kernel
theorem dX7_place_5 : decode cX7_place 5 = .ok (.if_icmp .ge 9, 3) := by decide +kernel
theorem dX7_place_8 : decode cX7_place 8 = .ok (.iload_n 1, 1) := by decide +kernel
theorem dX7_place_9 : decode cX7_place 9 = .ok (.bipush 6, 2) := by decide +kernel
theorem dX7_place_11 : decode cX7_place 11 = .ok (.if_icmp .lt 8, 3) := by decide +kernel
theorem dX7_place_14 : decode cX7_place 14 = .ok (.aload_n 0, 1) := by decide +kernel
theorem dX7_place_15 : decode cX7_place 15 = .ok (.invokevirtual 39, 3) := by decide +kernel
theorem dX7_place_18 : decode cX7_place 18 = .ok (.return_, 1) := by decide +kernel
theorem dX7_place_19 : decode cX7_place 19 = .ok (.iconst 0, 1) := by decide +kernel
theorem dX7_place_20 : decode cX7_place 20 = .ok (.istore_n 3, 1) := by decide +kernel
theorem dX7_place_21 : decode cX7_place 21 = .ok (.iload_n 3, 1) := by decide +kernel
theorem dX7_place_22 : decode cX7_place 22 = .ok (.aload_n 0, 1) := by decide +kernel
theorem dX7_place_23 : decode cX7_place 23 = .ok (.getfield 18, 3) := by decide +kernel
theorem dX7_place_26 : decode cX7_place 26 = .ok (.if_icmp .ge 38, 3) := by decide +kernel
theorem dX7_place_29 : decode cX7_place 29 = .ok (.iload_n 2, 1) := by decide +kernel
theorem dX7_place_30 : decode cX7_place 30 = .ok (.iload_n 3, 1) := by decide +kernel
theorem dX7_place_31 : decode cX7_place 31 = .ok (.invokestatic 33, 3) := by decide +kernel
theorem dX7_place_34 : decode cX7_place 34 = .ok (.ifCond .ne 24, 3) := by decide +kernel
theorem dX7_place_37 : decode cX7_place 37 = .ok (.aload_n 0, 1) := by decide +kernel
theorem dX7_place_38 : decode cX7_place 38 = .ok (.iload_n 1, 1) := by decide +kernel
theorem dX7_place_39 : decode cX7_place 39 = .ok (.iload_n 3, 1) := by decide +kernel
theorem dX7_place_40 : decode cX7_place 40 = .ok (.invokevirtual 42, 3) := by decide +kernel
theorem dX7_place_43 : decode cX7_place 43 = .ok (.ifCond .eq 15, 3) := by decide +kernel
theorem dX7_place_46 : decode cX7_place 46 = .ok (.aload_n 0, 1) := by decide +kernel
theorem dX7_place_47 : decode cX7_place 47 = .ok (.iload_n 1, 1) := by decide +kernel
theorem dX7_place_48 : decode cX7_place 48 = .ok (.iconst 1, 1) := by decide +kernel
theorem dX7_place_49 : decode cX7_place 49 = .ok (.iadd, 1) := by decide +kernel
theorem dX7_place_50 : decode cX7_place 50 = .ok (.iload_n 2, 1) := by decide +kernel
theorem dX7_place_51 : decode cX7_place 51 = .ok (.iconst 1, 1) := by decide +kernel
theorem dX7_place_52 : decode cX7_place 52 = .ok (.iload_n 3, 1) := by decide +kernel
theorem dX7_place_53 : decode cX7_place 53 = .ok (.ishl, 1) := by decide +kernel
theorem dX7_place_54 : decode cX7_place 54 = .ok (.ior, 1) := by decide +kernel
theorem dX7_place_55 : decode cX7_place 55 = .ok (.invokestatic 29, 3) := by decide +kernel
theorem dX7_place_58 : decode cX7_place 58 = .ok (.iinc 3 1, 3) := by decide +kernel
theorem dX7_place_61 : decode cX7_place 61 = .ok (.goto (-40), 3) := by decide +kernel
theorem dX7_place_64 : decode cX7_place 64 = .ok (.return_, 1) := by decide +kernel
set_option maxRecDepth 20000 in
theorem ggX7_fits_X6_holds : GoodIn wsX7_fits wsX6_holds := goodIn_r _ [6] (by decide +kernel) (by decide +kernel)
set_option maxRecDepth 20000 in
theorem gX7_fits_X6_holds : GoodIn wsX7_fits (va_wsS RX7 45 yX6_holds wsX6_holds) := goodIn_app (goodIn_of _ (by decide +kernel)) ggX7_fits_X6_holds
theorem dX7_fits_0 : decode cX7_fits 0 = .ok (.iconst 1, 1) := by decide +kernel
theorem dX7_fits_1 : decode cX7_fits 1 = .ok (.iload_n 1, 1) := by decide +kernel
theorem dX7_fits_2 : decode cX7_fits 2 = .ok (.ishl, 1) := by decide +kernel
theorem dX7_fits_3 : decode cX7_fits 3 = .ok (.istore_n 3, 1) := by decide +kernel
theorem dX7_fits_4 : decode cX7_fits 4 = .ok (.iconst 0, 1) := by decide +kernel
theorem dX7_fits_5 : decode cX7_fits 5 = .ok (.istore 4, 2) := by decide +kernel
theorem dX7_fits_7 : decode cX7_fits 7 = .ok (.iload 4, 2) := by decide +kernel
theorem dX7_fits_9 : decode cX7_fits 9 = .ok (.iload_n 3, 1) := by decide +kernel
theorem dX7_fits_10 : decode cX7_fits 10 = .ok (.if_icmp .ge 67, 3) := by decide +kernel
theorem dX7_fits_13 : decode cX7_fits 13 = .ok (.iload 4, 2) := by decide +kernel
theorem dX7_fits_15 : decode cX7_fits 15 = .ok (.iload_n 3, 1) := by decide +kernel
theorem dX7_fits_16 : decode cX7_fits 16 = .ok (.iadd, 1) := by decide +kernel
theorem dX7_fits_17 : decode cX7_fits 17 = .ok (.bipush 64, 2) := by decide +kernel
theorem dX7_fits_19 : decode cX7_fits 19 = .ok (.if_icmp .ge 58, 3) := by decide +kernel
theorem dX7_fits_22 : decode cX7_fits 22 = .ok (.aload_n 0, 1) := by decide +kernel
theorem dX7_fits_23 : decode cX7_fits 23 = .ok (.getfield 9, 3) := by decide +kernel
theorem dX7_fits_26 : decode cX7_fits 26 = .ok (.iload 4, 2) := by decide +kernel
theorem dX7_fits_28 : decode cX7_fits 28 = .ok (.iaload, 1) := by decide +kernel
theorem dX7_fits_29 : decode cX7_fits 29 = .ok (.iconst 1, 1) := by decide +kernel
theorem dX7_fits_30 : decode cX7_fits 30 = .ok (.iload_n 2, 1) := by decide +kernel
theorem dX7_fits_31 : decode cX7_fits 31 = .ok (.ishl, 1) := by decide +kernel
theorem dX7_fits_32 : decode cX7_fits 32 = .ok (.ior, 1) := by decide +kernel
theorem dX7_fits_33 : decode cX7_fits 33 = .ok (.istore 5, 2) := by decide +kernel
theorem dX7_fits_35 : decode cX7_fits 35 = .ok (.aload_n 0, 1) := by decide +kernel
theorem dX7_fits_36 : decode cX7_fits 36 = .ok (.getfield 22, 3) := by decide +kernel
theorem dX7_fits_39 : decode cX7_fits 39 = .ok (.iload 4, 2) := by decide +kernel
theorem dX7_fits_41 : decode cX7_fits 41 = .ok (.iload_n 3, 1) := by decide +kernel
theorem dX7_fits_42 : decode cX7_fits 42 = .ok (.iadd, 1) := by decide +kernel
theorem dX7_fits_43 : decode cX7_fits 43 = .ok (.invokestatic 45, 3) := by decide +kernel
theorem dX7_fits_46 : decode cX7_fits 46 = .ok (.aload_n 0, 1) := by decide +kernel
theorem dX7_fits_47 : decode cX7_fits 47 = .ok (.getfield 22, 3) := by decide +kernel
theorem dX7_fits_50 : decode cX7_fits 50 = .ok (.iload 5, 2) := by decide +kernel
theorem dX7_fits_52 : decode cX7_fits 52 = .ok (.invokestatic 45, 3) := by decide +kernel
theorem dX7_fits_55 : decode cX7_fits 55 = .ok (.if_icmp .eq 5, 3) := by decide +kernel
theorem dX7_fits_58 : decode cX7_fits 58 = .ok (.iconst 0, 1) := by decide +kernel
theorem dX7_fits_59 : decode cX7_fits 59 = .ok (.ireturn, 1) := by decide +kernel
theorem dX7_fits_60 : decode cX7_fits 60 = .ok (.aload_n 0, 1) := by decide +kernel
theorem dX7_fits_61 : decode cX7_fits 61 = .ok (.getfield 9, 3) := by decide +kernel
theorem dX7_fits_64 : decode cX7_fits 64 = .ok (.iload 4, 2) := by decide +kernel
theorem dX7_fits_66 : decode cX7_fits 66 = .ok (.iload_n 3, 1) := by decide +kernel
theorem dX7_fits_67 : decode cX7_fits 67 = .ok (.iadd, 1) := by decide +kernel
theorem dX7_fits_68 : decode cX7_fits 68 = .ok (.iload 5, 2) := by decide +kernel
theorem dX7_fits_70 : decode cX7_fits 70 = .ok (.iastore, 1) := by decide +kernel
theorem dX7_fits_71 : decode cX7_fits 71 = .ok (.iinc 4 1, 3) := by decide +kernel
theorem dX7_fits_74 : decode cX7_fits 74 = .ok (.goto (-67), 3) := by decide +kernel
theorem dX7_fits_77 : decode cX7_fits 77 = .ok (.iconst 1, 1) := by decide +kernel
theorem dX7_fits_78 : decode cX7_fits 78 = .ok (.ireturn, 1) := by decide +kernel
theorem dX7_tally_0 : decode cX7_tally 0 = .ok (.aload_n 0, 1) := by decide +kernel
theorem dX7_tally_1 : decode cX7_tally 1 = .ok (.dup, 1) := by decide +kernel
theorem dX7_tally_2 : decode cX7_tally 2 = .ok (.getfield 26, 3) := by decide +kernel
theorem dX7_tally_5 : decode cX7_tally 5 = .ok (.iconst 1, 1) := by decide +kernel
theorem dX7_tally_6 : decode cX7_tally 6 = .ok (.iadd, 1) := by decide +kernel
theorem dX7_tally_7 : decode cX7_tally 7 = .ok (.putfield 26, 3) := by decide +kernel
theorem dX7_tally_10 : decode cX7_tally 10 = .ok (.iconst 0, 1) := by decide +kernel
theorem dX7_tally_11 : decode cX7_tally 11 = .ok (.istore_n 1, 1) := by decide +kernel
theorem dX7_tally_12 : decode cX7_tally 12 = .ok (.iload_n 1, 1) := by decide +kernel
theorem dX7_tally_13 : decode cX7_tally 13 = .ok (.aload_n 0, 1) := by decide +kernel
theorem dX7_tally_14 : decode cX7_tally 14 = .ok (.getfield 18, 3) := by decide +kernel
theorem dX7_tally_17 : decode cX7_tally 17 = .ok (.if_icmp .ge 32, 3) := by decide +kernel
theorem dX7_tally_20 : decode cX7_tally 20 = .ok (.iload_n 1, 1) := by decide +kernel
theorem dX7_tally_21 : decode cX7_tally 21 = .ok (.bipush 6, 2) := by decide +kernel
theorem dX7_tally_23 : decode cX7_tally 23 = .ok (.if_icmp .ge 26, 3) := by decide +kernel
theorem dX7_tally_26 : decode cX7_tally 26 = .ok (.aload_n 0, 1) := by decide +kernel
theorem dX7_tally_27 : decode cX7_tally 27 = .ok (.getfield 15, 3) := by decide +kernel
theorem dX7_tally_30 : decode cX7_tally 30 = .ok (.iload_n 1, 1) := by decide +kernel
theorem dX7_tally_31 : decode cX7_tally 31 = .ok (.dup2, 1) := by decide +kernel
theorem dX7_tally_32 : decode cX7_tally 32 = .ok (.iaload, 1) := by decide +kernel
theorem dX7_tally_33 : decode cX7_tally 33 = .ok (.aload_n 0, 1) := by decide +kernel
theorem dX7_tally_34 : decode cX7_tally 34 = .ok (.getfield 9, 3) := by decide +kernel
theorem dX7_tally_37 : decode cX7_tally 37 = .ok (.iconst 1, 1) := by decide +kernel
theorem dX7_tally_38 : decode cX7_tally 38 = .ok (.iload_n 1, 1) := by decide +kernel
theorem dX7_tally_39 : decode cX7_tally 39 = .ok (.ishl, 1) := by decide +kernel
theorem dX7_tally_40 : decode cX7_tally 40 = .ok (.iaload, 1) := by decide +kernel
theorem dX7_tally_41 : decode cX7_tally 41 = .ok (.ior, 1) := by decide +kernel
theorem dX7_tally_42 : decode cX7_tally 42 = .ok (.iastore, 1) := by decide +kernel
theorem dX7_tally_43 : decode cX7_tally 43 = .ok (.iinc 1 1, 3) := by decide +kernel
theorem dX7_tally_46 : decode cX7_tally 46 = .ok (.goto (-34), 3) := by decide +kernel
theorem dX7_tally_49 : decode cX7_tally 49 = .ok (.return_, 1) := by decide +kernel
end
section
set_option maxRecDepth 20000 in
theorem ggX8_init_X1_init : GoodIn wsX8_init wsX1_init := goodIn_r _ [34, 35, 2, 3, 36, 37, 38, 39, 83, 84, 85] (by decide +kernel) (by decide +kernel)
set_option maxRecDepth 20000 in
theorem gX8_init_X1_init : GoodIn wsX8_init (wsX1_init) := ggX8_init_X1_init
set_option maxRecDepth 20000 in
theorem ggX8_init_X5_init : GoodIn wsX8_init wsX5_init := goodIn_r _ [42, 43, 2, 3, 36, 44, 96, 97] (by decide +kernel) (by decide +kernel)
set_option maxRecDepth 20000 in
theorem gX8_init_X5_init : GoodIn wsX8_init (wsX5_init) := ggX8_init_X5_init
set_option maxRecDepth 20000 in
theorem ggX8_init_X4_init : GoodIn wsX8_init wsX4_init := goodIn_r _ [47, 48, 2, 3, 49, 98, 99] (by decide +kernel) (by decide +kernel)
set_option maxRecDepth 20000 in
theorem gX8_init_X4_init : GoodIn wsX8_init (wsX4_init) := ggX8_init_X4_init
set_option maxRecDepth 20000 in
theorem ggX8_init_X2_init : GoodIn wsX8_init wsX2_init := goodIn_r _ [52, 53, 2, 3, 36, 54, 55, 56, 57, 58, 59, 60, 61, 62, 63, 38, 64, 65, 100, 101, 102, 103, 104, 118, 119, 120, 121, 122] (by decide +kernel) (by decide +kernel)
set_option maxRecDepth 20000 in
theorem gX8_init_X2_init : GoodIn wsX8_init (wsX2_init) := ggX8_init_X2_init
set_option maxRecDepth 20000 in
theorem ggX8_init_X3_init : GoodIn wsX8_init wsX3_init := goodIn_r _ [68, 69, 2, 3, 70, 71, 57, 58, 72, 38, 73, 74, 36, 75, 76, 61, 62, 63, 64, 65, 105, 106, 107, 108, 109, 110, 111, 112, 118, 119, 120, 121, 122] (by decide +kernel) (by decide +kernel)
set_option maxRecDepth 20000 in
theorem gX8_init_X3_init : GoodIn wsX8_init (wsX3_init) := ggX8_init_X3_init
set_option maxRecDepth 20000 in
theorem ggX8_init_X7_init : GoodIn wsX8_init wsX7_init := goodIn_r _ [79, 80, 2, 3, 36, 81, 82, 113, 114, 115, 116, 117] (by decide +kernel) (by decide +kernel)
set_option maxRecDepth 20000 in
theorem gX8_init_X7_init : GoodIn wsX8_init (wsX7_init) := ggX8_init_X7_init
theorem dX8_init_0 : decode cX8_init 0 = .ok (.aload_n 0, 1) := by decide +kernel
theorem dX8_init_1 : decode cX8_init 1 = .ok (.invokespecial 1, 3) := by decide +kernel
theorem dX8_init_4 : decode cX8_init 4 = .ok (.aload_n 0, 1) := by decide +kernel
theorem dX8_init_5 : decode cX8_init 5 = .ok (.new 7, 3) := by decide +kernel
theorem dX8_init_8 : decode cX8_init 8 = .ok (.dup, 1) := by decide +kernel
theorem dX8_init_9 : decode cX8_init 9 = .ok (.invokespecial 9, 3) := by decide +kernel
theorem dX8_init_12 : decode cX8_init 12 = .ok (.putfield 10, 3) := by decide +kernel
theorem dX8_init_15 : decode cX8_init 15 = .ok (.aload_n 0, 1) := by decide +kernel
theorem dX8_init_16 : decode cX8_init 16 = .ok (.new 16, 3) := by decide +kernel
theorem dX8_init_19 : decode cX8_init 19 = .ok (.dup, 1) := by decide +kernel
theorem dX8_init_20 : decode cX8_init 20 = .ok (.invokespecial 18, 3) := by decide +kernel
theorem dX8_init_23 : decode cX8_init 23 = .ok (.putfield 19, 3) := by decide +kernel
theorem dX8_init_26 : decode cX8_init 26 = .ok (.aload_n 0, 1) := by decide +kernel
theorem dX8_init_27 : decode cX8_init 27 = .ok (.new 16, 3) := by decide +kernel
theorem dX8_init_30 : decode cX8_init 30 = .ok (.dup, 1) := by decide +kernel
theorem dX8_init_31 : decode cX8_init 31 = .ok (.invokespecial 18, 3) := by decide +kernel
theorem dX8_init_34 : decode cX8_init 34 = .ok (.putfield 23, 3) := by decide +kernel
theorem dX8_init_37 : decode cX8_init 37 = .ok (.aload_n 0, 1) := by decide +kernel
theorem dX8_init_38 : decode cX8_init 38 = .ok (.new 26, 3) := by decide +kernel
theorem dX8_init_41 : decode cX8_init 41 = .ok (.dup, 1) := by decide +kernel
theorem dX8_init_42 : decode cX8_init 42 = .ok (.invokespecial 28, 3) := by decide +kernel
theorem dX8_init_45 : decode cX8_init 45 = .ok (.putfield 29, 3) := by decide +kernel
theorem dX8_init_48 : decode cX8_init 48 = .ok (.aload_n 0, 1) := by decide +kernel
theorem dX8_init_49 : decode cX8_init 49 = .ok (.new 33, 3) := by decide +kernel
theorem dX8_init_52 : decode cX8_init 52 = .ok (.dup, 1) := by decide +kernel
theorem dX8_init_53 : decode cX8_init 53 = .ok (.invokespecial 35, 3) := by decide +kernel
theorem dX8_init_56 : decode cX8_init 56 = .ok (.putfield 36, 3) := by decide +kernel
theorem dX8_init_59 : decode cX8_init 59 = .ok (.aload_n 0, 1) := by decide +kernel
theorem dX8_init_60 : decode cX8_init 60 = .ok (.new 40, 3) := by decide +kernel
theorem dX8_init_63 : decode cX8_init 63 = .ok (.dup, 1) := by decide +kernel
theorem dX8_init_64 : decode cX8_init 64 = .ok (.aload_n 0, 1) := by decide +kernel
theorem dX8_init_65 : decode cX8_init 65 = .ok (.getfield 36, 3) := by decide +kernel
theorem dX8_init_68 : decode cX8_init 68 = .ok (.invokespecial 42, 3) := by decide +kernel
theorem dX8_init_71 : decode cX8_init 71 = .ok (.putfield 45, 3) := by decide +kernel
theorem dX8_init_74 : decode cX8_init 74 = .ok (.aload_n 0, 1) := by decide +kernel
theorem dX8_init_75 : decode cX8_init 75 = .ok (.new 49, 3) := by decide +kernel
theorem dX8_init_78 : decode cX8_init 78 = .ok (.dup, 1) := by decide +kernel
theorem dX8_init_79 : decode cX8_init 79 = .ok (.invokespecial 51, 3) := by decide +kernel
theorem dX8_init_82 : decode cX8_init 82 = .ok (.putfield 52, 3) := by decide +kernel
theorem dX8_init_85 : decode cX8_init 85 = .ok (.aload_n 0, 1) := by decide +kernel
theorem dX8_init_86 : decode cX8_init 86 = .ok (.iconst 4, 1) := by decide +kernel
theorem dX8_init_87 : decode cX8_init 87 = .ok (.putfield 56, 3) := by decide +kernel
theorem dX8_init_90 : decode cX8_init 90 = .ok (.aload_n 0, 1) := by decide +kernel
theorem dX8_init_91 : decode cX8_init 91 = .ok (.lconst 1, 1) := by decide +kernel
theorem dX8_init_92 : decode cX8_init 92 = .ok (.putfield 60, 3) := by decide +kernel
theorem dX8_init_95 : decode cX8_init 95 = .ok (.aload_n 0, 1) := by decide +kernel
theorem dX8_init_96 : decode cX8_init 96 = .ok (.iconst (-1), 1) := by decide +kernel
theorem dX8_init_97 : decode cX8_init 97 = .ok (.putfield 64, 3) := by decide +kernel
theorem dX8_init_100 : decode cX8_init 100 = .ok (.return_, 1) := by decide +kernel
set_option maxRecDepth 20000 in
theorem ggX8_points_X8_change : GoodIn wsX8_points wsX8_change := goodIn_r _ [5, 6, 7, 8, 9, 10, 11, 12, 13, 14, 15, 16, 17, 18, 19, 20, 21, 22, 23, 24, 25, 26, 27, 28, 29, 30, 31, 32, 33] (by decide +kernel) (by decide +kernel)
set_option maxRecDepth 20000 in
theorem gX8_points_X8_change : GoodIn wsX8_points (wsV RX8 67 RX8 yX8_change wsX8_change) := goodIn_app (goodIn_of _ (by decide +kernel)) ggX8_points_X8_change
theorem dX8_points_0 : decode cX8_points 0 = .ok (.iload_n 1, 1) := by decide +kernel
theorem dX8_points_1 : decode cX8_points 1 = .ok (.iconst 1, 1) := by decide +kernel
theorem dX8_points_2 : decode cX8_points 2 = .ok (.if_icmp .lt 9, 3) := by decide +kernel
theorem dX8_points_5 : decode cX8_points 5 = .ok (.iload_n 1, 1) := by decide +kernel
theorem dX8_points_6 : decode cX8_points 6 = .ok (.bipush 6, 2) := by decide +kernel
theorem dX8_points_8 : decode cX8_points 8 = .ok (.if_icmp .le 5, 3) := by decide +kernel
theorem dX8_points_11 : decode cX8_points 11 = .ok (.iconst 0, 1) := by decide +kernel
theorem dX8_points_12 : decode cX8_points 12 = .ok (.ireturn, 1) := by decide +kernel
theorem dX8_points_13 : decode cX8_points 13 = .ok (.aload_n 0, 1) := by decide +kernel
theorem dX8_points_14 : decode cX8_points 14 = .ok (.iload_n 1, 1) := by decide +kernel
theorem dX8_points_15 : decode cX8_points 15 = .ok (.lconst 1, 1) := by decide +kernel
theorem dX8_points_16 : decode cX8_points 16 = .ok (.invokevirtual 67, 3) := by decide +kernel
theorem dX8_points_19 : decode cX8_points 19 = .ok (.iconst 1, 1) := by decide +kernel
theorem dX8_points_20 : decode cX8_points 20 = .ok (.ireturn, 1) := by decide +kernel
set_option maxRecDepth 20000 in
theorem ggX8_face_X8_isSet : GoodIn wsX8_face wsX8_isSet := goodIn_r _ [7, 8, 9, 10, 6, 11, 2, 43, 44, 45, 46, 47, 48, 49, 50, 51, 52] (by decide +kernel) (by decide +kernel)
set_option maxRecDepth 20000 in
theorem gX8_face_X8_isSet : GoodIn wsX8_face (wsV RX8 71 RX8 yX8_isSet wsX8_isSet) := goodIn_app (goodIn_of _ (by decide +kernel)) ggX8_face_X8_isSet
set_option maxRecDepth 20000 in
theorem ggX8_face_J13_bitCount_95d88 : GoodIn wsX8_face wsJ13_bitCount_95d88 := goodIn_r _ [15, 16, 17, 18] (by decide +kernel) (by decide +kernel)
set_option maxRecDepth 20000 in
theorem gX8_face_J13_bitCount_95d88 : GoodIn wsX8_face (va_wsS RX8 75 yJ13_bitCount_95d88 wsJ13_bitCount_95d88) := goodIn_app (goodIn_of _ (by decide +kernel)) ggX8_face_J13_bitCount_95d88
set_option maxRecDepth 20000 in
theorem ggX8_face_X6_inside : GoodIn wsX8_face wsX6_inside := goodIn_r _ [22, 23, 24, 21, 25] (by decide +kernel) (by decide +kernel)
set_option maxRecDepth 20000 in
theorem gX8_face_X6_inside : GoodIn wsX8_face (va_wsS RX8 81 yX6_inside wsX6_inside) := goodIn_app (goodIn_of _ (by decide +kernel)) ggX8_face_X6_inside
set_option maxRecDepth 20000 in
theorem ggX8_face_X8_change : GoodIn wsX8_face wsX8_change := goodIn_r _ [29, 30, 2, 1, 31, 32, 33, 34, 35, 36, 37, 38, 39, 40, 41, 42, 43, 44, 45, 46, 47, 48, 49, 50, 51, 52, 53, 54, 55] (by decide +kernel) (by decide +kernel)
set_option maxRecDepth 20000 in
theorem gX8_face_X8_change : GoodIn wsX8_face (wsV RX8 67 RX8 yX8_change wsX8_change) := goodIn_app (goodIn_of _ (by decide +kernel)) ggX8_face_X8_change
theorem dX8_face_0 : decode cX8_face 0 = .ok (.aload_n 0, 1) := by decide +kernel
theorem dX8_face_1 : decode cX8_face 1 = .ok (.iload_n 1, 1) := by decide +kernel
theorem dX8_face_2 : decode cX8_face 2 = .ok (.invokevirtual 71, 3) := by decide +kernel
theorem dX8_face_5 : decode cX8_face 5 = .ok (.ifCond .ne 5, 3) := by decide +kernel
theorem dX8_face_8 : decode cX8_face 8 = .ok (.iconst (-1), 1) := by decide +kernel
theorem dX8_face_9 : decode cX8_face 9 = .ok (.ireturn, 1) := by decide +kernel
theorem dX8_face_10 : decode cX8_face 10 = .ok (.aload_n 0, 1) := by decide +kernel
theorem dX8_face_11 : decode cX8_face 11 = .ok (.getfield 60, 3) := by decide +kernel
theorem dX8_face_14 : decode cX8_face 14 = .ok (.invokestatic 75, 3) := by decide +kernel
theorem dX8_face_17 : decode cX8_face 17 = .ok (.istore_n 2, 1) := by decide +kernel
theorem dX8_face_18 : decode cX8_face 18 = .ok (.aload_n 0, 1) := by decide +kernel
theorem dX8_face_19 : decode cX8_face 19 = .ok (.aload_n 0, 1) := by decide +kernel
theorem dX8_face_20 : decode cX8_face 20 = .ok (.getfield 56, 3) := by decide +kernel
theorem dX8_face_23 : decode cX8_face 23 = .ok (.aload_n 0, 1) := by decide +kernel
theorem dX8_face_24 : decode cX8_face 24 = .ok (.getfield 60, 3) := by decide +kernel
theorem dX8_face_27 : decode cX8_face 27 = .ok (.iload_n 1, 1) := by decide +kernel
theorem dX8_face_28 : decode cX8_face 28 = .ok (.invokestatic 81, 3) := by decide +kernel
theorem dX8_face_31 : decode cX8_face 31 = .ok (.lor, 1) := by decide +kernel
theorem dX8_face_32 : decode cX8_face 32 = .ok (.invokevirtual 67, 3) := by decide +kernel
theorem dX8_face_35 : decode cX8_face 35 = .ok (.aload_n 0, 1) := by decide +kernel
theorem dX8_face_36 : decode cX8_face 36 = .ok (.getfield 60, 3) := by decide +kernel
theorem dX8_face_39 : decode cX8_face 39 = .ok (.invokestatic 75, 3) := by decide +kernel
theorem dX8_face_42 : decode cX8_face 42 = .ok (.iload_n 2, 1) := by decide +kernel
theorem dX8_face_43 : decode cX8_face 43 = .ok (.isub, 1) := by decide +kernel
theorem dX8_face_44 : decode cX8_face 44 = .ok (.ireturn, 1) := by decide +kernel
set_option maxRecDepth 20000 in
theorem ggX8_cut_X8_isNonemptyFace : GoodIn wsX8_cut wsX8_isNonemptyFace := goodIn_r _ [8, 1, 9, 10, 11, 7, 12, 13, 14, 15, 16, 2, 17, 18, 19, 20, 54, 55, 56, 57, 58, 59, 60, 61, 62, 63] (by decide +kernel) (by decide +kernel)
set_option maxRecDepth 20000 in
theorem gX8_cut_X8_isNonemptyFace : GoodIn wsX8_cut (wsV RX8 87 RX8 yX8_isNonemptyFace wsX8_isNonemptyFace) := goodIn_app (goodIn_of _ (by decide +kernel)) ggX8_cut_X8_isNonemptyFace
set_option maxRecDepth 20000 in
theorem ggX8_cut_J13_bitCount_95d88 : GoodIn wsX8_cut wsJ13_bitCount_95d88 := goodIn_r _ [24, 25, 26, 27] (by decide +kernel) (by decide +kernel)
set_option maxRecDepth 20000 in
theorem gX8_cut_J13_bitCount_95d88 : GoodIn wsX8_cut (va_wsS RX8 75 yJ13_bitCount_95d88 wsJ13_bitCount_95d88) := goodIn_app (goodIn_of _ (by decide +kernel)) ggX8_cut_J13_bitCount_95d88
set_option maxRecDepth 20000 in
theorem ggX8_cut_X6_around : GoodIn wsX8_cut wsX6_around := goodIn_r _ [30, 31, 32, 19, 33, 34, 35, 36] (by decide +kernel) (by decide +kernel)
set_option maxRecDepth 20000 in
theorem gX8_cut_X6_around : GoodIn wsX8_cut (va_wsS RX8 90 yX6_around wsX6_around) := goodIn_app (goodIn_of _ (by decide +kernel)) ggX8_cut_X6_around
set_option maxRecDepth 20000 in
theorem ggX8_cut_X8_change : GoodIn wsX8_cut wsX8_change := goodIn_r _ [40, 41, 2, 1, 42, 43, 44, 45, 46, 47, 48, 49, 50, 51, 52, 53, 54, 55, 56, 57, 58, 59, 60, 61, 62, 63, 64, 65, 66] (by decide +kernel) (by decide +kernel)
set_option maxRecDepth 20000 in
theorem gX8_cut_X8_change : GoodIn wsX8_cut (wsV RX8 67 RX8 yX8_change wsX8_change) := goodIn_app (goodIn_of _ (by decide +kernel)) ggX8_cut_X8_change
theorem dX8_cut_0 : decode cX8_cut 0 = .ok (.aload_n 0, 1) := by decide +kernel
theorem dX8_cut_1 : decode cX8_cut 1 = .ok (.iload_n 1, 1) := by decide +kernel
theorem dX8_cut_2 : decode cX8_cut 2 = .ok (.invokevirtual 87, 3) := by decide +kernel
theorem dX8_cut_5 : decode cX8_cut 5 = .ok (.ifCond .ne 5, 3) := by decide +kernel
theorem dX8_cut_8 : decode cX8_cut 8 = .ok (.iconst (-1), 1) := by decide +kernel
theorem dX8_cut_9 : decode cX8_cut 9 = .ok (.ireturn, 1) := by decide +kernel
theorem dX8_cut_10 : decode cX8_cut 10 = .ok (.aload_n 0, 1) := by decide +kernel
theorem dX8_cut_11 : decode cX8_cut 11 = .ok (.getfield 60, 3) := by decide +kernel
theorem dX8_cut_14 : decode cX8_cut 14 = .ok (.invokestatic 75, 3) := by decide +kernel
theorem dX8_cut_17 : decode cX8_cut 17 = .ok (.istore_n 2, 1) := by decide +kernel
theorem dX8_cut_18 : decode cX8_cut 18 = .ok (.aload_n 0, 1) := by decide +kernel
theorem dX8_cut_19 : decode cX8_cut 19 = .ok (.aload_n 0, 1) := by decide +kernel
theorem dX8_cut_20 : decode cX8_cut 20 = .ok (.getfield 56, 3) := by decide +kernel
theorem dX8_cut_23 : decode cX8_cut 23 = .ok (.aload_n 0, 1) := by decide +kernel
theorem dX8_cut_24 : decode cX8_cut 24 = .ok (.getfield 60, 3) := by decide +kernel
theorem dX8_cut_27 : decode cX8_cut 27 = .ok (.iload_n 1, 1) := by decide +kernel
theorem dX8_cut_28 : decode cX8_cut 28 = .ok (.invokestatic 90, 3) := by decide +kernel
theorem dX8_cut_31 : decode cX8_cut 31 = .ok (.ldc2_w 93, 3) := by decide +kernel
theorem dX8_cut_34 : decode cX8_cut 34 = .ok (.lxor, 1) := by decide +kernel
theorem dX8_cut_35 : decode cX8_cut 35 = .ok (.land, 1) := by decide +kernel
theorem dX8_cut_36 : decode cX8_cut 36 = .ok (.invokevirtual 67, 3) := by decide +kernel
theorem dX8_cut_39 : decode cX8_cut 39 = .ok (.iload_n 2, 1) := by decide +kernel
theorem dX8_cut_40 : decode cX8_cut 40 = .ok (.aload_n 0, 1) := by decide +kernel
theorem dX8_cut_41 : decode cX8_cut 41 = .ok (.getfield 60, 3) := by decide +kernel
theorem dX8_cut_44 : decode cX8_cut 44 = .ok (.invokestatic 75, 3) := by decide +kernel
theorem dX8_cut_47 : decode cX8_cut 47 = .ok (.isub, 1) := by decide +kernel
theorem dX8_cut_48 : decode cX8_cut 48 = .ok (.ireturn, 1) := by decide +kernel
set_option maxRecDepth 20000 in
theorem ggX8_link_X8_isNonemptyFace : GoodIn wsX8_link wsX8_isNonemptyFace := goodIn_r _ [6, 1, 7, 8, 9, 5, 10, 11, 12, 13, 14, 15, 16, 17, 18, 19, 50, 51, 52, 53, 54, 55, 56, 57, 58, 59] (by decide +kernel) (by decide +kernel)
set_option maxRecDepth 20000 in
theorem gX8_link_X8_isNonemptyFace : GoodIn wsX8_link (wsV RX8 87 RX8 yX8_isNonemptyFace wsX8_isNonemptyFace) := goodIn_app (goodIn_of _ (by decide +kernel)) ggX8_link_X8_isNonemptyFace
set_option maxRecDepth 20000 in
theorem ggX8_link_X8_allPoints : GoodIn wsX8_link wsX8_allPoints := goodIn_r _ [14, 15, 50, 51, 52, 53, 54, 55, 56, 57, 58, 59] (by decide +kernel) (by decide +kernel)
set_option maxRecDepth 20000 in
theorem gX8_link_X8_allPoints : GoodIn wsX8_link (wsV RX8 95 RX8 yX8_allPoints wsX8_allPoints) := goodIn_app (goodIn_of _ (by decide +kernel)) ggX8_link_X8_allPoints
set_option maxRecDepth 20000 in
theorem ggX8_link_J6_bitCount_0f7a4 : GoodIn wsX8_link wsJ6_bitCount_0f7a4 := goodIn_r _ [23, 24, 25, 26] (by decide +kernel) (by decide +kernel)
set_option maxRecDepth 20000 in
theorem gX8_link_J6_bitCount_0f7a4 : GoodIn wsX8_link (va_wsS RX8 99 yJ6_bitCount_0f7a4 wsJ6_bitCount_0f7a4) := goodIn_app (goodIn_of _ (by decide +kernel)) ggX8_link_J6_bitCount_0f7a4
set_option maxRecDepth 20000 in
theorem ggX8_link_X6_spread : GoodIn wsX8_link wsX6_spread := goodIn_r _ [29, 30, 31, 18, 32] (by decide +kernel) (by decide +kernel)
set_option maxRecDepth 20000 in
theorem gX8_link_X6_spread : GoodIn wsX8_link (va_wsS RX8 104 yX6_spread wsX6_spread) := goodIn_app (goodIn_of _ (by decide +kernel)) ggX8_link_X6_spread
set_option maxRecDepth 20000 in
theorem ggX8_link_X6_holds : GoodIn wsX8_link wsX6_holds := goodIn_r _ [19] (by decide +kernel) (by decide +kernel)
set_option maxRecDepth 20000 in
theorem gX8_link_X6_holds : GoodIn wsX8_link (va_wsS RX8 108 yX6_holds wsX6_holds) := goodIn_app (goodIn_of _ (by decide +kernel)) ggX8_link_X6_holds
set_option maxRecDepth 20000 in
theorem ggX8_link_X8_change : GoodIn wsX8_link wsX8_change := goodIn_r _ [36, 37, 15, 1, 38, 39, 40, 41, 42, 43, 44, 45, 46, 47, 48, 49, 50, 51, 52, 53, 54, 55, 56, 57, 58, 59, 60, 61, 62] (by decide +kernel) (by decide +kernel)
set_option maxRecDepth 20000 in
theorem gX8_link_X8_change : GoodIn wsX8_link (wsV RX8 67 RX8 yX8_change wsX8_change) := goodIn_app (goodIn_of _ (by decide +kernel)) ggX8_link_X8_change
theorem dX8_link_0 : decode cX8_link 0 = .ok (.aload_n 0, 1) := by decide +kernel
theorem dX8_link_1 : decode cX8_link 1 = .ok (.iload_n 1, 1) := by decide +kernel
theorem dX8_link_2 : decode cX8_link 2 = .ok (.invokevirtual 87, 3) := by decide +kernel
theorem dX8_link_5 : decode cX8_link 5 = .ok (.ifCond .eq 11, 3) := by decide +kernel
theorem dX8_link_8 : decode cX8_link 8 = .ok (.iload_n 1, 1) := by decide +kernel
theorem dX8_link_9 : decode cX8_link 9 = .ok (.aload_n 0, 1) := by decide +kernel
theorem dX8_link_10 : decode cX8_link 10 = .ok (.invokevirtual 95, 3) := by decide +kernel
theorem dX8_link_13 : decode cX8_link 13 = .ok (.if_icmp .ne 5, 3) := by decide +kernel
theorem dX8_link_16 : decode cX8_link 16 = .ok (.iconst (-1), 1) := by decide +kernel
theorem dX8_link_17 : decode cX8_link 17 = .ok (.ireturn, 1) := by decide +kernel
theorem dX8_link_18 : decode cX8_link 18 = .ok (.aload_n 0, 1) := by decide +kernel
theorem dX8_link_19 : decode cX8_link 19 = .ok (.invokevirtual 95, 3) := by decide +kernel
theorem dX8_link_22 : decode cX8_link 22 = .ok (.iload_n 1, 1) := by decide +kernel
theorem dX8_link_23 : decode cX8_link 23 = .ok (.iconst (-1), 1) := by decide +kernel
theorem dX8_link_24 : decode cX8_link 24 = .ok (.ixor, 1) := by decide +kernel
theorem dX8_link_25 : decode cX8_link 25 = .ok (.iand, 1) := by decide +kernel
theorem dX8_link_26 : decode cX8_link 26 = .ok (.istore_n 2, 1) := by decide +kernel
theorem dX8_link_27 : decode cX8_link 27 = .ok (.iload_n 2, 1) := by decide +kernel
theorem dX8_link_28 : decode cX8_link 28 = .ok (.invokestatic 99, 3) := by decide +kernel
theorem dX8_link_31 : decode cX8_link 31 = .ok (.istore_n 3, 1) := by decide +kernel
theorem dX8_link_32 : decode cX8_link 32 = .ok (.lconst 0, 1) := by decide +kernel
theorem dX8_link_33 : decode cX8_link 33 = .ok (.lstore 4, 2) := by decide +kernel
theorem dX8_link_35 : decode cX8_link 35 = .ok (.iconst 0, 1) := by decide +kernel
theorem dX8_link_36 : decode cX8_link 36 = .ok (.istore 6, 2) := by decide +kernel
theorem dX8_link_38 : decode cX8_link 38 = .ok (.iload 6, 2) := by decide +kernel
theorem dX8_link_40 : decode cX8_link 40 = .ok (.iconst 1, 1) := by decide +kernel
theorem dX8_link_41 : decode cX8_link 41 = .ok (.iload_n 3, 1) := by decide +kernel
theorem dX8_link_42 : decode cX8_link 42 = .ok (.ishl, 1) := by decide +kernel
theorem dX8_link_43 : decode cX8_link 43 = .ok (.if_icmp .ge 36, 3) := by decide +kernel
theorem dX8_link_46 : decode cX8_link 46 = .ok (.aload_n 0, 1) := by decide +kernel
theorem dX8_link_47 : decode cX8_link 47 = .ok (.getfield 60, 3) := by decide +kernel
theorem dX8_link_50 : decode cX8_link 50 = .ok (.iload_n 1, 1) := by decide +kernel
theorem dX8_link_51 : decode cX8_link 51 = .ok (.iload 6, 2) := by decide +kernel
theorem dX8_link_53 : decode cX8_link 53 = .ok (.iload_n 2, 1) := by decide +kernel
theorem dX8_link_54 : decode cX8_link 54 = .ok (.invokestatic 104, 3) := by decide +kernel
theorem dX8_link_57 : decode cX8_link 57 = .ok (.ior, 1) := by decide +kernel
theorem dX8_link_58 : decode cX8_link 58 = .ok (.invokestatic 108, 3) := by decide +kernel
theorem dX8_link_61 : decode cX8_link 61 = .ok (.ifCond .eq 12, 3) := by decide +kernel
theorem dX8_link_64 : decode cX8_link 64 = .ok (.lload 4, 2) := by decide +kernel
theorem dX8_link_66 : decode cX8_link 66 = .ok (.lconst 1, 1) := by decide +kernel
theorem dX8_link_67 : decode cX8_link 67 = .ok (.iload 6, 2) := by decide +kernel
theorem dX8_link_69 : decode cX8_link 69 = .ok (.lshl, 1) := by decide +kernel
theorem dX8_link_70 : decode cX8_link 70 = .ok (.lor, 1) := by decide +kernel
theorem dX8_link_71 : decode cX8_link 71 = .ok (.lstore 4, 2) := by decide +kernel
theorem dX8_link_73 : decode cX8_link 73 = .ok (.iinc 6 1, 3) := by decide +kernel
theorem dX8_link_76 : decode cX8_link 76 = .ok (.goto (-38), 3) := by decide +kernel
theorem dX8_link_79 : decode cX8_link 79 = .ok (.aload_n 0, 1) := by decide +kernel
theorem dX8_link_80 : decode cX8_link 80 = .ok (.iload_n 3, 1) := by decide +kernel
theorem dX8_link_81 : decode cX8_link 81 = .ok (.lload 4, 2) := by decide +kernel
theorem dX8_link_83 : decode cX8_link 83 = .ok (.invokevirtual 67, 3) := by decide +kernel
theorem dX8_link_86 : decode cX8_link 86 = .ok (.iload_n 3, 1) := by decide +kernel
theorem dX8_link_87 : decode cX8_link 87 = .ok (.ireturn, 1) := by decide +kernel
set_option maxRecDepth 20000 in
theorem ggX8_dual_X8_allPoints : GoodIn wsX8_dual wsX8_allPoints := goodIn_r _ [7, 2, 29, 30, 31, 32, 33, 34, 35, 36, 37, 38] (by decide +kernel) (by decide +kernel)
set_option maxRecDepth 20000 in
theorem gX8_dual_X8_allPoints : GoodIn wsX8_dual (wsV RX8 95 RX8 yX8_allPoints wsX8_allPoints) := goodIn_app (goodIn_of _ (by decide +kernel)) ggX8_dual_X8_allPoints
set_option maxRecDepth 20000 in
theorem ggX8_dual_X6_holds : GoodIn wsX8_dual wsX6_holds := goodIn_r _ [11] (by decide +kernel) (by decide +kernel)
set_option maxRecDepth 20000 in
theorem gX8_dual_X6_holds : GoodIn wsX8_dual (va_wsS RX8 108 yX6_holds wsX6_holds) := goodIn_app (goodIn_of _ (by decide +kernel)) ggX8_dual_X6_holds
set_option maxRecDepth 20000 in
theorem ggX8_dual_X8_change : GoodIn wsX8_dual wsX8_change := goodIn_r _ [15, 16, 2, 1, 17, 18, 19, 20, 21, 22, 23, 24, 25, 26, 27, 28, 29, 30, 31, 32, 33, 34, 35, 36, 37, 38, 39, 40, 41] (by decide +kernel) (by decide +kernel)
set_option maxRecDepth 20000 in
theorem gX8_dual_X8_change : GoodIn wsX8_dual (wsV RX8 67 RX8 yX8_change wsX8_change) := goodIn_app (goodIn_of _ (by decide +kernel)) ggX8_dual_X8_change
theorem dX8_dual_0 : decode cX8_dual 0 = .ok (.aload_n 0, 1) := by decide +kernel
theorem dX8_dual_1 : decode cX8_dual 1 = .ok (.invokevirtual 95, 3) := by decide +kernel
theorem dX8_dual_4 : decode cX8_dual 4 = .ok (.istore_n 1, 1) := by decide +kernel
theorem dX8_dual_5 : decode cX8_dual 5 = .ok (.aload_n 0, 1) := by decide +kernel
theorem dX8_dual_6 : decode cX8_dual 6 = .ok (.getfield 60, 3) := by decide +kernel
theorem dX8_dual_9 : decode cX8_dual 9 = .ok (.iload_n 1, 1) := by decide +kernel
theorem dX8_dual_10 : decode cX8_dual 10 = .ok (.invokestatic 108, 3) := by decide +kernel
theorem dX8_dual_13 : decode cX8_dual 13 = .ok (.ifCond .eq 5, 3) := by decide +kernel
theorem dX8_dual_16 : decode cX8_dual 16 = .ok (.iconst 0, 1) := by decide +kernel
theorem dX8_dual_17 : decode cX8_dual 17 = .ok (.ireturn, 1) := by decide +kernel
theorem dX8_dual_18 : decode cX8_dual 18 = .ok (.lconst 0, 1) := by decide +kernel
theorem dX8_dual_19 : decode cX8_dual 19 = .ok (.lstore_n 2, 1) := by decide +kernel
theorem dX8_dual_20 : decode cX8_dual 20 = .ok (.iconst 0, 1) := by decide +kernel
theorem dX8_dual_21 : decode cX8_dual 21 = .ok (.istore 4, 2) := by decide +kernel
theorem dX8_dual_23 : decode cX8_dual 23 = .ok (.iload 4, 2) := by decide +kernel
theorem dX8_dual_25 : decode cX8_dual 25 = .ok (.iload_n 1, 1) := by decide +kernel
theorem dX8_dual_26 : decode cX8_dual 26 = .ok (.if_icmp .gt 32, 3) := by decide +kernel
theorem dX8_dual_29 : decode cX8_dual 29 = .ok (.aload_n 0, 1) := by decide +kernel
theorem dX8_dual_30 : decode cX8_dual 30 = .ok (.getfield 60, 3) := by decide +kernel
theorem dX8_dual_33 : decode cX8_dual 33 = .ok (.iload_n 1, 1) := by decide +kernel
theorem dX8_dual_34 : decode cX8_dual 34 = .ok (.iload 4, 2) := by decide +kernel
theorem dX8_dual_36 : decode cX8_dual 36 = .ok (.iconst (-1), 1) := by decide +kernel
theorem dX8_dual_37 : decode cX8_dual 37 = .ok (.ixor, 1) := by decide +kernel
theorem dX8_dual_38 : decode cX8_dual 38 = .ok (.iand, 1) := by decide +kernel
theorem dX8_dual_39 : decode cX8_dual 39 = .ok (.invokestatic 108, 3) := by decide +kernel
theorem dX8_dual_42 : decode cX8_dual 42 = .ok (.ifCond .ne 10, 3) := by decide +kernel
theorem dX8_dual_45 : decode cX8_dual 45 = .ok (.lload_n 2, 1) := by decide +kernel
theorem dX8_dual_46 : decode cX8_dual 46 = .ok (.lconst 1, 1) := by decide +kernel
theorem dX8_dual_47 : decode cX8_dual 47 = .ok (.iload 4, 2) := by decide +kernel
theorem dX8_dual_49 : decode cX8_dual 49 = .ok (.lshl, 1) := by decide +kernel
theorem dX8_dual_50 : decode cX8_dual 50 = .ok (.lor, 1) := by decide +kernel
theorem dX8_dual_51 : decode cX8_dual 51 = .ok (.lstore_n 2, 1) := by decide +kernel
theorem dX8_dual_52 : decode cX8_dual 52 = .ok (.iinc 4 1, 3) := by decide +kernel
theorem dX8_dual_55 : decode cX8_dual 55 = .ok (.goto (-32), 3) := by decide +kernel
theorem dX8_dual_58 : decode cX8_dual 58 = .ok (.aload_n 0, 1) := by decide +kernel
theorem dX8_dual_59 : decode cX8_dual 59 = .ok (.aload_n 0, 1) := by decide +kernel
theorem dX8_dual_60 : decode cX8_dual 60 = .ok (.getfield 56, 3) := by decide +kernel
theorem dX8_dual_63 : decode cX8_dual 63 = .ok (.lload_n 2, 1) := by decide +kernel
theorem dX8_dual_64 : decode cX8_dual 64 = .ok (.invokevirtual 67, 3) := by decide +kernel
theorem dX8_dual_67 : decode cX8_dual 67 = .ok (.iconst 1, 1) := by decide +kernel
theorem dX8_dual_68 : decode cX8_dual 68 = .ok (.ireturn, 1) := by decide +kernel
set_option maxRecDepth 20000 in
theorem ggX8_undo_X1_drop : GoodIn wsX8_undo wsX1_drop := goodIn_r _ [8, 9, 30, 31, 32] (by decide +kernel) (by decide +kernel)
set_option maxRecDepth 20000 in
theorem gX8_undo_X1_drop : GoodIn wsX8_undo (wsV RX8 112 RX1 yX1_drop wsX1_drop) := goodIn_app (goodIn_of _ (by decide +kernel)) ggX8_undo_X1_drop
set_option maxRecDepth 20000 in
theorem ggX8_undo_X1_droppedPoints : GoodIn wsX8_undo wsX1_droppedPoints := goodIn_r _ [13, 9, 14, 30, 31, 32] (by decide +kernel) (by decide +kernel)
set_option maxRecDepth 20000 in
theorem gX8_undo_X1_droppedPoints : GoodIn wsX8_undo (wsV RX8 116 RX1 yX1_droppedPoints wsX1_droppedPoints) := goodIn_app (goodIn_of _ (by decide +kernel)) ggX8_undo_X1_droppedPoints
set_option maxRecDepth 20000 in
theorem ggX8_undo_X1_droppedFamily : GoodIn wsX8_undo wsX1_droppedFamily := goodIn_r _ [18, 9, 19, 30, 31, 32] (by decide +kernel) (by decide +kernel)
set_option maxRecDepth 20000 in
theorem gX8_undo_X1_droppedFamily : GoodIn wsX8_undo (wsV RX8 119 RX1 yX1_droppedFamily wsX1_droppedFamily) := goodIn_app (goodIn_of _ (by decide +kernel)) ggX8_undo_X1_droppedFamily
theorem dX8_undo_0 : decode cX8_undo 0 = .ok (.aload_n 0, 1) := by decide +kernel
theorem dX8_undo_1 : decode cX8_undo 1 = .ok (.getfield 10, 3) := by decide +kernel
theorem dX8_undo_4 : decode cX8_undo 4 = .ok (.invokevirtual 112, 3) := by decide +kernel
theorem dX8_undo_7 : decode cX8_undo 7 = .ok (.ifCond .ne 5, 3) := by decide +kernel
theorem dX8_undo_10 : decode cX8_undo 10 = .ok (.iconst 0, 1) := by decide +kernel
theorem dX8_undo_11 : decode cX8_undo 11 = .ok (.ireturn, 1) := by decide +kernel
theorem dX8_undo_12 : decode cX8_undo 12 = .ok (.aload_n 0, 1) := by decide +kernel
theorem dX8_undo_13 : decode cX8_undo 13 = .ok (.aload_n 0, 1) := by decide +kernel
theorem dX8_undo_14 : decode cX8_undo 14 = .ok (.getfield 10, 3) := by decide +kernel
theorem dX8_undo_17 : decode cX8_undo 17 = .ok (.invokevirtual 116, 3) := by decide +kernel
theorem dX8_undo_20 : decode cX8_undo 20 = .ok (.putfield 56, 3) := by decide +kernel
theorem dX8_undo_23 : decode cX8_undo 23 = .ok (.aload_n 0, 1) := by decide +kernel
theorem dX8_undo_24 : decode cX8_undo 24 = .ok (.aload_n 0, 1) := by decide +kernel
theorem dX8_undo_25 : decode cX8_undo 25 = .ok (.getfield 10, 3) := by decide +kernel
theorem dX8_undo_28 : decode cX8_undo 28 = .ok (.invokevirtual 119, 3) := by decide +kernel
theorem dX8_undo_31 : decode cX8_undo 31 = .ok (.putfield 60, 3) := by decide +kernel
theorem dX8_undo_34 : decode cX8_undo 34 = .ok (.iconst 1, 1) := by decide +kernel
theorem dX8_undo_35 : decode cX8_undo 35 = .ok (.ireturn, 1) := by decide +kernel
set_option maxRecDepth 20000 in
theorem ggX8_look_J13_bitCount_95d88 : GoodIn wsX8_look wsJ13_bitCount_95d88 := goodIn_r _ [9, 10, 11, 12] (by decide +kernel) (by decide +kernel)
set_option maxRecDepth 20000 in
theorem gX8_look_J13_bitCount_95d88 : GoodIn wsX8_look (va_wsS RX8 75 yJ13_bitCount_95d88 wsJ13_bitCount_95d88) := goodIn_app (goodIn_of _ (by decide +kernel)) ggX8_look_J13_bitCount_95d88
set_option maxRecDepth 20000 in
theorem ggX8_look_X8_greatestDimension : GoodIn wsX8_look wsX8_greatestDimension := goodIn_r _ [17, 2, 18, 19, 20, 21, 22, 181, 182, 183, 184, 185, 186, 187, 188, 189, 190] (by decide +kernel) (by decide +kernel)
set_option maxRecDepth 20000 in
theorem gX8_look_X8_greatestDimension : GoodIn wsX8_look (wsV RX8 123 RX8 yX8_greatestDimension wsX8_greatestDimension) := goodIn_app (goodIn_of _ (by decide +kernel)) ggX8_look_X8_greatestDimension
set_option maxRecDepth 20000 in
theorem ggX8_look_X8_missingFamily : GoodIn wsX8_look wsX8_missingFamily := goodIn_r _ [26, 2, 3, 27, 28, 29, 16, 30, 1, 31, 32, 20, 33, 34, 35, 36, 37, 38, 39, 181, 182, 183, 184, 185, 186, 187, 188, 189, 190] (by decide +kernel) (by decide +kernel)
set_option maxRecDepth 20000 in
theorem gX8_look_X8_missingFamily : GoodIn wsX8_look (wsV RX8 126 RX8 yX8_missingFamily wsX8_missingFamily) := goodIn_app (goodIn_of _ (by decide +kernel)) ggX8_look_X8_missingFamily
set_option maxRecDepth 20000 in
theorem ggX8_look_X6_ofSize : GoodIn wsX8_look wsX6_ofSize := goodIn_r _ [21, 22] (by decide +kernel) (by decide +kernel)
set_option maxRecDepth 20000 in
theorem gX8_look_X6_ofSize : GoodIn wsX8_look (va_wsS RX8 129 yX6_ofSize wsX6_ofSize) := goodIn_app (goodIn_of _ (by decide +kernel)) ggX8_look_X6_ofSize
set_option maxRecDepth 20000 in
theorem ggX8_look_X8_asNumber : GoodIn wsX8_look wsX8_asNumber := goodIn_r _ [42] (by decide +kernel) (by decide +kernel)
set_option maxRecDepth 20000 in
theorem gX8_look_X8_asNumber : GoodIn wsX8_look (va_wsS RX8 132 yX8_asNumber wsX8_asNumber) := goodIn_app (goodIn_of _ (by decide +kernel)) ggX8_look_X8_asNumber
set_option maxRecDepth 20000 in
theorem ggX8_look_X3_know : GoodIn wsX8_look wsX3_know := goodIn_r _ [47, 48, 49, 50, 51, 52, 53, 54, 55, 56, 57, 58, 59, 60, 20, 61, 37, 38, 39, 62, 63, 64, 65, 66, 67, 68, 69, 70, 71, 72, 73, 74, 75, 76, 77, 78, 79, 80, 81, 82, 32, 33, 83, 35, 36, 84, 85, 86, 87, 88, 89, 90, 91, 92, 93, 94, 95, 96, 97, 19, 21, 22, 98, 7, 8, 9, 10, 11, 12, 99, 100, 101, 46, 102, 103, 104, 105, 106, 107, 108, 109, 110, 111, 112, 113, 114, 115, 116, 117, 118, 119, 120, 121, 122, 123, 124, 125, 126, 127, 128, 129, 130, 131, 132, 133, 134, 135, 136, 137, 138, 139, 140, 141, 142, 143, 144, 145, 191, 192, 193, 194, 195, 196, 197, 198, 199, 200, 201, 202, 203, 204, 205, 206, 207, 208] (by decide +kernel) (by decide +kernel)
set_option maxRecDepth 20000 in
theorem gX8_look_X3_know : GoodIn wsX8_look (wsV RX8 136 RX3 yX3_know wsX3_know) := goodIn_app (goodIn_of _ (by decide +kernel)) ggX8_look_X3_know
set_option maxRecDepth 20000 in
theorem ggX8_look_X3_arePlain : GoodIn wsX8_look wsX3_arePlain := goodIn_r _ [149, 51, 191, 192, 193, 194, 195, 196, 197, 198] (by decide +kernel) (by decide +kernel)
set_option maxRecDepth 20000 in
theorem gX8_look_X3_arePlain : GoodIn wsX8_look (wsV RX8 139 RX3 yX3_arePlain wsX3_arePlain) := goodIn_app (goodIn_of _ (by decide +kernel)) ggX8_look_X3_arePlain
set_option maxRecDepth 20000 in
theorem ggX8_look_X7_know : GoodIn wsX8_look wsX7_know := goodIn_r _ [154, 155, 156, 157, 158, 159, 160, 153, 161, 162, 163, 164, 165, 166, 167, 38, 20, 39, 168, 169, 170, 171, 172, 32, 33, 209, 210, 211, 212, 213] (by decide +kernel) (by decide +kernel)
set_option maxRecDepth 20000 in
theorem gX8_look_X7_know : GoodIn wsX8_look (wsV RX8 142 RX7 yX7_know wsX7_know) := goodIn_app (goodIn_of _ (by decide +kernel)) ggX8_look_X7_know
set_option maxRecDepth 20000 in
theorem ggX8_look_X7_howMany : GoodIn wsX8_look wsX7_howMany := goodIn_r _ [176, 157, 209, 210, 211, 212, 213] (by decide +kernel) (by decide +kernel)
set_option maxRecDepth 20000 in
theorem gX8_look_X7_howMany : GoodIn wsX8_look (wsV RX8 143 RX7 yX7_howMany wsX7_howMany) := goodIn_app (goodIn_of _ (by decide +kernel)) ggX8_look_X7_howMany
set_option maxRecDepth 20000 in
theorem ggX8_look_X7_classes : GoodIn wsX8_look wsX7_classes := goodIn_r _ [180, 155, 158, 209, 210, 211, 212, 213] (by decide +kernel) (by decide +kernel)
set_option maxRecDepth 20000 in
theorem gX8_look_X7_classes : GoodIn wsX8_look (wsV RX8 146 RX7 yX7_classes wsX7_classes) := goodIn_app (goodIn_of _ (by decide +kernel)) ggX8_look_X7_classes
theorem dX8_look_0 : decode cX8_look 0 = .ok (.iload_n 1, 1) := by decide +kernel
theorem dX8_look_1 : decode cX8_look 1 = .ok (.tableswitch 172 0 7 #[47, 52, 60, 65, 73, 100, 126, 149], 47) := by decide +kernel
theorem dX8_look_48 : decode cX8_look 48 = .ok (.aload_n 0, 1) := by decide +kernel
theorem dX8_look_49 : decode cX8_look 49 = .ok (.getfield 56, 3) := by decide +kernel
theorem dX8_look_52 : decode cX8_look 52 = .ok (.ireturn, 1) := by decide +kernel
theorem dX8_look_53 : decode cX8_look 53 = .ok (.aload_n 0, 1) := by decide +kernel
theorem dX8_look_54 : decode cX8_look 54 = .ok (.getfield 60, 3) := by decide +kernel
theorem dX8_look_57 : decode cX8_look 57 = .ok (.invokestatic 75, 3) := by decide +kernel
theorem dX8_look_60 : decode cX8_look 60 = .ok (.ireturn, 1) := by decide +kernel
theorem dX8_look_61 : decode cX8_look 61 = .ok (.aload_n 0, 1) := by decide +kernel
theorem dX8_look_62 : decode cX8_look 62 = .ok (.invokevirtual 123, 3) := by decide +kernel
theorem dX8_look_65 : decode cX8_look 65 = .ok (.ireturn, 1) := by decide +kernel
theorem dX8_look_66 : decode cX8_look 66 = .ok (.aload_n 0, 1) := by decide +kernel
theorem dX8_look_67 : decode cX8_look 67 = .ok (.invokevirtual 126, 3) := by decide +kernel
theorem dX8_look_70 : decode cX8_look 70 = .ok (.invokestatic 75, 3) := by decide +kernel
theorem dX8_look_73 : decode cX8_look 73 = .ok (.ireturn, 1) := by decide +kernel
theorem dX8_look_74 : decode cX8_look 74 = .ok (.aload_n 0, 1) := by decide +kernel
theorem dX8_look_75 : decode cX8_look 75 = .ok (.invokevirtual 126, 3) := by decide +kernel
theorem dX8_look_78 : decode cX8_look 78 = .ok (.iconst 2, 1) := by decide +kernel
theorem dX8_look_79 : decode cX8_look 79 = .ok (.invokestatic 129, 3) := by decide +kernel
theorem dX8_look_82 : decode cX8_look 82 = .ok (.ldc2_w 93, 3) := by decide +kernel
theorem dX8_look_85 : decode cX8_look 85 = .ok (.lxor, 1) := by decide +kernel
theorem dX8_look_86 : decode cX8_look 86 = .ok (.land, 1) := by decide +kernel
theorem dX8_look_87 : decode cX8_look 87 = .ok (.lconst 0, 1) := by decide +kernel
theorem dX8_look_88 : decode cX8_look 88 = .ok (.lcmp, 1) := by decide +kernel
theorem dX8_look_89 : decode cX8_look 89 = .ok (.ifCond .ne 7, 3) := by decide +kernel
theorem dX8_look_92 : decode cX8_look 92 = .ok (.iconst 1, 1) := by decide +kernel
theorem dX8_look_93 : decode cX8_look 93 = .ok (.goto 4, 3) := by decide +kernel
theorem dX8_look_96 : decode cX8_look 96 = .ok (.iconst 0, 1) := by decide +kernel
theorem dX8_look_97 : decode cX8_look 97 = .ok (.invokestatic 132, 3) := by decide +kernel
theorem dX8_look_100 : decode cX8_look 100 = .ok (.ireturn, 1) := by decide +kernel
theorem dX8_look_101 : decode cX8_look 101 = .ok (.aload_n 0, 1) := by decide +kernel
theorem dX8_look_102 : decode cX8_look 102 = .ok (.getfield 45, 3) := by decide +kernel
theorem dX8_look_105 : decode cX8_look 105 = .ok (.aload_n 0, 1) := by decide +kernel
theorem dX8_look_106 : decode cX8_look 106 = .ok (.getfield 56, 3) := by decide +kernel
theorem dX8_look_109 : decode cX8_look 109 = .ok (.aload_n 0, 1) := by decide +kernel
theorem dX8_look_110 : decode cX8_look 110 = .ok (.getfield 60, 3) := by decide +kernel
theorem dX8_look_113 : decode cX8_look 113 = .ok (.invokevirtual 136, 3) := by decide +kernel
theorem dX8_look_116 : decode cX8_look 116 = .ok (.aload_n 0, 1) := by decide +kernel
theorem dX8_look_117 : decode cX8_look 117 = .ok (.getfield 45, 3) := by decide +kernel
theorem dX8_look_120 : decode cX8_look 120 = .ok (.invokevirtual 139, 3) := by decide +kernel
theorem dX8_look_123 : decode cX8_look 123 = .ok (.invokestatic 132, 3) := by decide +kernel
theorem dX8_look_126 : decode cX8_look 126 = .ok (.ireturn, 1) := by decide +kernel
theorem dX8_look_127 : decode cX8_look 127 = .ok (.aload_n 0, 1) := by decide +kernel
theorem dX8_look_128 : decode cX8_look 128 = .ok (.getfield 52, 3) := by decide +kernel
theorem dX8_look_131 : decode cX8_look 131 = .ok (.aload_n 0, 1) := by decide +kernel
theorem dX8_look_132 : decode cX8_look 132 = .ok (.getfield 56, 3) := by decide +kernel
theorem dX8_look_135 : decode cX8_look 135 = .ok (.aload_n 0, 1) := by decide +kernel
theorem dX8_look_136 : decode cX8_look 136 = .ok (.getfield 60, 3) := by decide +kernel
theorem dX8_look_139 : decode cX8_look 139 = .ok (.invokevirtual 142, 3) := by decide +kernel
theorem dX8_look_142 : decode cX8_look 142 = .ok (.aload_n 0, 1) := by decide +kernel
theorem dX8_look_143 : decode cX8_look 143 = .ok (.getfield 52, 3) := by decide +kernel
theorem dX8_look_146 : decode cX8_look 146 = .ok (.invokevirtual 143, 3) := by decide +kernel
theorem dX8_look_149 : decode cX8_look 149 = .ok (.ireturn, 1) := by decide +kernel
theorem dX8_look_150 : decode cX8_look 150 = .ok (.aload_n 0, 1) := by decide +kernel
theorem dX8_look_151 : decode cX8_look 151 = .ok (.getfield 52, 3) := by decide +kernel
theorem dX8_look_154 : decode cX8_look 154 = .ok (.aload_n 0, 1) := by decide +kernel
theorem dX8_look_155 : decode cX8_look 155 = .ok (.getfield 56, 3) := by decide +kernel
theorem dX8_look_158 : decode cX8_look 158 = .ok (.aload_n 0, 1) := by decide +kernel
theorem dX8_look_159 : decode cX8_look 159 = .ok (.getfield 60, 3) := by decide +kernel
theorem dX8_look_162 : decode cX8_look 162 = .ok (.invokevirtual 142, 3) := by decide +kernel
theorem dX8_look_165 : decode cX8_look 165 = .ok (.aload_n 0, 1) := by decide +kernel
theorem dX8_look_166 : decode cX8_look 166 = .ok (.getfield 52, 3) := by decide +kernel
theorem dX8_look_169 : decode cX8_look 169 = .ok (.invokevirtual 146, 3) := by decide +kernel
theorem dX8_look_172 : decode cX8_look 172 = .ok (.ireturn, 1) := by decide +kernel
theorem dX8_look_173 : decode cX8_look 173 = .ok (.bipush (-2), 2) := by decide +kernel
theorem dX8_look_175 : decode cX8_look 175 = .ok (.ireturn, 1) := by decide +kernel
set_option maxRecDepth 20000 in
theorem ggX8_has_X8_isSet : GoodIn wsX8_has wsX8_isSet := goodIn_r _ [6, 7, 8, 9, 5, 10, 11, 19, 20, 21, 22, 23, 24, 25, 26, 27, 28] (by decide +kernel) (by decide +kernel)
set_option maxRecDepth 20000 in
theorem gX8_has_X8_isSet : GoodIn wsX8_has (wsV RX8 71 RX8 yX8_isSet wsX8_isSet) := goodIn_app (goodIn_of _ (by decide +kernel)) ggX8_has_X8_isSet
set_option maxRecDepth 20000 in
theorem ggX8_has_X6_holds : GoodIn wsX8_has wsX6_holds := goodIn_r _ [15] (by decide +kernel) (by decide +kernel)
set_option maxRecDepth 20000 in
theorem gX8_has_X6_holds : GoodIn wsX8_has (va_wsS RX8 108 yX6_holds wsX6_holds) := goodIn_app (goodIn_of _ (by decide +kernel)) ggX8_has_X6_holds
set_option maxRecDepth 20000 in
theorem ggX8_has_X8_asNumber : GoodIn wsX8_has wsX8_asNumber := goodIn_r _ [18] (by decide +kernel) (by decide +kernel)
set_option maxRecDepth 20000 in
theorem gX8_has_X8_asNumber : GoodIn wsX8_has (va_wsS RX8 132 yX8_asNumber wsX8_asNumber) := goodIn_app (goodIn_of _ (by decide +kernel)) ggX8_has_X8_asNumber
theorem dX8_has_0 : decode cX8_has 0 = .ok (.aload_n 0, 1) := by decide +kernel
theorem dX8_has_1 : decode cX8_has 1 = .ok (.iload_n 1, 1) := by decide +kernel
theorem dX8_has_2 : decode cX8_has 2 = .ok (.invokevirtual 71, 3) := by decide +kernel
theorem dX8_has_5 : decode cX8_has 5 = .ok (.ifCond .eq 17, 3) := by decide +kernel
theorem dX8_has_8 : decode cX8_has 8 = .ok (.aload_n 0, 1) := by decide +kernel
theorem dX8_has_9 : decode cX8_has 9 = .ok (.getfield 60, 3) := by decide +kernel
theorem dX8_has_12 : decode cX8_has 12 = .ok (.iload_n 1, 1) := by decide +kernel
theorem dX8_has_13 : decode cX8_has 13 = .ok (.invokestatic 108, 3) := by decide +kernel
theorem dX8_has_16 : decode cX8_has 16 = .ok (.invokestatic 132, 3) := by decide +kernel
theorem dX8_has_19 : decode cX8_has 19 = .ok (.goto 4, 3) := by decide +kernel
theorem dX8_has_22 : decode cX8_has 22 = .ok (.iconst (-1), 1) := by decide +kernel
theorem dX8_has_23 : decode cX8_has 23 = .ok (.ireturn, 1) := by decide +kernel
set_option maxRecDepth 20000 in
theorem ggX8_faces_X2_isDimension : GoodIn wsX8_faces wsX2_isDimension := goodIn_r _ [5] (by decide +kernel) (by decide +kernel)
set_option maxRecDepth 20000 in
theorem gX8_faces_X2_isDimension : GoodIn wsX8_faces (va_wsS RX8 149 yX2_isDimension wsX2_isDimension) := goodIn_app (goodIn_of _ (by decide +kernel)) ggX8_faces_X2_isDimension
set_option maxRecDepth 20000 in
theorem ggX8_faces_X6_ofSize : GoodIn wsX8_faces wsX6_ofSize := goodIn_r _ [9, 10] (by decide +kernel) (by decide +kernel)
set_option maxRecDepth 20000 in
theorem gX8_faces_X6_ofSize : GoodIn wsX8_faces (va_wsS RX8 129 yX6_ofSize wsX6_ofSize) := goodIn_app (goodIn_of _ (by decide +kernel)) ggX8_faces_X6_ofSize
set_option maxRecDepth 20000 in
theorem ggX8_faces_J13_bitCount_95d88 : GoodIn wsX8_faces wsJ13_bitCount_95d88 := goodIn_r _ [14, 15, 16, 17] (by decide +kernel) (by decide +kernel)
set_option maxRecDepth 20000 in
theorem gX8_faces_J13_bitCount_95d88 : GoodIn wsX8_faces (va_wsS RX8 75 yJ13_bitCount_95d88 wsJ13_bitCount_95d88) := goodIn_app (goodIn_of _ (by decide +kernel)) ggX8_faces_J13_bitCount_95d88
theorem dX8_faces_0 : decode cX8_faces 0 = .ok (.iload_n 1, 1) := by decide +kernel
theorem dX8_faces_1 : decode cX8_faces 1 = .ok (.invokestatic 149, 3) := by decide +kernel
theorem dX8_faces_4 : decode cX8_faces 4 = .ok (.ifCond .eq 20, 3) := by decide +kernel
theorem dX8_faces_7 : decode cX8_faces 7 = .ok (.aload_n 0, 1) := by decide +kernel
theorem dX8_faces_8 : decode cX8_faces 8 = .ok (.getfield 60, 3) := by decide +kernel
theorem dX8_faces_11 : decode cX8_faces 11 = .ok (.iload_n 1, 1) := by decide +kernel
theorem dX8_faces_12 : decode cX8_faces 12 = .ok (.iconst 1, 1) := by decide +kernel
theorem dX8_faces_13 : decode cX8_faces 13 = .ok (.iadd, 1) := by decide +kernel
theorem dX8_faces_14 : decode cX8_faces 14 = .ok (.invokestatic 129, 3) := by decide +kernel
theorem dX8_faces_17 : decode cX8_faces 17 = .ok (.land, 1) := by decide +kernel
theorem dX8_faces_18 : decode cX8_faces 18 = .ok (.invokestatic 75, 3) := by decide +kernel
theorem dX8_faces_21 : decode cX8_faces 21 = .ok (.goto 4, 3) := by decide +kernel
theorem dX8_faces_24 : decode cX8_faces 24 = .ok (.iconst (-1), 1) := by decide +kernel
theorem dX8_faces_25 : decode cX8_faces 25 = .ok (.ireturn, 1) := by decide +kernel
set_option maxRecDepth 20000 in
theorem ggX8_missing_X8_missingFamily : GoodIn wsX8_missing wsX8_missingFamily := goodIn_r _ [5, 6, 7, 8, 9, 10, 4, 11, 12, 13, 14, 15, 16, 17, 18, 19, 20, 21, 22, 23, 24, 25, 26, 27, 28, 29, 30, 31, 32] (by decide +kernel) (by decide +kernel)
set_option maxRecDepth 20000 in
theorem gX8_missing_X8_missingFamily : GoodIn wsX8_missing (wsV RX8 126 RX8 yX8_missingFamily wsX8_missingFamily) := goodIn_app (goodIn_of _ (by decide +kernel)) ggX8_missing_X8_missingFamily
set_option maxRecDepth 20000 in
theorem ggX8_missing_X6_holds : GoodIn wsX8_missing wsX6_holds := goodIn_r _ [16] (by decide +kernel) (by decide +kernel)
set_option maxRecDepth 20000 in
theorem gX8_missing_X6_holds : GoodIn wsX8_missing (va_wsS RX8 108 yX6_holds wsX6_holds) := goodIn_app (goodIn_of _ (by decide +kernel)) ggX8_missing_X6_holds
theorem dX8_missing_0 : decode cX8_missing 0 = .ok (.iload_n 1, 1) := by decide +kernel
theorem dX8_missing_1 : decode cX8_missing 1 = .ok (.ifCond .ge 5, 3) := by decide +kernel
theorem dX8_missing_4 : decode cX8_missing 4 = .ok (.iconst (-1), 1) := by decide +kernel
theorem dX8_missing_5 : decode cX8_missing 5 = .ok (.ireturn, 1) := by decide +kernel
theorem dX8_missing_6 : decode cX8_missing 6 = .ok (.aload_n 0, 1) := by decide +kernel
theorem dX8_missing_7 : decode cX8_missing 7 = .ok (.invokevirtual 126, 3) := by decide +kernel
theorem dX8_missing_10 : decode cX8_missing 10 = .ok (.lstore_n 2, 1) := by decide +kernel
theorem dX8_missing_11 : decode cX8_missing 11 = .ok (.iconst 0, 1) := by decide +kernel
theorem dX8_missing_12 : decode cX8_missing 12 = .ok (.istore 4, 2) := by decide +kernel
theorem dX8_missing_14 : decode cX8_missing 14 = .ok (.iconst 0, 1) := by decide +kernel
theorem dX8_missing_15 : decode cX8_missing 15 = .ok (.istore 5, 2) := by decide +kernel
theorem dX8_missing_17 : decode cX8_missing 17 = .ok (.iload 5, 2) := by decide +kernel
theorem dX8_missing_19 : decode cX8_missing 19 = .ok (.bipush 64, 2) := by decide +kernel
theorem dX8_missing_21 : decode cX8_missing 21 = .ok (.if_icmp .ge 30, 3) := by decide +kernel
theorem dX8_missing_24 : decode cX8_missing 24 = .ok (.lload_n 2, 1) := by decide +kernel
theorem dX8_missing_25 : decode cX8_missing 25 = .ok (.iload 5, 2) := by decide +kernel
theorem dX8_missing_27 : decode cX8_missing 27 = .ok (.invokestatic 108, 3) := by decide +kernel
theorem dX8_missing_30 : decode cX8_missing 30 = .ok (.ifCond .eq 15, 3) := by decide +kernel
theorem dX8_missing_33 : decode cX8_missing 33 = .ok (.iload 4, 2) := by decide +kernel
theorem dX8_missing_35 : decode cX8_missing 35 = .ok (.iload_n 1, 1) := by decide +kernel
theorem dX8_missing_36 : decode cX8_missing 36 = .ok (.if_icmp .ne 6, 3) := by decide +kernel
theorem dX8_missing_39 : decode cX8_missing 39 = .ok (.iload 5, 2) := by decide +kernel
theorem dX8_missing_41 : decode cX8_missing 41 = .ok (.ireturn, 1) := by decide +kernel
theorem dX8_missing_42 : decode cX8_missing 42 = .ok (.iinc 4 1, 3) := by decide +kernel
theorem dX8_missing_45 : decode cX8_missing 45 = .ok (.iinc 5 1, 3) := by decide +kernel
theorem dX8_missing_48 : decode cX8_missing 48 = .ok (.goto (-31), 3) := by decide +kernel
theorem dX8_missing_51 : decode cX8_missing 51 = .ok (.iconst (-1), 1) := by decide +kernel
theorem dX8_missing_52 : decode cX8_missing 52 = .ok (.ireturn, 1) := by decide +kernel
set_option maxRecDepth 20000 in
theorem ggX8_holes_X8_isSet : GoodIn wsX8_holes wsX8_isSet := goodIn_r _ [8, 9, 10, 11, 7, 12, 2, 85, 86, 87, 88, 89, 90, 91, 92, 93, 94] (by decide +kernel) (by decide +kernel)
set_option maxRecDepth 20000 in
theorem gX8_holes_X8_isSet : GoodIn wsX8_holes (wsV RX8 71 RX8 yX8_isSet wsX8_isSet) := goodIn_app (goodIn_of _ (by decide +kernel)) ggX8_holes_X8_isSet
set_option maxRecDepth 20000 in
theorem ggX8_holes_X2_isDimension : GoodIn wsX8_holes wsX2_isDimension := goodIn_r _ [16] (by decide +kernel) (by decide +kernel)
set_option maxRecDepth 20000 in
theorem gX8_holes_X2_isDimension : GoodIn wsX8_holes (va_wsS RX8 149 yX2_isDimension wsX2_isDimension) := goodIn_app (goodIn_of _ (by decide +kernel)) ggX8_holes_X2_isDimension
set_option maxRecDepth 20000 in
theorem ggX8_holes_X2_know : GoodIn wsX8_holes wsX2_know := goodIn_r _ [20, 21, 22, 23, 24, 25, 26, 27, 28, 29, 30, 31, 32, 15, 33, 34, 35, 36, 37, 38, 39, 40, 41, 42, 43, 44, 45, 46, 47, 48, 49, 50, 51, 52, 53, 54, 55, 56, 57, 58, 59, 60, 61, 62, 63, 64, 65, 66, 67, 68, 69, 70, 71, 72, 73, 74, 75, 76, 77, 78, 79, 95, 96, 97, 98, 99, 100, 101, 102, 103, 104] (by decide +kernel) (by decide +kernel)
set_option maxRecDepth 20000 in
theorem gX8_holes_X2_know : GoodIn wsX8_holes (wsV RX8 152 RX2 yX2_know wsX2_know) := goodIn_app (goodIn_of _ (by decide +kernel)) ggX8_holes_X2_know
set_option maxRecDepth 20000 in
theorem ggX8_holes_X2_holesOf : GoodIn wsX8_holes wsX2_holesOf := goodIn_r _ [83, 34, 84, 14, 15, 16, 95, 96, 97, 98, 99] (by decide +kernel) (by decide +kernel)
set_option maxRecDepth 20000 in
theorem gX8_holes_X2_holesOf : GoodIn wsX8_holes (wsV RX8 153 RX2 yX2_holesOf wsX2_holesOf) := goodIn_app (goodIn_of _ (by decide +kernel)) ggX8_holes_X2_holesOf
theorem dX8_holes_0 : decode cX8_holes 0 = .ok (.aload_n 0, 1) := by decide +kernel
theorem dX8_holes_1 : decode cX8_holes 1 = .ok (.iload_n 1, 1) := by decide +kernel
theorem dX8_holes_2 : decode cX8_holes 2 = .ok (.invokevirtual 71, 3) := by decide +kernel
theorem dX8_holes_5 : decode cX8_holes 5 = .ok (.ifCond .eq 10, 3) := by decide +kernel
theorem dX8_holes_8 : decode cX8_holes 8 = .ok (.iload_n 2, 1) := by decide +kernel
theorem dX8_holes_9 : decode cX8_holes 9 = .ok (.invokestatic 149, 3) := by decide +kernel
theorem dX8_holes_12 : decode cX8_holes 12 = .ok (.ifCond .ne 5, 3) := by decide +kernel
theorem dX8_holes_15 : decode cX8_holes 15 = .ok (.iconst (-1), 1) := by decide +kernel
theorem dX8_holes_16 : decode cX8_holes 16 = .ok (.ireturn, 1) := by decide +kernel
theorem dX8_holes_17 : decode cX8_holes 17 = .ok (.aload_n 0, 1) := by decide +kernel
theorem dX8_holes_18 : decode cX8_holes 18 = .ok (.getfield 36, 3) := by decide +kernel
theorem dX8_holes_21 : decode cX8_holes 21 = .ok (.aload_n 0, 1) := by decide +kernel
theorem dX8_holes_22 : decode cX8_holes 22 = .ok (.getfield 56, 3) := by decide +kernel
theorem dX8_holes_25 : decode cX8_holes 25 = .ok (.aload_n 0, 1) := by decide +kernel
theorem dX8_holes_26 : decode cX8_holes 26 = .ok (.getfield 60, 3) := by decide +kernel
theorem dX8_holes_29 : decode cX8_holes 29 = .ok (.invokevirtual 152, 3) := by decide +kernel
theorem dX8_holes_32 : decode cX8_holes 32 = .ok (.aload_n 0, 1) := by decide +kernel
theorem dX8_holes_33 : decode cX8_holes 33 = .ok (.getfield 36, 3) := by decide +kernel
theorem dX8_holes_36 : decode cX8_holes 36 = .ok (.iload_n 1, 1) := by decide +kernel
theorem dX8_holes_37 : decode cX8_holes 37 = .ok (.iload_n 2, 1) := by decide +kernel
theorem dX8_holes_38 : decode cX8_holes 38 = .ok (.invokevirtual 153, 3) := by decide +kernel
theorem dX8_holes_41 : decode cX8_holes 41 = .ok (.ireturn, 1) := by decide +kernel
set_option maxRecDepth 20000 in
theorem ggX8_space_X2_know : GoodIn wsX8_space wsX2_know := goodIn_r _ [8, 9, 10, 11, 12, 13, 14, 15, 16, 17, 18, 19, 20, 7, 21, 22, 23, 24, 25, 26, 27, 28, 29, 30, 31, 32, 33, 34, 35, 36, 37, 38, 39, 40, 41, 42, 43, 44, 45, 46, 47, 48, 49, 50, 51, 52, 53, 54, 55, 56, 57, 58, 59, 60, 61, 62, 63, 64, 65, 66, 67, 91, 92, 93, 94, 95, 96, 97, 98, 99, 100] (by decide +kernel) (by decide +kernel)
set_option maxRecDepth 20000 in
theorem gX8_space_X2_know : GoodIn wsX8_space (wsV RX8 152 RX2 yX2_know wsX2_know) := goodIn_app (goodIn_of _ (by decide +kernel)) ggX8_space_X2_know
set_option maxRecDepth 20000 in
theorem ggX8_space_X8_allPoints : GoodIn wsX8_space wsX8_allPoints := goodIn_r _ [72, 2, 81, 82, 83, 84, 85, 86, 87, 88, 89, 90] (by decide +kernel) (by decide +kernel)
set_option maxRecDepth 20000 in
theorem gX8_space_X8_allPoints : GoodIn wsX8_space (wsV RX8 95 RX8 yX8_allPoints wsX8_allPoints) := goodIn_app (goodIn_of _ (by decide +kernel)) ggX8_space_X8_allPoints
set_option maxRecDepth 20000 in
theorem ggX8_space_J6_bitCount_0f7a4 : GoodIn wsX8_space wsJ6_bitCount_0f7a4 := goodIn_r _ [53, 54, 55, 56] (by decide +kernel) (by decide +kernel)
set_option maxRecDepth 20000 in
theorem gX8_space_J6_bitCount_0f7a4 : GoodIn wsX8_space (va_wsS RX8 99 yJ6_bitCount_0f7a4 wsJ6_bitCount_0f7a4) := goodIn_app (goodIn_of _ (by decide +kernel)) ggX8_space_J6_bitCount_0f7a4
set_option maxRecDepth 20000 in
theorem ggX8_space_X2_holesOf : GoodIn wsX8_space wsX2_holesOf := goodIn_r _ [77, 22, 78, 79, 7, 80, 91, 92, 93, 94, 95] (by decide +kernel) (by decide +kernel)
set_option maxRecDepth 20000 in
theorem gX8_space_X2_holesOf : GoodIn wsX8_space (wsV RX8 153 RX2 yX2_holesOf wsX2_holesOf) := goodIn_app (goodIn_of _ (by decide +kernel)) ggX8_space_X2_holesOf
theorem dX8_space_0 : decode cX8_space 0 = .ok (.iload_n 1, 1) := by decide +kernel
theorem dX8_space_1 : decode cX8_space 1 = .ok (.ifCond .lt 18, 3) := by decide +kernel
theorem dX8_space_4 : decode cX8_space 4 = .ok (.iload_n 1, 1) := by decide +kernel
theorem dX8_space_5 : decode cX8_space 5 = .ok (.bipush 12, 2) := by decide +kernel
theorem dX8_space_7 : decode cX8_space 7 = .ok (.if_icmp .gt 12, 3) := by decide +kernel
theorem dX8_space_10 : decode cX8_space 10 = .ok (.iload_n 2, 1) := by decide +kernel
theorem dX8_space_11 : decode cX8_space 11 = .ok (.ifCond .lt 8, 3) := by decide +kernel
theorem dX8_space_14 : decode cX8_space 14 = .ok (.iload_n 2, 1) := by decide +kernel
theorem dX8_space_15 : decode cX8_space 15 = .ok (.iconst 1, 1) := by decide +kernel
theorem dX8_space_16 : decode cX8_space 16 = .ok (.if_icmp .le 5, 3) := by decide +kernel
theorem dX8_space_19 : decode cX8_space 19 = .ok (.iconst (-1), 1) := by decide +kernel
theorem dX8_space_20 : decode cX8_space 20 = .ok (.ireturn, 1) := by decide +kernel
theorem dX8_space_21 : decode cX8_space 21 = .ok (.aload_n 0, 1) := by decide +kernel
theorem dX8_space_22 : decode cX8_space 22 = .ok (.getfield 36, 3) := by decide +kernel
theorem dX8_space_25 : decode cX8_space 25 = .ok (.aload_n 0, 1) := by decide +kernel
theorem dX8_space_26 : decode cX8_space 26 = .ok (.getfield 56, 3) := by decide +kernel
theorem dX8_space_29 : decode cX8_space 29 = .ok (.aload_n 0, 1) := by decide +kernel
theorem dX8_space_30 : decode cX8_space 30 = .ok (.getfield 60, 3) := by decide +kernel
theorem dX8_space_33 : decode cX8_space 33 = .ok (.invokevirtual 152, 3) := by decide +kernel
theorem dX8_space_36 : decode cX8_space 36 = .ok (.iconst 0, 1) := by decide +kernel
theorem dX8_space_37 : decode cX8_space 37 = .ok (.istore_n 3, 1) := by decide +kernel
theorem dX8_space_38 : decode cX8_space 38 = .ok (.iconst 0, 1) := by decide +kernel
theorem dX8_space_39 : decode cX8_space 39 = .ok (.istore 4, 2) := by decide +kernel
theorem dX8_space_41 : decode cX8_space 41 = .ok (.iload 4, 2) := by decide +kernel
theorem dX8_space_43 : decode cX8_space 43 = .ok (.aload_n 0, 1) := by decide +kernel
theorem dX8_space_44 : decode cX8_space 44 = .ok (.invokevirtual 95, 3) := by decide +kernel
theorem dX8_space_47 : decode cX8_space 47 = .ok (.if_icmp .gt 42, 3) := by decide +kernel
theorem dX8_space_50 : decode cX8_space 50 = .ok (.iload_n 2, 1) := by decide +kernel
theorem dX8_space_51 : decode cX8_space 51 = .ok (.ifCond .ne 11, 3) := by decide +kernel
theorem dX8_space_54 : decode cX8_space 54 = .ok (.iload 4, 2) := by decide +kernel
theorem dX8_space_56 : decode cX8_space 56 = .ok (.invokestatic 99, 3) := by decide +kernel
theorem dX8_space_59 : decode cX8_space 59 = .ok (.goto 4, 3) := by decide +kernel
theorem dX8_space_62 : decode cX8_space 62 = .ok (.iconst 0, 1) := by decide +kernel
theorem dX8_space_63 : decode cX8_space 63 = .ok (.istore 5, 2) := by decide +kernel
theorem dX8_space_65 : decode cX8_space 65 = .ok (.iload_n 3, 1) := by decide +kernel
theorem dX8_space_66 : decode cX8_space 66 = .ok (.aload_n 0, 1) := by decide +kernel
theorem dX8_space_67 : decode cX8_space 67 = .ok (.getfield 36, 3) := by decide +kernel
theorem dX8_space_70 : decode cX8_space 70 = .ok (.iload 4, 2) := by decide +kernel
theorem dX8_space_72 : decode cX8_space 72 = .ok (.iload_n 1, 1) := by decide +kernel
theorem dX8_space_73 : decode cX8_space 73 = .ok (.iload 5, 2) := by decide +kernel
theorem dX8_space_75 : decode cX8_space 75 = .ok (.isub, 1) := by decide +kernel
theorem dX8_space_76 : decode cX8_space 76 = .ok (.iconst 1, 1) := by decide +kernel
theorem dX8_space_77 : decode cX8_space 77 = .ok (.isub, 1) := by decide +kernel
theorem dX8_space_78 : decode cX8_space 78 = .ok (.invokevirtual 153, 3) := by decide +kernel
theorem dX8_space_81 : decode cX8_space 81 = .ok (.iadd, 1) := by decide +kernel
theorem dX8_space_82 : decode cX8_space 82 = .ok (.istore_n 3, 1) := by decide +kernel
theorem dX8_space_83 : decode cX8_space 83 = .ok (.iinc 4 1, 3) := by decide +kernel
theorem dX8_space_86 : decode cX8_space 86 = .ok (.goto (-45), 3) := by decide +kernel
theorem dX8_space_89 : decode cX8_space 89 = .ok (.iload_n 3, 1) := by decide +kernel
theorem dX8_space_90 : decode cX8_space 90 = .ok (.ireturn, 1) := by decide +kernel
set_option maxRecDepth 20000 in
theorem ggX8_tower_X2_know : GoodIn wsX8_tower wsX2_know := goodIn_r _ [8, 9, 10, 11, 12, 13, 14, 15, 16, 17, 18, 19, 20, 7, 21, 22, 23, 24, 25, 26, 27, 28, 29, 30, 31, 32, 33, 34, 35, 36, 37, 38, 39, 40, 41, 42, 43, 44, 45, 46, 47, 48, 49, 50, 51, 52, 53, 54, 55, 56, 57, 58, 59, 60, 61, 62, 63, 64, 65, 66, 67, 91, 92, 93, 94, 95, 96, 97, 98, 99, 100] (by decide +kernel) (by decide +kernel)
set_option maxRecDepth 20000 in
theorem gX8_tower_X2_know : GoodIn wsX8_tower (wsV RX8 152 RX2 yX2_know wsX2_know) := goodIn_app (goodIn_of _ (by decide +kernel)) ggX8_tower_X2_know
set_option maxRecDepth 20000 in
theorem ggX8_tower_X8_allPoints : GoodIn wsX8_tower wsX8_allPoints := goodIn_r _ [72, 2, 81, 82, 83, 84, 85, 86, 87, 88, 89, 90] (by decide +kernel) (by decide +kernel)
set_option maxRecDepth 20000 in
theorem gX8_tower_X8_allPoints : GoodIn wsX8_tower (wsV RX8 95 RX8 yX8_allPoints wsX8_allPoints) := goodIn_app (goodIn_of _ (by decide +kernel)) ggX8_tower_X8_allPoints
set_option maxRecDepth 20000 in
theorem ggX8_tower_J6_bitCount_0f7a4 : GoodIn wsX8_tower wsJ6_bitCount_0f7a4 := goodIn_r _ [53, 54, 55, 56] (by decide +kernel) (by decide +kernel)
set_option maxRecDepth 20000 in
theorem gX8_tower_J6_bitCount_0f7a4 : GoodIn wsX8_tower (va_wsS RX8 99 yJ6_bitCount_0f7a4 wsJ6_bitCount_0f7a4) := goodIn_app (goodIn_of _ (by decide +kernel)) ggX8_tower_J6_bitCount_0f7a4
set_option maxRecDepth 20000 in
theorem ggX8_tower_X2_holesOf : GoodIn wsX8_tower wsX2_holesOf := goodIn_r _ [77, 22, 78, 79, 7, 80, 91, 92, 93, 94, 95] (by decide +kernel) (by decide +kernel)
set_option maxRecDepth 20000 in
theorem gX8_tower_X2_holesOf : GoodIn wsX8_tower (wsV RX8 153 RX2 yX2_holesOf wsX2_holesOf) := goodIn_app (goodIn_of _ (by decide +kernel)) ggX8_tower_X2_holesOf
theorem dX8_tower_0 : decode cX8_tower 0 = .ok (.iload_n 1, 1) := by decide +kernel
theorem dX8_tower_1 : decode cX8_tower 1 = .ok (.ifCond .lt 19, 3) := by decide +kernel
theorem dX8_tower_4 : decode cX8_tower 4 = .ok (.iload_n 1, 1) := by decide +kernel
theorem dX8_tower_5 : decode cX8_tower 5 = .ok (.bipush 6, 2) := by decide +kernel
theorem dX8_tower_7 : decode cX8_tower 7 = .ok (.if_icmp .gt 13, 3) := by decide +kernel
theorem dX8_tower_10 : decode cX8_tower 10 = .ok (.iload_n 2, 1) := by decide +kernel
theorem dX8_tower_11 : decode cX8_tower 11 = .ok (.ifCond .lt 9, 3) := by decide +kernel
theorem dX8_tower_14 : decode cX8_tower 14 = .ok (.iload_n 2, 1) := by decide +kernel
theorem dX8_tower_15 : decode cX8_tower 15 = .ok (.bipush 6, 2) := by decide +kernel
theorem dX8_tower_17 : decode cX8_tower 17 = .ok (.if_icmp .le 5, 3) := by decide +kernel
theorem dX8_tower_20 : decode cX8_tower 20 = .ok (.iconst (-1), 1) := by decide +kernel
theorem dX8_tower_21 : decode cX8_tower 21 = .ok (.ireturn, 1) := by decide +kernel
theorem dX8_tower_22 : decode cX8_tower 22 = .ok (.aload_n 0, 1) := by decide +kernel
theorem dX8_tower_23 : decode cX8_tower 23 = .ok (.getfield 36, 3) := by decide +kernel
theorem dX8_tower_26 : decode cX8_tower 26 = .ok (.aload_n 0, 1) := by decide +kernel
theorem dX8_tower_27 : decode cX8_tower 27 = .ok (.getfield 56, 3) := by decide +kernel
theorem dX8_tower_30 : decode cX8_tower 30 = .ok (.aload_n 0, 1) := by decide +kernel
theorem dX8_tower_31 : decode cX8_tower 31 = .ok (.getfield 60, 3) := by decide +kernel
theorem dX8_tower_34 : decode cX8_tower 34 = .ok (.invokevirtual 152, 3) := by decide +kernel
theorem dX8_tower_37 : decode cX8_tower 37 = .ok (.iconst 0, 1) := by decide +kernel
theorem dX8_tower_38 : decode cX8_tower 38 = .ok (.istore_n 3, 1) := by decide +kernel
theorem dX8_tower_39 : decode cX8_tower 39 = .ok (.iconst 0, 1) := by decide +kernel
theorem dX8_tower_40 : decode cX8_tower 40 = .ok (.istore 4, 2) := by decide +kernel
theorem dX8_tower_42 : decode cX8_tower 42 = .ok (.iload 4, 2) := by decide +kernel
theorem dX8_tower_44 : decode cX8_tower 44 = .ok (.aload_n 0, 1) := by decide +kernel
theorem dX8_tower_45 : decode cX8_tower 45 = .ok (.invokevirtual 95, 3) := by decide +kernel
theorem dX8_tower_48 : decode cX8_tower 48 = .ok (.if_icmp .gt 35, 3) := by decide +kernel
theorem dX8_tower_51 : decode cX8_tower 51 = .ok (.iload 4, 2) := by decide +kernel
theorem dX8_tower_53 : decode cX8_tower 53 = .ok (.invokestatic 99, 3) := by decide +kernel
theorem dX8_tower_56 : decode cX8_tower 56 = .ok (.iload_n 2, 1) := by decide +kernel
theorem dX8_tower_57 : decode cX8_tower 57 = .ok (.if_icmp .ne 20, 3) := by decide +kernel
theorem dX8_tower_60 : decode cX8_tower 60 = .ok (.iload_n 3, 1) := by decide +kernel
theorem dX8_tower_61 : decode cX8_tower 61 = .ok (.aload_n 0, 1) := by decide +kernel
theorem dX8_tower_62 : decode cX8_tower 62 = .ok (.getfield 36, 3) := by decide +kernel
theorem dX8_tower_65 : decode cX8_tower 65 = .ok (.iload 4, 2) := by decide +kernel
theorem dX8_tower_67 : decode cX8_tower 67 = .ok (.iload_n 2, 1) := by decide +kernel
theorem dX8_tower_68 : decode cX8_tower 68 = .ok (.iload_n 1, 1) := by decide +kernel
theorem dX8_tower_69 : decode cX8_tower 69 = .ok (.isub, 1) := by decide +kernel
theorem dX8_tower_70 : decode cX8_tower 70 = .ok (.iconst 1, 1) := by decide +kernel
theorem dX8_tower_71 : decode cX8_tower 71 = .ok (.isub, 1) := by decide +kernel
theorem dX8_tower_72 : decode cX8_tower 72 = .ok (.invokevirtual 153, 3) := by decide +kernel
theorem dX8_tower_75 : decode cX8_tower 75 = .ok (.iadd, 1) := by decide +kernel
theorem dX8_tower_76 : decode cX8_tower 76 = .ok (.istore_n 3, 1) := by decide +kernel
theorem dX8_tower_77 : decode cX8_tower 77 = .ok (.iinc 4 1, 3) := by decide +kernel
theorem dX8_tower_80 : decode cX8_tower 80 = .ok (.goto (-38), 3) := by decide +kernel
theorem dX8_tower_83 : decode cX8_tower 83 = .ok (.iload_n 3, 1) := by decide +kernel
theorem dX8_tower_84 : decode cX8_tower 84 = .ok (.ireturn, 1) := by decide +kernel
set_option maxRecDepth 20000 in
theorem ggX8_rank_X8_isSet : GoodIn wsX8_rank wsX8_isSet := goodIn_r _ [9, 10, 11, 12, 8, 13, 2, 118, 119, 120, 121, 122, 123, 124, 125, 126, 127] (by decide +kernel) (by decide +kernel)
set_option maxRecDepth 20000 in
theorem gX8_rank_X8_isSet : GoodIn wsX8_rank (wsV RX8 71 RX8 yX8_isSet wsX8_isSet) := goodIn_app (goodIn_of _ (by decide +kernel)) ggX8_rank_X8_isSet
set_option maxRecDepth 20000 in
theorem ggX8_rank_X2_know : GoodIn wsX8_rank wsX2_know := goodIn_r _ [18, 19, 20, 21, 22, 23, 24, 25, 26, 27, 28, 29, 30, 17, 31, 32, 33, 34, 35, 36, 37, 38, 39, 40, 41, 42, 43, 44, 45, 46, 47, 48, 49, 50, 51, 52, 53, 54, 55, 56, 57, 58, 59, 60, 61, 62, 63, 64, 65, 66, 67, 68, 69, 70, 71, 72, 73, 74, 75, 76, 77, 128, 129, 130, 131, 132, 133, 134, 135, 136, 137] (by decide +kernel) (by decide +kernel)
set_option maxRecDepth 20000 in
theorem gX8_rank_X2_know : GoodIn wsX8_rank (wsV RX8 152 RX2 yX2_know wsX2_know) := goodIn_app (goodIn_of _ (by decide +kernel)) ggX8_rank_X2_know
set_option maxRecDepth 20000 in
theorem ggX8_rank_X3_measure : GoodIn wsX8_rank wsX3_measure := goodIn_r _ [82, 83, 84, 85, 86, 87, 88, 89, 17, 90, 32, 91, 92, 93, 94, 22, 23, 24, 25, 26, 27, 95, 96, 97, 81, 98, 99, 68, 69, 70, 100, 41, 42, 43, 44, 45, 46, 47, 101, 102, 103, 104, 49, 50, 105, 55, 56, 57, 58, 59, 106, 107, 108, 109, 110, 111, 112, 113, 114, 115, 116, 117, 138, 139, 140, 141, 142, 143, 144, 145, 128, 129, 130, 131, 132, 133, 134, 135, 136, 137] (by decide +kernel) (by decide +kernel)
set_option maxRecDepth 20000 in
theorem gX8_rank_X3_measure : GoodIn wsX8_rank (wsV RX8 156 RX3 yX3_measure wsX3_measure) := goodIn_app (goodIn_of _ (by decide +kernel)) ggX8_rank_X3_measure
theorem dX8_rank_0 : decode cX8_rank 0 = .ok (.aload_n 0, 1) := by decide +kernel
theorem dX8_rank_1 : decode cX8_rank 1 = .ok (.iload_n 1, 1) := by decide +kernel
theorem dX8_rank_2 : decode cX8_rank 2 = .ok (.invokevirtual 71, 3) := by decide +kernel
theorem dX8_rank_5 : decode cX8_rank 5 = .ok (.ifCond .eq 29, 3) := by decide +kernel
theorem dX8_rank_8 : decode cX8_rank 8 = .ok (.aload_n 0, 1) := by decide +kernel
theorem dX8_rank_9 : decode cX8_rank 9 = .ok (.iload_n 2, 1) := by decide +kernel
theorem dX8_rank_10 : decode cX8_rank 10 = .ok (.invokevirtual 71, 3) := by decide +kernel
theorem dX8_rank_13 : decode cX8_rank 13 = .ok (.ifCond .eq 21, 3) := by decide +kernel
theorem dX8_rank_16 : decode cX8_rank 16 = .ok (.iload_n 1, 1) := by decide +kernel
theorem dX8_rank_17 : decode cX8_rank 17 = .ok (.ifCond .eq 17, 3) := by decide +kernel
theorem dX8_rank_20 : decode cX8_rank 20 = .ok (.iload_n 2, 1) := by decide +kernel
theorem dX8_rank_21 : decode cX8_rank 21 = .ok (.ifCond .eq 13, 3) := by decide +kernel
theorem dX8_rank_24 : decode cX8_rank 24 = .ok (.iload_n 1, 1) := by decide +kernel
theorem dX8_rank_25 : decode cX8_rank 25 = .ok (.iload_n 2, 1) := by decide +kernel
theorem dX8_rank_26 : decode cX8_rank 26 = .ok (.iand, 1) := by decide +kernel
theorem dX8_rank_27 : decode cX8_rank 27 = .ok (.ifCond .ne 7, 3) := by decide +kernel
theorem dX8_rank_30 : decode cX8_rank 30 = .ok (.iconst 1, 1) := by decide +kernel
theorem dX8_rank_31 : decode cX8_rank 31 = .ok (.goto 4, 3) := by decide +kernel
theorem dX8_rank_34 : decode cX8_rank 34 = .ok (.iconst 0, 1) := by decide +kernel
theorem dX8_rank_35 : decode cX8_rank 35 = .ok (.istore 5, 2) := by decide +kernel
theorem dX8_rank_37 : decode cX8_rank 37 = .ok (.iload_n 3, 1) := by decide +kernel
theorem dX8_rank_38 : decode cX8_rank 38 = .ok (.ifCond .lt 23, 3) := by decide +kernel
theorem dX8_rank_41 : decode cX8_rank 41 = .ok (.iload_n 3, 1) := by decide +kernel
theorem dX8_rank_42 : decode cX8_rank 42 = .ok (.iconst 5, 1) := by decide +kernel
theorem dX8_rank_43 : decode cX8_rank 43 = .ok (.if_icmp .gt 18, 3) := by decide +kernel
theorem dX8_rank_46 : decode cX8_rank 46 = .ok (.iload 4, 2) := by decide +kernel
theorem dX8_rank_48 : decode cX8_rank 48 = .ok (.ifCond .lt 13, 3) := by decide +kernel
theorem dX8_rank_51 : decode cX8_rank 51 = .ok (.iload 4, 2) := by decide +kernel
theorem dX8_rank_53 : decode cX8_rank 53 = .ok (.iconst 5, 1) := by decide +kernel
theorem dX8_rank_54 : decode cX8_rank 54 = .ok (.if_icmp .gt 7, 3) := by decide +kernel
theorem dX8_rank_57 : decode cX8_rank 57 = .ok (.iconst 1, 1) := by decide +kernel
theorem dX8_rank_58 : decode cX8_rank 58 = .ok (.goto 4, 3) := by decide +kernel
theorem dX8_rank_61 : decode cX8_rank 61 = .ok (.iconst 0, 1) := by decide +kernel
theorem dX8_rank_62 : decode cX8_rank 62 = .ok (.istore 6, 2) := by decide +kernel
theorem dX8_rank_64 : decode cX8_rank 64 = .ok (.iload 5, 2) := by decide +kernel
theorem dX8_rank_66 : decode cX8_rank 66 = .ok (.ifCond .eq 8, 3) := by decide +kernel
theorem dX8_rank_69 : decode cX8_rank 69 = .ok (.iload 6, 2) := by decide +kernel
theorem dX8_rank_71 : decode cX8_rank 71 = .ok (.ifCond .ne 5, 3) := by decide +kernel
theorem dX8_rank_74 : decode cX8_rank 74 = .ok (.iconst (-1), 1) := by decide +kernel
theorem dX8_rank_75 : decode cX8_rank 75 = .ok (.ireturn, 1) := by decide +kernel
theorem dX8_rank_76 : decode cX8_rank 76 = .ok (.aload_n 0, 1) := by decide +kernel
theorem dX8_rank_77 : decode cX8_rank 77 = .ok (.getfield 36, 3) := by decide +kernel
theorem dX8_rank_80 : decode cX8_rank 80 = .ok (.aload_n 0, 1) := by decide +kernel
theorem dX8_rank_81 : decode cX8_rank 81 = .ok (.getfield 56, 3) := by decide +kernel
theorem dX8_rank_84 : decode cX8_rank 84 = .ok (.aload_n 0, 1) := by decide +kernel
theorem dX8_rank_85 : decode cX8_rank 85 = .ok (.getfield 60, 3) := by decide +kernel
theorem dX8_rank_88 : decode cX8_rank 88 = .ok (.invokevirtual 152, 3) := by decide +kernel
theorem dX8_rank_91 : decode cX8_rank 91 = .ok (.aload_n 0, 1) := by decide +kernel
theorem dX8_rank_92 : decode cX8_rank 92 = .ok (.getfield 45, 3) := by decide +kernel
theorem dX8_rank_95 : decode cX8_rank 95 = .ok (.aload_n 0, 1) := by decide +kernel
theorem dX8_rank_96 : decode cX8_rank 96 = .ok (.getfield 60, 3) := by decide +kernel
theorem dX8_rank_99 : decode cX8_rank 99 = .ok (.iload_n 1, 1) := by decide +kernel
theorem dX8_rank_100 : decode cX8_rank 100 = .ok (.iload_n 2, 1) := by decide +kernel
theorem dX8_rank_101 : decode cX8_rank 101 = .ok (.iload_n 3, 1) := by decide +kernel
theorem dX8_rank_102 : decode cX8_rank 102 = .ok (.iload 4, 2) := by decide +kernel
theorem dX8_rank_104 : decode cX8_rank 104 = .ok (.invokevirtual 156, 3) := by decide +kernel
theorem dX8_rank_107 : decode cX8_rank 107 = .ok (.ireturn, 1) := by decide +kernel
set_option maxRecDepth 20000 in
theorem ggX8_first_X3_know : GoodIn wsX8_first wsX3_know := goodIn_r _ [8, 9, 10, 11, 12, 13, 14, 15, 16, 17, 18, 19, 20, 21, 22, 23, 24, 25, 26, 27, 28, 29, 30, 31, 32, 33, 34, 35, 36, 37, 38, 39, 40, 41, 42, 43, 44, 45, 46, 47, 48, 49, 50, 51, 52, 53, 54, 55, 56, 57, 58, 59, 60, 61, 62, 63, 64, 65, 66, 67, 68, 69, 70, 71, 72, 73, 74, 75, 76, 77, 78, 79, 7, 80, 81, 82, 83, 84, 85, 86, 87, 88, 89, 90, 91, 92, 93, 94, 95, 96, 97, 98, 99, 100, 101, 102, 103, 104, 105, 106, 107, 108, 109, 110, 111, 112, 113, 114, 115, 116, 117, 118, 119, 120, 121, 122, 123, 138, 139, 140, 141, 142, 143, 144, 145, 146, 147, 148, 149, 150, 151, 152, 153, 154, 155] (by decide +kernel) (by decide +kernel)
set_option maxRecDepth 20000 in
theorem gX8_first_X3_know : GoodIn wsX8_first (wsV RX8 136 RX3 yX3_know wsX3_know) := goodIn_app (goodIn_of _ (by decide +kernel)) ggX8_first_X3_know
set_option maxRecDepth 20000 in
theorem ggX8_first_X3_told : GoodIn wsX8_first wsX3_told := goodIn_r _ [127, 12, 85, 138, 139, 140, 141, 142, 143, 144, 145] (by decide +kernel) (by decide +kernel)
set_option maxRecDepth 20000 in
theorem gX8_first_X3_told : GoodIn wsX8_first (wsV RX8 160 RX3 yX3_told wsX3_told) := goodIn_app (goodIn_of _ (by decide +kernel)) ggX8_first_X3_told
theorem dX8_first_0 : decode cX8_first 0 = .ok (.aload_n 0, 1) := by decide +kernel
theorem dX8_first_1 : decode cX8_first 1 = .ok (.getfield 45, 3) := by decide +kernel
theorem dX8_first_4 : decode cX8_first 4 = .ok (.aload_n 0, 1) := by decide +kernel
theorem dX8_first_5 : decode cX8_first 5 = .ok (.getfield 56, 3) := by decide +kernel
theorem dX8_first_8 : decode cX8_first 8 = .ok (.aload_n 0, 1) := by decide +kernel
theorem dX8_first_9 : decode cX8_first 9 = .ok (.getfield 60, 3) := by decide +kernel
theorem dX8_first_12 : decode cX8_first 12 = .ok (.invokevirtual 136, 3) := by decide +kernel
theorem dX8_first_15 : decode cX8_first 15 = .ok (.aload_n 0, 1) := by decide +kernel
theorem dX8_first_16 : decode cX8_first 16 = .ok (.getfield 45, 3) := by decide +kernel
theorem dX8_first_19 : decode cX8_first 19 = .ok (.iload_n 1, 1) := by decide +kernel
theorem dX8_first_20 : decode cX8_first 20 = .ok (.invokevirtual 160, 3) := by decide +kernel
theorem dX8_first_23 : decode cX8_first 23 = .ok (.ireturn, 1) := by decide +kernel
set_option maxRecDepth 20000 in
theorem ggX8_alike_X8_isPoint : GoodIn wsX8_alike wsX8_isPoint := goodIn_r _ [8, 2, 44, 45, 46, 47, 48, 49, 50, 51, 52, 53] (by decide +kernel) (by decide +kernel)
set_option maxRecDepth 20000 in
theorem gX8_alike_X8_isPoint : GoodIn wsX8_alike (wsV RX8 163 RX8 yX8_isPoint wsX8_isPoint) := goodIn_app (goodIn_of _ (by decide +kernel)) ggX8_alike_X8_isPoint
set_option maxRecDepth 20000 in
theorem ggX8_alike_X7_know : GoodIn wsX8_alike wsX7_know := goodIn_r _ [13, 14, 15, 16, 17, 18, 19, 12, 20, 21, 22, 23, 24, 25, 26, 27, 28, 29, 30, 31, 32, 33, 34, 35, 36, 54, 55, 56, 57, 58] (by decide +kernel) (by decide +kernel)
set_option maxRecDepth 20000 in
theorem gX8_alike_X7_know : GoodIn wsX8_alike (wsV RX8 142 RX7 yX7_know wsX7_know) := goodIn_app (goodIn_of _ (by decide +kernel)) ggX8_alike_X7_know
set_option maxRecDepth 20000 in
theorem ggX8_alike_X7_bring : GoodIn wsX8_alike wsX7_bring := goodIn_r _ [40, 17, 26, 27, 28, 29, 54, 55, 56, 57, 58] (by decide +kernel) (by decide +kernel)
set_option maxRecDepth 20000 in
theorem gX8_alike_X7_bring : GoodIn wsX8_alike (wsV RX8 166 RX7 yX7_bring wsX7_bring) := goodIn_app (goodIn_of _ (by decide +kernel)) ggX8_alike_X7_bring
set_option maxRecDepth 20000 in
theorem ggX8_alike_X8_asNumber : GoodIn wsX8_alike wsX8_asNumber := goodIn_r _ [43] (by decide +kernel) (by decide +kernel)
set_option maxRecDepth 20000 in
theorem gX8_alike_X8_asNumber : GoodIn wsX8_alike (va_wsS RX8 132 yX8_asNumber wsX8_asNumber) := goodIn_app (goodIn_of _ (by decide +kernel)) ggX8_alike_X8_asNumber
theorem dX8_alike_0 : decode cX8_alike 0 = .ok (.aload_n 0, 1) := by decide +kernel
theorem dX8_alike_1 : decode cX8_alike 1 = .ok (.iload_n 1, 1) := by decide +kernel
theorem dX8_alike_2 : decode cX8_alike 2 = .ok (.invokevirtual 163, 3) := by decide +kernel
theorem dX8_alike_5 : decode cX8_alike 5 = .ok (.ifCond .eq 11, 3) := by decide +kernel
theorem dX8_alike_8 : decode cX8_alike 8 = .ok (.aload_n 0, 1) := by decide +kernel
theorem dX8_alike_9 : decode cX8_alike 9 = .ok (.iload_n 2, 1) := by decide +kernel
theorem dX8_alike_10 : decode cX8_alike 10 = .ok (.invokevirtual 163, 3) := by decide +kernel
theorem dX8_alike_13 : decode cX8_alike 13 = .ok (.ifCond .ne 5, 3) := by decide +kernel
theorem dX8_alike_16 : decode cX8_alike 16 = .ok (.iconst (-1), 1) := by decide +kernel
theorem dX8_alike_17 : decode cX8_alike 17 = .ok (.ireturn, 1) := by decide +kernel
theorem dX8_alike_18 : decode cX8_alike 18 = .ok (.aload_n 0, 1) := by decide +kernel
theorem dX8_alike_19 : decode cX8_alike 19 = .ok (.getfield 52, 3) := by decide +kernel
theorem dX8_alike_22 : decode cX8_alike 22 = .ok (.aload_n 0, 1) := by decide +kernel
theorem dX8_alike_23 : decode cX8_alike 23 = .ok (.getfield 56, 3) := by decide +kernel
theorem dX8_alike_26 : decode cX8_alike 26 = .ok (.aload_n 0, 1) := by decide +kernel
theorem dX8_alike_27 : decode cX8_alike 27 = .ok (.getfield 60, 3) := by decide +kernel
theorem dX8_alike_30 : decode cX8_alike 30 = .ok (.invokevirtual 142, 3) := by decide +kernel
theorem dX8_alike_33 : decode cX8_alike 33 = .ok (.aload_n 0, 1) := by decide +kernel
theorem dX8_alike_34 : decode cX8_alike 34 = .ok (.getfield 52, 3) := by decide +kernel
theorem dX8_alike_37 : decode cX8_alike 37 = .ok (.iload_n 1, 1) := by decide +kernel
theorem dX8_alike_38 : decode cX8_alike 38 = .ok (.iload_n 2, 1) := by decide +kernel
theorem dX8_alike_39 : decode cX8_alike 39 = .ok (.invokevirtual 166, 3) := by decide +kernel
theorem dX8_alike_42 : decode cX8_alike 42 = .ok (.invokestatic 132, 3) := by decide +kernel
theorem dX8_alike_45 : decode cX8_alike 45 = .ok (.ireturn, 1) := by decide +kernel
set_option maxRecDepth 20000 in
theorem ggX8_feed_X5_size : GoodIn wsX8_feed wsX5_size := goodIn_r _ [6, 7, 27, 28] (by decide +kernel) (by decide +kernel)
set_option maxRecDepth 20000 in
theorem gX8_feed_X5_size : GoodIn wsX8_feed (wsV RX8 170 RX5 yX5_size wsX5_size) := goodIn_app (goodIn_of _ (by decide +kernel)) ggX8_feed_X5_size
set_option maxRecDepth 20000 in
theorem ggX8_feed_X5_addNumber : GoodIn wsX8_feed wsX5_addNumber := goodIn_r _ [11, 12, 13, 14, 5, 15, 7, 16, 27, 28] (by decide +kernel) (by decide +kernel)
set_option maxRecDepth 20000 in
theorem gX8_feed_X5_addNumber : GoodIn wsX8_feed (wsV RX8 173 RX5 yX5_addNumber wsX5_addNumber) := goodIn_app (goodIn_of _ (by decide +kernel)) ggX8_feed_X5_addNumber
theorem dX8_feed_0 : decode cX8_feed 0 = .ok (.aload_n 0, 1) := by decide +kernel
theorem dX8_feed_1 : decode cX8_feed 1 = .ok (.getfield 19, 3) := by decide +kernel
theorem dX8_feed_4 : decode cX8_feed 4 = .ok (.invokevirtual 170, 3) := by decide +kernel
theorem dX8_feed_7 : decode cX8_feed 7 = .ok (.bipush 20, 2) := by decide +kernel
theorem dX8_feed_9 : decode cX8_feed 9 = .ok (.iadd, 1) := by decide +kernel
theorem dX8_feed_10 : decode cX8_feed 10 = .ok (.sipush 200, 3) := by decide +kernel
theorem dX8_feed_13 : decode cX8_feed 13 = .ok (.if_icmp .le 5, 3) := by decide +kernel
theorem dX8_feed_16 : decode cX8_feed 16 = .ok (.iconst (-1), 1) := by decide +kernel
theorem dX8_feed_17 : decode cX8_feed 17 = .ok (.ireturn, 1) := by decide +kernel
theorem dX8_feed_18 : decode cX8_feed 18 = .ok (.aload_n 0, 1) := by decide +kernel
theorem dX8_feed_19 : decode cX8_feed 19 = .ok (.getfield 19, 3) := by decide +kernel
theorem dX8_feed_22 : decode cX8_feed 22 = .ok (.iload_n 1, 1) := by decide +kernel
theorem dX8_feed_23 : decode cX8_feed 23 = .ok (.invokevirtual 173, 3) := by decide +kernel
theorem dX8_feed_26 : decode cX8_feed 26 = .ok (.aload_n 0, 1) := by decide +kernel
theorem dX8_feed_27 : decode cX8_feed 27 = .ok (.getfield 19, 3) := by decide +kernel
theorem dX8_feed_30 : decode cX8_feed 30 = .ok (.iload_n 2, 1) := by decide +kernel
theorem dX8_feed_31 : decode cX8_feed 31 = .ok (.invokevirtual 173, 3) := by decide +kernel
theorem dX8_feed_34 : decode cX8_feed 34 = .ok (.aload_n 0, 1) := by decide +kernel
theorem dX8_feed_35 : decode cX8_feed 35 = .ok (.getfield 19, 3) := by decide +kernel
theorem dX8_feed_38 : decode cX8_feed 38 = .ok (.iload_n 3, 1) := by decide +kernel
theorem dX8_feed_39 : decode cX8_feed 39 = .ok (.invokevirtual 173, 3) := by decide +kernel
theorem dX8_feed_42 : decode cX8_feed 42 = .ok (.aload_n 0, 1) := by decide +kernel
theorem dX8_feed_43 : decode cX8_feed 43 = .ok (.getfield 19, 3) := by decide +kernel
theorem dX8_feed_46 : decode cX8_feed 46 = .ok (.iload 4, 2) := by decide +kernel
theorem dX8_feed_48 : decode cX8_feed 48 = .ok (.invokevirtual 173, 3) := by decide +kernel
theorem dX8_feed_51 : decode cX8_feed 51 = .ok (.aload_n 0, 1) := by decide +kernel
theorem dX8_feed_52 : decode cX8_feed 52 = .ok (.getfield 19, 3) := by decide +kernel
theorem dX8_feed_55 : decode cX8_feed 55 = .ok (.iload 5, 2) := by decide +kernel
theorem dX8_feed_57 : decode cX8_feed 57 = .ok (.invokevirtual 173, 3) := by decide +kernel
theorem dX8_feed_60 : decode cX8_feed 60 = .ok (.aload_n 0, 1) := by decide +kernel
theorem dX8_feed_61 : decode cX8_feed 61 = .ok (.getfield 19, 3) := by decide +kernel
theorem dX8_feed_64 : decode cX8_feed 64 = .ok (.invokevirtual 170, 3) := by decide +kernel
theorem dX8_feed_67 : decode cX8_feed 67 = .ok (.ireturn, 1) := by decide +kernel
set_option maxRecDepth 20000 in
theorem ggX8_end_X5_size : GoodIn wsX8_end wsX5_size := goodIn_r _ [6, 7, 22, 23] (by decide +kernel) (by decide +kernel)
set_option maxRecDepth 20000 in
theorem gX8_end_X5_size : GoodIn wsX8_end (wsV RX8 170 RX5 yX5_size wsX5_size) := goodIn_app (goodIn_of _ (by decide +kernel)) ggX8_end_X5_size
set_option maxRecDepth 20000 in
theorem ggX8_end_X5_shorten : GoodIn wsX8_end wsX5_shorten := goodIn_r _ [11, 7, 22, 23] (by decide +kernel) (by decide +kernel)
set_option maxRecDepth 20000 in
theorem gX8_end_X5_shorten : GoodIn wsX8_end (wsV RX8 177 RX5 yX5_shorten wsX5_shorten) := goodIn_app (goodIn_of _ (by decide +kernel)) ggX8_end_X5_shorten
theorem dX8_end_0 : decode cX8_end 0 = .ok (.iload_n 1, 1) := by decide +kernel
theorem dX8_end_1 : decode cX8_end 1 = .ok (.ifCond .lt 14, 3) := by decide +kernel
theorem dX8_end_4 : decode cX8_end 4 = .ok (.iload_n 1, 1) := by decide +kernel
theorem dX8_end_5 : decode cX8_end 5 = .ok (.aload_n 0, 1) := by decide +kernel
theorem dX8_end_6 : decode cX8_end 6 = .ok (.getfield 19, 3) := by decide +kernel
theorem dX8_end_9 : decode cX8_end 9 = .ok (.invokevirtual 170, 3) := by decide +kernel
theorem dX8_end_12 : decode cX8_end 12 = .ok (.if_icmp .le 5, 3) := by decide +kernel
theorem dX8_end_15 : decode cX8_end 15 = .ok (.iconst 0, 1) := by decide +kernel
theorem dX8_end_16 : decode cX8_end 16 = .ok (.ireturn, 1) := by decide +kernel
theorem dX8_end_17 : decode cX8_end 17 = .ok (.aload_n 0, 1) := by decide +kernel
theorem dX8_end_18 : decode cX8_end 18 = .ok (.getfield 19, 3) := by decide +kernel
theorem dX8_end_21 : decode cX8_end 21 = .ok (.iload_n 1, 1) := by decide +kernel
theorem dX8_end_22 : decode cX8_end 22 = .ok (.invokevirtual 177, 3) := by decide +kernel
theorem dX8_end_25 : decode cX8_end 25 = .ok (.iconst 1, 1) := by decide +kernel
theorem dX8_end_26 : decode cX8_end 26 = .ok (.ireturn, 1) := by decide +kernel
set_option maxRecDepth 20000 in
theorem ggX8_read_X4_parse : GoodIn wsX8_read wsX4_parse := goodIn_r _ [9, 10, 11, 12, 8, 13, 14, 15, 16, 17, 18, 19, 20, 21, 22, 23, 24, 25, 26, 27, 28, 29, 30, 31, 32, 33, 34, 35, 36, 37, 38, 39, 88, 89, 90, 91] (by decide +kernel) (by decide +kernel)
set_option maxRecDepth 20000 in
theorem gX8_read_X4_parse : GoodIn wsX8_read (wsV RX8 180 RX4 yX4_parse wsX4_parse) := goodIn_app (goodIn_of _ (by decide +kernel)) ggX8_read_X4_parse
set_option maxRecDepth 20000 in
theorem ggX8_read_X5_shorten : GoodIn wsX8_read wsX5_shorten := goodIn_r _ [43, 19, 90, 91] (by decide +kernel) (by decide +kernel)
set_option maxRecDepth 20000 in
theorem gX8_read_X5_shorten : GoodIn wsX8_read (wsV RX8 177 RX5 yX5_shorten wsX5_shorten) := goodIn_app (goodIn_of _ (by decide +kernel)) ggX8_read_X5_shorten
set_option maxRecDepth 20000 in
theorem ggX8_read_X4_toldPoints : GoodIn wsX8_read wsX4_toldPoints := goodIn_r _ [47, 10, 88, 89] (by decide +kernel) (by decide +kernel)
set_option maxRecDepth 20000 in
theorem gX8_read_X4_toldPoints : GoodIn wsX8_read (wsV RX8 184 RX4 yX4_toldPoints wsX4_toldPoints) := goodIn_app (goodIn_of _ (by decide +kernel)) ggX8_read_X4_toldPoints
set_option maxRecDepth 20000 in
theorem ggX8_read_X4_toldFamily : GoodIn wsX8_read wsX4_toldFamily := goodIn_r _ [51, 32, 88, 89] (by decide +kernel) (by decide +kernel)
set_option maxRecDepth 20000 in
theorem gX8_read_X4_toldFamily : GoodIn wsX8_read (wsV RX8 187 RX4 yX4_toldFamily wsX4_toldFamily) := goodIn_app (goodIn_of _ (by decide +kernel)) ggX8_read_X4_toldFamily
set_option maxRecDepth 20000 in
theorem ggX8_read_X8_change : GoodIn wsX8_read wsX8_change := goodIn_r _ [56, 57, 58, 4, 59, 60, 61, 62, 63, 64, 65, 66, 67, 68, 69, 70, 78, 79, 80, 81, 82, 83, 84, 85, 86, 87, 92, 93, 94] (by decide +kernel) (by decide +kernel)
set_option maxRecDepth 20000 in
theorem gX8_read_X8_change : GoodIn wsX8_read (wsV RX8 67 RX8 yX8_change wsX8_change) := goodIn_app (goodIn_of _ (by decide +kernel)) ggX8_read_X8_change
set_option maxRecDepth 20000 in
theorem ggX8_read_J13_bitCount_95d88 : GoodIn wsX8_read wsJ13_bitCount_95d88 := goodIn_r _ [74, 75, 76, 77] (by decide +kernel) (by decide +kernel)
set_option maxRecDepth 20000 in
theorem gX8_read_J13_bitCount_95d88 : GoodIn wsX8_read (va_wsS RX8 75 yJ13_bitCount_95d88 wsJ13_bitCount_95d88) := goodIn_app (goodIn_of _ (by decide +kernel)) ggX8_read_J13_bitCount_95d88
theorem dX8_read_0 : decode cX8_read 0 = .ok (.aload_n 0, 1) := by decide +kernel
theorem dX8_read_1 : decode cX8_read 1 = .ok (.aload_n 0, 1) := by decide +kernel
theorem dX8_read_2 : decode cX8_read 2 = .ok (.getfield 29, 3) := by decide +kernel
theorem dX8_read_5 : decode cX8_read 5 = .ok (.aload_n 0, 1) := by decide +kernel
theorem dX8_read_6 : decode cX8_read 6 = .ok (.getfield 19, 3) := by decide +kernel
theorem dX8_read_9 : decode cX8_read 9 = .ok (.invokevirtual 180, 3) := by decide +kernel
theorem dX8_read_12 : decode cX8_read 12 = .ok (.putfield 64, 3) := by decide +kernel
theorem dX8_read_15 : decode cX8_read 15 = .ok (.aload_n 0, 1) := by decide +kernel
theorem dX8_read_16 : decode cX8_read 16 = .ok (.getfield 19, 3) := by decide +kernel
theorem dX8_read_19 : decode cX8_read 19 = .ok (.iconst 0, 1) := by decide +kernel
theorem dX8_read_20 : decode cX8_read 20 = .ok (.invokevirtual 177, 3) := by decide +kernel
theorem dX8_read_23 : decode cX8_read 23 = .ok (.aload_n 0, 1) := by decide +kernel
theorem dX8_read_24 : decode cX8_read 24 = .ok (.getfield 64, 3) := by decide +kernel
theorem dX8_read_27 : decode cX8_read 27 = .ok (.iconst (-1), 1) := by decide +kernel
theorem dX8_read_28 : decode cX8_read 28 = .ok (.if_icmp .eq 5, 3) := by decide +kernel
theorem dX8_read_31 : decode cX8_read 31 = .ok (.iconst (-1), 1) := by decide +kernel
theorem dX8_read_32 : decode cX8_read 32 = .ok (.ireturn, 1) := by decide +kernel
theorem dX8_read_33 : decode cX8_read 33 = .ok (.aload_n 0, 1) := by decide +kernel
theorem dX8_read_34 : decode cX8_read 34 = .ok (.aload_n 0, 1) := by decide +kernel
theorem dX8_read_35 : decode cX8_read 35 = .ok (.getfield 29, 3) := by decide +kernel
theorem dX8_read_38 : decode cX8_read 38 = .ok (.invokevirtual 184, 3) := by decide +kernel
theorem dX8_read_41 : decode cX8_read 41 = .ok (.aload_n 0, 1) := by decide +kernel
theorem dX8_read_42 : decode cX8_read 42 = .ok (.getfield 29, 3) := by decide +kernel
theorem dX8_read_45 : decode cX8_read 45 = .ok (.invokevirtual 187, 3) := by decide +kernel
theorem dX8_read_48 : decode cX8_read 48 = .ok (.invokevirtual 67, 3) := by decide +kernel
theorem dX8_read_51 : decode cX8_read 51 = .ok (.aload_n 0, 1) := by decide +kernel
theorem dX8_read_52 : decode cX8_read 52 = .ok (.getfield 60, 3) := by decide +kernel
theorem dX8_read_55 : decode cX8_read 55 = .ok (.invokestatic 75, 3) := by decide +kernel
theorem dX8_read_58 : decode cX8_read 58 = .ok (.ireturn, 1) := by decide +kernel
theorem dX8_fault_0 : decode cX8_fault 0 = .ok (.aload_n 0, 1) := by decide +kernel
theorem dX8_fault_1 : decode cX8_fault 1 = .ok (.getfield 64, 3) := by decide +kernel
theorem dX8_fault_4 : decode cX8_fault 4 = .ok (.ireturn, 1) := by decide +kernel
set_option maxRecDepth 20000 in
theorem ggX8_write_X5_shorten : GoodIn wsX8_write wsX5_shorten := goodIn_r _ [8, 9, 50, 51] (by decide +kernel) (by decide +kernel)
set_option maxRecDepth 20000 in
theorem gX8_write_X5_shorten : GoodIn wsX8_write (wsV RX8 177 RX5 yX5_shorten wsX5_shorten) := goodIn_app (goodIn_of _ (by decide +kernel)) ggX8_write_X5_shorten
set_option maxRecDepth 20000 in
theorem ggX8_write_X5_add : GoodIn wsX8_write wsX5_add := goodIn_r _ [13, 9, 14, 50, 51] (by decide +kernel) (by decide +kernel)
set_option maxRecDepth 20000 in
theorem gX8_write_X5_add : GoodIn wsX8_write (wsV RX8 190 RX5 yX5_add wsX5_add) := goodIn_app (goodIn_of _ (by decide +kernel)) ggX8_write_X5_add
set_option maxRecDepth 20000 in
theorem ggX8_write_X8_allPoints : GoodIn wsX8_write wsX8_allPoints := goodIn_r _ [19, 2, 40, 41, 42, 43, 44, 45, 46, 47, 48, 49] (by decide +kernel) (by decide +kernel)
set_option maxRecDepth 20000 in
theorem gX8_write_X8_allPoints : GoodIn wsX8_write (wsV RX8 95 RX8 yX8_allPoints wsX8_allPoints) := goodIn_app (goodIn_of _ (by decide +kernel)) ggX8_write_X8_allPoints
set_option maxRecDepth 20000 in
theorem ggX8_write_X6_holds : GoodIn wsX8_write wsX6_holds := goodIn_r _ [23] (by decide +kernel) (by decide +kernel)
set_option maxRecDepth 20000 in
theorem gX8_write_X6_holds : GoodIn wsX8_write (va_wsS RX8 108 yX6_holds wsX6_holds) := goodIn_app (goodIn_of _ (by decide +kernel)) ggX8_write_X6_holds
set_option maxRecDepth 20000 in
theorem ggX8_write_X6_above : GoodIn wsX8_write wsX6_above := goodIn_r _ [26, 27, 28, 22, 29] (by decide +kernel) (by decide +kernel)
set_option maxRecDepth 20000 in
theorem gX8_write_X6_above : GoodIn wsX8_write (va_wsS RX8 193 yX6_above wsX6_above) := goodIn_app (goodIn_of _ (by decide +kernel)) ggX8_write_X6_above
set_option maxRecDepth 20000 in
theorem ggX8_write_X5_addDigitsOf : GoodIn wsX8_write wsX5_addDigitsOf := goodIn_r _ [33, 34, 28, 22, 29, 35, 11, 12, 7, 13, 9, 14, 50, 51] (by decide +kernel) (by decide +kernel)
set_option maxRecDepth 20000 in
theorem gX8_write_X5_addDigitsOf : GoodIn wsX8_write (wsV RX8 196 RX5 yX5_addDigitsOf wsX5_addDigitsOf) := goodIn_app (goodIn_of _ (by decide +kernel)) ggX8_write_X5_addDigitsOf
set_option maxRecDepth 20000 in
theorem ggX8_write_X5_size : GoodIn wsX8_write wsX5_size := goodIn_r _ [39, 9, 50, 51] (by decide +kernel) (by decide +kernel)
set_option maxRecDepth 20000 in
theorem gX8_write_X5_size : GoodIn wsX8_write (wsV RX8 170 RX5 yX5_size wsX5_size) := goodIn_app (goodIn_of _ (by decide +kernel)) ggX8_write_X5_size
theorem dX8_write_0 : decode cX8_write 0 = .ok (.aload_n 0, 1) := by decide +kernel
theorem dX8_write_1 : decode cX8_write 1 = .ok (.getfield 23, 3) := by decide +kernel
theorem dX8_write_4 : decode cX8_write 4 = .ok (.iconst 0, 1) := by decide +kernel
theorem dX8_write_5 : decode cX8_write 5 = .ok (.invokevirtual 177, 3) := by decide +kernel
theorem dX8_write_8 : decode cX8_write 8 = .ok (.aload_n 0, 1) := by decide +kernel
theorem dX8_write_9 : decode cX8_write 9 = .ok (.getfield 23, 3) := by decide +kernel
theorem dX8_write_12 : decode cX8_write 12 = .ok (.bipush 48, 2) := by decide +kernel
theorem dX8_write_14 : decode cX8_write 14 = .ok (.aload_n 0, 1) := by decide +kernel
theorem dX8_write_15 : decode cX8_write 15 = .ok (.getfield 56, 3) := by decide +kernel
theorem dX8_write_18 : decode cX8_write 18 = .ok (.iadd, 1) := by decide +kernel
theorem dX8_write_19 : decode cX8_write 19 = .ok (.invokevirtual 190, 3) := by decide +kernel
theorem dX8_write_22 : decode cX8_write 22 = .ok (.aload_n 0, 1) := by decide +kernel
theorem dX8_write_23 : decode cX8_write 23 = .ok (.getfield 23, 3) := by decide +kernel
theorem dX8_write_26 : decode cX8_write 26 = .ok (.bipush 58, 2) := by decide +kernel
theorem dX8_write_28 : decode cX8_write 28 = .ok (.invokevirtual 190, 3) := by decide +kernel
theorem dX8_write_31 : decode cX8_write 31 = .ok (.iconst 1, 1) := by decide +kernel
theorem dX8_write_32 : decode cX8_write 32 = .ok (.istore_n 1, 1) := by decide +kernel
theorem dX8_write_33 : decode cX8_write 33 = .ok (.iload_n 1, 1) := by decide +kernel
theorem dX8_write_34 : decode cX8_write 34 = .ok (.aload_n 0, 1) := by decide +kernel
theorem dX8_write_35 : decode cX8_write 35 = .ok (.invokevirtual 95, 3) := by decide +kernel
theorem dX8_write_38 : decode cX8_write 38 = .ok (.if_icmp .gt 51, 3) := by decide +kernel
theorem dX8_write_41 : decode cX8_write 41 = .ok (.aload_n 0, 1) := by decide +kernel
theorem dX8_write_42 : decode cX8_write 42 = .ok (.getfield 60, 3) := by decide +kernel
theorem dX8_write_45 : decode cX8_write 45 = .ok (.iload_n 1, 1) := by decide +kernel
theorem dX8_write_46 : decode cX8_write 46 = .ok (.invokestatic 108, 3) := by decide +kernel
theorem dX8_write_49 : decode cX8_write 49 = .ok (.ifCond .eq 34, 3) := by decide +kernel
theorem dX8_write_52 : decode cX8_write 52 = .ok (.aload_n 0, 1) := by decide +kernel
theorem dX8_write_53 : decode cX8_write 53 = .ok (.getfield 60, 3) := by decide +kernel
theorem dX8_write_56 : decode cX8_write 56 = .ok (.iload_n 1, 1) := by decide +kernel
theorem dX8_write_57 : decode cX8_write 57 = .ok (.invokestatic 193, 3) := by decide +kernel
theorem dX8_write_60 : decode cX8_write 60 = .ok (.land, 1) := by decide +kernel
theorem dX8_write_61 : decode cX8_write 61 = .ok (.lconst 0, 1) := by decide +kernel
theorem dX8_write_62 : decode cX8_write 62 = .ok (.lcmp, 1) := by decide +kernel
theorem dX8_write_63 : decode cX8_write 63 = .ok (.ifCond .ne 20, 3) := by decide +kernel
theorem dX8_write_66 : decode cX8_write 66 = .ok (.aload_n 0, 1) := by decide +kernel
theorem dX8_write_67 : decode cX8_write 67 = .ok (.getfield 23, 3) := by decide +kernel
theorem dX8_write_70 : decode cX8_write 70 = .ok (.bipush 32, 2) := by decide +kernel
theorem dX8_write_72 : decode cX8_write 72 = .ok (.invokevirtual 190, 3) := by decide +kernel
theorem dX8_write_75 : decode cX8_write 75 = .ok (.aload_n 0, 1) := by decide +kernel
theorem dX8_write_76 : decode cX8_write 76 = .ok (.getfield 23, 3) := by decide +kernel
theorem dX8_write_79 : decode cX8_write 79 = .ok (.iload_n 1, 1) := by decide +kernel
theorem dX8_write_80 : decode cX8_write 80 = .ok (.invokevirtual 196, 3) := by decide +kernel
theorem dX8_write_83 : decode cX8_write 83 = .ok (.iinc 1 1, 3) := by decide +kernel
theorem dX8_write_86 : decode cX8_write 86 = .ok (.goto (-53), 3) := by decide +kernel
theorem dX8_write_89 : decode cX8_write 89 = .ok (.aload_n 0, 1) := by decide +kernel
theorem dX8_write_90 : decode cX8_write 90 = .ok (.getfield 23, 3) := by decide +kernel
theorem dX8_write_93 : decode cX8_write 93 = .ok (.invokevirtual 170, 3) := by decide +kernel
theorem dX8_write_96 : decode cX8_write 96 = .ok (.ireturn, 1) := by decide +kernel
set_option maxRecDepth 20000 in
theorem ggX8_out_X5_at : GoodIn wsX8_out wsX5_at := goodIn_r _ [6, 7, 8, 19, 20] (by decide +kernel) (by decide +kernel)
set_option maxRecDepth 20000 in
theorem gX8_out_X5_at : GoodIn wsX8_out (wsV RX8 199 RX5 yX5_at wsX5_at) := goodIn_app (goodIn_of _ (by decide +kernel)) ggX8_out_X5_at
theorem dX8_out_0 : decode cX8_out 0 = .ok (.aload_n 0, 1) := by decide +kernel
theorem dX8_out_1 : decode cX8_out 1 = .ok (.getfield 23, 3) := by decide +kernel
theorem dX8_out_4 : decode cX8_out 4 = .ok (.iload_n 1, 1) := by decide +kernel
theorem dX8_out_5 : decode cX8_out 5 = .ok (.invokevirtual 199, 3) := by decide +kernel
theorem dX8_out_8 : decode cX8_out 8 = .ok (.ireturn, 1) := by decide +kernel
set_option maxRecDepth 20000 in
theorem ggX8_take_X5_shorten : GoodIn wsX8_take wsX5_shorten := goodIn_r _ [7, 8, 32, 33] (by decide +kernel) (by decide +kernel)
set_option maxRecDepth 20000 in
theorem gX8_take_X5_shorten : GoodIn wsX8_take (wsV RX8 177 RX5 yX5_shorten wsX5_shorten) := goodIn_app (goodIn_of _ (by decide +kernel)) ggX8_take_X5_shorten
set_option maxRecDepth 20000 in
theorem ggX8_take_X5_size : GoodIn wsX8_take wsX5_size := goodIn_r _ [12, 8, 32, 33] (by decide +kernel) (by decide +kernel)
set_option maxRecDepth 20000 in
theorem gX8_take_X5_size : GoodIn wsX8_take (wsV RX8 170 RX5 yX5_size wsX5_size) := goodIn_app (goodIn_of _ (by decide +kernel)) ggX8_take_X5_size
set_option maxRecDepth 20000 in
theorem ggX8_take_X5_at : GoodIn wsX8_take wsX5_at := goodIn_r _ [16, 8, 17, 32, 33] (by decide +kernel) (by decide +kernel)
set_option maxRecDepth 20000 in
theorem gX8_take_X5_at : GoodIn wsX8_take (wsV RX8 199 RX5 yX5_at wsX5_at) := goodIn_app (goodIn_of _ (by decide +kernel)) ggX8_take_X5_at
set_option maxRecDepth 20000 in
theorem ggX8_take_X5_add : GoodIn wsX8_take wsX5_add := goodIn_r _ [21, 8, 17, 32, 33] (by decide +kernel) (by decide +kernel)
set_option maxRecDepth 20000 in
theorem gX8_take_X5_add : GoodIn wsX8_take (wsV RX8 190 RX5 yX5_add wsX5_add) := goodIn_app (goodIn_of _ (by decide +kernel)) ggX8_take_X5_add
theorem dX8_take_0 : decode cX8_take 0 = .ok (.aload_n 0, 1) := by decide +kernel
theorem dX8_take_1 : decode cX8_take 1 = .ok (.getfield 19, 3) := by decide +kernel
theorem dX8_take_4 : decode cX8_take 4 = .ok (.iconst 0, 1) := by decide +kernel
theorem dX8_take_5 : decode cX8_take 5 = .ok (.invokevirtual 177, 3) := by decide +kernel
theorem dX8_take_8 : decode cX8_take 8 = .ok (.iconst 0, 1) := by decide +kernel
theorem dX8_take_9 : decode cX8_take 9 = .ok (.istore_n 1, 1) := by decide +kernel
theorem dX8_take_10 : decode cX8_take 10 = .ok (.iload_n 1, 1) := by decide +kernel
theorem dX8_take_11 : decode cX8_take 11 = .ok (.aload_n 0, 1) := by decide +kernel
theorem dX8_take_12 : decode cX8_take 12 = .ok (.getfield 23, 3) := by decide +kernel
theorem dX8_take_15 : decode cX8_take 15 = .ok (.invokevirtual 170, 3) := by decide +kernel
theorem dX8_take_18 : decode cX8_take 18 = .ok (.if_icmp .ge 24, 3) := by decide +kernel
theorem dX8_take_21 : decode cX8_take 21 = .ok (.aload_n 0, 1) := by decide +kernel
theorem dX8_take_22 : decode cX8_take 22 = .ok (.getfield 19, 3) := by decide +kernel
theorem dX8_take_25 : decode cX8_take 25 = .ok (.aload_n 0, 1) := by decide +kernel
theorem dX8_take_26 : decode cX8_take 26 = .ok (.getfield 23, 3) := by decide +kernel
theorem dX8_take_29 : decode cX8_take 29 = .ok (.iload_n 1, 1) := by decide +kernel
theorem dX8_take_30 : decode cX8_take 30 = .ok (.invokevirtual 199, 3) := by decide +kernel
theorem dX8_take_33 : decode cX8_take 33 = .ok (.invokevirtual 190, 3) := by decide +kernel
theorem dX8_take_36 : decode cX8_take 36 = .ok (.iinc 1 1, 3) := by decide +kernel
theorem dX8_take_39 : decode cX8_take 39 = .ok (.goto (-29), 3) := by decide +kernel
theorem dX8_take_42 : decode cX8_take 42 = .ok (.aload_n 0, 1) := by decide +kernel
theorem dX8_take_43 : decode cX8_take 43 = .ok (.getfield 19, 3) := by decide +kernel
theorem dX8_take_46 : decode cX8_take 46 = .ok (.invokevirtual 170, 3) := by decide +kernel
theorem dX8_take_49 : decode cX8_take 49 = .ok (.ireturn, 1) := by decide +kernel
set_option maxRecDepth 20000 in
theorem ggX8_change_X1_keep : GoodIn wsX8_change wsX1_keep := goodIn_r _ [8, 9, 10, 11, 12, 13, 14, 15, 26, 27, 28] (by decide +kernel) (by decide +kernel)
set_option maxRecDepth 20000 in
theorem gX8_change_X1_keep : GoodIn wsX8_change (wsV RX8 202 RX1 yX1_keep wsX1_keep) := goodIn_app (goodIn_of _ (by decide +kernel)) ggX8_change_X1_keep
theorem dX8_change_0 : decode cX8_change 0 = .ok (.aload_n 0, 1) := by decide +kernel
theorem dX8_change_1 : decode cX8_change 1 = .ok (.getfield 10, 3) := by decide +kernel
theorem dX8_change_4 : decode cX8_change 4 = .ok (.aload_n 0, 1) := by decide +kernel
theorem dX8_change_5 : decode cX8_change 5 = .ok (.getfield 56, 3) := by decide +kernel
theorem dX8_change_8 : decode cX8_change 8 = .ok (.aload_n 0, 1) := by decide +kernel
theorem dX8_change_9 : decode cX8_change 9 = .ok (.getfield 60, 3) := by decide +kernel
theorem dX8_change_12 : decode cX8_change 12 = .ok (.invokevirtual 202, 3) := by decide +kernel
theorem dX8_change_15 : decode cX8_change 15 = .ok (.aload_n 0, 1) := by decide +kernel
theorem dX8_change_16 : decode cX8_change 16 = .ok (.iload_n 1, 1) := by decide +kernel
theorem dX8_change_17 : decode cX8_change 17 = .ok (.putfield 56, 3) := by decide +kernel
theorem dX8_change_20 : decode cX8_change 20 = .ok (.aload_n 0, 1) := by decide +kernel
theorem dX8_change_21 : decode cX8_change 21 = .ok (.lload_n 2, 1) := by decide +kernel
theorem dX8_change_22 : decode cX8_change 22 = .ok (.putfield 60, 3) := by decide +kernel
theorem dX8_change_25 : decode cX8_change 25 = .ok (.return_, 1) := by decide +kernel
theorem dX8_allPoints_0 : decode cX8_allPoints 0 = .ok (.iconst 1, 1) := by decide +kernel
theorem dX8_allPoints_1 : decode cX8_allPoints 1 = .ok (.aload_n 0, 1) := by decide +kernel
theorem dX8_allPoints_2 : decode cX8_allPoints 2 = .ok (.getfield 56, 3) := by decide +kernel
theorem dX8_allPoints_5 : decode cX8_allPoints 5 = .ok (.ishl, 1) := by decide +kernel
theorem dX8_allPoints_6 : decode cX8_allPoints 6 = .ok (.iconst 1, 1) := by decide +kernel
theorem dX8_allPoints_7 : decode cX8_allPoints 7 = .ok (.isub, 1) := by decide +kernel
theorem dX8_allPoints_8 : decode cX8_allPoints 8 = .ok (.ireturn, 1) := by decide +kernel
set_option maxRecDepth 20000 in
theorem ggX8_isSet_X8_allPoints : GoodIn wsX8_isSet wsX8_allPoints := goodIn_r _ [5, 6, 7, 8, 9, 10, 11, 12, 13, 14, 15, 16] (by decide +kernel) (by decide +kernel)
set_option maxRecDepth 20000 in
theorem gX8_isSet_X8_allPoints : GoodIn wsX8_isSet (wsV RX8 95 RX8 yX8_allPoints wsX8_allPoints) := goodIn_app (goodIn_of _ (by decide +kernel)) ggX8_isSet_X8_allPoints
theorem dX8_isSet_0 : decode cX8_isSet 0 = .ok (.iload_n 1, 1) := by decide +kernel
theorem dX8_isSet_1 : decode cX8_isSet 1 = .ok (.ifCond .lt 15, 3) := by decide +kernel
theorem dX8_isSet_4 : decode cX8_isSet 4 = .ok (.iload_n 1, 1) := by decide +kernel
theorem dX8_isSet_5 : decode cX8_isSet 5 = .ok (.aload_n 0, 1) := by decide +kernel
theorem dX8_isSet_6 : decode cX8_isSet 6 = .ok (.invokevirtual 95, 3) := by decide +kernel
theorem dX8_isSet_9 : decode cX8_isSet 9 = .ok (.if_icmp .gt 7, 3) := by decide +kernel
theorem dX8_isSet_12 : decode cX8_isSet 12 = .ok (.iconst 1, 1) := by decide +kernel
theorem dX8_isSet_13 : decode cX8_isSet 13 = .ok (.goto 4, 3) := by decide +kernel
theorem dX8_isSet_16 : decode cX8_isSet 16 = .ok (.iconst 0, 1) := by decide +kernel
theorem dX8_isSet_17 : decode cX8_isSet 17 = .ok (.ireturn, 1) := by decide +kernel
set_option maxRecDepth 20000 in
theorem ggX8_isNonemptyFace_X8_isSet : GoodIn wsX8_isNonemptyFace wsX8_isSet := goodIn_r _ [6, 7, 8, 9, 5, 10, 11, 16, 17, 18, 19, 20, 21, 22, 23, 24, 25] (by decide +kernel) (by decide +kernel)
set_option maxRecDepth 20000 in
theorem gX8_isNonemptyFace_X8_isSet : GoodIn wsX8_isNonemptyFace (wsV RX8 71 RX8 yX8_isSet wsX8_isSet) := goodIn_app (goodIn_of _ (by decide +kernel)) ggX8_isNonemptyFace_X8_isSet
set_option maxRecDepth 20000 in
theorem ggX8_isNonemptyFace_X6_holds : GoodIn wsX8_isNonemptyFace wsX6_holds := goodIn_r _ [15] (by decide +kernel) (by decide +kernel)
set_option maxRecDepth 20000 in
theorem gX8_isNonemptyFace_X6_holds : GoodIn wsX8_isNonemptyFace (va_wsS RX8 108 yX6_holds wsX6_holds) := goodIn_app (goodIn_of _ (by decide +kernel)) ggX8_isNonemptyFace_X6_holds
theorem dX8_isNonemptyFace_0 : decode cX8_isNonemptyFace 0 = .ok (.iload_n 1, 1) := by decide +kernel
theorem dX8_isNonemptyFace_1 : decode cX8_isNonemptyFace 1 = .ok (.ifCond .eq 26, 3) := by decide +kernel
theorem dX8_isNonemptyFace_4 : decode cX8_isNonemptyFace 4 = .ok (.aload_n 0, 1) := by decide +kernel
theorem dX8_isNonemptyFace_5 : decode cX8_isNonemptyFace 5 = .ok (.iload_n 1, 1) := by decide +kernel
theorem dX8_isNonemptyFace_6 : decode cX8_isNonemptyFace 6 = .ok (.invokevirtual 71, 3) := by decide +kernel
theorem dX8_isNonemptyFace_9 : decode cX8_isNonemptyFace 9 = .ok (.ifCond .eq 18, 3) := by decide +kernel
theorem dX8_isNonemptyFace_12 : decode cX8_isNonemptyFace 12 = .ok (.aload_n 0, 1) := by decide +kernel
theorem dX8_isNonemptyFace_13 : decode cX8_isNonemptyFace 13 = .ok (.getfield 60, 3) := by decide +kernel
theorem dX8_isNonemptyFace_16 : decode cX8_isNonemptyFace 16 = .ok (.iload_n 1, 1) := by decide +kernel
theorem dX8_isNonemptyFace_17 : decode cX8_isNonemptyFace 17 = .ok (.invokestatic 108, 3) := by decide +kernel
theorem dX8_isNonemptyFace_20 : decode cX8_isNonemptyFace 20 = .ok (.ifCond .eq 7, 3) := by decide +kernel
theorem dX8_isNonemptyFace_23 : decode cX8_isNonemptyFace 23 = .ok (.iconst 1, 1) := by decide +kernel
theorem dX8_isNonemptyFace_24 : decode cX8_isNonemptyFace 24 = .ok (.goto 4, 3) := by decide +kernel
theorem dX8_isNonemptyFace_27 : decode cX8_isNonemptyFace 27 = .ok (.iconst 0, 1) := by decide +kernel
theorem dX8_isNonemptyFace_28 : decode cX8_isNonemptyFace 28 = .ok (.ireturn, 1) := by decide +kernel
theorem dX8_isPoint_0 : decode cX8_isPoint 0 = .ok (.iload_n 1, 1) := by decide +kernel
theorem dX8_isPoint_1 : decode cX8_isPoint 1 = .ok (.ifCond .lt 15, 3) := by decide +kernel
theorem dX8_isPoint_4 : decode cX8_isPoint 4 = .ok (.iload_n 1, 1) := by decide +kernel
theorem dX8_isPoint_5 : decode cX8_isPoint 5 = .ok (.aload_n 0, 1) := by decide +kernel
theorem dX8_isPoint_6 : decode cX8_isPoint 6 = .ok (.getfield 56, 3) := by decide +kernel
theorem dX8_isPoint_9 : decode cX8_isPoint 9 = .ok (.if_icmp .ge 7, 3) := by decide +kernel
theorem dX8_isPoint_12 : decode cX8_isPoint 12 = .ok (.iconst 1, 1) := by decide +kernel
theorem dX8_isPoint_13 : decode cX8_isPoint 13 = .ok (.goto 4, 3) := by decide +kernel
theorem dX8_isPoint_16 : decode cX8_isPoint 16 = .ok (.iconst 0, 1) := by decide +kernel
theorem dX8_isPoint_17 : decode cX8_isPoint 17 = .ok (.ireturn, 1) := by decide +kernel
theorem dX8_asNumber_0 : decode cX8_asNumber 0 = .ok (.iload_n 0, 1) := by decide +kernel
theorem dX8_asNumber_1 : decode cX8_asNumber 1 = .ok (.ifCond .eq 7, 3) := by decide +kernel
theorem dX8_asNumber_4 : decode cX8_asNumber 4 = .ok (.iconst 1, 1) := by decide +kernel
theorem dX8_asNumber_5 : decode cX8_asNumber 5 = .ok (.goto 4, 3) := by decide +kernel
theorem dX8_asNumber_8 : decode cX8_asNumber 8 = .ok (.iconst 0, 1) := by decide +kernel
theorem dX8_asNumber_9 : decode cX8_asNumber 9 = .ok (.ireturn, 1) := by decide +kernel
set_option maxRecDepth 20000 in
theorem ggX8_greatestDimension_X6_ofSize : GoodIn wsX8_greatestDimension wsX6_ofSize := goodIn_r _ [5, 6] (by decide +kernel) (by decide +kernel)
set_option maxRecDepth 20000 in
theorem gX8_greatestDimension_X6_ofSize : GoodIn wsX8_greatestDimension (va_wsS RX8 129 yX6_ofSize wsX6_ofSize) := goodIn_app (goodIn_of _ (by decide +kernel)) ggX8_greatestDimension_X6_ofSize
theorem dX8_greatestDimension_0 : decode cX8_greatestDimension 0 = .ok (.iconst 5, 1) := by decide +kernel
theorem dX8_greatestDimension_1 : decode cX8_greatestDimension 1 = .ok (.istore_n 1, 1) := by decide +kernel
theorem dX8_greatestDimension_2 : decode cX8_greatestDimension 2 = .ok (.iload_n 1, 1) := by decide +kernel
theorem dX8_greatestDimension_3 : decode cX8_greatestDimension 3 = .ok (.ifCond .lt 27, 3) := by decide +kernel
theorem dX8_greatestDimension_6 : decode cX8_greatestDimension 6 = .ok (.aload_n 0, 1) := by decide +kernel
theorem dX8_greatestDimension_7 : decode cX8_greatestDimension 7 = .ok (.getfield 60, 3) := by decide +kernel
theorem dX8_greatestDimension_10 : decode cX8_greatestDimension 10 = .ok (.iload_n 1, 1) := by decide +kernel
theorem dX8_greatestDimension_11 : decode cX8_greatestDimension 11 = .ok (.iconst 1, 1) := by decide +kernel
theorem dX8_greatestDimension_12 : decode cX8_greatestDimension 12 = .ok (.iadd, 1) := by decide +kernel
theorem dX8_greatestDimension_13 : decode cX8_greatestDimension 13 = .ok (.invokestatic 129, 3) := by decide +kernel
theorem dX8_greatestDimension_16 : decode cX8_greatestDimension 16 = .ok (.land, 1) := by decide +kernel
theorem dX8_greatestDimension_17 : decode cX8_greatestDimension 17 = .ok (.lconst 0, 1) := by decide +kernel
theorem dX8_greatestDimension_18 : decode cX8_greatestDimension 18 = .ok (.lcmp, 1) := by decide +kernel
theorem dX8_greatestDimension_19 : decode cX8_greatestDimension 19 = .ok (.ifCond .eq 5, 3) := by decide +kernel
theorem dX8_greatestDimension_22 : decode cX8_greatestDimension 22 = .ok (.iload_n 1, 1) := by decide +kernel
theorem dX8_greatestDimension_23 : decode cX8_greatestDimension 23 = .ok (.ireturn, 1) := by decide +kernel
theorem dX8_greatestDimension_24 : decode cX8_greatestDimension 24 = .ok (.iinc 1 (-1), 3) := by decide +kernel
theorem dX8_greatestDimension_27 : decode cX8_greatestDimension 27 = .ok (.goto (-25), 3) := by decide +kernel
theorem dX8_greatestDimension_30 : decode cX8_greatestDimension 30 = .ok (.iconst (-1), 1) := by decide +kernel
theorem dX8_greatestDimension_31 : decode cX8_greatestDimension 31 = .ok (.ireturn, 1) := by decide +kernel
set_option maxRecDepth 20000 in
theorem ggX8_missingFamily_X8_allPoints : GoodIn wsX8_missingFamily wsX8_allPoints := goodIn_r _ [7, 8, 19, 20, 21, 22, 23, 24, 25, 26, 27, 28] (by decide +kernel) (by decide +kernel)
set_option maxRecDepth 20000 in
theorem gX8_missingFamily_X8_allPoints : GoodIn wsX8_missingFamily (wsV RX8 95 RX8 yX8_allPoints wsX8_allPoints) := goodIn_app (goodIn_of _ (by decide +kernel)) ggX8_missingFamily_X8_allPoints
set_option maxRecDepth 20000 in
theorem ggX8_missingFamily_X6_holds : GoodIn wsX8_missingFamily wsX6_holds := goodIn_r _ [12] (by decide +kernel) (by decide +kernel)
set_option maxRecDepth 20000 in
theorem gX8_missingFamily_X6_holds : GoodIn wsX8_missingFamily (va_wsS RX8 108 yX6_holds wsX6_holds) := goodIn_app (goodIn_of _ (by decide +kernel)) ggX8_missingFamily_X6_holds
set_option maxRecDepth 20000 in
theorem ggX8_missingFamily_X6_below : GoodIn wsX8_missingFamily wsX6_below := goodIn_r _ [15, 16, 17, 11, 18] (by decide +kernel) (by decide +kernel)
set_option maxRecDepth 20000 in
theorem gX8_missingFamily_X6_below : GoodIn wsX8_missingFamily (va_wsS RX8 205 yX6_below wsX6_below) := goodIn_app (goodIn_of _ (by decide +kernel)) ggX8_missingFamily_X6_below
theorem dX8_missingFamily_0 : decode cX8_missingFamily 0 = .ok (.lconst 0, 1) := by decide +kernel
theorem dX8_missingFamily_1 : decode cX8_missingFamily 1 = .ok (.lstore_n 1, 1) := by decide +kernel
theorem dX8_missingFamily_2 : decode cX8_missingFamily 2 = .ok (.iconst 1, 1) := by decide +kernel
theorem dX8_missingFamily_3 : decode cX8_missingFamily 3 = .ok (.istore_n 3, 1) := by decide +kernel
theorem dX8_missingFamily_4 : decode cX8_missingFamily 4 = .ok (.iload_n 3, 1) := by decide +kernel
theorem dX8_missingFamily_5 : decode cX8_missingFamily 5 = .ok (.aload_n 0, 1) := by decide +kernel
theorem dX8_missingFamily_6 : decode cX8_missingFamily 6 = .ok (.invokevirtual 95, 3) := by decide +kernel
theorem dX8_missingFamily_9 : decode cX8_missingFamily 9 = .ok (.if_icmp .gt 44, 3) := by decide +kernel
theorem dX8_missingFamily_12 : decode cX8_missingFamily 12 = .ok (.aload_n 0, 1) := by decide +kernel
theorem dX8_missingFamily_13 : decode cX8_missingFamily 13 = .ok (.getfield 60, 3) := by decide +kernel
theorem dX8_missingFamily_16 : decode cX8_missingFamily 16 = .ok (.iload_n 3, 1) := by decide +kernel
theorem dX8_missingFamily_17 : decode cX8_missingFamily 17 = .ok (.invokestatic 108, 3) := by decide +kernel
theorem dX8_missingFamily_20 : decode cX8_missingFamily 20 = .ok (.ifCond .ne 27, 3) := by decide +kernel
theorem dX8_missingFamily_23 : decode cX8_missingFamily 23 = .ok (.iload_n 3, 1) := by decide +kernel
theorem dX8_missingFamily_24 : decode cX8_missingFamily 24 = .ok (.invokestatic 205, 3) := by decide +kernel
theorem dX8_missingFamily_27 : decode cX8_missingFamily 27 = .ok (.aload_n 0, 1) := by decide +kernel
theorem dX8_missingFamily_28 : decode cX8_missingFamily 28 = .ok (.getfield 60, 3) := by decide +kernel
theorem dX8_missingFamily_31 : decode cX8_missingFamily 31 = .ok (.ldc2_w 93, 3) := by decide +kernel
theorem dX8_missingFamily_34 : decode cX8_missingFamily 34 = .ok (.lxor, 1) := by decide +kernel
theorem dX8_missingFamily_35 : decode cX8_missingFamily 35 = .ok (.land, 1) := by decide +kernel
theorem dX8_missingFamily_36 : decode cX8_missingFamily 36 = .ok (.lconst 0, 1) := by decide +kernel
theorem dX8_missingFamily_37 : decode cX8_missingFamily 37 = .ok (.lcmp, 1) := by decide +kernel
theorem dX8_missingFamily_38 : decode cX8_missingFamily 38 = .ok (.ifCond .ne 9, 3) := by decide +kernel
theorem dX8_missingFamily_41 : decode cX8_missingFamily 41 = .ok (.lload_n 1, 1) := by decide +kernel
theorem dX8_missingFamily_42 : decode cX8_missingFamily 42 = .ok (.lconst 1, 1) := by decide +kernel
theorem dX8_missingFamily_43 : decode cX8_missingFamily 43 = .ok (.iload_n 3, 1) := by decide +kernel
theorem dX8_missingFamily_44 : decode cX8_missingFamily 44 = .ok (.lshl, 1) := by decide +kernel
theorem dX8_missingFamily_45 : decode cX8_missingFamily 45 = .ok (.lor, 1) := by decide +kernel
theorem dX8_missingFamily_46 : decode cX8_missingFamily 46 = .ok (.lstore_n 1, 1) := by decide +kernel
theorem dX8_missingFamily_47 : decode cX8_missingFamily 47 = .ok (.iinc 3 1, 3) := by decide +kernel
theorem dX8_missingFamily_50 : decode cX8_missingFamily 50 = .ok (.goto (-46), 3) := by decide +kernel
theorem dX8_missingFamily_53 : decode cX8_missingFamily 53 = .ok (.lload_n 1, 1) := by decide +kernel
theorem dX8_missingFamily_54 : decode cX8_missingFamily 54 = .ok (.lreturn, 1) := by decide +kernel
end
section
theorem dX9_init_0 : decode cX9_init 0 = .ok (.aload_n 0, 1) := by decide +kernel
theorem dX9_init_1 : decode cX9_init 1 = .ok (.invokespecial 1, 3) := by decide +kernel
theorem dX9_init_4 : decode cX9_init 4 = .ok (.aload_n 0, 1) := by decide +kernel
theorem dX9_init_5 : decode cX9_init 5 = .ok (.iconst 4, 1) := by decide +kernel
theorem dX9_init_6 : decode cX9_init 6 = .ok (.putfield 7, 3) := by decide +kernel
theorem dX9_init_9 : decode cX9_init 9 = .ok (.aload_n 0, 1) := by decide +kernel
theorem dX9_init_10 : decode cX9_init 10 = .ok (.lconst 1, 1) := by decide +kernel
theorem dX9_init_11 : decode cX9_init 11 = .ok (.putfield 13, 3) := by decide +kernel
theorem dX9_init_14 : decode cX9_init 14 = .ok (.aload_n 0, 1) := by decide +kernel
theorem dX9_init_15 : decode cX9_init 15 = .ok (.bipush 8, 2) := by decide +kernel
theorem dX9_init_17 : decode cX9_init 17 = .ok (.newarray .int, 2) := by decide +kernel
theorem dX9_init_19 : decode cX9_init 19 = .ok (.putfield 17, 3) := by decide +kernel
theorem dX9_init_22 : decode cX9_init 22 = .ok (.aload_n 0, 1) := by decide +kernel
theorem dX9_init_23 : decode cX9_init 23 = .ok (.bipush 8, 2) := by decide +kernel
theorem dX9_init_25 : decode cX9_init 25 = .ok (.newarray .long, 2) := by decide +kernel
theorem dX9_init_27 : decode cX9_init 27 = .ok (.putfield 21, 3) := by decide +kernel
theorem dX9_init_30 : decode cX9_init 30 = .ok (.aload_n 0, 1) := by decide +kernel
theorem dX9_init_31 : decode cX9_init 31 = .ok (.bipush 64, 2) := by decide +kernel
theorem dX9_init_33 : decode cX9_init 33 = .ok (.newarray .long, 2) := by decide +kernel
theorem dX9_init_35 : decode cX9_init 35 = .ok (.putfield 25, 3) := by decide +kernel
theorem dX9_init_38 : decode cX9_init 38 = .ok (.aload_n 0, 1) := by decide +kernel
theorem dX9_init_39 : decode cX9_init 39 = .ok (.bipush 20, 2) := by decide +kernel
theorem dX9_init_41 : decode cX9_init 41 = .ok (.newarray .long, 2) := by decide +kernel
theorem dX9_init_43 : decode cX9_init 43 = .ok (.putfield 28, 3) := by decide +kernel
theorem dX9_init_46 : decode cX9_init 46 = .ok (.aload_n 0, 1) := by decide +kernel
theorem dX9_init_47 : decode cX9_init 47 = .ok (.bipush 20, 2) := by decide +kernel
theorem dX9_init_49 : decode cX9_init 49 = .ok (.newarray .long, 2) := by decide +kernel
theorem dX9_init_51 : decode cX9_init 51 = .ok (.putfield 31, 3) := by decide +kernel
theorem dX9_init_54 : decode cX9_init 54 = .ok (.aload_n 0, 1) := by decide +kernel
theorem dX9_init_55 : decode cX9_init 55 = .ok (.bipush 20, 2) := by decide +kernel
theorem dX9_init_57 : decode cX9_init 57 = .ok (.newarray .long, 2) := by decide +kernel
theorem dX9_init_59 : decode cX9_init 59 = .ok (.putfield 34, 3) := by decide +kernel
theorem dX9_init_62 : decode cX9_init 62 = .ok (.aload_n 0, 1) := by decide +kernel
theorem dX9_init_63 : decode cX9_init 63 = .ok (.bipush 20, 2) := by decide +kernel
theorem dX9_init_65 : decode cX9_init 65 = .ok (.newarray .long, 2) := by decide +kernel
theorem dX9_init_67 : decode cX9_init 67 = .ok (.putfield 37, 3) := by decide +kernel
theorem dX9_init_70 : decode cX9_init 70 = .ok (.aload_n 0, 1) := by decide +kernel
theorem dX9_init_71 : decode cX9_init 71 = .ok (.sipush 384, 3) := by decide +kernel
theorem dX9_init_74 : decode cX9_init 74 = .ok (.newarray .int, 2) := by decide +kernel
theorem dX9_init_76 : decode cX9_init 76 = .ok (.putfield 40, 3) := by decide +kernel
theorem dX9_init_79 : decode cX9_init 79 = .ok (.aload_n 0, 1) := by decide +kernel
theorem dX9_init_80 : decode cX9_init 80 = .ok (.bipush 6, 2) := by decide +kernel
theorem dX9_init_82 : decode cX9_init 82 = .ok (.newarray .int, 2) := by decide +kernel
theorem dX9_init_84 : decode cX9_init 84 = .ok (.putfield 43, 3) := by decide +kernel
theorem dX9_init_87 : decode cX9_init 87 = .ok (.aload_n 0, 1) := by decide +kernel
theorem dX9_init_88 : decode cX9_init 88 = .ok (.sipush 200, 3) := by decide +kernel
theorem dX9_init_91 : decode cX9_init 91 = .ok (.newarray .int, 2) := by decide +kernel
theorem dX9_init_93 : decode cX9_init 93 = .ok (.putfield 46, 3) := by decide +kernel
theorem dX9_init_96 : decode cX9_init 96 = .ok (.aload_n 0, 1) := by decide +kernel
theorem dX9_init_97 : decode cX9_init 97 = .ok (.sipush 200, 3) := by decide +kernel
theorem dX9_init_100 : decode cX9_init 100 = .ok (.newarray .int, 2) := by decide +kernel
theorem dX9_init_102 : decode cX9_init 102 = .ok (.putfield 49, 3) := by decide +kernel
theorem dX9_init_105 : decode cX9_init 105 = .ok (.aload_n 0, 1) := by decide +kernel
theorem dX9_init_106 : decode cX9_init 106 = .ok (.iconst (-1), 1) := by decide +kernel
theorem dX9_init_107 : decode cX9_init 107 = .ok (.putfield 52, 3) := by decide +kernel
theorem dX9_init_110 : decode cX9_init 110 = .ok (.return_, 1) := by decide +kernel
theorem dX9_isIn_0 : decode cX9_isIn 0 = .ok (.iload_n 0, 1) := by decide +kernel
theorem dX9_isIn_1 : decode cX9_isIn 1 = .ok (.iload_n 1, 1) := by decide +kernel
theorem dX9_isIn_2 : decode cX9_isIn 2 = .ok (.if_icmp .lt 12, 3) := by decide +kernel
theorem dX9_isIn_5 : decode cX9_isIn 5 = .ok (.iload_n 0, 1) := by decide +kernel
theorem dX9_isIn_6 : decode cX9_isIn 6 = .ok (.iload_n 2, 1) := by decide +kernel
theorem dX9_isIn_7 : decode cX9_isIn 7 = .ok (.if_icmp .gt 7, 3) := by decide +kernel
theorem dX9_isIn_10 : decode cX9_isIn 10 = .ok (.iconst 1, 1) := by decide +kernel
theorem dX9_isIn_11 : decode cX9_isIn 11 = .ok (.goto 4, 3) := by decide +kernel
theorem dX9_isIn_14 : decode cX9_isIn 14 = .ok (.iconst 0, 1) := by decide +kernel
theorem dX9_isIn_15 : decode cX9_isIn 15 = .ok (.ireturn, 1) := by decide +kernel
theorem dX9_all_0 : decode cX9_all 0 = .ok (.iconst 1, 1) := by decide +kernel
theorem dX9_all_1 : decode cX9_all 1 = .ok (.aload_n 0, 1) := by decide +kernel
theorem dX9_all_2 : decode cX9_all 2 = .ok (.getfield 7, 3) := by decide +kernel
theorem dX9_all_5 : decode cX9_all 5 = .ok (.ishl, 1) := by decide +kernel
theorem dX9_all_6 : decode cX9_all 6 = .ok (.iconst 1, 1) := by decide +kernel
theorem dX9_all_7 : decode cX9_all 7 = .ok (.isub, 1) := by decide +kernel
theorem dX9_all_8 : decode cX9_all 8 = .ok (.ireturn, 1) := by decide +kernel
set_option maxRecDepth 20000 in
theorem ggX9_isSet_X9_all : GoodIn wsX9_isSet wsX9_all := goodIn_r _ [5, 6, 10, 11, 12, 13, 14, 15, 16, 17, 18, 19, 20, 21, 22, 23, 24, 25, 26, 27, 28, 29, 30, 31, 32, 33, 34, 35, 36] (by decide +kernel) (by decide +kernel)
set_option maxRecDepth 20000 in
theorem gX9_isSet_X9_all : GoodIn wsX9_isSet (wsV RX9 55 RX9 yX9_all wsX9_all) := goodIn_app (goodIn_of _ (by decide +kernel)) ggX9_isSet_X9_all
set_option maxRecDepth 20000 in
theorem ggX9_isSet_X9_isIn : GoodIn wsX9_isSet wsX9_isIn := goodIn_r _ [9] (by decide +kernel) (by decide +kernel)
set_option maxRecDepth 20000 in
theorem gX9_isSet_X9_isIn : GoodIn wsX9_isSet (va_wsS RX9 59 yX9_isIn wsX9_isIn) := goodIn_app (goodIn_of _ (by decide +kernel)) ggX9_isSet_X9_isIn
theorem dX9_isSet_0 : decode cX9_isSet 0 = .ok (.iload_n 1, 1) := by decide +kernel
theorem dX9_isSet_1 : decode cX9_isSet 1 = .ok (.iconst 0, 1) := by decide +kernel
theorem dX9_isSet_2 : decode cX9_isSet 2 = .ok (.aload_n 0, 1) := by decide +kernel
theorem dX9_isSet_3 : decode cX9_isSet 3 = .ok (.invokevirtual 55, 3) := by decide +kernel
theorem dX9_isSet_6 : decode cX9_isSet 6 = .ok (.invokestatic 59, 3) := by decide +kernel
theorem dX9_isSet_9 : decode cX9_isSet 9 = .ok (.ireturn, 1) := by decide +kernel
theorem dX9_isFace_0 : decode cX9_isFace 0 = .ok (.aload_n 0, 1) := by decide +kernel
theorem dX9_isFace_1 : decode cX9_isFace 1 = .ok (.getfield 13, 3) := by decide +kernel
theorem dX9_isFace_4 : decode cX9_isFace 4 = .ok (.iload_n 1, 1) := by decide +kernel
theorem dX9_isFace_5 : decode cX9_isFace 5 = .ok (.lshr, 1) := by decide +kernel
theorem dX9_isFace_6 : decode cX9_isFace 6 = .ok (.lconst 1, 1) := by decide +kernel
theorem dX9_isFace_7 : decode cX9_isFace 7 = .ok (.land, 1) := by decide +kernel
theorem dX9_isFace_8 : decode cX9_isFace 8 = .ok (.lconst 1, 1) := by decide +kernel
theorem dX9_isFace_9 : decode cX9_isFace 9 = .ok (.lcmp, 1) := by decide +kernel
theorem dX9_isFace_10 : decode cX9_isFace 10 = .ok (.ifCond .ne 7, 3) := by decide +kernel
theorem dX9_isFace_13 : decode cX9_isFace 13 = .ok (.iconst 1, 1) := by decide +kernel
theorem dX9_isFace_14 : decode cX9_isFace 14 = .ok (.goto 4, 3) := by decide +kernel
theorem dX9_isFace_17 : decode cX9_isFace 17 = .ok (.iconst 0, 1) := by decide +kernel
theorem dX9_isFace_18 : decode cX9_isFace 18 = .ok (.ireturn, 1) := by decide +kernel
theorem dX9_size_0 : decode cX9_size 0 = .ok (.iconst 0, 1) := by decide +kernel
theorem dX9_size_1 : decode cX9_size 1 = .ok (.istore_n 1, 1) := by decide +kernel
theorem dX9_size_2 : decode cX9_size 2 = .ok (.iconst 0, 1) := by decide +kernel
theorem dX9_size_3 : decode cX9_size 3 = .ok (.istore_n 2, 1) := by decide +kernel
theorem dX9_size_4 : decode cX9_size 4 = .ok (.iload_n 2, 1) := by decide +kernel
theorem dX9_size_5 : decode cX9_size 5 = .ok (.bipush 6, 2) := by decide +kernel
theorem dX9_size_7 : decode cX9_size 7 = .ok (.if_icmp .ge 17, 3) := by decide +kernel
theorem dX9_size_10 : decode cX9_size 10 = .ok (.iload_n 1, 1) := by decide +kernel
theorem dX9_size_11 : decode cX9_size 11 = .ok (.iload_n 0, 1) := by decide +kernel
theorem dX9_size_12 : decode cX9_size 12 = .ok (.iload_n 2, 1) := by decide +kernel
theorem dX9_size_13 : decode cX9_size 13 = .ok (.ishr, 1) := by decide +kernel
theorem dX9_size_14 : decode cX9_size 14 = .ok (.iconst 1, 1) := by decide +kernel
theorem dX9_size_15 : decode cX9_size 15 = .ok (.iand, 1) := by decide +kernel
theorem dX9_size_16 : decode cX9_size 16 = .ok (.iadd, 1) := by decide +kernel
theorem dX9_size_17 : decode cX9_size 17 = .ok (.istore_n 1, 1) := by decide +kernel
theorem dX9_size_18 : decode cX9_size 18 = .ok (.iinc 2 1, 3) := by decide +kernel
theorem dX9_size_21 : decode cX9_size 21 = .ok (.goto (-17), 3) := by decide +kernel
theorem dX9_size_24 : decode cX9_size 24 = .ok (.iload_n 1, 1) := by decide +kernel
theorem dX9_size_25 : decode cX9_size 25 = .ok (.ireturn, 1) := by decide +kernel
theorem dX9_keep_0 : decode cX9_keep 0 = .ok (.aload_n 0, 1) := by decide +kernel
theorem dX9_keep_1 : decode cX9_keep 1 = .ok (.getfield 63, 3) := by decide +kernel
theorem dX9_keep_4 : decode cX9_keep 4 = .ok (.bipush 8, 2) := by decide +kernel
theorem dX9_keep_6 : decode cX9_keep 6 = .ok (.if_icmp .ne 57, 3) := by decide +kernel
theorem dX9_keep_9 : decode cX9_keep 9 = .ok (.iconst 0, 1) := by decide +kernel
theorem dX9_keep_10 : decode cX9_keep 10 = .ok (.istore_n 1, 1) := by decide +kernel
theorem dX9_keep_11 : decode cX9_keep 11 = .ok (.iload_n 1, 1) := by decide +kernel
theorem dX9_keep_12 : decode cX9_keep 12 = .ok (.iconst 1, 1) := by decide +kernel
theorem dX9_keep_13 : decode cX9_keep 13 = .ok (.iadd, 1) := by decide +kernel
theorem dX9_keep_14 : decode cX9_keep 14 = .ok (.bipush 8, 2) := by decide +kernel
theorem dX9_keep_16 : decode cX9_keep 16 = .ok (.if_icmp .ge 37, 3) := by decide +kernel
theorem dX9_keep_19 : decode cX9_keep 19 = .ok (.aload_n 0, 1) := by decide +kernel
theorem dX9_keep_20 : decode cX9_keep 20 = .ok (.getfield 17, 3) := by decide +kernel
theorem dX9_keep_23 : decode cX9_keep 23 = .ok (.iload_n 1, 1) := by decide +kernel
theorem dX9_keep_24 : decode cX9_keep 24 = .ok (.aload_n 0, 1) := by decide +kernel
theorem dX9_keep_25 : decode cX9_keep 25 = .ok (.getfield 17, 3) := by decide +kernel
theorem dX9_keep_28 : decode cX9_keep 28 = .ok (.iload_n 1, 1) := by decide +kernel
theorem dX9_keep_29 : decode cX9_keep 29 = .ok (.iconst 1, 1) := by decide +kernel
theorem dX9_keep_30 : decode cX9_keep 30 = .ok (.iadd, 1) := by decide +kernel
theorem dX9_keep_31 : decode cX9_keep 31 = .ok (.iaload, 1) := by decide +kernel
theorem dX9_keep_32 : decode cX9_keep 32 = .ok (.iastore, 1) := by decide +kernel
theorem dX9_keep_33 : decode cX9_keep 33 = .ok (.aload_n 0, 1) := by decide +kernel
theorem dX9_keep_34 : decode cX9_keep 34 = .ok (.getfield 21, 3) := by decide +kernel
theorem dX9_keep_37 : decode cX9_keep 37 = .ok (.iload_n 1, 1) := by decide +kernel
theorem dX9_keep_38 : decode cX9_keep 38 = .ok (.aload_n 0, 1) := by decide +kernel
theorem dX9_keep_39 : decode cX9_keep 39 = .ok (.getfield 21, 3) := by decide +kernel
theorem dX9_keep_42 : decode cX9_keep 42 = .ok (.iload_n 1, 1) := by decide +kernel
theorem dX9_keep_43 : decode cX9_keep 43 = .ok (.iconst 1, 1) := by decide +kernel
theorem dX9_keep_44 : decode cX9_keep 44 = .ok (.iadd, 1) := by decide +kernel
theorem dX9_keep_45 : decode cX9_keep 45 = .ok (.laload, 1) := by decide +kernel
theorem dX9_keep_46 : decode cX9_keep 46 = .ok (.lastore, 1) := by decide +kernel
theorem dX9_keep_47 : decode cX9_keep 47 = .ok (.iinc 1 1, 3) := by decide +kernel
theorem dX9_keep_50 : decode cX9_keep 50 = .ok (.goto (-39), 3) := by decide +kernel
theorem dX9_keep_53 : decode cX9_keep 53 = .ok (.aload_n 0, 1) := by decide +kernel
theorem dX9_keep_54 : decode cX9_keep 54 = .ok (.dup, 1) := by decide +kernel
theorem dX9_keep_55 : decode cX9_keep 55 = .ok (.getfield 63, 3) := by decide +kernel
theorem dX9_keep_58 : decode cX9_keep 58 = .ok (.iconst 1, 1) := by decide +kernel
theorem dX9_keep_59 : decode cX9_keep 59 = .ok (.isub, 1) := by decide +kernel
theorem dX9_keep_60 : decode cX9_keep 60 = .ok (.putfield 63, 3) := by decide +kernel
theorem dX9_keep_63 : decode cX9_keep 63 = .ok (.aload_n 0, 1) := by decide +kernel
theorem dX9_keep_64 : decode cX9_keep 64 = .ok (.getfield 17, 3) := by decide +kernel
theorem dX9_keep_67 : decode cX9_keep 67 = .ok (.aload_n 0, 1) := by decide +kernel
theorem dX9_keep_68 : decode cX9_keep 68 = .ok (.getfield 63, 3) := by decide +kernel
theorem dX9_keep_71 : decode cX9_keep 71 = .ok (.aload_n 0, 1) := by decide +kernel
theorem dX9_keep_72 : decode cX9_keep 72 = .ok (.getfield 7, 3) := by decide +kernel
theorem dX9_keep_75 : decode cX9_keep 75 = .ok (.iastore, 1) := by decide +kernel
theorem dX9_keep_76 : decode cX9_keep 76 = .ok (.aload_n 0, 1) := by decide +kernel
theorem dX9_keep_77 : decode cX9_keep 77 = .ok (.getfield 21, 3) := by decide +kernel
theorem dX9_keep_80 : decode cX9_keep 80 = .ok (.aload_n 0, 1) := by decide +kernel
theorem dX9_keep_81 : decode cX9_keep 81 = .ok (.getfield 63, 3) := by decide +kernel
theorem dX9_keep_84 : decode cX9_keep 84 = .ok (.aload_n 0, 1) := by decide +kernel
theorem dX9_keep_85 : decode cX9_keep 85 = .ok (.getfield 13, 3) := by decide +kernel
theorem dX9_keep_88 : decode cX9_keep 88 = .ok (.lastore, 1) := by decide +kernel
theorem dX9_keep_89 : decode cX9_keep 89 = .ok (.aload_n 0, 1) := by decide +kernel
theorem dX9_keep_90 : decode cX9_keep 90 = .ok (.dup, 1) := by decide +kernel
theorem dX9_keep_91 : decode cX9_keep 91 = .ok (.getfield 63, 3) := by decide +kernel
theorem dX9_keep_94 : decode cX9_keep 94 = .ok (.iconst 1, 1) := by decide +kernel
theorem dX9_keep_95 : decode cX9_keep 95 = .ok (.iadd, 1) := by decide +kernel
theorem dX9_keep_96 : decode cX9_keep 96 = .ok (.putfield 63, 3) := by decide +kernel
theorem dX9_keep_99 : decode cX9_keep 99 = .ok (.return_, 1) := by decide +kernel
set_option maxRecDepth 20000 in
theorem ggX9_becomes_X9_keep : GoodIn wsX9_becomes wsX9_keep := goodIn_r _ [7, 8, 9, 10, 1, 2, 11, 12, 13, 14, 15, 16, 17, 18, 19, 20, 21, 22, 23, 24, 25, 26, 27, 28, 29, 30, 31, 32, 33, 34, 35, 36, 37] (by decide +kernel) (by decide +kernel)
set_option maxRecDepth 20000 in
theorem gX9_becomes_X9_keep : GoodIn wsX9_becomes (wsV RX9 66 RX9 yX9_keep wsX9_keep) := goodIn_app (goodIn_of _ (by decide +kernel)) ggX9_becomes_X9_keep
theorem dX9_becomes_0 : decode cX9_becomes 0 = .ok (.aload_n 0, 1) := by decide +kernel
theorem dX9_becomes_1 : decode cX9_becomes 1 = .ok (.invokevirtual 66, 3) := by decide +kernel
theorem dX9_becomes_4 : decode cX9_becomes 4 = .ok (.aload_n 0, 1) := by decide +kernel
theorem dX9_becomes_5 : decode cX9_becomes 5 = .ok (.iload_n 1, 1) := by decide +kernel
theorem dX9_becomes_6 : decode cX9_becomes 6 = .ok (.putfield 7, 3) := by decide +kernel
theorem dX9_becomes_9 : decode cX9_becomes 9 = .ok (.aload_n 0, 1) := by decide +kernel
theorem dX9_becomes_10 : decode cX9_becomes 10 = .ok (.lload_n 2, 1) := by decide +kernel
theorem dX9_becomes_11 : decode cX9_becomes 11 = .ok (.putfield 13, 3) := by decide +kernel
theorem dX9_becomes_14 : decode cX9_becomes 14 = .ok (.return_, 1) := by decide +kernel
theorem dX9_undo_0 : decode cX9_undo 0 = .ok (.aload_n 0, 1) := by decide +kernel
theorem dX9_undo_1 : decode cX9_undo 1 = .ok (.getfield 63, 3) := by decide +kernel
theorem dX9_undo_4 : decode cX9_undo 4 = .ok (.ifCond .ne 5, 3) := by decide +kernel
theorem dX9_undo_7 : decode cX9_undo 7 = .ok (.iconst 0, 1) := by decide +kernel
theorem dX9_undo_8 : decode cX9_undo 8 = .ok (.ireturn, 1) := by decide +kernel
theorem dX9_undo_9 : decode cX9_undo 9 = .ok (.aload_n 0, 1) := by decide +kernel
theorem dX9_undo_10 : decode cX9_undo 10 = .ok (.dup, 1) := by decide +kernel
theorem dX9_undo_11 : decode cX9_undo 11 = .ok (.getfield 63, 3) := by decide +kernel
theorem dX9_undo_14 : decode cX9_undo 14 = .ok (.iconst 1, 1) := by decide +kernel
theorem dX9_undo_15 : decode cX9_undo 15 = .ok (.isub, 1) := by decide +kernel
theorem dX9_undo_16 : decode cX9_undo 16 = .ok (.putfield 63, 3) := by decide +kernel
theorem dX9_undo_19 : decode cX9_undo 19 = .ok (.aload_n 0, 1) := by decide +kernel
theorem dX9_undo_20 : decode cX9_undo 20 = .ok (.aload_n 0, 1) := by decide +kernel
theorem dX9_undo_21 : decode cX9_undo 21 = .ok (.getfield 17, 3) := by decide +kernel
theorem dX9_undo_24 : decode cX9_undo 24 = .ok (.aload_n 0, 1) := by decide +kernel
theorem dX9_undo_25 : decode cX9_undo 25 = .ok (.getfield 63, 3) := by decide +kernel
theorem dX9_undo_28 : decode cX9_undo 28 = .ok (.iaload, 1) := by decide +kernel
theorem dX9_undo_29 : decode cX9_undo 29 = .ok (.putfield 7, 3) := by decide +kernel
theorem dX9_undo_32 : decode cX9_undo 32 = .ok (.aload_n 0, 1) := by decide +kernel
theorem dX9_undo_33 : decode cX9_undo 33 = .ok (.aload_n 0, 1) := by decide +kernel
theorem dX9_undo_34 : decode cX9_undo 34 = .ok (.getfield 21, 3) := by decide +kernel
theorem dX9_undo_37 : decode cX9_undo 37 = .ok (.aload_n 0, 1) := by decide +kernel
theorem dX9_undo_38 : decode cX9_undo 38 = .ok (.getfield 63, 3) := by decide +kernel
theorem dX9_undo_41 : decode cX9_undo 41 = .ok (.laload, 1) := by decide +kernel
theorem dX9_undo_42 : decode cX9_undo 42 = .ok (.putfield 13, 3) := by decide +kernel
theorem dX9_undo_45 : decode cX9_undo 45 = .ok (.iconst 1, 1) := by decide +kernel
theorem dX9_undo_46 : decode cX9_undo 46 = .ok (.ireturn, 1) := by decide +kernel
set_option maxRecDepth 20000 in
theorem ggX9_points_X9_isIn : GoodIn wsX9_points wsX9_isIn := goodIn_r _ [4] (by decide +kernel) (by decide +kernel)
set_option maxRecDepth 20000 in
theorem gX9_points_X9_isIn : GoodIn wsX9_points (va_wsS RX9 59 yX9_isIn wsX9_isIn) := goodIn_app (goodIn_of _ (by decide +kernel)) ggX9_points_X9_isIn
set_option maxRecDepth 20000 in
theorem ggX9_points_X9_becomes : GoodIn wsX9_points wsX9_becomes := goodIn_r _ [8, 9, 10, 11, 12, 13, 3, 14, 15, 16, 17, 18, 19, 20, 21, 22, 23, 24, 25, 26, 27, 28, 29, 30, 31, 32, 33, 34, 35, 36, 37, 38, 39, 40, 41, 42, 43, 44] (by decide +kernel) (by decide +kernel)
set_option maxRecDepth 20000 in
theorem gX9_points_X9_becomes : GoodIn wsX9_points (wsV RX9 69 RX9 yX9_becomes wsX9_becomes) := goodIn_app (goodIn_of _ (by decide +kernel)) ggX9_points_X9_becomes
theorem dX9_points_0 : decode cX9_points 0 = .ok (.iload_n 1, 1) := by decide +kernel
theorem dX9_points_1 : decode cX9_points 1 = .ok (.iconst 1, 1) := by decide +kernel
theorem dX9_points_2 : decode cX9_points 2 = .ok (.bipush 6, 2) := by decide +kernel
theorem dX9_points_4 : decode cX9_points 4 = .ok (.invokestatic 59, 3) := by decide +kernel
theorem dX9_points_7 : decode cX9_points 7 = .ok (.ifCond .ne 5, 3) := by decide +kernel
theorem dX9_points_10 : decode cX9_points 10 = .ok (.iconst 0, 1) := by decide +kernel
theorem dX9_points_11 : decode cX9_points 11 = .ok (.ireturn, 1) := by decide +kernel
theorem dX9_points_12 : decode cX9_points 12 = .ok (.aload_n 0, 1) := by decide +kernel
theorem dX9_points_13 : decode cX9_points 13 = .ok (.iload_n 1, 1) := by decide +kernel
theorem dX9_points_14 : decode cX9_points 14 = .ok (.lconst 1, 1) := by decide +kernel
theorem dX9_points_15 : decode cX9_points 15 = .ok (.invokevirtual 69, 3) := by decide +kernel
theorem dX9_points_18 : decode cX9_points 18 = .ok (.iconst 1, 1) := by decide +kernel
theorem dX9_points_19 : decode cX9_points 19 = .ok (.ireturn, 1) := by decide +kernel
theorem dX9_within_0 : decode cX9_within 0 = .ok (.lconst 0, 1) := by decide +kernel
theorem dX9_within_1 : decode cX9_within 1 = .ok (.lstore_n 1, 1) := by decide +kernel
theorem dX9_within_2 : decode cX9_within 2 = .ok (.iconst 0, 1) := by decide +kernel
theorem dX9_within_3 : decode cX9_within 3 = .ok (.istore_n 3, 1) := by decide +kernel
theorem dX9_within_4 : decode cX9_within 4 = .ok (.iload_n 3, 1) := by decide +kernel
theorem dX9_within_5 : decode cX9_within 5 = .ok (.iload_n 0, 1) := by decide +kernel
theorem dX9_within_6 : decode cX9_within 6 = .ok (.if_icmp .gt 27, 3) := by decide +kernel
theorem dX9_within_9 : decode cX9_within 9 = .ok (.lload_n 1, 1) := by decide +kernel
theorem dX9_within_10 : decode cX9_within 10 = .ok (.iload_n 3, 1) := by decide +kernel
theorem dX9_within_11 : decode cX9_within 11 = .ok (.iload_n 0, 1) := by decide +kernel
theorem dX9_within_12 : decode cX9_within 12 = .ok (.iconst (-1), 1) := by decide +kernel
theorem dX9_within_13 : decode cX9_within 13 = .ok (.ixor, 1) := by decide +kernel
theorem dX9_within_14 : decode cX9_within 14 = .ok (.iand, 1) := by decide +kernel
theorem dX9_within_15 : decode cX9_within 15 = .ok (.ifCond .ne 9, 3) := by decide +kernel
theorem dX9_within_18 : decode cX9_within 18 = .ok (.lconst 1, 1) := by decide +kernel
theorem dX9_within_19 : decode cX9_within 19 = .ok (.iload_n 3, 1) := by decide +kernel
theorem dX9_within_20 : decode cX9_within 20 = .ok (.lshl, 1) := by decide +kernel
theorem dX9_within_21 : decode cX9_within 21 = .ok (.goto 4, 3) := by decide +kernel
theorem dX9_within_24 : decode cX9_within 24 = .ok (.lconst 0, 1) := by decide +kernel
theorem dX9_within_25 : decode cX9_within 25 = .ok (.lor, 1) := by decide +kernel
theorem dX9_within_26 : decode cX9_within 26 = .ok (.lstore_n 1, 1) := by decide +kernel
theorem dX9_within_27 : decode cX9_within 27 = .ok (.iinc 3 1, 3) := by decide +kernel
theorem dX9_within_30 : decode cX9_within 30 = .ok (.goto (-26), 3) := by decide +kernel
theorem dX9_within_33 : decode cX9_within 33 = .ok (.lload_n 1, 1) := by decide +kernel
theorem dX9_within_34 : decode cX9_within 34 = .ok (.lreturn, 1) := by decide +kernel
theorem dX9_many_0 : decode cX9_many 0 = .ok (.iconst 0, 1) := by decide +kernel
theorem dX9_many_1 : decode cX9_many 1 = .ok (.istore_n 2, 1) := by decide +kernel
theorem dX9_many_2 : decode cX9_many 2 = .ok (.iconst 0, 1) := by decide +kernel
theorem dX9_many_3 : decode cX9_many 3 = .ok (.istore_n 3, 1) := by decide +kernel
theorem dX9_many_4 : decode cX9_many 4 = .ok (.iload_n 3, 1) := by decide +kernel
theorem dX9_many_5 : decode cX9_many 5 = .ok (.bipush 64, 2) := by decide +kernel
theorem dX9_many_7 : decode cX9_many 7 = .ok (.if_icmp .ge 18, 3) := by decide +kernel
theorem dX9_many_10 : decode cX9_many 10 = .ok (.iload_n 2, 1) := by decide +kernel
theorem dX9_many_11 : decode cX9_many 11 = .ok (.lload_n 0, 1) := by decide +kernel
theorem dX9_many_12 : decode cX9_many 12 = .ok (.iload_n 3, 1) := by decide +kernel
theorem dX9_many_13 : decode cX9_many 13 = .ok (.lshr, 1) := by decide +kernel
theorem dX9_many_14 : decode cX9_many 14 = .ok (.lconst 1, 1) := by decide +kernel
theorem dX9_many_15 : decode cX9_many 15 = .ok (.land, 1) := by decide +kernel
theorem dX9_many_16 : decode cX9_many 16 = .ok (.l2i, 1) := by decide +kernel
theorem dX9_many_17 : decode cX9_many 17 = .ok (.iadd, 1) := by decide +kernel
theorem dX9_many_18 : decode cX9_many 18 = .ok (.istore_n 2, 1) := by decide +kernel
theorem dX9_many_19 : decode cX9_many 19 = .ok (.iinc 3 1, 3) := by decide +kernel
theorem dX9_many_22 : decode cX9_many 22 = .ok (.goto (-18), 3) := by decide +kernel
theorem dX9_many_25 : decode cX9_many 25 = .ok (.iload_n 2, 1) := by decide +kernel
theorem dX9_many_26 : decode cX9_many 26 = .ok (.ireturn, 1) := by decide +kernel
set_option maxRecDepth 20000 in
theorem ggX9_face_X9_isSet : GoodIn wsX9_face wsX9_isSet := goodIn_r _ [7, 8, 9, 10, 6, 11, 2, 12, 13, 14, 32, 33, 34, 35, 36, 37, 38, 39, 40, 41, 42, 43, 44, 45, 46, 47, 48, 49, 50, 51, 52, 53, 54, 55, 56, 57, 58] (by decide +kernel) (by decide +kernel)
set_option maxRecDepth 20000 in
theorem gX9_face_X9_isSet : GoodIn wsX9_face (wsV RX9 73 RX9 yX9_isSet wsX9_isSet) := goodIn_app (goodIn_of _ (by decide +kernel)) ggX9_face_X9_isSet
set_option maxRecDepth 20000 in
theorem ggX9_face_X9_many : GoodIn wsX9_face wsX9_many := goodIn_r _ [17] (by decide +kernel) (by decide +kernel)
set_option maxRecDepth 20000 in
theorem gX9_face_X9_many : GoodIn wsX9_face (va_wsS RX9 77 yX9_many wsX9_many) := goodIn_app (goodIn_of _ (by decide +kernel)) ggX9_face_X9_many
set_option maxRecDepth 20000 in
theorem ggX9_face_X9_within : GoodIn wsX9_face wsX9_within := goodIn_r _ [20] (by decide +kernel) (by decide +kernel)
set_option maxRecDepth 20000 in
theorem gX9_face_X9_within : GoodIn wsX9_face (va_wsS RX9 81 yX9_within wsX9_within) := goodIn_app (goodIn_of _ (by decide +kernel)) ggX9_face_X9_within
set_option maxRecDepth 20000 in
theorem ggX9_face_X9_becomes : GoodIn wsX9_face wsX9_becomes := goodIn_r _ [24, 2, 1, 25, 26, 27, 6, 28, 29, 30, 31, 32, 33, 34, 35, 36, 37, 38, 39, 40, 41, 42, 43, 44, 45, 46, 47, 48, 49, 50, 51, 52, 53, 54, 55, 56, 57, 58] (by decide +kernel) (by decide +kernel)
set_option maxRecDepth 20000 in
theorem gX9_face_X9_becomes : GoodIn wsX9_face (wsV RX9 69 RX9 yX9_becomes wsX9_becomes) := goodIn_app (goodIn_of _ (by decide +kernel)) ggX9_face_X9_becomes
theorem dX9_face_0 : decode cX9_face 0 = .ok (.aload_n 0, 1) := by decide +kernel
theorem dX9_face_1 : decode cX9_face 1 = .ok (.iload_n 1, 1) := by decide +kernel
theorem dX9_face_2 : decode cX9_face 2 = .ok (.invokevirtual 73, 3) := by decide +kernel
theorem dX9_face_5 : decode cX9_face 5 = .ok (.ifCond .ne 5, 3) := by decide +kernel
theorem dX9_face_8 : decode cX9_face 8 = .ok (.iconst (-1), 1) := by decide +kernel
theorem dX9_face_9 : decode cX9_face 9 = .ok (.ireturn, 1) := by decide +kernel
theorem dX9_face_10 : decode cX9_face 10 = .ok (.aload_n 0, 1) := by decide +kernel
theorem dX9_face_11 : decode cX9_face 11 = .ok (.getfield 13, 3) := by decide +kernel
theorem dX9_face_14 : decode cX9_face 14 = .ok (.invokestatic 77, 3) := by decide +kernel
theorem dX9_face_17 : decode cX9_face 17 = .ok (.istore_n 2, 1) := by decide +kernel
theorem dX9_face_18 : decode cX9_face 18 = .ok (.aload_n 0, 1) := by decide +kernel
theorem dX9_face_19 : decode cX9_face 19 = .ok (.aload_n 0, 1) := by decide +kernel
theorem dX9_face_20 : decode cX9_face 20 = .ok (.getfield 7, 3) := by decide +kernel
theorem dX9_face_23 : decode cX9_face 23 = .ok (.aload_n 0, 1) := by decide +kernel
theorem dX9_face_24 : decode cX9_face 24 = .ok (.getfield 13, 3) := by decide +kernel
theorem dX9_face_27 : decode cX9_face 27 = .ok (.iload_n 1, 1) := by decide +kernel
theorem dX9_face_28 : decode cX9_face 28 = .ok (.invokestatic 81, 3) := by decide +kernel
theorem dX9_face_31 : decode cX9_face 31 = .ok (.lor, 1) := by decide +kernel
theorem dX9_face_32 : decode cX9_face 32 = .ok (.invokevirtual 69, 3) := by decide +kernel
theorem dX9_face_35 : decode cX9_face 35 = .ok (.aload_n 0, 1) := by decide +kernel
theorem dX9_face_36 : decode cX9_face 36 = .ok (.getfield 13, 3) := by decide +kernel
theorem dX9_face_39 : decode cX9_face 39 = .ok (.invokestatic 77, 3) := by decide +kernel
theorem dX9_face_42 : decode cX9_face 42 = .ok (.iload_n 2, 1) := by decide +kernel
theorem dX9_face_43 : decode cX9_face 43 = .ok (.isub, 1) := by decide +kernel
theorem dX9_face_44 : decode cX9_face 44 = .ok (.ireturn, 1) := by decide +kernel
set_option maxRecDepth 20000 in
theorem ggX9_cut_X9_isSet : GoodIn wsX9_cut wsX9_isSet := goodIn_r _ [8, 9, 10, 11, 7, 12, 3, 13, 14, 15, 34, 35, 36, 37, 38, 39, 40, 41, 42, 43, 44, 45, 46, 47, 48, 49, 50, 51, 52, 53, 54, 55, 56, 57, 58, 59, 60] (by decide +kernel) (by decide +kernel)
set_option maxRecDepth 20000 in
theorem gX9_cut_X9_isSet : GoodIn wsX9_cut (wsV RX9 73 RX9 yX9_isSet wsX9_isSet) := goodIn_app (goodIn_of _ (by decide +kernel)) ggX9_cut_X9_isSet
set_option maxRecDepth 20000 in
theorem ggX9_cut_X9_isFace : GoodIn wsX9_cut wsX9_isFace := goodIn_r _ [19, 1, 34, 35, 36, 37, 38, 39, 40, 41, 42, 43, 44, 45, 46, 47, 48, 49, 50, 51, 52, 53, 54, 55, 56, 57, 58, 59, 60] (by decide +kernel) (by decide +kernel)
set_option maxRecDepth 20000 in
theorem gX9_cut_X9_isFace : GoodIn wsX9_cut (wsV RX9 85 RX9 yX9_isFace wsX9_isFace) := goodIn_app (goodIn_of _ (by decide +kernel)) ggX9_cut_X9_isFace
set_option maxRecDepth 20000 in
theorem ggX9_cut_X9_many : GoodIn wsX9_cut wsX9_many := goodIn_r _ [22] (by decide +kernel) (by decide +kernel)
set_option maxRecDepth 20000 in
theorem gX9_cut_X9_many : GoodIn wsX9_cut (va_wsS RX9 77 yX9_many wsX9_many) := goodIn_app (goodIn_of _ (by decide +kernel)) ggX9_cut_X9_many
set_option maxRecDepth 20000 in
theorem ggX9_cut_X9_all : GoodIn wsX9_cut wsX9_all := goodIn_r _ [12, 3, 34, 35, 36, 37, 38, 39, 40, 41, 42, 43, 44, 45, 46, 47, 48, 49, 50, 51, 52, 53, 54, 55, 56, 57, 58, 59, 60] (by decide +kernel) (by decide +kernel)
set_option maxRecDepth 20000 in
theorem gX9_cut_X9_all : GoodIn wsX9_cut (wsV RX9 55 RX9 yX9_all wsX9_all) := goodIn_app (goodIn_of _ (by decide +kernel)) ggX9_cut_X9_all
set_option maxRecDepth 20000 in
theorem ggX9_cut_X9_becomes : GoodIn wsX9_cut wsX9_becomes := goodIn_r _ [26, 3, 1, 27, 28, 29, 7, 30, 31, 32, 33, 34, 35, 36, 37, 38, 39, 40, 41, 42, 43, 44, 45, 46, 47, 48, 49, 50, 51, 52, 53, 54, 55, 56, 57, 58, 59, 60] (by decide +kernel) (by decide +kernel)
set_option maxRecDepth 20000 in
theorem gX9_cut_X9_becomes : GoodIn wsX9_cut (wsV RX9 69 RX9 yX9_becomes wsX9_becomes) := goodIn_app (goodIn_of _ (by decide +kernel)) ggX9_cut_X9_becomes
theorem dX9_cut_0 : decode cX9_cut 0 = .ok (.aload_n 0, 1) := by decide +kernel
theorem dX9_cut_1 : decode cX9_cut 1 = .ok (.iload_n 1, 1) := by decide +kernel
theorem dX9_cut_2 : decode cX9_cut 2 = .ok (.invokevirtual 73, 3) := by decide +kernel
theorem dX9_cut_5 : decode cX9_cut 5 = .ok (.ifCond .eq 15, 3) := by decide +kernel
theorem dX9_cut_8 : decode cX9_cut 8 = .ok (.iload_n 1, 1) := by decide +kernel
theorem dX9_cut_9 : decode cX9_cut 9 = .ok (.ifCond .eq 11, 3) := by decide +kernel
theorem dX9_cut_12 : decode cX9_cut 12 = .ok (.aload_n 0, 1) := by decide +kernel
theorem dX9_cut_13 : decode cX9_cut 13 = .ok (.iload_n 1, 1) := by decide +kernel
theorem dX9_cut_14 : decode cX9_cut 14 = .ok (.invokevirtual 85, 3) := by decide +kernel
theorem dX9_cut_17 : decode cX9_cut 17 = .ok (.ifCond .ne 5, 3) := by decide +kernel
theorem dX9_cut_20 : decode cX9_cut 20 = .ok (.iconst (-1), 1) := by decide +kernel
theorem dX9_cut_21 : decode cX9_cut 21 = .ok (.ireturn, 1) := by decide +kernel
theorem dX9_cut_22 : decode cX9_cut 22 = .ok (.aload_n 0, 1) := by decide +kernel
theorem dX9_cut_23 : decode cX9_cut 23 = .ok (.getfield 13, 3) := by decide +kernel
theorem dX9_cut_26 : decode cX9_cut 26 = .ok (.invokestatic 77, 3) := by decide +kernel
theorem dX9_cut_29 : decode cX9_cut 29 = .ok (.istore_n 2, 1) := by decide +kernel
theorem dX9_cut_30 : decode cX9_cut 30 = .ok (.aload_n 0, 1) := by decide +kernel
theorem dX9_cut_31 : decode cX9_cut 31 = .ok (.getfield 13, 3) := by decide +kernel
theorem dX9_cut_34 : decode cX9_cut 34 = .ok (.lstore_n 3, 1) := by decide +kernel
theorem dX9_cut_35 : decode cX9_cut 35 = .ok (.iconst 0, 1) := by decide +kernel
theorem dX9_cut_36 : decode cX9_cut 36 = .ok (.istore 5, 2) := by decide +kernel
theorem dX9_cut_38 : decode cX9_cut 38 = .ok (.iload 5, 2) := by decide +kernel
theorem dX9_cut_40 : decode cX9_cut 40 = .ok (.aload_n 0, 1) := by decide +kernel
theorem dX9_cut_41 : decode cX9_cut 41 = .ok (.invokevirtual 55, 3) := by decide +kernel
theorem dX9_cut_44 : decode cX9_cut 44 = .ok (.if_icmp .gt 28, 3) := by decide +kernel
theorem dX9_cut_47 : decode cX9_cut 47 = .ok (.iload 5, 2) := by decide +kernel
theorem dX9_cut_49 : decode cX9_cut 49 = .ok (.iload_n 1, 1) := by decide +kernel
theorem dX9_cut_50 : decode cX9_cut 50 = .ok (.iand, 1) := by decide +kernel
theorem dX9_cut_51 : decode cX9_cut 51 = .ok (.iload_n 1, 1) := by decide +kernel
theorem dX9_cut_52 : decode cX9_cut 52 = .ok (.if_icmp .ne 14, 3) := by decide +kernel
theorem dX9_cut_55 : decode cX9_cut 55 = .ok (.lload_n 3, 1) := by decide +kernel
theorem dX9_cut_56 : decode cX9_cut 56 = .ok (.lconst 1, 1) := by decide +kernel
theorem dX9_cut_57 : decode cX9_cut 57 = .ok (.iload 5, 2) := by decide +kernel
theorem dX9_cut_59 : decode cX9_cut 59 = .ok (.lshl, 1) := by decide +kernel
theorem dX9_cut_60 : decode cX9_cut 60 = .ok (.ldc2_w 88, 3) := by decide +kernel
theorem dX9_cut_63 : decode cX9_cut 63 = .ok (.lxor, 1) := by decide +kernel
theorem dX9_cut_64 : decode cX9_cut 64 = .ok (.land, 1) := by decide +kernel
theorem dX9_cut_65 : decode cX9_cut 65 = .ok (.lstore_n 3, 1) := by decide +kernel
theorem dX9_cut_66 : decode cX9_cut 66 = .ok (.iinc 5 1, 3) := by decide +kernel
theorem dX9_cut_69 : decode cX9_cut 69 = .ok (.goto (-31), 3) := by decide +kernel
theorem dX9_cut_72 : decode cX9_cut 72 = .ok (.aload_n 0, 1) := by decide +kernel
theorem dX9_cut_73 : decode cX9_cut 73 = .ok (.aload_n 0, 1) := by decide +kernel
theorem dX9_cut_74 : decode cX9_cut 74 = .ok (.getfield 7, 3) := by decide +kernel
theorem dX9_cut_77 : decode cX9_cut 77 = .ok (.lload_n 3, 1) := by decide +kernel
theorem dX9_cut_78 : decode cX9_cut 78 = .ok (.invokevirtual 69, 3) := by decide +kernel
theorem dX9_cut_81 : decode cX9_cut 81 = .ok (.iload_n 2, 1) := by decide +kernel
theorem dX9_cut_82 : decode cX9_cut 82 = .ok (.lload_n 3, 1) := by decide +kernel
theorem dX9_cut_83 : decode cX9_cut 83 = .ok (.invokestatic 77, 3) := by decide +kernel
theorem dX9_cut_86 : decode cX9_cut 86 = .ok (.isub, 1) := by decide +kernel
theorem dX9_cut_87 : decode cX9_cut 87 = .ok (.ireturn, 1) := by decide +kernel
set_option maxRecDepth 20000 in
theorem ggX9_link_X9_isSet : GoodIn wsX9_link wsX9_isSet := goodIn_r _ [6, 7, 8, 9, 5, 10, 1, 11, 12, 13, 37, 38, 39, 40, 41, 42, 43, 44, 45, 46, 47, 48, 49, 50, 51, 52, 53, 54, 55, 56, 57, 58, 59, 60, 61, 62, 63] (by decide +kernel) (by decide +kernel)
set_option maxRecDepth 20000 in
theorem gX9_link_X9_isSet : GoodIn wsX9_link (wsV RX9 73 RX9 yX9_isSet wsX9_isSet) := goodIn_app (goodIn_of _ (by decide +kernel)) ggX9_link_X9_isSet
set_option maxRecDepth 20000 in
theorem ggX9_link_X9_all : GoodIn wsX9_link wsX9_all := goodIn_r _ [10, 1, 37, 38, 39, 40, 41, 42, 43, 44, 45, 46, 47, 48, 49, 50, 51, 52, 53, 54, 55, 56, 57, 58, 59, 60, 61, 62, 63] (by decide +kernel) (by decide +kernel)
set_option maxRecDepth 20000 in
theorem gX9_link_X9_all : GoodIn wsX9_link (wsV RX9 55 RX9 yX9_all wsX9_all) := goodIn_app (goodIn_of _ (by decide +kernel)) ggX9_link_X9_all
set_option maxRecDepth 20000 in
theorem ggX9_link_X9_isFace : GoodIn wsX9_link wsX9_isFace := goodIn_r _ [17, 18, 37, 38, 39, 40, 41, 42, 43, 44, 45, 46, 47, 48, 49, 50, 51, 52, 53, 54, 55, 56, 57, 58, 59, 60, 61, 62, 63] (by decide +kernel) (by decide +kernel)
set_option maxRecDepth 20000 in
theorem gX9_link_X9_isFace : GoodIn wsX9_link (wsV RX9 85 RX9 yX9_isFace wsX9_isFace) := goodIn_app (goodIn_of _ (by decide +kernel)) ggX9_link_X9_isFace
set_option maxRecDepth 20000 in
theorem ggX9_link_X9_size : GoodIn wsX9_link wsX9_size := goodIn_r _ [21] (by decide +kernel) (by decide +kernel)
set_option maxRecDepth 20000 in
theorem gX9_link_X9_size : GoodIn wsX9_link (va_wsS RX9 90 yX9_size wsX9_size) := goodIn_app (goodIn_of _ (by decide +kernel)) ggX9_link_X9_size
set_option maxRecDepth 20000 in
theorem ggX9_link_X9_spread : GoodIn wsX9_link wsX9_spread := goodIn_r _ [25, 1, 37, 38, 39, 40, 41, 42, 43, 44, 45, 46, 47, 48, 49, 50, 51, 52, 53, 54, 55, 56, 57, 58, 59, 60, 61, 62, 63] (by decide +kernel) (by decide +kernel)
set_option maxRecDepth 20000 in
theorem gX9_link_X9_spread : GoodIn wsX9_link (wsV RX9 94 RX9 yX9_spread wsX9_spread) := goodIn_app (goodIn_of _ (by decide +kernel)) ggX9_link_X9_spread
set_option maxRecDepth 20000 in
theorem ggX9_link_X9_becomes : GoodIn wsX9_link wsX9_becomes := goodIn_r _ [29, 1, 18, 30, 31, 32, 5, 33, 34, 35, 36, 37, 38, 39, 40, 41, 42, 43, 44, 45, 46, 47, 48, 49, 50, 51, 52, 53, 54, 55, 56, 57, 58, 59, 60, 61, 62, 63] (by decide +kernel) (by decide +kernel)
set_option maxRecDepth 20000 in
theorem gX9_link_X9_becomes : GoodIn wsX9_link (wsV RX9 69 RX9 yX9_becomes wsX9_becomes) := goodIn_app (goodIn_of _ (by decide +kernel)) ggX9_link_X9_becomes
theorem dX9_link_0 : decode cX9_link 0 = .ok (.aload_n 0, 1) := by decide +kernel
theorem dX9_link_1 : decode cX9_link 1 = .ok (.iload_n 1, 1) := by decide +kernel
theorem dX9_link_2 : decode cX9_link 2 = .ok (.invokevirtual 73, 3) := by decide +kernel
theorem dX9_link_5 : decode cX9_link 5 = .ok (.ifCond .eq 23, 3) := by decide +kernel
theorem dX9_link_8 : decode cX9_link 8 = .ok (.iload_n 1, 1) := by decide +kernel
theorem dX9_link_9 : decode cX9_link 9 = .ok (.ifCond .eq 19, 3) := by decide +kernel
theorem dX9_link_12 : decode cX9_link 12 = .ok (.iload_n 1, 1) := by decide +kernel
theorem dX9_link_13 : decode cX9_link 13 = .ok (.aload_n 0, 1) := by decide +kernel
theorem dX9_link_14 : decode cX9_link 14 = .ok (.invokevirtual 55, 3) := by decide +kernel
theorem dX9_link_17 : decode cX9_link 17 = .ok (.if_icmp .eq 11, 3) := by decide +kernel
theorem dX9_link_20 : decode cX9_link 20 = .ok (.aload_n 0, 1) := by decide +kernel
theorem dX9_link_21 : decode cX9_link 21 = .ok (.iload_n 1, 1) := by decide +kernel
theorem dX9_link_22 : decode cX9_link 22 = .ok (.invokevirtual 85, 3) := by decide +kernel
theorem dX9_link_25 : decode cX9_link 25 = .ok (.ifCond .ne 5, 3) := by decide +kernel
theorem dX9_link_28 : decode cX9_link 28 = .ok (.iconst (-1), 1) := by decide +kernel
theorem dX9_link_29 : decode cX9_link 29 = .ok (.ireturn, 1) := by decide +kernel
theorem dX9_link_30 : decode cX9_link 30 = .ok (.aload_n 0, 1) := by decide +kernel
theorem dX9_link_31 : decode cX9_link 31 = .ok (.getfield 7, 3) := by decide +kernel
theorem dX9_link_34 : decode cX9_link 34 = .ok (.iload_n 1, 1) := by decide +kernel
theorem dX9_link_35 : decode cX9_link 35 = .ok (.invokestatic 90, 3) := by decide +kernel
theorem dX9_link_38 : decode cX9_link 38 = .ok (.isub, 1) := by decide +kernel
theorem dX9_link_39 : decode cX9_link 39 = .ok (.istore_n 2, 1) := by decide +kernel
theorem dX9_link_40 : decode cX9_link 40 = .ok (.lconst 0, 1) := by decide +kernel
theorem dX9_link_41 : decode cX9_link 41 = .ok (.lstore_n 3, 1) := by decide +kernel
theorem dX9_link_42 : decode cX9_link 42 = .ok (.iconst 0, 1) := by decide +kernel
theorem dX9_link_43 : decode cX9_link 43 = .ok (.istore 5, 2) := by decide +kernel
theorem dX9_link_45 : decode cX9_link 45 = .ok (.iload 5, 2) := by decide +kernel
theorem dX9_link_47 : decode cX9_link 47 = .ok (.iconst 1, 1) := by decide +kernel
theorem dX9_link_48 : decode cX9_link 48 = .ok (.iload_n 2, 1) := by decide +kernel
theorem dX9_link_49 : decode cX9_link 49 = .ok (.ishl, 1) := by decide +kernel
theorem dX9_link_50 : decode cX9_link 50 = .ok (.if_icmp .ge 36, 3) := by decide +kernel
theorem dX9_link_53 : decode cX9_link 53 = .ok (.lload_n 3, 1) := by decide +kernel
theorem dX9_link_54 : decode cX9_link 54 = .ok (.aload_n 0, 1) := by decide +kernel
theorem dX9_link_55 : decode cX9_link 55 = .ok (.aload_n 0, 1) := by decide +kernel
theorem dX9_link_56 : decode cX9_link 56 = .ok (.iload 5, 2) := by decide +kernel
theorem dX9_link_58 : decode cX9_link 58 = .ok (.iload_n 1, 1) := by decide +kernel
theorem dX9_link_59 : decode cX9_link 59 = .ok (.invokevirtual 94, 3) := by decide +kernel
theorem dX9_link_62 : decode cX9_link 62 = .ok (.iload_n 1, 1) := by decide +kernel
theorem dX9_link_63 : decode cX9_link 63 = .ok (.ior, 1) := by decide +kernel
theorem dX9_link_64 : decode cX9_link 64 = .ok (.invokevirtual 85, 3) := by decide +kernel
theorem dX9_link_67 : decode cX9_link 67 = .ok (.ifCond .eq 10, 3) := by decide +kernel
theorem dX9_link_70 : decode cX9_link 70 = .ok (.lconst 1, 1) := by decide +kernel
theorem dX9_link_71 : decode cX9_link 71 = .ok (.iload 5, 2) := by decide +kernel
theorem dX9_link_73 : decode cX9_link 73 = .ok (.lshl, 1) := by decide +kernel
theorem dX9_link_74 : decode cX9_link 74 = .ok (.goto 4, 3) := by decide +kernel
theorem dX9_link_77 : decode cX9_link 77 = .ok (.lconst 0, 1) := by decide +kernel
theorem dX9_link_78 : decode cX9_link 78 = .ok (.lor, 1) := by decide +kernel
theorem dX9_link_79 : decode cX9_link 79 = .ok (.lstore_n 3, 1) := by decide +kernel
theorem dX9_link_80 : decode cX9_link 80 = .ok (.iinc 5 1, 3) := by decide +kernel
theorem dX9_link_83 : decode cX9_link 83 = .ok (.goto (-38), 3) := by decide +kernel
theorem dX9_link_86 : decode cX9_link 86 = .ok (.aload_n 0, 1) := by decide +kernel
theorem dX9_link_87 : decode cX9_link 87 = .ok (.iload_n 2, 1) := by decide +kernel
theorem dX9_link_88 : decode cX9_link 88 = .ok (.lload_n 3, 1) := by decide +kernel
theorem dX9_link_89 : decode cX9_link 89 = .ok (.invokevirtual 69, 3) := by decide +kernel
theorem dX9_link_92 : decode cX9_link 92 = .ok (.iload_n 2, 1) := by decide +kernel
theorem dX9_link_93 : decode cX9_link 93 = .ok (.ireturn, 1) := by decide +kernel
theorem dX9_spread_0 : decode cX9_spread 0 = .ok (.iconst 0, 1) := by decide +kernel
theorem dX9_spread_1 : decode cX9_spread 1 = .ok (.istore_n 3, 1) := by decide +kernel
theorem dX9_spread_2 : decode cX9_spread 2 = .ok (.iconst 0, 1) := by decide +kernel
theorem dX9_spread_3 : decode cX9_spread 3 = .ok (.istore 4, 2) := by decide +kernel
theorem dX9_spread_5 : decode cX9_spread 5 = .ok (.iconst 0, 1) := by decide +kernel
theorem dX9_spread_6 : decode cX9_spread 6 = .ok (.istore 5, 2) := by decide +kernel
theorem dX9_spread_8 : decode cX9_spread 8 = .ok (.iload 5, 2) := by decide +kernel
theorem dX9_spread_10 : decode cX9_spread 10 = .ok (.aload_n 0, 1) := by decide +kernel
theorem dX9_spread_11 : decode cX9_spread 11 = .ok (.getfield 7, 3) := by decide +kernel
theorem dX9_spread_14 : decode cX9_spread 14 = .ok (.if_icmp .ge 37, 3) := by decide +kernel
theorem dX9_spread_17 : decode cX9_spread 17 = .ok (.iload_n 2, 1) := by decide +kernel
theorem dX9_spread_18 : decode cX9_spread 18 = .ok (.iload 5, 2) := by decide +kernel
theorem dX9_spread_20 : decode cX9_spread 20 = .ok (.ishr, 1) := by decide +kernel
theorem dX9_spread_21 : decode cX9_spread 21 = .ok (.iconst 1, 1) := by decide +kernel
theorem dX9_spread_22 : decode cX9_spread 22 = .ok (.iand, 1) := by decide +kernel
theorem dX9_spread_23 : decode cX9_spread 23 = .ok (.iconst 1, 1) := by decide +kernel
theorem dX9_spread_24 : decode cX9_spread 24 = .ok (.if_icmp .ne 6, 3) := by decide +kernel
theorem dX9_spread_27 : decode cX9_spread 27 = .ok (.goto 18, 3) := by decide +kernel
theorem dX9_spread_30 : decode cX9_spread 30 = .ok (.iload_n 3, 1) := by decide +kernel
theorem dX9_spread_31 : decode cX9_spread 31 = .ok (.iload_n 1, 1) := by decide +kernel
theorem dX9_spread_32 : decode cX9_spread 32 = .ok (.iload 4, 2) := by decide +kernel
theorem dX9_spread_34 : decode cX9_spread 34 = .ok (.ishr, 1) := by decide +kernel
theorem dX9_spread_35 : decode cX9_spread 35 = .ok (.iconst 1, 1) := by decide +kernel
theorem dX9_spread_36 : decode cX9_spread 36 = .ok (.iand, 1) := by decide +kernel
theorem dX9_spread_37 : decode cX9_spread 37 = .ok (.iload 5, 2) := by decide +kernel
theorem dX9_spread_39 : decode cX9_spread 39 = .ok (.ishl, 1) := by decide +kernel
theorem dX9_spread_40 : decode cX9_spread 40 = .ok (.ior, 1) := by decide +kernel
theorem dX9_spread_41 : decode cX9_spread 41 = .ok (.istore_n 3, 1) := by decide +kernel
theorem dX9_spread_42 : decode cX9_spread 42 = .ok (.iinc 4 1, 3) := by decide +kernel
theorem dX9_spread_45 : decode cX9_spread 45 = .ok (.iinc 5 1, 3) := by decide +kernel
theorem dX9_spread_48 : decode cX9_spread 48 = .ok (.goto (-40), 3) := by decide +kernel
theorem dX9_spread_51 : decode cX9_spread 51 = .ok (.iload_n 3, 1) := by decide +kernel
theorem dX9_spread_52 : decode cX9_spread 52 = .ok (.ireturn, 1) := by decide +kernel
set_option maxRecDepth 20000 in
theorem ggX9_dual_X9_all : GoodIn wsX9_dual wsX9_all := goodIn_r _ [6, 1, 23, 24, 25, 26, 27, 28, 29, 30, 31, 32, 33, 34, 35, 36, 37, 38, 39, 40, 41, 42, 43, 44, 45, 46, 47, 48, 49] (by decide +kernel) (by decide +kernel)
set_option maxRecDepth 20000 in
theorem gX9_dual_X9_all : GoodIn wsX9_dual (wsV RX9 55 RX9 yX9_all wsX9_all) := goodIn_app (goodIn_of _ (by decide +kernel)) ggX9_dual_X9_all
set_option maxRecDepth 20000 in
theorem ggX9_dual_X9_isFace : GoodIn wsX9_dual wsX9_isFace := goodIn_r _ [10, 11, 23, 24, 25, 26, 27, 28, 29, 30, 31, 32, 33, 34, 35, 36, 37, 38, 39, 40, 41, 42, 43, 44, 45, 46, 47, 48, 49] (by decide +kernel) (by decide +kernel)
set_option maxRecDepth 20000 in
theorem gX9_dual_X9_isFace : GoodIn wsX9_dual (wsV RX9 85 RX9 yX9_isFace wsX9_isFace) := goodIn_app (goodIn_of _ (by decide +kernel)) ggX9_dual_X9_isFace
set_option maxRecDepth 20000 in
theorem ggX9_dual_X9_becomes : GoodIn wsX9_dual wsX9_becomes := goodIn_r _ [15, 1, 11, 16, 17, 18, 5, 19, 20, 21, 22, 23, 24, 25, 26, 27, 28, 29, 30, 31, 32, 33, 34, 35, 36, 37, 38, 39, 40, 41, 42, 43, 44, 45, 46, 47, 48, 49] (by decide +kernel) (by decide +kernel)
set_option maxRecDepth 20000 in
theorem gX9_dual_X9_becomes : GoodIn wsX9_dual (wsV RX9 69 RX9 yX9_becomes wsX9_becomes) := goodIn_app (goodIn_of _ (by decide +kernel)) ggX9_dual_X9_becomes
theorem dX9_dual_0 : decode cX9_dual 0 = .ok (.aload_n 0, 1) := by decide +kernel
theorem dX9_dual_1 : decode cX9_dual 1 = .ok (.aload_n 0, 1) := by decide +kernel
theorem dX9_dual_2 : decode cX9_dual 2 = .ok (.invokevirtual 55, 3) := by decide +kernel
theorem dX9_dual_5 : decode cX9_dual 5 = .ok (.invokevirtual 85, 3) := by decide +kernel
theorem dX9_dual_8 : decode cX9_dual 8 = .ok (.ifCond .eq 5, 3) := by decide +kernel
theorem dX9_dual_11 : decode cX9_dual 11 = .ok (.iconst 0, 1) := by decide +kernel
theorem dX9_dual_12 : decode cX9_dual 12 = .ok (.ireturn, 1) := by decide +kernel
theorem dX9_dual_13 : decode cX9_dual 13 = .ok (.lconst 0, 1) := by decide +kernel
theorem dX9_dual_14 : decode cX9_dual 14 = .ok (.lstore_n 1, 1) := by decide +kernel
theorem dX9_dual_15 : decode cX9_dual 15 = .ok (.iconst 0, 1) := by decide +kernel
theorem dX9_dual_16 : decode cX9_dual 16 = .ok (.istore_n 3, 1) := by decide +kernel
theorem dX9_dual_17 : decode cX9_dual 17 = .ok (.iload_n 3, 1) := by decide +kernel
theorem dX9_dual_18 : decode cX9_dual 18 = .ok (.aload_n 0, 1) := by decide +kernel
theorem dX9_dual_19 : decode cX9_dual 19 = .ok (.invokevirtual 55, 3) := by decide +kernel
theorem dX9_dual_22 : decode cX9_dual 22 = .ok (.if_icmp .gt 34, 3) := by decide +kernel
theorem dX9_dual_25 : decode cX9_dual 25 = .ok (.lload_n 1, 1) := by decide +kernel
theorem dX9_dual_26 : decode cX9_dual 26 = .ok (.aload_n 0, 1) := by decide +kernel
theorem dX9_dual_27 : decode cX9_dual 27 = .ok (.aload_n 0, 1) := by decide +kernel
theorem dX9_dual_28 : decode cX9_dual 28 = .ok (.invokevirtual 55, 3) := by decide +kernel
theorem dX9_dual_31 : decode cX9_dual 31 = .ok (.iload_n 3, 1) := by decide +kernel
theorem dX9_dual_32 : decode cX9_dual 32 = .ok (.iconst (-1), 1) := by decide +kernel
theorem dX9_dual_33 : decode cX9_dual 33 = .ok (.ixor, 1) := by decide +kernel
theorem dX9_dual_34 : decode cX9_dual 34 = .ok (.iand, 1) := by decide +kernel
theorem dX9_dual_35 : decode cX9_dual 35 = .ok (.invokevirtual 85, 3) := by decide +kernel
theorem dX9_dual_38 : decode cX9_dual 38 = .ok (.ifCond .eq 7, 3) := by decide +kernel
theorem dX9_dual_41 : decode cX9_dual 41 = .ok (.lconst 0, 1) := by decide +kernel
theorem dX9_dual_42 : decode cX9_dual 42 = .ok (.goto 6, 3) := by decide +kernel
theorem dX9_dual_45 : decode cX9_dual 45 = .ok (.lconst 1, 1) := by decide +kernel
theorem dX9_dual_46 : decode cX9_dual 46 = .ok (.iload_n 3, 1) := by decide +kernel
theorem dX9_dual_47 : decode cX9_dual 47 = .ok (.lshl, 1) := by decide +kernel
theorem dX9_dual_48 : decode cX9_dual 48 = .ok (.lor, 1) := by decide +kernel
theorem dX9_dual_49 : decode cX9_dual 49 = .ok (.lstore_n 1, 1) := by decide +kernel
theorem dX9_dual_50 : decode cX9_dual 50 = .ok (.iinc 3 1, 3) := by decide +kernel
theorem dX9_dual_53 : decode cX9_dual 53 = .ok (.goto (-36), 3) := by decide +kernel
theorem dX9_dual_56 : decode cX9_dual 56 = .ok (.aload_n 0, 1) := by decide +kernel
theorem dX9_dual_57 : decode cX9_dual 57 = .ok (.aload_n 0, 1) := by decide +kernel
theorem dX9_dual_58 : decode cX9_dual 58 = .ok (.getfield 7, 3) := by decide +kernel
theorem dX9_dual_61 : decode cX9_dual 61 = .ok (.lload_n 1, 1) := by decide +kernel
theorem dX9_dual_62 : decode cX9_dual 62 = .ok (.invokevirtual 69, 3) := by decide +kernel
theorem dX9_dual_65 : decode cX9_dual 65 = .ok (.iconst 1, 1) := by decide +kernel
theorem dX9_dual_66 : decode cX9_dual 66 = .ok (.ireturn, 1) := by decide +kernel
set_option maxRecDepth 20000 in
theorem ggX9_has_X9_isSet : GoodIn wsX9_has wsX9_isSet := goodIn_r _ [5, 6, 7, 8, 4, 9, 10, 11, 12, 13, 19, 20, 21, 22, 23, 24, 25, 26, 27, 28, 29, 30, 31, 32, 33, 34, 35, 36, 37, 38, 39, 40, 41, 42, 43, 44, 45] (by decide +kernel) (by decide +kernel)
set_option maxRecDepth 20000 in
theorem gX9_has_X9_isSet : GoodIn wsX9_has (wsV RX9 73 RX9 yX9_isSet wsX9_isSet) := goodIn_app (goodIn_of _ (by decide +kernel)) ggX9_has_X9_isSet
set_option maxRecDepth 20000 in
theorem ggX9_has_X9_isFace : GoodIn wsX9_has wsX9_isFace := goodIn_r _ [17, 18, 19, 20, 21, 22, 23, 24, 25, 26, 27, 28, 29, 30, 31, 32, 33, 34, 35, 36, 37, 38, 39, 40, 41, 42, 43, 44, 45] (by decide +kernel) (by decide +kernel)
set_option maxRecDepth 20000 in
theorem gX9_has_X9_isFace : GoodIn wsX9_has (wsV RX9 85 RX9 yX9_isFace wsX9_isFace) := goodIn_app (goodIn_of _ (by decide +kernel)) ggX9_has_X9_isFace
theorem dX9_has_0 : decode cX9_has 0 = .ok (.aload_n 0, 1) := by decide +kernel
theorem dX9_has_1 : decode cX9_has 1 = .ok (.iload_n 1, 1) := by decide +kernel
theorem dX9_has_2 : decode cX9_has 2 = .ok (.invokevirtual 73, 3) := by decide +kernel
theorem dX9_has_5 : decode cX9_has 5 = .ok (.ifCond .ne 7, 3) := by decide +kernel
theorem dX9_has_8 : decode cX9_has 8 = .ok (.iconst (-1), 1) := by decide +kernel
theorem dX9_has_9 : decode cX9_has 9 = .ok (.goto 16, 3) := by decide +kernel
theorem dX9_has_12 : decode cX9_has 12 = .ok (.aload_n 0, 1) := by decide +kernel
theorem dX9_has_13 : decode cX9_has 13 = .ok (.iload_n 1, 1) := by decide +kernel
theorem dX9_has_14 : decode cX9_has 14 = .ok (.invokevirtual 85, 3) := by decide +kernel
theorem dX9_has_17 : decode cX9_has 17 = .ok (.ifCond .eq 7, 3) := by decide +kernel
theorem dX9_has_20 : decode cX9_has 20 = .ok (.iconst 1, 1) := by decide +kernel
theorem dX9_has_21 : decode cX9_has 21 = .ok (.goto 4, 3) := by decide +kernel
theorem dX9_has_24 : decode cX9_has 24 = .ok (.iconst 0, 1) := by decide +kernel
theorem dX9_has_25 : decode cX9_has 25 = .ok (.ireturn, 1) := by decide +kernel
set_option maxRecDepth 20000 in
theorem ggX9_facesOf_X9_all : GoodIn wsX9_facesOf wsX9_all := goodIn_r _ [5, 6, 15, 16, 17, 18, 19, 20, 21, 22, 23, 24, 25, 26, 27, 28, 29, 30, 31, 32, 33, 34, 35, 36, 37, 38, 39, 40, 41] (by decide +kernel) (by decide +kernel)
set_option maxRecDepth 20000 in
theorem gX9_facesOf_X9_all : GoodIn wsX9_facesOf (wsV RX9 55 RX9 yX9_all wsX9_all) := goodIn_app (goodIn_of _ (by decide +kernel)) ggX9_facesOf_X9_all
set_option maxRecDepth 20000 in
theorem ggX9_facesOf_X9_isFace : GoodIn wsX9_facesOf wsX9_isFace := goodIn_r _ [10, 11, 15, 16, 17, 18, 19, 20, 21, 22, 23, 24, 25, 26, 27, 28, 29, 30, 31, 32, 33, 34, 35, 36, 37, 38, 39, 40, 41] (by decide +kernel) (by decide +kernel)
set_option maxRecDepth 20000 in
theorem gX9_facesOf_X9_isFace : GoodIn wsX9_facesOf (wsV RX9 85 RX9 yX9_isFace wsX9_isFace) := goodIn_app (goodIn_of _ (by decide +kernel)) ggX9_facesOf_X9_isFace
set_option maxRecDepth 20000 in
theorem ggX9_facesOf_X9_size : GoodIn wsX9_facesOf wsX9_size := goodIn_r _ [14] (by decide +kernel) (by decide +kernel)
set_option maxRecDepth 20000 in
theorem gX9_facesOf_X9_size : GoodIn wsX9_facesOf (va_wsS RX9 90 yX9_size wsX9_size) := goodIn_app (goodIn_of _ (by decide +kernel)) ggX9_facesOf_X9_size
theorem dX9_facesOf_0 : decode cX9_facesOf 0 = .ok (.lconst 0, 1) := by decide +kernel
theorem dX9_facesOf_1 : decode cX9_facesOf 1 = .ok (.lstore_n 3, 1) := by decide +kernel
theorem dX9_facesOf_2 : decode cX9_facesOf 2 = .ok (.iconst 0, 1) := by decide +kernel
theorem dX9_facesOf_3 : decode cX9_facesOf 3 = .ok (.istore 5, 2) := by decide +kernel
theorem dX9_facesOf_5 : decode cX9_facesOf 5 = .ok (.iload 5, 2) := by decide +kernel
theorem dX9_facesOf_7 : decode cX9_facesOf 7 = .ok (.aload_n 0, 1) := by decide +kernel
theorem dX9_facesOf_8 : decode cX9_facesOf 8 = .ok (.invokevirtual 55, 3) := by decide +kernel
theorem dX9_facesOf_11 : decode cX9_facesOf 11 = .ok (.if_icmp .gt 43, 3) := by decide +kernel
theorem dX9_facesOf_14 : decode cX9_facesOf 14 = .ok (.aload_n 0, 1) := by decide +kernel
theorem dX9_facesOf_15 : decode cX9_facesOf 15 = .ok (.iload 5, 2) := by decide +kernel
theorem dX9_facesOf_17 : decode cX9_facesOf 17 = .ok (.invokevirtual 85, 3) := by decide +kernel
theorem dX9_facesOf_20 : decode cX9_facesOf 20 = .ok (.ifCond .eq 28, 3) := by decide +kernel
theorem dX9_facesOf_23 : decode cX9_facesOf 23 = .ok (.iload 5, 2) := by decide +kernel
theorem dX9_facesOf_25 : decode cX9_facesOf 25 = .ok (.iload_n 1, 1) := by decide +kernel
theorem dX9_facesOf_26 : decode cX9_facesOf 26 = .ok (.iconst (-1), 1) := by decide +kernel
theorem dX9_facesOf_27 : decode cX9_facesOf 27 = .ok (.ixor, 1) := by decide +kernel
theorem dX9_facesOf_28 : decode cX9_facesOf 28 = .ok (.iand, 1) := by decide +kernel
theorem dX9_facesOf_29 : decode cX9_facesOf 29 = .ok (.ifCond .ne 19, 3) := by decide +kernel
theorem dX9_facesOf_32 : decode cX9_facesOf 32 = .ok (.iload 5, 2) := by decide +kernel
theorem dX9_facesOf_34 : decode cX9_facesOf 34 = .ok (.invokestatic 90, 3) := by decide +kernel
theorem dX9_facesOf_37 : decode cX9_facesOf 37 = .ok (.iload_n 2, 1) := by decide +kernel
theorem dX9_facesOf_38 : decode cX9_facesOf 38 = .ok (.if_icmp .ne 10, 3) := by decide +kernel
theorem dX9_facesOf_41 : decode cX9_facesOf 41 = .ok (.lload_n 3, 1) := by decide +kernel
theorem dX9_facesOf_42 : decode cX9_facesOf 42 = .ok (.lconst 1, 1) := by decide +kernel
theorem dX9_facesOf_43 : decode cX9_facesOf 43 = .ok (.iload 5, 2) := by decide +kernel
theorem dX9_facesOf_45 : decode cX9_facesOf 45 = .ok (.lshl, 1) := by decide +kernel
theorem dX9_facesOf_46 : decode cX9_facesOf 46 = .ok (.lor, 1) := by decide +kernel
theorem dX9_facesOf_47 : decode cX9_facesOf 47 = .ok (.lstore_n 3, 1) := by decide +kernel
theorem dX9_facesOf_48 : decode cX9_facesOf 48 = .ok (.iinc 5 1, 3) := by decide +kernel
theorem dX9_facesOf_51 : decode cX9_facesOf 51 = .ok (.goto (-46), 3) := by decide +kernel
theorem dX9_facesOf_54 : decode cX9_facesOf 54 = .ok (.lload_n 3, 1) := by decide +kernel
theorem dX9_facesOf_55 : decode cX9_facesOf 55 = .ok (.lreturn, 1) := by decide +kernel
set_option maxRecDepth 20000 in
theorem ggX9_faces_X9_isIn : GoodIn wsX9_faces wsX9_isIn := goodIn_r _ [4] (by decide +kernel) (by decide +kernel)
set_option maxRecDepth 20000 in
theorem gX9_faces_X9_isIn : GoodIn wsX9_faces (va_wsS RX9 59 yX9_isIn wsX9_isIn) := goodIn_app (goodIn_of _ (by decide +kernel)) ggX9_faces_X9_isIn
set_option maxRecDepth 20000 in
theorem ggX9_faces_X9_all : GoodIn wsX9_faces wsX9_all := goodIn_r _ [8, 9, 25, 26, 27, 28, 29, 30, 31, 32, 33, 34, 35, 36, 37, 38, 39, 40, 41, 42, 43, 44, 45, 46, 47, 48, 49, 50, 51] (by decide +kernel) (by decide +kernel)
set_option maxRecDepth 20000 in
theorem gX9_faces_X9_all : GoodIn wsX9_faces (wsV RX9 55 RX9 yX9_all wsX9_all) := goodIn_app (goodIn_of _ (by decide +kernel)) ggX9_faces_X9_all
set_option maxRecDepth 20000 in
theorem ggX9_faces_X9_facesOf : GoodIn wsX9_faces wsX9_facesOf := goodIn_r _ [13, 5, 6, 7, 3, 8, 9, 14, 15, 16, 17, 18, 19, 20, 21, 25, 26, 27, 28, 29, 30, 31, 32, 33, 34, 35, 36, 37, 38, 39, 40, 41, 42, 43, 44, 45, 46, 47, 48, 49, 50, 51] (by decide +kernel) (by decide +kernel)
set_option maxRecDepth 20000 in
theorem gX9_faces_X9_facesOf : GoodIn wsX9_faces (wsV RX9 98 RX9 yX9_facesOf wsX9_facesOf) := goodIn_app (goodIn_of _ (by decide +kernel)) ggX9_faces_X9_facesOf
set_option maxRecDepth 20000 in
theorem ggX9_faces_X9_many : GoodIn wsX9_faces wsX9_many := goodIn_r _ [24] (by decide +kernel) (by decide +kernel)
set_option maxRecDepth 20000 in
theorem gX9_faces_X9_many : GoodIn wsX9_faces (va_wsS RX9 77 yX9_many wsX9_many) := goodIn_app (goodIn_of _ (by decide +kernel)) ggX9_faces_X9_many
theorem dX9_faces_0 : decode cX9_faces 0 = .ok (.iload_n 1, 1) := by decide +kernel
theorem dX9_faces_1 : decode cX9_faces 1 = .ok (.iconst (-1), 1) := by decide +kernel
theorem dX9_faces_2 : decode cX9_faces 2 = .ok (.iconst 5, 1) := by decide +kernel
theorem dX9_faces_3 : decode cX9_faces 3 = .ok (.invokestatic 59, 3) := by decide +kernel
theorem dX9_faces_6 : decode cX9_faces 6 = .ok (.ifCond .eq 20, 3) := by decide +kernel
theorem dX9_faces_9 : decode cX9_faces 9 = .ok (.aload_n 0, 1) := by decide +kernel
theorem dX9_faces_10 : decode cX9_faces 10 = .ok (.aload_n 0, 1) := by decide +kernel
theorem dX9_faces_11 : decode cX9_faces 11 = .ok (.invokevirtual 55, 3) := by decide +kernel
theorem dX9_faces_14 : decode cX9_faces 14 = .ok (.iload_n 1, 1) := by decide +kernel
theorem dX9_faces_15 : decode cX9_faces 15 = .ok (.iconst 1, 1) := by decide +kernel
theorem dX9_faces_16 : decode cX9_faces 16 = .ok (.iadd, 1) := by decide +kernel
theorem dX9_faces_17 : decode cX9_faces 17 = .ok (.invokevirtual 98, 3) := by decide +kernel
theorem dX9_faces_20 : decode cX9_faces 20 = .ok (.invokestatic 77, 3) := by decide +kernel
theorem dX9_faces_23 : decode cX9_faces 23 = .ok (.goto 4, 3) := by decide +kernel
theorem dX9_faces_26 : decode cX9_faces 26 = .ok (.iconst (-1), 1) := by decide +kernel
theorem dX9_faces_27 : decode cX9_faces 27 = .ok (.ireturn, 1) := by decide +kernel
set_option maxRecDepth 20000 in
theorem ggX9_isMissing_X9_isFace : GoodIn wsX9_isMissing wsX9_isFace := goodIn_r _ [6, 7, 8, 9, 10, 11, 12, 13, 14, 15, 16, 17, 18, 19, 20, 21, 22, 23, 24, 25, 26, 27, 28, 29, 30, 31, 32, 33, 34] (by decide +kernel) (by decide +kernel)
set_option maxRecDepth 20000 in
theorem gX9_isMissing_X9_isFace : GoodIn wsX9_isMissing (wsV RX9 85 RX9 yX9_isFace wsX9_isFace) := goodIn_app (goodIn_of _ (by decide +kernel)) ggX9_isMissing_X9_isFace
theorem dX9_isMissing_0 : decode cX9_isMissing 0 = .ok (.aload_n 0, 1) := by decide +kernel
theorem dX9_isMissing_1 : decode cX9_isMissing 1 = .ok (.iload_n 1, 1) := by decide +kernel
theorem dX9_isMissing_2 : decode cX9_isMissing 2 = .ok (.invokevirtual 85, 3) := by decide +kernel
theorem dX9_isMissing_5 : decode cX9_isMissing 5 = .ok (.ifCond .eq 5, 3) := by decide +kernel
theorem dX9_isMissing_8 : decode cX9_isMissing 8 = .ok (.iconst 0, 1) := by decide +kernel
theorem dX9_isMissing_9 : decode cX9_isMissing 9 = .ok (.ireturn, 1) := by decide +kernel
theorem dX9_isMissing_10 : decode cX9_isMissing 10 = .ok (.iconst 1, 1) := by decide +kernel
theorem dX9_isMissing_11 : decode cX9_isMissing 11 = .ok (.istore_n 2, 1) := by decide +kernel
theorem dX9_isMissing_12 : decode cX9_isMissing 12 = .ok (.iconst 0, 1) := by decide +kernel
theorem dX9_isMissing_13 : decode cX9_isMissing 13 = .ok (.istore_n 3, 1) := by decide +kernel
theorem dX9_isMissing_14 : decode cX9_isMissing 14 = .ok (.iload_n 3, 1) := by decide +kernel
theorem dX9_isMissing_15 : decode cX9_isMissing 15 = .ok (.aload_n 0, 1) := by decide +kernel
theorem dX9_isMissing_16 : decode cX9_isMissing 16 = .ok (.getfield 7, 3) := by decide +kernel
theorem dX9_isMissing_19 : decode cX9_isMissing 19 = .ok (.if_icmp .ge 41, 3) := by decide +kernel
theorem dX9_isMissing_22 : decode cX9_isMissing 22 = .ok (.iload_n 2, 1) := by decide +kernel
theorem dX9_isMissing_23 : decode cX9_isMissing 23 = .ok (.ifCond .eq 29, 3) := by decide +kernel
theorem dX9_isMissing_26 : decode cX9_isMissing 26 = .ok (.iload_n 1, 1) := by decide +kernel
theorem dX9_isMissing_27 : decode cX9_isMissing 27 = .ok (.iload_n 3, 1) := by decide +kernel
theorem dX9_isMissing_28 : decode cX9_isMissing 28 = .ok (.ishr, 1) := by decide +kernel
theorem dX9_isMissing_29 : decode cX9_isMissing 29 = .ok (.iconst 1, 1) := by decide +kernel
theorem dX9_isMissing_30 : decode cX9_isMissing 30 = .ok (.iand, 1) := by decide +kernel
theorem dX9_isMissing_31 : decode cX9_isMissing 31 = .ok (.ifCond .eq 17, 3) := by decide +kernel
theorem dX9_isMissing_34 : decode cX9_isMissing 34 = .ok (.aload_n 0, 1) := by decide +kernel
theorem dX9_isMissing_35 : decode cX9_isMissing 35 = .ok (.iload_n 1, 1) := by decide +kernel
theorem dX9_isMissing_36 : decode cX9_isMissing 36 = .ok (.iconst 1, 1) := by decide +kernel
theorem dX9_isMissing_37 : decode cX9_isMissing 37 = .ok (.iload_n 3, 1) := by decide +kernel
theorem dX9_isMissing_38 : decode cX9_isMissing 38 = .ok (.ishl, 1) := by decide +kernel
theorem dX9_isMissing_39 : decode cX9_isMissing 39 = .ok (.iconst (-1), 1) := by decide +kernel
theorem dX9_isMissing_40 : decode cX9_isMissing 40 = .ok (.ixor, 1) := by decide +kernel
theorem dX9_isMissing_41 : decode cX9_isMissing 41 = .ok (.iand, 1) := by decide +kernel
theorem dX9_isMissing_42 : decode cX9_isMissing 42 = .ok (.invokevirtual 85, 3) := by decide +kernel
theorem dX9_isMissing_45 : decode cX9_isMissing 45 = .ok (.ifCond .eq 7, 3) := by decide +kernel
theorem dX9_isMissing_48 : decode cX9_isMissing 48 = .ok (.iconst 1, 1) := by decide +kernel
theorem dX9_isMissing_49 : decode cX9_isMissing 49 = .ok (.goto 4, 3) := by decide +kernel
theorem dX9_isMissing_52 : decode cX9_isMissing 52 = .ok (.iconst 0, 1) := by decide +kernel
theorem dX9_isMissing_53 : decode cX9_isMissing 53 = .ok (.istore_n 2, 1) := by decide +kernel
theorem dX9_isMissing_54 : decode cX9_isMissing 54 = .ok (.iinc 3 1, 3) := by decide +kernel
theorem dX9_isMissing_57 : decode cX9_isMissing 57 = .ok (.goto (-43), 3) := by decide +kernel
theorem dX9_isMissing_60 : decode cX9_isMissing 60 = .ok (.iload_n 2, 1) := by decide +kernel
theorem dX9_isMissing_61 : decode cX9_isMissing 61 = .ok (.ireturn, 1) := by decide +kernel
set_option maxRecDepth 20000 in
theorem ggX9_missing_X9_all : GoodIn wsX9_missing wsX9_all := goodIn_r _ [5, 6, 16, 17, 18, 19, 20, 21, 22, 23, 24, 25, 26, 27, 28, 29, 30, 31, 32, 33, 34, 35, 36, 37, 38, 39, 40, 41, 42] (by decide +kernel) (by decide +kernel)
set_option maxRecDepth 20000 in
theorem gX9_missing_X9_all : GoodIn wsX9_missing (wsV RX9 55 RX9 yX9_all wsX9_all) := goodIn_app (goodIn_of _ (by decide +kernel)) ggX9_missing_X9_all
set_option maxRecDepth 20000 in
theorem ggX9_missing_X9_isMissing : GoodIn wsX9_missing wsX9_isMissing := goodIn_r _ [10, 6, 11, 12, 13, 4, 14, 15, 16, 17, 18, 19, 20, 21, 22, 23, 24, 25, 26, 27, 28, 29, 30, 31, 32, 33, 34, 35, 36, 37, 38, 39, 40, 41, 42] (by decide +kernel) (by decide +kernel)
set_option maxRecDepth 20000 in
theorem gX9_missing_X9_isMissing : GoodIn wsX9_missing (wsV RX9 102 RX9 yX9_isMissing wsX9_isMissing) := goodIn_app (goodIn_of _ (by decide +kernel)) ggX9_missing_X9_isMissing
theorem dX9_missing_0 : decode cX9_missing 0 = .ok (.iconst 0, 1) := by decide +kernel
theorem dX9_missing_1 : decode cX9_missing 1 = .ok (.istore_n 2, 1) := by decide +kernel
theorem dX9_missing_2 : decode cX9_missing 2 = .ok (.iconst 0, 1) := by decide +kernel
theorem dX9_missing_3 : decode cX9_missing 3 = .ok (.istore_n 3, 1) := by decide +kernel
theorem dX9_missing_4 : decode cX9_missing 4 = .ok (.iload_n 3, 1) := by decide +kernel
theorem dX9_missing_5 : decode cX9_missing 5 = .ok (.aload_n 0, 1) := by decide +kernel
theorem dX9_missing_6 : decode cX9_missing 6 = .ok (.invokevirtual 55, 3) := by decide +kernel
theorem dX9_missing_9 : decode cX9_missing 9 = .ok (.if_icmp .gt 30, 3) := by decide +kernel
theorem dX9_missing_12 : decode cX9_missing 12 = .ok (.aload_n 0, 1) := by decide +kernel
theorem dX9_missing_13 : decode cX9_missing 13 = .ok (.iload_n 3, 1) := by decide +kernel
theorem dX9_missing_14 : decode cX9_missing 14 = .ok (.invokevirtual 102, 3) := by decide +kernel
theorem dX9_missing_17 : decode cX9_missing 17 = .ok (.ifCond .ne 6, 3) := by decide +kernel
theorem dX9_missing_20 : decode cX9_missing 20 = .ok (.goto 13, 3) := by decide +kernel
theorem dX9_missing_23 : decode cX9_missing 23 = .ok (.iload_n 2, 1) := by decide +kernel
theorem dX9_missing_24 : decode cX9_missing 24 = .ok (.iload_n 1, 1) := by decide +kernel
theorem dX9_missing_25 : decode cX9_missing 25 = .ok (.if_icmp .ne 5, 3) := by decide +kernel
theorem dX9_missing_28 : decode cX9_missing 28 = .ok (.iload_n 3, 1) := by decide +kernel
theorem dX9_missing_29 : decode cX9_missing 29 = .ok (.ireturn, 1) := by decide +kernel
theorem dX9_missing_30 : decode cX9_missing 30 = .ok (.iinc 2 1, 3) := by decide +kernel
theorem dX9_missing_33 : decode cX9_missing 33 = .ok (.iinc 3 1, 3) := by decide +kernel
theorem dX9_missing_36 : decode cX9_missing 36 = .ok (.goto (-32), 3) := by decide +kernel
theorem dX9_missing_39 : decode cX9_missing 39 = .ok (.iconst (-1), 1) := by decide +kernel
theorem dX9_missing_40 : decode cX9_missing 40 = .ok (.ireturn, 1) := by decide +kernel
set_option maxRecDepth 20000 in
theorem ggX9_missingMany_X9_all : GoodIn wsX9_missingMany wsX9_all := goodIn_r _ [5, 6, 16, 17, 18, 19, 20, 21, 22, 23, 24, 25, 26, 27, 28, 29, 30, 31, 32, 33, 34, 35, 36, 37, 38, 39, 40, 41, 42] (by decide +kernel) (by decide +kernel)
set_option maxRecDepth 20000 in
theorem gX9_missingMany_X9_all : GoodIn wsX9_missingMany (wsV RX9 55 RX9 yX9_all wsX9_all) := goodIn_app (goodIn_of _ (by decide +kernel)) ggX9_missingMany_X9_all
set_option maxRecDepth 20000 in
theorem ggX9_missingMany_X9_isMissing : GoodIn wsX9_missingMany wsX9_isMissing := goodIn_r _ [10, 6, 11, 12, 13, 4, 14, 15, 16, 17, 18, 19, 20, 21, 22, 23, 24, 25, 26, 27, 28, 29, 30, 31, 32, 33, 34, 35, 36, 37, 38, 39, 40, 41, 42] (by decide +kernel) (by decide +kernel)
set_option maxRecDepth 20000 in
theorem gX9_missingMany_X9_isMissing : GoodIn wsX9_missingMany (wsV RX9 102 RX9 yX9_isMissing wsX9_isMissing) := goodIn_app (goodIn_of _ (by decide +kernel)) ggX9_missingMany_X9_isMissing
theorem dX9_missingMany_0 : decode cX9_missingMany 0 = .ok (.iconst 0, 1) := by decide +kernel
theorem dX9_missingMany_1 : decode cX9_missingMany 1 = .ok (.istore_n 1, 1) := by decide +kernel
theorem dX9_missingMany_2 : decode cX9_missingMany 2 = .ok (.iconst 0, 1) := by decide +kernel
theorem dX9_missingMany_3 : decode cX9_missingMany 3 = .ok (.istore_n 2, 1) := by decide +kernel
theorem dX9_missingMany_4 : decode cX9_missingMany 4 = .ok (.iload_n 2, 1) := by decide +kernel
theorem dX9_missingMany_5 : decode cX9_missingMany 5 = .ok (.aload_n 0, 1) := by decide +kernel
theorem dX9_missingMany_6 : decode cX9_missingMany 6 = .ok (.invokevirtual 55, 3) := by decide +kernel
theorem dX9_missingMany_9 : decode cX9_missingMany 9 = .ok (.if_icmp .gt 25, 3) := by decide +kernel
theorem dX9_missingMany_12 : decode cX9_missingMany 12 = .ok (.iload_n 1, 1) := by decide +kernel
theorem dX9_missingMany_13 : decode cX9_missingMany 13 = .ok (.aload_n 0, 1) := by decide +kernel
theorem dX9_missingMany_14 : decode cX9_missingMany 14 = .ok (.iload_n 2, 1) := by decide +kernel
theorem dX9_missingMany_15 : decode cX9_missingMany 15 = .ok (.invokevirtual 102, 3) := by decide +kernel
theorem dX9_missingMany_18 : decode cX9_missingMany 18 = .ok (.ifCond .eq 7, 3) := by decide +kernel
theorem dX9_missingMany_21 : decode cX9_missingMany 21 = .ok (.iconst 1, 1) := by decide +kernel
theorem dX9_missingMany_22 : decode cX9_missingMany 22 = .ok (.goto 4, 3) := by decide +kernel
theorem dX9_missingMany_25 : decode cX9_missingMany 25 = .ok (.iconst 0, 1) := by decide +kernel
theorem dX9_missingMany_26 : decode cX9_missingMany 26 = .ok (.iadd, 1) := by decide +kernel
theorem dX9_missingMany_27 : decode cX9_missingMany 27 = .ok (.istore_n 1, 1) := by decide +kernel
theorem dX9_missingMany_28 : decode cX9_missingMany 28 = .ok (.iinc 2 1, 3) := by decide +kernel
theorem dX9_missingMany_31 : decode cX9_missingMany 31 = .ok (.goto (-27), 3) := by decide +kernel
theorem dX9_missingMany_34 : decode cX9_missingMany 34 = .ok (.iload_n 1, 1) := by decide +kernel
theorem dX9_missingMany_35 : decode cX9_missingMany 35 = .ok (.ireturn, 1) := by decide +kernel
set_option maxRecDepth 20000 in
theorem ggX9_isFlag_X9_all : GoodIn wsX9_isFlag wsX9_all := goodIn_r _ [5, 6, 19, 20, 21, 22, 23, 24, 25, 26, 27, 28, 29, 30, 31, 32, 33, 34, 35, 36, 37, 38, 39, 40, 41, 42, 43, 44, 45] (by decide +kernel) (by decide +kernel)
set_option maxRecDepth 20000 in
theorem gX9_isFlag_X9_all : GoodIn wsX9_isFlag (wsV RX9 55 RX9 yX9_all wsX9_all) := goodIn_app (goodIn_of _ (by decide +kernel)) ggX9_isFlag_X9_all
set_option maxRecDepth 20000 in
theorem ggX9_isFlag_X9_isMissing : GoodIn wsX9_isFlag wsX9_isMissing := goodIn_r _ [10, 6, 11, 12, 13, 4, 14, 15, 19, 20, 21, 22, 23, 24, 25, 26, 27, 28, 29, 30, 31, 32, 33, 34, 35, 36, 37, 38, 39, 40, 41, 42, 43, 44, 45] (by decide +kernel) (by decide +kernel)
set_option maxRecDepth 20000 in
theorem gX9_isFlag_X9_isMissing : GoodIn wsX9_isFlag (wsV RX9 102 RX9 yX9_isMissing wsX9_isMissing) := goodIn_app (goodIn_of _ (by decide +kernel)) ggX9_isFlag_X9_isMissing
set_option maxRecDepth 20000 in
theorem ggX9_isFlag_X9_size : GoodIn wsX9_isFlag wsX9_size := goodIn_r _ [18] (by decide +kernel) (by decide +kernel)
set_option maxRecDepth 20000 in
theorem gX9_isFlag_X9_size : GoodIn wsX9_isFlag (va_wsS RX9 90 yX9_size wsX9_size) := goodIn_app (goodIn_of _ (by decide +kernel)) ggX9_isFlag_X9_size
theorem dX9_isFlag_0 : decode cX9_isFlag 0 = .ok (.iconst 1, 1) := by decide +kernel
theorem dX9_isFlag_1 : decode cX9_isFlag 1 = .ok (.istore_n 1, 1) := by decide +kernel
theorem dX9_isFlag_2 : decode cX9_isFlag 2 = .ok (.iconst 0, 1) := by decide +kernel
theorem dX9_isFlag_3 : decode cX9_isFlag 3 = .ok (.istore_n 2, 1) := by decide +kernel
theorem dX9_isFlag_4 : decode cX9_isFlag 4 = .ok (.iload_n 2, 1) := by decide +kernel
theorem dX9_isFlag_5 : decode cX9_isFlag 5 = .ok (.aload_n 0, 1) := by decide +kernel
theorem dX9_isFlag_6 : decode cX9_isFlag 6 = .ok (.invokevirtual 55, 3) := by decide +kernel
theorem dX9_isFlag_9 : decode cX9_isFlag 9 = .ok (.if_icmp .gt 35, 3) := by decide +kernel
theorem dX9_isFlag_12 : decode cX9_isFlag 12 = .ok (.iload_n 1, 1) := by decide +kernel
theorem dX9_isFlag_13 : decode cX9_isFlag 13 = .ok (.ifCond .eq 23, 3) := by decide +kernel
theorem dX9_isFlag_16 : decode cX9_isFlag 16 = .ok (.aload_n 0, 1) := by decide +kernel
theorem dX9_isFlag_17 : decode cX9_isFlag 17 = .ok (.iload_n 2, 1) := by decide +kernel
theorem dX9_isFlag_18 : decode cX9_isFlag 18 = .ok (.invokevirtual 102, 3) := by decide +kernel
theorem dX9_isFlag_21 : decode cX9_isFlag 21 = .ok (.ifCond .eq 11, 3) := by decide +kernel
theorem dX9_isFlag_24 : decode cX9_isFlag 24 = .ok (.iload_n 2, 1) := by decide +kernel
theorem dX9_isFlag_25 : decode cX9_isFlag 25 = .ok (.invokestatic 90, 3) := by decide +kernel
theorem dX9_isFlag_28 : decode cX9_isFlag 28 = .ok (.iconst 2, 1) := by decide +kernel
theorem dX9_isFlag_29 : decode cX9_isFlag 29 = .ok (.if_icmp .ne 7, 3) := by decide +kernel
theorem dX9_isFlag_32 : decode cX9_isFlag 32 = .ok (.iconst 1, 1) := by decide +kernel
theorem dX9_isFlag_33 : decode cX9_isFlag 33 = .ok (.goto 4, 3) := by decide +kernel
theorem dX9_isFlag_36 : decode cX9_isFlag 36 = .ok (.iconst 0, 1) := by decide +kernel
theorem dX9_isFlag_37 : decode cX9_isFlag 37 = .ok (.istore_n 1, 1) := by decide +kernel
theorem dX9_isFlag_38 : decode cX9_isFlag 38 = .ok (.iinc 2 1, 3) := by decide +kernel
theorem dX9_isFlag_41 : decode cX9_isFlag 41 = .ok (.goto (-37), 3) := by decide +kernel
theorem dX9_isFlag_44 : decode cX9_isFlag 44 = .ok (.iload_n 1, 1) := by decide +kernel
theorem dX9_isFlag_45 : decode cX9_isFlag 45 = .ok (.ireturn, 1) := by decide +kernel
theorem dX9_clear_0 : decode cX9_clear 0 = .ok (.iconst 0, 1) := by decide +kernel
theorem dX9_clear_1 : decode cX9_clear 1 = .ok (.istore_n 1, 1) := by decide +kernel
theorem dX9_clear_2 : decode cX9_clear 2 = .ok (.iload_n 1, 1) := by decide +kernel
theorem dX9_clear_3 : decode cX9_clear 3 = .ok (.bipush 64, 2) := by decide +kernel
theorem dX9_clear_5 : decode cX9_clear 5 = .ok (.if_icmp .ge 16, 3) := by decide +kernel
theorem dX9_clear_8 : decode cX9_clear 8 = .ok (.aload_n 0, 1) := by decide +kernel
theorem dX9_clear_9 : decode cX9_clear 9 = .ok (.getfield 25, 3) := by decide +kernel
theorem dX9_clear_12 : decode cX9_clear 12 = .ok (.iload_n 1, 1) := by decide +kernel
theorem dX9_clear_13 : decode cX9_clear 13 = .ok (.lconst 0, 1) := by decide +kernel
theorem dX9_clear_14 : decode cX9_clear 14 = .ok (.lastore, 1) := by decide +kernel
theorem dX9_clear_15 : decode cX9_clear 15 = .ok (.iinc 1 1, 3) := by decide +kernel
theorem dX9_clear_18 : decode cX9_clear 18 = .ok (.goto (-16), 3) := by decide +kernel
theorem dX9_clear_21 : decode cX9_clear 21 = .ok (.return_, 1) := by decide +kernel
theorem dX9_lays_0 : decode cX9_lays 0 = .ok (.lload_n 1, 1) := by decide +kernel
theorem dX9_lays_1 : decode cX9_lays 1 = .ok (.lstore_n 3, 1) := by decide +kernel
theorem dX9_lays_2 : decode cX9_lays 2 = .ok (.bipush 63, 2) := by decide +kernel
theorem dX9_lays_4 : decode cX9_lays 4 = .ok (.istore 5, 2) := by decide +kernel
theorem dX9_lays_6 : decode cX9_lays 6 = .ok (.iload 5, 2) := by decide +kernel
theorem dX9_lays_8 : decode cX9_lays 8 = .ok (.ifCond .lt 55, 3) := by decide +kernel
theorem dX9_lays_11 : decode cX9_lays 11 = .ok (.lload_n 3, 1) := by decide +kernel
theorem dX9_lays_12 : decode cX9_lays 12 = .ok (.iload 5, 2) := by decide +kernel
theorem dX9_lays_14 : decode cX9_lays 14 = .ok (.lshr, 1) := by decide +kernel
theorem dX9_lays_15 : decode cX9_lays 15 = .ok (.lconst 1, 1) := by decide +kernel
theorem dX9_lays_16 : decode cX9_lays 16 = .ok (.land, 1) := by decide +kernel
theorem dX9_lays_17 : decode cX9_lays 17 = .ok (.lconst 0, 1) := by decide +kernel
theorem dX9_lays_18 : decode cX9_lays 18 = .ok (.lcmp, 1) := by decide +kernel
theorem dX9_lays_19 : decode cX9_lays 19 = .ok (.ifCond .ne 6, 3) := by decide +kernel
theorem dX9_lays_22 : decode cX9_lays 22 = .ok (.goto 35, 3) := by decide +kernel
theorem dX9_lays_25 : decode cX9_lays 25 = .ok (.aload_n 0, 1) := by decide +kernel
theorem dX9_lays_26 : decode cX9_lays 26 = .ok (.getfield 25, 3) := by decide +kernel
theorem dX9_lays_29 : decode cX9_lays 29 = .ok (.iload 5, 2) := by decide +kernel
theorem dX9_lays_31 : decode cX9_lays 31 = .ok (.laload, 1) := by decide +kernel
theorem dX9_lays_32 : decode cX9_lays 32 = .ok (.lconst 0, 1) := by decide +kernel
theorem dX9_lays_33 : decode cX9_lays 33 = .ok (.lcmp, 1) := by decide +kernel
theorem dX9_lays_34 : decode cX9_lays 34 = .ok (.ifCond .ne 13, 3) := by decide +kernel
theorem dX9_lays_37 : decode cX9_lays 37 = .ok (.aload_n 0, 1) := by decide +kernel
theorem dX9_lays_38 : decode cX9_lays 38 = .ok (.getfield 25, 3) := by decide +kernel
theorem dX9_lays_41 : decode cX9_lays 41 = .ok (.iload 5, 2) := by decide +kernel
theorem dX9_lays_43 : decode cX9_lays 43 = .ok (.lload_n 3, 1) := by decide +kernel
theorem dX9_lays_44 : decode cX9_lays 44 = .ok (.lastore, 1) := by decide +kernel
theorem dX9_lays_45 : decode cX9_lays 45 = .ok (.iconst 1, 1) := by decide +kernel
theorem dX9_lays_46 : decode cX9_lays 46 = .ok (.ireturn, 1) := by decide +kernel
theorem dX9_lays_47 : decode cX9_lays 47 = .ok (.lload_n 3, 1) := by decide +kernel
theorem dX9_lays_48 : decode cX9_lays 48 = .ok (.aload_n 0, 1) := by decide +kernel
theorem dX9_lays_49 : decode cX9_lays 49 = .ok (.getfield 25, 3) := by decide +kernel
theorem dX9_lays_52 : decode cX9_lays 52 = .ok (.iload 5, 2) := by decide +kernel
theorem dX9_lays_54 : decode cX9_lays 54 = .ok (.laload, 1) := by decide +kernel
theorem dX9_lays_55 : decode cX9_lays 55 = .ok (.lxor, 1) := by decide +kernel
theorem dX9_lays_56 : decode cX9_lays 56 = .ok (.lstore_n 3, 1) := by decide +kernel
theorem dX9_lays_57 : decode cX9_lays 57 = .ok (.iinc 5 (-1), 3) := by decide +kernel
theorem dX9_lays_60 : decode cX9_lays 60 = .ok (.goto (-54), 3) := by decide +kernel
theorem dX9_lays_63 : decode cX9_lays 63 = .ok (.iconst 0, 1) := by decide +kernel
theorem dX9_lays_64 : decode cX9_lays 64 = .ok (.ireturn, 1) := by decide +kernel
theorem dX9_border_0 : decode cX9_border 0 = .ok (.lconst 0, 1) := by decide +kernel
theorem dX9_border_1 : decode cX9_border 1 = .ok (.lstore_n 2, 1) := by decide +kernel
theorem dX9_border_2 : decode cX9_border 2 = .ok (.iconst 0, 1) := by decide +kernel
theorem dX9_border_3 : decode cX9_border 3 = .ok (.istore 4, 2) := by decide +kernel
theorem dX9_border_5 : decode cX9_border 5 = .ok (.iload 4, 2) := by decide +kernel
theorem dX9_border_7 : decode cX9_border 7 = .ok (.aload_n 0, 1) := by decide +kernel
theorem dX9_border_8 : decode cX9_border 8 = .ok (.getfield 7, 3) := by decide +kernel
theorem dX9_border_11 : decode cX9_border 11 = .ok (.if_icmp .ge 36, 3) := by decide +kernel
theorem dX9_border_14 : decode cX9_border 14 = .ok (.lload_n 2, 1) := by decide +kernel
theorem dX9_border_15 : decode cX9_border 15 = .ok (.iload_n 1, 1) := by decide +kernel
theorem dX9_border_16 : decode cX9_border 16 = .ok (.iload 4, 2) := by decide +kernel
theorem dX9_border_18 : decode cX9_border 18 = .ok (.ishr, 1) := by decide +kernel
theorem dX9_border_19 : decode cX9_border 19 = .ok (.iconst 1, 1) := by decide +kernel
theorem dX9_border_20 : decode cX9_border 20 = .ok (.iand, 1) := by decide +kernel
theorem dX9_border_21 : decode cX9_border 21 = .ok (.iconst 1, 1) := by decide +kernel
theorem dX9_border_22 : decode cX9_border 22 = .ok (.if_icmp .ne 16, 3) := by decide +kernel
theorem dX9_border_25 : decode cX9_border 25 = .ok (.lconst 1, 1) := by decide +kernel
theorem dX9_border_26 : decode cX9_border 26 = .ok (.iload_n 1, 1) := by decide +kernel
theorem dX9_border_27 : decode cX9_border 27 = .ok (.iconst 1, 1) := by decide +kernel
theorem dX9_border_28 : decode cX9_border 28 = .ok (.iload 4, 2) := by decide +kernel
theorem dX9_border_30 : decode cX9_border 30 = .ok (.ishl, 1) := by decide +kernel
theorem dX9_border_31 : decode cX9_border 31 = .ok (.iconst (-1), 1) := by decide +kernel
theorem dX9_border_32 : decode cX9_border 32 = .ok (.ixor, 1) := by decide +kernel
theorem dX9_border_33 : decode cX9_border 33 = .ok (.iand, 1) := by decide +kernel
theorem dX9_border_34 : decode cX9_border 34 = .ok (.lshl, 1) := by decide +kernel
theorem dX9_border_35 : decode cX9_border 35 = .ok (.goto 4, 3) := by decide +kernel
theorem dX9_border_38 : decode cX9_border 38 = .ok (.lconst 0, 1) := by decide +kernel
theorem dX9_border_39 : decode cX9_border 39 = .ok (.lxor, 1) := by decide +kernel
theorem dX9_border_40 : decode cX9_border 40 = .ok (.lstore_n 2, 1) := by decide +kernel
theorem dX9_border_41 : decode cX9_border 41 = .ok (.iinc 4 1, 3) := by decide +kernel
theorem dX9_border_44 : decode cX9_border 44 = .ok (.goto (-39), 3) := by decide +kernel
theorem dX9_border_47 : decode cX9_border 47 = .ok (.lload_n 2, 1) := by decide +kernel
theorem dX9_border_48 : decode cX9_border 48 = .ok (.lreturn, 1) := by decide +kernel
set_option maxRecDepth 20000 in
theorem ggX9_borders_X9_clear : GoodIn wsX9_borders wsX9_clear := goodIn_r _ [5, 6, 28, 29, 30, 31, 32, 33, 34, 35, 36, 37, 38, 39, 40, 41, 42, 43, 44, 45, 46, 47, 48, 49, 50, 51, 52, 53, 54] (by decide +kernel) (by decide +kernel)
set_option maxRecDepth 20000 in
theorem gX9_borders_X9_clear : GoodIn wsX9_borders (wsV RX9 105 RX9 yX9_clear wsX9_clear) := goodIn_app (goodIn_of _ (by decide +kernel)) ggX9_borders_X9_clear
set_option maxRecDepth 20000 in
theorem ggX9_borders_X9_all : GoodIn wsX9_borders wsX9_all := goodIn_r _ [10, 11, 28, 29, 30, 31, 32, 33, 34, 35, 36, 37, 38, 39, 40, 41, 42, 43, 44, 45, 46, 47, 48, 49, 50, 51, 52, 53, 54] (by decide +kernel) (by decide +kernel)
set_option maxRecDepth 20000 in
theorem gX9_borders_X9_all : GoodIn wsX9_borders (wsV RX9 55 RX9 yX9_all wsX9_all) := goodIn_app (goodIn_of _ (by decide +kernel)) ggX9_borders_X9_all
set_option maxRecDepth 20000 in
theorem ggX9_borders_X9_size : GoodIn wsX9_borders wsX9_size := goodIn_r _ [14] (by decide +kernel) (by decide +kernel)
set_option maxRecDepth 20000 in
theorem gX9_borders_X9_size : GoodIn wsX9_borders (va_wsS RX9 90 yX9_size wsX9_size) := goodIn_app (goodIn_of _ (by decide +kernel)) ggX9_borders_X9_size
set_option maxRecDepth 20000 in
theorem ggX9_borders_X9_isFace : GoodIn wsX9_borders wsX9_isFace := goodIn_r _ [18, 19, 28, 29, 30, 31, 32, 33, 34, 35, 36, 37, 38, 39, 40, 41, 42, 43, 44, 45, 46, 47, 48, 49, 50, 51, 52, 53, 54] (by decide +kernel) (by decide +kernel)
set_option maxRecDepth 20000 in
theorem gX9_borders_X9_isFace : GoodIn wsX9_borders (wsV RX9 85 RX9 yX9_isFace wsX9_isFace) := goodIn_app (goodIn_of _ (by decide +kernel)) ggX9_borders_X9_isFace
set_option maxRecDepth 20000 in
theorem ggX9_borders_X9_border : GoodIn wsX9_borders wsX9_border := goodIn_r _ [23, 11, 28, 29, 30, 31, 32, 33, 34, 35, 36, 37, 38, 39, 40, 41, 42, 43, 44, 45, 46, 47, 48, 49, 50, 51, 52, 53, 54] (by decide +kernel) (by decide +kernel)
set_option maxRecDepth 20000 in
theorem gX9_borders_X9_border : GoodIn wsX9_borders (wsV RX9 108 RX9 yX9_border wsX9_border) := goodIn_app (goodIn_of _ (by decide +kernel)) ggX9_borders_X9_border
set_option maxRecDepth 20000 in
theorem ggX9_borders_X9_lays : GoodIn wsX9_borders wsX9_lays := goodIn_r _ [27, 6, 28, 29, 30, 31, 32, 33, 34, 35, 36, 37, 38, 39, 40, 41, 42, 43, 44, 45, 46, 47, 48, 49, 50, 51, 52, 53, 54] (by decide +kernel) (by decide +kernel)
set_option maxRecDepth 20000 in
theorem gX9_borders_X9_lays : GoodIn wsX9_borders (wsV RX9 111 RX9 yX9_lays wsX9_lays) := goodIn_app (goodIn_of _ (by decide +kernel)) ggX9_borders_X9_lays
theorem dX9_borders_0 : decode cX9_borders 0 = .ok (.aload_n 0, 1) := by decide +kernel
theorem dX9_borders_1 : decode cX9_borders 1 = .ok (.invokevirtual 105, 3) := by decide +kernel
theorem dX9_borders_4 : decode cX9_borders 4 = .ok (.iconst 0, 1) := by decide +kernel
theorem dX9_borders_5 : decode cX9_borders 5 = .ok (.istore_n 3, 1) := by decide +kernel
theorem dX9_borders_6 : decode cX9_borders 6 = .ok (.iconst 0, 1) := by decide +kernel
theorem dX9_borders_7 : decode cX9_borders 7 = .ok (.istore 4, 2) := by decide +kernel
theorem dX9_borders_9 : decode cX9_borders 9 = .ok (.iload 4, 2) := by decide +kernel
theorem dX9_borders_11 : decode cX9_borders 11 = .ok (.aload_n 0, 1) := by decide +kernel
theorem dX9_borders_12 : decode cX9_borders 12 = .ok (.invokevirtual 55, 3) := by decide +kernel
theorem dX9_borders_15 : decode cX9_borders 15 = .ok (.if_icmp .gt 57, 3) := by decide +kernel
theorem dX9_borders_18 : decode cX9_borders 18 = .ok (.iload 4, 2) := by decide +kernel
theorem dX9_borders_20 : decode cX9_borders 20 = .ok (.invokestatic 90, 3) := by decide +kernel
theorem dX9_borders_23 : decode cX9_borders 23 = .ok (.iload_n 2, 1) := by decide +kernel
theorem dX9_borders_24 : decode cX9_borders 24 = .ok (.if_icmp .ne 42, 3) := by decide +kernel
theorem dX9_borders_27 : decode cX9_borders 27 = .ok (.iload 4, 2) := by decide +kernel
theorem dX9_borders_29 : decode cX9_borders 29 = .ok (.iload_n 1, 1) := by decide +kernel
theorem dX9_borders_30 : decode cX9_borders 30 = .ok (.iconst (-1), 1) := by decide +kernel
theorem dX9_borders_31 : decode cX9_borders 31 = .ok (.ixor, 1) := by decide +kernel
theorem dX9_borders_32 : decode cX9_borders 32 = .ok (.iand, 1) := by decide +kernel
theorem dX9_borders_33 : decode cX9_borders 33 = .ok (.ifCond .ne 33, 3) := by decide +kernel
theorem dX9_borders_36 : decode cX9_borders 36 = .ok (.aload_n 0, 1) := by decide +kernel
theorem dX9_borders_37 : decode cX9_borders 37 = .ok (.iload 4, 2) := by decide +kernel
theorem dX9_borders_39 : decode cX9_borders 39 = .ok (.invokevirtual 85, 3) := by decide +kernel
theorem dX9_borders_42 : decode cX9_borders 42 = .ok (.ifCond .eq 24, 3) := by decide +kernel
theorem dX9_borders_45 : decode cX9_borders 45 = .ok (.iload_n 3, 1) := by decide +kernel
theorem dX9_borders_46 : decode cX9_borders 46 = .ok (.aload_n 0, 1) := by decide +kernel
theorem dX9_borders_47 : decode cX9_borders 47 = .ok (.aload_n 0, 1) := by decide +kernel
theorem dX9_borders_48 : decode cX9_borders 48 = .ok (.iload 4, 2) := by decide +kernel
theorem dX9_borders_50 : decode cX9_borders 50 = .ok (.invokevirtual 108, 3) := by decide +kernel
theorem dX9_borders_53 : decode cX9_borders 53 = .ok (.invokevirtual 111, 3) := by decide +kernel
theorem dX9_borders_56 : decode cX9_borders 56 = .ok (.ifCond .eq 7, 3) := by decide +kernel
theorem dX9_borders_59 : decode cX9_borders 59 = .ok (.iconst 1, 1) := by decide +kernel
theorem dX9_borders_60 : decode cX9_borders 60 = .ok (.goto 4, 3) := by decide +kernel
theorem dX9_borders_63 : decode cX9_borders 63 = .ok (.iconst 0, 1) := by decide +kernel
theorem dX9_borders_64 : decode cX9_borders 64 = .ok (.iadd, 1) := by decide +kernel
theorem dX9_borders_65 : decode cX9_borders 65 = .ok (.istore_n 3, 1) := by decide +kernel
theorem dX9_borders_66 : decode cX9_borders 66 = .ok (.iinc 4 1, 3) := by decide +kernel
theorem dX9_borders_69 : decode cX9_borders 69 = .ok (.goto (-60), 3) := by decide +kernel
theorem dX9_borders_72 : decode cX9_borders 72 = .ok (.iload_n 3, 1) := by decide +kernel
theorem dX9_borders_73 : decode cX9_borders 73 = .ok (.ireturn, 1) := by decide +kernel
set_option maxRecDepth 20000 in
theorem ggX9_holesOf_X9_facesOf : GoodIn wsX9_holesOf wsX9_facesOf := goodIn_r _ [5, 6, 7, 8, 4, 9, 10, 11, 12, 13, 14, 15, 16, 17, 18, 39, 40, 41, 42, 43, 44, 45, 46, 47, 48, 49, 50, 51, 52, 53, 54, 55, 56, 57, 58, 59, 60, 61, 62, 63, 64, 65] (by decide +kernel) (by decide +kernel)
set_option maxRecDepth 20000 in
theorem gX9_holesOf_X9_facesOf : GoodIn wsX9_holesOf (wsV RX9 98 RX9 yX9_facesOf wsX9_facesOf) := goodIn_app (goodIn_of _ (by decide +kernel)) ggX9_holesOf_X9_facesOf
set_option maxRecDepth 20000 in
theorem ggX9_holesOf_X9_many : GoodIn wsX9_holesOf wsX9_many := goodIn_r _ [21] (by decide +kernel) (by decide +kernel)
set_option maxRecDepth 20000 in
theorem gX9_holesOf_X9_many : GoodIn wsX9_holesOf (va_wsS RX9 77 yX9_many wsX9_many) := goodIn_app (goodIn_of _ (by decide +kernel)) ggX9_holesOf_X9_many
set_option maxRecDepth 20000 in
theorem ggX9_holesOf_X9_borders : GoodIn wsX9_holesOf wsX9_borders := goodIn_r _ [25, 26, 27, 28, 4, 29, 30, 6, 7, 8, 9, 10, 16, 17, 18, 11, 12, 13, 14, 15, 31, 32, 33, 34, 35, 36, 37, 38, 39, 40, 41, 42, 43, 44, 45, 46, 47, 48, 49, 50, 51, 52, 53, 54, 55, 56, 57, 58, 59, 60, 61, 62, 63, 64, 65] (by decide +kernel) (by decide +kernel)
set_option maxRecDepth 20000 in
theorem gX9_holesOf_X9_borders : GoodIn wsX9_holesOf (wsV RX9 115 RX9 yX9_borders wsX9_borders) := goodIn_app (goodIn_of _ (by decide +kernel)) ggX9_holesOf_X9_borders
theorem dX9_holesOf_0 : decode cX9_holesOf 0 = .ok (.aload_n 0, 1) := by decide +kernel
theorem dX9_holesOf_1 : decode cX9_holesOf 1 = .ok (.iload_n 1, 1) := by decide +kernel
theorem dX9_holesOf_2 : decode cX9_holesOf 2 = .ok (.iload_n 2, 1) := by decide +kernel
theorem dX9_holesOf_3 : decode cX9_holesOf 3 = .ok (.iconst 1, 1) := by decide +kernel
theorem dX9_holesOf_4 : decode cX9_holesOf 4 = .ok (.iadd, 1) := by decide +kernel
theorem dX9_holesOf_5 : decode cX9_holesOf 5 = .ok (.invokevirtual 98, 3) := by decide +kernel
theorem dX9_holesOf_8 : decode cX9_holesOf 8 = .ok (.invokestatic 77, 3) := by decide +kernel
theorem dX9_holesOf_11 : decode cX9_holesOf 11 = .ok (.aload_n 0, 1) := by decide +kernel
theorem dX9_holesOf_12 : decode cX9_holesOf 12 = .ok (.iload_n 1, 1) := by decide +kernel
theorem dX9_holesOf_13 : decode cX9_holesOf 13 = .ok (.iload_n 2, 1) := by decide +kernel
theorem dX9_holesOf_14 : decode cX9_holesOf 14 = .ok (.iconst 1, 1) := by decide +kernel
theorem dX9_holesOf_15 : decode cX9_holesOf 15 = .ok (.iadd, 1) := by decide +kernel
theorem dX9_holesOf_16 : decode cX9_holesOf 16 = .ok (.invokevirtual 115, 3) := by decide +kernel
theorem dX9_holesOf_19 : decode cX9_holesOf 19 = .ok (.isub, 1) := by decide +kernel
theorem dX9_holesOf_20 : decode cX9_holesOf 20 = .ok (.aload_n 0, 1) := by decide +kernel
theorem dX9_holesOf_21 : decode cX9_holesOf 21 = .ok (.iload_n 1, 1) := by decide +kernel
theorem dX9_holesOf_22 : decode cX9_holesOf 22 = .ok (.iload_n 2, 1) := by decide +kernel
theorem dX9_holesOf_23 : decode cX9_holesOf 23 = .ok (.iconst 2, 1) := by decide +kernel
theorem dX9_holesOf_24 : decode cX9_holesOf 24 = .ok (.iadd, 1) := by decide +kernel
theorem dX9_holesOf_25 : decode cX9_holesOf 25 = .ok (.invokevirtual 115, 3) := by decide +kernel
theorem dX9_holesOf_28 : decode cX9_holesOf 28 = .ok (.isub, 1) := by decide +kernel
theorem dX9_holesOf_29 : decode cX9_holesOf 29 = .ok (.ireturn, 1) := by decide +kernel
set_option maxRecDepth 20000 in
theorem ggX9_holes_X9_isSet : GoodIn wsX9_holes wsX9_isSet := goodIn_r _ [5, 6, 7, 8, 4, 9, 10, 11, 12, 13, 50, 51, 52, 53, 54, 55, 56, 57, 58, 59, 60, 61, 62, 63, 64, 65, 66, 67, 68, 69, 70, 71, 72, 73, 74, 75, 76] (by decide +kernel) (by decide +kernel)
set_option maxRecDepth 20000 in
theorem gX9_holes_X9_isSet : GoodIn wsX9_holes (wsV RX9 73 RX9 yX9_isSet wsX9_isSet) := goodIn_app (goodIn_of _ (by decide +kernel)) ggX9_holes_X9_isSet
set_option maxRecDepth 20000 in
theorem ggX9_holes_X9_isIn : GoodIn wsX9_holes wsX9_isIn := goodIn_r _ [13] (by decide +kernel) (by decide +kernel)
set_option maxRecDepth 20000 in
theorem gX9_holes_X9_isIn : GoodIn wsX9_holes (va_wsS RX9 59 yX9_isIn wsX9_isIn) := goodIn_app (goodIn_of _ (by decide +kernel)) ggX9_holes_X9_isIn
set_option maxRecDepth 20000 in
theorem ggX9_holes_X9_holesOf : GoodIn wsX9_holes wsX9_holesOf := goodIn_r _ [17, 18, 19, 20, 4, 21, 6, 7, 8, 9, 10, 22, 23, 24, 25, 26, 27, 28, 29, 30, 31, 32, 33, 34, 35, 36, 37, 38, 39, 40, 41, 42, 43, 44, 45, 46, 47, 48, 49, 50, 51, 52, 53, 54, 55, 56, 57, 58, 59, 60, 61, 62, 63, 64, 65, 66, 67, 68, 69, 70, 71, 72, 73, 74, 75, 76] (by decide +kernel) (by decide +kernel)
set_option maxRecDepth 20000 in
theorem gX9_holes_X9_holesOf : GoodIn wsX9_holes (wsV RX9 118 RX9 yX9_holesOf wsX9_holesOf) := goodIn_app (goodIn_of _ (by decide +kernel)) ggX9_holes_X9_holesOf
theorem dX9_holes_0 : decode cX9_holes 0 = .ok (.aload_n 0, 1) := by decide +kernel
theorem dX9_holes_1 : decode cX9_holes 1 = .ok (.iload_n 1, 1) := by decide +kernel
theorem dX9_holes_2 : decode cX9_holes 2 = .ok (.invokevirtual 73, 3) := by decide +kernel
theorem dX9_holes_5 : decode cX9_holes 5 = .ok (.ifCond .eq 21, 3) := by decide +kernel
theorem dX9_holes_8 : decode cX9_holes 8 = .ok (.iload_n 2, 1) := by decide +kernel
theorem dX9_holes_9 : decode cX9_holes 9 = .ok (.iconst (-1), 1) := by decide +kernel
theorem dX9_holes_10 : decode cX9_holes 10 = .ok (.iconst 5, 1) := by decide +kernel
theorem dX9_holes_11 : decode cX9_holes 11 = .ok (.invokestatic 59, 3) := by decide +kernel
theorem dX9_holes_14 : decode cX9_holes 14 = .ok (.ifCond .eq 12, 3) := by decide +kernel
theorem dX9_holes_17 : decode cX9_holes 17 = .ok (.aload_n 0, 1) := by decide +kernel
theorem dX9_holes_18 : decode cX9_holes 18 = .ok (.iload_n 1, 1) := by decide +kernel
theorem dX9_holes_19 : decode cX9_holes 19 = .ok (.iload_n 2, 1) := by decide +kernel
theorem dX9_holes_20 : decode cX9_holes 20 = .ok (.invokevirtual 118, 3) := by decide +kernel
theorem dX9_holes_23 : decode cX9_holes 23 = .ok (.goto 4, 3) := by decide +kernel
theorem dX9_holes_26 : decode cX9_holes 26 = .ok (.iconst (-1), 1) := by decide +kernel
theorem dX9_holes_27 : decode cX9_holes 27 = .ok (.ireturn, 1) := by decide +kernel
set_option maxRecDepth 20000 in
theorem ggX9_space_X9_isIn : GoodIn wsX9_space wsX9_isIn := goodIn_r _ [4] (by decide +kernel) (by decide +kernel)
set_option maxRecDepth 20000 in
theorem gX9_space_X9_isIn : GoodIn wsX9_space (va_wsS RX9 59 yX9_isIn wsX9_isIn) := goodIn_app (goodIn_of _ (by decide +kernel)) ggX9_space_X9_isIn
set_option maxRecDepth 20000 in
theorem ggX9_space_X9_all : GoodIn wsX9_space wsX9_all := goodIn_r _ [8, 9, 46, 47, 48, 49, 50, 51, 52, 53, 54, 55, 56, 57, 58, 59, 60, 61, 62, 63, 64, 65, 66, 67, 68, 69, 70, 71, 72] (by decide +kernel) (by decide +kernel)
set_option maxRecDepth 20000 in
theorem gX9_space_X9_all : GoodIn wsX9_space (wsV RX9 55 RX9 yX9_all wsX9_all) := goodIn_app (goodIn_of _ (by decide +kernel)) ggX9_space_X9_all
set_option maxRecDepth 20000 in
theorem ggX9_space_X9_size : GoodIn wsX9_space wsX9_size := goodIn_r _ [12] (by decide +kernel) (by decide +kernel)
set_option maxRecDepth 20000 in
theorem gX9_space_X9_size : GoodIn wsX9_space (va_wsS RX9 90 yX9_size wsX9_size) := goodIn_app (goodIn_of _ (by decide +kernel)) ggX9_space_X9_size
set_option maxRecDepth 20000 in
theorem ggX9_space_X9_holesOf : GoodIn wsX9_space wsX9_holesOf := goodIn_r _ [16, 17, 18, 19, 3, 20, 5, 6, 7, 8, 9, 21, 22, 23, 24, 25, 10, 11, 12, 26, 27, 28, 29, 30, 31, 32, 33, 34, 35, 36, 37, 38, 39, 40, 41, 42, 43, 44, 45, 46, 47, 48, 49, 50, 51, 52, 53, 54, 55, 56, 57, 58, 59, 60, 61, 62, 63, 64, 65, 66, 67, 68, 69, 70, 71, 72] (by decide +kernel) (by decide +kernel)
set_option maxRecDepth 20000 in
theorem gX9_space_X9_holesOf : GoodIn wsX9_space (wsV RX9 118 RX9 yX9_holesOf wsX9_holesOf) := goodIn_app (goodIn_of _ (by decide +kernel)) ggX9_space_X9_holesOf
theorem dX9_space_0 : decode cX9_space 0 = .ok (.iload_n 1, 1) := by decide +kernel
theorem dX9_space_1 : decode cX9_space 1 = .ok (.iconst 0, 1) := by decide +kernel
theorem dX9_space_2 : decode cX9_space 2 = .ok (.bipush 12, 2) := by decide +kernel
theorem dX9_space_4 : decode cX9_space 4 = .ok (.invokestatic 59, 3) := by decide +kernel
theorem dX9_space_7 : decode cX9_space 7 = .ok (.ifCond .eq 12, 3) := by decide +kernel
theorem dX9_space_10 : decode cX9_space 10 = .ok (.iload_n 2, 1) := by decide +kernel
theorem dX9_space_11 : decode cX9_space 11 = .ok (.iconst 0, 1) := by decide +kernel
theorem dX9_space_12 : decode cX9_space 12 = .ok (.iconst 1, 1) := by decide +kernel
theorem dX9_space_13 : decode cX9_space 13 = .ok (.invokestatic 59, 3) := by decide +kernel
theorem dX9_space_16 : decode cX9_space 16 = .ok (.ifCond .ne 5, 3) := by decide +kernel
theorem dX9_space_19 : decode cX9_space 19 = .ok (.iconst (-1), 1) := by decide +kernel
theorem dX9_space_20 : decode cX9_space 20 = .ok (.ireturn, 1) := by decide +kernel
theorem dX9_space_21 : decode cX9_space 21 = .ok (.iconst 0, 1) := by decide +kernel
theorem dX9_space_22 : decode cX9_space 22 = .ok (.istore_n 3, 1) := by decide +kernel
theorem dX9_space_23 : decode cX9_space 23 = .ok (.iconst 0, 1) := by decide +kernel
theorem dX9_space_24 : decode cX9_space 24 = .ok (.istore 4, 2) := by decide +kernel
theorem dX9_space_26 : decode cX9_space 26 = .ok (.iload 4, 2) := by decide +kernel
theorem dX9_space_28 : decode cX9_space 28 = .ok (.aload_n 0, 1) := by decide +kernel
theorem dX9_space_29 : decode cX9_space 29 = .ok (.invokevirtual 55, 3) := by decide +kernel
theorem dX9_space_32 : decode cX9_space 32 = .ok (.if_icmp .gt 55, 3) := by decide +kernel
theorem dX9_space_35 : decode cX9_space 35 = .ok (.iload_n 2, 1) := by decide +kernel
theorem dX9_space_36 : decode cX9_space 36 = .ok (.ifCond .ne 15, 3) := by decide +kernel
theorem dX9_space_39 : decode cX9_space 39 = .ok (.iload_n 1, 1) := by decide +kernel
theorem dX9_space_40 : decode cX9_space 40 = .ok (.iload 4, 2) := by decide +kernel
theorem dX9_space_42 : decode cX9_space 42 = .ok (.invokestatic 90, 3) := by decide +kernel
theorem dX9_space_45 : decode cX9_space 45 = .ok (.isub, 1) := by decide +kernel
theorem dX9_space_46 : decode cX9_space 46 = .ok (.iconst 1, 1) := by decide +kernel
theorem dX9_space_47 : decode cX9_space 47 = .ok (.isub, 1) := by decide +kernel
theorem dX9_space_48 : decode cX9_space 48 = .ok (.goto 6, 3) := by decide +kernel
theorem dX9_space_51 : decode cX9_space 51 = .ok (.iload_n 1, 1) := by decide +kernel
theorem dX9_space_52 : decode cX9_space 52 = .ok (.iconst 1, 1) := by decide +kernel
theorem dX9_space_53 : decode cX9_space 53 = .ok (.isub, 1) := by decide +kernel
theorem dX9_space_54 : decode cX9_space 54 = .ok (.istore 5, 2) := by decide +kernel
theorem dX9_space_56 : decode cX9_space 56 = .ok (.iload_n 3, 1) := by decide +kernel
theorem dX9_space_57 : decode cX9_space 57 = .ok (.iload 5, 2) := by decide +kernel
theorem dX9_space_59 : decode cX9_space 59 = .ok (.iconst (-1), 1) := by decide +kernel
theorem dX9_space_60 : decode cX9_space 60 = .ok (.iconst 5, 1) := by decide +kernel
theorem dX9_space_61 : decode cX9_space 61 = .ok (.invokestatic 59, 3) := by decide +kernel
theorem dX9_space_64 : decode cX9_space 64 = .ok (.ifCond .eq 14, 3) := by decide +kernel
theorem dX9_space_67 : decode cX9_space 67 = .ok (.aload_n 0, 1) := by decide +kernel
theorem dX9_space_68 : decode cX9_space 68 = .ok (.iload 4, 2) := by decide +kernel
theorem dX9_space_70 : decode cX9_space 70 = .ok (.iload 5, 2) := by decide +kernel
theorem dX9_space_72 : decode cX9_space 72 = .ok (.invokevirtual 118, 3) := by decide +kernel
theorem dX9_space_75 : decode cX9_space 75 = .ok (.goto 4, 3) := by decide +kernel
theorem dX9_space_78 : decode cX9_space 78 = .ok (.iconst 0, 1) := by decide +kernel
theorem dX9_space_79 : decode cX9_space 79 = .ok (.iadd, 1) := by decide +kernel
theorem dX9_space_80 : decode cX9_space 80 = .ok (.istore_n 3, 1) := by decide +kernel
theorem dX9_space_81 : decode cX9_space 81 = .ok (.iinc 4 1, 3) := by decide +kernel
theorem dX9_space_84 : decode cX9_space 84 = .ok (.goto (-58), 3) := by decide +kernel
theorem dX9_space_87 : decode cX9_space 87 = .ok (.iload_n 3, 1) := by decide +kernel
theorem dX9_space_88 : decode cX9_space 88 = .ok (.ireturn, 1) := by decide +kernel
set_option maxRecDepth 20000 in
theorem ggX9_tower_X9_isIn : GoodIn wsX9_tower wsX9_isIn := goodIn_r _ [4] (by decide +kernel) (by decide +kernel)
set_option maxRecDepth 20000 in
theorem gX9_tower_X9_isIn : GoodIn wsX9_tower (va_wsS RX9 59 yX9_isIn wsX9_isIn) := goodIn_app (goodIn_of _ (by decide +kernel)) ggX9_tower_X9_isIn
set_option maxRecDepth 20000 in
theorem ggX9_tower_X9_all : GoodIn wsX9_tower wsX9_all := goodIn_r _ [8, 9, 46, 47, 48, 49, 50, 51, 52, 53, 54, 55, 56, 57, 58, 59, 60, 61, 62, 63, 64, 65, 66, 67, 68, 69, 70, 71, 72] (by decide +kernel) (by decide +kernel)
set_option maxRecDepth 20000 in
theorem gX9_tower_X9_all : GoodIn wsX9_tower (wsV RX9 55 RX9 yX9_all wsX9_all) := goodIn_app (goodIn_of _ (by decide +kernel)) ggX9_tower_X9_all
set_option maxRecDepth 20000 in
theorem ggX9_tower_X9_size : GoodIn wsX9_tower wsX9_size := goodIn_r _ [12] (by decide +kernel) (by decide +kernel)
set_option maxRecDepth 20000 in
theorem gX9_tower_X9_size : GoodIn wsX9_tower (va_wsS RX9 90 yX9_size wsX9_size) := goodIn_app (goodIn_of _ (by decide +kernel)) ggX9_tower_X9_size
set_option maxRecDepth 20000 in
theorem ggX9_tower_X9_holesOf : GoodIn wsX9_tower wsX9_holesOf := goodIn_r _ [16, 17, 18, 19, 3, 20, 5, 6, 7, 8, 9, 21, 22, 23, 24, 25, 10, 11, 12, 26, 27, 28, 29, 30, 31, 32, 33, 34, 35, 36, 37, 38, 39, 40, 41, 42, 43, 44, 45, 46, 47, 48, 49, 50, 51, 52, 53, 54, 55, 56, 57, 58, 59, 60, 61, 62, 63, 64, 65, 66, 67, 68, 69, 70, 71, 72] (by decide +kernel) (by decide +kernel)
set_option maxRecDepth 20000 in
theorem gX9_tower_X9_holesOf : GoodIn wsX9_tower (wsV RX9 118 RX9 yX9_holesOf wsX9_holesOf) := goodIn_app (goodIn_of _ (by decide +kernel)) ggX9_tower_X9_holesOf
theorem dX9_tower_0 : decode cX9_tower 0 = .ok (.iload_n 1, 1) := by decide +kernel
theorem dX9_tower_1 : decode cX9_tower 1 = .ok (.iconst 0, 1) := by decide +kernel
theorem dX9_tower_2 : decode cX9_tower 2 = .ok (.bipush 6, 2) := by decide +kernel
theorem dX9_tower_4 : decode cX9_tower 4 = .ok (.invokestatic 59, 3) := by decide +kernel
theorem dX9_tower_7 : decode cX9_tower 7 = .ok (.ifCond .eq 13, 3) := by decide +kernel
theorem dX9_tower_10 : decode cX9_tower 10 = .ok (.iload_n 2, 1) := by decide +kernel
theorem dX9_tower_11 : decode cX9_tower 11 = .ok (.iconst 0, 1) := by decide +kernel
theorem dX9_tower_12 : decode cX9_tower 12 = .ok (.bipush 6, 2) := by decide +kernel
theorem dX9_tower_14 : decode cX9_tower 14 = .ok (.invokestatic 59, 3) := by decide +kernel
theorem dX9_tower_17 : decode cX9_tower 17 = .ok (.ifCond .ne 5, 3) := by decide +kernel
theorem dX9_tower_20 : decode cX9_tower 20 = .ok (.iconst (-1), 1) := by decide +kernel
theorem dX9_tower_21 : decode cX9_tower 21 = .ok (.ireturn, 1) := by decide +kernel
theorem dX9_tower_22 : decode cX9_tower 22 = .ok (.iconst 0, 1) := by decide +kernel
theorem dX9_tower_23 : decode cX9_tower 23 = .ok (.istore_n 3, 1) := by decide +kernel
theorem dX9_tower_24 : decode cX9_tower 24 = .ok (.iconst 0, 1) := by decide +kernel
theorem dX9_tower_25 : decode cX9_tower 25 = .ok (.istore 4, 2) := by decide +kernel
theorem dX9_tower_27 : decode cX9_tower 27 = .ok (.iload 4, 2) := by decide +kernel
theorem dX9_tower_29 : decode cX9_tower 29 = .ok (.aload_n 0, 1) := by decide +kernel
theorem dX9_tower_30 : decode cX9_tower 30 = .ok (.invokevirtual 55, 3) := by decide +kernel
theorem dX9_tower_33 : decode cX9_tower 33 = .ok (.if_icmp .gt 49, 3) := by decide +kernel
theorem dX9_tower_36 : decode cX9_tower 36 = .ok (.iload_n 3, 1) := by decide +kernel
theorem dX9_tower_37 : decode cX9_tower 37 = .ok (.iload 4, 2) := by decide +kernel
theorem dX9_tower_39 : decode cX9_tower 39 = .ok (.invokestatic 90, 3) := by decide +kernel
theorem dX9_tower_42 : decode cX9_tower 42 = .ok (.iload_n 2, 1) := by decide +kernel
theorem dX9_tower_43 : decode cX9_tower 43 = .ok (.if_icmp .ne 30, 3) := by decide +kernel
theorem dX9_tower_46 : decode cX9_tower 46 = .ok (.iload_n 2, 1) := by decide +kernel
theorem dX9_tower_47 : decode cX9_tower 47 = .ok (.iload_n 1, 1) := by decide +kernel
theorem dX9_tower_48 : decode cX9_tower 48 = .ok (.isub, 1) := by decide +kernel
theorem dX9_tower_49 : decode cX9_tower 49 = .ok (.iconst 1, 1) := by decide +kernel
theorem dX9_tower_50 : decode cX9_tower 50 = .ok (.isub, 1) := by decide +kernel
theorem dX9_tower_51 : decode cX9_tower 51 = .ok (.iconst (-1), 1) := by decide +kernel
theorem dX9_tower_52 : decode cX9_tower 52 = .ok (.iconst 5, 1) := by decide +kernel
theorem dX9_tower_53 : decode cX9_tower 53 = .ok (.invokestatic 59, 3) := by decide +kernel
theorem dX9_tower_56 : decode cX9_tower 56 = .ok (.ifCond .eq 17, 3) := by decide +kernel
theorem dX9_tower_59 : decode cX9_tower 59 = .ok (.aload_n 0, 1) := by decide +kernel
theorem dX9_tower_60 : decode cX9_tower 60 = .ok (.iload 4, 2) := by decide +kernel
theorem dX9_tower_62 : decode cX9_tower 62 = .ok (.iload_n 2, 1) := by decide +kernel
theorem dX9_tower_63 : decode cX9_tower 63 = .ok (.iload_n 1, 1) := by decide +kernel
theorem dX9_tower_64 : decode cX9_tower 64 = .ok (.isub, 1) := by decide +kernel
theorem dX9_tower_65 : decode cX9_tower 65 = .ok (.iconst 1, 1) := by decide +kernel
theorem dX9_tower_66 : decode cX9_tower 66 = .ok (.isub, 1) := by decide +kernel
theorem dX9_tower_67 : decode cX9_tower 67 = .ok (.invokevirtual 118, 3) := by decide +kernel
theorem dX9_tower_70 : decode cX9_tower 70 = .ok (.goto 4, 3) := by decide +kernel
theorem dX9_tower_73 : decode cX9_tower 73 = .ok (.iconst 0, 1) := by decide +kernel
theorem dX9_tower_74 : decode cX9_tower 74 = .ok (.iadd, 1) := by decide +kernel
theorem dX9_tower_75 : decode cX9_tower 75 = .ok (.istore_n 3, 1) := by decide +kernel
theorem dX9_tower_76 : decode cX9_tower 76 = .ok (.iinc 4 1, 3) := by decide +kernel
theorem dX9_tower_79 : decode cX9_tower 79 = .ok (.goto (-52), 3) := by decide +kernel
theorem dX9_tower_82 : decode cX9_tower 82 = .ok (.iload_n 3, 1) := by decide +kernel
theorem dX9_tower_83 : decode cX9_tower 83 = .ok (.ireturn, 1) := by decide +kernel
end
section
theorem dX9_odd_0 : decode cX9_odd 0 = .ok (.lconst 0, 1) := by decide +kernel
theorem dX9_odd_1 : decode cX9_odd 1 = .ok (.lstore 4, 2) := by decide +kernel
theorem dX9_odd_3 : decode cX9_odd 3 = .ok (.iconst 0, 1) := by decide +kernel
theorem dX9_odd_4 : decode cX9_odd 4 = .ok (.istore 6, 2) := by decide +kernel
theorem dX9_odd_6 : decode cX9_odd 6 = .ok (.iload 6, 2) := by decide +kernel
theorem dX9_odd_8 : decode cX9_odd 8 = .ok (.aload_n 0, 1) := by decide +kernel
theorem dX9_odd_9 : decode cX9_odd 9 = .ok (.getfield 7, 3) := by decide +kernel
theorem dX9_odd_12 : decode cX9_odd 12 = .ok (.if_icmp .ge 36, 3) := by decide +kernel
theorem dX9_odd_15 : decode cX9_odd 15 = .ok (.iload_n 1, 1) := by decide +kernel
theorem dX9_odd_16 : decode cX9_odd 16 = .ok (.iload 6, 2) := by decide +kernel
theorem dX9_odd_18 : decode cX9_odd 18 = .ok (.ishr, 1) := by decide +kernel
theorem dX9_odd_19 : decode cX9_odd 19 = .ok (.iconst 1, 1) := by decide +kernel
theorem dX9_odd_20 : decode cX9_odd 20 = .ok (.iand, 1) := by decide +kernel
theorem dX9_odd_21 : decode cX9_odd 21 = .ok (.iconst 1, 1) := by decide +kernel
theorem dX9_odd_22 : decode cX9_odd 22 = .ok (.if_icmp .ne 20, 3) := by decide +kernel
theorem dX9_odd_25 : decode cX9_odd 25 = .ok (.lload 4, 2) := by decide +kernel
theorem dX9_odd_27 : decode cX9_odd 27 = .ok (.lload_n 2, 1) := by decide +kernel
theorem dX9_odd_28 : decode cX9_odd 28 = .ok (.iload_n 1, 1) := by decide +kernel
theorem dX9_odd_29 : decode cX9_odd 29 = .ok (.iconst 1, 1) := by decide +kernel
theorem dX9_odd_30 : decode cX9_odd 30 = .ok (.iload 6, 2) := by decide +kernel
theorem dX9_odd_32 : decode cX9_odd 32 = .ok (.ishl, 1) := by decide +kernel
theorem dX9_odd_33 : decode cX9_odd 33 = .ok (.iconst (-1), 1) := by decide +kernel
theorem dX9_odd_34 : decode cX9_odd 34 = .ok (.ixor, 1) := by decide +kernel
theorem dX9_odd_35 : decode cX9_odd 35 = .ok (.iand, 1) := by decide +kernel
theorem dX9_odd_36 : decode cX9_odd 36 = .ok (.lshr, 1) := by decide +kernel
theorem dX9_odd_37 : decode cX9_odd 37 = .ok (.lconst 1, 1) := by decide +kernel
theorem dX9_odd_38 : decode cX9_odd 38 = .ok (.land, 1) := by decide +kernel
theorem dX9_odd_39 : decode cX9_odd 39 = .ok (.lxor, 1) := by decide +kernel
theorem dX9_odd_40 : decode cX9_odd 40 = .ok (.lstore 4, 2) := by decide +kernel
theorem dX9_odd_42 : decode cX9_odd 42 = .ok (.iinc 6 1, 3) := by decide +kernel
theorem dX9_odd_45 : decode cX9_odd 45 = .ok (.goto (-39), 3) := by decide +kernel
theorem dX9_odd_48 : decode cX9_odd 48 = .ok (.lload 4, 2) := by decide +kernel
theorem dX9_odd_50 : decode cX9_odd 50 = .ok (.lconst 1, 1) := by decide +kernel
theorem dX9_odd_51 : decode cX9_odd 51 = .ok (.lcmp, 1) := by decide +kernel
theorem dX9_odd_52 : decode cX9_odd 52 = .ok (.ifCond .ne 7, 3) := by decide +kernel
theorem dX9_odd_55 : decode cX9_odd 55 = .ok (.iconst 1, 1) := by decide +kernel
theorem dX9_odd_56 : decode cX9_odd 56 = .ok (.goto 4, 3) := by decide +kernel
theorem dX9_odd_59 : decode cX9_odd 59 = .ok (.iconst 0, 1) := by decide +kernel
theorem dX9_odd_60 : decode cX9_odd 60 = .ok (.ireturn, 1) := by decide +kernel
set_option maxRecDepth 20000 in
theorem ggX9_rise_X9_all : GoodIn wsX9_rise wsX9_all := goodIn_r _ [5, 6, 19, 20, 21, 22, 23, 24, 25, 26, 27, 28, 29, 30, 31, 32, 33, 34, 35, 36, 37, 38, 39, 40, 41, 42, 43, 44, 45] (by decide +kernel) (by decide +kernel)
set_option maxRecDepth 20000 in
theorem gX9_rise_X9_all : GoodIn wsX9_rise (wsV RX9 55 RX9 yX9_all wsX9_all) := goodIn_app (goodIn_of _ (by decide +kernel)) ggX9_rise_X9_all
set_option maxRecDepth 20000 in
theorem ggX9_rise_X9_size : GoodIn wsX9_rise wsX9_size := goodIn_r _ [9] (by decide +kernel) (by decide +kernel)
set_option maxRecDepth 20000 in
theorem gX9_rise_X9_size : GoodIn wsX9_rise (va_wsS RX9 90 yX9_size wsX9_size) := goodIn_app (goodIn_of _ (by decide +kernel)) ggX9_rise_X9_size
set_option maxRecDepth 20000 in
theorem ggX9_rise_X9_isFace : GoodIn wsX9_rise wsX9_isFace := goodIn_r _ [13, 14, 19, 20, 21, 22, 23, 24, 25, 26, 27, 28, 29, 30, 31, 32, 33, 34, 35, 36, 37, 38, 39, 40, 41, 42, 43, 44, 45] (by decide +kernel) (by decide +kernel)
set_option maxRecDepth 20000 in
theorem gX9_rise_X9_isFace : GoodIn wsX9_rise (wsV RX9 85 RX9 yX9_isFace wsX9_isFace) := goodIn_app (goodIn_of _ (by decide +kernel)) ggX9_rise_X9_isFace
set_option maxRecDepth 20000 in
theorem ggX9_rise_X9_odd : GoodIn wsX9_rise wsX9_odd := goodIn_r _ [18, 6, 19, 20, 21, 22, 23, 24, 25, 26, 27, 28, 29, 30, 31, 32, 33, 34, 35, 36, 37, 38, 39, 40, 41, 42, 43, 44, 45] (by decide +kernel) (by decide +kernel)
set_option maxRecDepth 20000 in
theorem gX9_rise_X9_odd : GoodIn wsX9_rise (wsV RX9 121 RX9 yX9_odd wsX9_odd) := goodIn_app (goodIn_of _ (by decide +kernel)) ggX9_rise_X9_odd
theorem dX9_rise_0 : decode cX9_rise 0 = .ok (.lconst 0, 1) := by decide +kernel
theorem dX9_rise_1 : decode cX9_rise 1 = .ok (.lstore 5, 2) := by decide +kernel
theorem dX9_rise_3 : decode cX9_rise 3 = .ok (.iconst 0, 1) := by decide +kernel
theorem dX9_rise_4 : decode cX9_rise 4 = .ok (.istore 7, 2) := by decide +kernel
theorem dX9_rise_6 : decode cX9_rise 6 = .ok (.iload 7, 2) := by decide +kernel
theorem dX9_rise_8 : decode cX9_rise 8 = .ok (.aload_n 0, 1) := by decide +kernel
theorem dX9_rise_9 : decode cX9_rise 9 = .ok (.invokevirtual 55, 3) := by decide +kernel
theorem dX9_rise_12 : decode cX9_rise 12 = .ok (.if_icmp .gt 65, 3) := by decide +kernel
theorem dX9_rise_15 : decode cX9_rise 15 = .ok (.iload 7, 2) := by decide +kernel
theorem dX9_rise_17 : decode cX9_rise 17 = .ok (.invokestatic 90, 3) := by decide +kernel
theorem dX9_rise_20 : decode cX9_rise 20 = .ok (.iload 4, 2) := by decide +kernel
theorem dX9_rise_22 : decode cX9_rise 22 = .ok (.iconst 1, 1) := by decide +kernel
theorem dX9_rise_23 : decode cX9_rise 23 = .ok (.iadd, 1) := by decide +kernel
theorem dX9_rise_24 : decode cX9_rise 24 = .ok (.if_icmp .ne 47, 3) := by decide +kernel
theorem dX9_rise_27 : decode cX9_rise 27 = .ok (.iload 7, 2) := by decide +kernel
theorem dX9_rise_29 : decode cX9_rise 29 = .ok (.iload_n 3, 1) := by decide +kernel
theorem dX9_rise_30 : decode cX9_rise 30 = .ok (.iconst (-1), 1) := by decide +kernel
theorem dX9_rise_31 : decode cX9_rise 31 = .ok (.ixor, 1) := by decide +kernel
theorem dX9_rise_32 : decode cX9_rise 32 = .ok (.iand, 1) := by decide +kernel
theorem dX9_rise_33 : decode cX9_rise 33 = .ok (.ifCond .ne 38, 3) := by decide +kernel
theorem dX9_rise_36 : decode cX9_rise 36 = .ok (.aload_n 0, 1) := by decide +kernel
theorem dX9_rise_37 : decode cX9_rise 37 = .ok (.iload 7, 2) := by decide +kernel
theorem dX9_rise_39 : decode cX9_rise 39 = .ok (.invokevirtual 85, 3) := by decide +kernel
theorem dX9_rise_42 : decode cX9_rise 42 = .ok (.ifCond .ne 6, 3) := by decide +kernel
theorem dX9_rise_45 : decode cX9_rise 45 = .ok (.goto 26, 3) := by decide +kernel
theorem dX9_rise_48 : decode cX9_rise 48 = .ok (.lload 5, 2) := by decide +kernel
theorem dX9_rise_50 : decode cX9_rise 50 = .ok (.aload_n 0, 1) := by decide +kernel
theorem dX9_rise_51 : decode cX9_rise 51 = .ok (.iload 7, 2) := by decide +kernel
theorem dX9_rise_53 : decode cX9_rise 53 = .ok (.lload_n 1, 1) := by decide +kernel
theorem dX9_rise_54 : decode cX9_rise 54 = .ok (.invokevirtual 121, 3) := by decide +kernel
theorem dX9_rise_57 : decode cX9_rise 57 = .ok (.ifCond .eq 10, 3) := by decide +kernel
theorem dX9_rise_60 : decode cX9_rise 60 = .ok (.lconst 1, 1) := by decide +kernel
theorem dX9_rise_61 : decode cX9_rise 61 = .ok (.iload 7, 2) := by decide +kernel
theorem dX9_rise_63 : decode cX9_rise 63 = .ok (.lshl, 1) := by decide +kernel
theorem dX9_rise_64 : decode cX9_rise 64 = .ok (.goto 4, 3) := by decide +kernel
theorem dX9_rise_67 : decode cX9_rise 67 = .ok (.lconst 0, 1) := by decide +kernel
theorem dX9_rise_68 : decode cX9_rise 68 = .ok (.lor, 1) := by decide +kernel
theorem dX9_rise_69 : decode cX9_rise 69 = .ok (.lstore 5, 2) := by decide +kernel
theorem dX9_rise_71 : decode cX9_rise 71 = .ok (.iinc 7 1, 3) := by decide +kernel
theorem dX9_rise_74 : decode cX9_rise 74 = .ok (.goto (-68), 3) := by decide +kernel
theorem dX9_rise_77 : decode cX9_rise 77 = .ok (.lload 5, 2) := by decide +kernel
theorem dX9_rise_79 : decode cX9_rise 79 = .ok (.lreturn, 1) := by decide +kernel
set_option maxRecDepth 20000 in
theorem ggX9_closed_X9_all : GoodIn wsX9_closed wsX9_all := goodIn_r _ [7, 8, 28, 29, 30, 31, 32, 33, 34, 35, 36, 37, 38, 39, 40, 41, 42, 43, 44, 45, 46, 47, 48, 49, 50, 51, 52, 53, 54] (by decide +kernel) (by decide +kernel)
set_option maxRecDepth 20000 in
theorem gX9_closed_X9_all : GoodIn wsX9_closed (wsV RX9 55 RX9 yX9_all wsX9_all) := goodIn_app (goodIn_of _ (by decide +kernel)) ggX9_closed_X9_all
set_option maxRecDepth 20000 in
theorem ggX9_closed_X9_size : GoodIn wsX9_closed wsX9_size := goodIn_r _ [11] (by decide +kernel) (by decide +kernel)
set_option maxRecDepth 20000 in
theorem gX9_closed_X9_size : GoodIn wsX9_closed (va_wsS RX9 90 yX9_size wsX9_size) := goodIn_app (goodIn_of _ (by decide +kernel)) ggX9_closed_X9_size
set_option maxRecDepth 20000 in
theorem ggX9_closed_X9_isFace : GoodIn wsX9_closed wsX9_isFace := goodIn_r _ [15, 16, 28, 29, 30, 31, 32, 33, 34, 35, 36, 37, 38, 39, 40, 41, 42, 43, 44, 45, 46, 47, 48, 49, 50, 51, 52, 53, 54] (by decide +kernel) (by decide +kernel)
set_option maxRecDepth 20000 in
theorem gX9_closed_X9_isFace : GoodIn wsX9_closed (wsV RX9 85 RX9 yX9_isFace wsX9_isFace) := goodIn_app (goodIn_of _ (by decide +kernel)) ggX9_closed_X9_isFace
set_option maxRecDepth 20000 in
theorem ggX9_closed_X9_rise : GoodIn wsX9_closed wsX9_rise := goodIn_r _ [20, 3, 4, 5, 6, 7, 8, 9, 10, 11, 12, 13, 14, 15, 16, 21, 22, 23, 24, 28, 29, 30, 31, 32, 33, 34, 35, 36, 37, 38, 39, 40, 41, 42, 43, 44, 45, 46, 47, 48, 49, 50, 51, 52, 53, 54] (by decide +kernel) (by decide +kernel)
set_option maxRecDepth 20000 in
theorem gX9_closed_X9_rise : GoodIn wsX9_closed (wsV RX9 125 RX9 yX9_rise wsX9_rise) := goodIn_app (goodIn_of _ (by decide +kernel)) ggX9_closed_X9_rise
set_option maxRecDepth 20000 in
theorem ggX9_closed_X9_highest : GoodIn wsX9_closed wsX9_highest := goodIn_r _ [27] (by decide +kernel) (by decide +kernel)
set_option maxRecDepth 20000 in
theorem gX9_closed_X9_highest : GoodIn wsX9_closed (va_wsS RX9 129 yX9_highest wsX9_highest) := goodIn_app (goodIn_of _ (by decide +kernel)) ggX9_closed_X9_highest
theorem dX9_closed_0 : decode cX9_closed 0 = .ok (.iconst 0, 1) := by decide +kernel
theorem dX9_closed_1 : decode cX9_closed 1 = .ok (.istore 4, 2) := by decide +kernel
theorem dX9_closed_3 : decode cX9_closed 3 = .ok (.iconst 0, 1) := by decide +kernel
theorem dX9_closed_4 : decode cX9_closed 4 = .ok (.istore 5, 2) := by decide +kernel
theorem dX9_closed_6 : decode cX9_closed 6 = .ok (.iconst 0, 1) := by decide +kernel
theorem dX9_closed_7 : decode cX9_closed 7 = .ok (.istore 6, 2) := by decide +kernel
theorem dX9_closed_9 : decode cX9_closed 9 = .ok (.iload 6, 2) := by decide +kernel
theorem dX9_closed_11 : decode cX9_closed 11 = .ok (.aload_n 0, 1) := by decide +kernel
theorem dX9_closed_12 : decode cX9_closed 12 = .ok (.invokevirtual 55, 3) := by decide +kernel
theorem dX9_closed_15 : decode cX9_closed 15 = .ok (.if_icmp .gt 156, 3) := by decide +kernel
theorem dX9_closed_18 : decode cX9_closed 18 = .ok (.iload 6, 2) := by decide +kernel
theorem dX9_closed_20 : decode cX9_closed 20 = .ok (.invokestatic 90, 3) := by decide +kernel
theorem dX9_closed_23 : decode cX9_closed 23 = .ok (.iload_n 2, 1) := by decide +kernel
theorem dX9_closed_24 : decode cX9_closed 24 = .ok (.if_icmp .ne 141, 3) := by decide +kernel
theorem dX9_closed_27 : decode cX9_closed 27 = .ok (.iload 6, 2) := by decide +kernel
theorem dX9_closed_29 : decode cX9_closed 29 = .ok (.iload_n 1, 1) := by decide +kernel
theorem dX9_closed_30 : decode cX9_closed 30 = .ok (.iconst (-1), 1) := by decide +kernel
theorem dX9_closed_31 : decode cX9_closed 31 = .ok (.ixor, 1) := by decide +kernel
theorem dX9_closed_32 : decode cX9_closed 32 = .ok (.iand, 1) := by decide +kernel
theorem dX9_closed_33 : decode cX9_closed 33 = .ok (.ifCond .ne 132, 3) := by decide +kernel
theorem dX9_closed_36 : decode cX9_closed 36 = .ok (.aload_n 0, 1) := by decide +kernel
theorem dX9_closed_37 : decode cX9_closed 37 = .ok (.iload 6, 2) := by decide +kernel
theorem dX9_closed_39 : decode cX9_closed 39 = .ok (.invokevirtual 85, 3) := by decide +kernel
theorem dX9_closed_42 : decode cX9_closed 42 = .ok (.ifCond .ne 6, 3) := by decide +kernel
theorem dX9_closed_45 : decode cX9_closed 45 = .ok (.goto 120, 3) := by decide +kernel
theorem dX9_closed_48 : decode cX9_closed 48 = .ok (.lconst 1, 1) := by decide +kernel
theorem dX9_closed_49 : decode cX9_closed 49 = .ok (.iload 6, 2) := by decide +kernel
theorem dX9_closed_51 : decode cX9_closed 51 = .ok (.lshl, 1) := by decide +kernel
theorem dX9_closed_52 : decode cX9_closed 52 = .ok (.lstore 7, 2) := by decide +kernel
theorem dX9_closed_54 : decode cX9_closed 54 = .ok (.aload_n 0, 1) := by decide +kernel
theorem dX9_closed_55 : decode cX9_closed 55 = .ok (.lload 7, 2) := by decide +kernel
theorem dX9_closed_57 : decode cX9_closed 57 = .ok (.iload_n 1, 1) := by decide +kernel
theorem dX9_closed_58 : decode cX9_closed 58 = .ok (.iload_n 2, 1) := by decide +kernel
theorem dX9_closed_59 : decode cX9_closed 59 = .ok (.invokevirtual 125, 3) := by decide +kernel
theorem dX9_closed_62 : decode cX9_closed 62 = .ok (.lstore 9, 2) := by decide +kernel
theorem dX9_closed_64 : decode cX9_closed 64 = .ok (.iconst 0, 1) := by decide +kernel
theorem dX9_closed_65 : decode cX9_closed 65 = .ok (.istore 11, 2) := by decide +kernel
theorem dX9_closed_67 : decode cX9_closed 67 = .ok (.iload 11, 2) := by decide +kernel
theorem dX9_closed_69 : decode cX9_closed 69 = .ok (.iload 4, 2) := by decide +kernel
theorem dX9_closed_71 : decode cX9_closed 71 = .ok (.if_icmp .ge 54, 3) := by decide +kernel
theorem dX9_closed_74 : decode cX9_closed 74 = .ok (.lload 9, 2) := by decide +kernel
theorem dX9_closed_76 : decode cX9_closed 76 = .ok (.aload_n 0, 1) := by decide +kernel
theorem dX9_closed_77 : decode cX9_closed 77 = .ok (.getfield 28, 3) := by decide +kernel
theorem dX9_closed_80 : decode cX9_closed 80 = .ok (.iload 11, 2) := by decide +kernel
theorem dX9_closed_82 : decode cX9_closed 82 = .ok (.laload, 1) := by decide +kernel
theorem dX9_closed_83 : decode cX9_closed 83 = .ok (.invokestatic 129, 3) := by decide +kernel
theorem dX9_closed_86 : decode cX9_closed 86 = .ok (.land, 1) := by decide +kernel
theorem dX9_closed_87 : decode cX9_closed 87 = .ok (.lconst 0, 1) := by decide +kernel
theorem dX9_closed_88 : decode cX9_closed 88 = .ok (.lcmp, 1) := by decide +kernel
theorem dX9_closed_89 : decode cX9_closed 89 = .ok (.ifCond .ne 6, 3) := by decide +kernel
theorem dX9_closed_92 : decode cX9_closed 92 = .ok (.goto 27, 3) := by decide +kernel
theorem dX9_closed_95 : decode cX9_closed 95 = .ok (.lload 9, 2) := by decide +kernel
theorem dX9_closed_97 : decode cX9_closed 97 = .ok (.aload_n 0, 1) := by decide +kernel
theorem dX9_closed_98 : decode cX9_closed 98 = .ok (.getfield 28, 3) := by decide +kernel
theorem dX9_closed_101 : decode cX9_closed 101 = .ok (.iload 11, 2) := by decide +kernel
theorem dX9_closed_103 : decode cX9_closed 103 = .ok (.laload, 1) := by decide +kernel
theorem dX9_closed_104 : decode cX9_closed 104 = .ok (.lxor, 1) := by decide +kernel
theorem dX9_closed_105 : decode cX9_closed 105 = .ok (.lstore 9, 2) := by decide +kernel
theorem dX9_closed_107 : decode cX9_closed 107 = .ok (.lload 7, 2) := by decide +kernel
theorem dX9_closed_109 : decode cX9_closed 109 = .ok (.aload_n 0, 1) := by decide +kernel
theorem dX9_closed_110 : decode cX9_closed 110 = .ok (.getfield 31, 3) := by decide +kernel
theorem dX9_closed_113 : decode cX9_closed 113 = .ok (.iload 11, 2) := by decide +kernel
theorem dX9_closed_115 : decode cX9_closed 115 = .ok (.laload, 1) := by decide +kernel
theorem dX9_closed_116 : decode cX9_closed 116 = .ok (.lxor, 1) := by decide +kernel
theorem dX9_closed_117 : decode cX9_closed 117 = .ok (.lstore 7, 2) := by decide +kernel
theorem dX9_closed_119 : decode cX9_closed 119 = .ok (.iinc 11 1, 3) := by decide +kernel
theorem dX9_closed_122 : decode cX9_closed 122 = .ok (.goto (-55), 3) := by decide +kernel
theorem dX9_closed_125 : decode cX9_closed 125 = .ok (.lload 9, 2) := by decide +kernel
theorem dX9_closed_127 : decode cX9_closed 127 = .ok (.lconst 0, 1) := by decide +kernel
theorem dX9_closed_128 : decode cX9_closed 128 = .ok (.lcmp, 1) := by decide +kernel
theorem dX9_closed_129 : decode cX9_closed 129 = .ok (.ifCond .ne 15, 3) := by decide +kernel
theorem dX9_closed_132 : decode cX9_closed 132 = .ok (.aload_n 3, 1) := by decide +kernel
theorem dX9_closed_133 : decode cX9_closed 133 = .ok (.iload 5, 2) := by decide +kernel
theorem dX9_closed_135 : decode cX9_closed 135 = .ok (.lload 7, 2) := by decide +kernel
theorem dX9_closed_137 : decode cX9_closed 137 = .ok (.lastore, 1) := by decide +kernel
theorem dX9_closed_138 : decode cX9_closed 138 = .ok (.iinc 5 1, 3) := by decide +kernel
theorem dX9_closed_141 : decode cX9_closed 141 = .ok (.goto 24, 3) := by decide +kernel
theorem dX9_closed_144 : decode cX9_closed 144 = .ok (.aload_n 0, 1) := by decide +kernel
theorem dX9_closed_145 : decode cX9_closed 145 = .ok (.getfield 28, 3) := by decide +kernel
theorem dX9_closed_148 : decode cX9_closed 148 = .ok (.iload 4, 2) := by decide +kernel
theorem dX9_closed_150 : decode cX9_closed 150 = .ok (.lload 9, 2) := by decide +kernel
theorem dX9_closed_152 : decode cX9_closed 152 = .ok (.lastore, 1) := by decide +kernel
theorem dX9_closed_153 : decode cX9_closed 153 = .ok (.aload_n 0, 1) := by decide +kernel
theorem dX9_closed_154 : decode cX9_closed 154 = .ok (.getfield 31, 3) := by decide +kernel
theorem dX9_closed_157 : decode cX9_closed 157 = .ok (.iload 4, 2) := by decide +kernel
theorem dX9_closed_159 : decode cX9_closed 159 = .ok (.lload 7, 2) := by decide +kernel
theorem dX9_closed_161 : decode cX9_closed 161 = .ok (.lastore, 1) := by decide +kernel
theorem dX9_closed_162 : decode cX9_closed 162 = .ok (.iinc 4 1, 3) := by decide +kernel
theorem dX9_closed_165 : decode cX9_closed 165 = .ok (.iinc 6 1, 3) := by decide +kernel
theorem dX9_closed_168 : decode cX9_closed 168 = .ok (.goto (-159), 3) := by decide +kernel
theorem dX9_closed_171 : decode cX9_closed 171 = .ok (.iload 5, 2) := by decide +kernel
theorem dX9_closed_173 : decode cX9_closed 173 = .ok (.ireturn, 1) := by decide +kernel
theorem dX9_highest_0 : decode cX9_highest 0 = .ok (.bipush 63, 2) := by decide +kernel
theorem dX9_highest_2 : decode cX9_highest 2 = .ok (.istore_n 2, 1) := by decide +kernel
theorem dX9_highest_3 : decode cX9_highest 3 = .ok (.lload_n 0, 1) := by decide +kernel
theorem dX9_highest_4 : decode cX9_highest 4 = .ok (.iload_n 2, 1) := by decide +kernel
theorem dX9_highest_5 : decode cX9_highest 5 = .ok (.lshr, 1) := by decide +kernel
theorem dX9_highest_6 : decode cX9_highest 6 = .ok (.lconst 1, 1) := by decide +kernel
theorem dX9_highest_7 : decode cX9_highest 7 = .ok (.land, 1) := by decide +kernel
theorem dX9_highest_8 : decode cX9_highest 8 = .ok (.lconst 0, 1) := by decide +kernel
theorem dX9_highest_9 : decode cX9_highest 9 = .ok (.lcmp, 1) := by decide +kernel
theorem dX9_highest_10 : decode cX9_highest 10 = .ok (.ifCond .ne 9, 3) := by decide +kernel
theorem dX9_highest_13 : decode cX9_highest 13 = .ok (.iinc 2 (-1), 3) := by decide +kernel
theorem dX9_highest_16 : decode cX9_highest 16 = .ok (.goto (-13), 3) := by decide +kernel
theorem dX9_highest_19 : decode cX9_highest 19 = .ok (.lconst 1, 1) := by decide +kernel
theorem dX9_highest_20 : decode cX9_highest 20 = .ok (.iload_n 2, 1) := by decide +kernel
theorem dX9_highest_21 : decode cX9_highest 21 = .ok (.lshl, 1) := by decide +kernel
theorem dX9_highest_22 : decode cX9_highest 22 = .ok (.lreturn, 1) := by decide +kernel
set_option maxRecDepth 20000 in
theorem ggX9_product_X9_all : GoodIn wsX9_product wsX9_all := goodIn_r _ [5, 6, 15, 16, 17, 18, 19, 20, 21, 22, 23, 24, 25, 26, 27, 28, 29, 30, 31, 32, 33, 34, 35, 36, 37, 38, 39, 40, 41] (by decide +kernel) (by decide +kernel)
set_option maxRecDepth 20000 in
theorem gX9_product_X9_all : GoodIn wsX9_product (wsV RX9 55 RX9 yX9_all wsX9_all) := goodIn_app (goodIn_of _ (by decide +kernel)) ggX9_product_X9_all
set_option maxRecDepth 20000 in
theorem ggX9_product_X9_size : GoodIn wsX9_product wsX9_size := goodIn_r _ [9] (by decide +kernel) (by decide +kernel)
set_option maxRecDepth 20000 in
theorem gX9_product_X9_size : GoodIn wsX9_product (va_wsS RX9 90 yX9_size wsX9_size) := goodIn_app (goodIn_of _ (by decide +kernel)) ggX9_product_X9_size
set_option maxRecDepth 20000 in
theorem ggX9_product_X9_isFace : GoodIn wsX9_product wsX9_isFace := goodIn_r _ [13, 14, 15, 16, 17, 18, 19, 20, 21, 22, 23, 24, 25, 26, 27, 28, 29, 30, 31, 32, 33, 34, 35, 36, 37, 38, 39, 40, 41] (by decide +kernel) (by decide +kernel)
set_option maxRecDepth 20000 in
theorem gX9_product_X9_isFace : GoodIn wsX9_product (wsV RX9 85 RX9 yX9_isFace wsX9_isFace) := goodIn_app (goodIn_of _ (by decide +kernel)) ggX9_product_X9_isFace
theorem dX9_product_0 : decode cX9_product 0 = .ok (.lconst 0, 1) := by decide +kernel
theorem dX9_product_1 : decode cX9_product 1 = .ok (.lstore 9, 2) := by decide +kernel
theorem dX9_product_3 : decode cX9_product 3 = .ok (.iconst 0, 1) := by decide +kernel
theorem dX9_product_4 : decode cX9_product 4 = .ok (.istore 11, 2) := by decide +kernel
theorem dX9_product_6 : decode cX9_product 6 = .ok (.iload 11, 2) := by decide +kernel
theorem dX9_product_8 : decode cX9_product 8 = .ok (.aload_n 0, 1) := by decide +kernel
theorem dX9_product_9 : decode cX9_product 9 = .ok (.invokevirtual 55, 3) := by decide +kernel
theorem dX9_product_12 : decode cX9_product 12 = .ok (.if_icmp .gt 83, 3) := by decide +kernel
theorem dX9_product_15 : decode cX9_product 15 = .ok (.iload 11, 2) := by decide +kernel
theorem dX9_product_17 : decode cX9_product 17 = .ok (.iload_n 3, 1) := by decide +kernel
theorem dX9_product_18 : decode cX9_product 18 = .ok (.iload 7, 2) := by decide +kernel
theorem dX9_product_20 : decode cX9_product 20 = .ok (.ior, 1) := by decide +kernel
theorem dX9_product_21 : decode cX9_product 21 = .ok (.iconst (-1), 1) := by decide +kernel
theorem dX9_product_22 : decode cX9_product 22 = .ok (.ixor, 1) := by decide +kernel
theorem dX9_product_23 : decode cX9_product 23 = .ok (.iand, 1) := by decide +kernel
theorem dX9_product_24 : decode cX9_product 24 = .ok (.ifCond .ne 65, 3) := by decide +kernel
theorem dX9_product_27 : decode cX9_product 27 = .ok (.iload 11, 2) := by decide +kernel
theorem dX9_product_29 : decode cX9_product 29 = .ok (.iload_n 3, 1) := by decide +kernel
theorem dX9_product_30 : decode cX9_product 30 = .ok (.iand, 1) := by decide +kernel
theorem dX9_product_31 : decode cX9_product 31 = .ok (.invokestatic 90, 3) := by decide +kernel
theorem dX9_product_34 : decode cX9_product 34 = .ok (.iload 4, 2) := by decide +kernel
theorem dX9_product_36 : decode cX9_product 36 = .ok (.if_icmp .ne 53, 3) := by decide +kernel
theorem dX9_product_39 : decode cX9_product 39 = .ok (.iload 11, 2) := by decide +kernel
theorem dX9_product_41 : decode cX9_product 41 = .ok (.iload 7, 2) := by decide +kernel
theorem dX9_product_43 : decode cX9_product 43 = .ok (.iand, 1) := by decide +kernel
theorem dX9_product_44 : decode cX9_product 44 = .ok (.invokestatic 90, 3) := by decide +kernel
theorem dX9_product_47 : decode cX9_product 47 = .ok (.iload 8, 2) := by decide +kernel
theorem dX9_product_49 : decode cX9_product 49 = .ok (.if_icmp .ne 40, 3) := by decide +kernel
theorem dX9_product_52 : decode cX9_product 52 = .ok (.aload_n 0, 1) := by decide +kernel
theorem dX9_product_53 : decode cX9_product 53 = .ok (.iload 11, 2) := by decide +kernel
theorem dX9_product_55 : decode cX9_product 55 = .ok (.invokevirtual 85, 3) := by decide +kernel
theorem dX9_product_58 : decode cX9_product 58 = .ok (.ifCond .ne 6, 3) := by decide +kernel
theorem dX9_product_61 : decode cX9_product 61 = .ok (.goto 28, 3) := by decide +kernel
theorem dX9_product_64 : decode cX9_product 64 = .ok (.lload 9, 2) := by decide +kernel
theorem dX9_product_66 : decode cX9_product 66 = .ok (.lload_n 1, 1) := by decide +kernel
theorem dX9_product_67 : decode cX9_product 67 = .ok (.iload 11, 2) := by decide +kernel
theorem dX9_product_69 : decode cX9_product 69 = .ok (.iload_n 3, 1) := by decide +kernel
theorem dX9_product_70 : decode cX9_product 70 = .ok (.iand, 1) := by decide +kernel
theorem dX9_product_71 : decode cX9_product 71 = .ok (.lshr, 1) := by decide +kernel
theorem dX9_product_72 : decode cX9_product 72 = .ok (.lload 5, 2) := by decide +kernel
theorem dX9_product_74 : decode cX9_product 74 = .ok (.iload 11, 2) := by decide +kernel
theorem dX9_product_76 : decode cX9_product 76 = .ok (.iload 7, 2) := by decide +kernel
theorem dX9_product_78 : decode cX9_product 78 = .ok (.iand, 1) := by decide +kernel
theorem dX9_product_79 : decode cX9_product 79 = .ok (.lshr, 1) := by decide +kernel
theorem dX9_product_80 : decode cX9_product 80 = .ok (.land, 1) := by decide +kernel
theorem dX9_product_81 : decode cX9_product 81 = .ok (.lconst 1, 1) := by decide +kernel
theorem dX9_product_82 : decode cX9_product 82 = .ok (.land, 1) := by decide +kernel
theorem dX9_product_83 : decode cX9_product 83 = .ok (.iload 11, 2) := by decide +kernel
theorem dX9_product_85 : decode cX9_product 85 = .ok (.lshl, 1) := by decide +kernel
theorem dX9_product_86 : decode cX9_product 86 = .ok (.lor, 1) := by decide +kernel
theorem dX9_product_87 : decode cX9_product 87 = .ok (.lstore 9, 2) := by decide +kernel
theorem dX9_product_89 : decode cX9_product 89 = .ok (.iinc 11 1, 3) := by decide +kernel
theorem dX9_product_92 : decode cX9_product 92 = .ok (.goto (-86), 3) := by decide +kernel
theorem dX9_product_95 : decode cX9_product 95 = .ok (.lload 9, 2) := by decide +kernel
theorem dX9_product_97 : decode cX9_product 97 = .ok (.lreturn, 1) := by decide +kernel
set_option maxRecDepth 20000 in
theorem ggX9_rankOf_X9_closed : GoodIn wsX9_rankOf wsX9_closed := goodIn_r _ [7, 8, 9, 10, 11, 12, 6, 13, 14, 15, 16, 17, 18, 19, 20, 21, 22, 23, 24, 25, 26, 27, 28, 29, 30, 31, 32, 33, 47, 48, 49, 50, 51, 52, 53, 54, 55, 56, 57, 58, 59, 60, 61, 62, 63, 64, 65, 66, 67, 68, 69, 70, 71, 72, 73] (by decide +kernel) (by decide +kernel)
set_option maxRecDepth 20000 in
theorem gX9_rankOf_X9_closed : GoodIn wsX9_rankOf (wsV RX9 133 RX9 yX9_closed wsX9_closed) := goodIn_app (goodIn_of _ (by decide +kernel)) ggX9_rankOf_X9_closed
set_option maxRecDepth 20000 in
theorem ggX9_rankOf_X9_clear : GoodIn wsX9_rankOf wsX9_clear := goodIn_r _ [37, 38, 47, 48, 49, 50, 51, 52, 53, 54, 55, 56, 57, 58, 59, 60, 61, 62, 63, 64, 65, 66, 67, 68, 69, 70, 71, 72, 73] (by decide +kernel) (by decide +kernel)
set_option maxRecDepth 20000 in
theorem gX9_rankOf_X9_clear : GoodIn wsX9_rankOf (wsV RX9 105 RX9 yX9_clear wsX9_clear) := goodIn_app (goodIn_of _ (by decide +kernel)) ggX9_rankOf_X9_clear
set_option maxRecDepth 20000 in
theorem ggX9_rankOf_X9_all : GoodIn wsX9_rankOf wsX9_all := goodIn_r _ [13, 14, 47, 48, 49, 50, 51, 52, 53, 54, 55, 56, 57, 58, 59, 60, 61, 62, 63, 64, 65, 66, 67, 68, 69, 70, 71, 72, 73] (by decide +kernel) (by decide +kernel)
set_option maxRecDepth 20000 in
theorem gX9_rankOf_X9_all : GoodIn wsX9_rankOf (wsV RX9 55 RX9 yX9_all wsX9_all) := goodIn_app (goodIn_of _ (by decide +kernel)) ggX9_rankOf_X9_all
set_option maxRecDepth 20000 in
theorem ggX9_rankOf_X9_size : GoodIn wsX9_rankOf wsX9_size := goodIn_r _ [17] (by decide +kernel) (by decide +kernel)
set_option maxRecDepth 20000 in
theorem gX9_rankOf_X9_size : GoodIn wsX9_rankOf (va_wsS RX9 90 yX9_size wsX9_size) := goodIn_app (goodIn_of _ (by decide +kernel)) ggX9_rankOf_X9_size
set_option maxRecDepth 20000 in
theorem ggX9_rankOf_X9_isFace : GoodIn wsX9_rankOf wsX9_isFace := goodIn_r _ [21, 22, 47, 48, 49, 50, 51, 52, 53, 54, 55, 56, 57, 58, 59, 60, 61, 62, 63, 64, 65, 66, 67, 68, 69, 70, 71, 72, 73] (by decide +kernel) (by decide +kernel)
set_option maxRecDepth 20000 in
theorem gX9_rankOf_X9_isFace : GoodIn wsX9_rankOf (wsV RX9 85 RX9 yX9_isFace wsX9_isFace) := goodIn_app (goodIn_of _ (by decide +kernel)) ggX9_rankOf_X9_isFace
set_option maxRecDepth 20000 in
theorem ggX9_rankOf_X9_rise : GoodIn wsX9_rankOf wsX9_rise := goodIn_r _ [26, 10, 11, 12, 6, 13, 14, 15, 16, 17, 18, 19, 20, 21, 22, 27, 28, 29, 30, 47, 48, 49, 50, 51, 52, 53, 54, 55, 56, 57, 58, 59, 60, 61, 62, 63, 64, 65, 66, 67, 68, 69, 70, 71, 72, 73] (by decide +kernel) (by decide +kernel)
set_option maxRecDepth 20000 in
theorem gX9_rankOf_X9_rise : GoodIn wsX9_rankOf (wsV RX9 125 RX9 yX9_rise wsX9_rise) := goodIn_app (goodIn_of _ (by decide +kernel)) ggX9_rankOf_X9_rise
set_option maxRecDepth 20000 in
theorem ggX9_rankOf_X9_lays : GoodIn wsX9_rankOf wsX9_lays := goodIn_r _ [42, 38, 47, 48, 49, 50, 51, 52, 53, 54, 55, 56, 57, 58, 59, 60, 61, 62, 63, 64, 65, 66, 67, 68, 69, 70, 71, 72, 73] (by decide +kernel) (by decide +kernel)
set_option maxRecDepth 20000 in
theorem gX9_rankOf_X9_lays : GoodIn wsX9_rankOf (wsV RX9 111 RX9 yX9_lays wsX9_lays) := goodIn_app (goodIn_of _ (by decide +kernel)) ggX9_rankOf_X9_lays
set_option maxRecDepth 20000 in
theorem ggX9_rankOf_X9_product : GoodIn wsX9_rankOf wsX9_product := goodIn_r _ [46, 10, 11, 12, 6, 13, 14, 15, 16, 17, 18, 19, 20, 21, 22, 47, 48, 49, 50, 51, 52, 53, 54, 55, 56, 57, 58, 59, 60, 61, 62, 63, 64, 65, 66, 67, 68, 69, 70, 71, 72, 73] (by decide +kernel) (by decide +kernel)
set_option maxRecDepth 20000 in
theorem gX9_rankOf_X9_product : GoodIn wsX9_rankOf (wsV RX9 137 RX9 yX9_product wsX9_product) := goodIn_app (goodIn_of _ (by decide +kernel)) ggX9_rankOf_X9_product
theorem dX9_rankOf_0 : decode cX9_rankOf 0 = .ok (.aload_n 0, 1) := by decide +kernel
theorem dX9_rankOf_1 : decode cX9_rankOf 1 = .ok (.iload_n 1, 1) := by decide +kernel
theorem dX9_rankOf_2 : decode cX9_rankOf 2 = .ok (.iload_n 3, 1) := by decide +kernel
theorem dX9_rankOf_3 : decode cX9_rankOf 3 = .ok (.iconst 1, 1) := by decide +kernel
theorem dX9_rankOf_4 : decode cX9_rankOf 4 = .ok (.iadd, 1) := by decide +kernel
theorem dX9_rankOf_5 : decode cX9_rankOf 5 = .ok (.aload_n 0, 1) := by decide +kernel
theorem dX9_rankOf_6 : decode cX9_rankOf 6 = .ok (.getfield 34, 3) := by decide +kernel
theorem dX9_rankOf_9 : decode cX9_rankOf 9 = .ok (.invokevirtual 133, 3) := by decide +kernel
theorem dX9_rankOf_12 : decode cX9_rankOf 12 = .ok (.istore 5, 2) := by decide +kernel
theorem dX9_rankOf_14 : decode cX9_rankOf 14 = .ok (.aload_n 0, 1) := by decide +kernel
theorem dX9_rankOf_15 : decode cX9_rankOf 15 = .ok (.iload_n 2, 1) := by decide +kernel
theorem dX9_rankOf_16 : decode cX9_rankOf 16 = .ok (.iload 4, 2) := by decide +kernel
theorem dX9_rankOf_18 : decode cX9_rankOf 18 = .ok (.iconst 1, 1) := by decide +kernel
theorem dX9_rankOf_19 : decode cX9_rankOf 19 = .ok (.iadd, 1) := by decide +kernel
theorem dX9_rankOf_20 : decode cX9_rankOf 20 = .ok (.aload_n 0, 1) := by decide +kernel
theorem dX9_rankOf_21 : decode cX9_rankOf 21 = .ok (.getfield 37, 3) := by decide +kernel
theorem dX9_rankOf_24 : decode cX9_rankOf 24 = .ok (.invokevirtual 133, 3) := by decide +kernel
theorem dX9_rankOf_27 : decode cX9_rankOf 27 = .ok (.istore 6, 2) := by decide +kernel
theorem dX9_rankOf_29 : decode cX9_rankOf 29 = .ok (.iload 5, 2) := by decide +kernel
theorem dX9_rankOf_31 : decode cX9_rankOf 31 = .ok (.ifCond .eq 8, 3) := by decide +kernel
theorem dX9_rankOf_34 : decode cX9_rankOf 34 = .ok (.iload 6, 2) := by decide +kernel
theorem dX9_rankOf_36 : decode cX9_rankOf 36 = .ok (.ifCond .ne 5, 3) := by decide +kernel
theorem dX9_rankOf_39 : decode cX9_rankOf 39 = .ok (.iconst 0, 1) := by decide +kernel
theorem dX9_rankOf_40 : decode cX9_rankOf 40 = .ok (.ireturn, 1) := by decide +kernel
theorem dX9_rankOf_41 : decode cX9_rankOf 41 = .ok (.aload_n 0, 1) := by decide +kernel
theorem dX9_rankOf_42 : decode cX9_rankOf 42 = .ok (.invokevirtual 105, 3) := by decide +kernel
theorem dX9_rankOf_45 : decode cX9_rankOf 45 = .ok (.iconst 0, 1) := by decide +kernel
theorem dX9_rankOf_46 : decode cX9_rankOf 46 = .ok (.istore 7, 2) := by decide +kernel
theorem dX9_rankOf_48 : decode cX9_rankOf 48 = .ok (.iload 7, 2) := by decide +kernel
theorem dX9_rankOf_50 : decode cX9_rankOf 50 = .ok (.aload_n 0, 1) := by decide +kernel
theorem dX9_rankOf_51 : decode cX9_rankOf 51 = .ok (.invokevirtual 55, 3) := by decide +kernel
theorem dX9_rankOf_54 : decode cX9_rankOf 54 = .ok (.if_icmp .gt 65, 3) := by decide +kernel
theorem dX9_rankOf_57 : decode cX9_rankOf 57 = .ok (.iload 7, 2) := by decide +kernel
theorem dX9_rankOf_59 : decode cX9_rankOf 59 = .ok (.invokestatic 90, 3) := by decide +kernel
theorem dX9_rankOf_62 : decode cX9_rankOf 62 = .ok (.iload_n 3, 1) := by decide +kernel
theorem dX9_rankOf_63 : decode cX9_rankOf 63 = .ok (.iload 4, 2) := by decide +kernel
theorem dX9_rankOf_65 : decode cX9_rankOf 65 = .ok (.iadd, 1) := by decide +kernel
theorem dX9_rankOf_66 : decode cX9_rankOf 66 = .ok (.iconst 1, 1) := by decide +kernel
theorem dX9_rankOf_67 : decode cX9_rankOf 67 = .ok (.iadd, 1) := by decide +kernel
theorem dX9_rankOf_68 : decode cX9_rankOf 68 = .ok (.if_icmp .ne 45, 3) := by decide +kernel
theorem dX9_rankOf_71 : decode cX9_rankOf 71 = .ok (.iload 7, 2) := by decide +kernel
theorem dX9_rankOf_73 : decode cX9_rankOf 73 = .ok (.iload_n 1, 1) := by decide +kernel
theorem dX9_rankOf_74 : decode cX9_rankOf 74 = .ok (.iload_n 2, 1) := by decide +kernel
theorem dX9_rankOf_75 : decode cX9_rankOf 75 = .ok (.ior, 1) := by decide +kernel
theorem dX9_rankOf_76 : decode cX9_rankOf 76 = .ok (.iconst (-1), 1) := by decide +kernel
theorem dX9_rankOf_77 : decode cX9_rankOf 77 = .ok (.ixor, 1) := by decide +kernel
theorem dX9_rankOf_78 : decode cX9_rankOf 78 = .ok (.iand, 1) := by decide +kernel
theorem dX9_rankOf_79 : decode cX9_rankOf 79 = .ok (.ifCond .ne 34, 3) := by decide +kernel
theorem dX9_rankOf_82 : decode cX9_rankOf 82 = .ok (.aload_n 0, 1) := by decide +kernel
theorem dX9_rankOf_83 : decode cX9_rankOf 83 = .ok (.iload 7, 2) := by decide +kernel
theorem dX9_rankOf_85 : decode cX9_rankOf 85 = .ok (.invokevirtual 85, 3) := by decide +kernel
theorem dX9_rankOf_88 : decode cX9_rankOf 88 = .ok (.ifCond .eq 25, 3) := by decide +kernel
theorem dX9_rankOf_91 : decode cX9_rankOf 91 = .ok (.aload_n 0, 1) := by decide +kernel
theorem dX9_rankOf_92 : decode cX9_rankOf 92 = .ok (.aload_n 0, 1) := by decide +kernel
theorem dX9_rankOf_93 : decode cX9_rankOf 93 = .ok (.lconst 1, 1) := by decide +kernel
theorem dX9_rankOf_94 : decode cX9_rankOf 94 = .ok (.iload 7, 2) := by decide +kernel
theorem dX9_rankOf_96 : decode cX9_rankOf 96 = .ok (.lshl, 1) := by decide +kernel
theorem dX9_rankOf_97 : decode cX9_rankOf 97 = .ok (.iload_n 1, 1) := by decide +kernel
theorem dX9_rankOf_98 : decode cX9_rankOf 98 = .ok (.iload_n 2, 1) := by decide +kernel
theorem dX9_rankOf_99 : decode cX9_rankOf 99 = .ok (.ior, 1) := by decide +kernel
theorem dX9_rankOf_100 : decode cX9_rankOf 100 = .ok (.iload_n 3, 1) := by decide +kernel
theorem dX9_rankOf_101 : decode cX9_rankOf 101 = .ok (.iload 4, 2) := by decide +kernel
theorem dX9_rankOf_103 : decode cX9_rankOf 103 = .ok (.iadd, 1) := by decide +kernel
theorem dX9_rankOf_104 : decode cX9_rankOf 104 = .ok (.iconst 1, 1) := by decide +kernel
theorem dX9_rankOf_105 : decode cX9_rankOf 105 = .ok (.iadd, 1) := by decide +kernel
theorem dX9_rankOf_106 : decode cX9_rankOf 106 = .ok (.invokevirtual 125, 3) := by decide +kernel
theorem dX9_rankOf_109 : decode cX9_rankOf 109 = .ok (.invokevirtual 111, 3) := by decide +kernel
theorem dX9_rankOf_112 : decode cX9_rankOf 112 = .ok (.pop, 1) := by decide +kernel
theorem dX9_rankOf_113 : decode cX9_rankOf 113 = .ok (.iinc 7 1, 3) := by decide +kernel
theorem dX9_rankOf_116 : decode cX9_rankOf 116 = .ok (.goto (-68), 3) := by decide +kernel
theorem dX9_rankOf_119 : decode cX9_rankOf 119 = .ok (.iconst 0, 1) := by decide +kernel
theorem dX9_rankOf_120 : decode cX9_rankOf 120 = .ok (.istore 7, 2) := by decide +kernel
theorem dX9_rankOf_122 : decode cX9_rankOf 122 = .ok (.iconst 0, 1) := by decide +kernel
theorem dX9_rankOf_123 : decode cX9_rankOf 123 = .ok (.istore 8, 2) := by decide +kernel
theorem dX9_rankOf_125 : decode cX9_rankOf 125 = .ok (.iload 8, 2) := by decide +kernel
theorem dX9_rankOf_127 : decode cX9_rankOf 127 = .ok (.iload 5, 2) := by decide +kernel
theorem dX9_rankOf_129 : decode cX9_rankOf 129 = .ok (.if_icmp .ge 69, 3) := by decide +kernel
theorem dX9_rankOf_132 : decode cX9_rankOf 132 = .ok (.iconst 0, 1) := by decide +kernel
theorem dX9_rankOf_133 : decode cX9_rankOf 133 = .ok (.istore 9, 2) := by decide +kernel
theorem dX9_rankOf_135 : decode cX9_rankOf 135 = .ok (.iload 9, 2) := by decide +kernel
theorem dX9_rankOf_137 : decode cX9_rankOf 137 = .ok (.iload 6, 2) := by decide +kernel
theorem dX9_rankOf_139 : decode cX9_rankOf 139 = .ok (.if_icmp .ge 53, 3) := by decide +kernel
theorem dX9_rankOf_142 : decode cX9_rankOf 142 = .ok (.iload 7, 2) := by decide +kernel
theorem dX9_rankOf_144 : decode cX9_rankOf 144 = .ok (.aload_n 0, 1) := by decide +kernel
theorem dX9_rankOf_145 : decode cX9_rankOf 145 = .ok (.aload_n 0, 1) := by decide +kernel
theorem dX9_rankOf_146 : decode cX9_rankOf 146 = .ok (.aload_n 0, 1) := by decide +kernel
theorem dX9_rankOf_147 : decode cX9_rankOf 147 = .ok (.getfield 34, 3) := by decide +kernel
theorem dX9_rankOf_150 : decode cX9_rankOf 150 = .ok (.iload 8, 2) := by decide +kernel
theorem dX9_rankOf_152 : decode cX9_rankOf 152 = .ok (.laload, 1) := by decide +kernel
theorem dX9_rankOf_153 : decode cX9_rankOf 153 = .ok (.iload_n 1, 1) := by decide +kernel
theorem dX9_rankOf_154 : decode cX9_rankOf 154 = .ok (.iload_n 3, 1) := by decide +kernel
theorem dX9_rankOf_155 : decode cX9_rankOf 155 = .ok (.iconst 1, 1) := by decide +kernel
theorem dX9_rankOf_156 : decode cX9_rankOf 156 = .ok (.iadd, 1) := by decide +kernel
theorem dX9_rankOf_157 : decode cX9_rankOf 157 = .ok (.aload_n 0, 1) := by decide +kernel
theorem dX9_rankOf_158 : decode cX9_rankOf 158 = .ok (.getfield 37, 3) := by decide +kernel
theorem dX9_rankOf_161 : decode cX9_rankOf 161 = .ok (.iload 9, 2) := by decide +kernel
theorem dX9_rankOf_163 : decode cX9_rankOf 163 = .ok (.laload, 1) := by decide +kernel
theorem dX9_rankOf_164 : decode cX9_rankOf 164 = .ok (.iload_n 2, 1) := by decide +kernel
theorem dX9_rankOf_165 : decode cX9_rankOf 165 = .ok (.iload 4, 2) := by decide +kernel
theorem dX9_rankOf_167 : decode cX9_rankOf 167 = .ok (.iconst 1, 1) := by decide +kernel
theorem dX9_rankOf_168 : decode cX9_rankOf 168 = .ok (.iadd, 1) := by decide +kernel
theorem dX9_rankOf_169 : decode cX9_rankOf 169 = .ok (.invokevirtual 137, 3) := by decide +kernel
theorem dX9_rankOf_172 : decode cX9_rankOf 172 = .ok (.invokevirtual 111, 3) := by decide +kernel
theorem dX9_rankOf_175 : decode cX9_rankOf 175 = .ok (.ifCond .eq 7, 3) := by decide +kernel
theorem dX9_rankOf_178 : decode cX9_rankOf 178 = .ok (.iconst 1, 1) := by decide +kernel
theorem dX9_rankOf_179 : decode cX9_rankOf 179 = .ok (.goto 4, 3) := by decide +kernel
theorem dX9_rankOf_182 : decode cX9_rankOf 182 = .ok (.iconst 0, 1) := by decide +kernel
theorem dX9_rankOf_183 : decode cX9_rankOf 183 = .ok (.iadd, 1) := by decide +kernel
theorem dX9_rankOf_184 : decode cX9_rankOf 184 = .ok (.istore 7, 2) := by decide +kernel
theorem dX9_rankOf_186 : decode cX9_rankOf 186 = .ok (.iinc 9 1, 3) := by decide +kernel
theorem dX9_rankOf_189 : decode cX9_rankOf 189 = .ok (.goto (-54), 3) := by decide +kernel
theorem dX9_rankOf_192 : decode cX9_rankOf 192 = .ok (.iinc 8 1, 3) := by decide +kernel
theorem dX9_rankOf_195 : decode cX9_rankOf 195 = .ok (.goto (-70), 3) := by decide +kernel
theorem dX9_rankOf_198 : decode cX9_rankOf 198 = .ok (.iload 7, 2) := by decide +kernel
theorem dX9_rankOf_200 : decode cX9_rankOf 200 = .ok (.ireturn, 1) := by decide +kernel
set_option maxRecDepth 20000 in
theorem ggX9_rank_X9_isSet : GoodIn wsX9_rank wsX9_isSet := goodIn_r _ [5, 6, 7, 8, 4, 9, 10, 11, 12, 13, 58, 59, 60, 61, 62, 63, 64, 65, 66, 67, 68, 69, 70, 71, 72, 73, 74, 75, 76, 77, 78, 79, 80, 81, 82, 83, 84] (by decide +kernel) (by decide +kernel)
set_option maxRecDepth 20000 in
theorem gX9_rank_X9_isSet : GoodIn wsX9_rank (wsV RX9 73 RX9 yX9_isSet wsX9_isSet) := goodIn_app (goodIn_of _ (by decide +kernel)) ggX9_rank_X9_isSet
set_option maxRecDepth 20000 in
theorem ggX9_rank_X9_isIn : GoodIn wsX9_rank wsX9_isIn := goodIn_r _ [13] (by decide +kernel) (by decide +kernel)
set_option maxRecDepth 20000 in
theorem gX9_rank_X9_isIn : GoodIn wsX9_rank (va_wsS RX9 59 yX9_isIn wsX9_isIn) := goodIn_app (goodIn_of _ (by decide +kernel)) ggX9_rank_X9_isIn
set_option maxRecDepth 20000 in
theorem ggX9_rank_X9_rankOf : GoodIn wsX9_rank wsX9_rankOf := goodIn_r _ [17, 18, 19, 20, 21, 22, 4, 23, 24, 25, 6, 7, 8, 9, 10, 26, 27, 28, 29, 30, 31, 32, 33, 34, 35, 36, 37, 38, 39, 40, 41, 42, 43, 44, 45, 46, 47, 48, 49, 50, 51, 52, 53, 54, 55, 56, 57, 58, 59, 60, 61, 62, 63, 64, 65, 66, 67, 68, 69, 70, 71, 72, 73, 74, 75, 76, 77, 78, 79, 80, 81, 82, 83, 84] (by decide +kernel) (by decide +kernel)
set_option maxRecDepth 20000 in
theorem gX9_rank_X9_rankOf : GoodIn wsX9_rank (wsV RX9 141 RX9 yX9_rankOf wsX9_rankOf) := goodIn_app (goodIn_of _ (by decide +kernel)) ggX9_rank_X9_rankOf
theorem dX9_rank_0 : decode cX9_rank 0 = .ok (.aload_n 0, 1) := by decide +kernel
theorem dX9_rank_1 : decode cX9_rank 1 = .ok (.iload_n 1, 1) := by decide +kernel
theorem dX9_rank_2 : decode cX9_rank 2 = .ok (.invokevirtual 73, 3) := by decide +kernel
theorem dX9_rank_5 : decode cX9_rank 5 = .ok (.ifCond .eq 56, 3) := by decide +kernel
theorem dX9_rank_8 : decode cX9_rank 8 = .ok (.aload_n 0, 1) := by decide +kernel
theorem dX9_rank_9 : decode cX9_rank 9 = .ok (.iload_n 2, 1) := by decide +kernel
theorem dX9_rank_10 : decode cX9_rank 10 = .ok (.invokevirtual 73, 3) := by decide +kernel
theorem dX9_rank_13 : decode cX9_rank 13 = .ok (.ifCond .eq 48, 3) := by decide +kernel
theorem dX9_rank_16 : decode cX9_rank 16 = .ok (.iload_n 1, 1) := by decide +kernel
theorem dX9_rank_17 : decode cX9_rank 17 = .ok (.ifCond .eq 44, 3) := by decide +kernel
theorem dX9_rank_20 : decode cX9_rank 20 = .ok (.iload_n 2, 1) := by decide +kernel
theorem dX9_rank_21 : decode cX9_rank 21 = .ok (.ifCond .eq 40, 3) := by decide +kernel
theorem dX9_rank_24 : decode cX9_rank 24 = .ok (.iload_n 1, 1) := by decide +kernel
theorem dX9_rank_25 : decode cX9_rank 25 = .ok (.iload_n 2, 1) := by decide +kernel
theorem dX9_rank_26 : decode cX9_rank 26 = .ok (.iand, 1) := by decide +kernel
theorem dX9_rank_27 : decode cX9_rank 27 = .ok (.ifCond .ne 34, 3) := by decide +kernel
theorem dX9_rank_30 : decode cX9_rank 30 = .ok (.iload_n 3, 1) := by decide +kernel
theorem dX9_rank_31 : decode cX9_rank 31 = .ok (.iconst 0, 1) := by decide +kernel
theorem dX9_rank_32 : decode cX9_rank 32 = .ok (.iconst 5, 1) := by decide +kernel
theorem dX9_rank_33 : decode cX9_rank 33 = .ok (.invokestatic 59, 3) := by decide +kernel
theorem dX9_rank_36 : decode cX9_rank 36 = .ok (.ifCond .eq 25, 3) := by decide +kernel
theorem dX9_rank_39 : decode cX9_rank 39 = .ok (.iload 4, 2) := by decide +kernel
theorem dX9_rank_41 : decode cX9_rank 41 = .ok (.iconst 0, 1) := by decide +kernel
theorem dX9_rank_42 : decode cX9_rank 42 = .ok (.iconst 5, 1) := by decide +kernel
theorem dX9_rank_43 : decode cX9_rank 43 = .ok (.invokestatic 59, 3) := by decide +kernel
theorem dX9_rank_46 : decode cX9_rank 46 = .ok (.ifCond .eq 15, 3) := by decide +kernel
theorem dX9_rank_49 : decode cX9_rank 49 = .ok (.aload_n 0, 1) := by decide +kernel
theorem dX9_rank_50 : decode cX9_rank 50 = .ok (.iload_n 1, 1) := by decide +kernel
theorem dX9_rank_51 : decode cX9_rank 51 = .ok (.iload_n 2, 1) := by decide +kernel
theorem dX9_rank_52 : decode cX9_rank 52 = .ok (.iload_n 3, 1) := by decide +kernel
theorem dX9_rank_53 : decode cX9_rank 53 = .ok (.iload 4, 2) := by decide +kernel
theorem dX9_rank_55 : decode cX9_rank 55 = .ok (.invokevirtual 141, 3) := by decide +kernel
theorem dX9_rank_58 : decode cX9_rank 58 = .ok (.goto 4, 3) := by decide +kernel
theorem dX9_rank_61 : decode cX9_rank 61 = .ok (.iconst (-1), 1) := by decide +kernel
theorem dX9_rank_62 : decode cX9_rank 62 = .ok (.ireturn, 1) := by decide +kernel
set_option maxRecDepth 20000 in
theorem ggX9_finds_X9_all : GoodIn wsX9_finds wsX9_all := goodIn_r _ [11, 2, 83, 84, 85, 86, 87, 88, 89, 90, 91, 92, 93, 94, 95, 96, 97, 98, 99, 100, 101, 102, 103, 104, 105, 106, 107, 108, 109] (by decide +kernel) (by decide +kernel)
set_option maxRecDepth 20000 in
theorem gX9_finds_X9_all : GoodIn wsX9_finds (wsV RX9 55 RX9 yX9_all wsX9_all) := goodIn_app (goodIn_of _ (by decide +kernel)) ggX9_finds_X9_all
set_option maxRecDepth 20000 in
theorem ggX9_finds_X9_holesOf : GoodIn wsX9_finds wsX9_holesOf := goodIn_r _ [15, 16, 17, 18, 10, 19, 7, 8, 9, 11, 2, 20, 21, 22, 23, 4, 24, 25, 26, 27, 28, 29, 30, 31, 32, 33, 34, 35, 36, 37, 38, 39, 40, 41, 42, 43, 44, 45, 46, 83, 84, 85, 86, 87, 88, 89, 90, 91, 92, 93, 94, 95, 96, 97, 98, 99, 100, 101, 102, 103, 104, 105, 106, 107, 108, 109] (by decide +kernel) (by decide +kernel)
set_option maxRecDepth 20000 in
theorem gX9_finds_X9_holesOf : GoodIn wsX9_finds (wsV RX9 118 RX9 yX9_holesOf wsX9_holesOf) := goodIn_app (goodIn_of _ (by decide +kernel)) ggX9_finds_X9_holesOf
set_option maxRecDepth 20000 in
theorem ggX9_finds_X9_seeks : GoodIn wsX9_finds wsX9_seeks := goodIn_r _ [50, 51, 52, 53, 54, 6, 55, 7, 8, 9, 10, 11, 2, 24, 25, 26, 56, 57, 58, 59, 60, 61, 62, 63, 64, 65, 66, 67, 20, 21, 22, 23, 4, 68, 69, 70, 71, 72, 73, 74, 75, 76, 77, 78, 34, 35, 36, 37, 38, 43, 44, 45, 46, 79, 80, 81, 82, 83, 84, 85, 86, 87, 88, 89, 90, 91, 92, 93, 94, 95, 96, 97, 98, 99, 100, 101, 102, 103, 104, 105, 106, 107, 108, 109] (by decide +kernel) (by decide +kernel)
set_option maxRecDepth 20000 in
theorem gX9_finds_X9_seeks : GoodIn wsX9_finds (wsV RX9 155 RX9 yX9_seeks wsX9_seeks) := goodIn_app (goodIn_of _ (by decide +kernel)) ggX9_finds_X9_seeks
theorem dX9_finds_0 : decode cX9_finds 0 = .ok (.aload_n 0, 1) := by decide +kernel
theorem dX9_finds_1 : decode cX9_finds 1 = .ok (.getfield 145, 3) := by decide +kernel
theorem dX9_finds_4 : decode cX9_finds 4 = .ok (.aload_n 0, 1) := by decide +kernel
theorem dX9_finds_5 : decode cX9_finds 5 = .ok (.getfield 7, 3) := by decide +kernel
theorem dX9_finds_8 : decode cX9_finds 8 = .ok (.if_icmp .ne 20, 3) := by decide +kernel
theorem dX9_finds_11 : decode cX9_finds 11 = .ok (.aload_n 0, 1) := by decide +kernel
theorem dX9_finds_12 : decode cX9_finds 12 = .ok (.getfield 148, 3) := by decide +kernel
theorem dX9_finds_15 : decode cX9_finds 15 = .ok (.aload_n 0, 1) := by decide +kernel
theorem dX9_finds_16 : decode cX9_finds 16 = .ok (.getfield 13, 3) := by decide +kernel
theorem dX9_finds_19 : decode cX9_finds 19 = .ok (.lcmp, 1) := by decide +kernel
theorem dX9_finds_20 : decode cX9_finds 20 = .ok (.ifCond .ne 8, 3) := by decide +kernel
theorem dX9_finds_23 : decode cX9_finds 23 = .ok (.aload_n 0, 1) := by decide +kernel
theorem dX9_finds_24 : decode cX9_finds 24 = .ok (.getfield 151, 3) := by decide +kernel
theorem dX9_finds_27 : decode cX9_finds 27 = .ok (.ireturn, 1) := by decide +kernel
theorem dX9_finds_28 : decode cX9_finds 28 = .ok (.aload_n 0, 1) := by decide +kernel
theorem dX9_finds_29 : decode cX9_finds 29 = .ok (.aload_n 0, 1) := by decide +kernel
theorem dX9_finds_30 : decode cX9_finds 30 = .ok (.getfield 7, 3) := by decide +kernel
theorem dX9_finds_33 : decode cX9_finds 33 = .ok (.putfield 145, 3) := by decide +kernel
theorem dX9_finds_36 : decode cX9_finds 36 = .ok (.aload_n 0, 1) := by decide +kernel
theorem dX9_finds_37 : decode cX9_finds 37 = .ok (.aload_n 0, 1) := by decide +kernel
theorem dX9_finds_38 : decode cX9_finds 38 = .ok (.getfield 13, 3) := by decide +kernel
theorem dX9_finds_41 : decode cX9_finds 41 = .ok (.putfield 148, 3) := by decide +kernel
theorem dX9_finds_44 : decode cX9_finds 44 = .ok (.iconst 0, 1) := by decide +kernel
theorem dX9_finds_45 : decode cX9_finds 45 = .ok (.istore_n 1, 1) := by decide +kernel
theorem dX9_finds_46 : decode cX9_finds 46 = .ok (.iload_n 1, 1) := by decide +kernel
theorem dX9_finds_47 : decode cX9_finds 47 = .ok (.aload_n 0, 1) := by decide +kernel
theorem dX9_finds_48 : decode cX9_finds 48 = .ok (.invokevirtual 55, 3) := by decide +kernel
theorem dX9_finds_51 : decode cX9_finds 51 = .ok (.if_icmp .gt 40, 3) := by decide +kernel
theorem dX9_finds_54 : decode cX9_finds 54 = .ok (.iconst 0, 1) := by decide +kernel
theorem dX9_finds_55 : decode cX9_finds 55 = .ok (.istore_n 2, 1) := by decide +kernel
theorem dX9_finds_56 : decode cX9_finds 56 = .ok (.iload_n 2, 1) := by decide +kernel
theorem dX9_finds_57 : decode cX9_finds 57 = .ok (.bipush 6, 2) := by decide +kernel
theorem dX9_finds_59 : decode cX9_finds 59 = .ok (.if_icmp .ge 26, 3) := by decide +kernel
theorem dX9_finds_62 : decode cX9_finds 62 = .ok (.aload_n 0, 1) := by decide +kernel
theorem dX9_finds_63 : decode cX9_finds 63 = .ok (.getfield 40, 3) := by decide +kernel
theorem dX9_finds_66 : decode cX9_finds 66 = .ok (.bipush 6, 2) := by decide +kernel
theorem dX9_finds_68 : decode cX9_finds 68 = .ok (.iload_n 1, 1) := by decide +kernel
theorem dX9_finds_69 : decode cX9_finds 69 = .ok (.imul, 1) := by decide +kernel
theorem dX9_finds_70 : decode cX9_finds 70 = .ok (.iload_n 2, 1) := by decide +kernel
theorem dX9_finds_71 : decode cX9_finds 71 = .ok (.iadd, 1) := by decide +kernel
theorem dX9_finds_72 : decode cX9_finds 72 = .ok (.aload_n 0, 1) := by decide +kernel
theorem dX9_finds_73 : decode cX9_finds 73 = .ok (.iload_n 1, 1) := by decide +kernel
theorem dX9_finds_74 : decode cX9_finds 74 = .ok (.iload_n 2, 1) := by decide +kernel
theorem dX9_finds_75 : decode cX9_finds 75 = .ok (.invokevirtual 118, 3) := by decide +kernel
theorem dX9_finds_78 : decode cX9_finds 78 = .ok (.iastore, 1) := by decide +kernel
theorem dX9_finds_79 : decode cX9_finds 79 = .ok (.iinc 2 1, 3) := by decide +kernel
theorem dX9_finds_82 : decode cX9_finds 82 = .ok (.goto (-26), 3) := by decide +kernel
theorem dX9_finds_85 : decode cX9_finds 85 = .ok (.iinc 1 1, 3) := by decide +kernel
theorem dX9_finds_88 : decode cX9_finds 88 = .ok (.goto (-42), 3) := by decide +kernel
theorem dX9_finds_91 : decode cX9_finds 91 = .ok (.aload_n 0, 1) := by decide +kernel
theorem dX9_finds_92 : decode cX9_finds 92 = .ok (.aload_n 0, 1) := by decide +kernel
theorem dX9_finds_93 : decode cX9_finds 93 = .ok (.invokevirtual 155, 3) := by decide +kernel
theorem dX9_finds_96 : decode cX9_finds 96 = .ok (.putfield 151, 3) := by decide +kernel
theorem dX9_finds_99 : decode cX9_finds 99 = .ok (.aload_n 0, 1) := by decide +kernel
theorem dX9_finds_100 : decode cX9_finds 100 = .ok (.getfield 151, 3) := by decide +kernel
theorem dX9_finds_103 : decode cX9_finds 103 = .ok (.ireturn, 1) := by decide +kernel
set_option maxRecDepth 20000 in
theorem ggX9_seeks_X9_all : GoodIn wsX9_seeks wsX9_all := goodIn_r _ [11, 12, 57, 58, 59, 60, 61, 62, 63, 64, 65, 66, 67, 68, 69, 70, 71, 72, 73, 74, 75, 76, 77, 78, 79, 80, 81, 82, 83] (by decide +kernel) (by decide +kernel)
set_option maxRecDepth 20000 in
theorem gX9_seeks_X9_all : GoodIn wsX9_seeks (wsV RX9 55 RX9 yX9_all wsX9_all) := goodIn_app (goodIn_of _ (by decide +kernel)) ggX9_seeks_X9_all
set_option maxRecDepth 20000 in
theorem ggX9_seeks_X9_size : GoodIn wsX9_seeks wsX9_size := goodIn_r _ [15] (by decide +kernel) (by decide +kernel)
set_option maxRecDepth 20000 in
theorem gX9_seeks_X9_size : GoodIn wsX9_seeks (va_wsS RX9 90 yX9_size wsX9_size) := goodIn_app (goodIn_of _ (by decide +kernel)) ggX9_seeks_X9_size
set_option maxRecDepth 20000 in
theorem ggX9_seeks_X9_rankOf : GoodIn wsX9_seeks wsX9_rankOf := goodIn_r _ [19, 20, 21, 22, 23, 24, 10, 25, 26, 27, 7, 8, 9, 11, 12, 13, 14, 15, 28, 29, 30, 31, 32, 33, 34, 35, 36, 37, 38, 39, 40, 41, 42, 43, 44, 45, 46, 47, 48, 49, 50, 51, 52, 53, 54, 55, 56, 57, 58, 59, 60, 61, 62, 63, 64, 65, 66, 67, 68, 69, 70, 71, 72, 73, 74, 75, 76, 77, 78, 79, 80, 81, 82, 83] (by decide +kernel) (by decide +kernel)
set_option maxRecDepth 20000 in
theorem gX9_seeks_X9_rankOf : GoodIn wsX9_seeks (wsV RX9 141 RX9 yX9_rankOf wsX9_rankOf) := goodIn_app (goodIn_of _ (by decide +kernel)) ggX9_seeks_X9_rankOf
theorem dX9_seeks_0 : decode cX9_seeks 0 = .ok (.aload_n 0, 1) := by decide +kernel
theorem dX9_seeks_1 : decode cX9_seeks 1 = .ok (.iconst 1, 1) := by decide +kernel
theorem dX9_seeks_2 : decode cX9_seeks 2 = .ok (.putfield 159, 3) := by decide +kernel
theorem dX9_seeks_5 : decode cX9_seeks 5 = .ok (.aload_n 0, 1) := by decide +kernel
theorem dX9_seeks_6 : decode cX9_seeks 6 = .ok (.getfield 159, 3) := by decide +kernel
theorem dX9_seeks_9 : decode cX9_seeks 9 = .ok (.aload_n 0, 1) := by decide +kernel
theorem dX9_seeks_10 : decode cX9_seeks 10 = .ok (.invokevirtual 55, 3) := by decide +kernel
theorem dX9_seeks_13 : decode cX9_seeks 13 = .ok (.if_icmp .gt 205, 3) := by decide +kernel
theorem dX9_seeks_16 : decode cX9_seeks 16 = .ok (.aload_n 0, 1) := by decide +kernel
theorem dX9_seeks_17 : decode cX9_seeks 17 = .ok (.aload_n 0, 1) := by decide +kernel
theorem dX9_seeks_18 : decode cX9_seeks 18 = .ok (.getfield 159, 3) := by decide +kernel
theorem dX9_seeks_21 : decode cX9_seeks 21 = .ok (.iconst 1, 1) := by decide +kernel
theorem dX9_seeks_22 : decode cX9_seeks 22 = .ok (.iadd, 1) := by decide +kernel
theorem dX9_seeks_23 : decode cX9_seeks 23 = .ok (.putfield 162, 3) := by decide +kernel
theorem dX9_seeks_26 : decode cX9_seeks 26 = .ok (.aload_n 0, 1) := by decide +kernel
theorem dX9_seeks_27 : decode cX9_seeks 27 = .ok (.getfield 162, 3) := by decide +kernel
theorem dX9_seeks_30 : decode cX9_seeks 30 = .ok (.aload_n 0, 1) := by decide +kernel
theorem dX9_seeks_31 : decode cX9_seeks 31 = .ok (.invokevirtual 55, 3) := by decide +kernel
theorem dX9_seeks_34 : decode cX9_seeks 34 = .ok (.if_icmp .gt 171, 3) := by decide +kernel
theorem dX9_seeks_37 : decode cX9_seeks 37 = .ok (.aload_n 0, 1) := by decide +kernel
theorem dX9_seeks_38 : decode cX9_seeks 38 = .ok (.getfield 159, 3) := by decide +kernel
theorem dX9_seeks_41 : decode cX9_seeks 41 = .ok (.aload_n 0, 1) := by decide +kernel
theorem dX9_seeks_42 : decode cX9_seeks 42 = .ok (.getfield 162, 3) := by decide +kernel
theorem dX9_seeks_45 : decode cX9_seeks 45 = .ok (.iand, 1) := by decide +kernel
theorem dX9_seeks_46 : decode cX9_seeks 46 = .ok (.ifCond .eq 6, 3) := by decide +kernel
theorem dX9_seeks_49 : decode cX9_seeks 49 = .ok (.goto 143, 3) := by decide +kernel
theorem dX9_seeks_52 : decode cX9_seeks 52 = .ok (.aload_n 0, 1) := by decide +kernel
theorem dX9_seeks_53 : decode cX9_seeks 53 = .ok (.iconst 0, 1) := by decide +kernel
theorem dX9_seeks_54 : decode cX9_seeks 54 = .ok (.putfield 165, 3) := by decide +kernel
theorem dX9_seeks_57 : decode cX9_seeks 57 = .ok (.aload_n 0, 1) := by decide +kernel
theorem dX9_seeks_58 : decode cX9_seeks 58 = .ok (.getfield 165, 3) := by decide +kernel
theorem dX9_seeks_61 : decode cX9_seeks 61 = .ok (.aload_n 0, 1) := by decide +kernel
theorem dX9_seeks_62 : decode cX9_seeks 62 = .ok (.getfield 159, 3) := by decide +kernel
theorem dX9_seeks_65 : decode cX9_seeks 65 = .ok (.invokestatic 90, 3) := by decide +kernel
theorem dX9_seeks_68 : decode cX9_seeks 68 = .ok (.if_icmp .ge 124, 3) := by decide +kernel
theorem dX9_seeks_71 : decode cX9_seeks 71 = .ok (.aload_n 0, 1) := by decide +kernel
theorem dX9_seeks_72 : decode cX9_seeks 72 = .ok (.iconst 0, 1) := by decide +kernel
theorem dX9_seeks_73 : decode cX9_seeks 73 = .ok (.putfield 168, 3) := by decide +kernel
theorem dX9_seeks_76 : decode cX9_seeks 76 = .ok (.aload_n 0, 1) := by decide +kernel
theorem dX9_seeks_77 : decode cX9_seeks 77 = .ok (.getfield 168, 3) := by decide +kernel
theorem dX9_seeks_80 : decode cX9_seeks 80 = .ok (.aload_n 0, 1) := by decide +kernel
theorem dX9_seeks_81 : decode cX9_seeks 81 = .ok (.getfield 162, 3) := by decide +kernel
theorem dX9_seeks_84 : decode cX9_seeks 84 = .ok (.invokestatic 90, 3) := by decide +kernel
theorem dX9_seeks_87 : decode cX9_seeks 87 = .ok (.if_icmp .ge 92, 3) := by decide +kernel
theorem dX9_seeks_90 : decode cX9_seeks 90 = .ok (.aload_n 0, 1) := by decide +kernel
theorem dX9_seeks_91 : decode cX9_seeks 91 = .ok (.getfield 40, 3) := by decide +kernel
theorem dX9_seeks_94 : decode cX9_seeks 94 = .ok (.bipush 6, 2) := by decide +kernel
theorem dX9_seeks_96 : decode cX9_seeks 96 = .ok (.aload_n 0, 1) := by decide +kernel
theorem dX9_seeks_97 : decode cX9_seeks 97 = .ok (.getfield 159, 3) := by decide +kernel
theorem dX9_seeks_100 : decode cX9_seeks 100 = .ok (.imul, 1) := by decide +kernel
theorem dX9_seeks_101 : decode cX9_seeks 101 = .ok (.aload_n 0, 1) := by decide +kernel
theorem dX9_seeks_102 : decode cX9_seeks 102 = .ok (.getfield 165, 3) := by decide +kernel
theorem dX9_seeks_105 : decode cX9_seeks 105 = .ok (.iadd, 1) := by decide +kernel
theorem dX9_seeks_106 : decode cX9_seeks 106 = .ok (.iaload, 1) := by decide +kernel
theorem dX9_seeks_107 : decode cX9_seeks 107 = .ok (.ifCond .eq 59, 3) := by decide +kernel
theorem dX9_seeks_110 : decode cX9_seeks 110 = .ok (.aload_n 0, 1) := by decide +kernel
theorem dX9_seeks_111 : decode cX9_seeks 111 = .ok (.getfield 40, 3) := by decide +kernel
theorem dX9_seeks_114 : decode cX9_seeks 114 = .ok (.bipush 6, 2) := by decide +kernel
theorem dX9_seeks_116 : decode cX9_seeks 116 = .ok (.aload_n 0, 1) := by decide +kernel
theorem dX9_seeks_117 : decode cX9_seeks 117 = .ok (.getfield 162, 3) := by decide +kernel
theorem dX9_seeks_120 : decode cX9_seeks 120 = .ok (.imul, 1) := by decide +kernel
theorem dX9_seeks_121 : decode cX9_seeks 121 = .ok (.aload_n 0, 1) := by decide +kernel
theorem dX9_seeks_122 : decode cX9_seeks 122 = .ok (.getfield 168, 3) := by decide +kernel
theorem dX9_seeks_125 : decode cX9_seeks 125 = .ok (.iadd, 1) := by decide +kernel
theorem dX9_seeks_126 : decode cX9_seeks 126 = .ok (.iaload, 1) := by decide +kernel
theorem dX9_seeks_127 : decode cX9_seeks 127 = .ok (.ifCond .ne 6, 3) := by decide +kernel
theorem dX9_seeks_130 : decode cX9_seeks 130 = .ok (.goto 36, 3) := by decide +kernel
theorem dX9_seeks_133 : decode cX9_seeks 133 = .ok (.aload_n 0, 1) := by decide +kernel
theorem dX9_seeks_134 : decode cX9_seeks 134 = .ok (.aload_n 0, 1) := by decide +kernel
theorem dX9_seeks_135 : decode cX9_seeks 135 = .ok (.aload_n 0, 1) := by decide +kernel
theorem dX9_seeks_136 : decode cX9_seeks 136 = .ok (.getfield 159, 3) := by decide +kernel
theorem dX9_seeks_139 : decode cX9_seeks 139 = .ok (.aload_n 0, 1) := by decide +kernel
theorem dX9_seeks_140 : decode cX9_seeks 140 = .ok (.getfield 162, 3) := by decide +kernel
theorem dX9_seeks_143 : decode cX9_seeks 143 = .ok (.aload_n 0, 1) := by decide +kernel
theorem dX9_seeks_144 : decode cX9_seeks 144 = .ok (.getfield 165, 3) := by decide +kernel
theorem dX9_seeks_147 : decode cX9_seeks 147 = .ok (.aload_n 0, 1) := by decide +kernel
theorem dX9_seeks_148 : decode cX9_seeks 148 = .ok (.getfield 168, 3) := by decide +kernel
theorem dX9_seeks_151 : decode cX9_seeks 151 = .ok (.invokevirtual 141, 3) := by decide +kernel
theorem dX9_seeks_154 : decode cX9_seeks 154 = .ok (.putfield 171, 3) := by decide +kernel
theorem dX9_seeks_157 : decode cX9_seeks 157 = .ok (.aload_n 0, 1) := by decide +kernel
theorem dX9_seeks_158 : decode cX9_seeks 158 = .ok (.getfield 171, 3) := by decide +kernel
theorem dX9_seeks_161 : decode cX9_seeks 161 = .ok (.ifCond .le 5, 3) := by decide +kernel
theorem dX9_seeks_164 : decode cX9_seeks 164 = .ok (.iconst 1, 1) := by decide +kernel
theorem dX9_seeks_165 : decode cX9_seeks 165 = .ok (.ireturn, 1) := by decide +kernel
theorem dX9_seeks_166 : decode cX9_seeks 166 = .ok (.aload_n 0, 1) := by decide +kernel
theorem dX9_seeks_167 : decode cX9_seeks 167 = .ok (.dup, 1) := by decide +kernel
theorem dX9_seeks_168 : decode cX9_seeks 168 = .ok (.getfield 168, 3) := by decide +kernel
theorem dX9_seeks_171 : decode cX9_seeks 171 = .ok (.iconst 1, 1) := by decide +kernel
theorem dX9_seeks_172 : decode cX9_seeks 172 = .ok (.iadd, 1) := by decide +kernel
theorem dX9_seeks_173 : decode cX9_seeks 173 = .ok (.putfield 168, 3) := by decide +kernel
theorem dX9_seeks_176 : decode cX9_seeks 176 = .ok (.goto (-100), 3) := by decide +kernel
theorem dX9_seeks_179 : decode cX9_seeks 179 = .ok (.aload_n 0, 1) := by decide +kernel
theorem dX9_seeks_180 : decode cX9_seeks 180 = .ok (.dup, 1) := by decide +kernel
theorem dX9_seeks_181 : decode cX9_seeks 181 = .ok (.getfield 165, 3) := by decide +kernel
theorem dX9_seeks_184 : decode cX9_seeks 184 = .ok (.iconst 1, 1) := by decide +kernel
theorem dX9_seeks_185 : decode cX9_seeks 185 = .ok (.iadd, 1) := by decide +kernel
theorem dX9_seeks_186 : decode cX9_seeks 186 = .ok (.putfield 165, 3) := by decide +kernel
theorem dX9_seeks_189 : decode cX9_seeks 189 = .ok (.goto (-132), 3) := by decide +kernel
theorem dX9_seeks_192 : decode cX9_seeks 192 = .ok (.aload_n 0, 1) := by decide +kernel
theorem dX9_seeks_193 : decode cX9_seeks 193 = .ok (.dup, 1) := by decide +kernel
theorem dX9_seeks_194 : decode cX9_seeks 194 = .ok (.getfield 162, 3) := by decide +kernel
theorem dX9_seeks_197 : decode cX9_seeks 197 = .ok (.iconst 1, 1) := by decide +kernel
theorem dX9_seeks_198 : decode cX9_seeks 198 = .ok (.iadd, 1) := by decide +kernel
theorem dX9_seeks_199 : decode cX9_seeks 199 = .ok (.putfield 162, 3) := by decide +kernel
theorem dX9_seeks_202 : decode cX9_seeks 202 = .ok (.goto (-176), 3) := by decide +kernel
theorem dX9_seeks_205 : decode cX9_seeks 205 = .ok (.aload_n 0, 1) := by decide +kernel
theorem dX9_seeks_206 : decode cX9_seeks 206 = .ok (.dup, 1) := by decide +kernel
theorem dX9_seeks_207 : decode cX9_seeks 207 = .ok (.getfield 159, 3) := by decide +kernel
theorem dX9_seeks_210 : decode cX9_seeks 210 = .ok (.iconst 1, 1) := by decide +kernel
theorem dX9_seeks_211 : decode cX9_seeks 211 = .ok (.iadd, 1) := by decide +kernel
theorem dX9_seeks_212 : decode cX9_seeks 212 = .ok (.putfield 159, 3) := by decide +kernel
theorem dX9_seeks_215 : decode cX9_seeks 215 = .ok (.goto (-210), 3) := by decide +kernel
theorem dX9_seeks_218 : decode cX9_seeks 218 = .ok (.iconst 0, 1) := by decide +kernel
theorem dX9_seeks_219 : decode cX9_seeks 219 = .ok (.ireturn, 1) := by decide +kernel
set_option maxRecDepth 20000 in
theorem ggX9_first_X9_isIn : GoodIn wsX9_first wsX9_isIn := goodIn_r _ [9] (by decide +kernel) (by decide +kernel)
set_option maxRecDepth 20000 in
theorem gX9_first_X9_isIn : GoodIn wsX9_first (va_wsS RX9 59 yX9_isIn wsX9_isIn) := goodIn_app (goodIn_of _ (by decide +kernel)) ggX9_first_X9_isIn
set_option maxRecDepth 20000 in
theorem ggX9_first_X9_finds : GoodIn wsX9_first wsX9_finds := goodIn_r _ [13, 14, 15, 16, 17, 18, 19, 20, 21, 22, 8, 23, 24, 25, 26, 27, 28, 29, 30, 31, 32, 33, 34, 35, 36, 37, 38, 39, 40, 41, 42, 43, 44, 45, 46, 47, 48, 49, 50, 51, 52, 53, 54, 55, 56, 57, 58, 59, 60, 61, 62, 1, 2, 3, 4, 5, 63, 64, 65, 66, 67, 68, 69, 70, 71, 72, 73, 74, 75, 76, 77, 78, 79, 80, 81, 82, 83, 84, 85, 86, 87, 88, 89, 90, 91, 92, 93, 94, 95, 96, 97, 98, 99, 100, 101, 102, 103, 104, 105, 106, 107, 108, 109, 110, 111, 112, 113, 114, 115, 116] (by decide +kernel) (by decide +kernel)
set_option maxRecDepth 20000 in
theorem gX9_first_X9_finds : GoodIn wsX9_first (wsV RX9 174 RX9 yX9_finds wsX9_finds) := goodIn_app (goodIn_of _ (by decide +kernel)) ggX9_first_X9_finds
theorem dX9_first_0 : decode cX9_first 0 = .ok (.iload_n 1, 1) := by decide +kernel
theorem dX9_first_1 : decode cX9_first 1 = .ok (.iconst 0, 1) := by decide +kernel
theorem dX9_first_2 : decode cX9_first 2 = .ok (.iconst 4, 1) := by decide +kernel
theorem dX9_first_3 : decode cX9_first 3 = .ok (.invokestatic 59, 3) := by decide +kernel
theorem dX9_first_6 : decode cX9_first 6 = .ok (.ifCond .eq 10, 3) := by decide +kernel
theorem dX9_first_9 : decode cX9_first 9 = .ok (.aload_n 0, 1) := by decide +kernel
theorem dX9_first_10 : decode cX9_first 10 = .ok (.invokevirtual 174, 3) := by decide +kernel
theorem dX9_first_13 : decode cX9_first 13 = .ok (.ifCond .ne 5, 3) := by decide +kernel
theorem dX9_first_16 : decode cX9_first 16 = .ok (.iconst (-1), 1) := by decide +kernel
theorem dX9_first_17 : decode cX9_first 17 = .ok (.ireturn, 1) := by decide +kernel
theorem dX9_first_18 : decode cX9_first 18 = .ok (.iload_n 1, 1) := by decide +kernel
theorem dX9_first_19 : decode cX9_first 19 = .ok (.ifCond .ne 10, 3) := by decide +kernel
theorem dX9_first_22 : decode cX9_first 22 = .ok (.aload_n 0, 1) := by decide +kernel
theorem dX9_first_23 : decode cX9_first 23 = .ok (.getfield 159, 3) := by decide +kernel
theorem dX9_first_26 : decode cX9_first 26 = .ok (.goto 43, 3) := by decide +kernel
theorem dX9_first_29 : decode cX9_first 29 = .ok (.iload_n 1, 1) := by decide +kernel
theorem dX9_first_30 : decode cX9_first 30 = .ok (.iconst 1, 1) := by decide +kernel
theorem dX9_first_31 : decode cX9_first 31 = .ok (.if_icmp .ne 10, 3) := by decide +kernel
theorem dX9_first_34 : decode cX9_first 34 = .ok (.aload_n 0, 1) := by decide +kernel
theorem dX9_first_35 : decode cX9_first 35 = .ok (.getfield 162, 3) := by decide +kernel
theorem dX9_first_38 : decode cX9_first 38 = .ok (.goto 31, 3) := by decide +kernel
theorem dX9_first_41 : decode cX9_first 41 = .ok (.iload_n 1, 1) := by decide +kernel
theorem dX9_first_42 : decode cX9_first 42 = .ok (.iconst 2, 1) := by decide +kernel
theorem dX9_first_43 : decode cX9_first 43 = .ok (.if_icmp .ne 10, 3) := by decide +kernel
theorem dX9_first_46 : decode cX9_first 46 = .ok (.aload_n 0, 1) := by decide +kernel
theorem dX9_first_47 : decode cX9_first 47 = .ok (.getfield 165, 3) := by decide +kernel
theorem dX9_first_50 : decode cX9_first 50 = .ok (.goto 19, 3) := by decide +kernel
theorem dX9_first_53 : decode cX9_first 53 = .ok (.iload_n 1, 1) := by decide +kernel
theorem dX9_first_54 : decode cX9_first 54 = .ok (.iconst 3, 1) := by decide +kernel
theorem dX9_first_55 : decode cX9_first 55 = .ok (.if_icmp .ne 10, 3) := by decide +kernel
theorem dX9_first_58 : decode cX9_first 58 = .ok (.aload_n 0, 1) := by decide +kernel
theorem dX9_first_59 : decode cX9_first 59 = .ok (.getfield 168, 3) := by decide +kernel
theorem dX9_first_62 : decode cX9_first 62 = .ok (.goto 7, 3) := by decide +kernel
theorem dX9_first_65 : decode cX9_first 65 = .ok (.aload_n 0, 1) := by decide +kernel
theorem dX9_first_66 : decode cX9_first 66 = .ok (.getfield 171, 3) := by decide +kernel
theorem dX9_first_69 : decode cX9_first 69 = .ok (.ireturn, 1) := by decide +kernel
set_option maxRecDepth 20000 in
theorem ggX9_keeps_X9_all : GoodIn wsX9_keeps wsX9_all := goodIn_r _ [7, 1, 13, 14, 15, 16, 17, 18, 19, 20, 21, 22, 23, 24, 25, 26, 27, 28, 29, 30, 31, 32, 33, 34, 35, 36, 37, 38, 39] (by decide +kernel) (by decide +kernel)
set_option maxRecDepth 20000 in
theorem gX9_keeps_X9_all : GoodIn wsX9_keeps (wsV RX9 55 RX9 yX9_all wsX9_all) := goodIn_app (goodIn_of _ (by decide +kernel)) ggX9_keeps_X9_all
set_option maxRecDepth 20000 in
theorem ggX9_keeps_X9_isFace : GoodIn wsX9_keeps wsX9_isFace := goodIn_r _ [11, 12, 13, 14, 15, 16, 17, 18, 19, 20, 21, 22, 23, 24, 25, 26, 27, 28, 29, 30, 31, 32, 33, 34, 35, 36, 37, 38, 39] (by decide +kernel) (by decide +kernel)
set_option maxRecDepth 20000 in
theorem gX9_keeps_X9_isFace : GoodIn wsX9_keeps (wsV RX9 85 RX9 yX9_isFace wsX9_isFace) := goodIn_app (goodIn_of _ (by decide +kernel)) ggX9_keeps_X9_isFace
theorem dX9_keeps_0 : decode cX9_keeps 0 = .ok (.iconst 1, 1) := by decide +kernel
theorem dX9_keeps_1 : decode cX9_keeps 1 = .ok (.istore_n 1, 1) := by decide +kernel
theorem dX9_keeps_2 : decode cX9_keeps 2 = .ok (.iconst 0, 1) := by decide +kernel
theorem dX9_keeps_3 : decode cX9_keeps 3 = .ok (.istore_n 2, 1) := by decide +kernel
theorem dX9_keeps_4 : decode cX9_keeps 4 = .ok (.iload_n 2, 1) := by decide +kernel
theorem dX9_keeps_5 : decode cX9_keeps 5 = .ok (.aload_n 0, 1) := by decide +kernel
theorem dX9_keeps_6 : decode cX9_keeps 6 = .ok (.invokevirtual 55, 3) := by decide +kernel
theorem dX9_keeps_9 : decode cX9_keeps 9 = .ok (.if_icmp .gt 72, 3) := by decide +kernel
theorem dX9_keeps_12 : decode cX9_keeps 12 = .ok (.iload_n 1, 1) := by decide +kernel
theorem dX9_keeps_13 : decode cX9_keeps 13 = .ok (.ifCond .eq 68, 3) := by decide +kernel
theorem dX9_keeps_16 : decode cX9_keeps 16 = .ok (.iconst 0, 1) := by decide +kernel
theorem dX9_keeps_17 : decode cX9_keeps 17 = .ok (.istore_n 3, 1) := by decide +kernel
theorem dX9_keeps_18 : decode cX9_keeps 18 = .ok (.iconst 0, 1) := by decide +kernel
theorem dX9_keeps_19 : decode cX9_keeps 19 = .ok (.istore 4, 2) := by decide +kernel
theorem dX9_keeps_21 : decode cX9_keeps 21 = .ok (.iload 4, 2) := by decide +kernel
theorem dX9_keeps_23 : decode cX9_keeps 23 = .ok (.aload_n 0, 1) := by decide +kernel
theorem dX9_keeps_24 : decode cX9_keeps 24 = .ok (.getfield 7, 3) := by decide +kernel
theorem dX9_keeps_27 : decode cX9_keeps 27 = .ok (.if_icmp .ge 26, 3) := by decide +kernel
theorem dX9_keeps_30 : decode cX9_keeps 30 = .ok (.iload_n 3, 1) := by decide +kernel
theorem dX9_keeps_31 : decode cX9_keeps 31 = .ok (.iload_n 2, 1) := by decide +kernel
theorem dX9_keeps_32 : decode cX9_keeps 32 = .ok (.iload 4, 2) := by decide +kernel
theorem dX9_keeps_34 : decode cX9_keeps 34 = .ok (.ishr, 1) := by decide +kernel
theorem dX9_keeps_35 : decode cX9_keeps 35 = .ok (.iconst 1, 1) := by decide +kernel
theorem dX9_keeps_36 : decode cX9_keeps 36 = .ok (.iand, 1) := by decide +kernel
theorem dX9_keeps_37 : decode cX9_keeps 37 = .ok (.aload_n 0, 1) := by decide +kernel
theorem dX9_keeps_38 : decode cX9_keeps 38 = .ok (.getfield 43, 3) := by decide +kernel
theorem dX9_keeps_41 : decode cX9_keeps 41 = .ok (.iload 4, 2) := by decide +kernel
theorem dX9_keeps_43 : decode cX9_keeps 43 = .ok (.iaload, 1) := by decide +kernel
theorem dX9_keeps_44 : decode cX9_keeps 44 = .ok (.ishl, 1) := by decide +kernel
theorem dX9_keeps_45 : decode cX9_keeps 45 = .ok (.ior, 1) := by decide +kernel
theorem dX9_keeps_46 : decode cX9_keeps 46 = .ok (.istore_n 3, 1) := by decide +kernel
theorem dX9_keeps_47 : decode cX9_keeps 47 = .ok (.iinc 4 1, 3) := by decide +kernel
theorem dX9_keeps_50 : decode cX9_keeps 50 = .ok (.goto (-29), 3) := by decide +kernel
theorem dX9_keeps_53 : decode cX9_keeps 53 = .ok (.aload_n 0, 1) := by decide +kernel
theorem dX9_keeps_54 : decode cX9_keeps 54 = .ok (.iload_n 2, 1) := by decide +kernel
theorem dX9_keeps_55 : decode cX9_keeps 55 = .ok (.invokevirtual 85, 3) := by decide +kernel
theorem dX9_keeps_58 : decode cX9_keeps 58 = .ok (.ifCond .eq 11, 3) := by decide +kernel
theorem dX9_keeps_61 : decode cX9_keeps 61 = .ok (.aload_n 0, 1) := by decide +kernel
theorem dX9_keeps_62 : decode cX9_keeps 62 = .ok (.iload_n 3, 1) := by decide +kernel
theorem dX9_keeps_63 : decode cX9_keeps 63 = .ok (.invokevirtual 85, 3) := by decide +kernel
theorem dX9_keeps_66 : decode cX9_keeps 66 = .ok (.ifCond .eq 7, 3) := by decide +kernel
theorem dX9_keeps_69 : decode cX9_keeps 69 = .ok (.iconst 1, 1) := by decide +kernel
theorem dX9_keeps_70 : decode cX9_keeps 70 = .ok (.goto 4, 3) := by decide +kernel
theorem dX9_keeps_73 : decode cX9_keeps 73 = .ok (.iconst 0, 1) := by decide +kernel
theorem dX9_keeps_74 : decode cX9_keeps 74 = .ok (.istore_n 1, 1) := by decide +kernel
theorem dX9_keeps_75 : decode cX9_keeps 75 = .ok (.iinc 2 1, 3) := by decide +kernel
theorem dX9_keeps_78 : decode cX9_keeps 78 = .ok (.goto (-74), 3) := by decide +kernel
theorem dX9_keeps_81 : decode cX9_keeps 81 = .ok (.iload_n 1, 1) := by decide +kernel
theorem dX9_keeps_82 : decode cX9_keeps 82 = .ok (.ireturn, 1) := by decide +kernel
theorem dX9_nextOrder_0 : decode cX9_nextOrder 0 = .ok (.aload_n 0, 1) := by decide +kernel
theorem dX9_nextOrder_1 : decode cX9_nextOrder 1 = .ok (.getfield 7, 3) := by decide +kernel
theorem dX9_nextOrder_4 : decode cX9_nextOrder 4 = .ok (.iconst 2, 1) := by decide +kernel
theorem dX9_nextOrder_5 : decode cX9_nextOrder 5 = .ok (.isub, 1) := by decide +kernel
theorem dX9_nextOrder_6 : decode cX9_nextOrder 6 = .ok (.istore_n 1, 1) := by decide +kernel
theorem dX9_nextOrder_7 : decode cX9_nextOrder 7 = .ok (.iload_n 1, 1) := by decide +kernel
theorem dX9_nextOrder_8 : decode cX9_nextOrder 8 = .ok (.ifCond .lt 26, 3) := by decide +kernel
theorem dX9_nextOrder_11 : decode cX9_nextOrder 11 = .ok (.aload_n 0, 1) := by decide +kernel
theorem dX9_nextOrder_12 : decode cX9_nextOrder 12 = .ok (.getfield 43, 3) := by decide +kernel
theorem dX9_nextOrder_15 : decode cX9_nextOrder 15 = .ok (.iload_n 1, 1) := by decide +kernel
theorem dX9_nextOrder_16 : decode cX9_nextOrder 16 = .ok (.iaload, 1) := by decide +kernel
theorem dX9_nextOrder_17 : decode cX9_nextOrder 17 = .ok (.aload_n 0, 1) := by decide +kernel
theorem dX9_nextOrder_18 : decode cX9_nextOrder 18 = .ok (.getfield 43, 3) := by decide +kernel
theorem dX9_nextOrder_21 : decode cX9_nextOrder 21 = .ok (.iload_n 1, 1) := by decide +kernel
theorem dX9_nextOrder_22 : decode cX9_nextOrder 22 = .ok (.iconst 1, 1) := by decide +kernel
theorem dX9_nextOrder_23 : decode cX9_nextOrder 23 = .ok (.iadd, 1) := by decide +kernel
theorem dX9_nextOrder_24 : decode cX9_nextOrder 24 = .ok (.iaload, 1) := by decide +kernel
theorem dX9_nextOrder_25 : decode cX9_nextOrder 25 = .ok (.if_icmp .le 9, 3) := by decide +kernel
theorem dX9_nextOrder_28 : decode cX9_nextOrder 28 = .ok (.iinc 1 (-1), 3) := by decide +kernel
theorem dX9_nextOrder_31 : decode cX9_nextOrder 31 = .ok (.goto (-24), 3) := by decide +kernel
theorem dX9_nextOrder_34 : decode cX9_nextOrder 34 = .ok (.iload_n 1, 1) := by decide +kernel
theorem dX9_nextOrder_35 : decode cX9_nextOrder 35 = .ok (.ifCond .ge 5, 3) := by decide +kernel
theorem dX9_nextOrder_38 : decode cX9_nextOrder 38 = .ok (.iconst 0, 1) := by decide +kernel
theorem dX9_nextOrder_39 : decode cX9_nextOrder 39 = .ok (.ireturn, 1) := by decide +kernel
theorem dX9_nextOrder_40 : decode cX9_nextOrder 40 = .ok (.aload_n 0, 1) := by decide +kernel
theorem dX9_nextOrder_41 : decode cX9_nextOrder 41 = .ok (.getfield 7, 3) := by decide +kernel
theorem dX9_nextOrder_44 : decode cX9_nextOrder 44 = .ok (.iconst 1, 1) := by decide +kernel
theorem dX9_nextOrder_45 : decode cX9_nextOrder 45 = .ok (.isub, 1) := by decide +kernel
theorem dX9_nextOrder_46 : decode cX9_nextOrder 46 = .ok (.istore_n 2, 1) := by decide +kernel
theorem dX9_nextOrder_47 : decode cX9_nextOrder 47 = .ok (.aload_n 0, 1) := by decide +kernel
theorem dX9_nextOrder_48 : decode cX9_nextOrder 48 = .ok (.getfield 43, 3) := by decide +kernel
theorem dX9_nextOrder_51 : decode cX9_nextOrder 51 = .ok (.iload_n 2, 1) := by decide +kernel
theorem dX9_nextOrder_52 : decode cX9_nextOrder 52 = .ok (.iaload, 1) := by decide +kernel
theorem dX9_nextOrder_53 : decode cX9_nextOrder 53 = .ok (.aload_n 0, 1) := by decide +kernel
theorem dX9_nextOrder_54 : decode cX9_nextOrder 54 = .ok (.getfield 43, 3) := by decide +kernel
theorem dX9_nextOrder_57 : decode cX9_nextOrder 57 = .ok (.iload_n 1, 1) := by decide +kernel
theorem dX9_nextOrder_58 : decode cX9_nextOrder 58 = .ok (.iaload, 1) := by decide +kernel
theorem dX9_nextOrder_59 : decode cX9_nextOrder 59 = .ok (.if_icmp .ge 9, 3) := by decide +kernel
theorem dX9_nextOrder_62 : decode cX9_nextOrder 62 = .ok (.iinc 2 (-1), 3) := by decide +kernel
theorem dX9_nextOrder_65 : decode cX9_nextOrder 65 = .ok (.goto (-18), 3) := by decide +kernel
theorem dX9_nextOrder_68 : decode cX9_nextOrder 68 = .ok (.aload_n 0, 1) := by decide +kernel
theorem dX9_nextOrder_69 : decode cX9_nextOrder 69 = .ok (.getfield 43, 3) := by decide +kernel
theorem dX9_nextOrder_72 : decode cX9_nextOrder 72 = .ok (.iload_n 1, 1) := by decide +kernel
theorem dX9_nextOrder_73 : decode cX9_nextOrder 73 = .ok (.iaload, 1) := by decide +kernel
theorem dX9_nextOrder_74 : decode cX9_nextOrder 74 = .ok (.istore_n 3, 1) := by decide +kernel
theorem dX9_nextOrder_75 : decode cX9_nextOrder 75 = .ok (.aload_n 0, 1) := by decide +kernel
theorem dX9_nextOrder_76 : decode cX9_nextOrder 76 = .ok (.getfield 43, 3) := by decide +kernel
theorem dX9_nextOrder_79 : decode cX9_nextOrder 79 = .ok (.iload_n 1, 1) := by decide +kernel
theorem dX9_nextOrder_80 : decode cX9_nextOrder 80 = .ok (.aload_n 0, 1) := by decide +kernel
theorem dX9_nextOrder_81 : decode cX9_nextOrder 81 = .ok (.getfield 43, 3) := by decide +kernel
theorem dX9_nextOrder_84 : decode cX9_nextOrder 84 = .ok (.iload_n 2, 1) := by decide +kernel
theorem dX9_nextOrder_85 : decode cX9_nextOrder 85 = .ok (.iaload, 1) := by decide +kernel
theorem dX9_nextOrder_86 : decode cX9_nextOrder 86 = .ok (.iastore, 1) := by decide +kernel
theorem dX9_nextOrder_87 : decode cX9_nextOrder 87 = .ok (.aload_n 0, 1) := by decide +kernel
theorem dX9_nextOrder_88 : decode cX9_nextOrder 88 = .ok (.getfield 43, 3) := by decide +kernel
theorem dX9_nextOrder_91 : decode cX9_nextOrder 91 = .ok (.iload_n 2, 1) := by decide +kernel
theorem dX9_nextOrder_92 : decode cX9_nextOrder 92 = .ok (.iload_n 3, 1) := by decide +kernel
theorem dX9_nextOrder_93 : decode cX9_nextOrder 93 = .ok (.iastore, 1) := by decide +kernel
theorem dX9_nextOrder_94 : decode cX9_nextOrder 94 = .ok (.iload_n 1, 1) := by decide +kernel
theorem dX9_nextOrder_95 : decode cX9_nextOrder 95 = .ok (.iconst 1, 1) := by decide +kernel
theorem dX9_nextOrder_96 : decode cX9_nextOrder 96 = .ok (.iadd, 1) := by decide +kernel
theorem dX9_nextOrder_97 : decode cX9_nextOrder 97 = .ok (.istore 4, 2) := by decide +kernel
theorem dX9_nextOrder_99 : decode cX9_nextOrder 99 = .ok (.aload_n 0, 1) := by decide +kernel
theorem dX9_nextOrder_100 : decode cX9_nextOrder 100 = .ok (.getfield 7, 3) := by decide +kernel
theorem dX9_nextOrder_103 : decode cX9_nextOrder 103 = .ok (.iconst 1, 1) := by decide +kernel
theorem dX9_nextOrder_104 : decode cX9_nextOrder 104 = .ok (.isub, 1) := by decide +kernel
theorem dX9_nextOrder_105 : decode cX9_nextOrder 105 = .ok (.istore 5, 2) := by decide +kernel
theorem dX9_nextOrder_107 : decode cX9_nextOrder 107 = .ok (.iload 4, 2) := by decide +kernel
theorem dX9_nextOrder_109 : decode cX9_nextOrder 109 = .ok (.iload 5, 2) := by decide +kernel
theorem dX9_nextOrder_111 : decode cX9_nextOrder 111 = .ok (.if_icmp .ge 42, 3) := by decide +kernel
theorem dX9_nextOrder_114 : decode cX9_nextOrder 114 = .ok (.aload_n 0, 1) := by decide +kernel
theorem dX9_nextOrder_115 : decode cX9_nextOrder 115 = .ok (.getfield 43, 3) := by decide +kernel
theorem dX9_nextOrder_118 : decode cX9_nextOrder 118 = .ok (.iload 4, 2) := by decide +kernel
theorem dX9_nextOrder_120 : decode cX9_nextOrder 120 = .ok (.iaload, 1) := by decide +kernel
theorem dX9_nextOrder_121 : decode cX9_nextOrder 121 = .ok (.istore_n 3, 1) := by decide +kernel
theorem dX9_nextOrder_122 : decode cX9_nextOrder 122 = .ok (.aload_n 0, 1) := by decide +kernel
theorem dX9_nextOrder_123 : decode cX9_nextOrder 123 = .ok (.getfield 43, 3) := by decide +kernel
theorem dX9_nextOrder_126 : decode cX9_nextOrder 126 = .ok (.iload 4, 2) := by decide +kernel
theorem dX9_nextOrder_128 : decode cX9_nextOrder 128 = .ok (.aload_n 0, 1) := by decide +kernel
theorem dX9_nextOrder_129 : decode cX9_nextOrder 129 = .ok (.getfield 43, 3) := by decide +kernel
theorem dX9_nextOrder_132 : decode cX9_nextOrder 132 = .ok (.iload 5, 2) := by decide +kernel
theorem dX9_nextOrder_134 : decode cX9_nextOrder 134 = .ok (.iaload, 1) := by decide +kernel
theorem dX9_nextOrder_135 : decode cX9_nextOrder 135 = .ok (.iastore, 1) := by decide +kernel
theorem dX9_nextOrder_136 : decode cX9_nextOrder 136 = .ok (.aload_n 0, 1) := by decide +kernel
theorem dX9_nextOrder_137 : decode cX9_nextOrder 137 = .ok (.getfield 43, 3) := by decide +kernel
theorem dX9_nextOrder_140 : decode cX9_nextOrder 140 = .ok (.iload 5, 2) := by decide +kernel
theorem dX9_nextOrder_142 : decode cX9_nextOrder 142 = .ok (.iload_n 3, 1) := by decide +kernel
theorem dX9_nextOrder_143 : decode cX9_nextOrder 143 = .ok (.iastore, 1) := by decide +kernel
theorem dX9_nextOrder_144 : decode cX9_nextOrder 144 = .ok (.iinc 4 1, 3) := by decide +kernel
theorem dX9_nextOrder_147 : decode cX9_nextOrder 147 = .ok (.iinc 5 (-1), 3) := by decide +kernel
theorem dX9_nextOrder_150 : decode cX9_nextOrder 150 = .ok (.goto (-43), 3) := by decide +kernel
theorem dX9_nextOrder_153 : decode cX9_nextOrder 153 = .ok (.iconst 1, 1) := by decide +kernel
theorem dX9_nextOrder_154 : decode cX9_nextOrder 154 = .ok (.ireturn, 1) := by decide +kernel
set_option maxRecDepth 20000 in
theorem ggX9_turns_X9_keeps : GoodIn wsX9_turns wsX9_keeps := goodIn_r _ [7, 1, 2, 8, 9, 10, 6, 11, 12, 13, 14, 15, 16, 21, 22, 23, 24, 25, 26, 27, 28, 29, 30, 31, 32, 33, 34, 35, 36, 37, 38, 39, 40, 41, 42, 43, 44, 45, 46, 47] (by decide +kernel) (by decide +kernel)
set_option maxRecDepth 20000 in
theorem gX9_turns_X9_keeps : GoodIn wsX9_turns (wsV RX9 177 RX9 yX9_keeps wsX9_keeps) := goodIn_app (goodIn_of _ (by decide +kernel)) ggX9_turns_X9_keeps
set_option maxRecDepth 20000 in
theorem ggX9_turns_X9_nextOrder : GoodIn wsX9_turns wsX9_nextOrder := goodIn_r _ [20, 1, 2, 21, 22, 23, 24, 25, 26, 27, 28, 29, 30, 31, 32, 33, 34, 35, 36, 37, 38, 39, 40, 41, 42, 43, 44, 45, 46, 47] (by decide +kernel) (by decide +kernel)
set_option maxRecDepth 20000 in
theorem gX9_turns_X9_nextOrder : GoodIn wsX9_turns (wsV RX9 180 RX9 yX9_nextOrder wsX9_nextOrder) := goodIn_app (goodIn_of _ (by decide +kernel)) ggX9_turns_X9_nextOrder
theorem dX9_turns_0 : decode cX9_turns 0 = .ok (.iconst 0, 1) := by decide +kernel
theorem dX9_turns_1 : decode cX9_turns 1 = .ok (.istore_n 3, 1) := by decide +kernel
theorem dX9_turns_2 : decode cX9_turns 2 = .ok (.iload_n 3, 1) := by decide +kernel
theorem dX9_turns_3 : decode cX9_turns 3 = .ok (.aload_n 0, 1) := by decide +kernel
theorem dX9_turns_4 : decode cX9_turns 4 = .ok (.getfield 7, 3) := by decide +kernel
theorem dX9_turns_7 : decode cX9_turns 7 = .ok (.if_icmp .ge 16, 3) := by decide +kernel
theorem dX9_turns_10 : decode cX9_turns 10 = .ok (.aload_n 0, 1) := by decide +kernel
theorem dX9_turns_11 : decode cX9_turns 11 = .ok (.getfield 43, 3) := by decide +kernel
theorem dX9_turns_14 : decode cX9_turns 14 = .ok (.iload_n 3, 1) := by decide +kernel
theorem dX9_turns_15 : decode cX9_turns 15 = .ok (.iload_n 3, 1) := by decide +kernel
theorem dX9_turns_16 : decode cX9_turns 16 = .ok (.iastore, 1) := by decide +kernel
theorem dX9_turns_17 : decode cX9_turns 17 = .ok (.iinc 3 1, 3) := by decide +kernel
theorem dX9_turns_20 : decode cX9_turns 20 = .ok (.goto (-18), 3) := by decide +kernel
theorem dX9_turns_23 : decode cX9_turns 23 = .ok (.iconst 0, 1) := by decide +kernel
theorem dX9_turns_24 : decode cX9_turns 24 = .ok (.istore_n 3, 1) := by decide +kernel
theorem dX9_turns_25 : decode cX9_turns 25 = .ok (.iconst 1, 1) := by decide +kernel
theorem dX9_turns_26 : decode cX9_turns 26 = .ok (.istore 4, 2) := by decide +kernel
theorem dX9_turns_28 : decode cX9_turns 28 = .ok (.iload 4, 2) := by decide +kernel
theorem dX9_turns_30 : decode cX9_turns 30 = .ok (.ifCond .eq 42, 3) := by decide +kernel
theorem dX9_turns_33 : decode cX9_turns 33 = .ok (.iload_n 3, 1) := by decide +kernel
theorem dX9_turns_34 : decode cX9_turns 34 = .ok (.iload_n 1, 1) := by decide +kernel
theorem dX9_turns_35 : decode cX9_turns 35 = .ok (.iconst (-1), 1) := by decide +kernel
theorem dX9_turns_36 : decode cX9_turns 36 = .ok (.if_icmp .eq 13, 3) := by decide +kernel
theorem dX9_turns_39 : decode cX9_turns 39 = .ok (.aload_n 0, 1) := by decide +kernel
theorem dX9_turns_40 : decode cX9_turns 40 = .ok (.getfield 43, 3) := by decide +kernel
theorem dX9_turns_43 : decode cX9_turns 43 = .ok (.iload_n 1, 1) := by decide +kernel
theorem dX9_turns_44 : decode cX9_turns 44 = .ok (.iaload, 1) := by decide +kernel
theorem dX9_turns_45 : decode cX9_turns 45 = .ok (.iload_n 2, 1) := by decide +kernel
theorem dX9_turns_46 : decode cX9_turns 46 = .ok (.if_icmp .ne 14, 3) := by decide +kernel
theorem dX9_turns_49 : decode cX9_turns 49 = .ok (.aload_n 0, 1) := by decide +kernel
theorem dX9_turns_50 : decode cX9_turns 50 = .ok (.invokevirtual 177, 3) := by decide +kernel
theorem dX9_turns_53 : decode cX9_turns 53 = .ok (.ifCond .eq 7, 3) := by decide +kernel
theorem dX9_turns_56 : decode cX9_turns 56 = .ok (.iconst 1, 1) := by decide +kernel
theorem dX9_turns_57 : decode cX9_turns 57 = .ok (.goto 4, 3) := by decide +kernel
theorem dX9_turns_60 : decode cX9_turns 60 = .ok (.iconst 0, 1) := by decide +kernel
theorem dX9_turns_61 : decode cX9_turns 61 = .ok (.iadd, 1) := by decide +kernel
theorem dX9_turns_62 : decode cX9_turns 62 = .ok (.istore_n 3, 1) := by decide +kernel
theorem dX9_turns_63 : decode cX9_turns 63 = .ok (.aload_n 0, 1) := by decide +kernel
theorem dX9_turns_64 : decode cX9_turns 64 = .ok (.invokevirtual 180, 3) := by decide +kernel
theorem dX9_turns_67 : decode cX9_turns 67 = .ok (.istore 4, 2) := by decide +kernel
theorem dX9_turns_69 : decode cX9_turns 69 = .ok (.goto (-41), 3) := by decide +kernel
theorem dX9_turns_72 : decode cX9_turns 72 = .ok (.iload_n 3, 1) := by decide +kernel
theorem dX9_turns_73 : decode cX9_turns 73 = .ok (.ireturn, 1) := by decide +kernel
set_option maxRecDepth 20000 in
theorem ggX9_isPoint_X9_isIn : GoodIn wsX9_isPoint wsX9_isIn := goodIn_r _ [5] (by decide +kernel) (by decide +kernel)
set_option maxRecDepth 20000 in
theorem gX9_isPoint_X9_isIn : GoodIn wsX9_isPoint (va_wsS RX9 59 yX9_isIn wsX9_isIn) := goodIn_app (goodIn_of _ (by decide +kernel)) ggX9_isPoint_X9_isIn
theorem dX9_isPoint_0 : decode cX9_isPoint 0 = .ok (.iload_n 1, 1) := by decide +kernel
theorem dX9_isPoint_1 : decode cX9_isPoint 1 = .ok (.iconst 0, 1) := by decide +kernel
theorem dX9_isPoint_2 : decode cX9_isPoint 2 = .ok (.aload_n 0, 1) := by decide +kernel
theorem dX9_isPoint_3 : decode cX9_isPoint 3 = .ok (.getfield 7, 3) := by decide +kernel
theorem dX9_isPoint_6 : decode cX9_isPoint 6 = .ok (.iconst 1, 1) := by decide +kernel
theorem dX9_isPoint_7 : decode cX9_isPoint 7 = .ok (.isub, 1) := by decide +kernel
theorem dX9_isPoint_8 : decode cX9_isPoint 8 = .ok (.invokestatic 59, 3) := by decide +kernel
theorem dX9_isPoint_11 : decode cX9_isPoint 11 = .ok (.ireturn, 1) := by decide +kernel
set_option maxRecDepth 20000 in
theorem ggX9_alike_X9_isPoint : GoodIn wsX9_alike wsX9_isPoint := goodIn_r _ [5, 6, 7, 8, 4, 9, 32, 33, 34, 35, 36, 37, 38, 39, 40, 41, 42, 43, 44, 45, 46, 47, 48, 49, 50, 51, 52, 53, 54, 55, 56, 57, 58] (by decide +kernel) (by decide +kernel)
set_option maxRecDepth 20000 in
theorem gX9_alike_X9_isPoint : GoodIn wsX9_alike (wsV RX9 183 RX9 yX9_isPoint wsX9_isPoint) := goodIn_app (goodIn_of _ (by decide +kernel)) ggX9_alike_X9_isPoint
set_option maxRecDepth 20000 in
theorem ggX9_alike_X9_turns : GoodIn wsX9_alike wsX9_turns := goodIn_r _ [13, 6, 14, 15, 16, 17, 4, 18, 19, 20, 21, 22, 23, 24, 25, 26, 27, 28, 29, 30, 31, 32, 33, 34, 35, 36, 37, 38, 39, 40, 41, 42, 43, 44, 45, 46, 47, 48, 49, 50, 51, 52, 53, 54, 55, 56, 57, 58] (by decide +kernel) (by decide +kernel)
set_option maxRecDepth 20000 in
theorem gX9_alike_X9_turns : GoodIn wsX9_alike (wsV RX9 186 RX9 yX9_turns wsX9_turns) := goodIn_app (goodIn_of _ (by decide +kernel)) ggX9_alike_X9_turns
theorem dX9_alike_0 : decode cX9_alike 0 = .ok (.aload_n 0, 1) := by decide +kernel
theorem dX9_alike_1 : decode cX9_alike 1 = .ok (.iload_n 1, 1) := by decide +kernel
theorem dX9_alike_2 : decode cX9_alike 2 = .ok (.invokevirtual 183, 3) := by decide +kernel
theorem dX9_alike_5 : decode cX9_alike 5 = .ok (.ifCond .eq 11, 3) := by decide +kernel
theorem dX9_alike_8 : decode cX9_alike 8 = .ok (.aload_n 0, 1) := by decide +kernel
theorem dX9_alike_9 : decode cX9_alike 9 = .ok (.iload_n 2, 1) := by decide +kernel
theorem dX9_alike_10 : decode cX9_alike 10 = .ok (.invokevirtual 183, 3) := by decide +kernel
theorem dX9_alike_13 : decode cX9_alike 13 = .ok (.ifCond .ne 7, 3) := by decide +kernel
theorem dX9_alike_16 : decode cX9_alike 16 = .ok (.iconst (-1), 1) := by decide +kernel
theorem dX9_alike_17 : decode cX9_alike 17 = .ok (.goto 17, 3) := by decide +kernel
theorem dX9_alike_20 : decode cX9_alike 20 = .ok (.aload_n 0, 1) := by decide +kernel
theorem dX9_alike_21 : decode cX9_alike 21 = .ok (.iload_n 1, 1) := by decide +kernel
theorem dX9_alike_22 : decode cX9_alike 22 = .ok (.iload_n 2, 1) := by decide +kernel
theorem dX9_alike_23 : decode cX9_alike 23 = .ok (.invokevirtual 186, 3) := by decide +kernel
theorem dX9_alike_26 : decode cX9_alike 26 = .ok (.ifCond .le 7, 3) := by decide +kernel
theorem dX9_alike_29 : decode cX9_alike 29 = .ok (.iconst 1, 1) := by decide +kernel
theorem dX9_alike_30 : decode cX9_alike 30 = .ok (.goto 4, 3) := by decide +kernel
theorem dX9_alike_33 : decode cX9_alike 33 = .ok (.iconst 0, 1) := by decide +kernel
theorem dX9_alike_34 : decode cX9_alike 34 = .ok (.ireturn, 1) := by decide +kernel
set_option maxRecDepth 20000 in
theorem ggX9_classes_X9_turns : GoodIn wsX9_classes wsX9_turns := goodIn_r _ [6, 1, 7, 8, 9, 10, 5, 11, 12, 13, 14, 15, 16, 17, 18, 19, 20, 21, 22, 23, 24, 25, 26, 27, 28, 29, 30, 31, 32, 33, 34, 35, 36, 37, 38, 39, 40, 41, 42, 43, 44, 45, 46, 47, 48, 49, 50, 51] (by decide +kernel) (by decide +kernel)
set_option maxRecDepth 20000 in
theorem gX9_classes_X9_turns : GoodIn wsX9_classes (wsV RX9 186 RX9 yX9_turns wsX9_turns) := goodIn_app (goodIn_of _ (by decide +kernel)) ggX9_classes_X9_turns
theorem dX9_classes_0 : decode cX9_classes 0 = .ok (.iconst 0, 1) := by decide +kernel
theorem dX9_classes_1 : decode cX9_classes 1 = .ok (.istore_n 1, 1) := by decide +kernel
theorem dX9_classes_2 : decode cX9_classes 2 = .ok (.iconst 0, 1) := by decide +kernel
theorem dX9_classes_3 : decode cX9_classes 3 = .ok (.istore_n 2, 1) := by decide +kernel
theorem dX9_classes_4 : decode cX9_classes 4 = .ok (.iload_n 2, 1) := by decide +kernel
theorem dX9_classes_5 : decode cX9_classes 5 = .ok (.aload_n 0, 1) := by decide +kernel
theorem dX9_classes_6 : decode cX9_classes 6 = .ok (.getfield 7, 3) := by decide +kernel
theorem dX9_classes_9 : decode cX9_classes 9 = .ok (.if_icmp .ge 58, 3) := by decide +kernel
theorem dX9_classes_12 : decode cX9_classes 12 = .ok (.iconst 1, 1) := by decide +kernel
theorem dX9_classes_13 : decode cX9_classes 13 = .ok (.istore_n 3, 1) := by decide +kernel
theorem dX9_classes_14 : decode cX9_classes 14 = .ok (.iconst 0, 1) := by decide +kernel
theorem dX9_classes_15 : decode cX9_classes 15 = .ok (.istore 4, 2) := by decide +kernel
theorem dX9_classes_17 : decode cX9_classes 17 = .ok (.iload 4, 2) := by decide +kernel
theorem dX9_classes_19 : decode cX9_classes 19 = .ok (.iload_n 2, 1) := by decide +kernel
theorem dX9_classes_20 : decode cX9_classes 20 = .ok (.if_icmp .ge 29, 3) := by decide +kernel
theorem dX9_classes_23 : decode cX9_classes 23 = .ok (.iload_n 3, 1) := by decide +kernel
theorem dX9_classes_24 : decode cX9_classes 24 = .ok (.ifCond .eq 25, 3) := by decide +kernel
theorem dX9_classes_27 : decode cX9_classes 27 = .ok (.aload_n 0, 1) := by decide +kernel
theorem dX9_classes_28 : decode cX9_classes 28 = .ok (.iload 4, 2) := by decide +kernel
theorem dX9_classes_30 : decode cX9_classes 30 = .ok (.iload_n 2, 1) := by decide +kernel
theorem dX9_classes_31 : decode cX9_classes 31 = .ok (.invokevirtual 186, 3) := by decide +kernel
theorem dX9_classes_34 : decode cX9_classes 34 = .ok (.ifCond .ne 7, 3) := by decide +kernel
theorem dX9_classes_37 : decode cX9_classes 37 = .ok (.iconst 1, 1) := by decide +kernel
theorem dX9_classes_38 : decode cX9_classes 38 = .ok (.goto 4, 3) := by decide +kernel
theorem dX9_classes_41 : decode cX9_classes 41 = .ok (.iconst 0, 1) := by decide +kernel
theorem dX9_classes_42 : decode cX9_classes 42 = .ok (.istore_n 3, 1) := by decide +kernel
theorem dX9_classes_43 : decode cX9_classes 43 = .ok (.iinc 4 1, 3) := by decide +kernel
theorem dX9_classes_46 : decode cX9_classes 46 = .ok (.goto (-29), 3) := by decide +kernel
theorem dX9_classes_49 : decode cX9_classes 49 = .ok (.iload_n 1, 1) := by decide +kernel
theorem dX9_classes_50 : decode cX9_classes 50 = .ok (.iload_n 3, 1) := by decide +kernel
theorem dX9_classes_51 : decode cX9_classes 51 = .ok (.ifCond .eq 7, 3) := by decide +kernel
theorem dX9_classes_54 : decode cX9_classes 54 = .ok (.iconst 1, 1) := by decide +kernel
theorem dX9_classes_55 : decode cX9_classes 55 = .ok (.goto 4, 3) := by decide +kernel
theorem dX9_classes_58 : decode cX9_classes 58 = .ok (.iconst 0, 1) := by decide +kernel
theorem dX9_classes_59 : decode cX9_classes 59 = .ok (.iadd, 1) := by decide +kernel
theorem dX9_classes_60 : decode cX9_classes 60 = .ok (.istore_n 1, 1) := by decide +kernel
theorem dX9_classes_61 : decode cX9_classes 61 = .ok (.iinc 2 1, 3) := by decide +kernel
theorem dX9_classes_64 : decode cX9_classes 64 = .ok (.goto (-60), 3) := by decide +kernel
theorem dX9_classes_67 : decode cX9_classes 67 = .ok (.iload_n 1, 1) := by decide +kernel
theorem dX9_classes_68 : decode cX9_classes 68 = .ok (.ireturn, 1) := by decide +kernel
set_option maxRecDepth 20000 in
theorem ggX9_look_X9_many : GoodIn wsX9_look wsX9_many := goodIn_r _ [6] (by decide +kernel) (by decide +kernel)
set_option maxRecDepth 20000 in
theorem gX9_look_X9_many : GoodIn wsX9_look (va_wsS RX9 77 yX9_many wsX9_many) := goodIn_app (goodIn_of _ (by decide +kernel)) ggX9_look_X9_many
set_option maxRecDepth 20000 in
theorem ggX9_look_X9_all : GoodIn wsX9_look wsX9_all := goodIn_r _ [10, 1, 116, 117, 118, 119, 120, 121, 122, 123, 124, 125, 126, 127, 128, 129, 130, 131, 132, 133, 134, 135, 136, 137, 138, 139, 140, 141, 142] (by decide +kernel) (by decide +kernel)
set_option maxRecDepth 20000 in
theorem gX9_look_X9_all : GoodIn wsX9_look (wsV RX9 55 RX9 yX9_all wsX9_all) := goodIn_app (goodIn_of _ (by decide +kernel)) ggX9_look_X9_all
set_option maxRecDepth 20000 in
theorem ggX9_look_X9_facesOf : GoodIn wsX9_look wsX9_facesOf := goodIn_r _ [14, 7, 8, 9, 5, 10, 1, 15, 16, 17, 18, 2, 19, 20, 21, 116, 117, 118, 119, 120, 121, 122, 123, 124, 125, 126, 127, 128, 129, 130, 131, 132, 133, 134, 135, 136, 137, 138, 139, 140, 141, 142] (by decide +kernel) (by decide +kernel)
set_option maxRecDepth 20000 in
theorem gX9_look_X9_facesOf : GoodIn wsX9_look (wsV RX9 98 RX9 yX9_facesOf wsX9_facesOf) := goodIn_app (goodIn_of _ (by decide +kernel)) ggX9_look_X9_facesOf
set_option maxRecDepth 20000 in
theorem ggX9_look_X9_missingMany : GoodIn wsX9_look wsX9_missingMany := goodIn_r _ [25, 7, 8, 9, 5, 10, 1, 26, 27, 28, 29, 15, 16, 17, 18, 2, 116, 117, 118, 119, 120, 121, 122, 123, 124, 125, 126, 127, 128, 129, 130, 131, 132, 133, 134, 135, 136, 137, 138, 139, 140, 141, 142] (by decide +kernel) (by decide +kernel)
set_option maxRecDepth 20000 in
theorem gX9_look_X9_missingMany : GoodIn wsX9_look (wsV RX9 189 RX9 yX9_missingMany wsX9_missingMany) := goodIn_app (goodIn_of _ (by decide +kernel)) ggX9_look_X9_missingMany
set_option maxRecDepth 20000 in
theorem ggX9_look_X9_isFlag : GoodIn wsX9_look wsX9_isFlag := goodIn_r _ [33, 7, 8, 9, 5, 10, 1, 26, 27, 28, 29, 15, 16, 17, 18, 2, 19, 20, 21, 116, 117, 118, 119, 120, 121, 122, 123, 124, 125, 126, 127, 128, 129, 130, 131, 132, 133, 134, 135, 136, 137, 138, 139, 140, 141, 142] (by decide +kernel) (by decide +kernel)
set_option maxRecDepth 20000 in
theorem gX9_look_X9_isFlag : GoodIn wsX9_look (wsV RX9 192 RX9 yX9_isFlag wsX9_isFlag) := goodIn_app (goodIn_of _ (by decide +kernel)) ggX9_look_X9_isFlag
set_option maxRecDepth 20000 in
theorem ggX9_look_X9_finds : GoodIn wsX9_look wsX9_finds := goodIn_r _ [37, 38, 1, 39, 2, 40, 41, 7, 8, 9, 5, 10, 42, 43, 44, 45, 11, 12, 13, 14, 15, 16, 17, 18, 19, 20, 21, 3, 4, 6, 46, 47, 48, 49, 50, 51, 52, 53, 54, 55, 56, 57, 58, 59, 60, 61, 62, 63, 64, 65, 66, 67, 68, 69, 70, 71, 72, 73, 74, 75, 76, 77, 78, 79, 80, 81, 82, 83, 84, 85, 86, 87, 88, 89, 90, 91, 92, 93, 94, 95, 96, 97, 98, 116, 117, 118, 119, 120, 121, 122, 123, 124, 125, 126, 127, 128, 129, 130, 131, 132, 133, 134, 135, 136, 137, 138, 139, 140, 141, 142] (by decide +kernel) (by decide +kernel)
set_option maxRecDepth 20000 in
theorem gX9_look_X9_finds : GoodIn wsX9_look (wsV RX9 174 RX9 yX9_finds wsX9_finds) := goodIn_app (goodIn_of _ (by decide +kernel)) ggX9_look_X9_finds
set_option maxRecDepth 20000 in
theorem ggX9_look_X9_turns : GoodIn wsX9_look wsX9_turns := goodIn_r _ [102, 1, 103, 104, 105, 106, 5, 107, 7, 8, 9, 10, 15, 16, 17, 18, 2, 108, 109, 110, 111, 116, 117, 118, 119, 120, 121, 122, 123, 124, 125, 126, 127, 128, 129, 130, 131, 132, 133, 134, 135, 136, 137, 138, 139, 140, 141, 142] (by decide +kernel) (by decide +kernel)
set_option maxRecDepth 20000 in
theorem gX9_look_X9_turns : GoodIn wsX9_look (wsV RX9 186 RX9 yX9_turns wsX9_turns) := goodIn_app (goodIn_of _ (by decide +kernel)) ggX9_look_X9_turns
set_option maxRecDepth 20000 in
theorem ggX9_look_X9_classes : GoodIn wsX9_look wsX9_classes := goodIn_r _ [115, 1, 99, 100, 101, 5, 102, 103, 104, 105, 106, 107, 7, 8, 9, 10, 15, 16, 17, 18, 2, 108, 109, 110, 111, 116, 117, 118, 119, 120, 121, 122, 123, 124, 125, 126, 127, 128, 129, 130, 131, 132, 133, 134, 135, 136, 137, 138, 139, 140, 141, 142] (by decide +kernel) (by decide +kernel)
set_option maxRecDepth 20000 in
theorem gX9_look_X9_classes : GoodIn wsX9_look (wsV RX9 195 RX9 yX9_classes wsX9_classes) := goodIn_app (goodIn_of _ (by decide +kernel)) ggX9_look_X9_classes
theorem dX9_look_0 : decode cX9_look 0 = .ok (.iload_n 1, 1) := by decide +kernel
theorem dX9_look_1 : decode cX9_look 1 = .ok (.tableswitch 130 0 7 #[47, 52, 60, 87, 92, 105, 118, 125], 47) := by decide +kernel
theorem dX9_look_48 : decode cX9_look 48 = .ok (.aload_n 0, 1) := by decide +kernel
theorem dX9_look_49 : decode cX9_look 49 = .ok (.getfield 7, 3) := by decide +kernel
theorem dX9_look_52 : decode cX9_look 52 = .ok (.ireturn, 1) := by decide +kernel
theorem dX9_look_53 : decode cX9_look 53 = .ok (.aload_n 0, 1) := by decide +kernel
theorem dX9_look_54 : decode cX9_look 54 = .ok (.getfield 13, 3) := by decide +kernel
theorem dX9_look_57 : decode cX9_look 57 = .ok (.invokestatic 77, 3) := by decide +kernel
theorem dX9_look_60 : decode cX9_look 60 = .ok (.ireturn, 1) := by decide +kernel
theorem dX9_look_61 : decode cX9_look 61 = .ok (.iconst 5, 1) := by decide +kernel
theorem dX9_look_62 : decode cX9_look 62 = .ok (.istore_n 2, 1) := by decide +kernel
theorem dX9_look_63 : decode cX9_look 63 = .ok (.aload_n 0, 1) := by decide +kernel
theorem dX9_look_64 : decode cX9_look 64 = .ok (.aload_n 0, 1) := by decide +kernel
theorem dX9_look_65 : decode cX9_look 65 = .ok (.invokevirtual 55, 3) := by decide +kernel
theorem dX9_look_68 : decode cX9_look 68 = .ok (.iload_n 2, 1) := by decide +kernel
theorem dX9_look_69 : decode cX9_look 69 = .ok (.iconst 1, 1) := by decide +kernel
theorem dX9_look_70 : decode cX9_look 70 = .ok (.iadd, 1) := by decide +kernel
theorem dX9_look_71 : decode cX9_look 71 = .ok (.invokevirtual 98, 3) := by decide +kernel
theorem dX9_look_74 : decode cX9_look 74 = .ok (.invokestatic 77, 3) := by decide +kernel
theorem dX9_look_77 : decode cX9_look 77 = .ok (.ifCond .ne 9, 3) := by decide +kernel
theorem dX9_look_80 : decode cX9_look 80 = .ok (.iinc 2 (-1), 3) := by decide +kernel
theorem dX9_look_83 : decode cX9_look 83 = .ok (.goto (-20), 3) := by decide +kernel
theorem dX9_look_86 : decode cX9_look 86 = .ok (.iload_n 2, 1) := by decide +kernel
theorem dX9_look_87 : decode cX9_look 87 = .ok (.ireturn, 1) := by decide +kernel
theorem dX9_look_88 : decode cX9_look 88 = .ok (.aload_n 0, 1) := by decide +kernel
theorem dX9_look_89 : decode cX9_look 89 = .ok (.invokevirtual 189, 3) := by decide +kernel
theorem dX9_look_92 : decode cX9_look 92 = .ok (.ireturn, 1) := by decide +kernel
theorem dX9_look_93 : decode cX9_look 93 = .ok (.aload_n 0, 1) := by decide +kernel
theorem dX9_look_94 : decode cX9_look 94 = .ok (.invokevirtual 192, 3) := by decide +kernel
theorem dX9_look_97 : decode cX9_look 97 = .ok (.ifCond .eq 7, 3) := by decide +kernel
theorem dX9_look_100 : decode cX9_look 100 = .ok (.iconst 1, 1) := by decide +kernel
theorem dX9_look_101 : decode cX9_look 101 = .ok (.goto 4, 3) := by decide +kernel
theorem dX9_look_104 : decode cX9_look 104 = .ok (.iconst 0, 1) := by decide +kernel
theorem dX9_look_105 : decode cX9_look 105 = .ok (.ireturn, 1) := by decide +kernel
theorem dX9_look_106 : decode cX9_look 106 = .ok (.aload_n 0, 1) := by decide +kernel
theorem dX9_look_107 : decode cX9_look 107 = .ok (.invokevirtual 174, 3) := by decide +kernel
theorem dX9_look_110 : decode cX9_look 110 = .ok (.ifCond .eq 7, 3) := by decide +kernel
theorem dX9_look_113 : decode cX9_look 113 = .ok (.iconst 0, 1) := by decide +kernel
theorem dX9_look_114 : decode cX9_look 114 = .ok (.goto 4, 3) := by decide +kernel
theorem dX9_look_117 : decode cX9_look 117 = .ok (.iconst 1, 1) := by decide +kernel
theorem dX9_look_118 : decode cX9_look 118 = .ok (.ireturn, 1) := by decide +kernel
theorem dX9_look_119 : decode cX9_look 119 = .ok (.aload_n 0, 1) := by decide +kernel
theorem dX9_look_120 : decode cX9_look 120 = .ok (.iconst (-1), 1) := by decide +kernel
theorem dX9_look_121 : decode cX9_look 121 = .ok (.iconst (-1), 1) := by decide +kernel
theorem dX9_look_122 : decode cX9_look 122 = .ok (.invokevirtual 186, 3) := by decide +kernel
theorem dX9_look_125 : decode cX9_look 125 = .ok (.ireturn, 1) := by decide +kernel
theorem dX9_look_126 : decode cX9_look 126 = .ok (.aload_n 0, 1) := by decide +kernel
theorem dX9_look_127 : decode cX9_look 127 = .ok (.invokevirtual 195, 3) := by decide +kernel
theorem dX9_look_130 : decode cX9_look 130 = .ok (.ireturn, 1) := by decide +kernel
theorem dX9_look_131 : decode cX9_look 131 = .ok (.bipush (-2), 2) := by decide +kernel
theorem dX9_look_133 : decode cX9_look 133 = .ok (.ireturn, 1) := by decide +kernel
theorem dX9_feed_0 : decode cX9_feed 0 = .ok (.aload_n 0, 1) := by decide +kernel
theorem dX9_feed_1 : decode cX9_feed 1 = .ok (.getfield 198, 3) := by decide +kernel
theorem dX9_feed_4 : decode cX9_feed 4 = .ok (.bipush 20, 2) := by decide +kernel
theorem dX9_feed_6 : decode cX9_feed 6 = .ok (.iadd, 1) := by decide +kernel
theorem dX9_feed_7 : decode cX9_feed 7 = .ok (.sipush 200, 3) := by decide +kernel
theorem dX9_feed_10 : decode cX9_feed 10 = .ok (.if_icmp .le 5, 3) := by decide +kernel
theorem dX9_feed_13 : decode cX9_feed 13 = .ok (.iconst (-1), 1) := by decide +kernel
theorem dX9_feed_14 : decode cX9_feed 14 = .ok (.ireturn, 1) := by decide +kernel
theorem dX9_feed_15 : decode cX9_feed 15 = .ok (.iconst 0, 1) := by decide +kernel
theorem dX9_feed_16 : decode cX9_feed 16 = .ok (.istore 6, 2) := by decide +kernel
theorem dX9_feed_18 : decode cX9_feed 18 = .ok (.iload 6, 2) := by decide +kernel
theorem dX9_feed_20 : decode cX9_feed 20 = .ok (.bipush 20, 2) := by decide +kernel
theorem dX9_feed_22 : decode cX9_feed 22 = .ok (.if_icmp .ge 93, 3) := by decide +kernel
theorem dX9_feed_25 : decode cX9_feed 25 = .ok (.iload 6, 2) := by decide +kernel
theorem dX9_feed_27 : decode cX9_feed 27 = .ok (.iconst 4, 1) := by decide +kernel
theorem dX9_feed_28 : decode cX9_feed 28 = .ok (.if_icmp .ge 7, 3) := by decide +kernel
theorem dX9_feed_31 : decode cX9_feed 31 = .ok (.iload_n 1, 1) := by decide +kernel
theorem dX9_feed_32 : decode cX9_feed 32 = .ok (.goto 39, 3) := by decide +kernel
theorem dX9_feed_35 : decode cX9_feed 35 = .ok (.iload 6, 2) := by decide +kernel
theorem dX9_feed_37 : decode cX9_feed 37 = .ok (.bipush 8, 2) := by decide +kernel
theorem dX9_feed_39 : decode cX9_feed 39 = .ok (.if_icmp .ge 7, 3) := by decide +kernel
theorem dX9_feed_42 : decode cX9_feed 42 = .ok (.iload_n 2, 1) := by decide +kernel
theorem dX9_feed_43 : decode cX9_feed 43 = .ok (.goto 28, 3) := by decide +kernel
theorem dX9_feed_46 : decode cX9_feed 46 = .ok (.iload 6, 2) := by decide +kernel
theorem dX9_feed_48 : decode cX9_feed 48 = .ok (.bipush 12, 2) := by decide +kernel
theorem dX9_feed_50 : decode cX9_feed 50 = .ok (.if_icmp .ge 7, 3) := by decide +kernel
theorem dX9_feed_53 : decode cX9_feed 53 = .ok (.iload_n 3, 1) := by decide +kernel
theorem dX9_feed_54 : decode cX9_feed 54 = .ok (.goto 17, 3) := by decide +kernel
theorem dX9_feed_57 : decode cX9_feed 57 = .ok (.iload 6, 2) := by decide +kernel
theorem dX9_feed_59 : decode cX9_feed 59 = .ok (.bipush 16, 2) := by decide +kernel
theorem dX9_feed_61 : decode cX9_feed 61 = .ok (.if_icmp .ge 8, 3) := by decide +kernel
theorem dX9_feed_64 : decode cX9_feed 64 = .ok (.iload 4, 2) := by decide +kernel
theorem dX9_feed_66 : decode cX9_feed 66 = .ok (.goto 5, 3) := by decide +kernel
theorem dX9_feed_69 : decode cX9_feed 69 = .ok (.iload 5, 2) := by decide +kernel
theorem dX9_feed_71 : decode cX9_feed 71 = .ok (.istore 7, 2) := by decide +kernel
theorem dX9_feed_73 : decode cX9_feed 73 = .ok (.aload_n 0, 1) := by decide +kernel
theorem dX9_feed_74 : decode cX9_feed 74 = .ok (.getfield 46, 3) := by decide +kernel
theorem dX9_feed_77 : decode cX9_feed 77 = .ok (.aload_n 0, 1) := by decide +kernel
theorem dX9_feed_78 : decode cX9_feed 78 = .ok (.getfield 198, 3) := by decide +kernel
theorem dX9_feed_81 : decode cX9_feed 81 = .ok (.iload 7, 2) := by decide +kernel
theorem dX9_feed_83 : decode cX9_feed 83 = .ok (.bipush 24, 2) := by decide +kernel
theorem dX9_feed_85 : decode cX9_feed 85 = .ok (.bipush 8, 2) := by decide +kernel
theorem dX9_feed_87 : decode cX9_feed 87 = .ok (.iload 6, 2) := by decide +kernel
theorem dX9_feed_89 : decode cX9_feed 89 = .ok (.iconst 4, 1) := by decide +kernel
theorem dX9_feed_90 : decode cX9_feed 90 = .ok (.irem, 1) := by decide +kernel
theorem dX9_feed_91 : decode cX9_feed 91 = .ok (.imul, 1) := by decide +kernel
theorem dX9_feed_92 : decode cX9_feed 92 = .ok (.isub, 1) := by decide +kernel
theorem dX9_feed_93 : decode cX9_feed 93 = .ok (.ishr, 1) := by decide +kernel
theorem dX9_feed_94 : decode cX9_feed 94 = .ok (.sipush 255, 3) := by decide +kernel
theorem dX9_feed_97 : decode cX9_feed 97 = .ok (.iand, 1) := by decide +kernel
theorem dX9_feed_98 : decode cX9_feed 98 = .ok (.iastore, 1) := by decide +kernel
theorem dX9_feed_99 : decode cX9_feed 99 = .ok (.aload_n 0, 1) := by decide +kernel
theorem dX9_feed_100 : decode cX9_feed 100 = .ok (.dup, 1) := by decide +kernel
theorem dX9_feed_101 : decode cX9_feed 101 = .ok (.getfield 198, 3) := by decide +kernel
theorem dX9_feed_104 : decode cX9_feed 104 = .ok (.iconst 1, 1) := by decide +kernel
theorem dX9_feed_105 : decode cX9_feed 105 = .ok (.iadd, 1) := by decide +kernel
theorem dX9_feed_106 : decode cX9_feed 106 = .ok (.putfield 198, 3) := by decide +kernel
theorem dX9_feed_109 : decode cX9_feed 109 = .ok (.iinc 6 1, 3) := by decide +kernel
theorem dX9_feed_112 : decode cX9_feed 112 = .ok (.goto (-94), 3) := by decide +kernel
theorem dX9_feed_115 : decode cX9_feed 115 = .ok (.aload_n 0, 1) := by decide +kernel
theorem dX9_feed_116 : decode cX9_feed 116 = .ok (.getfield 198, 3) := by decide +kernel
theorem dX9_feed_119 : decode cX9_feed 119 = .ok (.ireturn, 1) := by decide +kernel
set_option maxRecDepth 20000 in
theorem ggX9_end_X9_isIn : GoodIn wsX9_end wsX9_isIn := goodIn_r _ [5] (by decide +kernel) (by decide +kernel)
set_option maxRecDepth 20000 in
theorem gX9_end_X9_isIn : GoodIn wsX9_end (va_wsS RX9 59 yX9_isIn wsX9_isIn) := goodIn_app (goodIn_of _ (by decide +kernel)) ggX9_end_X9_isIn
theorem dX9_end_0 : decode cX9_end 0 = .ok (.iload_n 1, 1) := by decide +kernel
theorem dX9_end_1 : decode cX9_end 1 = .ok (.iconst 0, 1) := by decide +kernel
theorem dX9_end_2 : decode cX9_end 2 = .ok (.aload_n 0, 1) := by decide +kernel
theorem dX9_end_3 : decode cX9_end 3 = .ok (.getfield 198, 3) := by decide +kernel
theorem dX9_end_6 : decode cX9_end 6 = .ok (.invokestatic 59, 3) := by decide +kernel
theorem dX9_end_9 : decode cX9_end 9 = .ok (.ifCond .ne 5, 3) := by decide +kernel
theorem dX9_end_12 : decode cX9_end 12 = .ok (.iconst 0, 1) := by decide +kernel
theorem dX9_end_13 : decode cX9_end 13 = .ok (.ireturn, 1) := by decide +kernel
theorem dX9_end_14 : decode cX9_end 14 = .ok (.aload_n 0, 1) := by decide +kernel
theorem dX9_end_15 : decode cX9_end 15 = .ok (.iload_n 1, 1) := by decide +kernel
theorem dX9_end_16 : decode cX9_end 16 = .ok (.putfield 198, 3) := by decide +kernel
theorem dX9_end_19 : decode cX9_end 19 = .ok (.iconst 1, 1) := by decide +kernel
theorem dX9_end_20 : decode cX9_end 20 = .ok (.ireturn, 1) := by decide +kernel
theorem dX9_see_0 : decode cX9_see 0 = .ok (.iload_n 1, 1) := by decide +kernel
theorem dX9_see_1 : decode cX9_see 1 = .ok (.aload_n 0, 1) := by decide +kernel
theorem dX9_see_2 : decode cX9_see 2 = .ok (.getfield 198, 3) := by decide +kernel
theorem dX9_see_5 : decode cX9_see 5 = .ok (.if_icmp .ge 12, 3) := by decide +kernel
theorem dX9_see_8 : decode cX9_see 8 = .ok (.aload_n 0, 1) := by decide +kernel
theorem dX9_see_9 : decode cX9_see 9 = .ok (.getfield 46, 3) := by decide +kernel
theorem dX9_see_12 : decode cX9_see 12 = .ok (.iload_n 1, 1) := by decide +kernel
theorem dX9_see_13 : decode cX9_see 13 = .ok (.iaload, 1) := by decide +kernel
theorem dX9_see_14 : decode cX9_see 14 = .ok (.goto 4, 3) := by decide +kernel
theorem dX9_see_17 : decode cX9_see 17 = .ok (.iconst (-1), 1) := by decide +kernel
theorem dX9_see_18 : decode cX9_see 18 = .ok (.ireturn, 1) := by decide +kernel
set_option maxRecDepth 20000 in
theorem ggX9_blanks_X9_see : GoodIn wsX9_blanks wsX9_see := goodIn_r _ [5, 6, 7, 8, 9, 10, 11, 12, 13, 14, 15, 16, 17, 18, 19, 20, 21, 22, 23, 24, 25, 26, 27, 28, 29, 30, 31, 32, 33, 34] (by decide +kernel) (by decide +kernel)
set_option maxRecDepth 20000 in
theorem gX9_blanks_X9_see : GoodIn wsX9_blanks (wsV RX9 201 RX9 yX9_see wsX9_see) := goodIn_app (goodIn_of _ (by decide +kernel)) ggX9_blanks_X9_see
theorem dX9_blanks_0 : decode cX9_blanks 0 = .ok (.iload_n 1, 1) := by decide +kernel
theorem dX9_blanks_1 : decode cX9_blanks 1 = .ok (.istore_n 2, 1) := by decide +kernel
theorem dX9_blanks_2 : decode cX9_blanks 2 = .ok (.aload_n 0, 1) := by decide +kernel
theorem dX9_blanks_3 : decode cX9_blanks 3 = .ok (.iload_n 2, 1) := by decide +kernel
theorem dX9_blanks_4 : decode cX9_blanks 4 = .ok (.invokevirtual 201, 3) := by decide +kernel
theorem dX9_blanks_7 : decode cX9_blanks 7 = .ok (.bipush 32, 2) := by decide +kernel
theorem dX9_blanks_9 : decode cX9_blanks 9 = .ok (.if_icmp .eq 13, 3) := by decide +kernel
theorem dX9_blanks_12 : decode cX9_blanks 12 = .ok (.aload_n 0, 1) := by decide +kernel
theorem dX9_blanks_13 : decode cX9_blanks 13 = .ok (.iload_n 2, 1) := by decide +kernel
theorem dX9_blanks_14 : decode cX9_blanks 14 = .ok (.invokevirtual 201, 3) := by decide +kernel
theorem dX9_blanks_17 : decode cX9_blanks 17 = .ok (.bipush 10, 2) := by decide +kernel
theorem dX9_blanks_19 : decode cX9_blanks 19 = .ok (.if_icmp .ne 9, 3) := by decide +kernel
theorem dX9_blanks_22 : decode cX9_blanks 22 = .ok (.iinc 2 1, 3) := by decide +kernel
theorem dX9_blanks_25 : decode cX9_blanks 25 = .ok (.goto (-23), 3) := by decide +kernel
theorem dX9_blanks_28 : decode cX9_blanks 28 = .ok (.iload_n 2, 1) := by decide +kernel
theorem dX9_blanks_29 : decode cX9_blanks 29 = .ok (.ireturn, 1) := by decide +kernel
set_option maxRecDepth 20000 in
theorem ggX9_reads_X9_blanks : GoodIn wsX9_reads wsX9_blanks := goodIn_r _ [8, 9, 10, 11, 7, 12, 3, 13, 20, 21, 22, 23, 24, 25, 26, 27, 28, 29, 30, 31, 32, 33, 34, 35, 36, 37, 38, 39, 40, 41, 42, 43, 44, 45, 46] (by decide +kernel) (by decide +kernel)
set_option maxRecDepth 20000 in
theorem gX9_reads_X9_blanks : GoodIn wsX9_reads (wsV RX9 204 RX9 yX9_blanks wsX9_blanks) := goodIn_app (goodIn_of _ (by decide +kernel)) ggX9_reads_X9_blanks
set_option maxRecDepth 20000 in
theorem ggX9_reads_X9_see : GoodIn wsX9_reads wsX9_see := goodIn_r _ [12, 3, 13, 20, 21, 22, 23, 24, 25, 26, 27, 28, 29, 30, 31, 32, 33, 34, 35, 36, 37, 38, 39, 40, 41, 42, 43, 44, 45, 46] (by decide +kernel) (by decide +kernel)
set_option maxRecDepth 20000 in
theorem gX9_reads_X9_see : GoodIn wsX9_reads (wsV RX9 201 RX9 yX9_see wsX9_see) := goodIn_app (goodIn_of _ (by decide +kernel)) ggX9_reads_X9_see
set_option maxRecDepth 20000 in
theorem ggX9_reads_X9_isIn : GoodIn wsX9_reads wsX9_isIn := goodIn_r _ [16] (by decide +kernel) (by decide +kernel)
set_option maxRecDepth 20000 in
theorem gX9_reads_X9_isIn : GoodIn wsX9_reads (va_wsS RX9 59 yX9_isIn wsX9_isIn) := goodIn_app (goodIn_of _ (by decide +kernel)) ggX9_reads_X9_isIn
set_option maxRecDepth 20000 in
theorem ggX9_reads_X9_within : GoodIn wsX9_reads wsX9_within := goodIn_r _ [19] (by decide +kernel) (by decide +kernel)
set_option maxRecDepth 20000 in
theorem gX9_reads_X9_within : GoodIn wsX9_reads (va_wsS RX9 81 yX9_within wsX9_within) := goodIn_app (goodIn_of _ (by decide +kernel)) ggX9_reads_X9_within
theorem dX9_reads_0 : decode cX9_reads 0 = .ok (.aload_n 0, 1) := by decide +kernel
theorem dX9_reads_1 : decode cX9_reads 1 = .ok (.iconst 0, 1) := by decide +kernel
theorem dX9_reads_2 : decode cX9_reads 2 = .ok (.invokevirtual 204, 3) := by decide +kernel
theorem dX9_reads_5 : decode cX9_reads 5 = .ok (.istore_n 1, 1) := by decide +kernel
theorem dX9_reads_6 : decode cX9_reads 6 = .ok (.aload_n 0, 1) := by decide +kernel
theorem dX9_reads_7 : decode cX9_reads 7 = .ok (.iload_n 1, 1) := by decide +kernel
theorem dX9_reads_8 : decode cX9_reads 8 = .ok (.invokevirtual 201, 3) := by decide +kernel
theorem dX9_reads_11 : decode cX9_reads 11 = .ok (.bipush 49, 2) := by decide +kernel
theorem dX9_reads_13 : decode cX9_reads 13 = .ok (.bipush 54, 2) := by decide +kernel
theorem dX9_reads_15 : decode cX9_reads 15 = .ok (.invokestatic 59, 3) := by decide +kernel
theorem dX9_reads_18 : decode cX9_reads 18 = .ok (.ifCond .ne 5, 3) := by decide +kernel
theorem dX9_reads_21 : decode cX9_reads 21 = .ok (.iload_n 1, 1) := by decide +kernel
theorem dX9_reads_22 : decode cX9_reads 22 = .ok (.ireturn, 1) := by decide +kernel
theorem dX9_reads_23 : decode cX9_reads 23 = .ok (.aload_n 0, 1) := by decide +kernel
theorem dX9_reads_24 : decode cX9_reads 24 = .ok (.aload_n 0, 1) := by decide +kernel
theorem dX9_reads_25 : decode cX9_reads 25 = .ok (.iload_n 1, 1) := by decide +kernel
theorem dX9_reads_26 : decode cX9_reads 26 = .ok (.invokevirtual 201, 3) := by decide +kernel
theorem dX9_reads_29 : decode cX9_reads 29 = .ok (.bipush 48, 2) := by decide +kernel
theorem dX9_reads_31 : decode cX9_reads 31 = .ok (.isub, 1) := by decide +kernel
theorem dX9_reads_32 : decode cX9_reads 32 = .ok (.putfield 207, 3) := by decide +kernel
theorem dX9_reads_35 : decode cX9_reads 35 = .ok (.aload_n 0, 1) := by decide +kernel
theorem dX9_reads_36 : decode cX9_reads 36 = .ok (.lconst 1, 1) := by decide +kernel
theorem dX9_reads_37 : decode cX9_reads 37 = .ok (.putfield 210, 3) := by decide +kernel
theorem dX9_reads_40 : decode cX9_reads 40 = .ok (.aload_n 0, 1) := by decide +kernel
theorem dX9_reads_41 : decode cX9_reads 41 = .ok (.iload_n 1, 1) := by decide +kernel
theorem dX9_reads_42 : decode cX9_reads 42 = .ok (.iconst 1, 1) := by decide +kernel
theorem dX9_reads_43 : decode cX9_reads 43 = .ok (.iadd, 1) := by decide +kernel
theorem dX9_reads_44 : decode cX9_reads 44 = .ok (.invokevirtual 204, 3) := by decide +kernel
theorem dX9_reads_47 : decode cX9_reads 47 = .ok (.istore_n 1, 1) := by decide +kernel
theorem dX9_reads_48 : decode cX9_reads 48 = .ok (.aload_n 0, 1) := by decide +kernel
theorem dX9_reads_49 : decode cX9_reads 49 = .ok (.iload_n 1, 1) := by decide +kernel
theorem dX9_reads_50 : decode cX9_reads 50 = .ok (.invokevirtual 201, 3) := by decide +kernel
theorem dX9_reads_53 : decode cX9_reads 53 = .ok (.bipush 58, 2) := by decide +kernel
theorem dX9_reads_55 : decode cX9_reads 55 = .ok (.if_icmp .eq 5, 3) := by decide +kernel
theorem dX9_reads_58 : decode cX9_reads 58 = .ok (.iload_n 1, 1) := by decide +kernel
theorem dX9_reads_59 : decode cX9_reads 59 = .ok (.ireturn, 1) := by decide +kernel
theorem dX9_reads_60 : decode cX9_reads 60 = .ok (.aload_n 0, 1) := by decide +kernel
theorem dX9_reads_61 : decode cX9_reads 61 = .ok (.iload_n 1, 1) := by decide +kernel
theorem dX9_reads_62 : decode cX9_reads 62 = .ok (.iconst 1, 1) := by decide +kernel
theorem dX9_reads_63 : decode cX9_reads 63 = .ok (.iadd, 1) := by decide +kernel
theorem dX9_reads_64 : decode cX9_reads 64 = .ok (.invokevirtual 204, 3) := by decide +kernel
theorem dX9_reads_67 : decode cX9_reads 67 = .ok (.istore_n 1, 1) := by decide +kernel
theorem dX9_reads_68 : decode cX9_reads 68 = .ok (.iload_n 1, 1) := by decide +kernel
theorem dX9_reads_69 : decode cX9_reads 69 = .ok (.aload_n 0, 1) := by decide +kernel
theorem dX9_reads_70 : decode cX9_reads 70 = .ok (.getfield 198, 3) := by decide +kernel
theorem dX9_reads_73 : decode cX9_reads 73 = .ok (.if_icmp .ge 103, 3) := by decide +kernel
theorem dX9_reads_76 : decode cX9_reads 76 = .ok (.iconst 0, 1) := by decide +kernel
theorem dX9_reads_77 : decode cX9_reads 77 = .ok (.istore_n 2, 1) := by decide +kernel
theorem dX9_reads_78 : decode cX9_reads 78 = .ok (.iconst (-1), 1) := by decide +kernel
theorem dX9_reads_79 : decode cX9_reads 79 = .ok (.istore_n 3, 1) := by decide +kernel
theorem dX9_reads_80 : decode cX9_reads 80 = .ok (.aload_n 0, 1) := by decide +kernel
theorem dX9_reads_81 : decode cX9_reads 81 = .ok (.iload_n 1, 1) := by decide +kernel
theorem dX9_reads_82 : decode cX9_reads 82 = .ok (.invokevirtual 201, 3) := by decide +kernel
theorem dX9_reads_85 : decode cX9_reads 85 = .ok (.bipush 32, 2) := by decide +kernel
theorem dX9_reads_87 : decode cX9_reads 87 = .ok (.if_icmp .eq 67, 3) := by decide +kernel
theorem dX9_reads_90 : decode cX9_reads 90 = .ok (.aload_n 0, 1) := by decide +kernel
theorem dX9_reads_91 : decode cX9_reads 91 = .ok (.iload_n 1, 1) := by decide +kernel
theorem dX9_reads_92 : decode cX9_reads 92 = .ok (.invokevirtual 201, 3) := by decide +kernel
theorem dX9_reads_95 : decode cX9_reads 95 = .ok (.bipush 10, 2) := by decide +kernel
theorem dX9_reads_97 : decode cX9_reads 97 = .ok (.if_icmp .eq 57, 3) := by decide +kernel
theorem dX9_reads_100 : decode cX9_reads 100 = .ok (.aload_n 0, 1) := by decide +kernel
theorem dX9_reads_101 : decode cX9_reads 101 = .ok (.iload_n 1, 1) := by decide +kernel
theorem dX9_reads_102 : decode cX9_reads 102 = .ok (.invokevirtual 201, 3) := by decide +kernel
theorem dX9_reads_105 : decode cX9_reads 105 = .ok (.iconst (-1), 1) := by decide +kernel
theorem dX9_reads_106 : decode cX9_reads 106 = .ok (.if_icmp .eq 48, 3) := by decide +kernel
theorem dX9_reads_109 : decode cX9_reads 109 = .ok (.aload_n 0, 1) := by decide +kernel
theorem dX9_reads_110 : decode cX9_reads 110 = .ok (.iload_n 1, 1) := by decide +kernel
theorem dX9_reads_111 : decode cX9_reads 111 = .ok (.invokevirtual 201, 3) := by decide +kernel
theorem dX9_reads_114 : decode cX9_reads 114 = .ok (.bipush 48, 2) := by decide +kernel
theorem dX9_reads_116 : decode cX9_reads 116 = .ok (.isub, 1) := by decide +kernel
theorem dX9_reads_117 : decode cX9_reads 117 = .ok (.istore 4, 2) := by decide +kernel
theorem dX9_reads_119 : decode cX9_reads 119 = .ok (.iload 4, 2) := by decide +kernel
theorem dX9_reads_121 : decode cX9_reads 121 = .ok (.iload_n 3, 1) := by decide +kernel
theorem dX9_reads_122 : decode cX9_reads 122 = .ok (.iconst 1, 1) := by decide +kernel
theorem dX9_reads_123 : decode cX9_reads 123 = .ok (.iadd, 1) := by decide +kernel
theorem dX9_reads_124 : decode cX9_reads 124 = .ok (.aload_n 0, 1) := by decide +kernel
theorem dX9_reads_125 : decode cX9_reads 125 = .ok (.getfield 207, 3) := by decide +kernel
theorem dX9_reads_128 : decode cX9_reads 128 = .ok (.iconst 1, 1) := by decide +kernel
theorem dX9_reads_129 : decode cX9_reads 129 = .ok (.isub, 1) := by decide +kernel
theorem dX9_reads_130 : decode cX9_reads 130 = .ok (.invokestatic 59, 3) := by decide +kernel
theorem dX9_reads_133 : decode cX9_reads 133 = .ok (.ifCond .ne 5, 3) := by decide +kernel
theorem dX9_reads_136 : decode cX9_reads 136 = .ok (.iload_n 1, 1) := by decide +kernel
theorem dX9_reads_137 : decode cX9_reads 137 = .ok (.ireturn, 1) := by decide +kernel
theorem dX9_reads_138 : decode cX9_reads 138 = .ok (.iload_n 2, 1) := by decide +kernel
theorem dX9_reads_139 : decode cX9_reads 139 = .ok (.iconst 1, 1) := by decide +kernel
theorem dX9_reads_140 : decode cX9_reads 140 = .ok (.iload 4, 2) := by decide +kernel
theorem dX9_reads_142 : decode cX9_reads 142 = .ok (.ishl, 1) := by decide +kernel
theorem dX9_reads_143 : decode cX9_reads 143 = .ok (.ior, 1) := by decide +kernel
theorem dX9_reads_144 : decode cX9_reads 144 = .ok (.istore_n 2, 1) := by decide +kernel
theorem dX9_reads_145 : decode cX9_reads 145 = .ok (.iload 4, 2) := by decide +kernel
theorem dX9_reads_147 : decode cX9_reads 147 = .ok (.istore_n 3, 1) := by decide +kernel
theorem dX9_reads_148 : decode cX9_reads 148 = .ok (.iinc 1 1, 3) := by decide +kernel
theorem dX9_reads_151 : decode cX9_reads 151 = .ok (.goto (-71), 3) := by decide +kernel
theorem dX9_reads_154 : decode cX9_reads 154 = .ok (.aload_n 0, 1) := by decide +kernel
theorem dX9_reads_155 : decode cX9_reads 155 = .ok (.dup, 1) := by decide +kernel
theorem dX9_reads_156 : decode cX9_reads 156 = .ok (.getfield 210, 3) := by decide +kernel
theorem dX9_reads_159 : decode cX9_reads 159 = .ok (.iload_n 2, 1) := by decide +kernel
theorem dX9_reads_160 : decode cX9_reads 160 = .ok (.invokestatic 81, 3) := by decide +kernel
theorem dX9_reads_163 : decode cX9_reads 163 = .ok (.lor, 1) := by decide +kernel
theorem dX9_reads_164 : decode cX9_reads 164 = .ok (.putfield 210, 3) := by decide +kernel
theorem dX9_reads_167 : decode cX9_reads 167 = .ok (.aload_n 0, 1) := by decide +kernel
theorem dX9_reads_168 : decode cX9_reads 168 = .ok (.iload_n 1, 1) := by decide +kernel
theorem dX9_reads_169 : decode cX9_reads 169 = .ok (.invokevirtual 204, 3) := by decide +kernel
theorem dX9_reads_172 : decode cX9_reads 172 = .ok (.istore_n 1, 1) := by decide +kernel
theorem dX9_reads_173 : decode cX9_reads 173 = .ok (.goto (-105), 3) := by decide +kernel
theorem dX9_reads_176 : decode cX9_reads 176 = .ok (.iconst (-1), 1) := by decide +kernel
theorem dX9_reads_177 : decode cX9_reads 177 = .ok (.ireturn, 1) := by decide +kernel
set_option maxRecDepth 20000 in
theorem ggX9_read_X9_reads : GoodIn wsX9_read wsX9_reads := goodIn_r _ [10, 3, 4, 2, 11, 12, 13, 9, 14, 15, 16, 17, 18, 19, 20, 21, 22, 23, 24, 25, 41, 42, 43, 44, 45, 46, 47, 48, 49, 50, 51, 52, 53, 54, 55, 56, 57, 58, 59, 60, 61, 62, 63, 64, 65, 66, 67] (by decide +kernel) (by decide +kernel)
set_option maxRecDepth 20000 in
theorem gX9_read_X9_reads : GoodIn wsX9_read (wsV RX9 213 RX9 yX9_reads wsX9_reads) := goodIn_app (goodIn_of _ (by decide +kernel)) ggX9_read_X9_reads
set_option maxRecDepth 20000 in
theorem ggX9_read_X9_becomes : GoodIn wsX9_read wsX9_becomes := goodIn_r _ [29, 30, 5, 31, 32, 33, 9, 34, 35, 36, 37, 41, 42, 43, 44, 45, 46, 47, 48, 49, 50, 51, 52, 53, 54, 55, 56, 57, 58, 59, 60, 61, 62, 63, 64, 65, 66, 67] (by decide +kernel) (by decide +kernel)
set_option maxRecDepth 20000 in
theorem gX9_read_X9_becomes : GoodIn wsX9_read (wsV RX9 69 RX9 yX9_becomes wsX9_becomes) := goodIn_app (goodIn_of _ (by decide +kernel)) ggX9_read_X9_becomes
set_option maxRecDepth 20000 in
theorem ggX9_read_X9_many : GoodIn wsX9_read wsX9_many := goodIn_r _ [40] (by decide +kernel) (by decide +kernel)
set_option maxRecDepth 20000 in
theorem gX9_read_X9_many : GoodIn wsX9_read (va_wsS RX9 77 yX9_many wsX9_many) := goodIn_app (goodIn_of _ (by decide +kernel)) ggX9_read_X9_many
theorem dX9_read_0 : decode cX9_read 0 = .ok (.aload_n 0, 1) := by decide +kernel
theorem dX9_read_1 : decode cX9_read 1 = .ok (.aload_n 0, 1) := by decide +kernel
theorem dX9_read_2 : decode cX9_read 2 = .ok (.invokevirtual 213, 3) := by decide +kernel
theorem dX9_read_5 : decode cX9_read 5 = .ok (.putfield 52, 3) := by decide +kernel
theorem dX9_read_8 : decode cX9_read 8 = .ok (.aload_n 0, 1) := by decide +kernel
theorem dX9_read_9 : decode cX9_read 9 = .ok (.iconst 0, 1) := by decide +kernel
theorem dX9_read_10 : decode cX9_read 10 = .ok (.putfield 198, 3) := by decide +kernel
theorem dX9_read_13 : decode cX9_read 13 = .ok (.aload_n 0, 1) := by decide +kernel
theorem dX9_read_14 : decode cX9_read 14 = .ok (.getfield 52, 3) := by decide +kernel
theorem dX9_read_17 : decode cX9_read 17 = .ok (.iconst (-1), 1) := by decide +kernel
theorem dX9_read_18 : decode cX9_read 18 = .ok (.if_icmp .eq 5, 3) := by decide +kernel
theorem dX9_read_21 : decode cX9_read 21 = .ok (.iconst (-1), 1) := by decide +kernel
theorem dX9_read_22 : decode cX9_read 22 = .ok (.ireturn, 1) := by decide +kernel
theorem dX9_read_23 : decode cX9_read 23 = .ok (.aload_n 0, 1) := by decide +kernel
theorem dX9_read_24 : decode cX9_read 24 = .ok (.aload_n 0, 1) := by decide +kernel
theorem dX9_read_25 : decode cX9_read 25 = .ok (.getfield 207, 3) := by decide +kernel
theorem dX9_read_28 : decode cX9_read 28 = .ok (.aload_n 0, 1) := by decide +kernel
theorem dX9_read_29 : decode cX9_read 29 = .ok (.getfield 210, 3) := by decide +kernel
theorem dX9_read_32 : decode cX9_read 32 = .ok (.invokevirtual 69, 3) := by decide +kernel
theorem dX9_read_35 : decode cX9_read 35 = .ok (.aload_n 0, 1) := by decide +kernel
theorem dX9_read_36 : decode cX9_read 36 = .ok (.getfield 13, 3) := by decide +kernel
theorem dX9_read_39 : decode cX9_read 39 = .ok (.invokestatic 77, 3) := by decide +kernel
theorem dX9_read_42 : decode cX9_read 42 = .ok (.ireturn, 1) := by decide +kernel
theorem dX9_fault_0 : decode cX9_fault 0 = .ok (.aload_n 0, 1) := by decide +kernel
theorem dX9_fault_1 : decode cX9_fault 1 = .ok (.getfield 52, 3) := by decide +kernel
theorem dX9_fault_4 : decode cX9_fault 4 = .ok (.ireturn, 1) := by decide +kernel
set_option maxRecDepth 20000 in
theorem ggX9_isGreatest_X9_isFace : GoodIn wsX9_isGreatest wsX9_isFace := goodIn_r _ [6, 7, 8, 9, 10, 11, 12, 13, 14, 15, 16, 17, 18, 19, 20, 21, 22, 23, 24, 25, 26, 27, 28, 29, 30, 31, 32, 33, 34] (by decide +kernel) (by decide +kernel)
set_option maxRecDepth 20000 in
theorem gX9_isGreatest_X9_isFace : GoodIn wsX9_isGreatest (wsV RX9 85 RX9 yX9_isFace wsX9_isFace) := goodIn_app (goodIn_of _ (by decide +kernel)) ggX9_isGreatest_X9_isFace
theorem dX9_isGreatest_0 : decode cX9_isGreatest 0 = .ok (.aload_n 0, 1) := by decide +kernel
theorem dX9_isGreatest_1 : decode cX9_isGreatest 1 = .ok (.iload_n 1, 1) := by decide +kernel
theorem dX9_isGreatest_2 : decode cX9_isGreatest 2 = .ok (.invokevirtual 85, 3) := by decide +kernel
theorem dX9_isGreatest_5 : decode cX9_isGreatest 5 = .ok (.ifCond .eq 7, 3) := by decide +kernel
theorem dX9_isGreatest_8 : decode cX9_isGreatest 8 = .ok (.iload_n 1, 1) := by decide +kernel
theorem dX9_isGreatest_9 : decode cX9_isGreatest 9 = .ok (.ifCond .ne 5, 3) := by decide +kernel
theorem dX9_isGreatest_12 : decode cX9_isGreatest 12 = .ok (.iconst 0, 1) := by decide +kernel
theorem dX9_isGreatest_13 : decode cX9_isGreatest 13 = .ok (.ireturn, 1) := by decide +kernel
theorem dX9_isGreatest_14 : decode cX9_isGreatest 14 = .ok (.iconst 1, 1) := by decide +kernel
theorem dX9_isGreatest_15 : decode cX9_isGreatest 15 = .ok (.istore_n 2, 1) := by decide +kernel
theorem dX9_isGreatest_16 : decode cX9_isGreatest 16 = .ok (.iconst 0, 1) := by decide +kernel
theorem dX9_isGreatest_17 : decode cX9_isGreatest 17 = .ok (.istore_n 3, 1) := by decide +kernel
theorem dX9_isGreatest_18 : decode cX9_isGreatest 18 = .ok (.iload_n 3, 1) := by decide +kernel
theorem dX9_isGreatest_19 : decode cX9_isGreatest 19 = .ok (.aload_n 0, 1) := by decide +kernel
theorem dX9_isGreatest_20 : decode cX9_isGreatest 20 = .ok (.getfield 7, 3) := by decide +kernel
theorem dX9_isGreatest_23 : decode cX9_isGreatest 23 = .ok (.if_icmp .ge 40, 3) := by decide +kernel
theorem dX9_isGreatest_26 : decode cX9_isGreatest 26 = .ok (.iload_n 2, 1) := by decide +kernel
theorem dX9_isGreatest_27 : decode cX9_isGreatest 27 = .ok (.ifCond .eq 28, 3) := by decide +kernel
theorem dX9_isGreatest_30 : decode cX9_isGreatest 30 = .ok (.iload_n 1, 1) := by decide +kernel
theorem dX9_isGreatest_31 : decode cX9_isGreatest 31 = .ok (.iload_n 3, 1) := by decide +kernel
theorem dX9_isGreatest_32 : decode cX9_isGreatest 32 = .ok (.ishr, 1) := by decide +kernel
theorem dX9_isGreatest_33 : decode cX9_isGreatest 33 = .ok (.iconst 1, 1) := by decide +kernel
theorem dX9_isGreatest_34 : decode cX9_isGreatest 34 = .ok (.iand, 1) := by decide +kernel
theorem dX9_isGreatest_35 : decode cX9_isGreatest 35 = .ok (.iconst 1, 1) := by decide +kernel
theorem dX9_isGreatest_36 : decode cX9_isGreatest 36 = .ok (.if_icmp .eq 15, 3) := by decide +kernel
theorem dX9_isGreatest_39 : decode cX9_isGreatest 39 = .ok (.aload_n 0, 1) := by decide +kernel
theorem dX9_isGreatest_40 : decode cX9_isGreatest 40 = .ok (.iload_n 1, 1) := by decide +kernel
theorem dX9_isGreatest_41 : decode cX9_isGreatest 41 = .ok (.iconst 1, 1) := by decide +kernel
theorem dX9_isGreatest_42 : decode cX9_isGreatest 42 = .ok (.iload_n 3, 1) := by decide +kernel
theorem dX9_isGreatest_43 : decode cX9_isGreatest 43 = .ok (.ishl, 1) := by decide +kernel
theorem dX9_isGreatest_44 : decode cX9_isGreatest 44 = .ok (.ior, 1) := by decide +kernel
theorem dX9_isGreatest_45 : decode cX9_isGreatest 45 = .ok (.invokevirtual 85, 3) := by decide +kernel
theorem dX9_isGreatest_48 : decode cX9_isGreatest 48 = .ok (.ifCond .ne 7, 3) := by decide +kernel
theorem dX9_isGreatest_51 : decode cX9_isGreatest 51 = .ok (.iconst 1, 1) := by decide +kernel
theorem dX9_isGreatest_52 : decode cX9_isGreatest 52 = .ok (.goto 4, 3) := by decide +kernel
theorem dX9_isGreatest_55 : decode cX9_isGreatest 55 = .ok (.iconst 0, 1) := by decide +kernel
theorem dX9_isGreatest_56 : decode cX9_isGreatest 56 = .ok (.istore_n 2, 1) := by decide +kernel
theorem dX9_isGreatest_57 : decode cX9_isGreatest 57 = .ok (.iinc 3 1, 3) := by decide +kernel
theorem dX9_isGreatest_60 : decode cX9_isGreatest 60 = .ok (.goto (-42), 3) := by decide +kernel
theorem dX9_isGreatest_63 : decode cX9_isGreatest 63 = .ok (.iload_n 2, 1) := by decide +kernel
theorem dX9_isGreatest_64 : decode cX9_isGreatest 64 = .ok (.ireturn, 1) := by decide +kernel
theorem dX9_puts_0 : decode cX9_puts 0 = .ok (.aload_n 0, 1) := by decide +kernel
theorem dX9_puts_1 : decode cX9_puts 1 = .ok (.getfield 49, 3) := by decide +kernel
theorem dX9_puts_4 : decode cX9_puts 4 = .ok (.aload_n 0, 1) := by decide +kernel
theorem dX9_puts_5 : decode cX9_puts 5 = .ok (.getfield 216, 3) := by decide +kernel
theorem dX9_puts_8 : decode cX9_puts 8 = .ok (.iload_n 1, 1) := by decide +kernel
theorem dX9_puts_9 : decode cX9_puts 9 = .ok (.iastore, 1) := by decide +kernel
theorem dX9_puts_10 : decode cX9_puts 10 = .ok (.aload_n 0, 1) := by decide +kernel
theorem dX9_puts_11 : decode cX9_puts 11 = .ok (.dup, 1) := by decide +kernel
theorem dX9_puts_12 : decode cX9_puts 12 = .ok (.getfield 216, 3) := by decide +kernel
theorem dX9_puts_15 : decode cX9_puts 15 = .ok (.iconst 1, 1) := by decide +kernel
theorem dX9_puts_16 : decode cX9_puts 16 = .ok (.iadd, 1) := by decide +kernel
theorem dX9_puts_17 : decode cX9_puts 17 = .ok (.putfield 216, 3) := by decide +kernel
theorem dX9_puts_20 : decode cX9_puts 20 = .ok (.return_, 1) := by decide +kernel
set_option maxRecDepth 20000 in
theorem ggX9_write_X9_puts : GoodIn wsX9_write wsX9_puts := goodIn_r _ [7, 8, 1, 22, 23, 24, 25, 26, 27, 28, 29, 30, 31, 32, 33, 34, 35, 36, 37, 38, 39, 40, 41, 42, 43, 44, 45, 46, 47, 48] (by decide +kernel) (by decide +kernel)
set_option maxRecDepth 20000 in
theorem gX9_write_X9_puts : GoodIn wsX9_write (wsV RX9 219 RX9 yX9_puts wsX9_puts) := goodIn_app (goodIn_of _ (by decide +kernel)) ggX9_write_X9_puts
set_option maxRecDepth 20000 in
theorem ggX9_write_X9_all : GoodIn wsX9_write wsX9_all := goodIn_r _ [12, 2, 22, 23, 24, 25, 26, 27, 28, 29, 30, 31, 32, 33, 34, 35, 36, 37, 38, 39, 40, 41, 42, 43, 44, 45, 46, 47, 48] (by decide +kernel) (by decide +kernel)
set_option maxRecDepth 20000 in
theorem gX9_write_X9_all : GoodIn wsX9_write (wsV RX9 55 RX9 yX9_all wsX9_all) := goodIn_app (goodIn_of _ (by decide +kernel)) ggX9_write_X9_all
set_option maxRecDepth 20000 in
theorem ggX9_write_X9_isGreatest : GoodIn wsX9_write wsX9_isGreatest := goodIn_r _ [16, 2, 17, 18, 19, 6, 20, 21, 22, 23, 24, 25, 26, 27, 28, 29, 30, 31, 32, 33, 34, 35, 36, 37, 38, 39, 40, 41, 42, 43, 44, 45, 46, 47, 48] (by decide +kernel) (by decide +kernel)
set_option maxRecDepth 20000 in
theorem gX9_write_X9_isGreatest : GoodIn wsX9_write (wsV RX9 223 RX9 yX9_isGreatest wsX9_isGreatest) := goodIn_app (goodIn_of _ (by decide +kernel)) ggX9_write_X9_isGreatest
theorem dX9_write_0 : decode cX9_write 0 = .ok (.aload_n 0, 1) := by decide +kernel
theorem dX9_write_1 : decode cX9_write 1 = .ok (.iconst 0, 1) := by decide +kernel
theorem dX9_write_2 : decode cX9_write 2 = .ok (.putfield 216, 3) := by decide +kernel
theorem dX9_write_5 : decode cX9_write 5 = .ok (.aload_n 0, 1) := by decide +kernel
theorem dX9_write_6 : decode cX9_write 6 = .ok (.bipush 48, 2) := by decide +kernel
theorem dX9_write_8 : decode cX9_write 8 = .ok (.aload_n 0, 1) := by decide +kernel
theorem dX9_write_9 : decode cX9_write 9 = .ok (.getfield 7, 3) := by decide +kernel
theorem dX9_write_12 : decode cX9_write 12 = .ok (.iadd, 1) := by decide +kernel
theorem dX9_write_13 : decode cX9_write 13 = .ok (.invokevirtual 219, 3) := by decide +kernel
theorem dX9_write_16 : decode cX9_write 16 = .ok (.aload_n 0, 1) := by decide +kernel
theorem dX9_write_17 : decode cX9_write 17 = .ok (.bipush 58, 2) := by decide +kernel
theorem dX9_write_19 : decode cX9_write 19 = .ok (.invokevirtual 219, 3) := by decide +kernel
theorem dX9_write_22 : decode cX9_write 22 = .ok (.iconst 1, 1) := by decide +kernel
theorem dX9_write_23 : decode cX9_write 23 = .ok (.istore_n 1, 1) := by decide +kernel
theorem dX9_write_24 : decode cX9_write 24 = .ok (.iload_n 1, 1) := by decide +kernel
theorem dX9_write_25 : decode cX9_write 25 = .ok (.aload_n 0, 1) := by decide +kernel
theorem dX9_write_26 : decode cX9_write 26 = .ok (.invokevirtual 55, 3) := by decide +kernel
theorem dX9_write_29 : decode cX9_write 29 = .ok (.if_icmp .gt 59, 3) := by decide +kernel
theorem dX9_write_32 : decode cX9_write 32 = .ok (.aload_n 0, 1) := by decide +kernel
theorem dX9_write_33 : decode cX9_write 33 = .ok (.iload_n 1, 1) := by decide +kernel
theorem dX9_write_34 : decode cX9_write 34 = .ok (.invokevirtual 223, 3) := by decide +kernel
theorem dX9_write_37 : decode cX9_write 37 = .ok (.ifCond .ne 6, 3) := by decide +kernel
theorem dX9_write_40 : decode cX9_write 40 = .ok (.goto 42, 3) := by decide +kernel
theorem dX9_write_43 : decode cX9_write 43 = .ok (.aload_n 0, 1) := by decide +kernel
theorem dX9_write_44 : decode cX9_write 44 = .ok (.bipush 32, 2) := by decide +kernel
theorem dX9_write_46 : decode cX9_write 46 = .ok (.invokevirtual 219, 3) := by decide +kernel
theorem dX9_write_49 : decode cX9_write 49 = .ok (.iconst 0, 1) := by decide +kernel
theorem dX9_write_50 : decode cX9_write 50 = .ok (.istore_n 2, 1) := by decide +kernel
theorem dX9_write_51 : decode cX9_write 51 = .ok (.iload_n 2, 1) := by decide +kernel
theorem dX9_write_52 : decode cX9_write 52 = .ok (.aload_n 0, 1) := by decide +kernel
theorem dX9_write_53 : decode cX9_write 53 = .ok (.getfield 7, 3) := by decide +kernel
theorem dX9_write_56 : decode cX9_write 56 = .ok (.if_icmp .ge 26, 3) := by decide +kernel
theorem dX9_write_59 : decode cX9_write 59 = .ok (.iload_n 1, 1) := by decide +kernel
theorem dX9_write_60 : decode cX9_write 60 = .ok (.iload_n 2, 1) := by decide +kernel
theorem dX9_write_61 : decode cX9_write 61 = .ok (.ishr, 1) := by decide +kernel
theorem dX9_write_62 : decode cX9_write 62 = .ok (.iconst 1, 1) := by decide +kernel
theorem dX9_write_63 : decode cX9_write 63 = .ok (.iand, 1) := by decide +kernel
theorem dX9_write_64 : decode cX9_write 64 = .ok (.iconst 1, 1) := by decide +kernel
theorem dX9_write_65 : decode cX9_write 65 = .ok (.if_icmp .ne 11, 3) := by decide +kernel
theorem dX9_write_68 : decode cX9_write 68 = .ok (.aload_n 0, 1) := by decide +kernel
theorem dX9_write_69 : decode cX9_write 69 = .ok (.bipush 48, 2) := by decide +kernel
theorem dX9_write_71 : decode cX9_write 71 = .ok (.iload_n 2, 1) := by decide +kernel
theorem dX9_write_72 : decode cX9_write 72 = .ok (.iadd, 1) := by decide +kernel
theorem dX9_write_73 : decode cX9_write 73 = .ok (.invokevirtual 219, 3) := by decide +kernel
theorem dX9_write_76 : decode cX9_write 76 = .ok (.iinc 2 1, 3) := by decide +kernel
theorem dX9_write_79 : decode cX9_write 79 = .ok (.goto (-28), 3) := by decide +kernel
theorem dX9_write_82 : decode cX9_write 82 = .ok (.iinc 1 1, 3) := by decide +kernel
theorem dX9_write_85 : decode cX9_write 85 = .ok (.goto (-61), 3) := by decide +kernel
theorem dX9_write_88 : decode cX9_write 88 = .ok (.aload_n 0, 1) := by decide +kernel
theorem dX9_write_89 : decode cX9_write 89 = .ok (.getfield 216, 3) := by decide +kernel
theorem dX9_write_92 : decode cX9_write 92 = .ok (.ireturn, 1) := by decide +kernel
set_option maxRecDepth 20000 in
theorem ggX9_out_X9_isIn : GoodIn wsX9_out wsX9_isIn := goodIn_r _ [6] (by decide +kernel) (by decide +kernel)
set_option maxRecDepth 20000 in
theorem gX9_out_X9_isIn : GoodIn wsX9_out (va_wsS RX9 59 yX9_isIn wsX9_isIn) := goodIn_app (goodIn_of _ (by decide +kernel)) ggX9_out_X9_isIn
theorem dX9_out_0 : decode cX9_out 0 = .ok (.iload_n 1, 1) := by decide +kernel
theorem dX9_out_1 : decode cX9_out 1 = .ok (.iconst 0, 1) := by decide +kernel
theorem dX9_out_2 : decode cX9_out 2 = .ok (.aload_n 0, 1) := by decide +kernel
theorem dX9_out_3 : decode cX9_out 3 = .ok (.getfield 216, 3) := by decide +kernel
theorem dX9_out_6 : decode cX9_out 6 = .ok (.iconst 1, 1) := by decide +kernel
theorem dX9_out_7 : decode cX9_out 7 = .ok (.isub, 1) := by decide +kernel
theorem dX9_out_8 : decode cX9_out 8 = .ok (.invokestatic 59, 3) := by decide +kernel
theorem dX9_out_11 : decode cX9_out 11 = .ok (.ifCond .eq 12, 3) := by decide +kernel
theorem dX9_out_14 : decode cX9_out 14 = .ok (.aload_n 0, 1) := by decide +kernel
theorem dX9_out_15 : decode cX9_out 15 = .ok (.getfield 49, 3) := by decide +kernel
theorem dX9_out_18 : decode cX9_out 18 = .ok (.iload_n 1, 1) := by decide +kernel
theorem dX9_out_19 : decode cX9_out 19 = .ok (.iaload, 1) := by decide +kernel
theorem dX9_out_20 : decode cX9_out 20 = .ok (.goto 4, 3) := by decide +kernel
theorem dX9_out_23 : decode cX9_out 23 = .ok (.iconst (-1), 1) := by decide +kernel
theorem dX9_out_24 : decode cX9_out 24 = .ok (.ireturn, 1) := by decide +kernel
theorem dX9_take_0 : decode cX9_take 0 = .ok (.aload_n 0, 1) := by decide +kernel
theorem dX9_take_1 : decode cX9_take 1 = .ok (.aload_n 0, 1) := by decide +kernel
theorem dX9_take_2 : decode cX9_take 2 = .ok (.getfield 216, 3) := by decide +kernel
theorem dX9_take_5 : decode cX9_take 5 = .ok (.putfield 198, 3) := by decide +kernel
theorem dX9_take_8 : decode cX9_take 8 = .ok (.iconst 0, 1) := by decide +kernel
theorem dX9_take_9 : decode cX9_take 9 = .ok (.istore_n 1, 1) := by decide +kernel
theorem dX9_take_10 : decode cX9_take 10 = .ok (.iload_n 1, 1) := by decide +kernel
theorem dX9_take_11 : decode cX9_take 11 = .ok (.aload_n 0, 1) := by decide +kernel
theorem dX9_take_12 : decode cX9_take 12 = .ok (.getfield 216, 3) := by decide +kernel
theorem dX9_take_15 : decode cX9_take 15 = .ok (.if_icmp .ge 21, 3) := by decide +kernel
theorem dX9_take_18 : decode cX9_take 18 = .ok (.aload_n 0, 1) := by decide +kernel
theorem dX9_take_19 : decode cX9_take 19 = .ok (.getfield 46, 3) := by decide +kernel
theorem dX9_take_22 : decode cX9_take 22 = .ok (.iload_n 1, 1) := by decide +kernel
theorem dX9_take_23 : decode cX9_take 23 = .ok (.aload_n 0, 1) := by decide +kernel
theorem dX9_take_24 : decode cX9_take 24 = .ok (.getfield 49, 3) := by decide +kernel
theorem dX9_take_27 : decode cX9_take 27 = .ok (.iload_n 1, 1) := by decide +kernel
theorem dX9_take_28 : decode cX9_take 28 = .ok (.iaload, 1) := by decide +kernel
theorem dX9_take_29 : decode cX9_take 29 = .ok (.iastore, 1) := by decide +kernel
theorem dX9_take_30 : decode cX9_take 30 = .ok (.iinc 1 1, 3) := by decide +kernel
theorem dX9_take_33 : decode cX9_take 33 = .ok (.goto (-23), 3) := by decide +kernel
theorem dX9_take_36 : decode cX9_take 36 = .ok (.aload_n 0, 1) := by decide +kernel
theorem dX9_take_37 : decode cX9_take 37 = .ok (.getfield 216, 3) := by decide +kernel
theorem dX9_take_40 : decode cX9_take 40 = .ok (.ireturn, 1) := by decide +kernel
end
section
theorem dJ6_bitCount_0f7a4_0 : decode cJ6_bitCount_0f7a4 0 = .ok (.iload_n 0, 1) := by decide +kernel
theorem dJ6_bitCount_0f7a4_1 : decode cJ6_bitCount_0f7a4 1 = .ok (.iload_n 0, 1) := by decide +kernel
theorem dJ6_bitCount_0f7a4_2 : decode cJ6_bitCount_0f7a4 2 = .ok (.iconst 1, 1) := by decide +kernel
theorem dJ6_bitCount_0f7a4_3 : decode cJ6_bitCount_0f7a4 3 = .ok (.iushr, 1) := by decide +kernel
theorem dJ6_bitCount_0f7a4_4 : decode cJ6_bitCount_0f7a4 4 = .ok (.ldc_w 265, 3) := by decide +kernel
theorem dJ6_bitCount_0f7a4_7 : decode cJ6_bitCount_0f7a4 7 = .ok (.iand, 1) := by decide +kernel
theorem dJ6_bitCount_0f7a4_8 : decode cJ6_bitCount_0f7a4 8 = .ok (.isub, 1) := by decide +kernel
theorem dJ6_bitCount_0f7a4_9 : decode cJ6_bitCount_0f7a4 9 = .ok (.istore_n 0, 1) := by decide +kernel
theorem dJ6_bitCount_0f7a4_10 : decode cJ6_bitCount_0f7a4 10 = .ok (.iload_n 0, 1) := by decide +kernel
theorem dJ6_bitCount_0f7a4_11 : decode cJ6_bitCount_0f7a4 11 = .ok (.ldc_w 266, 3) := by decide +kernel
theorem dJ6_bitCount_0f7a4_14 : decode cJ6_bitCount_0f7a4 14 = .ok (.iand, 1) := by decide +kernel
theorem dJ6_bitCount_0f7a4_15 : decode cJ6_bitCount_0f7a4 15 = .ok (.iload_n 0, 1) := by decide +kernel
theorem dJ6_bitCount_0f7a4_16 : decode cJ6_bitCount_0f7a4 16 = .ok (.iconst 2, 1) := by decide +kernel
theorem dJ6_bitCount_0f7a4_17 : decode cJ6_bitCount_0f7a4 17 = .ok (.iushr, 1) := by decide +kernel
theorem dJ6_bitCount_0f7a4_18 : decode cJ6_bitCount_0f7a4 18 = .ok (.ldc_w 266, 3) := by decide +kernel
theorem dJ6_bitCount_0f7a4_21 : decode cJ6_bitCount_0f7a4 21 = .ok (.iand, 1) := by decide +kernel
theorem dJ6_bitCount_0f7a4_22 : decode cJ6_bitCount_0f7a4 22 = .ok (.iadd, 1) := by decide +kernel
theorem dJ6_bitCount_0f7a4_23 : decode cJ6_bitCount_0f7a4 23 = .ok (.istore_n 0, 1) := by decide +kernel
theorem dJ6_bitCount_0f7a4_24 : decode cJ6_bitCount_0f7a4 24 = .ok (.iload_n 0, 1) := by decide +kernel
theorem dJ6_bitCount_0f7a4_25 : decode cJ6_bitCount_0f7a4 25 = .ok (.iload_n 0, 1) := by decide +kernel
theorem dJ6_bitCount_0f7a4_26 : decode cJ6_bitCount_0f7a4 26 = .ok (.iconst 4, 1) := by decide +kernel
theorem dJ6_bitCount_0f7a4_27 : decode cJ6_bitCount_0f7a4 27 = .ok (.iushr, 1) := by decide +kernel
theorem dJ6_bitCount_0f7a4_28 : decode cJ6_bitCount_0f7a4 28 = .ok (.iadd, 1) := by decide +kernel
theorem dJ6_bitCount_0f7a4_29 : decode cJ6_bitCount_0f7a4 29 = .ok (.ldc_w 267, 3) := by decide +kernel
theorem dJ6_bitCount_0f7a4_32 : decode cJ6_bitCount_0f7a4 32 = .ok (.iand, 1) := by decide +kernel
theorem dJ6_bitCount_0f7a4_33 : decode cJ6_bitCount_0f7a4 33 = .ok (.istore_n 0, 1) := by decide +kernel
theorem dJ6_bitCount_0f7a4_34 : decode cJ6_bitCount_0f7a4 34 = .ok (.iload_n 0, 1) := by decide +kernel
theorem dJ6_bitCount_0f7a4_35 : decode cJ6_bitCount_0f7a4 35 = .ok (.iload_n 0, 1) := by decide +kernel
theorem dJ6_bitCount_0f7a4_36 : decode cJ6_bitCount_0f7a4 36 = .ok (.bipush 8, 2) := by decide +kernel
theorem dJ6_bitCount_0f7a4_38 : decode cJ6_bitCount_0f7a4 38 = .ok (.iushr, 1) := by decide +kernel
theorem dJ6_bitCount_0f7a4_39 : decode cJ6_bitCount_0f7a4 39 = .ok (.iadd, 1) := by decide +kernel
theorem dJ6_bitCount_0f7a4_40 : decode cJ6_bitCount_0f7a4 40 = .ok (.istore_n 0, 1) := by decide +kernel
theorem dJ6_bitCount_0f7a4_41 : decode cJ6_bitCount_0f7a4 41 = .ok (.iload_n 0, 1) := by decide +kernel
theorem dJ6_bitCount_0f7a4_42 : decode cJ6_bitCount_0f7a4 42 = .ok (.iload_n 0, 1) := by decide +kernel
theorem dJ6_bitCount_0f7a4_43 : decode cJ6_bitCount_0f7a4 43 = .ok (.bipush 16, 2) := by decide +kernel
theorem dJ6_bitCount_0f7a4_45 : decode cJ6_bitCount_0f7a4 45 = .ok (.iushr, 1) := by decide +kernel
theorem dJ6_bitCount_0f7a4_46 : decode cJ6_bitCount_0f7a4 46 = .ok (.iadd, 1) := by decide +kernel
theorem dJ6_bitCount_0f7a4_47 : decode cJ6_bitCount_0f7a4 47 = .ok (.istore_n 0, 1) := by decide +kernel
theorem dJ6_bitCount_0f7a4_48 : decode cJ6_bitCount_0f7a4 48 = .ok (.iload_n 0, 1) := by decide +kernel
theorem dJ6_bitCount_0f7a4_49 : decode cJ6_bitCount_0f7a4 49 = .ok (.bipush 63, 2) := by decide +kernel
theorem dJ6_bitCount_0f7a4_51 : decode cJ6_bitCount_0f7a4 51 = .ok (.iand, 1) := by decide +kernel
theorem dJ6_bitCount_0f7a4_52 : decode cJ6_bitCount_0f7a4 52 = .ok (.ireturn, 1) := by decide +kernel
theorem dJ13_bitCount_95d88_0 : decode cJ13_bitCount_95d88 0 = .ok (.lload_n 0, 1) := by decide +kernel
theorem dJ13_bitCount_95d88_1 : decode cJ13_bitCount_95d88 1 = .ok (.lload_n 0, 1) := by decide +kernel
theorem dJ13_bitCount_95d88_2 : decode cJ13_bitCount_95d88 2 = .ok (.iconst 1, 1) := by decide +kernel
theorem dJ13_bitCount_95d88_3 : decode cJ13_bitCount_95d88 3 = .ok (.lushr, 1) := by decide +kernel
theorem dJ13_bitCount_95d88_4 : decode cJ13_bitCount_95d88 4 = .ok (.ldc2_w 314, 3) := by decide +kernel
theorem dJ13_bitCount_95d88_7 : decode cJ13_bitCount_95d88 7 = .ok (.land, 1) := by decide +kernel
theorem dJ13_bitCount_95d88_8 : decode cJ13_bitCount_95d88 8 = .ok (.lsub, 1) := by decide +kernel
theorem dJ13_bitCount_95d88_9 : decode cJ13_bitCount_95d88 9 = .ok (.lstore_n 0, 1) := by decide +kernel
theorem dJ13_bitCount_95d88_10 : decode cJ13_bitCount_95d88 10 = .ok (.lload_n 0, 1) := by decide +kernel
theorem dJ13_bitCount_95d88_11 : decode cJ13_bitCount_95d88 11 = .ok (.ldc2_w 316, 3) := by decide +kernel
theorem dJ13_bitCount_95d88_14 : decode cJ13_bitCount_95d88 14 = .ok (.land, 1) := by decide +kernel
theorem dJ13_bitCount_95d88_15 : decode cJ13_bitCount_95d88 15 = .ok (.lload_n 0, 1) := by decide +kernel
theorem dJ13_bitCount_95d88_16 : decode cJ13_bitCount_95d88 16 = .ok (.iconst 2, 1) := by decide +kernel
theorem dJ13_bitCount_95d88_17 : decode cJ13_bitCount_95d88 17 = .ok (.lushr, 1) := by decide +kernel
theorem dJ13_bitCount_95d88_18 : decode cJ13_bitCount_95d88 18 = .ok (.ldc2_w 316, 3) := by decide +kernel
theorem dJ13_bitCount_95d88_21 : decode cJ13_bitCount_95d88 21 = .ok (.land, 1) := by decide +kernel
theorem dJ13_bitCount_95d88_22 : decode cJ13_bitCount_95d88 22 = .ok (.ladd, 1) := by decide +kernel
theorem dJ13_bitCount_95d88_23 : decode cJ13_bitCount_95d88 23 = .ok (.lstore_n 0, 1) := by decide +kernel
theorem dJ13_bitCount_95d88_24 : decode cJ13_bitCount_95d88 24 = .ok (.lload_n 0, 1) := by decide +kernel
theorem dJ13_bitCount_95d88_25 : decode cJ13_bitCount_95d88 25 = .ok (.lload_n 0, 1) := by decide +kernel
theorem dJ13_bitCount_95d88_26 : decode cJ13_bitCount_95d88 26 = .ok (.iconst 4, 1) := by decide +kernel
theorem dJ13_bitCount_95d88_27 : decode cJ13_bitCount_95d88 27 = .ok (.lushr, 1) := by decide +kernel
theorem dJ13_bitCount_95d88_28 : decode cJ13_bitCount_95d88 28 = .ok (.ladd, 1) := by decide +kernel
theorem dJ13_bitCount_95d88_29 : decode cJ13_bitCount_95d88 29 = .ok (.ldc2_w 318, 3) := by decide +kernel
theorem dJ13_bitCount_95d88_32 : decode cJ13_bitCount_95d88 32 = .ok (.land, 1) := by decide +kernel
theorem dJ13_bitCount_95d88_33 : decode cJ13_bitCount_95d88 33 = .ok (.lstore_n 0, 1) := by decide +kernel
theorem dJ13_bitCount_95d88_34 : decode cJ13_bitCount_95d88 34 = .ok (.lload_n 0, 1) := by decide +kernel
theorem dJ13_bitCount_95d88_35 : decode cJ13_bitCount_95d88 35 = .ok (.lload_n 0, 1) := by decide +kernel
theorem dJ13_bitCount_95d88_36 : decode cJ13_bitCount_95d88 36 = .ok (.bipush 8, 2) := by decide +kernel
theorem dJ13_bitCount_95d88_38 : decode cJ13_bitCount_95d88 38 = .ok (.lushr, 1) := by decide +kernel
theorem dJ13_bitCount_95d88_39 : decode cJ13_bitCount_95d88 39 = .ok (.ladd, 1) := by decide +kernel
theorem dJ13_bitCount_95d88_40 : decode cJ13_bitCount_95d88 40 = .ok (.lstore_n 0, 1) := by decide +kernel
theorem dJ13_bitCount_95d88_41 : decode cJ13_bitCount_95d88 41 = .ok (.lload_n 0, 1) := by decide +kernel
theorem dJ13_bitCount_95d88_42 : decode cJ13_bitCount_95d88 42 = .ok (.lload_n 0, 1) := by decide +kernel
theorem dJ13_bitCount_95d88_43 : decode cJ13_bitCount_95d88 43 = .ok (.bipush 16, 2) := by decide +kernel
theorem dJ13_bitCount_95d88_45 : decode cJ13_bitCount_95d88 45 = .ok (.lushr, 1) := by decide +kernel
theorem dJ13_bitCount_95d88_46 : decode cJ13_bitCount_95d88 46 = .ok (.ladd, 1) := by decide +kernel
theorem dJ13_bitCount_95d88_47 : decode cJ13_bitCount_95d88 47 = .ok (.lstore_n 0, 1) := by decide +kernel
theorem dJ13_bitCount_95d88_48 : decode cJ13_bitCount_95d88 48 = .ok (.lload_n 0, 1) := by decide +kernel
theorem dJ13_bitCount_95d88_49 : decode cJ13_bitCount_95d88 49 = .ok (.lload_n 0, 1) := by decide +kernel
theorem dJ13_bitCount_95d88_50 : decode cJ13_bitCount_95d88 50 = .ok (.bipush 32, 2) := by decide +kernel
theorem dJ13_bitCount_95d88_52 : decode cJ13_bitCount_95d88 52 = .ok (.lushr, 1) := by decide +kernel
theorem dJ13_bitCount_95d88_53 : decode cJ13_bitCount_95d88 53 = .ok (.ladd, 1) := by decide +kernel
theorem dJ13_bitCount_95d88_54 : decode cJ13_bitCount_95d88 54 = .ok (.lstore_n 0, 1) := by decide +kernel
theorem dJ13_bitCount_95d88_55 : decode cJ13_bitCount_95d88 55 = .ok (.lload_n 0, 1) := by decide +kernel
theorem dJ13_bitCount_95d88_56 : decode cJ13_bitCount_95d88 56 = .ok (.l2i, 1) := by decide +kernel
theorem dJ13_bitCount_95d88_57 : decode cJ13_bitCount_95d88 57 = .ok (.bipush 127, 2) := by decide +kernel
theorem dJ13_bitCount_95d88_59 : decode cJ13_bitCount_95d88 59 = .ok (.iand, 1) := by decide +kernel
theorem dJ13_bitCount_95d88_60 : decode cJ13_bitCount_95d88 60 = .ok (.ireturn, 1) := by decide +kernel
set_option maxRecDepth 20000 in
theorem ggL_law_X8_init : GoodIn wsL_law wsX8_init := goodIn_r _ [8, 9, 10, 11, 12, 13, 14, 15, 16, 17, 18, 19, 20, 21, 22, 23, 24, 25, 26, 27, 28, 29, 30, 31, 32, 33, 34, 35, 36, 37, 38, 39, 40, 41, 42, 43, 44, 45, 46, 47, 48, 49, 50, 51, 52, 53, 54, 55, 56, 57, 58, 59, 60, 61, 62, 63, 64, 65, 66, 67, 68, 69, 70, 71, 72, 73, 74, 75, 76, 77, 78, 79, 80, 81, 82, 83, 84, 85, 86, 87, 88, 89, 90, 758, 759, 760, 721, 722, 723, 724, 725, 726, 727, 728, 729, 730, 761, 762, 763, 764, 765, 766, 767, 768, 769, 770, 771, 772, 773, 774, 775, 776, 777, 778, 779, 780, 781, 782, 783, 784, 785, 786, 787] (by decide +kernel) (by decide +kernel)
set_option maxRecDepth 20000 in
theorem gL_law_X8_init : GoodIn wsL_law (wsX8_init) := ggL_law_X8_init
set_option maxRecDepth 20000 in
theorem ggL_law_X9_init : GoodIn wsL_law wsX9_init := goodIn_r _ [93, 94, 10, 11, 95, 96, 44, 97, 46, 98, 99, 100, 101, 102, 103, 104, 105, 106, 107, 108, 731, 732, 733, 734, 735, 736, 737, 738, 739, 740, 741, 742, 743, 744, 745, 746, 747, 748, 749, 750, 751, 752, 753, 754, 755, 756, 757] (by decide +kernel) (by decide +kernel)
set_option maxRecDepth 20000 in
theorem gL_law_X9_init : GoodIn wsL_law (wsX9_init) := ggL_law_X9_init
set_option maxRecDepth 20000 in
theorem ggL_law_X8_points : GoodIn wsL_law wsX8_points := goodIn_r _ [112, 113, 114, 115, 2, 116, 15, 37, 38, 117, 118, 119, 14, 120, 121, 45, 122, 123, 124, 125, 47, 721, 722, 723, 724, 725, 726, 727, 728, 729, 730, 758, 759, 760] (by decide +kernel) (by decide +kernel)
set_option maxRecDepth 20000 in
theorem gL_law_X8_points : GoodIn wsL_law (wsV RL 13 RX8 yX8_points wsX8_points) := goodIn_app (goodIn_of _ (by decide +kernel)) ggL_law_X8_points
set_option maxRecDepth 20000 in
theorem ggL_law_X9_points : GoodIn wsL_law wsX9_points := goodIn_r _ [129, 130, 131, 5, 132, 133, 134, 135, 136, 95, 96, 137, 138, 139, 140, 141, 97, 98, 731, 732, 733, 734, 735, 736, 737, 738, 739, 740, 741, 742, 743, 744, 745, 746, 747, 748, 749, 750, 751, 752, 753, 754, 755, 756, 757] (by decide +kernel) (by decide +kernel)
set_option maxRecDepth 20000 in
theorem gL_law_X9_points : GoodIn wsL_law (wsV RL 17 RX9 yX9_points wsX9_points) := goodIn_app (goodIn_of _ (by decide +kernel)) ggL_law_X9_points
set_option maxRecDepth 20000 in
theorem ggL_law_X8_face : GoodIn wsL_law wsX8_face := goodIn_r _ [145, 38, 37, 146, 147, 148, 2, 149, 150, 151, 152, 153, 154, 155, 156, 157, 158, 159, 160, 161, 162, 163, 164, 165, 166, 167, 113, 114, 115, 116, 15, 117, 118, 119, 14, 120, 121, 45, 122, 123, 124, 125, 47, 721, 722, 723, 724, 725, 726, 727, 728, 729, 730, 758, 759, 760] (by decide +kernel) (by decide +kernel)
set_option maxRecDepth 20000 in
theorem gL_law_X8_face : GoodIn wsL_law (wsV RL 18 RX8 yX8_face wsX8_face) := goodIn_app (goodIn_of _ (by decide +kernel)) ggL_law_X8_face
set_option maxRecDepth 20000 in
theorem ggL_law_X9_face : GoodIn wsL_law wsX9_face := goodIn_r _ [171, 96, 95, 172, 173, 174, 5, 175, 176, 177, 178, 179, 130, 131, 132, 180, 181, 182, 183, 184, 185, 133, 134, 135, 136, 137, 138, 139, 140, 141, 97, 98, 731, 732, 733, 734, 735, 736, 737, 738, 739, 740, 741, 742, 743, 744, 745, 746, 747, 748, 749, 750, 751, 752, 753, 754, 755, 756, 757] (by decide +kernel) (by decide +kernel)
set_option maxRecDepth 20000 in
theorem gL_law_X9_face : GoodIn wsL_law (wsV RL 22 RX9 yX9_face wsX9_face) := goodIn_app (goodIn_of _ (by decide +kernel)) ggL_law_X9_face
set_option maxRecDepth 20000 in
theorem ggL_law_X8_cut : GoodIn wsL_law wsX8_cut := goodIn_r _ [189, 38, 37, 190, 191, 192, 193, 2, 194, 146, 147, 148, 149, 150, 151, 152, 153, 195, 196, 163, 197, 154, 155, 156, 157, 158, 159, 160, 198, 199, 200, 201, 162, 164, 165, 166, 167, 113, 114, 115, 116, 15, 117, 118, 119, 14, 120, 121, 45, 122, 123, 124, 125, 47, 721, 722, 723, 724, 725, 726, 727, 728, 729, 730, 758, 759, 760] (by decide +kernel) (by decide +kernel)
set_option maxRecDepth 20000 in
theorem gL_law_X8_cut : GoodIn wsL_law (wsV RL 23 RX8 yX8_cut wsX8_cut) := goodIn_app (goodIn_of _ (by decide +kernel)) ggL_law_X8_cut
set_option maxRecDepth 20000 in
theorem ggL_law_X9_cut : GoodIn wsL_law wsX9_cut := goodIn_r _ [205, 96, 206, 95, 172, 173, 174, 5, 175, 176, 177, 178, 179, 130, 131, 132, 207, 208, 209, 210, 180, 181, 182, 133, 134, 135, 136, 137, 138, 139, 140, 141, 97, 98, 731, 732, 733, 734, 735, 736, 737, 738, 739, 740, 741, 742, 743, 744, 745, 746, 747, 748, 749, 750, 751, 752, 753, 754, 755, 756, 757] (by decide +kernel) (by decide +kernel)
set_option maxRecDepth 20000 in
theorem gL_law_X9_cut : GoodIn wsL_law (wsV RL 26 RX9 yX9_cut wsX9_cut) := goodIn_app (goodIn_of _ (by decide +kernel)) ggL_law_X9_cut
set_option maxRecDepth 20000 in
theorem ggL_law_X8_link : GoodIn wsL_law wsX8_link := goodIn_r _ [214, 38, 191, 192, 193, 2, 194, 146, 147, 148, 149, 150, 151, 152, 153, 37, 195, 196, 163, 197, 215, 216, 217, 218, 219, 220, 221, 222, 223, 224, 165, 166, 167, 113, 114, 115, 116, 15, 117, 118, 119, 14, 120, 121, 45, 122, 123, 124, 125, 47, 721, 722, 723, 724, 725, 726, 727, 728, 729, 730, 758, 759, 760] (by decide +kernel) (by decide +kernel)
set_option maxRecDepth 20000 in
theorem gL_law_X8_link : GoodIn wsL_law (wsV RL 27 RX8 yX8_link wsX8_link) := goodIn_app (goodIn_of _ (by decide +kernel)) ggL_law_X8_link
set_option maxRecDepth 20000 in
theorem ggL_law_X9_link : GoodIn wsL_law wsX9_link := goodIn_r _ [228, 95, 172, 173, 174, 5, 175, 176, 177, 178, 179, 130, 131, 132, 207, 208, 209, 210, 96, 229, 230, 231, 232, 233, 234, 235, 133, 134, 135, 136, 137, 138, 139, 140, 141, 97, 98, 731, 732, 733, 734, 735, 736, 737, 738, 739, 740, 741, 742, 743, 744, 745, 746, 747, 748, 749, 750, 751, 752, 753, 754, 755, 756, 757] (by decide +kernel) (by decide +kernel)
set_option maxRecDepth 20000 in
theorem gL_law_X9_link : GoodIn wsL_law (wsV RL 30 RX9 yX9_link wsX9_link) := goodIn_app (goodIn_of _ (by decide +kernel)) ggL_law_X9_link
set_option maxRecDepth 20000 in
theorem ggL_law_X8_dual : GoodIn wsL_law wsX8_dual := goodIn_r _ [239, 38, 37, 150, 151, 152, 2, 153, 195, 196, 163, 197, 113, 114, 115, 116, 15, 117, 118, 119, 14, 120, 121, 45, 122, 123, 124, 125, 47, 721, 722, 723, 724, 725, 726, 727, 728, 729, 730, 758, 759, 760] (by decide +kernel) (by decide +kernel)
set_option maxRecDepth 20000 in
theorem gL_law_X8_dual : GoodIn wsL_law (wsV RL 31 RX8 yX8_dual wsX8_dual) := goodIn_app (goodIn_of _ (by decide +kernel)) ggL_law_X8_dual
set_option maxRecDepth 20000 in
theorem ggL_law_X9_dual : GoodIn wsL_law wsX9_dual := goodIn_r _ [243, 95, 176, 177, 178, 5, 179, 207, 208, 209, 210, 96, 133, 134, 135, 136, 137, 138, 139, 140, 141, 97, 98, 731, 732, 733, 734, 735, 736, 737, 738, 739, 740, 741, 742, 743, 744, 745, 746, 747, 748, 749, 750, 751, 752, 753, 754, 755, 756, 757] (by decide +kernel) (by decide +kernel)
set_option maxRecDepth 20000 in
theorem gL_law_X9_dual : GoodIn wsL_law (wsV RL 35 RX9 yX9_dual wsX9_dual) := goodIn_app (goodIn_of _ (by decide +kernel)) ggL_law_X9_dual
set_option maxRecDepth 20000 in
theorem ggL_law_X8_undo : GoodIn wsL_law wsX8_undo := goodIn_r _ [247, 15, 37, 38, 248, 249, 250, 14, 251, 121, 252, 253, 254, 255, 45, 256, 257, 258, 259, 47, 721, 722, 723, 724, 725, 726, 727, 728, 729, 730, 758, 759, 760] (by decide +kernel) (by decide +kernel)
set_option maxRecDepth 20000 in
theorem gL_law_X8_undo : GoodIn wsL_law (wsV RL 36 RX8 yX8_undo wsX8_undo) := goodIn_app (goodIn_of _ (by decide +kernel)) ggL_law_X8_undo
set_option maxRecDepth 20000 in
theorem ggL_law_X9_undo : GoodIn wsL_law wsX9_undo := goodIn_r _ [263, 141, 97, 95, 98, 96, 731, 732, 733, 734, 735, 736, 737, 738, 739, 740, 741, 742, 743, 744, 745, 746, 747, 748, 749, 750, 751, 752, 753, 754, 755, 756, 757] (by decide +kernel) (by decide +kernel)
set_option maxRecDepth 20000 in
theorem gL_law_X9_undo : GoodIn wsL_law (wsV RL 39 RX9 yX9_undo wsX9_undo) := goodIn_app (goodIn_of _ (by decide +kernel)) ggL_law_X9_undo
set_option maxRecDepth 20000 in
theorem ggL_law_X8_look : GoodIn wsL_law wsX8_look := goodIn_r _ [267, 37, 38, 190, 32, 36, 154, 155, 156, 157, 158, 159, 160, 268, 269, 270, 2, 271, 272, 273, 163, 274, 275, 276, 277, 278, 279, 150, 151, 152, 153, 195, 196, 197, 280, 281, 282, 165, 166, 167, 283, 284, 285, 286, 287, 288, 31, 289, 290, 291, 78, 292, 293, 294, 295, 27, 296, 297, 298, 299, 162, 164, 300, 301, 302, 303, 62, 63, 304, 305, 306, 307, 67, 308, 309, 310, 311, 66, 312, 313, 314, 315, 316, 317, 318, 319, 320, 321, 73, 72, 322, 216, 217, 218, 219, 220, 221, 323, 324, 325, 326, 327, 328, 329, 330, 331, 332, 83, 333, 334, 335, 336, 337, 338, 339, 340, 341, 342, 343, 81, 82, 80, 344, 345, 346, 347, 348, 349, 350, 351, 352, 353, 354, 355, 356, 357, 358, 359, 360, 361, 362, 363, 364, 365, 366, 367, 368, 369, 370, 371, 372, 373, 374, 35, 375, 376, 377, 378, 90, 379, 380, 381, 382, 383, 384, 385, 89, 386, 387, 388, 389, 390, 391, 392, 393, 394, 395, 396, 397, 398, 399, 721, 722, 723, 724, 725, 726, 727, 728, 729, 730, 770, 771, 772, 773, 774, 775, 776, 777, 765, 766, 767, 768, 769, 783, 784, 785, 786, 787, 778, 779, 780, 781, 782] (by decide +kernel) (by decide +kernel)
set_option maxRecDepth 20000 in
theorem gL_law_X8_look : GoodIn wsL_law (wsV RL 40 RX8 yX8_look wsX8_look) := goodIn_app (goodIn_of _ (by decide +kernel)) ggL_law_X8_look
set_option maxRecDepth 20000 in
theorem ggL_law_X9_look : GoodIn wsL_law wsX9_look := goodIn_r _ [403, 95, 96, 180, 181, 5, 182, 176, 177, 178, 179, 404, 405, 406, 407, 207, 208, 209, 210, 229, 230, 231, 408, 409, 410, 411, 412, 413, 414, 415, 416, 417, 418, 419, 420, 421, 422, 423, 424, 425, 426, 104, 427, 428, 429, 430, 431, 432, 433, 434, 435, 436, 437, 438, 99, 439, 440, 441, 442, 443, 444, 445, 446, 447, 448, 449, 450, 451, 452, 453, 454, 455, 456, 457, 458, 459, 102, 103, 460, 461, 462, 463, 100, 101, 464, 465, 466, 467, 468, 469, 470, 471, 472, 473, 474, 475, 476, 477, 478, 479, 480, 481, 482, 105, 483, 484, 485, 486, 487, 488, 489, 490, 491, 492, 493, 494, 731, 732, 733, 734, 735, 736, 737, 738, 739, 740, 741, 742, 743, 744, 745, 746, 747, 748, 749, 750, 751, 752, 753, 754, 755, 756, 757] (by decide +kernel) (by decide +kernel)
set_option maxRecDepth 20000 in
theorem gL_law_X9_look : GoodIn wsL_law (wsV RL 43 RX9 yX9_look wsX9_look) := goodIn_app (goodIn_of _ (by decide +kernel)) ggL_law_X9_look
set_option maxRecDepth 20000 in
theorem ggL_law_X8_has : GoodIn wsL_law wsX8_has := goodIn_r _ [498, 38, 146, 147, 148, 2, 149, 150, 151, 152, 153, 37, 195, 196, 163, 197, 283, 284, 285, 721, 722, 723, 724, 725, 726, 727, 728, 729, 730] (by decide +kernel) (by decide +kernel)
set_option maxRecDepth 20000 in
theorem gL_law_X8_has : GoodIn wsL_law (wsV RL 44 RX8 yX8_has wsX8_has) := goodIn_app (goodIn_of _ (by decide +kernel)) ggL_law_X8_has
set_option maxRecDepth 20000 in
theorem ggL_law_X9_has : GoodIn wsL_law wsX9_has := goodIn_r _ [502, 172, 173, 174, 5, 175, 176, 177, 178, 179, 95, 130, 131, 132, 207, 208, 209, 210, 96, 731, 732, 733, 734, 735, 736, 737, 738, 739, 740, 741, 742, 743, 744, 745, 746, 747, 748, 749, 750, 751, 752, 753, 754, 755, 756, 757] (by decide +kernel) (by decide +kernel)
set_option maxRecDepth 20000 in
theorem gL_law_X9_has : GoodIn wsL_law (wsV RL 47 RX9 yX9_has wsX9_has) := goodIn_app (goodIn_of _ (by decide +kernel)) ggL_law_X9_has
set_option maxRecDepth 20000 in
theorem ggL_law_X8_faces : GoodIn wsL_law wsX8_faces := goodIn_r _ [506, 38, 507, 338, 27, 339, 272, 273, 163, 274, 275, 154, 155, 156, 157, 158, 159, 160, 721, 722, 723, 724, 725, 726, 727, 728, 729, 730] (by decide +kernel) (by decide +kernel)
set_option maxRecDepth 20000 in
theorem gL_law_X8_faces : GoodIn wsL_law (wsV RL 48 RX8 yX8_faces wsX8_faces) := goodIn_app (goodIn_of _ (by decide +kernel)) ggL_law_X8_faces
set_option maxRecDepth 20000 in
theorem ggL_law_X9_faces : GoodIn wsL_law wsX9_faces := goodIn_r _ [511, 130, 131, 5, 132, 176, 177, 178, 179, 95, 404, 405, 406, 407, 207, 208, 209, 210, 96, 229, 230, 231, 180, 181, 182, 731, 732, 733, 734, 735, 736, 737, 738, 739, 740, 741, 742, 743, 744, 745, 746, 747, 748, 749, 750, 751, 752, 753, 754, 755, 756, 757] (by decide +kernel) (by decide +kernel)
set_option maxRecDepth 20000 in
theorem gL_law_X9_faces : GoodIn wsL_law (wsV RL 51 RX9 yX9_faces wsX9_faces) := goodIn_app (goodIn_of _ (by decide +kernel)) ggL_law_X9_faces
set_option maxRecDepth 20000 in
theorem ggL_law_X8_missing : GoodIn wsL_law wsX8_missing := goodIn_r _ [515, 276, 277, 278, 2, 279, 38, 190, 150, 151, 152, 153, 37, 195, 196, 163, 197, 280, 281, 282, 165, 166, 167, 721, 722, 723, 724, 725, 726, 727, 728, 729, 730] (by decide +kernel) (by decide +kernel)
set_option maxRecDepth 20000 in
theorem gL_law_X8_missing : GoodIn wsL_law (wsV RL 52 RX8 yX8_missing wsX8_missing) := goodIn_app (goodIn_of _ (by decide +kernel)) ggL_law_X8_missing
set_option maxRecDepth 20000 in
theorem ggL_law_X9_missing : GoodIn wsL_law wsX9_missing := goodIn_r _ [519, 176, 177, 178, 5, 179, 95, 412, 413, 414, 415, 207, 208, 209, 210, 96, 731, 732, 733, 734, 735, 736, 737, 738, 739, 740, 741, 742, 743, 744, 745, 746, 747, 748, 749, 750, 751, 752, 753, 754, 755, 756, 757] (by decide +kernel) (by decide +kernel)
set_option maxRecDepth 20000 in
theorem gL_law_X9_missing : GoodIn wsL_law (wsV RL 55 RX9 yX9_missing wsX9_missing) := goodIn_app (goodIn_of _ (by decide +kernel)) ggL_law_X9_missing
set_option maxRecDepth 20000 in
theorem ggL_law_X8_holes : GoodIn wsL_law wsX8_holes := goodIn_r _ [523, 28, 37, 38, 146, 147, 148, 2, 149, 150, 151, 152, 153, 507, 338, 27, 339, 524, 294, 295, 296, 297, 298, 299, 162, 163, 164, 165, 166, 167, 300, 301, 302, 303, 62, 63, 304, 305, 306, 307, 67, 308, 309, 310, 311, 66, 312, 313, 314, 315, 316, 196, 197, 317, 281, 282, 318, 319, 320, 321, 73, 72, 322, 216, 217, 218, 219, 220, 221, 323, 273, 274, 275, 324, 155, 156, 157, 158, 159, 160, 525, 334, 335, 336, 337, 721, 722, 723, 724, 725, 726, 727, 728, 729, 730, 765, 766, 767, 768, 769, 783, 784, 785, 786, 787] (by decide +kernel) (by decide +kernel)
set_option maxRecDepth 20000 in
theorem gL_law_X8_holes : GoodIn wsL_law (wsV RL 56 RX8 yX8_holes wsX8_holes) := goodIn_app (goodIn_of _ (by decide +kernel)) ggL_law_X8_holes
set_option maxRecDepth 20000 in
theorem ggL_law_X9_holes : GoodIn wsL_law wsX9_holes := goodIn_r _ [529, 172, 173, 174, 5, 175, 176, 177, 178, 179, 95, 130, 131, 132, 427, 428, 429, 430, 404, 405, 406, 407, 207, 208, 209, 210, 96, 229, 230, 231, 180, 181, 182, 431, 432, 433, 434, 435, 436, 437, 438, 99, 439, 440, 441, 442, 443, 444, 445, 446, 731, 732, 733, 734, 735, 736, 737, 738, 739, 740, 741, 742, 743, 744, 745, 746, 747, 748, 749, 750, 751, 752, 753, 754, 755, 756, 757] (by decide +kernel) (by decide +kernel)
set_option maxRecDepth 20000 in
theorem gL_law_X9_holes : GoodIn wsL_law (wsV RL 60 RX9 yX9_holes wsX9_holes) := goodIn_app (goodIn_of _ (by decide +kernel)) ggL_law_X9_holes
set_option maxRecDepth 20000 in
theorem ggL_law_X8_space : GoodIn wsL_law wsX8_space := goodIn_r _ [533, 28, 37, 38, 524, 294, 295, 27, 296, 297, 298, 299, 162, 163, 164, 165, 166, 167, 300, 301, 302, 303, 62, 63, 304, 305, 306, 307, 67, 308, 309, 310, 311, 66, 312, 313, 314, 315, 316, 196, 197, 317, 281, 282, 318, 319, 320, 321, 73, 72, 322, 216, 217, 218, 219, 220, 221, 323, 273, 274, 275, 324, 155, 156, 157, 158, 159, 160, 150, 151, 152, 2, 153, 215, 525, 334, 335, 336, 337, 338, 339, 721, 722, 723, 724, 725, 726, 727, 728, 729, 730, 765, 766, 767, 768, 769, 783, 784, 785, 786, 787] (by decide +kernel) (by decide +kernel)
set_option maxRecDepth 20000 in
theorem gL_law_X8_space : GoodIn wsL_law (wsV RL 61 RX8 yX8_space wsX8_space) := goodIn_app (goodIn_of _ (by decide +kernel)) ggL_law_X8_space
set_option maxRecDepth 20000 in
theorem ggL_law_X9_space : GoodIn wsL_law wsX9_space := goodIn_r _ [537, 130, 131, 5, 132, 176, 177, 178, 179, 95, 229, 230, 231, 427, 428, 429, 430, 404, 405, 406, 407, 207, 208, 209, 210, 96, 180, 181, 182, 431, 432, 433, 434, 435, 436, 437, 438, 99, 439, 440, 441, 442, 443, 444, 445, 446, 731, 732, 733, 734, 735, 736, 737, 738, 739, 740, 741, 742, 743, 744, 745, 746, 747, 748, 749, 750, 751, 752, 753, 754, 755, 756, 757] (by decide +kernel) (by decide +kernel)
set_option maxRecDepth 20000 in
theorem gL_law_X9_space : GoodIn wsL_law (wsV RL 64 RX9 yX9_space wsX9_space) := goodIn_app (goodIn_of _ (by decide +kernel)) ggL_law_X9_space
set_option maxRecDepth 20000 in
theorem ggL_law_X8_tower : GoodIn wsL_law wsX8_tower := goodIn_r _ [541, 28, 37, 38, 524, 294, 295, 27, 296, 297, 298, 299, 162, 163, 164, 165, 166, 167, 300, 301, 302, 303, 62, 63, 304, 305, 306, 307, 67, 308, 309, 310, 311, 66, 312, 313, 314, 315, 316, 196, 197, 317, 281, 282, 318, 319, 320, 321, 73, 72, 322, 216, 217, 218, 219, 220, 221, 323, 273, 274, 275, 324, 155, 156, 157, 158, 159, 160, 150, 151, 152, 2, 153, 215, 525, 334, 335, 336, 337, 338, 339, 721, 722, 723, 724, 725, 726, 727, 728, 729, 730, 765, 766, 767, 768, 769, 783, 784, 785, 786, 787] (by decide +kernel) (by decide +kernel)
set_option maxRecDepth 20000 in
theorem gL_law_X8_tower : GoodIn wsL_law (wsV RL 65 RX8 yX8_tower wsX8_tower) := goodIn_app (goodIn_of _ (by decide +kernel)) ggL_law_X8_tower
set_option maxRecDepth 20000 in
theorem ggL_law_X9_tower : GoodIn wsL_law wsX9_tower := goodIn_r _ [545, 130, 131, 5, 132, 176, 177, 178, 179, 95, 229, 230, 231, 427, 428, 429, 430, 404, 405, 406, 407, 207, 208, 209, 210, 96, 180, 181, 182, 431, 432, 433, 434, 435, 436, 437, 438, 99, 439, 440, 441, 442, 443, 444, 445, 446, 731, 732, 733, 734, 735, 736, 737, 738, 739, 740, 741, 742, 743, 744, 745, 746, 747, 748, 749, 750, 751, 752, 753, 754, 755, 756, 757] (by decide +kernel) (by decide +kernel)
set_option maxRecDepth 20000 in
theorem gL_law_X9_tower : GoodIn wsL_law (wsV RL 68 RX9 yX9_tower wsX9_tower) := goodIn_app (goodIn_of _ (by decide +kernel)) ggL_law_X9_tower
set_option maxRecDepth 20000 in
theorem ggL_law_X8_rank : GoodIn wsL_law wsX8_rank := goodIn_r _ [549, 28, 37, 38, 32, 146, 147, 148, 2, 149, 150, 151, 152, 153, 524, 294, 295, 27, 296, 297, 298, 299, 162, 163, 164, 165, 166, 167, 300, 301, 302, 303, 62, 63, 304, 305, 306, 307, 67, 308, 309, 310, 311, 66, 312, 313, 314, 315, 316, 196, 197, 317, 281, 282, 318, 319, 320, 321, 73, 72, 322, 216, 217, 218, 219, 220, 221, 323, 273, 274, 275, 324, 155, 156, 157, 158, 159, 160, 550, 341, 342, 31, 343, 78, 81, 82, 80, 333, 334, 335, 336, 337, 338, 339, 344, 345, 346, 347, 348, 349, 350, 351, 352, 353, 354, 355, 356, 357, 358, 359, 360, 361, 362, 363, 364, 365, 366, 367, 721, 722, 723, 724, 725, 726, 727, 728, 729, 730, 765, 766, 767, 768, 769, 783, 784, 785, 786, 787, 770, 771, 772, 773, 774, 775, 776, 777] (by decide +kernel) (by decide +kernel)
set_option maxRecDepth 20000 in
theorem gL_law_X8_rank : GoodIn wsL_law (wsV RL 69 RX8 yX8_rank wsX8_rank) := goodIn_app (goodIn_of _ (by decide +kernel)) ggL_law_X8_rank
set_option maxRecDepth 20000 in
theorem ggL_law_X9_rank : GoodIn wsL_law wsX9_rank := goodIn_r _ [554, 172, 173, 174, 5, 175, 176, 177, 178, 179, 95, 130, 131, 132, 456, 457, 458, 459, 102, 103, 460, 461, 462, 463, 100, 101, 229, 230, 231, 207, 208, 209, 210, 96, 464, 465, 466, 467, 468, 469, 470, 471, 472, 473, 474, 435, 436, 437, 438, 99, 443, 444, 445, 446, 475, 476, 477, 478, 731, 732, 733, 734, 735, 736, 737, 738, 739, 740, 741, 742, 743, 744, 745, 746, 747, 748, 749, 750, 751, 752, 753, 754, 755, 756, 757] (by decide +kernel) (by decide +kernel)
set_option maxRecDepth 20000 in
theorem gL_law_X9_rank : GoodIn wsL_law (wsV RL 73 RX9 yX9_rank wsX9_rank) := goodIn_app (goodIn_of _ (by decide +kernel)) ggL_law_X9_rank
set_option maxRecDepth 20000 in
theorem ggL_law_X8_first : GoodIn wsL_law wsX8_first := goodIn_r _ [558, 32, 37, 38, 286, 287, 288, 31, 289, 290, 291, 78, 292, 293, 294, 295, 27, 296, 297, 298, 299, 162, 163, 164, 165, 166, 167, 300, 301, 302, 303, 62, 63, 304, 305, 306, 307, 67, 308, 309, 310, 311, 66, 312, 313, 314, 315, 316, 196, 197, 317, 281, 282, 318, 319, 320, 321, 73, 72, 322, 216, 217, 218, 219, 220, 221, 323, 273, 274, 275, 324, 155, 156, 157, 158, 159, 160, 325, 326, 327, 328, 329, 330, 331, 332, 83, 333, 334, 335, 336, 337, 338, 339, 340, 341, 342, 343, 81, 82, 80, 344, 345, 346, 347, 348, 349, 350, 351, 352, 353, 354, 355, 356, 357, 358, 359, 360, 361, 362, 363, 364, 365, 366, 367, 559, 560, 561, 562, 721, 722, 723, 724, 725, 726, 727, 728, 729, 730, 770, 771, 772, 773, 774, 775, 776, 777, 765, 766, 767, 768, 769, 783, 784, 785, 786, 787] (by decide +kernel) (by decide +kernel)
set_option maxRecDepth 20000 in
theorem gL_law_X8_first : GoodIn wsL_law (wsV RL 74 RX8 yX8_first wsX8_first) := goodIn_app (goodIn_of _ (by decide +kernel)) ggL_law_X8_first
set_option maxRecDepth 20000 in
theorem ggL_law_X9_first : GoodIn wsL_law wsX9_first := goodIn_r _ [566, 451, 452, 453, 454, 455, 130, 131, 5, 132, 420, 421, 422, 423, 424, 95, 425, 96, 426, 104, 176, 177, 178, 179, 427, 428, 429, 430, 404, 405, 406, 407, 207, 208, 209, 210, 229, 230, 231, 180, 181, 182, 431, 432, 433, 434, 435, 436, 437, 438, 99, 439, 440, 441, 442, 443, 444, 445, 446, 447, 448, 449, 450, 456, 457, 458, 459, 102, 103, 460, 461, 462, 463, 100, 101, 464, 465, 466, 467, 468, 469, 470, 471, 472, 473, 474, 475, 476, 477, 478, 731, 732, 733, 734, 735, 736, 737, 738, 739, 740, 741, 742, 743, 744, 745, 746, 747, 748, 749, 750, 751, 752, 753, 754, 755, 756, 757] (by decide +kernel) (by decide +kernel)
set_option maxRecDepth 20000 in
theorem gL_law_X9_first : GoodIn wsL_law (wsV RL 77 RX9 yX9_first wsX9_first) := goodIn_app (goodIn_of _ (by decide +kernel)) ggL_law_X9_first
set_option maxRecDepth 20000 in
theorem ggL_law_X8_alike : GoodIn wsL_law wsX8_alike := goodIn_r _ [570, 36, 37, 38, 571, 572, 573, 2, 574, 372, 373, 374, 35, 375, 376, 377, 378, 90, 379, 380, 381, 382, 383, 384, 385, 89, 386, 166, 163, 167, 387, 388, 389, 390, 391, 196, 197, 575, 576, 577, 578, 283, 284, 285, 721, 722, 723, 724, 725, 726, 727, 728, 729, 730, 778, 779, 780, 781, 782] (by decide +kernel) (by decide +kernel)
set_option maxRecDepth 20000 in
theorem gL_law_X8_alike : GoodIn wsL_law (wsV RL 78 RX8 yX8_alike wsX8_alike) := goodIn_app (goodIn_of _ (by decide +kernel)) ggL_law_X8_alike
set_option maxRecDepth 20000 in
theorem ggL_law_X9_alike : GoodIn wsL_law wsX9_alike := goodIn_r _ [582, 583, 584, 585, 5, 586, 95, 130, 131, 132, 479, 480, 481, 482, 105, 483, 484, 485, 486, 176, 177, 178, 179, 207, 208, 209, 210, 96, 487, 488, 489, 490, 731, 732, 733, 734, 735, 736, 737, 738, 739, 740, 741, 742, 743, 744, 745, 746, 747, 748, 749, 750, 751, 752, 753, 754, 755, 756, 757] (by decide +kernel) (by decide +kernel)
set_option maxRecDepth 20000 in
theorem gL_law_X9_alike : GoodIn wsL_law (wsV RL 81 RX9 yX9_alike wsX9_alike) := goodIn_app (goodIn_of _ (by decide +kernel)) ggL_law_X9_alike
set_option maxRecDepth 20000 in
theorem ggL_law_X8_feed : GoodIn wsL_law wsX8_feed := goodIn_r _ [590, 19, 591, 592, 593, 18, 594, 595, 596, 597, 598, 599, 600, 601, 602, 603, 52, 721, 722, 723, 724, 725, 726, 727, 728, 729, 730, 761, 762] (by decide +kernel) (by decide +kernel)
set_option maxRecDepth 20000 in
theorem gL_law_X8_feed : GoodIn wsL_law (wsV RL 82 RX8 yX8_feed wsX8_feed) := goodIn_app (goodIn_of _ (by decide +kernel)) ggL_law_X8_feed
set_option maxRecDepth 20000 in
theorem ggL_law_X9_feed : GoodIn wsL_law wsX9_feed := goodIn_r _ [607, 608, 106, 731, 732, 733, 734, 735, 736, 737, 738, 739, 740, 741, 742, 743, 744, 745, 746, 747, 748, 749, 750, 751, 752, 753, 754, 755, 756, 757] (by decide +kernel) (by decide +kernel)
set_option maxRecDepth 20000 in
theorem gL_law_X9_feed : GoodIn wsL_law (wsV RL 86 RX9 yX9_feed wsX9_feed) := goodIn_app (goodIn_of _ (by decide +kernel)) ggL_law_X9_feed
set_option maxRecDepth 20000 in
theorem ggL_law_X8_end : GoodIn wsL_law wsX8_end := goodIn_r _ [612, 19, 591, 592, 593, 18, 594, 595, 613, 614, 615, 616, 721, 722, 723, 724, 725, 726, 727, 728, 729, 730, 761, 762] (by decide +kernel) (by decide +kernel)
set_option maxRecDepth 20000 in
theorem gL_law_X8_end : GoodIn wsL_law (wsV RL 87 RX8 yX8_end wsX8_end) := goodIn_app (goodIn_of _ (by decide +kernel)) ggL_law_X8_end
set_option maxRecDepth 20000 in
theorem ggL_law_X9_end : GoodIn wsL_law wsX9_end := goodIn_r _ [620, 608, 130, 131, 5, 132, 731, 732, 733, 734, 735, 736, 737, 738, 739, 740, 741, 742, 743, 744, 745, 746, 747, 748, 749, 750, 751, 752, 753, 754, 755, 756, 757] (by decide +kernel) (by decide +kernel)
set_option maxRecDepth 20000 in
theorem gL_law_X9_end : GoodIn wsL_law (wsV RL 90 RX9 yX9_end wsX9_end) := goodIn_app (goodIn_of _ (by decide +kernel)) ggL_law_X9_end
set_option maxRecDepth 20000 in
theorem ggL_law_X8_read : GoodIn wsL_law wsX8_read := goodIn_r _ [624, 24, 19, 39, 38, 625, 626, 627, 23, 628, 629, 630, 631, 632, 633, 592, 593, 18, 594, 595, 634, 635, 636, 637, 52, 638, 639, 640, 641, 642, 643, 644, 57, 645, 162, 163, 164, 165, 166, 167, 613, 614, 615, 616, 646, 647, 648, 649, 650, 651, 652, 653, 113, 114, 115, 2, 116, 15, 37, 117, 118, 119, 14, 120, 121, 45, 122, 123, 124, 125, 47, 154, 155, 156, 157, 158, 159, 160, 721, 722, 723, 724, 725, 726, 727, 728, 729, 730, 763, 764, 761, 762, 758, 759, 760] (by decide +kernel) (by decide +kernel)
set_option maxRecDepth 20000 in
theorem gL_law_X8_read : GoodIn wsL_law (wsV RL 91 RX8 yX8_read wsX8_read) := goodIn_app (goodIn_of _ (by decide +kernel)) ggL_law_X8_read
set_option maxRecDepth 20000 in
theorem ggL_law_X9_read : GoodIn wsL_law wsX9_read := goodIn_r _ [657, 108, 608, 658, 659, 96, 660, 661, 662, 5, 663, 664, 665, 666, 667, 668, 669, 670, 671, 106, 130, 131, 132, 183, 184, 185, 133, 134, 135, 136, 95, 137, 138, 139, 140, 141, 97, 98, 180, 181, 182, 731, 732, 733, 734, 735, 736, 737, 738, 739, 740, 741, 742, 743, 744, 745, 746, 747, 748, 749, 750, 751, 752, 753, 754, 755, 756, 757] (by decide +kernel) (by decide +kernel)
set_option maxRecDepth 20000 in
theorem gL_law_X9_read : GoodIn wsL_law (wsV RL 95 RX9 yX9_read wsX9_read) := goodIn_app (goodIn_of _ (by decide +kernel)) ggL_law_X9_read
set_option maxRecDepth 20000 in
theorem ggL_law_X8_fault : GoodIn wsL_law wsX8_fault := goodIn_r _ [675, 39, 721, 722, 723, 724, 725, 726, 727, 728, 729, 730] (by decide +kernel) (by decide +kernel)
set_option maxRecDepth 20000 in
theorem gL_law_X8_fault : GoodIn wsL_law (wsV RL 96 RX8 yX8_fault wsX8_fault) := goodIn_app (goodIn_of _ (by decide +kernel)) ggL_law_X8_fault
set_option maxRecDepth 20000 in
theorem ggL_law_X9_fault : GoodIn wsL_law wsX9_fault := goodIn_r _ [679, 108, 731, 732, 733, 734, 735, 736, 737, 738, 739, 740, 741, 742, 743, 744, 745, 746, 747, 748, 749, 750, 751, 752, 753, 754, 755, 756, 757] (by decide +kernel) (by decide +kernel)
set_option maxRecDepth 20000 in
theorem gL_law_X9_fault : GoodIn wsL_law (wsV RL 99 RX9 yX9_fault wsX9_fault) := goodIn_app (goodIn_of _ (by decide +kernel)) ggL_law_X9_fault
set_option maxRecDepth 20000 in
theorem ggL_law_X8_write : GoodIn wsL_law wsX8_write := goodIn_r _ [683, 20, 37, 38, 613, 614, 615, 18, 616, 595, 684, 601, 602, 603, 52, 150, 151, 152, 2, 153, 195, 196, 163, 197, 685, 352, 353, 165, 166, 167, 686, 687, 688, 689, 690, 600, 591, 592, 593, 594, 721, 722, 723, 724, 725, 726, 727, 728, 729, 730, 761, 762] (by decide +kernel) (by decide +kernel)
set_option maxRecDepth 20000 in
theorem gL_law_X8_write : GoodIn wsL_law (wsV RL 100 RX8 yX8_write wsX8_write) := goodIn_app (goodIn_of _ (by decide +kernel)) ggL_law_X8_write
set_option maxRecDepth 20000 in
theorem ggL_law_X9_write : GoodIn wsL_law wsX9_write := goodIn_r _ [694, 695, 95, 696, 697, 698, 5, 699, 107, 176, 177, 178, 179, 700, 701, 702, 703, 207, 208, 209, 210, 96, 731, 732, 733, 734, 735, 736, 737, 738, 739, 740, 741, 742, 743, 744, 745, 746, 747, 748, 749, 750, 751, 752, 753, 754, 755, 756, 757] (by decide +kernel) (by decide +kernel)
set_option maxRecDepth 20000 in
theorem gL_law_X9_write : GoodIn wsL_law (wsV RL 103 RX9 yX9_write wsX9_write) := goodIn_app (goodIn_of _ (by decide +kernel)) ggL_law_X9_write
set_option maxRecDepth 20000 in
theorem ggL_law_X8_out : GoodIn wsL_law wsX8_out := goodIn_r _ [707, 20, 708, 635, 636, 18, 637, 595, 52, 721, 722, 723, 724, 725, 726, 727, 728, 729, 730, 761, 762] (by decide +kernel) (by decide +kernel)
set_option maxRecDepth 20000 in
theorem gL_law_X8_out : GoodIn wsL_law (wsV RL 104 RX8 yX8_out wsX8_out) := goodIn_app (goodIn_of _ (by decide +kernel)) ggL_law_X8_out
set_option maxRecDepth 20000 in
theorem ggL_law_X9_out : GoodIn wsL_law wsX9_out := goodIn_r _ [712, 695, 107, 130, 131, 5, 132, 731, 732, 733, 734, 735, 736, 737, 738, 739, 740, 741, 742, 743, 744, 745, 746, 747, 748, 749, 750, 751, 752, 753, 754, 755, 756, 757] (by decide +kernel) (by decide +kernel)
set_option maxRecDepth 20000 in
theorem gL_law_X9_out : GoodIn wsL_law (wsV RL 107 RX9 yX9_out wsX9_out) := goodIn_app (goodIn_of _ (by decide +kernel)) ggL_law_X9_out
set_option maxRecDepth 20000 in
theorem ggL_law_X8_take : GoodIn wsL_law wsX8_take := goodIn_r _ [716, 19, 20, 613, 614, 615, 18, 616, 595, 591, 592, 593, 594, 708, 635, 636, 637, 52, 684, 601, 602, 603, 721, 722, 723, 724, 725, 726, 727, 728, 729, 730, 761, 762] (by decide +kernel) (by decide +kernel)
set_option maxRecDepth 20000 in
theorem gL_law_X8_take : GoodIn wsL_law (wsV RL 108 RX8 yX8_take wsX8_take) := goodIn_app (goodIn_of _ (by decide +kernel)) ggL_law_X8_take
set_option maxRecDepth 20000 in
theorem ggL_law_X9_take : GoodIn wsL_law wsX9_take := goodIn_r _ [720, 695, 608, 106, 107, 731, 732, 733, 734, 735, 736, 737, 738, 739, 740, 741, 742, 743, 744, 745, 746, 747, 748, 749, 750, 751, 752, 753, 754, 755, 756, 757] (by decide +kernel) (by decide +kernel)
set_option maxRecDepth 20000 in
theorem gL_law_X9_take : GoodIn wsL_law (wsV RL 111 RX9 yX9_take wsX9_take) := goodIn_app (goodIn_of _ (by decide +kernel)) ggL_law_X9_take
theorem dL_law_0 : decode cL_law 0 = .ok (.new 7, 3) := by decide +kernel
theorem dL_law_3 : decode cL_law 3 = .ok (.dup, 1) := by decide +kernel
theorem dL_law_4 : decode cL_law 4 = .ok (.invokespecial 9, 3) := by decide +kernel
theorem dL_law_7 : decode cL_law 7 = .ok (.astore_n 1, 1) := by decide +kernel
theorem dL_law_8 : decode cL_law 8 = .ok (.new 10, 3) := by decide +kernel
theorem dL_law_11 : decode cL_law 11 = .ok (.dup, 1) := by decide +kernel
theorem dL_law_12 : decode cL_law 12 = .ok (.invokespecial 12, 3) := by decide +kernel
theorem dL_law_15 : decode cL_law 15 = .ok (.astore_n 2, 1) := by decide +kernel
theorem dL_law_16 : decode cL_law 16 = .ok (.iconst 0, 1) := by decide +kernel
theorem dL_law_17 : decode cL_law 17 = .ok (.istore_n 3, 1) := by decide +kernel
theorem dL_law_18 : decode cL_law 18 = .ok (.iload_n 3, 1) := by decide +kernel
theorem dL_law_19 : decode cL_law 19 = .ok (.aload_n 0, 1) := by decide +kernel
theorem dL_law_20 : decode cL_law 20 = .ok (.arraylength, 1) := by decide +kernel
theorem dL_law_21 : decode cL_law 21 = .ok (.bipush 6, 2) := by decide +kernel
theorem dL_law_23 : decode cL_law 23 = .ok (.isub, 1) := by decide +kernel
theorem dL_law_24 : decode cL_law 24 = .ok (.if_icmp .gt 701, 3) := by decide +kernel
theorem dL_law_27 : decode cL_law 27 = .ok (.aload_n 0, 1) := by decide +kernel
theorem dL_law_28 : decode cL_law 28 = .ok (.iload_n 3, 1) := by decide +kernel
theorem dL_law_29 : decode cL_law 29 = .ok (.iaload, 1) := by decide +kernel
theorem dL_law_30 : decode cL_law 30 = .ok (.bipush 31, 2) := by decide +kernel
theorem dL_law_32 : decode cL_law 32 = .ok (.iand, 1) := by decide +kernel
theorem dL_law_33 : decode cL_law 33 = .ok (.tableswitch 686 0 22 #[107, 130, 153, 176, 199, 212, 225, 248, 271, 294, 317, 350, 383, 416, 469, 492, 525, 588, 611, 624, 637, 650, 673], 107) := by decide +kernel
theorem dL_law_140 : decode cL_law 140 = .ok (.aload_n 1, 1) := by decide +kernel
theorem dL_law_141 : decode cL_law 141 = .ok (.aload_n 0, 1) := by decide +kernel
theorem dL_law_142 : decode cL_law 142 = .ok (.iload_n 3, 1) := by decide +kernel
theorem dL_law_143 : decode cL_law 143 = .ok (.iconst 1, 1) := by decide +kernel
theorem dL_law_144 : decode cL_law 144 = .ok (.iadd, 1) := by decide +kernel
theorem dL_law_145 : decode cL_law 145 = .ok (.iaload, 1) := by decide +kernel
theorem dL_law_146 : decode cL_law 146 = .ok (.invokevirtual 13, 3) := by decide +kernel
theorem dL_law_149 : decode cL_law 149 = .ok (.aload_n 2, 1) := by decide +kernel
theorem dL_law_150 : decode cL_law 150 = .ok (.aload_n 0, 1) := by decide +kernel
theorem dL_law_151 : decode cL_law 151 = .ok (.iload_n 3, 1) := by decide +kernel
theorem dL_law_152 : decode cL_law 152 = .ok (.iconst 1, 1) := by decide +kernel
theorem dL_law_153 : decode cL_law 153 = .ok (.iadd, 1) := by decide +kernel
theorem dL_law_154 : decode cL_law 154 = .ok (.iaload, 1) := by decide +kernel
theorem dL_law_155 : decode cL_law 155 = .ok (.invokevirtual 17, 3) := by decide +kernel
theorem dL_law_158 : decode cL_law 158 = .ok (.if_icmp .eq 561, 3) := by decide +kernel
theorem dL_law_161 : decode cL_law 161 = .ok (.iconst 0, 1) := by decide +kernel
theorem dL_law_162 : decode cL_law 162 = .ok (.ireturn, 1) := by decide +kernel
theorem dL_law_163 : decode cL_law 163 = .ok (.aload_n 1, 1) := by decide +kernel
theorem dL_law_164 : decode cL_law 164 = .ok (.aload_n 0, 1) := by decide +kernel
theorem dL_law_165 : decode cL_law 165 = .ok (.iload_n 3, 1) := by decide +kernel
theorem dL_law_166 : decode cL_law 166 = .ok (.iconst 1, 1) := by decide +kernel
theorem dL_law_167 : decode cL_law 167 = .ok (.iadd, 1) := by decide +kernel
theorem dL_law_168 : decode cL_law 168 = .ok (.iaload, 1) := by decide +kernel
theorem dL_law_169 : decode cL_law 169 = .ok (.invokevirtual 18, 3) := by decide +kernel
theorem dL_law_172 : decode cL_law 172 = .ok (.aload_n 2, 1) := by decide +kernel
theorem dL_law_173 : decode cL_law 173 = .ok (.aload_n 0, 1) := by decide +kernel
theorem dL_law_174 : decode cL_law 174 = .ok (.iload_n 3, 1) := by decide +kernel
theorem dL_law_175 : decode cL_law 175 = .ok (.iconst 1, 1) := by decide +kernel
theorem dL_law_176 : decode cL_law 176 = .ok (.iadd, 1) := by decide +kernel
theorem dL_law_177 : decode cL_law 177 = .ok (.iaload, 1) := by decide +kernel
theorem dL_law_178 : decode cL_law 178 = .ok (.invokevirtual 22, 3) := by decide +kernel
theorem dL_law_181 : decode cL_law 181 = .ok (.if_icmp .eq 538, 3) := by decide +kernel
theorem dL_law_184 : decode cL_law 184 = .ok (.iconst 0, 1) := by decide +kernel
theorem dL_law_185 : decode cL_law 185 = .ok (.ireturn, 1) := by decide +kernel
theorem dL_law_186 : decode cL_law 186 = .ok (.aload_n 1, 1) := by decide +kernel
theorem dL_law_187 : decode cL_law 187 = .ok (.aload_n 0, 1) := by decide +kernel
theorem dL_law_188 : decode cL_law 188 = .ok (.iload_n 3, 1) := by decide +kernel
theorem dL_law_189 : decode cL_law 189 = .ok (.iconst 1, 1) := by decide +kernel
theorem dL_law_190 : decode cL_law 190 = .ok (.iadd, 1) := by decide +kernel
theorem dL_law_191 : decode cL_law 191 = .ok (.iaload, 1) := by decide +kernel
theorem dL_law_192 : decode cL_law 192 = .ok (.invokevirtual 23, 3) := by decide +kernel
theorem dL_law_195 : decode cL_law 195 = .ok (.aload_n 2, 1) := by decide +kernel
theorem dL_law_196 : decode cL_law 196 = .ok (.aload_n 0, 1) := by decide +kernel
theorem dL_law_197 : decode cL_law 197 = .ok (.iload_n 3, 1) := by decide +kernel
theorem dL_law_198 : decode cL_law 198 = .ok (.iconst 1, 1) := by decide +kernel
theorem dL_law_199 : decode cL_law 199 = .ok (.iadd, 1) := by decide +kernel
theorem dL_law_200 : decode cL_law 200 = .ok (.iaload, 1) := by decide +kernel
theorem dL_law_201 : decode cL_law 201 = .ok (.invokevirtual 26, 3) := by decide +kernel
theorem dL_law_204 : decode cL_law 204 = .ok (.if_icmp .eq 515, 3) := by decide +kernel
theorem dL_law_207 : decode cL_law 207 = .ok (.iconst 0, 1) := by decide +kernel
theorem dL_law_208 : decode cL_law 208 = .ok (.ireturn, 1) := by decide +kernel
theorem dL_law_209 : decode cL_law 209 = .ok (.aload_n 1, 1) := by decide +kernel
theorem dL_law_210 : decode cL_law 210 = .ok (.aload_n 0, 1) := by decide +kernel
theorem dL_law_211 : decode cL_law 211 = .ok (.iload_n 3, 1) := by decide +kernel
theorem dL_law_212 : decode cL_law 212 = .ok (.iconst 1, 1) := by decide +kernel
theorem dL_law_213 : decode cL_law 213 = .ok (.iadd, 1) := by decide +kernel
theorem dL_law_214 : decode cL_law 214 = .ok (.iaload, 1) := by decide +kernel
theorem dL_law_215 : decode cL_law 215 = .ok (.invokevirtual 27, 3) := by decide +kernel
theorem dL_law_218 : decode cL_law 218 = .ok (.aload_n 2, 1) := by decide +kernel
theorem dL_law_219 : decode cL_law 219 = .ok (.aload_n 0, 1) := by decide +kernel
theorem dL_law_220 : decode cL_law 220 = .ok (.iload_n 3, 1) := by decide +kernel
theorem dL_law_221 : decode cL_law 221 = .ok (.iconst 1, 1) := by decide +kernel
theorem dL_law_222 : decode cL_law 222 = .ok (.iadd, 1) := by decide +kernel
theorem dL_law_223 : decode cL_law 223 = .ok (.iaload, 1) := by decide +kernel
theorem dL_law_224 : decode cL_law 224 = .ok (.invokevirtual 30, 3) := by decide +kernel
theorem dL_law_227 : decode cL_law 227 = .ok (.if_icmp .eq 492, 3) := by decide +kernel
theorem dL_law_230 : decode cL_law 230 = .ok (.iconst 0, 1) := by decide +kernel
theorem dL_law_231 : decode cL_law 231 = .ok (.ireturn, 1) := by decide +kernel
theorem dL_law_232 : decode cL_law 232 = .ok (.aload_n 1, 1) := by decide +kernel
theorem dL_law_233 : decode cL_law 233 = .ok (.invokevirtual 31, 3) := by decide +kernel
theorem dL_law_236 : decode cL_law 236 = .ok (.aload_n 2, 1) := by decide +kernel
theorem dL_law_237 : decode cL_law 237 = .ok (.invokevirtual 35, 3) := by decide +kernel
theorem dL_law_240 : decode cL_law 240 = .ok (.if_icmp .eq 479, 3) := by decide +kernel
theorem dL_law_243 : decode cL_law 243 = .ok (.iconst 0, 1) := by decide +kernel
theorem dL_law_244 : decode cL_law 244 = .ok (.ireturn, 1) := by decide +kernel
theorem dL_law_245 : decode cL_law 245 = .ok (.aload_n 1, 1) := by decide +kernel
theorem dL_law_246 : decode cL_law 246 = .ok (.invokevirtual 36, 3) := by decide +kernel
theorem dL_law_249 : decode cL_law 249 = .ok (.aload_n 2, 1) := by decide +kernel
theorem dL_law_250 : decode cL_law 250 = .ok (.invokevirtual 39, 3) := by decide +kernel
theorem dL_law_253 : decode cL_law 253 = .ok (.if_icmp .eq 466, 3) := by decide +kernel
theorem dL_law_256 : decode cL_law 256 = .ok (.iconst 0, 1) := by decide +kernel
theorem dL_law_257 : decode cL_law 257 = .ok (.ireturn, 1) := by decide +kernel
theorem dL_law_258 : decode cL_law 258 = .ok (.aload_n 1, 1) := by decide +kernel
theorem dL_law_259 : decode cL_law 259 = .ok (.aload_n 0, 1) := by decide +kernel
theorem dL_law_260 : decode cL_law 260 = .ok (.iload_n 3, 1) := by decide +kernel
theorem dL_law_261 : decode cL_law 261 = .ok (.iconst 1, 1) := by decide +kernel
theorem dL_law_262 : decode cL_law 262 = .ok (.iadd, 1) := by decide +kernel
theorem dL_law_263 : decode cL_law 263 = .ok (.iaload, 1) := by decide +kernel
theorem dL_law_264 : decode cL_law 264 = .ok (.invokevirtual 40, 3) := by decide +kernel
theorem dL_law_267 : decode cL_law 267 = .ok (.aload_n 2, 1) := by decide +kernel
theorem dL_law_268 : decode cL_law 268 = .ok (.aload_n 0, 1) := by decide +kernel
theorem dL_law_269 : decode cL_law 269 = .ok (.iload_n 3, 1) := by decide +kernel
theorem dL_law_270 : decode cL_law 270 = .ok (.iconst 1, 1) := by decide +kernel
theorem dL_law_271 : decode cL_law 271 = .ok (.iadd, 1) := by decide +kernel
theorem dL_law_272 : decode cL_law 272 = .ok (.iaload, 1) := by decide +kernel
theorem dL_law_273 : decode cL_law 273 = .ok (.invokevirtual 43, 3) := by decide +kernel
theorem dL_law_276 : decode cL_law 276 = .ok (.if_icmp .eq 443, 3) := by decide +kernel
theorem dL_law_279 : decode cL_law 279 = .ok (.iconst 0, 1) := by decide +kernel
theorem dL_law_280 : decode cL_law 280 = .ok (.ireturn, 1) := by decide +kernel
theorem dL_law_281 : decode cL_law 281 = .ok (.aload_n 1, 1) := by decide +kernel
theorem dL_law_282 : decode cL_law 282 = .ok (.aload_n 0, 1) := by decide +kernel
theorem dL_law_283 : decode cL_law 283 = .ok (.iload_n 3, 1) := by decide +kernel
theorem dL_law_284 : decode cL_law 284 = .ok (.iconst 1, 1) := by decide +kernel
theorem dL_law_285 : decode cL_law 285 = .ok (.iadd, 1) := by decide +kernel
theorem dL_law_286 : decode cL_law 286 = .ok (.iaload, 1) := by decide +kernel
theorem dL_law_287 : decode cL_law 287 = .ok (.invokevirtual 44, 3) := by decide +kernel
theorem dL_law_290 : decode cL_law 290 = .ok (.aload_n 2, 1) := by decide +kernel
theorem dL_law_291 : decode cL_law 291 = .ok (.aload_n 0, 1) := by decide +kernel
theorem dL_law_292 : decode cL_law 292 = .ok (.iload_n 3, 1) := by decide +kernel
theorem dL_law_293 : decode cL_law 293 = .ok (.iconst 1, 1) := by decide +kernel
theorem dL_law_294 : decode cL_law 294 = .ok (.iadd, 1) := by decide +kernel
theorem dL_law_295 : decode cL_law 295 = .ok (.iaload, 1) := by decide +kernel
theorem dL_law_296 : decode cL_law 296 = .ok (.invokevirtual 47, 3) := by decide +kernel
theorem dL_law_299 : decode cL_law 299 = .ok (.if_icmp .eq 420, 3) := by decide +kernel
theorem dL_law_302 : decode cL_law 302 = .ok (.iconst 0, 1) := by decide +kernel
theorem dL_law_303 : decode cL_law 303 = .ok (.ireturn, 1) := by decide +kernel
theorem dL_law_304 : decode cL_law 304 = .ok (.aload_n 1, 1) := by decide +kernel
theorem dL_law_305 : decode cL_law 305 = .ok (.aload_n 0, 1) := by decide +kernel
theorem dL_law_306 : decode cL_law 306 = .ok (.iload_n 3, 1) := by decide +kernel
theorem dL_law_307 : decode cL_law 307 = .ok (.iconst 1, 1) := by decide +kernel
theorem dL_law_308 : decode cL_law 308 = .ok (.iadd, 1) := by decide +kernel
theorem dL_law_309 : decode cL_law 309 = .ok (.iaload, 1) := by decide +kernel
theorem dL_law_310 : decode cL_law 310 = .ok (.invokevirtual 48, 3) := by decide +kernel
theorem dL_law_313 : decode cL_law 313 = .ok (.aload_n 2, 1) := by decide +kernel
theorem dL_law_314 : decode cL_law 314 = .ok (.aload_n 0, 1) := by decide +kernel
theorem dL_law_315 : decode cL_law 315 = .ok (.iload_n 3, 1) := by decide +kernel
theorem dL_law_316 : decode cL_law 316 = .ok (.iconst 1, 1) := by decide +kernel
theorem dL_law_317 : decode cL_law 317 = .ok (.iadd, 1) := by decide +kernel
theorem dL_law_318 : decode cL_law 318 = .ok (.iaload, 1) := by decide +kernel
theorem dL_law_319 : decode cL_law 319 = .ok (.invokevirtual 51, 3) := by decide +kernel
theorem dL_law_322 : decode cL_law 322 = .ok (.if_icmp .eq 397, 3) := by decide +kernel
theorem dL_law_325 : decode cL_law 325 = .ok (.iconst 0, 1) := by decide +kernel
theorem dL_law_326 : decode cL_law 326 = .ok (.ireturn, 1) := by decide +kernel
theorem dL_law_327 : decode cL_law 327 = .ok (.aload_n 1, 1) := by decide +kernel
theorem dL_law_328 : decode cL_law 328 = .ok (.aload_n 0, 1) := by decide +kernel
theorem dL_law_329 : decode cL_law 329 = .ok (.iload_n 3, 1) := by decide +kernel
theorem dL_law_330 : decode cL_law 330 = .ok (.iconst 1, 1) := by decide +kernel
theorem dL_law_331 : decode cL_law 331 = .ok (.iadd, 1) := by decide +kernel
theorem dL_law_332 : decode cL_law 332 = .ok (.iaload, 1) := by decide +kernel
theorem dL_law_333 : decode cL_law 333 = .ok (.invokevirtual 52, 3) := by decide +kernel
theorem dL_law_336 : decode cL_law 336 = .ok (.aload_n 2, 1) := by decide +kernel
theorem dL_law_337 : decode cL_law 337 = .ok (.aload_n 0, 1) := by decide +kernel
theorem dL_law_338 : decode cL_law 338 = .ok (.iload_n 3, 1) := by decide +kernel
theorem dL_law_339 : decode cL_law 339 = .ok (.iconst 1, 1) := by decide +kernel
theorem dL_law_340 : decode cL_law 340 = .ok (.iadd, 1) := by decide +kernel
theorem dL_law_341 : decode cL_law 341 = .ok (.iaload, 1) := by decide +kernel
theorem dL_law_342 : decode cL_law 342 = .ok (.invokevirtual 55, 3) := by decide +kernel
theorem dL_law_345 : decode cL_law 345 = .ok (.if_icmp .eq 374, 3) := by decide +kernel
theorem dL_law_348 : decode cL_law 348 = .ok (.iconst 0, 1) := by decide +kernel
theorem dL_law_349 : decode cL_law 349 = .ok (.ireturn, 1) := by decide +kernel
theorem dL_law_350 : decode cL_law 350 = .ok (.aload_n 1, 1) := by decide +kernel
theorem dL_law_351 : decode cL_law 351 = .ok (.aload_n 0, 1) := by decide +kernel
theorem dL_law_352 : decode cL_law 352 = .ok (.iload_n 3, 1) := by decide +kernel
theorem dL_law_353 : decode cL_law 353 = .ok (.iconst 1, 1) := by decide +kernel
theorem dL_law_354 : decode cL_law 354 = .ok (.iadd, 1) := by decide +kernel
theorem dL_law_355 : decode cL_law 355 = .ok (.iaload, 1) := by decide +kernel
theorem dL_law_356 : decode cL_law 356 = .ok (.aload_n 0, 1) := by decide +kernel
theorem dL_law_357 : decode cL_law 357 = .ok (.iload_n 3, 1) := by decide +kernel
theorem dL_law_358 : decode cL_law 358 = .ok (.iconst 2, 1) := by decide +kernel
theorem dL_law_359 : decode cL_law 359 = .ok (.iadd, 1) := by decide +kernel
theorem dL_law_360 : decode cL_law 360 = .ok (.iaload, 1) := by decide +kernel
theorem dL_law_361 : decode cL_law 361 = .ok (.invokevirtual 56, 3) := by decide +kernel
theorem dL_law_364 : decode cL_law 364 = .ok (.aload_n 2, 1) := by decide +kernel
theorem dL_law_365 : decode cL_law 365 = .ok (.aload_n 0, 1) := by decide +kernel
theorem dL_law_366 : decode cL_law 366 = .ok (.iload_n 3, 1) := by decide +kernel
theorem dL_law_367 : decode cL_law 367 = .ok (.iconst 1, 1) := by decide +kernel
theorem dL_law_368 : decode cL_law 368 = .ok (.iadd, 1) := by decide +kernel
theorem dL_law_369 : decode cL_law 369 = .ok (.iaload, 1) := by decide +kernel
theorem dL_law_370 : decode cL_law 370 = .ok (.aload_n 0, 1) := by decide +kernel
theorem dL_law_371 : decode cL_law 371 = .ok (.iload_n 3, 1) := by decide +kernel
theorem dL_law_372 : decode cL_law 372 = .ok (.iconst 2, 1) := by decide +kernel
theorem dL_law_373 : decode cL_law 373 = .ok (.iadd, 1) := by decide +kernel
theorem dL_law_374 : decode cL_law 374 = .ok (.iaload, 1) := by decide +kernel
theorem dL_law_375 : decode cL_law 375 = .ok (.invokevirtual 60, 3) := by decide +kernel
theorem dL_law_378 : decode cL_law 378 = .ok (.if_icmp .eq 341, 3) := by decide +kernel
theorem dL_law_381 : decode cL_law 381 = .ok (.iconst 0, 1) := by decide +kernel
theorem dL_law_382 : decode cL_law 382 = .ok (.ireturn, 1) := by decide +kernel
theorem dL_law_383 : decode cL_law 383 = .ok (.aload_n 1, 1) := by decide +kernel
theorem dL_law_384 : decode cL_law 384 = .ok (.aload_n 0, 1) := by decide +kernel
theorem dL_law_385 : decode cL_law 385 = .ok (.iload_n 3, 1) := by decide +kernel
theorem dL_law_386 : decode cL_law 386 = .ok (.iconst 1, 1) := by decide +kernel
theorem dL_law_387 : decode cL_law 387 = .ok (.iadd, 1) := by decide +kernel
theorem dL_law_388 : decode cL_law 388 = .ok (.iaload, 1) := by decide +kernel
theorem dL_law_389 : decode cL_law 389 = .ok (.aload_n 0, 1) := by decide +kernel
theorem dL_law_390 : decode cL_law 390 = .ok (.iload_n 3, 1) := by decide +kernel
theorem dL_law_391 : decode cL_law 391 = .ok (.iconst 2, 1) := by decide +kernel
theorem dL_law_392 : decode cL_law 392 = .ok (.iadd, 1) := by decide +kernel
theorem dL_law_393 : decode cL_law 393 = .ok (.iaload, 1) := by decide +kernel
theorem dL_law_394 : decode cL_law 394 = .ok (.invokevirtual 61, 3) := by decide +kernel
theorem dL_law_397 : decode cL_law 397 = .ok (.aload_n 2, 1) := by decide +kernel
theorem dL_law_398 : decode cL_law 398 = .ok (.aload_n 0, 1) := by decide +kernel
theorem dL_law_399 : decode cL_law 399 = .ok (.iload_n 3, 1) := by decide +kernel
theorem dL_law_400 : decode cL_law 400 = .ok (.iconst 1, 1) := by decide +kernel
theorem dL_law_401 : decode cL_law 401 = .ok (.iadd, 1) := by decide +kernel
theorem dL_law_402 : decode cL_law 402 = .ok (.iaload, 1) := by decide +kernel
theorem dL_law_403 : decode cL_law 403 = .ok (.aload_n 0, 1) := by decide +kernel
theorem dL_law_404 : decode cL_law 404 = .ok (.iload_n 3, 1) := by decide +kernel
theorem dL_law_405 : decode cL_law 405 = .ok (.iconst 2, 1) := by decide +kernel
theorem dL_law_406 : decode cL_law 406 = .ok (.iadd, 1) := by decide +kernel
theorem dL_law_407 : decode cL_law 407 = .ok (.iaload, 1) := by decide +kernel
theorem dL_law_408 : decode cL_law 408 = .ok (.invokevirtual 64, 3) := by decide +kernel
theorem dL_law_411 : decode cL_law 411 = .ok (.if_icmp .eq 308, 3) := by decide +kernel
theorem dL_law_414 : decode cL_law 414 = .ok (.iconst 0, 1) := by decide +kernel
theorem dL_law_415 : decode cL_law 415 = .ok (.ireturn, 1) := by decide +kernel
theorem dL_law_416 : decode cL_law 416 = .ok (.aload_n 1, 1) := by decide +kernel
theorem dL_law_417 : decode cL_law 417 = .ok (.aload_n 0, 1) := by decide +kernel
theorem dL_law_418 : decode cL_law 418 = .ok (.iload_n 3, 1) := by decide +kernel
theorem dL_law_419 : decode cL_law 419 = .ok (.iconst 1, 1) := by decide +kernel
theorem dL_law_420 : decode cL_law 420 = .ok (.iadd, 1) := by decide +kernel
theorem dL_law_421 : decode cL_law 421 = .ok (.iaload, 1) := by decide +kernel
theorem dL_law_422 : decode cL_law 422 = .ok (.aload_n 0, 1) := by decide +kernel
theorem dL_law_423 : decode cL_law 423 = .ok (.iload_n 3, 1) := by decide +kernel
theorem dL_law_424 : decode cL_law 424 = .ok (.iconst 2, 1) := by decide +kernel
theorem dL_law_425 : decode cL_law 425 = .ok (.iadd, 1) := by decide +kernel
theorem dL_law_426 : decode cL_law 426 = .ok (.iaload, 1) := by decide +kernel
theorem dL_law_427 : decode cL_law 427 = .ok (.invokevirtual 65, 3) := by decide +kernel
theorem dL_law_430 : decode cL_law 430 = .ok (.aload_n 2, 1) := by decide +kernel
theorem dL_law_431 : decode cL_law 431 = .ok (.aload_n 0, 1) := by decide +kernel
theorem dL_law_432 : decode cL_law 432 = .ok (.iload_n 3, 1) := by decide +kernel
theorem dL_law_433 : decode cL_law 433 = .ok (.iconst 1, 1) := by decide +kernel
theorem dL_law_434 : decode cL_law 434 = .ok (.iadd, 1) := by decide +kernel
theorem dL_law_435 : decode cL_law 435 = .ok (.iaload, 1) := by decide +kernel
theorem dL_law_436 : decode cL_law 436 = .ok (.aload_n 0, 1) := by decide +kernel
theorem dL_law_437 : decode cL_law 437 = .ok (.iload_n 3, 1) := by decide +kernel
theorem dL_law_438 : decode cL_law 438 = .ok (.iconst 2, 1) := by decide +kernel
theorem dL_law_439 : decode cL_law 439 = .ok (.iadd, 1) := by decide +kernel
theorem dL_law_440 : decode cL_law 440 = .ok (.iaload, 1) := by decide +kernel
theorem dL_law_441 : decode cL_law 441 = .ok (.invokevirtual 68, 3) := by decide +kernel
theorem dL_law_444 : decode cL_law 444 = .ok (.if_icmp .eq 275, 3) := by decide +kernel
theorem dL_law_447 : decode cL_law 447 = .ok (.iconst 0, 1) := by decide +kernel
theorem dL_law_448 : decode cL_law 448 = .ok (.ireturn, 1) := by decide +kernel
theorem dL_law_449 : decode cL_law 449 = .ok (.aload_n 1, 1) := by decide +kernel
theorem dL_law_450 : decode cL_law 450 = .ok (.aload_n 0, 1) := by decide +kernel
theorem dL_law_451 : decode cL_law 451 = .ok (.iload_n 3, 1) := by decide +kernel
theorem dL_law_452 : decode cL_law 452 = .ok (.iconst 1, 1) := by decide +kernel
theorem dL_law_453 : decode cL_law 453 = .ok (.iadd, 1) := by decide +kernel
theorem dL_law_454 : decode cL_law 454 = .ok (.iaload, 1) := by decide +kernel
theorem dL_law_455 : decode cL_law 455 = .ok (.aload_n 0, 1) := by decide +kernel
theorem dL_law_456 : decode cL_law 456 = .ok (.iload_n 3, 1) := by decide +kernel
theorem dL_law_457 : decode cL_law 457 = .ok (.iconst 2, 1) := by decide +kernel
theorem dL_law_458 : decode cL_law 458 = .ok (.iadd, 1) := by decide +kernel
theorem dL_law_459 : decode cL_law 459 = .ok (.iaload, 1) := by decide +kernel
theorem dL_law_460 : decode cL_law 460 = .ok (.aload_n 0, 1) := by decide +kernel
theorem dL_law_461 : decode cL_law 461 = .ok (.iload_n 3, 1) := by decide +kernel
theorem dL_law_462 : decode cL_law 462 = .ok (.iconst 3, 1) := by decide +kernel
theorem dL_law_463 : decode cL_law 463 = .ok (.iadd, 1) := by decide +kernel
theorem dL_law_464 : decode cL_law 464 = .ok (.iaload, 1) := by decide +kernel
theorem dL_law_465 : decode cL_law 465 = .ok (.aload_n 0, 1) := by decide +kernel
theorem dL_law_466 : decode cL_law 466 = .ok (.iload_n 3, 1) := by decide +kernel
theorem dL_law_467 : decode cL_law 467 = .ok (.iconst 4, 1) := by decide +kernel
theorem dL_law_468 : decode cL_law 468 = .ok (.iadd, 1) := by decide +kernel
theorem dL_law_469 : decode cL_law 469 = .ok (.iaload, 1) := by decide +kernel
theorem dL_law_470 : decode cL_law 470 = .ok (.invokevirtual 69, 3) := by decide +kernel
theorem dL_law_473 : decode cL_law 473 = .ok (.aload_n 2, 1) := by decide +kernel
theorem dL_law_474 : decode cL_law 474 = .ok (.aload_n 0, 1) := by decide +kernel
theorem dL_law_475 : decode cL_law 475 = .ok (.iload_n 3, 1) := by decide +kernel
theorem dL_law_476 : decode cL_law 476 = .ok (.iconst 1, 1) := by decide +kernel
theorem dL_law_477 : decode cL_law 477 = .ok (.iadd, 1) := by decide +kernel
theorem dL_law_478 : decode cL_law 478 = .ok (.iaload, 1) := by decide +kernel
theorem dL_law_479 : decode cL_law 479 = .ok (.aload_n 0, 1) := by decide +kernel
theorem dL_law_480 : decode cL_law 480 = .ok (.iload_n 3, 1) := by decide +kernel
theorem dL_law_481 : decode cL_law 481 = .ok (.iconst 2, 1) := by decide +kernel
theorem dL_law_482 : decode cL_law 482 = .ok (.iadd, 1) := by decide +kernel
theorem dL_law_483 : decode cL_law 483 = .ok (.iaload, 1) := by decide +kernel
theorem dL_law_484 : decode cL_law 484 = .ok (.aload_n 0, 1) := by decide +kernel
theorem dL_law_485 : decode cL_law 485 = .ok (.iload_n 3, 1) := by decide +kernel
theorem dL_law_486 : decode cL_law 486 = .ok (.iconst 3, 1) := by decide +kernel
theorem dL_law_487 : decode cL_law 487 = .ok (.iadd, 1) := by decide +kernel
theorem dL_law_488 : decode cL_law 488 = .ok (.iaload, 1) := by decide +kernel
theorem dL_law_489 : decode cL_law 489 = .ok (.aload_n 0, 1) := by decide +kernel
theorem dL_law_490 : decode cL_law 490 = .ok (.iload_n 3, 1) := by decide +kernel
theorem dL_law_491 : decode cL_law 491 = .ok (.iconst 4, 1) := by decide +kernel
theorem dL_law_492 : decode cL_law 492 = .ok (.iadd, 1) := by decide +kernel
theorem dL_law_493 : decode cL_law 493 = .ok (.iaload, 1) := by decide +kernel
theorem dL_law_494 : decode cL_law 494 = .ok (.invokevirtual 73, 3) := by decide +kernel
theorem dL_law_497 : decode cL_law 497 = .ok (.if_icmp .eq 222, 3) := by decide +kernel
theorem dL_law_500 : decode cL_law 500 = .ok (.iconst 0, 1) := by decide +kernel
theorem dL_law_501 : decode cL_law 501 = .ok (.ireturn, 1) := by decide +kernel
theorem dL_law_502 : decode cL_law 502 = .ok (.aload_n 1, 1) := by decide +kernel
theorem dL_law_503 : decode cL_law 503 = .ok (.aload_n 0, 1) := by decide +kernel
theorem dL_law_504 : decode cL_law 504 = .ok (.iload_n 3, 1) := by decide +kernel
theorem dL_law_505 : decode cL_law 505 = .ok (.iconst 1, 1) := by decide +kernel
theorem dL_law_506 : decode cL_law 506 = .ok (.iadd, 1) := by decide +kernel
theorem dL_law_507 : decode cL_law 507 = .ok (.iaload, 1) := by decide +kernel
theorem dL_law_508 : decode cL_law 508 = .ok (.invokevirtual 74, 3) := by decide +kernel
theorem dL_law_511 : decode cL_law 511 = .ok (.aload_n 2, 1) := by decide +kernel
theorem dL_law_512 : decode cL_law 512 = .ok (.aload_n 0, 1) := by decide +kernel
theorem dL_law_513 : decode cL_law 513 = .ok (.iload_n 3, 1) := by decide +kernel
theorem dL_law_514 : decode cL_law 514 = .ok (.iconst 1, 1) := by decide +kernel
theorem dL_law_515 : decode cL_law 515 = .ok (.iadd, 1) := by decide +kernel
theorem dL_law_516 : decode cL_law 516 = .ok (.iaload, 1) := by decide +kernel
theorem dL_law_517 : decode cL_law 517 = .ok (.invokevirtual 77, 3) := by decide +kernel
theorem dL_law_520 : decode cL_law 520 = .ok (.if_icmp .eq 199, 3) := by decide +kernel
theorem dL_law_523 : decode cL_law 523 = .ok (.iconst 0, 1) := by decide +kernel
theorem dL_law_524 : decode cL_law 524 = .ok (.ireturn, 1) := by decide +kernel
theorem dL_law_525 : decode cL_law 525 = .ok (.aload_n 1, 1) := by decide +kernel
theorem dL_law_526 : decode cL_law 526 = .ok (.aload_n 0, 1) := by decide +kernel
theorem dL_law_527 : decode cL_law 527 = .ok (.iload_n 3, 1) := by decide +kernel
theorem dL_law_528 : decode cL_law 528 = .ok (.iconst 1, 1) := by decide +kernel
theorem dL_law_529 : decode cL_law 529 = .ok (.iadd, 1) := by decide +kernel
theorem dL_law_530 : decode cL_law 530 = .ok (.iaload, 1) := by decide +kernel
theorem dL_law_531 : decode cL_law 531 = .ok (.aload_n 0, 1) := by decide +kernel
theorem dL_law_532 : decode cL_law 532 = .ok (.iload_n 3, 1) := by decide +kernel
theorem dL_law_533 : decode cL_law 533 = .ok (.iconst 2, 1) := by decide +kernel
theorem dL_law_534 : decode cL_law 534 = .ok (.iadd, 1) := by decide +kernel
theorem dL_law_535 : decode cL_law 535 = .ok (.iaload, 1) := by decide +kernel
theorem dL_law_536 : decode cL_law 536 = .ok (.invokevirtual 78, 3) := by decide +kernel
theorem dL_law_539 : decode cL_law 539 = .ok (.aload_n 2, 1) := by decide +kernel
theorem dL_law_540 : decode cL_law 540 = .ok (.aload_n 0, 1) := by decide +kernel
theorem dL_law_541 : decode cL_law 541 = .ok (.iload_n 3, 1) := by decide +kernel
theorem dL_law_542 : decode cL_law 542 = .ok (.iconst 1, 1) := by decide +kernel
theorem dL_law_543 : decode cL_law 543 = .ok (.iadd, 1) := by decide +kernel
theorem dL_law_544 : decode cL_law 544 = .ok (.iaload, 1) := by decide +kernel
theorem dL_law_545 : decode cL_law 545 = .ok (.aload_n 0, 1) := by decide +kernel
theorem dL_law_546 : decode cL_law 546 = .ok (.iload_n 3, 1) := by decide +kernel
theorem dL_law_547 : decode cL_law 547 = .ok (.iconst 2, 1) := by decide +kernel
theorem dL_law_548 : decode cL_law 548 = .ok (.iadd, 1) := by decide +kernel
theorem dL_law_549 : decode cL_law 549 = .ok (.iaload, 1) := by decide +kernel
theorem dL_law_550 : decode cL_law 550 = .ok (.invokevirtual 81, 3) := by decide +kernel
theorem dL_law_553 : decode cL_law 553 = .ok (.if_icmp .eq 166, 3) := by decide +kernel
theorem dL_law_556 : decode cL_law 556 = .ok (.iconst 0, 1) := by decide +kernel
theorem dL_law_557 : decode cL_law 557 = .ok (.ireturn, 1) := by decide +kernel
theorem dL_law_558 : decode cL_law 558 = .ok (.aload_n 1, 1) := by decide +kernel
theorem dL_law_559 : decode cL_law 559 = .ok (.aload_n 0, 1) := by decide +kernel
theorem dL_law_560 : decode cL_law 560 = .ok (.iload_n 3, 1) := by decide +kernel
theorem dL_law_561 : decode cL_law 561 = .ok (.iconst 1, 1) := by decide +kernel
theorem dL_law_562 : decode cL_law 562 = .ok (.iadd, 1) := by decide +kernel
theorem dL_law_563 : decode cL_law 563 = .ok (.iaload, 1) := by decide +kernel
theorem dL_law_564 : decode cL_law 564 = .ok (.aload_n 0, 1) := by decide +kernel
theorem dL_law_565 : decode cL_law 565 = .ok (.iload_n 3, 1) := by decide +kernel
theorem dL_law_566 : decode cL_law 566 = .ok (.iconst 2, 1) := by decide +kernel
theorem dL_law_567 : decode cL_law 567 = .ok (.iadd, 1) := by decide +kernel
theorem dL_law_568 : decode cL_law 568 = .ok (.iaload, 1) := by decide +kernel
theorem dL_law_569 : decode cL_law 569 = .ok (.aload_n 0, 1) := by decide +kernel
theorem dL_law_570 : decode cL_law 570 = .ok (.iload_n 3, 1) := by decide +kernel
theorem dL_law_571 : decode cL_law 571 = .ok (.iconst 3, 1) := by decide +kernel
theorem dL_law_572 : decode cL_law 572 = .ok (.iadd, 1) := by decide +kernel
theorem dL_law_573 : decode cL_law 573 = .ok (.iaload, 1) := by decide +kernel
theorem dL_law_574 : decode cL_law 574 = .ok (.aload_n 0, 1) := by decide +kernel
theorem dL_law_575 : decode cL_law 575 = .ok (.iload_n 3, 1) := by decide +kernel
theorem dL_law_576 : decode cL_law 576 = .ok (.iconst 4, 1) := by decide +kernel
theorem dL_law_577 : decode cL_law 577 = .ok (.iadd, 1) := by decide +kernel
theorem dL_law_578 : decode cL_law 578 = .ok (.iaload, 1) := by decide +kernel
theorem dL_law_579 : decode cL_law 579 = .ok (.aload_n 0, 1) := by decide +kernel
theorem dL_law_580 : decode cL_law 580 = .ok (.iload_n 3, 1) := by decide +kernel
theorem dL_law_581 : decode cL_law 581 = .ok (.iconst 5, 1) := by decide +kernel
theorem dL_law_582 : decode cL_law 582 = .ok (.iadd, 1) := by decide +kernel
theorem dL_law_583 : decode cL_law 583 = .ok (.iaload, 1) := by decide +kernel
theorem dL_law_584 : decode cL_law 584 = .ok (.invokevirtual 82, 3) := by decide +kernel
theorem dL_law_587 : decode cL_law 587 = .ok (.aload_n 2, 1) := by decide +kernel
theorem dL_law_588 : decode cL_law 588 = .ok (.aload_n 0, 1) := by decide +kernel
theorem dL_law_589 : decode cL_law 589 = .ok (.iload_n 3, 1) := by decide +kernel
theorem dL_law_590 : decode cL_law 590 = .ok (.iconst 1, 1) := by decide +kernel
theorem dL_law_591 : decode cL_law 591 = .ok (.iadd, 1) := by decide +kernel
theorem dL_law_592 : decode cL_law 592 = .ok (.iaload, 1) := by decide +kernel
theorem dL_law_593 : decode cL_law 593 = .ok (.aload_n 0, 1) := by decide +kernel
theorem dL_law_594 : decode cL_law 594 = .ok (.iload_n 3, 1) := by decide +kernel
theorem dL_law_595 : decode cL_law 595 = .ok (.iconst 2, 1) := by decide +kernel
theorem dL_law_596 : decode cL_law 596 = .ok (.iadd, 1) := by decide +kernel
theorem dL_law_597 : decode cL_law 597 = .ok (.iaload, 1) := by decide +kernel
theorem dL_law_598 : decode cL_law 598 = .ok (.aload_n 0, 1) := by decide +kernel
theorem dL_law_599 : decode cL_law 599 = .ok (.iload_n 3, 1) := by decide +kernel
theorem dL_law_600 : decode cL_law 600 = .ok (.iconst 3, 1) := by decide +kernel
theorem dL_law_601 : decode cL_law 601 = .ok (.iadd, 1) := by decide +kernel
theorem dL_law_602 : decode cL_law 602 = .ok (.iaload, 1) := by decide +kernel
theorem dL_law_603 : decode cL_law 603 = .ok (.aload_n 0, 1) := by decide +kernel
theorem dL_law_604 : decode cL_law 604 = .ok (.iload_n 3, 1) := by decide +kernel
theorem dL_law_605 : decode cL_law 605 = .ok (.iconst 4, 1) := by decide +kernel
theorem dL_law_606 : decode cL_law 606 = .ok (.iadd, 1) := by decide +kernel
theorem dL_law_607 : decode cL_law 607 = .ok (.iaload, 1) := by decide +kernel
theorem dL_law_608 : decode cL_law 608 = .ok (.aload_n 0, 1) := by decide +kernel
theorem dL_law_609 : decode cL_law 609 = .ok (.iload_n 3, 1) := by decide +kernel
theorem dL_law_610 : decode cL_law 610 = .ok (.iconst 5, 1) := by decide +kernel
theorem dL_law_611 : decode cL_law 611 = .ok (.iadd, 1) := by decide +kernel
theorem dL_law_612 : decode cL_law 612 = .ok (.iaload, 1) := by decide +kernel
theorem dL_law_613 : decode cL_law 613 = .ok (.invokevirtual 86, 3) := by decide +kernel
theorem dL_law_616 : decode cL_law 616 = .ok (.if_icmp .eq 103, 3) := by decide +kernel
theorem dL_law_619 : decode cL_law 619 = .ok (.iconst 0, 1) := by decide +kernel
theorem dL_law_620 : decode cL_law 620 = .ok (.ireturn, 1) := by decide +kernel
theorem dL_law_621 : decode cL_law 621 = .ok (.aload_n 1, 1) := by decide +kernel
theorem dL_law_622 : decode cL_law 622 = .ok (.aload_n 0, 1) := by decide +kernel
theorem dL_law_623 : decode cL_law 623 = .ok (.iload_n 3, 1) := by decide +kernel
theorem dL_law_624 : decode cL_law 624 = .ok (.iconst 1, 1) := by decide +kernel
theorem dL_law_625 : decode cL_law 625 = .ok (.iadd, 1) := by decide +kernel
theorem dL_law_626 : decode cL_law 626 = .ok (.iaload, 1) := by decide +kernel
theorem dL_law_627 : decode cL_law 627 = .ok (.invokevirtual 87, 3) := by decide +kernel
theorem dL_law_630 : decode cL_law 630 = .ok (.aload_n 2, 1) := by decide +kernel
theorem dL_law_631 : decode cL_law 631 = .ok (.aload_n 0, 1) := by decide +kernel
theorem dL_law_632 : decode cL_law 632 = .ok (.iload_n 3, 1) := by decide +kernel
theorem dL_law_633 : decode cL_law 633 = .ok (.iconst 1, 1) := by decide +kernel
theorem dL_law_634 : decode cL_law 634 = .ok (.iadd, 1) := by decide +kernel
theorem dL_law_635 : decode cL_law 635 = .ok (.iaload, 1) := by decide +kernel
theorem dL_law_636 : decode cL_law 636 = .ok (.invokevirtual 90, 3) := by decide +kernel
theorem dL_law_639 : decode cL_law 639 = .ok (.if_icmp .eq 80, 3) := by decide +kernel
theorem dL_law_642 : decode cL_law 642 = .ok (.iconst 0, 1) := by decide +kernel
theorem dL_law_643 : decode cL_law 643 = .ok (.ireturn, 1) := by decide +kernel
theorem dL_law_644 : decode cL_law 644 = .ok (.aload_n 1, 1) := by decide +kernel
theorem dL_law_645 : decode cL_law 645 = .ok (.invokevirtual 91, 3) := by decide +kernel
theorem dL_law_648 : decode cL_law 648 = .ok (.aload_n 2, 1) := by decide +kernel
theorem dL_law_649 : decode cL_law 649 = .ok (.invokevirtual 95, 3) := by decide +kernel
theorem dL_law_652 : decode cL_law 652 = .ok (.if_icmp .eq 67, 3) := by decide +kernel
theorem dL_law_655 : decode cL_law 655 = .ok (.iconst 0, 1) := by decide +kernel
theorem dL_law_656 : decode cL_law 656 = .ok (.ireturn, 1) := by decide +kernel
theorem dL_law_657 : decode cL_law 657 = .ok (.aload_n 1, 1) := by decide +kernel
theorem dL_law_658 : decode cL_law 658 = .ok (.invokevirtual 96, 3) := by decide +kernel
theorem dL_law_661 : decode cL_law 661 = .ok (.aload_n 2, 1) := by decide +kernel
theorem dL_law_662 : decode cL_law 662 = .ok (.invokevirtual 99, 3) := by decide +kernel
theorem dL_law_665 : decode cL_law 665 = .ok (.if_icmp .eq 54, 3) := by decide +kernel
theorem dL_law_668 : decode cL_law 668 = .ok (.iconst 0, 1) := by decide +kernel
theorem dL_law_669 : decode cL_law 669 = .ok (.ireturn, 1) := by decide +kernel
theorem dL_law_670 : decode cL_law 670 = .ok (.aload_n 1, 1) := by decide +kernel
theorem dL_law_671 : decode cL_law 671 = .ok (.invokevirtual 100, 3) := by decide +kernel
theorem dL_law_674 : decode cL_law 674 = .ok (.aload_n 2, 1) := by decide +kernel
theorem dL_law_675 : decode cL_law 675 = .ok (.invokevirtual 103, 3) := by decide +kernel
theorem dL_law_678 : decode cL_law 678 = .ok (.if_icmp .eq 41, 3) := by decide +kernel
theorem dL_law_681 : decode cL_law 681 = .ok (.iconst 0, 1) := by decide +kernel
theorem dL_law_682 : decode cL_law 682 = .ok (.ireturn, 1) := by decide +kernel
theorem dL_law_683 : decode cL_law 683 = .ok (.aload_n 1, 1) := by decide +kernel
theorem dL_law_684 : decode cL_law 684 = .ok (.aload_n 0, 1) := by decide +kernel
theorem dL_law_685 : decode cL_law 685 = .ok (.iload_n 3, 1) := by decide +kernel
theorem dL_law_686 : decode cL_law 686 = .ok (.iconst 1, 1) := by decide +kernel
theorem dL_law_687 : decode cL_law 687 = .ok (.iadd, 1) := by decide +kernel
theorem dL_law_688 : decode cL_law 688 = .ok (.iaload, 1) := by decide +kernel
theorem dL_law_689 : decode cL_law 689 = .ok (.invokevirtual 104, 3) := by decide +kernel
theorem dL_law_692 : decode cL_law 692 = .ok (.aload_n 2, 1) := by decide +kernel
theorem dL_law_693 : decode cL_law 693 = .ok (.aload_n 0, 1) := by decide +kernel
theorem dL_law_694 : decode cL_law 694 = .ok (.iload_n 3, 1) := by decide +kernel
theorem dL_law_695 : decode cL_law 695 = .ok (.iconst 1, 1) := by decide +kernel
theorem dL_law_696 : decode cL_law 696 = .ok (.iadd, 1) := by decide +kernel
theorem dL_law_697 : decode cL_law 697 = .ok (.iaload, 1) := by decide +kernel
theorem dL_law_698 : decode cL_law 698 = .ok (.invokevirtual 107, 3) := by decide +kernel
theorem dL_law_701 : decode cL_law 701 = .ok (.if_icmp .eq 18, 3) := by decide +kernel
theorem dL_law_704 : decode cL_law 704 = .ok (.iconst 0, 1) := by decide +kernel
theorem dL_law_705 : decode cL_law 705 = .ok (.ireturn, 1) := by decide +kernel
theorem dL_law_706 : decode cL_law 706 = .ok (.aload_n 1, 1) := by decide +kernel
theorem dL_law_707 : decode cL_law 707 = .ok (.invokevirtual 108, 3) := by decide +kernel
theorem dL_law_710 : decode cL_law 710 = .ok (.aload_n 2, 1) := by decide +kernel
theorem dL_law_711 : decode cL_law 711 = .ok (.invokevirtual 111, 3) := by decide +kernel
theorem dL_law_714 : decode cL_law 714 = .ok (.if_icmp .eq 5, 3) := by decide +kernel
theorem dL_law_717 : decode cL_law 717 = .ok (.iconst 0, 1) := by decide +kernel
theorem dL_law_718 : decode cL_law 718 = .ok (.ireturn, 1) := by decide +kernel
theorem dL_law_719 : decode cL_law 719 = .ok (.iinc 3 6, 3) := by decide +kernel
theorem dL_law_722 : decode cL_law 722 = .ok (.goto (-704), 3) := by decide +kernel
theorem dL_law_725 : decode cL_law 725 = .ok (.iconst 1, 1) := by decide +kernel
theorem dL_law_726 : decode cL_law 726 = .ok (.ireturn, 1) := by decide +kernel
abbrev vwCl : List vw_C := [(RX0, TX0, 5), (RX1, TX1, 3), (RX2, TX2, 5), (RX3, TX3, 8), (RX4, TX4, 2), (RX5, TX5, 2), (RX7, TX7, 5), (RX8, TX8, 10), (RX9, TX9, 27)]
end
section
/-! ===== base: guards, binds, contracts by pure functions, calls ===== -/
def bnd {α β : Type} (e : α) (k : α → β) : β := k e
def gd {α : Type} (b : Bool) (k : Option α) : Option α := match b with
  | true => k
  | false => none
def ix (i : Int32) (n : Nat) : Bool := !decide (i < 0) && decide (i.toNatClampNeg < n)
def isb (v : Int32) : Bool := decide (v = 0) || decide (v = 1)
theorem ix_in {i : Int32} {n : Nat} (h : ix i n = true) : vp_in i n := by
  simp only [ix, Bool.and_eq_true, Bool.not_eq_true', decide_eq_false_iff_not, decide_eq_true_eq] at h
  intro h1
  rcases h1 with h1 | h1
  · exact h.1 h1
  · omega
theorem gd_t {α : Type} {b : Bool} {k : Option α} {r : α} (h : gd b k = some r) : b = true ∧ k = some r := by
  cases b with
  | false => cases h
  | true => exact ⟨rfl, h⟩
theorem ite_t {α : Type} {c : Prop} [Decidable c] {a b : Option α} {r : α} (h : (if c then a else b) = some r) (hc : c) : a = some r := by
  rw [if_pos hc] at h
  exact h
theorem ite_f {α : Type} {c : Prop} [Decidable c] {a b : Option α} {r : α} (h : (if c then a else b) = some r) (hc : ¬ c) : b = some r := by
  rw [if_neg hc] at h
  exact h
theorem isb_n {v : Int32} (h : isb v = true) : narrow .boolean (.int v) = .int v ∧ fits .boolean (.int v) = true := by
  simp only [isb, Bool.or_eq_true, decide_eq_true_eq] at h
  rcases h with rfl | rfl
  · exact ⟨by decide, by decide⟩
  · exact ⟨by decide, by decide⟩
theorem lc_t {x y : Int64} (h : lg_cmp x y = 0) : x = y := by
  unfold lg_cmp at h
  split at h
  · exact absurd h (by decide)
  · split at h
    · assumption
    · exact absurd h (by decide)
theorem lc_f {x y : Int64} (h : ¬ lg_cmp x y = 0) : ¬ x = y := by
  intro e
  subst e
  apply h
  unfold lg_cmp
  rw [if_neg (by simp only [gt_iff_lt, Int64.lt_iff_toInt_lt]; omega), if_pos rfl]
theorem mf {w wc : va_W} {is : List Nat} (h : is.map (fun i => w[i]?) = wc.map some) : is.filterMap (fun i => w[i]?) = wc := by
  have h1 : is.filterMap (fun i => w[i]?) = (is.map (fun i => w[i]?)).filterMap id := by
    rw [List.filterMap_map]
    rfl
  rw [h1, h, List.filterMap_map]
  simp
def Cx (p : Program) (s : State) (m : MethodId) (args : Array Value) (meth : Method) (c : Code) (cc : ByteArray) (Ts : List Cond) (own : String) (nL : Nat) (rt : Option FieldType) : Prop :=
  CallFix p m c cc nL s args Ts own ∧ meth.sig.returnType = rt ∧ meth.locks = false
abbrev tyL (cI cJ : ClassId) : List (ClassId × FieldType) := [(cI, .int), (cJ, .long)]
def St (D : va_G) (A : Nat → Prop) (s : State) (w : va_W) (H : Heap) (locs : List Loc) : Prop := va_P D vwCl w H ∧ va_D A w ∧ va_S A s.heap H locs
def byL (j : Nat) : Int64 := match j with
  | 0 => 1
  | 1 => 4295033110
  | 2 => 282668995843688
  | 3 => 78274679833913472
  | 4 => 1614655367130677248
  | 5 => 7530159316599308288
  | _ => -9223372036854775808
def byOk (t : Nat) (A : Nat → Prop) (U : State) (H : Heap) : Prop := va_Z "HoleHouse$Sets" "BY_SIZE" "[J" (.ref t) A U H ∧ va_T .long t 7 (fun j => .long (byL j)) A U H
def XT (xb : Option Nat) (A : Nat → Prop) (U : State) (H : Heap) : Prop := match xb with
  | none => True
  | some t => byOk t A U H
theorem XT.go {xb : Option Nat} {A B : Nat → Prop} {s U : State} {H : Heap} {locs : List Loc} (h : XT xb A s s.heap) (hS : va_S A s.heap H locs) (hB : ∀ q, B q → A q) (hvm : s.vm.Alike U.vm) : XT xb B U H := by
  cases xb with
  | none => trivial
  | some t => exact ⟨va_Z.moved hvm ((h.1.kept hS.2.1).narrow hB), va_T.moved hvm ((h.2.kept hS.2.1).narrow hB)⟩
theorem XT.mv {xb : Option Nat} {A : Nat → Prop} {s U : State} {H : Heap} (h : XT xb A s H) (hvm : s.vm.Alike U.vm) : XT xb A U H := by
  cases xb with
  | none => trivial
  | some t => exact ⟨va_Z.moved hvm h.1, va_T.moved hvm h.2⟩
def Pr (D : va_G) (cI cJ : ClassId) (xb : Option Nat) (av : List Value) (w : va_W) (sz : Nat) : Array Value → State → Prop := va_Pc av (fun U => U.heap.size = sz ∧ va_P D vwCl w U.heap ∧ va_K D vwCl (tyL cI cJ) U ∧ va_D (fun _ => True) w ∧ XT xb (va_A w sz) U U.heap)
theorem Pr.blind {D : va_G} {cI cJ : ClassId} {xb : Option Nat} {av : List Value} {w : va_W} {sz : Nat} : FrameBlind (Pr D cI cJ xb av w sz) := by
  intro a U g mk q
  obtain ⟨q0, q1, qP, qK, qD, qX⟩ := q
  exact ⟨q0, q1, qP, va_K.moved (u := U) (U := U.calling g mk a) (Vm.Alike.refl U.vm) qK, qD, XT.mv (s := U) (U := U.calling g mk a) qX (Vm.Alike.refl U.vm)⟩
def Bw (D : va_G) (cI cJ : ClassId) (A : Nat → Prop) (w : va_W) (t : State) : Prop := va_P D vwCl w t.heap ∧ va_K D vwCl (tyL cI cJ) t ∧ va_D A w
def QI (D : va_G) (cI cJ : ClassId) (A : Nat → Prop) (w : va_W) (r : Int32) : Array Value → State → Outcome → State → Prop := va_Qi (fun x (_ : Unit) => x = r) (fun _ t => Bw D cI cJ A w t) A
def QL (D : va_G) (cI cJ : ClassId) (A : Nat → Prop) (w : va_W) (r : Int64) : Array Value → State → Outcome → State → Prop := va_Ql (fun x (_ : Unit) => x = r) (fun _ t => Bw D cI cJ A w t) A
def QV (D : va_G) (cI cJ : ClassId) (A : Nat → Prop) (w : va_W) : Array Value → State → Outcome → State → Prop := va_Qv (fun (_ : Unit) => True) (fun _ t => Bw D cI cJ A w t) A
def CtI (l : Launch) (y : MethodName) (ws : List Cond) (rm : Room) (D : va_G) (cI cJ : ClassId) (xb : Option Nat) (av : List Value) (w : va_W) (r : Int32) (w' : va_W) : Prop := ∀ sz, Met l y ws rm (Pr D cI cJ xb av w sz) (QI D cI cJ (va_A w sz) w' r) 0 0 (va_A w sz)
def CtL (l : Launch) (y : MethodName) (ws : List Cond) (rm : Room) (D : va_G) (cI cJ : ClassId) (xb : Option Nat) (av : List Value) (w : va_W) (r : Int64) (w' : va_W) : Prop := ∀ sz, Met l y ws rm (Pr D cI cJ xb av w sz) (QL D cI cJ (va_A w sz) w' r) 0 0 (va_A w sz)
def CtV (l : Launch) (y : MethodName) (ws : List Cond) (rm : Room) (D : va_G) (cI cJ : ClassId) (xb : Option Nat) (av : List Value) (w : va_W) (w' : va_W) : Prop := ∀ sz, Met l y ws rm (Pr D cI cJ xb av w sz) (QV D cI cJ (va_A w sz) w') 0 0 (va_A w sz)
/-- the body of a method, at its entry, with any end -/
def BodyW (l : Launch) (cc : ByteArray) (ws : List Cond) (own : String) (nL : Nat) (rt : Option FieldType) (rm : Room) (D : va_G) (cI cJ : ClassId) (xb : Option Nat) (av : List Value) (w : va_W) (Qc : (Nat → Prop) → Array Value → State → Outcome → State → Prop) : Prop :=
  ∀ {p : Program} {e : Env} {s : State} {m : MethodId} {below : List Frame} {meth : Method} {c : Code} {A : Nat → Prop}, Cx p s m av.toArray meth c cc ws own nL rt → va_K D vwCl (tyL cI cJ) s → (∀ q, s.heap.size ≤ q → A q) → XT xb A s s.heap → ∀ ls : Array Slot, St D A s w s.heap [] → lv_has ls nL (lv_args 0 av) → W p l e rm s m av.toArray below meth c s.heap [] 0 0 (MQ below (Qc A) av.toArray s 0 0 A) (F0 m 0 ls [])
theorem BodyW.met {l : Launch} {y : MethodName} {cc : ByteArray} {ws ws' : List Cond} {own : String} {nL : Nat} {rt : Option FieldType} {rm : Room} {D : va_G} {cI cJ : ClassId} {xb : Option Nat} {av : List Value} {w : va_W} {Qc : (Nat → Prop) → Array Value → State → Outcome → State → Prop} (hy : plainName y.cls = true) (hw : ws = Cond.code y cc nL rt :: ws') (ho : y.cls = own) (hlen : (lg_sl av).length ≤ nL) (body : BodyW l cc ws own nL rt rm D cI cJ xb av w Qc) (sz : Nat) : Met l y ws rm (Pr D cI cJ xb av w sz) (Qc (va_A w sz)) 0 0 (va_A w sz) := by
  subst ho
  refine Met.ofW (cc := cc) (maxL := nL) (ret := rt) hy hw ?_
  intro p e s m args below meth c s₁ B hml hv
  obtain ⟨rfl, hsz, hP, hK, hD0, hX⟩ := hv
  have hts := atoms_spec (ws := ws) B.pre
  have hown : s.vm.findClass y.cls = some m.cls := findClass_of_methodNamed B.named
  subst hsz
  have hD := hD0.self (sz := s.heap.size)
  have hl := lv_entry av (n := nL) hlen
  rw [lg_entry_eq]
  exact body (A := va_A w s.heap.size) ⟨⟨B.exec, B.bytes, hml, hown, hts⟩, B.returns, B.notSynchronized⟩ hK (fun q h => Or.inr h) hX _ ⟨hP, hD, va_S.rf⟩ hl
section HB
variable {p : Program} {l : Launch} {e : Env} {R : Room} {s : State} {m : MethodId} {args : Array Value} {below : List Frame} {meth : Method} {c : Code} {H : Heap} {locs : List Loc} {cells slots : Nat} {Q : State → Prop}
variable {cc : ByteArray} {Ts : List Cond} {own : String} {nL : Nat} {rt : Option FieldType} {pc : Nat} {ls : Array Slot} {rest st0 : List Value} {D : va_G} {A : Nat → Prop} {w w' : va_W} {cI cJ : ClassId} {a : Nat} {xb : Option Nat}
theorem tp_i {ρ : Type} {Rr : ρ} {x : Int32} {F : Int32 → Option ρ} (hf : bnd x F = some Rr) (k : ∀ y : Int32, F y = some Rr → W p l e R s m args below meth c H locs cells slots Q (F0 m pc ls (.int y :: rest))) : W p l e R s m args below meth c H locs cells slots Q (F0 m pc ls (.int x :: rest)) := k x hf
theorem tp_l {ρ : Type} {Rr : ρ} {x : Int64} {F : Int64 → Option ρ} (hf : bnd x F = some Rr) (k : ∀ y : Int64, F y = some Rr → W p l e R s m args below meth c H locs cells slots Q (F0 m pc ls (.long y :: rest))) : W p l e R s m args below meth c H locs cells slots Q (F0 m pc ls (.long x :: rest)) := k x hf
theorem hb_get (C0 : Cx p s m args meth c cc Ts own nL rt) (hK : va_K D vwCl (tyL cI cJ) s) (hSt : St D A s w H locs) (q0 ci k : Nat) {C : String} {T : u_T} {N index : Nat} {fs : List Value} {v : Value} (he : w[q0]? = some (a, .inr (ci, fs))) (hc : vwCl[ci]? = some (C, T, N)) (hin : ∀ x ∈ u_ws C T N, x ∈ Ts) (hk : k < N) (hlink : Cond.fieldLink own index (T k).1 (T k).2.1 (T k).2.2.1 ∈ Ts) (hv : fs[k]? = some v) (hdg : decode cc pc = .ok (.getfield index, 3))
    (kk : W p l e R s m args below meth c H locs cells slots Q (F0 m (pc + 3) ls (v :: rest))) : W p l e R s m args below meth c H locs cells slots Q (F0 m pc ls (.ref a :: rest)) :=
  va_get C0.1.1 C0.1.2.1 C0.1.2.2.2.2 hin C0.1.2.2.2.1 hK hSt.1 q0 he hc k hk (C0.1.2.2.2.2 _ hlink) (fun _ h => h) hv hdg kk
theorem hb_put (C0 : Cx p s m args meth c cc Ts own nL rt) (hK : va_K D vwCl (tyL cI cJ) s) (hSt : St D A s w H locs) (q0 ci k : Nat) {C : String} {T : u_T} {N index : Nat} {fs : List Value} {v : Value} (he : w[q0]? = some (a, .inr (ci, fs))) (hc : vwCl[ci]? = some (C, T, N)) (hin : ∀ x ∈ u_ws C T N, x ∈ Ts) (ty0 : Nat → FieldType) (hty : ∀ k, k < N → parseFieldDescriptor (T k).2.2.1 = some (ty0 k)) (hnm : ∀ a, a < N → ∀ b, b < N → a ≠ b → (T a).2.1 ≠ (T b).2.1) (hk : k < N) (hlink : Cond.fieldLink own index (T k).1 (T k).2.1 (T k).2.2.1 ∈ Ts) (hfin : (T k).2.2.2 = false) (hn : narrow (ty0 k) v = v) (hfit : fits (ty0 k) v = true) (hl : k < fs.length) (hw : w.set q0 (a, .inr (ci, fs.set k v)) = w') (hdg : decode cc pc = .ok (.putfield index, 3))
    (kk : ∀ (H1 : Heap) (locs1 : List Loc), St D A s w' H1 locs1 → W p l e R s m args below meth c H1 locs1 cells slots Q (F0 m (pc + 3) ls rest)) : W p l e R s m args below meth c H locs cells slots Q (F0 m pc ls (v :: .ref a :: rest)) := by
  subst hw
  exact va_put C0.1.1 C0.1.2.1 C0.1.2.2.2.2 hin ty0 hty hnm C0.1.2.2.2.1 hK hSt.1 hSt.2.1 hSt.2.2 q0 he hc k hk (C0.1.2.2.2.2 _ hlink) (fun _ h => h) hfin (hty k hk) hn hfit hl hdg (fun H1 locs1 h1 h2 h3 => kk H1 locs1 ⟨h1, h2, h3⟩)
theorem hb_iald (C0 : Cx p s m args meth c cc Ts own nL rt) (hK : va_K D vwCl (tyL cI cJ) s) (hSt : St D A s w H locs) (q0 : Nat) {n : Nat} {f : Nat → Int32} {i : Int32} (ha : w[q0]? = some (a, .inl (cI, n, .inl f))) (hi : ix i n = true) (hdg : decode cc pc = .ok (.iaload, 1))
    (kk : W p l e R s m args below meth c H locs cells slots Q (F0 m (pc + 1) ls (.int (f i.toNatClampNeg) :: rest))) : W p l e R s m args below meth c H locs cells slots Q (F0 m pc ls (.int i :: .ref a :: rest)) :=
  va_iald C0.1.1 C0.1.2.1 hK hSt.1 q0 0 ha rfl (ix_in hi) hdg kk
theorem hb_lald (C0 : Cx p s m args meth c cc Ts own nL rt) (hK : va_K D vwCl (tyL cI cJ) s) (hSt : St D A s w H locs) (q0 : Nat) {n : Nat} {f : Nat → Int64} {i : Int32} (ha : w[q0]? = some (a, .inl (cJ, n, .inr (.inl f)))) (hi : ix i n = true) (hdg : decode cc pc = .ok (.laload, 1))
    (kk : W p l e R s m args below meth c H locs cells slots Q (F0 m (pc + 1) ls (.long (f i.toNatClampNeg) :: rest))) : W p l e R s m args below meth c H locs cells slots Q (F0 m pc ls (.int i :: .ref a :: rest)) :=
  va_lald C0.1.1 C0.1.2.1 hK hSt.1 q0 1 ha rfl (ix_in hi) hdg kk
theorem hb_iast (C0 : Cx p s m args meth c cc Ts own nL rt) (hK : va_K D vwCl (tyL cI cJ) s) (hSt : St D A s w H locs) (q0 : Nat) {n : Nat} {f : Nat → Int32} {i x : Int32} (ha : w[q0]? = some (a, .inl (cI, n, .inl f))) (hi : ix i n = true) (hw : w.set q0 (a, .inl (cI, n, .inl (upd f i.toNatClampNeg x))) = w') (hdg : decode cc pc = .ok (.iastore, 1))
    (kk : ∀ (H1 : Heap) (locs1 : List Loc), St D A s w' H1 locs1 → W p l e R s m args below meth c H1 locs1 cells slots Q (F0 m (pc + 1) ls rest)) : W p l e R s m args below meth c H locs cells slots Q (F0 m pc ls (.int x :: .int i :: .ref a :: rest)) := by
  subst hw
  exact va_iast C0.1.1 C0.1.2.1 hK hSt.1 hSt.2.1 hSt.2.2 q0 0 ha rfl (ix_in hi) hdg (fun H1 locs1 h1 h2 h3 => kk H1 locs1 ⟨h1, h2, h3⟩)
theorem hb_last (C0 : Cx p s m args meth c cc Ts own nL rt) (hK : va_K D vwCl (tyL cI cJ) s) (hSt : St D A s w H locs) (q0 : Nat) {n : Nat} {f : Nat → Int64} {i : Int32} {x : Int64} (ha : w[q0]? = some (a, .inl (cJ, n, .inr (.inl f)))) (hi : ix i n = true) (hw : w.set q0 (a, .inl (cJ, n, .inr (.inl (vp_updL f i.toNatClampNeg x)))) = w') (hdg : decode cc pc = .ok (.lastore, 1))
    (kk : ∀ (H1 : Heap) (locs1 : List Loc), St D A s w' H1 locs1 → W p l e R s m args below meth c H1 locs1 cells slots Q (F0 m (pc + 1) ls rest)) : W p l e R s m args below meth c H locs cells slots Q (F0 m pc ls (.long x :: .int i :: .ref a :: rest)) := by
  subst hw
  exact va_last C0.1.1 C0.1.2.1 hK hSt.1 hSt.2.1 hSt.2.2 q0 1 ha rfl (ix_in hi) hdg (fun H1 locs1 h1 h2 h3 => kk H1 locs1 ⟨h1, h2, h3⟩)
theorem hb_ilen (C0 : Cx p s m args meth c cc Ts own nL rt) (hK : va_K D vwCl (tyL cI cJ) s) (hSt : St D A s w H locs) (q0 : Nat) {n : Nat} {f : Nat → Int32} {v : Int32} (ha : w[q0]? = some (a, .inl (cI, n, .inl f))) (hv : Int32.ofNat n = v) (hdg : decode cc pc = .ok (.arraylength, 1))
    (kk : W p l e R s m args below meth c H locs cells slots Q (F0 m (pc + 1) ls (.int v :: rest))) : W p l e R s m args below meth c H locs cells slots Q (F0 m pc ls (.ref a :: rest)) :=
  va_alen C0.1.1 C0.1.2.1 hK hSt.1 q0 0 (x := (n, .inl f)) ha (ty := .int) rfl hv hdg kk
theorem hb_llen (C0 : Cx p s m args meth c cc Ts own nL rt) (hK : va_K D vwCl (tyL cI cJ) s) (hSt : St D A s w H locs) (q0 : Nat) {n : Nat} {f : Nat → Int64} {v : Int32} (ha : w[q0]? = some (a, .inl (cJ, n, .inr (.inl f)))) (hv : Int32.ofNat n = v) (hdg : decode cc pc = .ok (.arraylength, 1))
    (kk : W p l e R s m args below meth c H locs cells slots Q (F0 m (pc + 1) ls (.int v :: rest))) : W p l e R s m args below meth c H locs cells slots Q (F0 m pc ls (.ref a :: rest)) :=
  va_alen C0.1.1 C0.1.2.1 hK hSt.1 q0 1 (x := (n, .inr (.inl f))) ha (ty := .long) rfl hv hdg kk
theorem hb_iret (C0 : Cx p s m args meth c cc Ts own nL (some .int)) (hK : va_K D vwCl (tyL cI cJ) s) (hSt : St D A s w H locs) {r : Int32} (hdg : decode cc pc = .ok (.ireturn, 1)) : W p l e R s m args below meth c H locs 0 0 (MQ below (QI D cI cJ A w r) args s 0 0 A) (F0 m pc ls [.int r]) :=
  W.iret C0.1.1 C0.1.2.1 C0.2.1 (fun t ht hW => ⟨⟨r, (), rfl, rfl, by rw [ht]; exact hSt.1, va_K.moved hW.alike hK, hSt.2.1⟩, hSt.2.2.F ht⟩) hSt.2.2.2.2 hdg C0.2.2
theorem hb_zret (C0 : Cx p s m args meth c cc Ts own nL (some .boolean)) (hK : va_K D vwCl (tyL cI cJ) s) (hSt : St D A s w H locs) {r : Int32} (hn : narrow .boolean (.int r) = .int r) (hdg : decode cc pc = .ok (.ireturn, 1)) : W p l e R s m args below meth c H locs 0 0 (MQ below (QI D cI cJ A w r) args s 0 0 A) (F0 m pc ls [.int r]) :=
  W.zret C0.1.1 C0.1.2.1 C0.2.1 hn (fun t ht hW => ⟨⟨r, (), rfl, rfl, by rw [ht]; exact hSt.1, va_K.moved hW.alike hK, hSt.2.1⟩, hSt.2.2.F ht⟩) hSt.2.2.2.2 hdg C0.2.2
theorem hb_lret (C0 : Cx p s m args meth c cc Ts own nL (some .long)) (hK : va_K D vwCl (tyL cI cJ) s) (hSt : St D A s w H locs) {r : Int64} (hdg : decode cc pc = .ok (.lreturn, 1)) : W p l e R s m args below meth c H locs 0 0 (MQ below (QL D cI cJ A w r) args s 0 0 A) (F0 m pc ls [.long r]) :=
  W.lret C0.1.1 C0.1.2.1 C0.2.1 (fun t ht hW => ⟨⟨r, (), rfl, rfl, by rw [ht]; exact hSt.1, va_K.moved hW.alike hK, hSt.2.1⟩, hSt.2.2.F ht⟩) hSt.2.2.2.2 hdg C0.2.2
theorem hb_vret (C0 : Cx p s m args meth c cc Ts own nL none) (hK : va_K D vwCl (tyL cI cJ) s) (hSt : St D A s w H locs) (hdg : decode cc pc = .ok (.return_, 1)) : W p l e R s m args below meth c H locs 0 0 (MQ below (QV D cI cJ A w) args s 0 0 A) (F0 m pc ls []) :=
  W.vret C0.1.1 C0.1.2.1 C0.2.1 (fun t ht hW => ⟨⟨(), rfl, trivial, by rw [ht]; exact hSt.1, va_K.moved hW.alike hK, hSt.2.1⟩, hSt.2.2.F ht⟩) hSt.2.2.2.2 hdg C0.2.2
end HB
end
section
/-! ===== calls, over contracts by pure functions ===== -/
/-- a callee's cells wc are the caller's at isC, the rest are at isR; behind the call the caller's world is w' -/
def Sp (w wc wc' w' : va_W) (isC isR isB : List Nat) : Prop := isC.map (fun i => w[i]?) = wc.map some ∧ isR.map (fun i => w[i]?) = (isR.filterMap (fun i => w[i]?)).map some ∧ isB.map (fun i => (isR.filterMap (fun i => w[i]?) ++ wc')[i]?) = w'.map some ∧ va_nd isC = true ∧ va_nd isR = true ∧ va_nd isB = true ∧ ∀ i ∈ isR, i ∉ isC
section HC
variable {p : Program} {l : Launch} {e : Env} {R : Room} {s : State} {m : MethodId} {args : Array Value} {below : List Frame} {meth : Method} {c : Code} {H : Heap} {locs : List Loc} {cells slots : Nat} {Q : State → Prop}
variable {cc : ByteArray} {Ts : List Cond} {own : String} {nL : Nat} {rt : Option FieldType} {pc : Nat} {ls : Array Slot} {lv : List (Nat × Value)} {rest st0 : List Value} {D : va_G} {A : Nat → Prop} {w w' wc wc' : va_W} {cI cJ : ClassId} {a : Array Value} {xb : Option Nat} {isC isR isB : List Nat}
variable {y : MethodName} {bytes : ByteArray} {maxL index n : Nat} {ret : Option FieldType} {wsC wsC' : List Cond} {rmC : Room} {C : String} {T : u_T} {N : Nat} {fs : List Value} {b : Nat} {As : List Value} {Qc : Nat → Array Value → State → Outcome → State → Prop}
theorem hb_pre (hK : va_K D vwCl (tyL cI cJ) s) (hA : ∀ q, s.heap.size ≤ q → A q) (hX : XT xb A s s.heap) (hSt : St D A s w H locs) (hsp : Sp w wc wc' w' isC isR isB) (U : State) (hU : U.heap = H) (hW : s.WarmedH U.vm) : Pr D cI cJ xb As wc H.size As.toArray U := by
  have hFc : ∀ q, va_A wc H.size q → A q := va_free hSt.2.1 hSt.2.2 hA isC hsp.1
  exact ⟨rfl, by rw [hU], by rw [hU]; exact hSt.1.sub isC (mf hsp.1), va_K.moved hW.alike hK, (hSt.2.1.sub isC hsp.2.2.2.1 hsp.1).weaken (fun _ _ _ _ => trivial), by rw [hU]; exact hX.go hSt.2.2 hFc hW.alike⟩
theorem hb_rV (C0 : Cx p s m args meth c cc Ts own nL rt) (hK : va_K D vwCl (tyL cI cJ) s) (hA : ∀ q, s.heap.size ≤ q → A q) (hX : XT xb A s s.heap) (hSt : St D A s w H locs) (hsp : Sp w wc wc' w' isC isR isB) (hM : ∀ sz, Met l y wsC rmC (Pr D cI cJ xb (.ref b :: As) wc sz) (Qc sz) 0 0 (va_A wc sz))
    (hG : GoodIn Ts (wsV own index C y wsC)) (hw : wsC = Cond.code y bytes maxL ret :: wsC') (hrc : rmC.cells = 0 ∧ rmC.slots = 0) (hd : y.cls = C ∧ y.cls ≠ "java/lang/invoke/MethodHandle" ∧ y.cls ≠ "java/lang/invoke/VarHandle" ∧ (parseMethodDescriptor y.desc).map (fun d => d.parameters.length) = some n) (hR : rmC.frames + 1 ≤ R.frames ∧ 8 + (maxL + 11) + rmC.locals ≤ R.locals)
    (q0 ci : Nat) (hc : vwCl[ci]? = some (C, T, N)) (he : w[q0]? = some (b, .inr (ci, fs))) (hlen : As.length = n) (hl : lv_has ls nL lv) (hst : st0 = As.reverse ++ .ref b :: rest) (hW : (rest.map fun v => v.category).sum ≤ 8) (hdg : decode cc pc = .ok (.invokevirtual index, 3)) (hcs : cells ≤ R.cells ∧ slots ≤ R.slots) :
    va_Run p l e R s m args below meth c H locs cells slots 0 0 (F0 m pc ls st0) rest (Qc H.size (Value.ref b :: As).toArray) (va_A wc H.size) :=
  va_runV (As := As) (rest := rest) C0.1 (hM H.size) (cwV n C0.1.2.2.2.2 hG hw hrc.1 hrc.2 hd hR) ⟨Pr.blind, va_recv hK hSt.1 hc he, fun U hU hW => hb_pre (As := .ref b :: As) hK hA hX hSt hsp U hU hW⟩ rfl hlen hl.1 hst (lv_room hW) hdg hcs
theorem hb_rS (C0 : Cx p s m args meth c cc Ts own nL rt) (hK : va_K D vwCl (tyL cI cJ) s) (hA : ∀ q, s.heap.size ≤ q → A q) (hX : XT xb A s s.heap) (hSt : St D A s w H locs) (hsp : Sp w wc wc' w' isC isR isB) (hM : ∀ sz, Met l y wsC rmC (Pr D cI cJ xb As wc sz) (Qc sz) 0 0 (va_A wc sz))
    (hG : GoodIn Ts (va_wsS own index y wsC)) (hw : wsC = Cond.code y bytes maxL ret :: wsC') (hrc : rmC.cells = 0 ∧ rmC.slots = 0) (hd : y.cls ≠ "java/lang/invoke/MethodHandle" ∧ y.cls ≠ "java/lang/invoke/VarHandle" ∧ (parseMethodDescriptor y.desc).map (fun d => d.parameters.length) = some n) (hR : rmC.frames + 1 ≤ R.frames ∧ 8 + (maxL + 11) + rmC.locals ≤ R.locals)
    (hlen : As.length = n) (hl : lv_has ls nL lv) (hst : st0 = As.reverse ++ rest) (hW : (rest.map fun v => v.category).sum ≤ 8) (hdg : decode cc pc = .ok (.invokestatic index, 3)) (hcs : cells ≤ R.cells ∧ slots ≤ R.slots) :
    va_Run p l e R s m args below meth c H locs cells slots 0 0 (F0 m pc ls st0) rest (Qc H.size As.toArray) (va_A wc H.size) :=
  va_runS (As := As) (rest := rest) C0.1 (hM H.size) (va_cwS n C0.1.2.2.2.2 hG hw hrc.1 hrc.2 hd hR) ⟨Pr.blind, fun U hU hW => hb_pre (As := As) hK hA hX hSt hsp U hU hW⟩ rfl hlen hl.1 hst (lv_room hW) hdg hcs
theorem hb_back (hA : ∀ q, s.heap.size ≤ q → A q) (hSt : St D A s w H locs) (hsp : Sp w wc wc' w' isC isR isB) {t : State} {H1 : Heap} {locs1 : List Loc} (ht : t.heap = H1) (hB : Bw D cI cJ (va_A wc H.size) wc' t) (hk : ∀ q : Nat, q < H.size → ¬ va_A wc H.size q → H1[q]? = H[q]?) (hS : va_S A s.heap H1 locs1) : St D A s w' H1 locs1 := by
  have hFc : ∀ q, va_A wc H.size q → A q := va_free hSt.2.1 hSt.2.2 hA isC hsp.1
  obtain ⟨hP1, hK1, hD1⟩ := hB
  rw [ht] at hP1
  obtain ⟨hP2, hD2⟩ := va_join hSt.1 hSt.2.1 isC isR hsp.1 hsp.2.1 hsp.2.2.2.2.1 hsp.2.2.2.2.2.2 hk hFc hP1 hD1
  exact ⟨hP2.sub isB (mf hsp.2.2.1), hD2.sub isB hsp.2.2.2.2.2.1 hsp.2.2.1, hS⟩
theorem hb_ci {r : Int32} (run : va_Run p l e R s m args below meth c H locs cells slots 0 0 (F0 m pc ls st0) rest (QI D cI cJ (va_A wc H.size) wc' r a) (va_A wc H.size)) (hA : ∀ q, s.heap.size ≤ q → A q) (hSt : St D A s w H locs) (hsp : Sp w wc wc' w' isC isR isB)
    (kk : ∀ (H1 : Heap) (locs1 : List Loc), St D A s w' H1 locs1 → W p l e R s m args below meth c H1 locs1 cells slots Q (F0 m (pc + 3) ls (.int r :: rest))) : W p l e R s m args below meth c H locs cells slots Q (F0 m pc ls st0) := by
  have hFc : ∀ q, va_A wc H.size q → A q := va_free hSt.2.1 hSt.2.2 hA isC hsp.1
  refine va_calli run hSt.2.2 (fun q _ h => hFc q h) hFc (fun r' u t H1 locs1 ht hvm hw hB hz hk hS => ?_)
  have hw : r' = r := hw
  subst hw
  exact kk H1 locs1 (hb_back hA hSt hsp ht hB hk hS)
theorem hb_cl {r : Int64} (run : va_Run p l e R s m args below meth c H locs cells slots 0 0 (F0 m pc ls st0) rest (QL D cI cJ (va_A wc H.size) wc' r a) (va_A wc H.size)) (hA : ∀ q, s.heap.size ≤ q → A q) (hSt : St D A s w H locs) (hsp : Sp w wc wc' w' isC isR isB)
    (kk : ∀ (H1 : Heap) (locs1 : List Loc), St D A s w' H1 locs1 → W p l e R s m args below meth c H1 locs1 cells slots Q (F0 m (pc + 3) ls (.long r :: rest))) : W p l e R s m args below meth c H locs cells slots Q (F0 m pc ls st0) := by
  have hFc : ∀ q, va_A wc H.size q → A q := va_free hSt.2.1 hSt.2.2 hA isC hsp.1
  refine va_calll run hSt.2.2 (fun q _ h => hFc q h) hFc (fun r' u t H1 locs1 ht hvm hw hB hz hk hS => ?_)
  have hw : r' = r := hw
  subst hw
  exact kk H1 locs1 (hb_back hA hSt hsp ht hB hk hS)
theorem hb_cv (run : va_Run p l e R s m args below meth c H locs cells slots 0 0 (F0 m pc ls st0) rest (QV D cI cJ (va_A wc H.size) wc' a) (va_A wc H.size)) (hA : ∀ q, s.heap.size ≤ q → A q) (hSt : St D A s w H locs) (hsp : Sp w wc wc' w' isC isR isB)
    (kk : ∀ (H1 : Heap) (locs1 : List Loc), St D A s w' H1 locs1 → W p l e R s m args below meth c H1 locs1 cells slots Q (F0 m (pc + 3) ls rest)) : W p l e R s m args below meth c H locs cells slots Q (F0 m pc ls st0) := by
  have hFc : ∀ q, va_A wc H.size q → A q := va_free hSt.2.1 hSt.2.2 hA isC hsp.1
  refine va_callv run hSt.2.2 (fun q _ h => hFc q h) hFc (fun u t H1 locs1 ht hvm hw hB hz hk hS => ?_)
  exact kk H1 locs1 (hb_back hA hSt hsp ht hB hk hS)
end HC
end
