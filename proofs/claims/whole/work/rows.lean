section
-- ===== PART A: goes FIRST, ahead of the names: the tables' words, and 'selects' of the private methods out of them =====
/-- a private method of a class that the tables say can be made, by its rows of tables_1 -/
def lw_okq (q : MethodName × Nat) : Prop := (q.1.cls ≠ "java/lang/invoke/MethodHandle" ∧ q.1.cls ≠ "java/lang/invoke/VarHandle") ∧ Cond.instantiable q.1.cls q.2 ∈ tables_1 ∧ Cond.privateMethod q.1 ∈ tables_1 ∧ Cond.instanceMethod q.1 ∈ tables_1
theorem lw_p0 : lw_okq (⟨"SoiledTests$Past", "markedSlot", "()LSoiledTests$Suite;"⟩, 3) := ⟨⟨by decide +kernel, by decide +kernel⟩, List.mem_of_getElem? (i := 65) (by decide +kernel), List.mem_of_getElem? (i := 161) (by decide +kernel), List.mem_of_getElem? (i := 162) (by decide +kernel)⟩
theorem lw_p1 : lw_okq (⟨"SoiledTests", "settled", "(I)I"⟩, 8) := ⟨⟨by decide +kernel, by decide +kernel⟩, List.mem_of_getElem? (i := 13) (by decide +kernel), List.mem_of_getElem? (i := 184) (by decide +kernel), List.mem_of_getElem? (i := 185) (by decide +kernel)⟩
theorem lw_p2 : lw_okq (⟨"SoiledTests", "refused", "(I)I"⟩, 8) := ⟨⟨by decide +kernel, by decide +kernel⟩, List.mem_of_getElem? (i := 13) (by decide +kernel), List.mem_of_getElem? (i := 188) (by decide +kernel), List.mem_of_getElem? (i := 189) (by decide +kernel)⟩
theorem lw_p3 : lw_okq (⟨"SoiledTests$Row", "swap", "(II)V"⟩, 2) := ⟨⟨by decide +kernel, by decide +kernel⟩, List.mem_of_getElem? (i := 27) (by decide +kernel), List.mem_of_getElem? (i := 288) (by decide +kernel), List.mem_of_getElem? (i := 289) (by decide +kernel)⟩
theorem lw_p4 : lw_okq (⟨"SoiledTests", "areTwoTests", "(II)Z"⟩, 8) := ⟨⟨by decide +kernel, by decide +kernel⟩, List.mem_of_getElem? (i := 13) (by decide +kernel), List.mem_of_getElem? (i := 363) (by decide +kernel), List.mem_of_getElem? (i := 364) (by decide +kernel)⟩
theorem lw_p5 : lw_okq (⟨"SoiledTests", "flippedBySeed", "(I)I"⟩, 8) := ⟨⟨by decide +kernel, by decide +kernel⟩, List.mem_of_getElem? (i := 13) (by decide +kernel), List.mem_of_getElem? (i := 384) (by decide +kernel), List.mem_of_getElem? (i := 385) (by decide +kernel)⟩
theorem lw_p6 : lw_okq (⟨"SoiledTests$Orders", "takes", "(I)Z"⟩, 6) := ⟨⟨by decide +kernel, by decide +kernel⟩, List.mem_of_getElem? (i := 100) (by decide +kernel), List.mem_of_getElem? (i := 489) (by decide +kernel), List.mem_of_getElem? (i := 490) (by decide +kernel)⟩
theorem lw_p7 : lw_okq (⟨"SoiledTests$Orders", "opensOrder", "(I)Z"⟩, 6) := ⟨⟨by decide +kernel, by decide +kernel⟩, List.mem_of_getElem? (i := 100) (by decide +kernel), List.mem_of_getElem? (i := 493) (by decide +kernel), List.mem_of_getElem? (i := 494) (by decide +kernel)⟩
theorem lw_p8 : lw_okq (⟨"SoiledTests$Orders", "endsOrder", "()Z"⟩, 6) := ⟨⟨by decide +kernel, by decide +kernel⟩, List.mem_of_getElem? (i := 100) (by decide +kernel), List.mem_of_getElem? (i := 500) (by decide +kernel), List.mem_of_getElem? (i := 501) (by decide +kernel)⟩
theorem lw_p9 : lw_okq (⟨"SoiledTests$Orders", "takesFigure", "(I)Z"⟩, 6) := ⟨⟨by decide +kernel, by decide +kernel⟩, List.mem_of_getElem? (i := 100) (by decide +kernel), List.mem_of_getElem? (i := 504) (by decide +kernel), List.mem_of_getElem? (i := 505) (by decide +kernel)⟩
theorem lw_p10 : lw_okq (⟨"SoiledTests$Orders", "setNumber", "(I)V"⟩, 6) := ⟨⟨by decide +kernel, by decide +kernel⟩, List.mem_of_getElem? (i := 100) (by decide +kernel), List.mem_of_getElem? (i := 508) (by decide +kernel), List.mem_of_getElem? (i := 509) (by decide +kernel)⟩
theorem lw_p11 : lw_okq (⟨"SoiledTests", "carryOut", "(I)I"⟩, 8) := ⟨⟨by decide +kernel, by decide +kernel⟩, List.mem_of_getElem? (i := 13) (by decide +kernel), List.mem_of_getElem? (i := 516) (by decide +kernel), List.mem_of_getElem? (i := 517) (by decide +kernel)⟩
theorem lw_p12 : lw_okq (⟨"SoiledTestsModel", "refuses", "(I)I"⟩, 16) := ⟨⟨by decide +kernel, by decide +kernel⟩, List.mem_of_getElem? (i := 553) (by decide +kernel), List.mem_of_getElem? (i := 612) (by decide +kernel), List.mem_of_getElem? (i := 613) (by decide +kernel)⟩
theorem lw_p13 : lw_okq (⟨"SoiledTestsModel", "laysAside", "()V"⟩, 16) := ⟨⟨by decide +kernel, by decide +kernel⟩, List.mem_of_getElem? (i := 553) (by decide +kernel), List.mem_of_getElem? (i := 620) (by decide +kernel), List.mem_of_getElem? (i := 621) (by decide +kernel)⟩
theorem lw_p14 : lw_okq (⟨"SoiledTestsModel", "putTest", "(IIIII)I"⟩, 16) := ⟨⟨by decide +kernel, by decide +kernel⟩, List.mem_of_getElem? (i := 553) (by decide +kernel), List.mem_of_getElem? (i := 624) (by decide +kernel), List.mem_of_getElem? (i := 625) (by decide +kernel)⟩
theorem lw_p15 : lw_okq (⟨"SoiledTestsModel", "finished", "(I)I"⟩, 16) := ⟨⟨by decide +kernel, by decide +kernel⟩, List.mem_of_getElem? (i := 553) (by decide +kernel), List.mem_of_getElem? (i := 631) (by decide +kernel), List.mem_of_getElem? (i := 632) (by decide +kernel)⟩
def lw_privs_1 : List (MethodName × Nat) := [(⟨"SoiledTests$Past", "markedSlot", "()LSoiledTests$Suite;"⟩, 3), (⟨"SoiledTests", "settled", "(I)I"⟩, 8), (⟨"SoiledTests", "refused", "(I)I"⟩, 8), (⟨"SoiledTests$Row", "swap", "(II)V"⟩, 2), (⟨"SoiledTests", "areTwoTests", "(II)Z"⟩, 8), (⟨"SoiledTests", "flippedBySeed", "(I)I"⟩, 8), (⟨"SoiledTests$Orders", "takes", "(I)Z"⟩, 6), (⟨"SoiledTests$Orders", "opensOrder", "(I)Z"⟩, 6), (⟨"SoiledTests$Orders", "endsOrder", "()Z"⟩, 6), (⟨"SoiledTests$Orders", "takesFigure", "(I)Z"⟩, 6), (⟨"SoiledTests$Orders", "setNumber", "(I)V"⟩, 6), (⟨"SoiledTests", "carryOut", "(I)I"⟩, 8), (⟨"SoiledTestsModel", "refuses", "(I)I"⟩, 16), (⟨"SoiledTestsModel", "laysAside", "()V"⟩, 16), (⟨"SoiledTestsModel", "putTest", "(IIIII)I"⟩, 16), (⟨"SoiledTestsModel", "finished", "(I)I"⟩, 16)]
theorem lw_r1 : ∀ q ∈ lw_privs_1, lw_okq q := List.forall_mem_cons.mpr ⟨lw_p0, List.forall_mem_cons.mpr ⟨lw_p1, List.forall_mem_cons.mpr ⟨lw_p2, List.forall_mem_cons.mpr ⟨lw_p3, List.forall_mem_cons.mpr ⟨lw_p4, List.forall_mem_cons.mpr ⟨lw_p5, List.forall_mem_cons.mpr ⟨lw_p6, List.forall_mem_cons.mpr ⟨lw_p7, List.forall_mem_cons.mpr ⟨lw_p8, List.forall_mem_cons.mpr ⟨lw_p9, List.forall_mem_cons.mpr ⟨lw_p10, List.forall_mem_cons.mpr ⟨lw_p11, List.forall_mem_cons.mpr ⟨lw_p12, List.forall_mem_cons.mpr ⟨lw_p13, List.forall_mem_cons.mpr ⟨lw_p14, List.forall_mem_cons.mpr ⟨lw_p15, fun _ h => absurd h List.not_mem_nil⟩⟩⟩⟩⟩⟩⟩⟩⟩⟩⟩⟩⟩⟩⟩⟩
theorem lw_p16 : lw_okq (⟨"SoiledTestsModel", "remembers", "()V"⟩, 16) := ⟨⟨by decide +kernel, by decide +kernel⟩, List.mem_of_getElem? (i := 553) (by decide +kernel), List.mem_of_getElem? (i := 635) (by decide +kernel), List.mem_of_getElem? (i := 636) (by decide +kernel)⟩
theorem lw_p17 : lw_okq (⟨"SoiledTestsModel", "putCut", "()I"⟩, 16) := ⟨⟨by decide +kernel, by decide +kernel⟩, List.mem_of_getElem? (i := 553) (by decide +kernel), List.mem_of_getElem? (i := 643) (by decide +kernel), List.mem_of_getElem? (i := 644) (by decide +kernel)⟩
theorem lw_p18 : lw_okq (⟨"SoiledTestsModel", "placeOf", "(I)I"⟩, 16) := ⟨⟨by decide +kernel, by decide +kernel⟩, List.mem_of_getElem? (i := 553) (by decide +kernel), List.mem_of_getElem? (i := 647) (by decide +kernel), List.mem_of_getElem? (i := 648) (by decide +kernel)⟩
theorem lw_p19 : lw_okq (⟨"SoiledTestsModel", "takesOut", "(I)V"⟩, 16) := ⟨⟨by decide +kernel, by decide +kernel⟩, List.mem_of_getElem? (i := 553) (by decide +kernel), List.mem_of_getElem? (i := 651) (by decide +kernel), List.mem_of_getElem? (i := 652) (by decide +kernel)⟩
theorem lw_p20 : lw_okq (⟨"SoiledTestsModel", "putLaid", "(I)I"⟩, 16) := ⟨⟨by decide +kernel, by decide +kernel⟩, List.mem_of_getElem? (i := 553) (by decide +kernel), List.mem_of_getElem? (i := 659) (by decide +kernel), List.mem_of_getElem? (i := 660) (by decide +kernel)⟩
theorem lw_p21 : lw_okq (⟨"SoiledTestsModel", "isTest", "(I)Z"⟩, 16) := ⟨⟨by decide +kernel, by decide +kernel⟩, List.mem_of_getElem? (i := 553) (by decide +kernel), List.mem_of_getElem? (i := 663) (by decide +kernel), List.mem_of_getElem? (i := 664) (by decide +kernel)⟩
theorem lw_p22 : lw_okq (⟨"SoiledTestsModel", "putWiped", "()I"⟩, 16) := ⟨⟨by decide +kernel, by decide +kernel⟩, List.mem_of_getElem? (i := 553) (by decide +kernel), List.mem_of_getElem? (i := 671) (by decide +kernel), List.mem_of_getElem? (i := 672) (by decide +kernel)⟩
theorem lw_p23 : lw_okq (⟨"SoiledTestsModel", "change", "(III)I"⟩, 16) := ⟨⟨by decide +kernel, by decide +kernel⟩, List.mem_of_getElem? (i := 553) (by decide +kernel), List.mem_of_getElem? (i := 679) (by decide +kernel), List.mem_of_getElem? (i := 680) (by decide +kernel)⟩
theorem lw_p24 : lw_okq (⟨"SoiledTestsModel", "putShuffled", "(I)I"⟩, 16) := ⟨⟨by decide +kernel, by decide +kernel⟩, List.mem_of_getElem? (i := 553) (by decide +kernel), List.mem_of_getElem? (i := 691) (by decide +kernel), List.mem_of_getElem? (i := 692) (by decide +kernel)⟩
theorem lw_p25 : lw_okq (⟨"SoiledTestsModel", "laysShuffled", "(I)V"⟩, 16) := ⟨⟨by decide +kernel, by decide +kernel⟩, List.mem_of_getElem? (i := 553) (by decide +kernel), List.mem_of_getElem? (i := 696) (by decide +kernel), List.mem_of_getElem? (i := 697) (by decide +kernel)⟩
theorem lw_p26 : lw_okq (⟨"SoiledTestsModel", "putTrimmed", "(I)I"⟩, 16) := ⟨⟨by decide +kernel, by decide +kernel⟩, List.mem_of_getElem? (i := 553) (by decide +kernel), List.mem_of_getElem? (i := 708) (by decide +kernel), List.mem_of_getElem? (i := 709) (by decide +kernel)⟩
theorem lw_p27 : lw_okq (⟨"SoiledTestsModel", "isFlippedInRow", "(I)Z"⟩, 16) := ⟨⟨by decide +kernel, by decide +kernel⟩, List.mem_of_getElem? (i := 553) (by decide +kernel), List.mem_of_getElem? (i := 712) (by decide +kernel), List.mem_of_getElem? (i := 713) (by decide +kernel)⟩
theorem lw_p28 : lw_okq (⟨"SoiledTestsModel", "flipsIn", "(II)Z"⟩, 16) := ⟨⟨by decide +kernel, by decide +kernel⟩, List.mem_of_getElem? (i := 553) (by decide +kernel), List.mem_of_getElem? (i := 716) (by decide +kernel), List.mem_of_getElem? (i := 717) (by decide +kernel)⟩
theorem lw_p29 : lw_okq (⟨"SoiledTestsModel", "tries", "(II)V"⟩, 16) := ⟨⟨by decide +kernel, by decide +kernel⟩, List.mem_of_getElem? (i := 553) (by decide +kernel), List.mem_of_getElem? (i := 720) (by decide +kernel), List.mem_of_getElem? (i := 721) (by decide +kernel)⟩
theorem lw_p30 : lw_okq (⟨"SoiledTestsModel", "isFlipped", "(I)Z"⟩, 16) := ⟨⟨by decide +kernel, by decide +kernel⟩, List.mem_of_getElem? (i := 553) (by decide +kernel), List.mem_of_getElem? (i := 727) (by decide +kernel), List.mem_of_getElem? (i := 728) (by decide +kernel)⟩
theorem lw_p31 : lw_okq (⟨"SoiledTestsModel", "behindTried", "()I"⟩, 16) := ⟨⟨by decide +kernel, by decide +kernel⟩, List.mem_of_getElem? (i := 553) (by decide +kernel), List.mem_of_getElem? (i := 731) (by decide +kernel), List.mem_of_getElem? (i := 732) (by decide +kernel)⟩
def lw_privs_2 : List (MethodName × Nat) := [(⟨"SoiledTestsModel", "remembers", "()V"⟩, 16), (⟨"SoiledTestsModel", "putCut", "()I"⟩, 16), (⟨"SoiledTestsModel", "placeOf", "(I)I"⟩, 16), (⟨"SoiledTestsModel", "takesOut", "(I)V"⟩, 16), (⟨"SoiledTestsModel", "putLaid", "(I)I"⟩, 16), (⟨"SoiledTestsModel", "isTest", "(I)Z"⟩, 16), (⟨"SoiledTestsModel", "putWiped", "()I"⟩, 16), (⟨"SoiledTestsModel", "change", "(III)I"⟩, 16), (⟨"SoiledTestsModel", "putShuffled", "(I)I"⟩, 16), (⟨"SoiledTestsModel", "laysShuffled", "(I)V"⟩, 16), (⟨"SoiledTestsModel", "putTrimmed", "(I)I"⟩, 16), (⟨"SoiledTestsModel", "isFlippedInRow", "(I)Z"⟩, 16), (⟨"SoiledTestsModel", "flipsIn", "(II)Z"⟩, 16), (⟨"SoiledTestsModel", "tries", "(II)V"⟩, 16), (⟨"SoiledTestsModel", "isFlipped", "(I)Z"⟩, 16), (⟨"SoiledTestsModel", "behindTried", "()I"⟩, 16)]
theorem lw_r2 : ∀ q ∈ lw_privs_2, lw_okq q := List.forall_mem_cons.mpr ⟨lw_p16, List.forall_mem_cons.mpr ⟨lw_p17, List.forall_mem_cons.mpr ⟨lw_p18, List.forall_mem_cons.mpr ⟨lw_p19, List.forall_mem_cons.mpr ⟨lw_p20, List.forall_mem_cons.mpr ⟨lw_p21, List.forall_mem_cons.mpr ⟨lw_p22, List.forall_mem_cons.mpr ⟨lw_p23, List.forall_mem_cons.mpr ⟨lw_p24, List.forall_mem_cons.mpr ⟨lw_p25, List.forall_mem_cons.mpr ⟨lw_p26, List.forall_mem_cons.mpr ⟨lw_p27, List.forall_mem_cons.mpr ⟨lw_p28, List.forall_mem_cons.mpr ⟨lw_p29, List.forall_mem_cons.mpr ⟨lw_p30, List.forall_mem_cons.mpr ⟨lw_p31, fun _ h => absurd h List.not_mem_nil⟩⟩⟩⟩⟩⟩⟩⟩⟩⟩⟩⟩⟩⟩⟩⟩
theorem lw_p32 : lw_okq (⟨"SoiledTestsModel", "behind", "(II)I"⟩, 16) := ⟨⟨by decide +kernel, by decide +kernel⟩, List.mem_of_getElem? (i := 553) (by decide +kernel), List.mem_of_getElem? (i := 735) (by decide +kernel), List.mem_of_getElem? (i := 736) (by decide +kernel)⟩
theorem lw_p33 : lw_okq (⟨"SoiledTestsModel", "passes", "(II)Z"⟩, 16) := ⟨⟨by decide +kernel, by decide +kernel⟩, List.mem_of_getElem? (i := 553) (by decide +kernel), List.mem_of_getElem? (i := 739) (by decide +kernel), List.mem_of_getElem? (i := 740) (by decide +kernel)⟩
theorem lw_p34 : lw_okq (⟨"SoiledTestsModel", "ofTest", "(II)I"⟩, 16) := ⟨⟨by decide +kernel, by decide +kernel⟩, List.mem_of_getElem? (i := 553) (by decide +kernel), List.mem_of_getElem? (i := 743) (by decide +kernel), List.mem_of_getElem? (i := 744) (by decide +kernel)⟩
theorem lw_p35 : lw_okq (⟨"SoiledTestsModel", "isAlone", "(I)Z"⟩, 16) := ⟨⟨by decide +kernel, by decide +kernel⟩, List.mem_of_getElem? (i := 553) (by decide +kernel), List.mem_of_getElem? (i := 747) (by decide +kernel), List.mem_of_getElem? (i := 748) (by decide +kernel)⟩
theorem lw_p36 : lw_okq (⟨"SoiledTestsModel", "leastOf", "(I)I"⟩, 16) := ⟨⟨by decide +kernel, by decide +kernel⟩, List.mem_of_getElem? (i := 553) (by decide +kernel), List.mem_of_getElem? (i := 751) (by decide +kernel), List.mem_of_getElem? (i := 752) (by decide +kernel)⟩
theorem lw_p37 : lw_okq (⟨"SoiledTestsModel", "ahead", "(I)I"⟩, 16) := ⟨⟨by decide +kernel, by decide +kernel⟩, List.mem_of_getElem? (i := 553) (by decide +kernel), List.mem_of_getElem? (i := 755) (by decide +kernel), List.mem_of_getElem? (i := 756) (by decide +kernel)⟩
theorem lw_p38 : lw_okq (⟨"SoiledTestsModel", "testTold", "(II)I"⟩, 16) := ⟨⟨by decide +kernel, by decide +kernel⟩, List.mem_of_getElem? (i := 553) (by decide +kernel), List.mem_of_getElem? (i := 763) (by decide +kernel), List.mem_of_getElem? (i := 764) (by decide +kernel)⟩
theorem lw_p39 : lw_okq (⟨"SoiledTestsModel", "areTwo", "(II)Z"⟩, 16) := ⟨⟨by decide +kernel, by decide +kernel⟩, List.mem_of_getElem? (i := 553) (by decide +kernel), List.mem_of_getElem? (i := 771) (by decide +kernel), List.mem_of_getElem? (i := 772) (by decide +kernel)⟩
theorem lw_p40 : lw_okq (⟨"SoiledTestsModel", "soilsFor", "(II)Z"⟩, 16) := ⟨⟨by decide +kernel, by decide +kernel⟩, List.mem_of_getElem? (i := 553) (by decide +kernel), List.mem_of_getElem? (i := 775) (by decide +kernel), List.mem_of_getElem? (i := 776) (by decide +kernel)⟩
theorem lw_p41 : lw_okq (⟨"SoiledTestsModel", "cleansFor", "(III)Z"⟩, 16) := ⟨⟨by decide +kernel, by decide +kernel⟩, List.mem_of_getElem? (i := 553) (by decide +kernel), List.mem_of_getElem? (i := 783) (by decide +kernel), List.mem_of_getElem? (i := 784) (by decide +kernel)⟩
theorem lw_p42 : lw_okq (⟨"SoiledTestsModel", "flipsBy", "(I)I"⟩, 16) := ⟨⟨by decide +kernel, by decide +kernel⟩, List.mem_of_getElem? (i := 553) (by decide +kernel), List.mem_of_getElem? (i := 791) (by decide +kernel), List.mem_of_getElem? (i := 792) (by decide +kernel)⟩
theorem lw_p43 : lw_okq (⟨"SoiledTestsModel", "placeTold", "(II)I"⟩, 16) := ⟨⟨by decide +kernel, by decide +kernel⟩, List.mem_of_getElem? (i := 553) (by decide +kernel), List.mem_of_getElem? (i := 807) (by decide +kernel), List.mem_of_getElem? (i := 808) (by decide +kernel)⟩
theorem lw_p44 : lw_okq (⟨"SoiledTestsModel", "fewestOf", "(I)I"⟩, 16) := ⟨⟨by decide +kernel, by decide +kernel⟩, List.mem_of_getElem? (i := 553) (by decide +kernel), List.mem_of_getElem? (i := 819) (by decide +kernel), List.mem_of_getElem? (i := 820) (by decide +kernel)⟩
theorem lw_p45 : lw_okq (⟨"SoiledTestsModel", "halvesOf", "(I)I"⟩, 16) := ⟨⟨by decide +kernel, by decide +kernel⟩, List.mem_of_getElem? (i := 553) (by decide +kernel), List.mem_of_getElem? (i := 826) (by decide +kernel), List.mem_of_getElem? (i := 827) (by decide +kernel)⟩
theorem lw_p46 : lw_okq (⟨"SoiledTestsModel", "countTold", "(I)I"⟩, 16) := ⟨⟨by decide +kernel, by decide +kernel⟩, List.mem_of_getElem? (i := 553) (by decide +kernel), List.mem_of_getElem? (i := 834) (by decide +kernel), List.mem_of_getElem? (i := 835) (by decide +kernel)⟩
theorem lw_p47 : lw_okq (⟨"SoiledTestsModel", "soilsAll", "()I"⟩, 16) := ⟨⟨by decide +kernel, by decide +kernel⟩, List.mem_of_getElem? (i := 553) (by decide +kernel), List.mem_of_getElem? (i := 838) (by decide +kernel), List.mem_of_getElem? (i := 839) (by decide +kernel)⟩
def lw_privs_3 : List (MethodName × Nat) := [(⟨"SoiledTestsModel", "behind", "(II)I"⟩, 16), (⟨"SoiledTestsModel", "passes", "(II)Z"⟩, 16), (⟨"SoiledTestsModel", "ofTest", "(II)I"⟩, 16), (⟨"SoiledTestsModel", "isAlone", "(I)Z"⟩, 16), (⟨"SoiledTestsModel", "leastOf", "(I)I"⟩, 16), (⟨"SoiledTestsModel", "ahead", "(I)I"⟩, 16), (⟨"SoiledTestsModel", "testTold", "(II)I"⟩, 16), (⟨"SoiledTestsModel", "areTwo", "(II)Z"⟩, 16), (⟨"SoiledTestsModel", "soilsFor", "(II)Z"⟩, 16), (⟨"SoiledTestsModel", "cleansFor", "(III)Z"⟩, 16), (⟨"SoiledTestsModel", "flipsBy", "(I)I"⟩, 16), (⟨"SoiledTestsModel", "placeTold", "(II)I"⟩, 16), (⟨"SoiledTestsModel", "fewestOf", "(I)I"⟩, 16), (⟨"SoiledTestsModel", "halvesOf", "(I)I"⟩, 16), (⟨"SoiledTestsModel", "countTold", "(I)I"⟩, 16), (⟨"SoiledTestsModel", "soilsAll", "()I"⟩, 16)]
theorem lw_r3 : ∀ q ∈ lw_privs_3, lw_okq q := List.forall_mem_cons.mpr ⟨lw_p32, List.forall_mem_cons.mpr ⟨lw_p33, List.forall_mem_cons.mpr ⟨lw_p34, List.forall_mem_cons.mpr ⟨lw_p35, List.forall_mem_cons.mpr ⟨lw_p36, List.forall_mem_cons.mpr ⟨lw_p37, List.forall_mem_cons.mpr ⟨lw_p38, List.forall_mem_cons.mpr ⟨lw_p39, List.forall_mem_cons.mpr ⟨lw_p40, List.forall_mem_cons.mpr ⟨lw_p41, List.forall_mem_cons.mpr ⟨lw_p42, List.forall_mem_cons.mpr ⟨lw_p43, List.forall_mem_cons.mpr ⟨lw_p44, List.forall_mem_cons.mpr ⟨lw_p45, List.forall_mem_cons.mpr ⟨lw_p46, List.forall_mem_cons.mpr ⟨lw_p47, fun _ h => absurd h List.not_mem_nil⟩⟩⟩⟩⟩⟩⟩⟩⟩⟩⟩⟩⟩⟩⟩⟩
theorem lw_p48 : lw_okq (⟨"SoiledTestsModel", "isRead", "()Z"⟩, 16) := ⟨⟨by decide +kernel, by decide +kernel⟩, List.mem_of_getElem? (i := 553) (by decide +kernel), List.mem_of_getElem? (i := 854) (by decide +kernel), List.mem_of_getElem? (i := 855) (by decide +kernel)⟩
theorem lw_p49 : lw_okq (⟨"SoiledTestsModel", "blanks", "()V"⟩, 16) := ⟨⟨by decide +kernel, by decide +kernel⟩, List.mem_of_getElem? (i := 553) (by decide +kernel), List.mem_of_getElem? (i := 858) (by decide +kernel), List.mem_of_getElem? (i := 859) (by decide +kernel)⟩
theorem lw_p50 : lw_okq (⟨"SoiledTestsModel", "isAt", "(II)Z"⟩, 16) := ⟨⟨by decide +kernel, by decide +kernel⟩, List.mem_of_getElem? (i := 553) (by decide +kernel), List.mem_of_getElem? (i := 862) (by decide +kernel), List.mem_of_getElem? (i := 863) (by decide +kernel)⟩
theorem lw_p51 : lw_okq (⟨"SoiledTestsModel", "takesOrder", "()Z"⟩, 16) := ⟨⟨by decide +kernel, by decide +kernel⟩, List.mem_of_getElem? (i := 553) (by decide +kernel), List.mem_of_getElem? (i := 866) (by decide +kernel), List.mem_of_getElem? (i := 867) (by decide +kernel)⟩
theorem lw_p52 : lw_okq (⟨"SoiledTestsModel", "fails", "()Z"⟩, 16) := ⟨⟨by decide +kernel, by decide +kernel⟩, List.mem_of_getElem? (i := 553) (by decide +kernel), List.mem_of_getElem? (i := 873) (by decide +kernel), List.mem_of_getElem? (i := 874) (by decide +kernel)⟩
theorem lw_p53 : lw_okq (⟨"SoiledTestsModel", "takesNumber", "(I)Z"⟩, 16) := ⟨⟨by decide +kernel, by decide +kernel⟩, List.mem_of_getElem? (i := 553) (by decide +kernel), List.mem_of_getElem? (i := 877) (by decide +kernel), List.mem_of_getElem? (i := 878) (by decide +kernel)⟩
theorem lw_p54 : lw_okq (⟨"SoiledTestsModel", "doneOne", "(I)I"⟩, 16) := ⟨⟨by decide +kernel, by decide +kernel⟩, List.mem_of_getElem? (i := 553) (by decide +kernel), List.mem_of_getElem? (i := 881) (by decide +kernel), List.mem_of_getElem? (i := 882) (by decide +kernel)⟩
theorem lw_p55 : lw_okq (⟨"SoiledTestsModel", "takesBack", "()V"⟩, 16) := ⟨⟨by decide +kernel, by decide +kernel⟩, List.mem_of_getElem? (i := 553) (by decide +kernel), List.mem_of_getElem? (i := 885) (by decide +kernel), List.mem_of_getElem? (i := 886) (by decide +kernel)⟩
theorem lw_p56 : lw_okq (⟨"SoiledTestsModel", "toldAt", "(I)I"⟩, 16) := ⟨⟨by decide +kernel, by decide +kernel⟩, List.mem_of_getElem? (i := 553) (by decide +kernel), List.mem_of_getElem? (i := 893) (by decide +kernel), List.mem_of_getElem? (i := 894) (by decide +kernel)⟩
theorem lw_p57 : lw_okq (⟨"SoiledTestsModel", "mix", "(J)V"⟩, 16) := ⟨⟨by decide +kernel, by decide +kernel⟩, List.mem_of_getElem? (i := 553) (by decide +kernel), List.mem_of_getElem? (i := 902) (by decide +kernel), List.mem_of_getElem? (i := 903) (by decide +kernel)⟩
def lw_privs_4 : List (MethodName × Nat) := [(⟨"SoiledTestsModel", "isRead", "()Z"⟩, 16), (⟨"SoiledTestsModel", "blanks", "()V"⟩, 16), (⟨"SoiledTestsModel", "isAt", "(II)Z"⟩, 16), (⟨"SoiledTestsModel", "takesOrder", "()Z"⟩, 16), (⟨"SoiledTestsModel", "fails", "()Z"⟩, 16), (⟨"SoiledTestsModel", "takesNumber", "(I)Z"⟩, 16), (⟨"SoiledTestsModel", "doneOne", "(I)I"⟩, 16), (⟨"SoiledTestsModel", "takesBack", "()V"⟩, 16), (⟨"SoiledTestsModel", "toldAt", "(I)I"⟩, 16), (⟨"SoiledTestsModel", "mix", "(J)V"⟩, 16)]
theorem lw_r4 : ∀ q ∈ lw_privs_4, lw_okq q := List.forall_mem_cons.mpr ⟨lw_p48, List.forall_mem_cons.mpr ⟨lw_p49, List.forall_mem_cons.mpr ⟨lw_p50, List.forall_mem_cons.mpr ⟨lw_p51, List.forall_mem_cons.mpr ⟨lw_p52, List.forall_mem_cons.mpr ⟨lw_p53, List.forall_mem_cons.mpr ⟨lw_p54, List.forall_mem_cons.mpr ⟨lw_p55, List.forall_mem_cons.mpr ⟨lw_p56, List.forall_mem_cons.mpr ⟨lw_p57, fun _ h => absurd h List.not_mem_nil⟩⟩⟩⟩⟩⟩⟩⟩⟩⟩
def lw_privs : List (MethodName × Nat) := lw_privs_1 ++ (lw_privs_2 ++ (lw_privs_3 ++ (lw_privs_4)))
def lw_tbl : List Cond := k2_sels lw_privs ++ tables_1
theorem lw_privs_ok : ∀ q ∈ lw_privs, lw_okq q := by
  show ∀ q ∈ lw_privs_1 ++ (lw_privs_2 ++ (lw_privs_3 ++ (lw_privs_4))), lw_okq q
  exact List.forall_mem_append.mpr ⟨lw_r1, List.forall_mem_append.mpr ⟨lw_r2, List.forall_mem_append.mpr ⟨lw_r3, lw_r4⟩⟩⟩
end
section
/-! names of classes, fields, methods: out of the printed claim/NAMES.whole.lean.txt, word lists left out -/
def RX0 : String := "SoiledTests$Orders"
def TX0 : u_T := fun k => match k with
  | 0 => ("SoiledTests$Orders", "letters", "[I", true)
  | 1 => ("SoiledTests$Orders", "numbers", "[I", true)
  | 2 => ("SoiledTests$Orders", "size", "I", false)
  | 3 => ("SoiledTests$Orders", "wanted", "I", false)
  | 4 => ("SoiledTests$Orders", "begun", "I", false)
  | _ => ("SoiledTests$Orders", "figures", "I", false)
def tyX0 : Nat → FieldType := fun k => match k with
  | 0 => .array .int
  | 1 => .array .int
  | 2 => .int
  | 3 => .int
  | 4 => .int
  | _ => .int
theorem nmX0 : ∀ a, a < 6 → ∀ b, b < 6 → a ≠ b → (TX0 a).2.1 ≠ (TX0 b).2.1 := by decide +kernel
theorem tyX0_ok : ∀ k, k < 6 → parseFieldDescriptor (TX0 k).2.2.1 = some (tyX0 k) := by decide +kernel
abbrev cX0_init : ByteArray := prog_2_method_1_code
def yX0_init : MethodName := ⟨RX0, "<init>", "()V"⟩
abbrev cX0_read : ByteArray := prog_2_method_2_code
def yX0_read : MethodName := ⟨RX0, "read", "(LSoiledTests$Text;)I"⟩
abbrev cX0_takes : ByteArray := prog_2_method_3_code
def yX0_takes : MethodName := ⟨RX0, "takes", "(I)Z"⟩
abbrev cX0_opensOrder : ByteArray := prog_2_method_4_code
def yX0_opensOrder : MethodName := ⟨RX0, "opensOrder", "(I)Z"⟩
abbrev cX0_endsOrder : ByteArray := prog_2_method_5_code
def yX0_endsOrder : MethodName := ⟨RX0, "endsOrder", "()Z"⟩
abbrev cX0_takesFigure : ByteArray := prog_2_method_6_code
def yX0_takesFigure : MethodName := ⟨RX0, "takesFigure", "(I)Z"⟩
abbrev cX0_setNumber : ByteArray := prog_2_method_7_code
def yX0_setNumber : MethodName := ⟨RX0, "setNumber", "(I)V"⟩
abbrev cX0_numbersOf : ByteArray := prog_2_method_8_code
def yX0_numbersOf : MethodName := ⟨RX0, "numbersOf", "(I)I"⟩
abbrev cX0_letter : ByteArray := prog_2_method_9_code
def yX0_letter : MethodName := ⟨RX0, "letter", "(I)I"⟩
abbrev cX0_number : ByteArray := prog_2_method_10_code
def yX0_number : MethodName := ⟨RX0, "number", "(II)I"⟩
def RX1 : String := "SoiledTests$Past"
def TX1 : u_T := fun k => match k with
  | 0 => ("SoiledTests$Past", "slots", "[LSoiledTests$Suite;", true)
  | 1 => ("SoiledTests$Past", "size", "I", false)
  | _ => ("SoiledTests$Past", "marked", "I", false)
def tyX1 : Nat → FieldType := fun k => match k with
  | 0 => .array (.object "SoiledTests$Suite")
  | 1 => .int
  | _ => .int
theorem nmX1 : ∀ a, a < 3 → ∀ b, b < 3 → a ≠ b → (TX1 a).2.1 ≠ (TX1 b).2.1 := by decide +kernel
theorem tyX1_ok : ∀ k, k < 3 → parseFieldDescriptor (TX1 k).2.2.1 = some (tyX1 k) := by decide +kernel
abbrev cX1_init : ByteArray := prog_3_method_1_code
def yX1_init : MethodName := ⟨RX1, "<init>", "()V"⟩
abbrev cX1_markedSlot : ByteArray := prog_3_method_2_code
def yX1_markedSlot : MethodName := ⟨RX1, "markedSlot", "()LSoiledTests$Suite;"⟩
abbrev cX1_mark : ByteArray := prog_3_method_3_code
def yX1_mark : MethodName := ⟨RX1, "mark", "(LSoiledTests$Suite;)V"⟩
abbrev cX1_recall : ByteArray := prog_3_method_4_code
def yX1_recall : MethodName := ⟨RX1, "recall", "(LSoiledTests$Suite;)V"⟩
abbrev cX1_keep : ByteArray := prog_3_method_5_code
def yX1_keep : MethodName := ⟨RX1, "keep", "()V"⟩
abbrev cX1_stepBack : ByteArray := prog_3_method_6_code
def yX1_stepBack : MethodName := ⟨RX1, "stepBack", "(LSoiledTests$Suite;)I"⟩
def RX2 : String := "SoiledTests$Reduction"
def TX2 : u_T := fun k => match k with
  | _ => ("", "", "", false)
def tyX2 : Nat → FieldType := fun k => match k with
  | _ => .int
theorem nmX2 : ∀ a, a < 0 → ∀ b, b < 0 → a ≠ b → (TX2 a).2.1 ≠ (TX2 b).2.1 := by decide +kernel
theorem tyX2_ok : ∀ k, k < 0 → parseFieldDescriptor (TX2 k).2.2.1 = some (tyX2 k) := by decide +kernel
abbrev cX2_least : ByteArray := prog_4_method_2_code
def yX2_least : MethodName := ⟨RX2, "least", "(LSoiledTests$Suite;II)I"⟩
abbrev cX2_fewest : ByteArray := prog_4_method_3_code
def yX2_fewest : MethodName := ⟨RX2, "fewest", "(LSoiledTests$Suite;II)I"⟩
abbrev cX2_halves : ByteArray := prog_4_method_4_code
def yX2_halves : MethodName := ⟨RX2, "halves", "(LSoiledTests$Suite;II)I"⟩
abbrev cX2_firstHalf : ByteArray := prog_4_method_5_code
def yX2_firstHalf : MethodName := ⟨RX2, "firstHalf", "(LSoiledTests$Row;I)I"⟩
def RX3 : String := "SoiledTests$Row"
def TX3 : u_T := fun k => match k with
  | 0 => ("SoiledTests$Row", "tests", "[I", true)
  | _ => ("SoiledTests$Row", "size", "I", false)
def tyX3 : Nat → FieldType := fun k => match k with
  | 0 => .array .int
  | _ => .int
theorem nmX3 : ∀ a, a < 2 → ∀ b, b < 2 → a ≠ b → (TX3 a).2.1 ≠ (TX3 b).2.1 := by decide +kernel
theorem tyX3_ok : ∀ k, k < 2 → parseFieldDescriptor (TX3 k).2.2.1 = some (tyX3 k) := by decide +kernel
abbrev cX3_init : ByteArray := prog_5_method_1_code
def yX3_init : MethodName := ⟨RX3, "<init>", "()V"⟩
abbrev cX3_nth : ByteArray := prog_5_method_2_code
def yX3_nth : MethodName := ⟨RX3, "nth", "(I)I"⟩
abbrev cX3_placeOf : ByteArray := prog_5_method_3_code
def yX3_placeOf : MethodName := ⟨RX3, "placeOf", "(I)I"⟩
abbrev cX3_setAhead : ByteArray := prog_5_method_4_code
def yX3_setAhead : MethodName := ⟨RX3, "setAhead", "(I)I"⟩
abbrev cX3_append : ByteArray := prog_5_method_5_code
def yX3_append : MethodName := ⟨RX3, "append", "(I)V"⟩
abbrev cX3_makeEmpty : ByteArray := prog_5_method_6_code
def yX3_makeEmpty : MethodName := ⟨RX3, "makeEmpty", "()V"⟩
abbrev cX3_takeOut : ByteArray := prog_5_method_7_code
def yX3_takeOut : MethodName := ⟨RX3, "takeOut", "(I)V"⟩
abbrev cX3_layShuffled : ByteArray := prog_5_method_8_code
def yX3_layShuffled : MethodName := ⟨RX3, "layShuffled", "(II)V"⟩
abbrev cX3_swap : ByteArray := prog_5_method_9_code
def yX3_swap : MethodName := ⟨RX3, "swap", "(II)V"⟩
abbrev cX3_copyFrom : ByteArray := prog_5_method_10_code
def yX3_copyFrom : MethodName := ⟨RX3, "copyFrom", "(LSoiledTests$Row;)V"⟩
def RX4 : String := "SoiledTests$Suite"
def TX4 : u_T := fun k => match k with
  | 0 => ("SoiledTests$Suite", "masks", "[I", true)
  | 1 => ("SoiledTests$Suite", "row", "LSoiledTests$Row;", true)
  | 2 => ("SoiledTests$Suite", "size", "I", false)
  | 3 => ("SoiledTests$Suite", "startCells", "I", false)
  | _ => ("SoiledTests$Suite", "modeNow", "I", false)
def tyX4 : Nat → FieldType := fun k => match k with
  | 0 => .array .int
  | 1 => .object "SoiledTests$Row"
  | 2 => .int
  | 3 => .int
  | _ => .int
theorem nmX4 : ∀ a, a < 5 → ∀ b, b < 5 → a ≠ b → (TX4 a).2.1 ≠ (TX4 b).2.1 := by decide +kernel
theorem tyX4_ok : ∀ k, k < 5 → parseFieldDescriptor (TX4 k).2.2.1 = some (tyX4 k) := by decide +kernel
abbrev cX4_init : ByteArray := prog_6_method_1_code
def yX4_init : MethodName := ⟨RX4, "<init>", "()V"⟩
abbrev cX4_addTest : ByteArray := prog_6_method_2_code
def yX4_addTest : MethodName := ⟨RX4, "addTest", "(IIIII)I"⟩
abbrev cX4_cutLast : ByteArray := prog_6_method_3_code
def yX4_cutLast : MethodName := ⟨RX4, "cutLast", "()I"⟩
abbrev cX4_layTest : ByteArray := prog_6_method_4_code
def yX4_layTest : MethodName := ⟨RX4, "layTest", "(I)I"⟩
abbrev cX4_wipeRow : ByteArray := prog_6_method_5_code
def yX4_wipeRow : MethodName := ⟨RX4, "wipeRow", "()I"⟩
abbrev cX4_changeStart : ByteArray := prog_6_method_6_code
def yX4_changeStart : MethodName := ⟨RX4, "changeStart", "(I)I"⟩
abbrev cX4_changeMode : ByteArray := prog_6_method_7_code
def yX4_changeMode : MethodName := ⟨RX4, "changeMode", "(I)I"⟩
abbrev cX4_shuffleRow : ByteArray := prog_6_method_8_code
def yX4_shuffleRow : MethodName := ⟨RX4, "shuffleRow", "(I)I"⟩
abbrev cX4_trimAhead : ByteArray := prog_6_method_9_code
def yX4_trimAhead : MethodName := ⟨RX4, "trimAhead", "(I)I"⟩
abbrev cX4_hasTest : ByteArray := prog_6_method_10_code
def yX4_hasTest : MethodName := ⟨RX4, "hasTest", "(I)Z"⟩
abbrev cX4_mask : ByteArray := prog_6_method_11_code
def yX4_mask : MethodName := ⟨RX4, "mask", "(II)I"⟩
abbrev cX4_wrongCells : ByteArray := prog_6_method_12_code
def yX4_wrongCells : MethodName := ⟨RX4, "wrongCells", "(II)I"⟩
abbrev cX4_passesOn : ByteArray := prog_6_method_13_code
def yX4_passesOn : MethodName := ⟨RX4, "passesOn", "(II)Z"⟩
abbrev cX4_isFlippedOn : ByteArray := prog_6_method_14_code
def yX4_isFlippedOn : MethodName := ⟨RX4, "isFlippedOn", "(II)Z"⟩
abbrev cX4_cellsAfter : ByteArray := prog_6_method_15_code
def yX4_cellsAfter : MethodName := ⟨RX4, "cellsAfter", "(II)I"⟩
abbrev cX4_cellsBehind : ByteArray := prog_6_method_16_code
def yX4_cellsBehind : MethodName := ⟨RX4, "cellsBehind", "(I)I"⟩
abbrev cX4_isFlippedBehind : ByteArray := prog_6_method_17_code
def yX4_isFlippedBehind : MethodName := ⟨RX4, "isFlippedBehind", "(II)Z"⟩
abbrev cX4_flippingAhead : ByteArray := prog_6_method_18_code
def yX4_flippingAhead : MethodName := ⟨RX4, "flippingAhead", "(I)I"⟩
abbrev cX4_passingIn : ByteArray := prog_6_method_19_code
def yX4_passingIn : MethodName := ⟨RX4, "passingIn", "(LSoiledTests$Row;)I"⟩
abbrev cX4_passingAlone : ByteArray := prog_6_method_20_code
def yX4_passingAlone : MethodName := ⟨RX4, "passingAlone", "()I"⟩
abbrev cX4_flippedIn : ByteArray := prog_6_method_21_code
def yX4_flippedIn : MethodName := ⟨RX4, "flippedIn", "(LSoiledTests$Row;)I"⟩
abbrev cX4_lastToChange : ByteArray := prog_6_method_22_code
def yX4_lastToChange : MethodName := ⟨RX4, "lastToChange", "(II)I"⟩
abbrev cX4_doesSoil : ByteArray := prog_6_method_23_code
def yX4_doesSoil : MethodName := ⟨RX4, "doesSoil", "(II)Z"⟩
abbrev cX4_soilingPairs : ByteArray := prog_6_method_24_code
def yX4_soilingPairs : MethodName := ⟨RX4, "soilingPairs", "()I"⟩
abbrev cX4_cleaners : ByteArray := prog_6_method_25_code
def yX4_cleaners : MethodName := ⟨RX4, "cleaners", "(II)I"⟩
abbrev cX4_copyFrom : ByteArray := prog_6_method_26_code
def yX4_copyFrom : MethodName := ⟨RX4, "copyFrom", "(LSoiledTests$Suite;)V"⟩
def RX5 : String := "SoiledTests$Text"
def TX5 : u_T := fun k => match k with
  | 0 => ("SoiledTests$Text", "bytes", "[I", true)
  | _ => ("SoiledTests$Text", "length", "I", false)
def tyX5 : Nat → FieldType := fun k => match k with
  | 0 => .array .int
  | _ => .int
theorem nmX5 : ∀ a, a < 2 → ∀ b, b < 2 → a ≠ b → (TX5 a).2.1 ≠ (TX5 b).2.1 := by decide +kernel
theorem tyX5_ok : ∀ k, k < 2 → parseFieldDescriptor (TX5 k).2.2.1 = some (tyX5 k) := by decide +kernel
abbrev cX5_init : ByteArray := prog_7_method_1_code
def yX5_init : MethodName := ⟨RX5, "<init>", "()V"⟩
abbrev cX5_isFull : ByteArray := prog_7_method_2_code
def yX5_isFull : MethodName := ⟨RX5, "isFull", "()Z"⟩
abbrev cX5_append : ByteArray := prog_7_method_3_code
def yX5_append : MethodName := ⟨RX5, "append", "(I)I"⟩
abbrev cX5_makeEmpty : ByteArray := prog_7_method_4_code
def yX5_makeEmpty : MethodName := ⟨RX5, "makeEmpty", "()I"⟩
abbrev cX5_nth : ByteArray := prog_7_method_5_code
def yX5_nth : MethodName := ⟨RX5, "nth", "(I)I"⟩
def RX6 : String := "SoiledTests"
def TX6 : u_T := fun k => match k with
  | 0 => ("SoiledTests", "suite", "LSoiledTests$Suite;", true)
  | 1 => ("SoiledTests", "past", "LSoiledTests$Past;", true)
  | 2 => ("SoiledTests", "text", "LSoiledTests$Text;", true)
  | 3 => ("SoiledTests", "orders", "LSoiledTests$Orders;", true)
  | 4 => ("SoiledTests", "spare", "LSoiledTests$Row;", true)
  | 5 => ("SoiledTests", "timesBad", "I", false)
  | 6 => ("SoiledTests", "timesNo", "I", false)
  | _ => ("SoiledTests", "timesFull", "I", false)
def tyX6 : Nat → FieldType := fun k => match k with
  | 0 => .object "SoiledTests$Suite"
  | 1 => .object "SoiledTests$Past"
  | 2 => .object "SoiledTests$Text"
  | 3 => .object "SoiledTests$Orders"
  | 4 => .object "SoiledTests$Row"
  | 5 => .int
  | 6 => .int
  | _ => .int
theorem nmX6 : ∀ a, a < 8 → ∀ b, b < 8 → a ≠ b → (TX6 a).2.1 ≠ (TX6 b).2.1 := by decide +kernel
theorem tyX6_ok : ∀ k, k < 8 → parseFieldDescriptor (TX6 k).2.2.1 = some (tyX6 k) := by decide +kernel
abbrev cX6_init : ByteArray := prog_1_method_1_code
def yX6_init : MethodName := ⟨RX6, "<init>", "()V"⟩
abbrev cX6_test : ByteArray := prog_1_method_2_code
def yX6_test : MethodName := ⟨RX6, "test", "(IIIII)I"⟩
abbrev cX6_cuts : ByteArray := prog_1_method_3_code
def yX6_cuts : MethodName := ⟨RX6, "cuts", "()I"⟩
abbrev cX6_lays : ByteArray := prog_1_method_4_code
def yX6_lays : MethodName := ⟨RX6, "lays", "(I)I"⟩
abbrev cX6_wipes : ByteArray := prog_1_method_5_code
def yX6_wipes : MethodName := ⟨RX6, "wipes", "()I"⟩
abbrev cX6_start : ByteArray := prog_1_method_6_code
def yX6_start : MethodName := ⟨RX6, "start", "(I)I"⟩
abbrev cX6_mode : ByteArray := prog_1_method_7_code
def yX6_mode : MethodName := ⟨RX6, "mode", "(I)I"⟩
abbrev cX6_shuffles : ByteArray := prog_1_method_8_code
def yX6_shuffles : MethodName := ⟨RX6, "shuffles", "(I)I"⟩
abbrev cX6_trims : ByteArray := prog_1_method_9_code
def yX6_trims : MethodName := ⟨RX6, "trims", "(I)I"⟩
abbrev cX6_of : ByteArray := prog_1_method_10_code
def yX6_of : MethodName := ⟨RX6, "of", "(II)I"⟩
abbrev cX6_soils : ByteArray := prog_1_method_11_code
def yX6_soils : MethodName := ⟨RX6, "soils", "(II)I"⟩
abbrev cX6_cleans : ByteArray := prog_1_method_12_code
def yX6_cleans : MethodName := ⟨RX6, "cleans", "(II)I"⟩
abbrev cX6_flips : ByteArray := prog_1_method_13_code
def yX6_flips : MethodName := ⟨RX6, "flips", "(I)I"⟩
abbrev cX6_seed : ByteArray := prog_1_method_14_code
def yX6_seed : MethodName := ⟨RX6, "seed", "(II)I"⟩
abbrev cX6_at : ByteArray := prog_1_method_15_code
def yX6_at : MethodName := ⟨RX6, "at", "(I)I"⟩
abbrev cX6_inRow : ByteArray := prog_1_method_16_code
def yX6_inRow : MethodName := ⟨RX6, "inRow", "(II)I"⟩
abbrev cX6_who : ByteArray := prog_1_method_17_code
def yX6_who : MethodName := ⟨RX6, "who", "(II)I"⟩
abbrev cX6_left : ByteArray := prog_1_method_18_code
def yX6_left : MethodName := ⟨RX6, "left", "(II)I"⟩
abbrev cX6_count : ByteArray := prog_1_method_19_code
def yX6_count : MethodName := ⟨RX6, "count", "(I)I"⟩
abbrev cX6_type : ByteArray := prog_1_method_20_code
def yX6_type : MethodName := ⟨RX6, "type", "(I)I"⟩
abbrev cX6_clear : ByteArray := prog_1_method_21_code
def yX6_clear : MethodName := ⟨RX6, "clear", "()I"⟩
abbrev cX6_does : ByteArray := prog_1_method_22_code
def yX6_does : MethodName := ⟨RX6, "does", "()I"⟩
abbrev cX6_back : ByteArray := prog_1_method_23_code
def yX6_back : MethodName := ⟨RX6, "back", "()I"⟩
abbrev cX6_told : ByteArray := prog_1_method_24_code
def yX6_told : MethodName := ⟨RX6, "told", "(I)I"⟩
abbrev cX6_digest : ByteArray := prog_1_method_25_code
def yX6_digest : MethodName := ⟨RX6, "digest", "()J"⟩
abbrev cX6_refused : ByteArray := prog_1_method_26_code
def yX6_refused : MethodName := ⟨RX6, "refused", "(I)I"⟩
abbrev cX6_settled : ByteArray := prog_1_method_27_code
def yX6_settled : MethodName := ⟨RX6, "settled", "(I)I"⟩
abbrev cX6_carryOut : ByteArray := prog_1_method_28_code
def yX6_carryOut : MethodName := ⟨RX6, "carryOut", "(I)I"⟩
abbrev cX6_areTwoTests : ByteArray := prog_1_method_29_code
def yX6_areTwoTests : MethodName := ⟨RX6, "areTwoTests", "(II)Z"⟩
abbrev cX6_flippedBySeed : ByteArray := prog_1_method_30_code
def yX6_flippedBySeed : MethodName := ⟨RX6, "flippedBySeed", "(I)I"⟩
abbrev cX6_isSeed : ByteArray := prog_1_method_31_code
def yX6_isSeed : MethodName := ⟨RX6, "isSeed", "(I)Z"⟩
abbrev cX6_areCells : ByteArray := prog_1_method_32_code
def yX6_areCells : MethodName := ⟨RX6, "areCells", "(I)Z"⟩
abbrev cX6_isIn : ByteArray := prog_1_method_33_code
def yX6_isIn : MethodName := ⟨RX6, "isIn", "(II)Z"⟩
abbrev cX6_oneIf : ByteArray := prog_1_method_34_code
def yX6_oneIf : MethodName := ⟨RX6, "oneIf", "(Z)I"⟩
def RX7 : String := "SoiledTestsModel"
def TX7 : u_T := fun k => match k with
  | 0 => ("SoiledTestsModel", "now", "[I", true)
  | 1 => ("SoiledTestsModel", "aside", "[I", true)
  | 2 => ("SoiledTestsModel", "past", "[I", true)
  | 3 => ("SoiledTestsModel", "states", "I", false)
  | 4 => ("SoiledTestsModel", "refusals", "[I", true)
  | 5 => ("SoiledTestsModel", "text", "[I", true)
  | 6 => ("SoiledTestsModel", "bytes", "I", false)
  | 7 => ("SoiledTestsModel", "tried", "[I", true)
  | 8 => ("SoiledTestsModel", "triedMany", "I", false)
  | 9 => ("SoiledTestsModel", "shuffled", "[I", true)
  | 10 => ("SoiledTestsModel", "letters", "[I", true)
  | 11 => ("SoiledTestsModel", "numbers", "[I", true)
  | 12 => ("SoiledTestsModel", "orders", "I", false)
  | 13 => ("SoiledTestsModel", "spot", "I", false)
  | 14 => ("SoiledTestsModel", "wrongAt", "I", false)
  | _ => ("SoiledTestsModel", "hash", "J", false)
def tyX7 : Nat → FieldType := fun k => match k with
  | 0 => .array .int
  | 1 => .array .int
  | 2 => .array .int
  | 3 => .int
  | 4 => .array .int
  | 5 => .array .int
  | 6 => .int
  | 7 => .array .int
  | 8 => .int
  | 9 => .array .int
  | 10 => .array .int
  | 11 => .array .int
  | 12 => .int
  | 13 => .int
  | 14 => .int
  | _ => .long
theorem nmX7 : ∀ a, a < 16 → ∀ b, b < 16 → a ≠ b → (TX7 a).2.1 ≠ (TX7 b).2.1 := by decide +kernel
theorem tyX7_ok : ∀ k, k < 16 → parseFieldDescriptor (TX7 k).2.2.1 = some (tyX7 k) := by decide +kernel
abbrev cX7_init : ByteArray := prog_9_method_1_code
def yX7_init : MethodName := ⟨RX7, "<init>", "()V"⟩
abbrev cX7_in : ByteArray := prog_9_method_3_code
def yX7_in : MethodName := ⟨RX7, "in", "(III)Z"⟩
abbrev cX7_has : ByteArray := prog_9_method_4_code
def yX7_has : MethodName := ⟨RX7, "has", "(II)Z"⟩
abbrev cX7_ones : ByteArray := prog_9_method_5_code
def yX7_ones : MethodName := ⟨RX7, "ones", "(I)I"⟩
abbrev cX7_refuses : ByteArray := prog_9_method_6_code
def yX7_refuses : MethodName := ⟨RX7, "refuses", "(I)I"⟩
abbrev cX7_laysAside : ByteArray := prog_9_method_7_code
def yX7_laysAside : MethodName := ⟨RX7, "laysAside", "()V"⟩
abbrev cX7_takesBack : ByteArray := prog_9_method_8_code
def yX7_takesBack : MethodName := ⟨RX7, "takesBack", "()V"⟩
abbrev cX7_remembers : ByteArray := prog_9_method_9_code
def yX7_remembers : MethodName := ⟨RX7, "remembers", "()V"⟩
abbrev cX7_finished : ByteArray := prog_9_method_10_code
def yX7_finished : MethodName := ⟨RX7, "finished", "(I)I"⟩
abbrev cX7_back : ByteArray := prog_9_method_11_code
def yX7_back : MethodName := ⟨RX7, "back", "()I"⟩
abbrev cX7_isTest : ByteArray := prog_9_method_12_code
def yX7_isTest : MethodName := ⟨RX7, "isTest", "(I)Z"⟩
abbrev cX7_ofTest : ByteArray := prog_9_method_13_code
def yX7_ofTest : MethodName := ⟨RX7, "ofTest", "(II)I"⟩
abbrev cX7_passes : ByteArray := prog_9_method_14_code
def yX7_passes : MethodName := ⟨RX7, "passes", "(II)Z"⟩
abbrev cX7_behind : ByteArray := prog_9_method_15_code
def yX7_behind : MethodName := ⟨RX7, "behind", "(II)I"⟩
abbrev cX7_isAlone : ByteArray := prog_9_method_16_code
def yX7_isAlone : MethodName := ⟨RX7, "isAlone", "(I)Z"⟩
abbrev cX7_behindTried : ByteArray := prog_9_method_17_code
def yX7_behindTried : MethodName := ⟨RX7, "behindTried", "()I"⟩
abbrev cX7_isFlipped : ByteArray := prog_9_method_18_code
def yX7_isFlipped : MethodName := ⟨RX7, "isFlipped", "(I)Z"⟩
abbrev cX7_soilsFor : ByteArray := prog_9_method_19_code
def yX7_soilsFor : MethodName := ⟨RX7, "soilsFor", "(II)Z"⟩
abbrev cX7_cleansFor : ByteArray := prog_9_method_20_code
def yX7_cleansFor : MethodName := ⟨RX7, "cleansFor", "(III)Z"⟩
abbrev cX7_placeOf : ByteArray := prog_9_method_21_code
def yX7_placeOf : MethodName := ⟨RX7, "placeOf", "(I)I"⟩
abbrev cX7_tries : ByteArray := prog_9_method_22_code
def yX7_tries : MethodName := ⟨RX7, "tries", "(II)V"⟩
abbrev cX7_flipsIn : ByteArray := prog_9_method_23_code
def yX7_flipsIn : MethodName := ⟨RX7, "flipsIn", "(II)Z"⟩
abbrev cX7_ahead : ByteArray := prog_9_method_24_code
def yX7_ahead : MethodName := ⟨RX7, "ahead", "(I)I"⟩
abbrev cX7_leastOf : ByteArray := prog_9_method_25_code
def yX7_leastOf : MethodName := ⟨RX7, "leastOf", "(I)I"⟩
abbrev cX7_fewestOf : ByteArray := prog_9_method_26_code
def yX7_fewestOf : MethodName := ⟨RX7, "fewestOf", "(I)I"⟩
abbrev cX7_halvesOf : ByteArray := prog_9_method_27_code
def yX7_halvesOf : MethodName := ⟨RX7, "halvesOf", "(I)I"⟩
abbrev cX7_isFlippedInRow : ByteArray := prog_9_method_28_code
def yX7_isFlippedInRow : MethodName := ⟨RX7, "isFlippedInRow", "(I)Z"⟩
abbrev cX7_putTest : ByteArray := prog_9_method_29_code
def yX7_putTest : MethodName := ⟨RX7, "putTest", "(IIIII)I"⟩
abbrev cX7_takesOut : ByteArray := prog_9_method_30_code
def yX7_takesOut : MethodName := ⟨RX7, "takesOut", "(I)V"⟩
abbrev cX7_putCut : ByteArray := prog_9_method_31_code
def yX7_putCut : MethodName := ⟨RX7, "putCut", "()I"⟩
abbrev cX7_putLaid : ByteArray := prog_9_method_32_code
def yX7_putLaid : MethodName := ⟨RX7, "putLaid", "(I)I"⟩
abbrev cX7_putWiped : ByteArray := prog_9_method_33_code
def yX7_putWiped : MethodName := ⟨RX7, "putWiped", "()I"⟩
abbrev cX7_change : ByteArray := prog_9_method_34_code
def yX7_change : MethodName := ⟨RX7, "change", "(III)I"⟩
abbrev cX7_laysShuffled : ByteArray := prog_9_method_35_code
def yX7_laysShuffled : MethodName := ⟨RX7, "laysShuffled", "(I)V"⟩
abbrev cX7_putShuffled : ByteArray := prog_9_method_36_code
def yX7_putShuffled : MethodName := ⟨RX7, "putShuffled", "(I)I"⟩
abbrev cX7_putTrimmed : ByteArray := prog_9_method_37_code
def yX7_putTrimmed : MethodName := ⟨RX7, "putTrimmed", "(I)I"⟩
abbrev cX7_test : ByteArray := prog_9_method_38_code
def yX7_test : MethodName := ⟨RX7, "test", "(IIIII)I"⟩
abbrev cX7_cuts : ByteArray := prog_9_method_39_code
def yX7_cuts : MethodName := ⟨RX7, "cuts", "()I"⟩
abbrev cX7_lays : ByteArray := prog_9_method_40_code
def yX7_lays : MethodName := ⟨RX7, "lays", "(I)I"⟩
abbrev cX7_wipes : ByteArray := prog_9_method_41_code
def yX7_wipes : MethodName := ⟨RX7, "wipes", "()I"⟩
abbrev cX7_start : ByteArray := prog_9_method_42_code
def yX7_start : MethodName := ⟨RX7, "start", "(I)I"⟩
abbrev cX7_mode : ByteArray := prog_9_method_43_code
def yX7_mode : MethodName := ⟨RX7, "mode", "(I)I"⟩
abbrev cX7_shuffles : ByteArray := prog_9_method_44_code
def yX7_shuffles : MethodName := ⟨RX7, "shuffles", "(I)I"⟩
abbrev cX7_trims : ByteArray := prog_9_method_45_code
def yX7_trims : MethodName := ⟨RX7, "trims", "(I)I"⟩
abbrev cX7_testTold : ByteArray := prog_9_method_46_code
def yX7_testTold : MethodName := ⟨RX7, "testTold", "(II)I"⟩
abbrev cX7_of : ByteArray := prog_9_method_47_code
def yX7_of : MethodName := ⟨RX7, "of", "(II)I"⟩
abbrev cX7_areTwo : ByteArray := prog_9_method_48_code
def yX7_areTwo : MethodName := ⟨RX7, "areTwo", "(II)Z"⟩
abbrev cX7_soils : ByteArray := prog_9_method_49_code
def yX7_soils : MethodName := ⟨RX7, "soils", "(II)I"⟩
abbrev cX7_cleans : ByteArray := prog_9_method_50_code
def yX7_cleans : MethodName := ⟨RX7, "cleans", "(II)I"⟩
abbrev cX7_flipsBy : ByteArray := prog_9_method_51_code
def yX7_flipsBy : MethodName := ⟨RX7, "flipsBy", "(I)I"⟩
abbrev cX7_flips : ByteArray := prog_9_method_52_code
def yX7_flips : MethodName := ⟨RX7, "flips", "(I)I"⟩
abbrev cX7_seed : ByteArray := prog_9_method_53_code
def yX7_seed : MethodName := ⟨RX7, "seed", "(II)I"⟩
abbrev cX7_at : ByteArray := prog_9_method_54_code
def yX7_at : MethodName := ⟨RX7, "at", "(I)I"⟩
abbrev cX7_placeTold : ByteArray := prog_9_method_55_code
def yX7_placeTold : MethodName := ⟨RX7, "placeTold", "(II)I"⟩
abbrev cX7_inRow : ByteArray := prog_9_method_56_code
def yX7_inRow : MethodName := ⟨RX7, "inRow", "(II)I"⟩
abbrev cX7_who : ByteArray := prog_9_method_57_code
def yX7_who : MethodName := ⟨RX7, "who", "(II)I"⟩
abbrev cX7_left : ByteArray := prog_9_method_58_code
def yX7_left : MethodName := ⟨RX7, "left", "(II)I"⟩
abbrev cX7_soilsAll : ByteArray := prog_9_method_59_code
def yX7_soilsAll : MethodName := ⟨RX7, "soilsAll", "()I"⟩
abbrev cX7_countTold : ByteArray := prog_9_method_60_code
def yX7_countTold : MethodName := ⟨RX7, "countTold", "(I)I"⟩
abbrev cX7_count : ByteArray := prog_9_method_61_code
def yX7_count : MethodName := ⟨RX7, "count", "(I)I"⟩
abbrev cX7_type : ByteArray := prog_9_method_62_code
def yX7_type : MethodName := ⟨RX7, "type", "(I)I"⟩
abbrev cX7_clear : ByteArray := prog_9_method_63_code
def yX7_clear : MethodName := ⟨RX7, "clear", "()I"⟩
abbrev cX7_isAt : ByteArray := prog_9_method_64_code
def yX7_isAt : MethodName := ⟨RX7, "isAt", "(II)Z"⟩
abbrev cX7_blanks : ByteArray := prog_9_method_65_code
def yX7_blanks : MethodName := ⟨RX7, "blanks", "()V"⟩
abbrev cX7_fails : ByteArray := prog_9_method_66_code
def yX7_fails : MethodName := ⟨RX7, "fails", "()Z"⟩
abbrev cX7_manyOf : ByteArray := prog_9_method_67_code
def yX7_manyOf : MethodName := ⟨RX7, "manyOf", "(I)I"⟩
abbrev cX7_takesNumber : ByteArray := prog_9_method_68_code
def yX7_takesNumber : MethodName := ⟨RX7, "takesNumber", "(I)Z"⟩
abbrev cX7_takesOrder : ByteArray := prog_9_method_69_code
def yX7_takesOrder : MethodName := ⟨RX7, "takesOrder", "()Z"⟩
abbrev cX7_isRead : ByteArray := prog_9_method_70_code
def yX7_isRead : MethodName := ⟨RX7, "isRead", "()Z"⟩
abbrev cX7_doneOne : ByteArray := prog_9_method_71_code
def yX7_doneOne : MethodName := ⟨RX7, "doneOne", "(I)I"⟩
abbrev cX7_does : ByteArray := prog_9_method_72_code
def yX7_does : MethodName := ⟨RX7, "does", "()I"⟩
abbrev cX7_toldAt : ByteArray := prog_9_method_73_code
def yX7_toldAt : MethodName := ⟨RX7, "toldAt", "(I)I"⟩
abbrev cX7_told : ByteArray := prog_9_method_74_code
def yX7_told : MethodName := ⟨RX7, "told", "(I)I"⟩
abbrev cX7_mix : ByteArray := prog_9_method_75_code
def yX7_mix : MethodName := ⟨RX7, "mix", "(J)V"⟩
abbrev cX7_digest : ByteArray := prog_9_method_76_code
def yX7_digest : MethodName := ⟨RX7, "digest", "()J"⟩
def RJ6 : String := "java/lang/Integer"
def TJ6 : u_T := fun k => match k with
  | _ => ("", "", "", false)
def tyJ6 : Nat → FieldType := fun k => match k with
  | _ => .int
theorem nmJ6 : ∀ a, a < 0 → ∀ b, b < 0 → a ≠ b → (TJ6 a).2.1 ≠ (TJ6 b).2.1 := by decide +kernel
theorem tyJ6_ok : ∀ k, k < 0 → parseFieldDescriptor (TJ6 k).2.2.1 = some (tyJ6 k) := by decide +kernel
abbrev cJ6_bitCount_0f7a4 : ByteArray := prog_10_method_49_code
def yJ6_bitCount_0f7a4 : MethodName := ⟨RJ6, "bitCount", "(I)I"⟩
def RJ9 : String := "java/lang/Math"
def TJ9 : u_T := fun k => match k with
  | _ => ("", "", "", false)
def tyJ9 : Nat → FieldType := fun k => match k with
  | _ => .int
theorem nmJ9 : ∀ a, a < 0 → ∀ b, b < 0 → a ≠ b → (TJ9 a).2.1 ≠ (TJ9 b).2.1 := by decide +kernel
theorem tyJ9_ok : ∀ k, k < 0 → parseFieldDescriptor (TJ9 k).2.2.1 = some (tyJ9 k) := by decide +kernel
abbrev cJ9_min_7cf53 : ByteArray := prog_11_method_69_code
def yJ9_min_7cf53 : MethodName := ⟨RJ9, "min", "(II)I"⟩
def RJ10 : String := "java/lang/System"
def TJ10 : u_T := fun k => match k with
  | _ => ("", "", "", false)
def tyJ10 : Nat → FieldType := fun k => match k with
  | _ => .int
theorem nmJ10 : ∀ a, a < 0 → ∀ b, b < 0 → a ≠ b → (TJ10 a).2.1 ≠ (TJ10 b).2.1 := by decide +kernel
theorem tyJ10_ok : ∀ k, k < 0 → parseFieldDescriptor (TJ10 k).2.2.1 = some (tyJ10 k) := by decide +kernel
def RL : String := "SoiledTestsLaw"
abbrev cL_law : ByteArray := code
def yL_law : MethodName := ⟨RL, "law", "([I)Z"⟩
abbrev vwCl : List vw_C := [(RX0, TX0, 6), (RX1, TX1, 3), (RX3, TX3, 2), (RX4, TX4, 5), (RX5, TX5, 2), (RX6, TX6, 8), (RX7, TX7, 16)]
end
section
/-! the words of the tables that methods use, by their places -/
def GW : List Cond := lw_tbl.filter goodWord
theorem gw {w : Cond} (k : Nat) (h : lw_tbl[k]? = some w) (hg : goodWord w = true) : w ∈ GW := List.mem_filter.mpr ⟨List.mem_of_getElem? h, hg⟩
theorem gw_all {ws : List Cond} (ps : List Nat) (hp : ws = ps.filterMap (fun i => lw_tbl[i]?)) (h : ws.all goodWord = true) : ∀ w ∈ ws, w ∈ GW := by
  intro w hw
  have h1 := List.all_eq_true.mp h w hw
  rw [hp] at hw
  obtain ⟨i, -, hi⟩ := List.mem_filterMap.mp hw
  exact gw i hi h1
theorem weX1_markedSlot : Cond.selects RX1 yX1_markedSlot yX1_markedSlot ∈ GW := gw 0 (by decide +kernel) rfl
theorem weX6_settled : Cond.selects RX6 yX6_settled yX6_settled ∈ GW := gw 1 (by decide +kernel) rfl
theorem weX6_refused : Cond.selects RX6 yX6_refused yX6_refused ∈ GW := gw 2 (by decide +kernel) rfl
theorem weX3_swap : Cond.selects RX3 yX3_swap yX3_swap ∈ GW := gw 3 (by decide +kernel) rfl
theorem weX6_areTwoTests : Cond.selects RX6 yX6_areTwoTests yX6_areTwoTests ∈ GW := gw 4 (by decide +kernel) rfl
theorem weX6_flippedBySeed : Cond.selects RX6 yX6_flippedBySeed yX6_flippedBySeed ∈ GW := gw 5 (by decide +kernel) rfl
theorem weX0_takes : Cond.selects RX0 yX0_takes yX0_takes ∈ GW := gw 6 (by decide +kernel) rfl
theorem weX0_opensOrder : Cond.selects RX0 yX0_opensOrder yX0_opensOrder ∈ GW := gw 7 (by decide +kernel) rfl
theorem weX0_endsOrder : Cond.selects RX0 yX0_endsOrder yX0_endsOrder ∈ GW := gw 8 (by decide +kernel) rfl
theorem weX0_takesFigure : Cond.selects RX0 yX0_takesFigure yX0_takesFigure ∈ GW := gw 9 (by decide +kernel) rfl
theorem weX0_setNumber : Cond.selects RX0 yX0_setNumber yX0_setNumber ∈ GW := gw 10 (by decide +kernel) rfl
theorem weX6_carryOut : Cond.selects RX6 yX6_carryOut yX6_carryOut ∈ GW := gw 11 (by decide +kernel) rfl
theorem weX7_refuses : Cond.selects RX7 yX7_refuses yX7_refuses ∈ GW := gw 12 (by decide +kernel) rfl
theorem weX7_laysAside : Cond.selects RX7 yX7_laysAside yX7_laysAside ∈ GW := gw 13 (by decide +kernel) rfl
theorem weX7_putTest : Cond.selects RX7 yX7_putTest yX7_putTest ∈ GW := gw 14 (by decide +kernel) rfl
theorem weX7_finished : Cond.selects RX7 yX7_finished yX7_finished ∈ GW := gw 15 (by decide +kernel) rfl
theorem weX7_remembers : Cond.selects RX7 yX7_remembers yX7_remembers ∈ GW := gw 16 (by decide +kernel) rfl
theorem weX7_putCut : Cond.selects RX7 yX7_putCut yX7_putCut ∈ GW := gw 17 (by decide +kernel) rfl
theorem weX7_placeOf : Cond.selects RX7 yX7_placeOf yX7_placeOf ∈ GW := gw 18 (by decide +kernel) rfl
theorem weX7_takesOut : Cond.selects RX7 yX7_takesOut yX7_takesOut ∈ GW := gw 19 (by decide +kernel) rfl
theorem weX7_putLaid : Cond.selects RX7 yX7_putLaid yX7_putLaid ∈ GW := gw 20 (by decide +kernel) rfl
theorem weX7_isTest : Cond.selects RX7 yX7_isTest yX7_isTest ∈ GW := gw 21 (by decide +kernel) rfl
theorem weX7_putWiped : Cond.selects RX7 yX7_putWiped yX7_putWiped ∈ GW := gw 22 (by decide +kernel) rfl
theorem weX7_change : Cond.selects RX7 yX7_change yX7_change ∈ GW := gw 23 (by decide +kernel) rfl
theorem weX7_putShuffled : Cond.selects RX7 yX7_putShuffled yX7_putShuffled ∈ GW := gw 24 (by decide +kernel) rfl
theorem weX7_laysShuffled : Cond.selects RX7 yX7_laysShuffled yX7_laysShuffled ∈ GW := gw 25 (by decide +kernel) rfl
theorem weX7_putTrimmed : Cond.selects RX7 yX7_putTrimmed yX7_putTrimmed ∈ GW := gw 26 (by decide +kernel) rfl
theorem weX7_isFlippedInRow : Cond.selects RX7 yX7_isFlippedInRow yX7_isFlippedInRow ∈ GW := gw 27 (by decide +kernel) rfl
theorem weX7_flipsIn : Cond.selects RX7 yX7_flipsIn yX7_flipsIn ∈ GW := gw 28 (by decide +kernel) rfl
theorem weX7_tries : Cond.selects RX7 yX7_tries yX7_tries ∈ GW := gw 29 (by decide +kernel) rfl
theorem weX7_isFlipped : Cond.selects RX7 yX7_isFlipped yX7_isFlipped ∈ GW := gw 30 (by decide +kernel) rfl
theorem weX7_behindTried : Cond.selects RX7 yX7_behindTried yX7_behindTried ∈ GW := gw 31 (by decide +kernel) rfl
theorem weX7_behind : Cond.selects RX7 yX7_behind yX7_behind ∈ GW := gw 32 (by decide +kernel) rfl
theorem weX7_passes : Cond.selects RX7 yX7_passes yX7_passes ∈ GW := gw 33 (by decide +kernel) rfl
theorem weX7_ofTest : Cond.selects RX7 yX7_ofTest yX7_ofTest ∈ GW := gw 34 (by decide +kernel) rfl
theorem weX7_isAlone : Cond.selects RX7 yX7_isAlone yX7_isAlone ∈ GW := gw 35 (by decide +kernel) rfl
theorem weX7_leastOf : Cond.selects RX7 yX7_leastOf yX7_leastOf ∈ GW := gw 36 (by decide +kernel) rfl
theorem weX7_ahead : Cond.selects RX7 yX7_ahead yX7_ahead ∈ GW := gw 37 (by decide +kernel) rfl
theorem weX7_testTold : Cond.selects RX7 yX7_testTold yX7_testTold ∈ GW := gw 38 (by decide +kernel) rfl
theorem weX7_areTwo : Cond.selects RX7 yX7_areTwo yX7_areTwo ∈ GW := gw 39 (by decide +kernel) rfl
theorem weX7_soilsFor : Cond.selects RX7 yX7_soilsFor yX7_soilsFor ∈ GW := gw 40 (by decide +kernel) rfl
theorem weX7_cleansFor : Cond.selects RX7 yX7_cleansFor yX7_cleansFor ∈ GW := gw 41 (by decide +kernel) rfl
theorem weX7_flipsBy : Cond.selects RX7 yX7_flipsBy yX7_flipsBy ∈ GW := gw 42 (by decide +kernel) rfl
theorem weX7_placeTold : Cond.selects RX7 yX7_placeTold yX7_placeTold ∈ GW := gw 43 (by decide +kernel) rfl
theorem weX7_fewestOf : Cond.selects RX7 yX7_fewestOf yX7_fewestOf ∈ GW := gw 44 (by decide +kernel) rfl
theorem weX7_halvesOf : Cond.selects RX7 yX7_halvesOf yX7_halvesOf ∈ GW := gw 45 (by decide +kernel) rfl
theorem weX7_countTold : Cond.selects RX7 yX7_countTold yX7_countTold ∈ GW := gw 46 (by decide +kernel) rfl
theorem weX7_soilsAll : Cond.selects RX7 yX7_soilsAll yX7_soilsAll ∈ GW := gw 47 (by decide +kernel) rfl
theorem weX7_isRead : Cond.selects RX7 yX7_isRead yX7_isRead ∈ GW := gw 48 (by decide +kernel) rfl
theorem weX7_blanks : Cond.selects RX7 yX7_blanks yX7_blanks ∈ GW := gw 49 (by decide +kernel) rfl
theorem weX7_isAt : Cond.selects RX7 yX7_isAt yX7_isAt ∈ GW := gw 50 (by decide +kernel) rfl
theorem weX7_takesOrder : Cond.selects RX7 yX7_takesOrder yX7_takesOrder ∈ GW := gw 51 (by decide +kernel) rfl
theorem weX7_fails : Cond.selects RX7 yX7_fails yX7_fails ∈ GW := gw 52 (by decide +kernel) rfl
theorem weX7_takesNumber : Cond.selects RX7 yX7_takesNumber yX7_takesNumber ∈ GW := gw 53 (by decide +kernel) rfl
theorem weX7_doneOne : Cond.selects RX7 yX7_doneOne yX7_doneOne ∈ GW := gw 54 (by decide +kernel) rfl
theorem weX7_takesBack : Cond.selects RX7 yX7_takesBack yX7_takesBack ∈ GW := gw 55 (by decide +kernel) rfl
theorem weX7_toldAt : Cond.selects RX7 yX7_toldAt yX7_toldAt ∈ GW := gw 56 (by decide +kernel) rfl
theorem weX7_mix : Cond.selects RX7 yX7_mix yX7_mix ∈ GW := gw 57 (by decide +kernel) rfl
theorem wiL : Cond.initialized RL ∈ GW := gw 58 (by decide +kernel) rfl
theorem wiX6 : Cond.initialized RX6 ∈ GW := gw 59 (by decide +kernel) rfl
theorem wiX4 : Cond.initialized RX4 ∈ GW := gw 60 (by decide +kernel) rfl
theorem wiX3 : Cond.initialized RX3 ∈ GW := gw 61 (by decide +kernel) rfl
theorem wiX1 : Cond.initialized RX1 ∈ GW := gw 62 (by decide +kernel) rfl
theorem wiX5 : Cond.initialized RX5 ∈ GW := gw 63 (by decide +kernel) rfl
theorem wiX0 : Cond.initialized RX0 ∈ GW := gw 64 (by decide +kernel) rfl
theorem wiX7 : Cond.initialized RX7 ∈ GW := gw 65 (by decide +kernel) rfl
theorem wiJ10 : Cond.initialized RJ10 ∈ GW := gw 66 (by decide +kernel) rfl
theorem wiJ9 : Cond.initialized RJ9 ∈ GW := gw 67 (by decide +kernel) rfl
theorem wiX2 : Cond.initialized RX2 ∈ GW := gw 68 (by decide +kernel) rfl
theorem wiJ6 : Cond.initialized RJ6 ∈ GW := gw 69 (by decide +kernel) rfl
theorem wcL_7 : Cond.classLink RL 7 RX6 ∈ GW := gw 70 (by decide +kernel) rfl
theorem wqX6 : Cond.instantiable RX6 8 ∈ GW := gw 71 (by decide +kernel) rfl
theorem wmL_9 : Cond.methodLink RL 9 yX6_init ∈ GW := gw 72 (by decide +kernel) rfl
theorem wvX6_init : Cond.instanceMethod yX6_init ∈ GW := gw 73 (by decide +kernel) rfl
theorem wbX6_init : Cond.code yX6_init cX6_init 1 none ∈ GW := gw 74 (by decide +kernel) rfl
theorem wmX6_1 : Cond.methodLink RX6 1 objectInit ∈ GW := gw 75 (by decide +kernel) rfl
theorem wvobjectInit : Cond.instanceMethod objectInit ∈ GW := gw 76 (by decide +kernel) rfl
theorem wb_objectInit : Cond.code objectInit ⟨#[0xb1]⟩ 1 none ∈ GW := gw 77 (by decide +kernel) rfl
theorem wcX6_7 : Cond.classLink RX6 7 RX4 ∈ GW := gw 78 (by decide +kernel) rfl
theorem wqX4 : Cond.instantiable RX4 5 ∈ GW := gw 79 (by decide +kernel) rfl
theorem wvX4_init : Cond.instanceMethod yX4_init ∈ GW := gw 81 (by decide +kernel) rfl
theorem wbX4_init : Cond.code yX4_init cX4_init 1 none ∈ GW := gw 82 (by decide +kernel) rfl
theorem wmX4_3 : Cond.methodLink RX4 3 objectInit ∈ GW := gw 83 (by decide +kernel) rfl
theorem wcX4_15 : Cond.classLink RX4 15 RX3 ∈ GW := gw 84 (by decide +kernel) rfl
theorem wqX3 : Cond.instantiable RX3 2 ∈ GW := gw 85 (by decide +kernel) rfl
theorem wvX3_init : Cond.instanceMethod yX3_init ∈ GW := gw 87 (by decide +kernel) rfl
theorem wbX3_init : Cond.code yX3_init cX3_init 1 none ∈ GW := gw 88 (by decide +kernel) rfl
theorem wmX3_3 : Cond.methodLink RX3 3 objectInit ∈ GW := gw 89 (by decide +kernel) rfl
theorem wfX3_9 : Cond.fieldLink RX3 9 "SoiledTests$Row" "tests" "[I" ∈ GW := gw 90 (by decide +kernel) rfl
theorem wfX3_15 : Cond.fieldLink RX3 15 "SoiledTests$Row" "size" "I" ∈ GW := gw 91 (by decide +kernel) rfl
theorem w_arrI : Cond.arrayClass .int ∈ GW := gw 100 (by decide +kernel) rfl
theorem wfX4_9 : Cond.fieldLink RX4 9 "SoiledTests$Suite" "masks" "[I" ∈ GW := gw 101 (by decide +kernel) rfl
theorem wfX4_18 : Cond.fieldLink RX4 18 "SoiledTests$Suite" "row" "LSoiledTests$Row;" ∈ GW := gw 102 (by decide +kernel) rfl
theorem wfX4_26 : Cond.fieldLink RX4 26 "SoiledTests$Suite" "size" "I" ∈ GW := gw 105 (by decide +kernel) rfl
theorem wfX4_48 : Cond.fieldLink RX4 48 "SoiledTests$Suite" "startCells" "I" ∈ GW := gw 107 (by decide +kernel) rfl
theorem wfX4_51 : Cond.fieldLink RX4 51 "SoiledTests$Suite" "modeNow" "I" ∈ GW := gw 109 (by decide +kernel) rfl
theorem wcX6_16 : Cond.classLink RX6 16 RX1 ∈ GW := gw 122 (by decide +kernel) rfl
theorem wqX1 : Cond.instantiable RX1 3 ∈ GW := gw 123 (by decide +kernel) rfl
theorem wmX6_18 : Cond.methodLink RX6 18 yX1_init ∈ GW := gw 124 (by decide +kernel) rfl
theorem wvX1_init : Cond.instanceMethod yX1_init ∈ GW := gw 125 (by decide +kernel) rfl
theorem wbX1_init : Cond.code yX1_init cX1_init 2 none ∈ GW := gw 126 (by decide +kernel) rfl
theorem wmX1_3 : Cond.methodLink RX1 3 objectInit ∈ GW := gw 127 (by decide +kernel) rfl
theorem wcX1_11 : Cond.classLink RX1 11 RX4 ∈ GW := gw 128 (by decide +kernel) rfl
theorem wfX1_13 : Cond.fieldLink RX1 13 "SoiledTests$Past" "slots" "[LSoiledTests$Suite;" ∈ GW := gw 131 (by decide +kernel) rfl
theorem wfX1_30 : Cond.fieldLink RX1 30 "SoiledTests$Past" "size" "I" ∈ GW := gw 132 (by decide +kernel) rfl
theorem wfX1_18 : Cond.fieldLink RX1 18 "SoiledTests$Past" "marked" "I" ∈ GW := gw 134 (by decide +kernel) rfl
theorem wcX6_23 : Cond.classLink RX6 23 RX5 ∈ GW := gw 142 (by decide +kernel) rfl
theorem wqX5 : Cond.instantiable RX5 2 ∈ GW := gw 143 (by decide +kernel) rfl
theorem wvX5_init : Cond.instanceMethod yX5_init ∈ GW := gw 145 (by decide +kernel) rfl
theorem wbX5_init : Cond.code yX5_init cX5_init 1 none ∈ GW := gw 146 (by decide +kernel) rfl
theorem wmX5_3 : Cond.methodLink RX5 3 objectInit ∈ GW := gw 147 (by decide +kernel) rfl
theorem wfX5_9 : Cond.fieldLink RX5 9 "SoiledTests$Text" "bytes" "[I" ∈ GW := gw 148 (by decide +kernel) rfl
theorem wfX5_15 : Cond.fieldLink RX5 15 "SoiledTests$Text" "length" "I" ∈ GW := gw 149 (by decide +kernel) rfl
theorem wcX6_30 : Cond.classLink RX6 30 RX0 ∈ GW := gw 157 (by decide +kernel) rfl
theorem wqX0 : Cond.instantiable RX0 6 ∈ GW := gw 158 (by decide +kernel) rfl
theorem wvX0_init : Cond.instanceMethod yX0_init ∈ GW := gw 160 (by decide +kernel) rfl
theorem wbX0_init : Cond.code yX0_init cX0_init 1 none ∈ GW := gw 161 (by decide +kernel) rfl
theorem wmX0_3 : Cond.methodLink RX0 3 objectInit ∈ GW := gw 162 (by decide +kernel) rfl
theorem wfX0_9 : Cond.fieldLink RX0 9 "SoiledTests$Orders" "letters" "[I" ∈ GW := gw 163 (by decide +kernel) rfl
theorem wfX0_15 : Cond.fieldLink RX0 15 "SoiledTests$Orders" "numbers" "[I" ∈ GW := gw 164 (by decide +kernel) rfl
theorem wfX0_18 : Cond.fieldLink RX0 18 "SoiledTests$Orders" "size" "I" ∈ GW := gw 165 (by decide +kernel) rfl
theorem wfX0_22 : Cond.fieldLink RX0 22 "SoiledTests$Orders" "wanted" "I" ∈ GW := gw 167 (by decide +kernel) rfl
theorem wfX0_54 : Cond.fieldLink RX0 54 "SoiledTests$Orders" "begun" "I" ∈ GW := gw 168 (by decide +kernel) rfl
theorem wfX0_38 : Cond.fieldLink RX0 38 "SoiledTests$Orders" "figures" "I" ∈ GW := gw 169 (by decide +kernel) rfl
theorem wcX6_37 : Cond.classLink RX6 37 RX3 ∈ GW := gw 183 (by decide +kernel) rfl
theorem wfX6_10 : Cond.fieldLink RX6 10 "SoiledTests" "suite" "LSoiledTests$Suite;" ∈ GW := gw 185 (by decide +kernel) rfl
theorem wfX6_19 : Cond.fieldLink RX6 19 "SoiledTests" "past" "LSoiledTests$Past;" ∈ GW := gw 186 (by decide +kernel) rfl
theorem wfX6_26 : Cond.fieldLink RX6 26 "SoiledTests" "text" "LSoiledTests$Text;" ∈ GW := gw 187 (by decide +kernel) rfl
theorem wfX6_33 : Cond.fieldLink RX6 33 "SoiledTests" "orders" "LSoiledTests$Orders;" ∈ GW := gw 188 (by decide +kernel) rfl
theorem wfX6_40 : Cond.fieldLink RX6 40 "SoiledTests" "spare" "LSoiledTests$Row;" ∈ GW := gw 189 (by decide +kernel) rfl
theorem wfX6_213 : Cond.fieldLink RX6 213 "SoiledTests" "timesBad" "I" ∈ GW := gw 190 (by decide +kernel) rfl
theorem wfX6_216 : Cond.fieldLink RX6 216 "SoiledTests" "timesNo" "I" ∈ GW := gw 191 (by decide +kernel) rfl
theorem wfX6_219 : Cond.fieldLink RX6 219 "SoiledTests" "timesFull" "I" ∈ GW := gw 192 (by decide +kernel) rfl
theorem wmL_13 : Cond.methodLink RL 13 yX6_test ∈ GW := gw 210 (by decide +kernel) rfl
theorem wvX6_test : Cond.instanceMethod yX6_test ∈ GW := gw 211 (by decide +kernel) rfl
theorem weX6_test : Cond.selects RX6 yX6_test yX6_test ∈ GW := gw 212 (by decide +kernel) rfl
theorem wbX6_test : Cond.code yX6_test cX6_test 6 (some .int) ∈ GW := gw 213 (by decide +kernel) rfl
theorem wmX6_44 : Cond.methodLink RX6 44 yX1_mark ∈ GW := gw 214 (by decide +kernel) rfl
theorem wvX1_mark : Cond.instanceMethod yX1_mark ∈ GW := gw 215 (by decide +kernel) rfl
theorem weX1_mark : Cond.selects RX1 yX1_mark yX1_mark ∈ GW := gw 216 (by decide +kernel) rfl
theorem wbX1_mark : Cond.code yX1_mark cX1_mark 3 none ∈ GW := gw 217 (by decide +kernel) rfl
theorem wmX1_22 : Cond.methodLink RX1 22 yX1_markedSlot ∈ GW := gw 218 (by decide +kernel) rfl
theorem wvX1_markedSlot : Cond.instanceMethod yX1_markedSlot ∈ GW := gw 220 (by decide +kernel) rfl
theorem wbX1_markedSlot : Cond.code yX1_markedSlot cX1_markedSlot 1 (some (.object "SoiledTests$Suite")) ∈ GW := gw 221 (by decide +kernel) rfl
theorem wmX1_26 : Cond.methodLink RX1 26 yX4_copyFrom ∈ GW := gw 222 (by decide +kernel) rfl
theorem wvX4_copyFrom : Cond.instanceMethod yX4_copyFrom ∈ GW := gw 223 (by decide +kernel) rfl
theorem weX4_copyFrom : Cond.selects RX4 yX4_copyFrom yX4_copyFrom ∈ GW := gw 224 (by decide +kernel) rfl
theorem wbX4_copyFrom : Cond.code yX4_copyFrom cX4_copyFrom 2 none ∈ GW := gw 225 (by decide +kernel) rfl
theorem wmX4_119 : Cond.methodLink RX4 119 arraycopyName ∈ GW := gw 226 (by decide +kernel) rfl
theorem w_stCopy : Cond.static arraycopyName ∈ GW := gw 227 (by decide +kernel) rfl
theorem w_natCopy : Cond.native arraycopyName ∈ GW := gw 228 (by decide +kernel) rfl
theorem wmX4_125 : Cond.methodLink RX4 125 yX3_copyFrom ∈ GW := gw 229 (by decide +kernel) rfl
theorem wvX3_copyFrom : Cond.instanceMethod yX3_copyFrom ∈ GW := gw 230 (by decide +kernel) rfl
theorem weX3_copyFrom : Cond.selects RX3 yX3_copyFrom yX3_copyFrom ∈ GW := gw 231 (by decide +kernel) rfl
theorem wbX3_copyFrom : Cond.code yX3_copyFrom cX3_copyFrom 2 none ∈ GW := gw 232 (by decide +kernel) rfl
theorem wmX3_46 : Cond.methodLink RX3 46 arraycopyName ∈ GW := gw 233 (by decide +kernel) rfl
theorem wmX6_48 : Cond.methodLink RX6 48 yX4_addTest ∈ GW := gw 234 (by decide +kernel) rfl
theorem wvX4_addTest : Cond.instanceMethod yX4_addTest ∈ GW := gw 235 (by decide +kernel) rfl
theorem weX4_addTest : Cond.selects RX4 yX4_addTest yX4_addTest ∈ GW := gw 236 (by decide +kernel) rfl
theorem wbX4_addTest : Cond.code yX4_addTest cX4_addTest 7 (some .int) ∈ GW := gw 237 (by decide +kernel) rfl
theorem wsX6_areCells : Cond.static yX6_areCells ∈ GW := gw 239 (by decide +kernel) rfl
theorem wbX6_areCells : Cond.code yX6_areCells cX6_areCells 1 (some .boolean) ∈ GW := gw 240 (by decide +kernel) rfl
theorem wmX6_52 : Cond.methodLink RX6 52 yX6_settled ∈ GW := gw 241 (by decide +kernel) rfl
theorem wvX6_settled : Cond.instanceMethod yX6_settled ∈ GW := gw 243 (by decide +kernel) rfl
theorem wbX6_settled : Cond.code yX6_settled cX6_settled 2 (some .int) ∈ GW := gw 244 (by decide +kernel) rfl
theorem wmX6_82 : Cond.methodLink RX6 82 yX6_refused ∈ GW := gw 245 (by decide +kernel) rfl
theorem wvX6_refused : Cond.instanceMethod yX6_refused ∈ GW := gw 247 (by decide +kernel) rfl
theorem wbX6_refused : Cond.code yX6_refused cX6_refused 2 (some .int) ∈ GW := gw 248 (by decide +kernel) rfl
theorem wmX6_205 : Cond.methodLink RX6 205 yX1_keep ∈ GW := gw 249 (by decide +kernel) rfl
theorem wvX1_keep : Cond.instanceMethod yX1_keep ∈ GW := gw 250 (by decide +kernel) rfl
theorem weX1_keep : Cond.selects RX1 yX1_keep yX1_keep ∈ GW := gw 251 (by decide +kernel) rfl
theorem wbX1_keep : Cond.code yX1_keep cX1_keep 1 none ∈ GW := gw 252 (by decide +kernel) rfl
theorem wmX1_33 : Cond.methodLink RX1 33 Lib.Math.min.name ∈ GW := gw 253 (by decide +kernel) rfl
theorem w_stMin : Cond.static Lib.Math.min.name ∈ GW := gw 254 (by decide +kernel) rfl
theorem wb_min : Cond.code Lib.Math.min.name Lib.Math.min.code 2 (some .int) ∈ GW := gw 255 (by decide +kernel) rfl
theorem wmL_18 : Cond.methodLink RL 18 yX6_cuts ∈ GW := gw 256 (by decide +kernel) rfl
theorem wvX6_cuts : Cond.instanceMethod yX6_cuts ∈ GW := gw 257 (by decide +kernel) rfl
theorem weX6_cuts : Cond.selects RX6 yX6_cuts yX6_cuts ∈ GW := gw 258 (by decide +kernel) rfl
theorem wbX6_cuts : Cond.code yX6_cuts cX6_cuts 1 (some .int) ∈ GW := gw 259 (by decide +kernel) rfl
theorem wmX6_56 : Cond.methodLink RX6 56 yX4_cutLast ∈ GW := gw 260 (by decide +kernel) rfl
theorem wvX4_cutLast : Cond.instanceMethod yX4_cutLast ∈ GW := gw 261 (by decide +kernel) rfl
theorem weX4_cutLast : Cond.selects RX4 yX4_cutLast yX4_cutLast ∈ GW := gw 262 (by decide +kernel) rfl
theorem wbX4_cutLast : Cond.code yX4_cutLast cX4_cutLast 1 (some .int) ∈ GW := gw 263 (by decide +kernel) rfl
theorem wmX4_30 : Cond.methodLink RX4 30 yX3_takeOut ∈ GW := gw 264 (by decide +kernel) rfl
theorem wvX3_takeOut : Cond.instanceMethod yX3_takeOut ∈ GW := gw 265 (by decide +kernel) rfl
theorem weX3_takeOut : Cond.selects RX3 yX3_takeOut yX3_takeOut ∈ GW := gw 266 (by decide +kernel) rfl
theorem wbX3_takeOut : Cond.code yX3_takeOut cX3_takeOut 5 none ∈ GW := gw 267 (by decide +kernel) rfl
theorem wsX6_isIn : Cond.static yX6_isIn ∈ GW := gw 269 (by decide +kernel) rfl
theorem wbX6_isIn : Cond.code yX6_isIn cX6_isIn 2 (some .boolean) ∈ GW := gw 270 (by decide +kernel) rfl
theorem wmX3_27 : Cond.methodLink RX3 27 yX3_append ∈ GW := gw 271 (by decide +kernel) rfl
theorem wvX3_append : Cond.instanceMethod yX3_append ∈ GW := gw 272 (by decide +kernel) rfl
theorem weX3_append : Cond.selects RX3 yX3_append yX3_append ∈ GW := gw 273 (by decide +kernel) rfl
theorem wbX3_append : Cond.code yX3_append cX3_append 2 none ∈ GW := gw 274 (by decide +kernel) rfl
theorem wmL_23 : Cond.methodLink RL 23 yX6_lays ∈ GW := gw 275 (by decide +kernel) rfl
theorem wvX6_lays : Cond.instanceMethod yX6_lays ∈ GW := gw 276 (by decide +kernel) rfl
theorem weX6_lays : Cond.selects RX6 yX6_lays yX6_lays ∈ GW := gw 277 (by decide +kernel) rfl
theorem wbX6_lays : Cond.code yX6_lays cX6_lays 2 (some .int) ∈ GW := gw 278 (by decide +kernel) rfl
theorem wmX6_60 : Cond.methodLink RX6 60 yX4_layTest ∈ GW := gw 279 (by decide +kernel) rfl
theorem wvX4_layTest : Cond.instanceMethod yX4_layTest ∈ GW := gw 280 (by decide +kernel) rfl
theorem weX4_layTest : Cond.selects RX4 yX4_layTest yX4_layTest ∈ GW := gw 281 (by decide +kernel) rfl
theorem wbX4_layTest : Cond.code yX4_layTest cX4_layTest 2 (some .int) ∈ GW := gw 282 (by decide +kernel) rfl
theorem wmX4_34 : Cond.methodLink RX4 34 yX4_hasTest ∈ GW := gw 283 (by decide +kernel) rfl
theorem wvX4_hasTest : Cond.instanceMethod yX4_hasTest ∈ GW := gw 284 (by decide +kernel) rfl
theorem weX4_hasTest : Cond.selects RX4 yX4_hasTest yX4_hasTest ∈ GW := gw 285 (by decide +kernel) rfl
theorem wbX4_hasTest : Cond.code yX4_hasTest cX4_hasTest 2 (some .boolean) ∈ GW := gw 286 (by decide +kernel) rfl
theorem wmX4_37 : Cond.methodLink RX4 37 yX3_placeOf ∈ GW := gw 287 (by decide +kernel) rfl
theorem wvX3_placeOf : Cond.instanceMethod yX3_placeOf ∈ GW := gw 288 (by decide +kernel) rfl
theorem weX3_placeOf : Cond.selects RX3 yX3_placeOf yX3_placeOf ∈ GW := gw 289 (by decide +kernel) rfl
theorem wbX3_placeOf : Cond.code yX3_placeOf cX3_placeOf 3 (some .int) ∈ GW := gw 290 (by decide +kernel) rfl
theorem wmX3_19 : Cond.methodLink RX3 19 yX3_nth ∈ GW := gw 291 (by decide +kernel) rfl
theorem wvX3_nth : Cond.instanceMethod yX3_nth ∈ GW := gw 292 (by decide +kernel) rfl
theorem weX3_nth : Cond.selects RX3 yX3_nth yX3_nth ∈ GW := gw 293 (by decide +kernel) rfl
theorem wbX3_nth : Cond.code yX3_nth cX3_nth 2 (some .int) ∈ GW := gw 294 (by decide +kernel) rfl
theorem wmX4_41 : Cond.methodLink RX4 41 yX3_append ∈ GW := gw 295 (by decide +kernel) rfl
theorem wmL_28 : Cond.methodLink RL 28 yX6_wipes ∈ GW := gw 296 (by decide +kernel) rfl
theorem wvX6_wipes : Cond.instanceMethod yX6_wipes ∈ GW := gw 297 (by decide +kernel) rfl
theorem weX6_wipes : Cond.selects RX6 yX6_wipes yX6_wipes ∈ GW := gw 298 (by decide +kernel) rfl
theorem wbX6_wipes : Cond.code yX6_wipes cX6_wipes 1 (some .int) ∈ GW := gw 299 (by decide +kernel) rfl
theorem wmX6_63 : Cond.methodLink RX6 63 yX4_wipeRow ∈ GW := gw 300 (by decide +kernel) rfl
theorem wvX4_wipeRow : Cond.instanceMethod yX4_wipeRow ∈ GW := gw 301 (by decide +kernel) rfl
theorem weX4_wipeRow : Cond.selects RX4 yX4_wipeRow yX4_wipeRow ∈ GW := gw 302 (by decide +kernel) rfl
theorem wbX4_wipeRow : Cond.code yX4_wipeRow cX4_wipeRow 2 (some .int) ∈ GW := gw 303 (by decide +kernel) rfl
theorem wmX4_45 : Cond.methodLink RX4 45 yX3_makeEmpty ∈ GW := gw 304 (by decide +kernel) rfl
theorem wvX3_makeEmpty : Cond.instanceMethod yX3_makeEmpty ∈ GW := gw 305 (by decide +kernel) rfl
theorem weX3_makeEmpty : Cond.selects RX3 yX3_makeEmpty yX3_makeEmpty ∈ GW := gw 306 (by decide +kernel) rfl
theorem wbX3_makeEmpty : Cond.code yX3_makeEmpty cX3_makeEmpty 1 none ∈ GW := gw 307 (by decide +kernel) rfl
theorem wmL_32 : Cond.methodLink RL 32 yX6_start ∈ GW := gw 308 (by decide +kernel) rfl
theorem wvX6_start : Cond.instanceMethod yX6_start ∈ GW := gw 309 (by decide +kernel) rfl
theorem weX6_start : Cond.selects RX6 yX6_start yX6_start ∈ GW := gw 310 (by decide +kernel) rfl
theorem wbX6_start : Cond.code yX6_start cX6_start 2 (some .int) ∈ GW := gw 311 (by decide +kernel) rfl
theorem wmX6_66 : Cond.methodLink RX6 66 yX4_changeStart ∈ GW := gw 312 (by decide +kernel) rfl
theorem wvX4_changeStart : Cond.instanceMethod yX4_changeStart ∈ GW := gw 313 (by decide +kernel) rfl
theorem weX4_changeStart : Cond.selects RX4 yX4_changeStart yX4_changeStart ∈ GW := gw 314 (by decide +kernel) rfl
theorem wbX4_changeStart : Cond.code yX4_changeStart cX4_changeStart 3 (some .int) ∈ GW := gw 315 (by decide +kernel) rfl
theorem wmL_36 : Cond.methodLink RL 36 yX6_mode ∈ GW := gw 316 (by decide +kernel) rfl
theorem wvX6_mode : Cond.instanceMethod yX6_mode ∈ GW := gw 317 (by decide +kernel) rfl
theorem weX6_mode : Cond.selects RX6 yX6_mode yX6_mode ∈ GW := gw 318 (by decide +kernel) rfl
theorem wbX6_mode : Cond.code yX6_mode cX6_mode 2 (some .int) ∈ GW := gw 319 (by decide +kernel) rfl
theorem wmX6_69 : Cond.methodLink RX6 69 yX4_changeMode ∈ GW := gw 320 (by decide +kernel) rfl
theorem wvX4_changeMode : Cond.instanceMethod yX4_changeMode ∈ GW := gw 321 (by decide +kernel) rfl
theorem weX4_changeMode : Cond.selects RX4 yX4_changeMode yX4_changeMode ∈ GW := gw 322 (by decide +kernel) rfl
theorem wbX4_changeMode : Cond.code yX4_changeMode cX4_changeMode 3 (some .int) ∈ GW := gw 323 (by decide +kernel) rfl
theorem wmL_40 : Cond.methodLink RL 40 yX6_shuffles ∈ GW := gw 324 (by decide +kernel) rfl
theorem wvX6_shuffles : Cond.instanceMethod yX6_shuffles ∈ GW := gw 325 (by decide +kernel) rfl
theorem weX6_shuffles : Cond.selects RX6 yX6_shuffles yX6_shuffles ∈ GW := gw 326 (by decide +kernel) rfl
theorem wbX6_shuffles : Cond.code yX6_shuffles cX6_shuffles 2 (some .int) ∈ GW := gw 327 (by decide +kernel) rfl
theorem wmX6_72 : Cond.methodLink RX6 72 yX4_shuffleRow ∈ GW := gw 328 (by decide +kernel) rfl
theorem wvX4_shuffleRow : Cond.instanceMethod yX4_shuffleRow ∈ GW := gw 329 (by decide +kernel) rfl
theorem weX4_shuffleRow : Cond.selects RX4 yX4_shuffleRow yX4_shuffleRow ∈ GW := gw 330 (by decide +kernel) rfl
theorem wbX4_shuffleRow : Cond.code yX4_shuffleRow cX4_shuffleRow 2 (some .int) ∈ GW := gw 331 (by decide +kernel) rfl
theorem wsX6_isSeed : Cond.static yX6_isSeed ∈ GW := gw 333 (by decide +kernel) rfl
theorem wbX6_isSeed : Cond.code yX6_isSeed cX6_isSeed 1 (some .boolean) ∈ GW := gw 334 (by decide +kernel) rfl
theorem wkX6_116 : Cond.constant RX6 116 (999999) ∈ GW := gw 335 (by decide +kernel) rfl
theorem wmX4_57 : Cond.methodLink RX4 57 yX3_layShuffled ∈ GW := gw 336 (by decide +kernel) rfl
theorem wvX3_layShuffled : Cond.instanceMethod yX3_layShuffled ∈ GW := gw 337 (by decide +kernel) rfl
theorem weX3_layShuffled : Cond.selects RX3 yX3_layShuffled yX3_layShuffled ∈ GW := gw 338 (by decide +kernel) rfl
theorem wbX3_layShuffled : Cond.code yX3_layShuffled cX3_layShuffled 6 none ∈ GW := gw 339 (by decide +kernel) rfl
theorem wmX3_31 : Cond.methodLink RX3 31 yX3_makeEmpty ∈ GW := gw 340 (by decide +kernel) rfl
theorem wkX3_34 : Cond.constantLong RX3 34 (1103515245) ∈ GW := gw 341 (by decide +kernel) rfl
theorem wkX3_36 : Cond.constantLong RX3 36 (12345) ∈ GW := gw 342 (by decide +kernel) rfl
theorem wkX3_38 : Cond.constantLong RX3 38 (2147483648) ∈ GW := gw 343 (by decide +kernel) rfl
theorem wkX3_40 : Cond.constantLong RX3 40 (65536) ∈ GW := gw 344 (by decide +kernel) rfl
theorem wmX3_42 : Cond.methodLink RX3 42 yX3_swap ∈ GW := gw 345 (by decide +kernel) rfl
theorem wvX3_swap : Cond.instanceMethod yX3_swap ∈ GW := gw 347 (by decide +kernel) rfl
theorem wbX3_swap : Cond.code yX3_swap cX3_swap 4 none ∈ GW := gw 348 (by decide +kernel) rfl
theorem wmL_44 : Cond.methodLink RL 44 yX6_trims ∈ GW := gw 349 (by decide +kernel) rfl
theorem wvX6_trims : Cond.instanceMethod yX6_trims ∈ GW := gw 350 (by decide +kernel) rfl
theorem weX6_trims : Cond.selects RX6 yX6_trims yX6_trims ∈ GW := gw 351 (by decide +kernel) rfl
theorem wbX6_trims : Cond.code yX6_trims cX6_trims 2 (some .int) ∈ GW := gw 352 (by decide +kernel) rfl
theorem wmX6_75 : Cond.methodLink RX6 75 yX4_trimAhead ∈ GW := gw 353 (by decide +kernel) rfl
theorem wvX4_trimAhead : Cond.instanceMethod yX4_trimAhead ∈ GW := gw 354 (by decide +kernel) rfl
theorem weX4_trimAhead : Cond.selects RX4 yX4_trimAhead yX4_trimAhead ∈ GW := gw 355 (by decide +kernel) rfl
theorem wbX4_trimAhead : Cond.code yX4_trimAhead cX4_trimAhead 4 (some .int) ∈ GW := gw 356 (by decide +kernel) rfl
theorem wmX4_61 : Cond.methodLink RX4 61 yX4_flippingAhead ∈ GW := gw 357 (by decide +kernel) rfl
theorem wvX4_flippingAhead : Cond.instanceMethod yX4_flippingAhead ∈ GW := gw 358 (by decide +kernel) rfl
theorem weX4_flippingAhead : Cond.selects RX4 yX4_flippingAhead yX4_flippingAhead ∈ GW := gw 359 (by decide +kernel) rfl
theorem wbX4_flippingAhead : Cond.code yX4_flippingAhead cX4_flippingAhead 4 (some .int) ∈ GW := gw 360 (by decide +kernel) rfl
theorem wmX4_98 : Cond.methodLink RX4 98 yX3_setAhead ∈ GW := gw 361 (by decide +kernel) rfl
theorem wvX3_setAhead : Cond.instanceMethod yX3_setAhead ∈ GW := gw 362 (by decide +kernel) rfl
theorem weX3_setAhead : Cond.selects RX3 yX3_setAhead yX3_setAhead ∈ GW := gw 363 (by decide +kernel) rfl
theorem wbX3_setAhead : Cond.code yX3_setAhead cX3_setAhead 4 (some .int) ∈ GW := gw 364 (by decide +kernel) rfl
theorem wmX4_101 : Cond.methodLink RX4 101 yX4_isFlippedBehind ∈ GW := gw 365 (by decide +kernel) rfl
theorem wvX4_isFlippedBehind : Cond.instanceMethod yX4_isFlippedBehind ∈ GW := gw 366 (by decide +kernel) rfl
theorem weX4_isFlippedBehind : Cond.selects RX4 yX4_isFlippedBehind yX4_isFlippedBehind ∈ GW := gw 367 (by decide +kernel) rfl
theorem wbX4_isFlippedBehind : Cond.code yX4_isFlippedBehind cX4_isFlippedBehind 3 (some .boolean) ∈ GW := gw 368 (by decide +kernel) rfl
theorem wmX4_92 : Cond.methodLink RX4 92 yX4_cellsBehind ∈ GW := gw 369 (by decide +kernel) rfl
theorem wvX4_cellsBehind : Cond.instanceMethod yX4_cellsBehind ∈ GW := gw 370 (by decide +kernel) rfl
theorem weX4_cellsBehind : Cond.selects RX4 yX4_cellsBehind yX4_cellsBehind ∈ GW := gw 371 (by decide +kernel) rfl
theorem wbX4_cellsBehind : Cond.code yX4_cellsBehind cX4_cellsBehind 5 (some .int) ∈ GW := gw 372 (by decide +kernel) rfl
theorem wmX4_83 : Cond.methodLink RX4 83 yX3_nth ∈ GW := gw 373 (by decide +kernel) rfl
theorem wmX4_89 : Cond.methodLink RX4 89 yX4_cellsAfter ∈ GW := gw 375 (by decide +kernel) rfl
theorem wvX4_cellsAfter : Cond.instanceMethod yX4_cellsAfter ∈ GW := gw 376 (by decide +kernel) rfl
theorem weX4_cellsAfter : Cond.selects RX4 yX4_cellsAfter yX4_cellsAfter ∈ GW := gw 377 (by decide +kernel) rfl
theorem wbX4_cellsAfter : Cond.code yX4_cellsAfter cX4_cellsAfter 4 (some .int) ∈ GW := gw 378 (by decide +kernel) rfl
theorem wmX4_75 : Cond.methodLink RX4 75 yX4_wrongCells ∈ GW := gw 379 (by decide +kernel) rfl
theorem wvX4_wrongCells : Cond.instanceMethod yX4_wrongCells ∈ GW := gw 380 (by decide +kernel) rfl
theorem weX4_wrongCells : Cond.selects RX4 yX4_wrongCells yX4_wrongCells ∈ GW := gw 381 (by decide +kernel) rfl
theorem wbX4_wrongCells : Cond.code yX4_wrongCells cX4_wrongCells 4 (some .int) ∈ GW := gw 382 (by decide +kernel) rfl
theorem wmX4_95 : Cond.methodLink RX4 95 yX4_isFlippedOn ∈ GW := gw 383 (by decide +kernel) rfl
theorem wvX4_isFlippedOn : Cond.instanceMethod yX4_isFlippedOn ∈ GW := gw 384 (by decide +kernel) rfl
theorem weX4_isFlippedOn : Cond.selects RX4 yX4_isFlippedOn yX4_isFlippedOn ∈ GW := gw 385 (by decide +kernel) rfl
theorem wbX4_isFlippedOn : Cond.code yX4_isFlippedOn cX4_isFlippedOn 3 (some .boolean) ∈ GW := gw 386 (by decide +kernel) rfl
theorem wmX4_79 : Cond.methodLink RX4 79 yX4_passesOn ∈ GW := gw 387 (by decide +kernel) rfl
theorem wvX4_passesOn : Cond.instanceMethod yX4_passesOn ∈ GW := gw 388 (by decide +kernel) rfl
theorem weX4_passesOn : Cond.selects RX4 yX4_passesOn yX4_passesOn ∈ GW := gw 389 (by decide +kernel) rfl
theorem wbX4_passesOn : Cond.code yX4_passesOn cX4_passesOn 3 (some .boolean) ∈ GW := gw 390 (by decide +kernel) rfl
theorem wmX4_64 : Cond.methodLink RX4 64 yX2_least ∈ GW := gw 391 (by decide +kernel) rfl
theorem wsX2_least : Cond.static yX2_least ∈ GW := gw 392 (by decide +kernel) rfl
theorem wbX2_least : Cond.code yX2_least cX2_least 9 (some .int) ∈ GW := gw 393 (by decide +kernel) rfl
theorem wmX2_21 : Cond.methodLink RX2 21 yX3_nth ∈ GW := gw 394 (by decide +kernel) rfl
theorem wmX2_29 : Cond.methodLink RX2 29 yX4_isFlippedBehind ∈ GW := gw 396 (by decide +kernel) rfl
theorem wmX4_70 : Cond.methodLink RX4 70 yJ6_bitCount_0f7a4 ∈ GW := gw 397 (by decide +kernel) rfl
theorem wsJ6_bitCount_0f7a4 : Cond.static yJ6_bitCount_0f7a4 ∈ GW := gw 398 (by decide +kernel) rfl
theorem wbJ6_bitCount_0f7a4 : Cond.code yJ6_bitCount_0f7a4 cJ6_bitCount_0f7a4 1 (some .int) ∈ GW := gw 399 (by decide +kernel) rfl
theorem wkJ6_265 : Cond.constant RJ6 265 (1431655765) ∈ GW := gw 400 (by decide +kernel) rfl
theorem wkJ6_266 : Cond.constant RJ6 266 (858993459) ∈ GW := gw 401 (by decide +kernel) rfl
theorem wkJ6_267 : Cond.constant RJ6 267 (252645135) ∈ GW := gw 402 (by decide +kernel) rfl
theorem wmL_48 : Cond.methodLink RL 48 yX6_of ∈ GW := gw 403 (by decide +kernel) rfl
theorem wvX6_of : Cond.instanceMethod yX6_of ∈ GW := gw 404 (by decide +kernel) rfl
theorem weX6_of : Cond.selects RX6 yX6_of yX6_of ∈ GW := gw 405 (by decide +kernel) rfl
theorem wbX6_of : Cond.code yX6_of cX6_of 3 (some .int) ∈ GW := gw 406 (by decide +kernel) rfl
theorem wmX6_78 : Cond.methodLink RX6 78 yX4_hasTest ∈ GW := gw 407 (by decide +kernel) rfl
theorem wmX6_89 : Cond.methodLink RX6 89 yX4_passesOn ∈ GW := gw 408 (by decide +kernel) rfl
theorem wmX6_93 : Cond.methodLink RX6 93 yX6_oneIf ∈ GW := gw 409 (by decide +kernel) rfl
theorem wsX6_oneIf : Cond.static yX6_oneIf ∈ GW := gw 410 (by decide +kernel) rfl
theorem wbX6_oneIf : Cond.code yX6_oneIf cX6_oneIf 1 (some .int) ∈ GW := gw 411 (by decide +kernel) rfl
theorem wmX6_97 : Cond.methodLink RX6 97 yX4_mask ∈ GW := gw 412 (by decide +kernel) rfl
theorem wvX4_mask : Cond.instanceMethod yX4_mask ∈ GW := gw 413 (by decide +kernel) rfl
theorem weX4_mask : Cond.selects RX4 yX4_mask yX4_mask ∈ GW := gw 414 (by decide +kernel) rfl
theorem wbX4_mask : Cond.code yX4_mask cX4_mask 4 (some .int) ∈ GW := gw 415 (by decide +kernel) rfl
theorem wmL_53 : Cond.methodLink RL 53 yX6_soils ∈ GW := gw 416 (by decide +kernel) rfl
theorem wvX6_soils : Cond.instanceMethod yX6_soils ∈ GW := gw 417 (by decide +kernel) rfl
theorem weX6_soils : Cond.selects RX6 yX6_soils yX6_soils ∈ GW := gw 418 (by decide +kernel) rfl
theorem wbX6_soils : Cond.code yX6_soils cX6_soils 3 (some .int) ∈ GW := gw 419 (by decide +kernel) rfl
theorem wmX6_101 : Cond.methodLink RX6 101 yX6_areTwoTests ∈ GW := gw 420 (by decide +kernel) rfl
theorem wvX6_areTwoTests : Cond.instanceMethod yX6_areTwoTests ∈ GW := gw 422 (by decide +kernel) rfl
theorem wbX6_areTwoTests : Cond.code yX6_areTwoTests cX6_areTwoTests 3 (some .boolean) ∈ GW := gw 423 (by decide +kernel) rfl
theorem wmX6_104 : Cond.methodLink RX6 104 yX4_doesSoil ∈ GW := gw 424 (by decide +kernel) rfl
theorem wvX4_doesSoil : Cond.instanceMethod yX4_doesSoil ∈ GW := gw 425 (by decide +kernel) rfl
theorem weX4_doesSoil : Cond.selects RX4 yX4_doesSoil yX4_doesSoil ∈ GW := gw 426 (by decide +kernel) rfl
theorem wbX4_doesSoil : Cond.code yX4_doesSoil cX4_doesSoil 3 (some .boolean) ∈ GW := gw 427 (by decide +kernel) rfl
theorem wmL_57 : Cond.methodLink RL 57 yX6_cleans ∈ GW := gw 428 (by decide +kernel) rfl
theorem wvX6_cleans : Cond.instanceMethod yX6_cleans ∈ GW := gw 429 (by decide +kernel) rfl
theorem weX6_cleans : Cond.selects RX6 yX6_cleans yX6_cleans ∈ GW := gw 430 (by decide +kernel) rfl
theorem wbX6_cleans : Cond.code yX6_cleans cX6_cleans 3 (some .int) ∈ GW := gw 431 (by decide +kernel) rfl
theorem wmX6_107 : Cond.methodLink RX6 107 yX4_cleaners ∈ GW := gw 432 (by decide +kernel) rfl
theorem wvX4_cleaners : Cond.instanceMethod yX4_cleaners ∈ GW := gw 433 (by decide +kernel) rfl
theorem weX4_cleaners : Cond.selects RX4 yX4_cleaners yX4_cleaners ∈ GW := gw 434 (by decide +kernel) rfl
theorem wbX4_cleaners : Cond.code yX4_cleaners cX4_cleaners 6 (some .int) ∈ GW := gw 435 (by decide +kernel) rfl
theorem wmL_61 : Cond.methodLink RL 61 yX6_flips ∈ GW := gw 436 (by decide +kernel) rfl
theorem wvX6_flips : Cond.instanceMethod yX6_flips ∈ GW := gw 437 (by decide +kernel) rfl
theorem weX6_flips : Cond.selects RX6 yX6_flips yX6_flips ∈ GW := gw 438 (by decide +kernel) rfl
theorem wbX6_flips : Cond.code yX6_flips cX6_flips 2 (some .int) ∈ GW := gw 439 (by decide +kernel) rfl
theorem wmX6_110 : Cond.methodLink RX6 110 yX6_isSeed ∈ GW := gw 440 (by decide +kernel) rfl
theorem wmX6_113 : Cond.methodLink RX6 113 yX6_flippedBySeed ∈ GW := gw 441 (by decide +kernel) rfl
theorem wvX6_flippedBySeed : Cond.instanceMethod yX6_flippedBySeed ∈ GW := gw 443 (by decide +kernel) rfl
theorem wbX6_flippedBySeed : Cond.code yX6_flippedBySeed cX6_flippedBySeed 2 (some .int) ∈ GW := gw 444 (by decide +kernel) rfl
theorem wmX6_250 : Cond.methodLink RX6 250 yX3_layShuffled ∈ GW := gw 445 (by decide +kernel) rfl
theorem wmX6_178 : Cond.methodLink RX6 178 yX4_flippedIn ∈ GW := gw 446 (by decide +kernel) rfl
theorem wvX4_flippedIn : Cond.instanceMethod yX4_flippedIn ∈ GW := gw 447 (by decide +kernel) rfl
theorem weX4_flippedIn : Cond.selects RX4 yX4_flippedIn yX4_flippedIn ∈ GW := gw 448 (by decide +kernel) rfl
theorem wbX4_flippedIn : Cond.code yX4_flippedIn cX4_flippedIn 2 (some .int) ∈ GW := gw 449 (by decide +kernel) rfl
theorem wmX4_108 : Cond.methodLink RX4 108 yX4_passingIn ∈ GW := gw 450 (by decide +kernel) rfl
theorem wvX4_passingIn : Cond.instanceMethod yX4_passingIn ∈ GW := gw 451 (by decide +kernel) rfl
theorem weX4_passingIn : Cond.selects RX4 yX4_passingIn yX4_passingIn ∈ GW := gw 452 (by decide +kernel) rfl
theorem wbX4_passingIn : Cond.code yX4_passingIn cX4_passingIn 6 (some .int) ∈ GW := gw 453 (by decide +kernel) rfl
theorem wmX4_112 : Cond.methodLink RX4 112 yX4_passingAlone ∈ GW := gw 455 (by decide +kernel) rfl
theorem wvX4_passingAlone : Cond.instanceMethod yX4_passingAlone ∈ GW := gw 456 (by decide +kernel) rfl
theorem weX4_passingAlone : Cond.selects RX4 yX4_passingAlone yX4_passingAlone ∈ GW := gw 457 (by decide +kernel) rfl
theorem wbX4_passingAlone : Cond.code yX4_passingAlone cX4_passingAlone 3 (some .int) ∈ GW := gw 458 (by decide +kernel) rfl
theorem wmL_65 : Cond.methodLink RL 65 yX6_seed ∈ GW := gw 459 (by decide +kernel) rfl
theorem wvX6_seed : Cond.instanceMethod yX6_seed ∈ GW := gw 460 (by decide +kernel) rfl
theorem weX6_seed : Cond.selects RX6 yX6_seed yX6_seed ∈ GW := gw 461 (by decide +kernel) rfl
theorem wbX6_seed : Cond.code yX6_seed cX6_seed 4 (some .int) ∈ GW := gw 462 (by decide +kernel) rfl
theorem wmX6_117 : Cond.methodLink RX6 117 yX6_isIn ∈ GW := gw 463 (by decide +kernel) rfl
theorem wmL_69 : Cond.methodLink RL 69 yX6_at ∈ GW := gw 464 (by decide +kernel) rfl
theorem wvX6_at : Cond.instanceMethod yX6_at ∈ GW := gw 465 (by decide +kernel) rfl
theorem weX6_at : Cond.selects RX6 yX6_at yX6_at ∈ GW := gw 466 (by decide +kernel) rfl
theorem wbX6_at : Cond.code yX6_at cX6_at 2 (some .int) ∈ GW := gw 467 (by decide +kernel) rfl
theorem wmX6_123 : Cond.methodLink RX6 123 yX3_nth ∈ GW := gw 468 (by decide +kernel) rfl
theorem wmL_73 : Cond.methodLink RL 73 yX6_inRow ∈ GW := gw 469 (by decide +kernel) rfl
theorem wvX6_inRow : Cond.instanceMethod yX6_inRow ∈ GW := gw 470 (by decide +kernel) rfl
theorem weX6_inRow : Cond.selects RX6 yX6_inRow yX6_inRow ∈ GW := gw 471 (by decide +kernel) rfl
theorem wbX6_inRow : Cond.code yX6_inRow cX6_inRow 5 (some .int) ∈ GW := gw 472 (by decide +kernel) rfl
theorem wmX6_126 : Cond.methodLink RX6 126 yX3_placeOf ∈ GW := gw 473 (by decide +kernel) rfl
theorem wmX6_129 : Cond.methodLink RX6 129 yX3_setAhead ∈ GW := gw 474 (by decide +kernel) rfl
theorem wmX6_132 : Cond.methodLink RX6 132 yX4_cellsBehind ∈ GW := gw 475 (by decide +kernel) rfl
theorem wmX6_135 : Cond.methodLink RX6 135 yX4_isFlippedOn ∈ GW := gw 476 (by decide +kernel) rfl
theorem wmX6_138 : Cond.methodLink RX6 138 yX4_wrongCells ∈ GW := gw 477 (by decide +kernel) rfl
theorem wmX6_141 : Cond.methodLink RX6 141 yX4_cellsAfter ∈ GW := gw 478 (by decide +kernel) rfl
theorem wmL_77 : Cond.methodLink RL 77 yX6_who ∈ GW := gw 479 (by decide +kernel) rfl
theorem wvX6_who : Cond.instanceMethod yX6_who ∈ GW := gw 480 (by decide +kernel) rfl
theorem weX6_who : Cond.selects RX6 yX6_who yX6_who ∈ GW := gw 481 (by decide +kernel) rfl
theorem wbX6_who : Cond.code yX6_who cX6_who 4 (some .int) ∈ GW := gw 482 (by decide +kernel) rfl
theorem wmX6_144 : Cond.methodLink RX6 144 yX4_lastToChange ∈ GW := gw 483 (by decide +kernel) rfl
theorem wvX4_lastToChange : Cond.instanceMethod yX4_lastToChange ∈ GW := gw 484 (by decide +kernel) rfl
theorem weX4_lastToChange : Cond.selects RX4 yX4_lastToChange yX4_lastToChange ∈ GW := gw 485 (by decide +kernel) rfl
theorem wbX4_lastToChange : Cond.code yX4_lastToChange cX4_lastToChange 8 (some .int) ∈ GW := gw 486 (by decide +kernel) rfl
theorem wmL_81 : Cond.methodLink RL 81 yX6_left ∈ GW := gw 487 (by decide +kernel) rfl
theorem wvX6_left : Cond.instanceMethod yX6_left ∈ GW := gw 488 (by decide +kernel) rfl
theorem weX6_left : Cond.selects RX6 yX6_left yX6_left ∈ GW := gw 489 (by decide +kernel) rfl
theorem wbX6_left : Cond.code yX6_left cX6_left 4 (some .int) ∈ GW := gw 490 (by decide +kernel) rfl
theorem wmX6_147 : Cond.methodLink RX6 147 yX4_flippingAhead ∈ GW := gw 491 (by decide +kernel) rfl
theorem wmX6_150 : Cond.methodLink RX6 150 yX2_least ∈ GW := gw 492 (by decide +kernel) rfl
theorem wmX6_156 : Cond.methodLink RX6 156 yX2_fewest ∈ GW := gw 493 (by decide +kernel) rfl
theorem wsX2_fewest : Cond.static yX2_fewest ∈ GW := gw 494 (by decide +kernel) rfl
theorem wbX2_fewest : Cond.code yX2_fewest cX2_fewest 6 (some .int) ∈ GW := gw 495 (by decide +kernel) rfl
theorem wmX2_32 : Cond.methodLink RX2 32 yJ6_bitCount_0f7a4 ∈ GW := gw 496 (by decide +kernel) rfl
theorem wmX6_159 : Cond.methodLink RX6 159 yX2_halves ∈ GW := gw 497 (by decide +kernel) rfl
theorem wsX2_halves : Cond.static yX2_halves ∈ GW := gw 498 (by decide +kernel) rfl
theorem wbX2_halves : Cond.code yX2_halves cX2_halves 7 (some .int) ∈ GW := gw 499 (by decide +kernel) rfl
theorem wmX2_37 : Cond.methodLink RX2 37 yX2_firstHalf ∈ GW := gw 500 (by decide +kernel) rfl
theorem wsX2_firstHalf : Cond.static yX2_firstHalf ∈ GW := gw 501 (by decide +kernel) rfl
theorem wbX2_firstHalf : Cond.code yX2_firstHalf cX2_firstHalf 6 (some .int) ∈ GW := gw 502 (by decide +kernel) rfl
theorem wmL_85 : Cond.methodLink RL 85 yX6_count ∈ GW := gw 503 (by decide +kernel) rfl
theorem wvX6_count : Cond.instanceMethod yX6_count ∈ GW := gw 504 (by decide +kernel) rfl
theorem weX6_count : Cond.selects RX6 yX6_count yX6_count ∈ GW := gw 505 (by decide +kernel) rfl
theorem wbX6_count : Cond.code yX6_count cX6_count 2 (some .int) ∈ GW := gw 506 (by decide +kernel) rfl
theorem wmX6_169 : Cond.methodLink RX6 169 yX4_passingIn ∈ GW := gw 507 (by decide +kernel) rfl
theorem wmX6_173 : Cond.methodLink RX6 173 yJ6_bitCount_0f7a4 ∈ GW := gw 508 (by decide +kernel) rfl
theorem wmX6_181 : Cond.methodLink RX6 181 yX4_soilingPairs ∈ GW := gw 509 (by decide +kernel) rfl
theorem wvX4_soilingPairs : Cond.instanceMethod yX4_soilingPairs ∈ GW := gw 510 (by decide +kernel) rfl
theorem weX4_soilingPairs : Cond.selects RX4 yX4_soilingPairs yX4_soilingPairs ∈ GW := gw 511 (by decide +kernel) rfl
theorem wbX4_soilingPairs : Cond.code yX4_soilingPairs cX4_soilingPairs 4 (some .int) ∈ GW := gw 512 (by decide +kernel) rfl
theorem wmX4_116 : Cond.methodLink RX4 116 yX4_doesSoil ∈ GW := gw 513 (by decide +kernel) rfl
theorem wmL_89 : Cond.methodLink RL 89 yX6_type ∈ GW := gw 514 (by decide +kernel) rfl
theorem wvX6_type : Cond.instanceMethod yX6_type ∈ GW := gw 515 (by decide +kernel) rfl
theorem weX6_type : Cond.selects RX6 yX6_type yX6_type ∈ GW := gw 516 (by decide +kernel) rfl
theorem wbX6_type : Cond.code yX6_type cX6_type 2 (some .int) ∈ GW := gw 517 (by decide +kernel) rfl
theorem wmX6_184 : Cond.methodLink RX6 184 yX5_isFull ∈ GW := gw 518 (by decide +kernel) rfl
theorem wvX5_isFull : Cond.instanceMethod yX5_isFull ∈ GW := gw 519 (by decide +kernel) rfl
theorem weX5_isFull : Cond.selects RX5 yX5_isFull yX5_isFull ∈ GW := gw 520 (by decide +kernel) rfl
theorem wbX5_isFull : Cond.code yX5_isFull cX5_isFull 1 (some .boolean) ∈ GW := gw 521 (by decide +kernel) rfl
theorem wmX6_188 : Cond.methodLink RX6 188 yX5_append ∈ GW := gw 522 (by decide +kernel) rfl
theorem wvX5_append : Cond.instanceMethod yX5_append ∈ GW := gw 523 (by decide +kernel) rfl
theorem weX5_append : Cond.selects RX5 yX5_append yX5_append ∈ GW := gw 524 (by decide +kernel) rfl
theorem wbX5_append : Cond.code yX5_append cX5_append 2 (some .int) ∈ GW := gw 525 (by decide +kernel) rfl
theorem wmL_93 : Cond.methodLink RL 93 yX6_clear ∈ GW := gw 526 (by decide +kernel) rfl
theorem wvX6_clear : Cond.instanceMethod yX6_clear ∈ GW := gw 527 (by decide +kernel) rfl
theorem weX6_clear : Cond.selects RX6 yX6_clear yX6_clear ∈ GW := gw 528 (by decide +kernel) rfl
theorem wbX6_clear : Cond.code yX6_clear cX6_clear 1 (some .int) ∈ GW := gw 529 (by decide +kernel) rfl
theorem wmX6_191 : Cond.methodLink RX6 191 yX5_makeEmpty ∈ GW := gw 530 (by decide +kernel) rfl
theorem wvX5_makeEmpty : Cond.instanceMethod yX5_makeEmpty ∈ GW := gw 531 (by decide +kernel) rfl
theorem weX5_makeEmpty : Cond.selects RX5 yX5_makeEmpty yX5_makeEmpty ∈ GW := gw 532 (by decide +kernel) rfl
theorem wbX5_makeEmpty : Cond.code yX5_makeEmpty cX5_makeEmpty 2 (some .int) ∈ GW := gw 533 (by decide +kernel) rfl
theorem wmL_97 : Cond.methodLink RL 97 yX6_does ∈ GW := gw 534 (by decide +kernel) rfl
theorem wvX6_does : Cond.instanceMethod yX6_does ∈ GW := gw 535 (by decide +kernel) rfl
theorem weX6_does : Cond.selects RX6 yX6_does yX6_does ∈ GW := gw 536 (by decide +kernel) rfl
theorem wbX6_does : Cond.code yX6_does cX6_does 3 (some .int) ∈ GW := gw 537 (by decide +kernel) rfl
theorem wmX6_194 : Cond.methodLink RX6 194 yX0_read ∈ GW := gw 538 (by decide +kernel) rfl
theorem wvX0_read : Cond.instanceMethod yX0_read ∈ GW := gw 539 (by decide +kernel) rfl
theorem weX0_read : Cond.selects RX0 yX0_read yX0_read ∈ GW := gw 540 (by decide +kernel) rfl
theorem wbX0_read : Cond.code yX0_read cX0_read 3 (some .int) ∈ GW := gw 541 (by decide +kernel) rfl
theorem wmX0_30 : Cond.methodLink RX0 30 yX5_nth ∈ GW := gw 542 (by decide +kernel) rfl
theorem wvX5_nth : Cond.instanceMethod yX5_nth ∈ GW := gw 543 (by decide +kernel) rfl
theorem weX5_nth : Cond.selects RX5 yX5_nth yX5_nth ∈ GW := gw 544 (by decide +kernel) rfl
theorem wbX5_nth : Cond.code yX5_nth cX5_nth 2 (some .int) ∈ GW := gw 545 (by decide +kernel) rfl
theorem wmX0_34 : Cond.methodLink RX0 34 yX0_takes ∈ GW := gw 546 (by decide +kernel) rfl
theorem wvX0_takes : Cond.instanceMethod yX0_takes ∈ GW := gw 548 (by decide +kernel) rfl
theorem wbX0_takes : Cond.code yX0_takes cX0_takes 2 (some .boolean) ∈ GW := gw 549 (by decide +kernel) rfl
theorem wmX0_41 : Cond.methodLink RX0 41 yX0_opensOrder ∈ GW := gw 550 (by decide +kernel) rfl
theorem wvX0_opensOrder : Cond.instanceMethod yX0_opensOrder ∈ GW := gw 552 (by decide +kernel) rfl
theorem wbX0_opensOrder : Cond.code yX0_opensOrder cX0_opensOrder 2 (some .boolean) ∈ GW := gw 553 (by decide +kernel) rfl
theorem wmX0_51 : Cond.methodLink RX0 51 yX0_numbersOf ∈ GW := gw 554 (by decide +kernel) rfl
theorem wsX0_numbersOf : Cond.static yX0_numbersOf ∈ GW := gw 555 (by decide +kernel) rfl
theorem wbX0_numbersOf : Cond.code yX0_numbersOf cX0_numbersOf 1 (some .int) ∈ GW := gw 556 (by decide +kernel) rfl
theorem wmX0_44 : Cond.methodLink RX0 44 yX0_endsOrder ∈ GW := gw 557 (by decide +kernel) rfl
theorem wvX0_endsOrder : Cond.instanceMethod yX0_endsOrder ∈ GW := gw 559 (by decide +kernel) rfl
theorem wbX0_endsOrder : Cond.code yX0_endsOrder cX0_endsOrder 1 (some .boolean) ∈ GW := gw 560 (by decide +kernel) rfl
theorem wmX0_48 : Cond.methodLink RX0 48 yX0_takesFigure ∈ GW := gw 561 (by decide +kernel) rfl
theorem wvX0_takesFigure : Cond.instanceMethod yX0_takesFigure ∈ GW := gw 563 (by decide +kernel) rfl
theorem wbX0_takesFigure : Cond.code yX0_takesFigure cX0_takesFigure 2 (some .boolean) ∈ GW := gw 564 (by decide +kernel) rfl
theorem wmX0_57 : Cond.methodLink RX0 57 yX0_setNumber ∈ GW := gw 565 (by decide +kernel) rfl
theorem wvX0_setNumber : Cond.instanceMethod yX0_setNumber ∈ GW := gw 567 (by decide +kernel) rfl
theorem wbX0_setNumber : Cond.code yX0_setNumber cX0_setNumber 3 none ∈ GW := gw 568 (by decide +kernel) rfl
theorem wmX0_61 : Cond.methodLink RX0 61 yX0_number ∈ GW := gw 569 (by decide +kernel) rfl
theorem wvX0_number : Cond.instanceMethod yX0_number ∈ GW := gw 570 (by decide +kernel) rfl
theorem weX0_number : Cond.selects RX0 yX0_number yX0_number ∈ GW := gw 571 (by decide +kernel) rfl
theorem wbX0_number : Cond.code yX0_number cX0_number 4 (some .int) ∈ GW := gw 572 (by decide +kernel) rfl
theorem wmX6_199 : Cond.methodLink RX6 199 yX6_carryOut ∈ GW := gw 573 (by decide +kernel) rfl
theorem wvX6_carryOut : Cond.instanceMethod yX6_carryOut ∈ GW := gw 575 (by decide +kernel) rfl
theorem wbX6_carryOut : Cond.code yX6_carryOut cX6_carryOut 3 (some .int) ∈ GW := gw 576 (by decide +kernel) rfl
theorem wmX6_244 : Cond.methodLink RX6 244 yX0_number ∈ GW := gw 577 (by decide +kernel) rfl
theorem wmX6_247 : Cond.methodLink RX6 247 yX0_letter ∈ GW := gw 578 (by decide +kernel) rfl
theorem wvX0_letter : Cond.instanceMethod yX0_letter ∈ GW := gw 579 (by decide +kernel) rfl
theorem weX0_letter : Cond.selects RX0 yX0_letter yX0_letter ∈ GW := gw 580 (by decide +kernel) rfl
theorem wbX0_letter : Cond.code yX0_letter cX0_letter 2 (some .int) ∈ GW := gw 581 (by decide +kernel) rfl
theorem wmX6_202 : Cond.methodLink RX6 202 yX1_recall ∈ GW := gw 582 (by decide +kernel) rfl
theorem wvX1_recall : Cond.instanceMethod yX1_recall ∈ GW := gw 583 (by decide +kernel) rfl
theorem weX1_recall : Cond.selects RX1 yX1_recall yX1_recall ∈ GW := gw 584 (by decide +kernel) rfl
theorem wbX1_recall : Cond.code yX1_recall cX1_recall 3 none ∈ GW := gw 585 (by decide +kernel) rfl
theorem wmL_101 : Cond.methodLink RL 101 yX6_back ∈ GW := gw 586 (by decide +kernel) rfl
theorem wvX6_back : Cond.instanceMethod yX6_back ∈ GW := gw 587 (by decide +kernel) rfl
theorem weX6_back : Cond.selects RX6 yX6_back yX6_back ∈ GW := gw 588 (by decide +kernel) rfl
theorem wbX6_back : Cond.code yX6_back cX6_back 1 (some .int) ∈ GW := gw 589 (by decide +kernel) rfl
theorem wmX6_209 : Cond.methodLink RX6 209 yX1_stepBack ∈ GW := gw 590 (by decide +kernel) rfl
theorem wvX1_stepBack : Cond.instanceMethod yX1_stepBack ∈ GW := gw 591 (by decide +kernel) rfl
theorem weX1_stepBack : Cond.selects RX1 yX1_stepBack yX1_stepBack ∈ GW := gw 592 (by decide +kernel) rfl
theorem wbX1_stepBack : Cond.code yX1_stepBack cX1_stepBack 2 (some .int) ∈ GW := gw 593 (by decide +kernel) rfl
theorem wmX1_39 : Cond.methodLink RX1 39 yX1_recall ∈ GW := gw 594 (by decide +kernel) rfl
theorem wmL_105 : Cond.methodLink RL 105 yX6_told ∈ GW := gw 595 (by decide +kernel) rfl
theorem wvX6_told : Cond.instanceMethod yX6_told ∈ GW := gw 596 (by decide +kernel) rfl
theorem weX6_told : Cond.selects RX6 yX6_told yX6_told ∈ GW := gw 597 (by decide +kernel) rfl
theorem wbX6_told : Cond.code yX6_told cX6_told 2 (some .int) ∈ GW := gw 598 (by decide +kernel) rfl
theorem wmL_109 : Cond.methodLink RL 109 yX6_digest ∈ GW := gw 599 (by decide +kernel) rfl
theorem wvX6_digest : Cond.instanceMethod yX6_digest ∈ GW := gw 600 (by decide +kernel) rfl
theorem weX6_digest : Cond.selects RX6 yX6_digest yX6_digest ∈ GW := gw 601 (by decide +kernel) rfl
theorem wbX6_digest : Cond.code yX6_digest cX6_digest 6 (some .long) ∈ GW := gw 602 (by decide +kernel) rfl
theorem wkX6_225 : Cond.constantLong RX6 225 (18056) ∈ GW := gw 603 (by decide +kernel) rfl
theorem wkX6_227 : Cond.constantLong RX6 227 (31) ∈ GW := gw 604 (by decide +kernel) rfl
theorem wmX6_229 : Cond.methodLink RX6 229 yX6_told ∈ GW := gw 605 (by decide +kernel) rfl
theorem wmX6_232 : Cond.methodLink RX6 232 yX6_count ∈ GW := gw 606 (by decide +kernel) rfl
theorem wmX6_235 : Cond.methodLink RX6 235 yX6_of ∈ GW := gw 607 (by decide +kernel) rfl
theorem wmX6_238 : Cond.methodLink RX6 238 yX6_inRow ∈ GW := gw 608 (by decide +kernel) rfl
theorem wmX6_241 : Cond.methodLink RX6 241 yX6_flips ∈ GW := gw 609 (by decide +kernel) rfl
theorem wcL_10 : Cond.classLink RL 10 RX7 ∈ GW := gw 610 (by decide +kernel) rfl
theorem wqX7 : Cond.instantiable RX7 16 ∈ GW := gw 611 (by decide +kernel) rfl
theorem wmL_12 : Cond.methodLink RL 12 yX7_init ∈ GW := gw 612 (by decide +kernel) rfl
theorem wvX7_init : Cond.instanceMethod yX7_init ∈ GW := gw 613 (by decide +kernel) rfl
theorem wbX7_init : Cond.code yX7_init cX7_init 1 none ∈ GW := gw 614 (by decide +kernel) rfl
theorem wmX7_1 : Cond.methodLink RX7 1 objectInit ∈ GW := gw 615 (by decide +kernel) rfl
theorem wfX7_7 : Cond.fieldLink RX7 7 "SoiledTestsModel" "now" "[I" ∈ GW := gw 616 (by decide +kernel) rfl
theorem wfX7_13 : Cond.fieldLink RX7 13 "SoiledTestsModel" "aside" "[I" ∈ GW := gw 617 (by decide +kernel) rfl
theorem wfX7_16 : Cond.fieldLink RX7 16 "SoiledTestsModel" "past" "[I" ∈ GW := gw 618 (by decide +kernel) rfl
theorem wfX7_37 : Cond.fieldLink RX7 37 "SoiledTestsModel" "states" "I" ∈ GW := gw 619 (by decide +kernel) rfl
theorem wfX7_19 : Cond.fieldLink RX7 19 "SoiledTestsModel" "refusals" "[I" ∈ GW := gw 620 (by decide +kernel) rfl
theorem wfX7_22 : Cond.fieldLink RX7 22 "SoiledTestsModel" "text" "[I" ∈ GW := gw 621 (by decide +kernel) rfl
theorem wfX7_180 : Cond.fieldLink RX7 180 "SoiledTestsModel" "bytes" "I" ∈ GW := gw 622 (by decide +kernel) rfl
theorem wfX7_25 : Cond.fieldLink RX7 25 "SoiledTestsModel" "tried" "[I" ∈ GW := gw 623 (by decide +kernel) rfl
theorem wfX7_60 : Cond.fieldLink RX7 60 "SoiledTestsModel" "triedMany" "I" ∈ GW := gw 624 (by decide +kernel) rfl
theorem wfX7_28 : Cond.fieldLink RX7 28 "SoiledTestsModel" "shuffled" "[I" ∈ GW := gw 625 (by decide +kernel) rfl
theorem wfX7_31 : Cond.fieldLink RX7 31 "SoiledTestsModel" "letters" "[I" ∈ GW := gw 626 (by decide +kernel) rfl
theorem wfX7_34 : Cond.fieldLink RX7 34 "SoiledTestsModel" "numbers" "[I" ∈ GW := gw 627 (by decide +kernel) rfl
theorem wfX7_202 : Cond.fieldLink RX7 202 "SoiledTestsModel" "orders" "I" ∈ GW := gw 628 (by decide +kernel) rfl
theorem wfX7_183 : Cond.fieldLink RX7 183 "SoiledTestsModel" "spot" "I" ∈ GW := gw 629 (by decide +kernel) rfl
theorem wfX7_189 : Cond.fieldLink RX7 189 "SoiledTestsModel" "wrongAt" "I" ∈ GW := gw 630 (by decide +kernel) rfl
theorem wfX7_225 : Cond.fieldLink RX7 225 "SoiledTestsModel" "hash" "J" ∈ GW := gw 631 (by decide +kernel) rfl
theorem wmL_104 : Cond.methodLink RL 104 yX7_back ∈ GW := gw 665 (by decide +kernel) rfl
theorem wvX7_back : Cond.instanceMethod yX7_back ∈ GW := gw 666 (by decide +kernel) rfl
theorem weX7_back : Cond.selects RX7 yX7_back yX7_back ∈ GW := gw 667 (by decide +kernel) rfl
theorem wbX7_back : Cond.code yX7_back cX7_back 2 (some .int) ∈ GW := gw 668 (by decide +kernel) rfl
theorem wmX7_41 : Cond.methodLink RX7 41 yX7_refuses ∈ GW := gw 669 (by decide +kernel) rfl
theorem wvX7_refuses : Cond.instanceMethod yX7_refuses ∈ GW := gw 671 (by decide +kernel) rfl
theorem wbX7_refuses : Cond.code yX7_refuses cX7_refuses 2 (some .int) ∈ GW := gw 672 (by decide +kernel) rfl
theorem wmL_17 : Cond.methodLink RL 17 yX7_test ∈ GW := gw 673 (by decide +kernel) rfl
theorem wvX7_test : Cond.instanceMethod yX7_test ∈ GW := gw 674 (by decide +kernel) rfl
theorem weX7_test : Cond.selects RX7 yX7_test yX7_test ∈ GW := gw 675 (by decide +kernel) rfl
theorem wbX7_test : Cond.code yX7_test cX7_test 6 (some .int) ∈ GW := gw 676 (by decide +kernel) rfl
theorem wmX7_121 : Cond.methodLink RX7 121 yX7_laysAside ∈ GW := gw 677 (by decide +kernel) rfl
theorem wvX7_laysAside : Cond.instanceMethod yX7_laysAside ∈ GW := gw 679 (by decide +kernel) rfl
theorem wbX7_laysAside : Cond.code yX7_laysAside cX7_laysAside 2 none ∈ GW := gw 680 (by decide +kernel) rfl
theorem wmX7_124 : Cond.methodLink RX7 124 yX7_putTest ∈ GW := gw 681 (by decide +kernel) rfl
theorem wvX7_putTest : Cond.instanceMethod yX7_putTest ∈ GW := gw 683 (by decide +kernel) rfl
theorem wbX7_putTest : Cond.code yX7_putTest cX7_putTest 8 (some .int) ∈ GW := gw 684 (by decide +kernel) rfl
theorem wmX7_48 : Cond.methodLink RX7 48 yX7_in ∈ GW := gw 685 (by decide +kernel) rfl
theorem wsX7_in : Cond.static yX7_in ∈ GW := gw 686 (by decide +kernel) rfl
theorem wbX7_in : Cond.code yX7_in cX7_in 3 (some .boolean) ∈ GW := gw 687 (by decide +kernel) rfl
theorem wmX7_128 : Cond.methodLink RX7 128 yX7_finished ∈ GW := gw 688 (by decide +kernel) rfl
theorem wvX7_finished : Cond.instanceMethod yX7_finished ∈ GW := gw 690 (by decide +kernel) rfl
theorem wbX7_finished : Cond.code yX7_finished cX7_finished 2 (some .int) ∈ GW := gw 691 (by decide +kernel) rfl
theorem wmX7_45 : Cond.methodLink RX7 45 yX7_remembers ∈ GW := gw 692 (by decide +kernel) rfl
theorem wvX7_remembers : Cond.instanceMethod yX7_remembers ∈ GW := gw 694 (by decide +kernel) rfl
theorem wbX7_remembers : Cond.code yX7_remembers cX7_remembers 2 none ∈ GW := gw 695 (by decide +kernel) rfl
theorem wmL_22 : Cond.methodLink RL 22 yX7_cuts ∈ GW := gw 696 (by decide +kernel) rfl
theorem wvX7_cuts : Cond.instanceMethod yX7_cuts ∈ GW := gw 697 (by decide +kernel) rfl
theorem weX7_cuts : Cond.selects RX7 yX7_cuts yX7_cuts ∈ GW := gw 698 (by decide +kernel) rfl
theorem wbX7_cuts : Cond.code yX7_cuts cX7_cuts 1 (some .int) ∈ GW := gw 699 (by decide +kernel) rfl
theorem wmX7_131 : Cond.methodLink RX7 131 yX7_putCut ∈ GW := gw 700 (by decide +kernel) rfl
theorem wvX7_putCut : Cond.instanceMethod yX7_putCut ∈ GW := gw 702 (by decide +kernel) rfl
theorem wbX7_putCut : Cond.code yX7_putCut cX7_putCut 2 (some .int) ∈ GW := gw 703 (by decide +kernel) rfl
theorem wmX7_93 : Cond.methodLink RX7 93 yX7_placeOf ∈ GW := gw 704 (by decide +kernel) rfl
theorem wvX7_placeOf : Cond.instanceMethod yX7_placeOf ∈ GW := gw 706 (by decide +kernel) rfl
theorem wbX7_placeOf : Cond.code yX7_placeOf cX7_placeOf 3 (some .int) ∈ GW := gw 707 (by decide +kernel) rfl
theorem wmX7_96 : Cond.methodLink RX7 96 yX7_takesOut ∈ GW := gw 708 (by decide +kernel) rfl
theorem wvX7_takesOut : Cond.instanceMethod yX7_takesOut ∈ GW := gw 710 (by decide +kernel) rfl
theorem wbX7_takesOut : Cond.code yX7_takesOut cX7_takesOut 3 none ∈ GW := gw 711 (by decide +kernel) rfl
theorem wmL_27 : Cond.methodLink RL 27 yX7_lays ∈ GW := gw 712 (by decide +kernel) rfl
theorem wvX7_lays : Cond.instanceMethod yX7_lays ∈ GW := gw 713 (by decide +kernel) rfl
theorem weX7_lays : Cond.selects RX7 yX7_lays yX7_lays ∈ GW := gw 714 (by decide +kernel) rfl
theorem wbX7_lays : Cond.code yX7_lays cX7_lays 2 (some .int) ∈ GW := gw 715 (by decide +kernel) rfl
theorem wmX7_134 : Cond.methodLink RX7 134 yX7_putLaid ∈ GW := gw 716 (by decide +kernel) rfl
theorem wvX7_putLaid : Cond.instanceMethod yX7_putLaid ∈ GW := gw 718 (by decide +kernel) rfl
theorem wbX7_putLaid : Cond.code yX7_putLaid cX7_putLaid 2 (some .int) ∈ GW := gw 719 (by decide +kernel) rfl
theorem wmX7_100 : Cond.methodLink RX7 100 yX7_isTest ∈ GW := gw 720 (by decide +kernel) rfl
theorem wvX7_isTest : Cond.instanceMethod yX7_isTest ∈ GW := gw 722 (by decide +kernel) rfl
theorem wbX7_isTest : Cond.code yX7_isTest cX7_isTest 2 (some .boolean) ∈ GW := gw 723 (by decide +kernel) rfl
theorem wmL_31 : Cond.methodLink RL 31 yX7_wipes ∈ GW := gw 724 (by decide +kernel) rfl
theorem wvX7_wipes : Cond.instanceMethod yX7_wipes ∈ GW := gw 725 (by decide +kernel) rfl
theorem weX7_wipes : Cond.selects RX7 yX7_wipes yX7_wipes ∈ GW := gw 726 (by decide +kernel) rfl
theorem wbX7_wipes : Cond.code yX7_wipes cX7_wipes 1 (some .int) ∈ GW := gw 727 (by decide +kernel) rfl
theorem wmX7_137 : Cond.methodLink RX7 137 yX7_putWiped ∈ GW := gw 728 (by decide +kernel) rfl
theorem wvX7_putWiped : Cond.instanceMethod yX7_putWiped ∈ GW := gw 730 (by decide +kernel) rfl
theorem wbX7_putWiped : Cond.code yX7_putWiped cX7_putWiped 2 (some .int) ∈ GW := gw 731 (by decide +kernel) rfl
theorem wmL_35 : Cond.methodLink RL 35 yX7_start ∈ GW := gw 732 (by decide +kernel) rfl
theorem wvX7_start : Cond.instanceMethod yX7_start ∈ GW := gw 733 (by decide +kernel) rfl
theorem weX7_start : Cond.selects RX7 yX7_start yX7_start ∈ GW := gw 734 (by decide +kernel) rfl
theorem wbX7_start : Cond.code yX7_start cX7_start 2 (some .int) ∈ GW := gw 735 (by decide +kernel) rfl
theorem wmX7_140 : Cond.methodLink RX7 140 yX7_change ∈ GW := gw 736 (by decide +kernel) rfl
theorem wvX7_change : Cond.instanceMethod yX7_change ∈ GW := gw 738 (by decide +kernel) rfl
theorem wbX7_change : Cond.code yX7_change cX7_change 5 (some .int) ∈ GW := gw 739 (by decide +kernel) rfl
theorem wmL_39 : Cond.methodLink RL 39 yX7_mode ∈ GW := gw 740 (by decide +kernel) rfl
theorem wvX7_mode : Cond.instanceMethod yX7_mode ∈ GW := gw 741 (by decide +kernel) rfl
theorem weX7_mode : Cond.selects RX7 yX7_mode yX7_mode ∈ GW := gw 742 (by decide +kernel) rfl
theorem wbX7_mode : Cond.code yX7_mode cX7_mode 2 (some .int) ∈ GW := gw 743 (by decide +kernel) rfl
theorem wmL_43 : Cond.methodLink RL 43 yX7_shuffles ∈ GW := gw 744 (by decide +kernel) rfl
theorem wvX7_shuffles : Cond.instanceMethod yX7_shuffles ∈ GW := gw 745 (by decide +kernel) rfl
theorem weX7_shuffles : Cond.selects RX7 yX7_shuffles yX7_shuffles ∈ GW := gw 746 (by decide +kernel) rfl
theorem wbX7_shuffles : Cond.code yX7_shuffles cX7_shuffles 2 (some .int) ∈ GW := gw 747 (by decide +kernel) rfl
theorem wmX7_144 : Cond.methodLink RX7 144 yX7_putShuffled ∈ GW := gw 748 (by decide +kernel) rfl
theorem wvX7_putShuffled : Cond.instanceMethod yX7_putShuffled ∈ GW := gw 750 (by decide +kernel) rfl
theorem wbX7_putShuffled : Cond.code yX7_putShuffled cX7_putShuffled 3 (some .int) ∈ GW := gw 751 (by decide +kernel) rfl
theorem wkX7_111 : Cond.constant RX7 111 (999999) ∈ GW := gw 752 (by decide +kernel) rfl
theorem wmX7_112 : Cond.methodLink RX7 112 yX7_laysShuffled ∈ GW := gw 753 (by decide +kernel) rfl
theorem wvX7_laysShuffled : Cond.instanceMethod yX7_laysShuffled ∈ GW := gw 755 (by decide +kernel) rfl
theorem wbX7_laysShuffled : Cond.code yX7_laysShuffled cX7_laysShuffled 7 none ∈ GW := gw 756 (by decide +kernel) rfl
theorem wkX7_103 : Cond.constantLong RX7 103 (1103515245) ∈ GW := gw 757 (by decide +kernel) rfl
theorem wkX7_105 : Cond.constantLong RX7 105 (12345) ∈ GW := gw 758 (by decide +kernel) rfl
theorem wkX7_107 : Cond.constantLong RX7 107 (2147483648) ∈ GW := gw 759 (by decide +kernel) rfl
theorem wkX7_109 : Cond.constantLong RX7 109 (65536) ∈ GW := gw 760 (by decide +kernel) rfl
theorem wmL_47 : Cond.methodLink RL 47 yX7_trims ∈ GW := gw 761 (by decide +kernel) rfl
theorem wvX7_trims : Cond.instanceMethod yX7_trims ∈ GW := gw 762 (by decide +kernel) rfl
theorem weX7_trims : Cond.selects RX7 yX7_trims yX7_trims ∈ GW := gw 763 (by decide +kernel) rfl
theorem wbX7_trims : Cond.code yX7_trims cX7_trims 2 (some .int) ∈ GW := gw 764 (by decide +kernel) rfl
theorem wmX7_147 : Cond.methodLink RX7 147 yX7_putTrimmed ∈ GW := gw 765 (by decide +kernel) rfl
theorem wvX7_putTrimmed : Cond.instanceMethod yX7_putTrimmed ∈ GW := gw 767 (by decide +kernel) rfl
theorem wbX7_putTrimmed : Cond.code yX7_putTrimmed cX7_putTrimmed 6 (some .int) ∈ GW := gw 768 (by decide +kernel) rfl
theorem wmX7_115 : Cond.methodLink RX7 115 yX7_isFlippedInRow ∈ GW := gw 769 (by decide +kernel) rfl
theorem wvX7_isFlippedInRow : Cond.instanceMethod yX7_isFlippedInRow ∈ GW := gw 771 (by decide +kernel) rfl
theorem wbX7_isFlippedInRow : Cond.code yX7_isFlippedInRow cX7_isFlippedInRow 3 (some .boolean) ∈ GW := gw 772 (by decide +kernel) rfl
theorem wmX7_87 : Cond.methodLink RX7 87 yX7_flipsIn ∈ GW := gw 773 (by decide +kernel) rfl
theorem wvX7_flipsIn : Cond.instanceMethod yX7_flipsIn ∈ GW := gw 775 (by decide +kernel) rfl
theorem wbX7_flipsIn : Cond.code yX7_flipsIn cX7_flipsIn 3 (some .boolean) ∈ GW := gw 776 (by decide +kernel) rfl
theorem wmX7_80 : Cond.methodLink RX7 80 yX7_tries ∈ GW := gw 777 (by decide +kernel) rfl
theorem wvX7_tries : Cond.instanceMethod yX7_tries ∈ GW := gw 779 (by decide +kernel) rfl
theorem wbX7_tries : Cond.code yX7_tries cX7_tries 4 none ∈ GW := gw 780 (by decide +kernel) rfl
theorem wmX7_77 : Cond.methodLink RX7 77 yX7_has ∈ GW := gw 781 (by decide +kernel) rfl
theorem wsX7_has : Cond.static yX7_has ∈ GW := gw 782 (by decide +kernel) rfl
theorem wbX7_has : Cond.code yX7_has cX7_has 2 (some .boolean) ∈ GW := gw 783 (by decide +kernel) rfl
theorem wmX7_74 : Cond.methodLink RX7 74 yX7_isFlipped ∈ GW := gw 784 (by decide +kernel) rfl
theorem wvX7_isFlipped : Cond.instanceMethod yX7_isFlipped ∈ GW := gw 786 (by decide +kernel) rfl
theorem wbX7_isFlipped : Cond.code yX7_isFlipped cX7_isFlipped 2 (some .boolean) ∈ GW := gw 787 (by decide +kernel) rfl
theorem wmX7_66 : Cond.methodLink RX7 66 yX7_behindTried ∈ GW := gw 788 (by decide +kernel) rfl
theorem wvX7_behindTried : Cond.instanceMethod yX7_behindTried ∈ GW := gw 790 (by decide +kernel) rfl
theorem wbX7_behindTried : Cond.code yX7_behindTried cX7_behindTried 3 (some .int) ∈ GW := gw 791 (by decide +kernel) rfl
theorem wmX7_63 : Cond.methodLink RX7 63 yX7_behind ∈ GW := gw 792 (by decide +kernel) rfl
theorem wvX7_behind : Cond.instanceMethod yX7_behind ∈ GW := gw 794 (by decide +kernel) rfl
theorem wbX7_behind : Cond.code yX7_behind cX7_behind 4 (some .int) ∈ GW := gw 795 (by decide +kernel) rfl
theorem wmX7_56 : Cond.methodLink RX7 56 yX7_passes ∈ GW := gw 796 (by decide +kernel) rfl
theorem wvX7_passes : Cond.instanceMethod yX7_passes ∈ GW := gw 798 (by decide +kernel) rfl
theorem wbX7_passes : Cond.code yX7_passes cX7_passes 3 (some .boolean) ∈ GW := gw 799 (by decide +kernel) rfl
theorem wmX7_52 : Cond.methodLink RX7 52 yX7_ofTest ∈ GW := gw 800 (by decide +kernel) rfl
theorem wvX7_ofTest : Cond.instanceMethod yX7_ofTest ∈ GW := gw 802 (by decide +kernel) rfl
theorem wbX7_ofTest : Cond.code yX7_ofTest cX7_ofTest 3 (some .int) ∈ GW := gw 803 (by decide +kernel) rfl
theorem wmX7_70 : Cond.methodLink RX7 70 yX7_isAlone ∈ GW := gw 804 (by decide +kernel) rfl
theorem wvX7_isAlone : Cond.instanceMethod yX7_isAlone ∈ GW := gw 806 (by decide +kernel) rfl
theorem wbX7_isAlone : Cond.code yX7_isAlone cX7_isAlone 2 (some .boolean) ∈ GW := gw 807 (by decide +kernel) rfl
theorem wmX7_118 : Cond.methodLink RX7 118 yX7_leastOf ∈ GW := gw 808 (by decide +kernel) rfl
theorem wvX7_leastOf : Cond.instanceMethod yX7_leastOf ∈ GW := gw 810 (by decide +kernel) rfl
theorem wbX7_leastOf : Cond.code yX7_leastOf cX7_leastOf 6 (some .int) ∈ GW := gw 811 (by decide +kernel) rfl
theorem wmX7_84 : Cond.methodLink RX7 84 yX7_ahead ∈ GW := gw 812 (by decide +kernel) rfl
theorem wvX7_ahead : Cond.instanceMethod yX7_ahead ∈ GW := gw 814 (by decide +kernel) rfl
theorem wbX7_ahead : Cond.code yX7_ahead cX7_ahead 4 (some .int) ∈ GW := gw 815 (by decide +kernel) rfl
theorem wmL_52 : Cond.methodLink RL 52 yX7_of ∈ GW := gw 816 (by decide +kernel) rfl
theorem wvX7_of : Cond.instanceMethod yX7_of ∈ GW := gw 817 (by decide +kernel) rfl
theorem weX7_of : Cond.selects RX7 yX7_of yX7_of ∈ GW := gw 818 (by decide +kernel) rfl
theorem wbX7_of : Cond.code yX7_of cX7_of 3 (some .int) ∈ GW := gw 819 (by decide +kernel) rfl
theorem wmX7_150 : Cond.methodLink RX7 150 yX7_testTold ∈ GW := gw 820 (by decide +kernel) rfl
theorem wvX7_testTold : Cond.instanceMethod yX7_testTold ∈ GW := gw 822 (by decide +kernel) rfl
theorem wbX7_testTold : Cond.code yX7_testTold cX7_testTold 3 (some .int) ∈ GW := gw 823 (by decide +kernel) rfl
theorem wmL_56 : Cond.methodLink RL 56 yX7_soils ∈ GW := gw 824 (by decide +kernel) rfl
theorem wvX7_soils : Cond.instanceMethod yX7_soils ∈ GW := gw 825 (by decide +kernel) rfl
theorem weX7_soils : Cond.selects RX7 yX7_soils yX7_soils ∈ GW := gw 826 (by decide +kernel) rfl
theorem wbX7_soils : Cond.code yX7_soils cX7_soils 3 (some .int) ∈ GW := gw 827 (by decide +kernel) rfl
theorem wmX7_153 : Cond.methodLink RX7 153 yX7_areTwo ∈ GW := gw 828 (by decide +kernel) rfl
theorem wvX7_areTwo : Cond.instanceMethod yX7_areTwo ∈ GW := gw 830 (by decide +kernel) rfl
theorem wbX7_areTwo : Cond.code yX7_areTwo cX7_areTwo 3 (some .boolean) ∈ GW := gw 831 (by decide +kernel) rfl
theorem wmX7_156 : Cond.methodLink RX7 156 yX7_soilsFor ∈ GW := gw 832 (by decide +kernel) rfl
theorem wvX7_soilsFor : Cond.instanceMethod yX7_soilsFor ∈ GW := gw 834 (by decide +kernel) rfl
theorem wbX7_soilsFor : Cond.code yX7_soilsFor cX7_soilsFor 3 (some .boolean) ∈ GW := gw 835 (by decide +kernel) rfl
theorem wmL_60 : Cond.methodLink RL 60 yX7_cleans ∈ GW := gw 836 (by decide +kernel) rfl
theorem wvX7_cleans : Cond.instanceMethod yX7_cleans ∈ GW := gw 837 (by decide +kernel) rfl
theorem weX7_cleans : Cond.selects RX7 yX7_cleans yX7_cleans ∈ GW := gw 838 (by decide +kernel) rfl
theorem wbX7_cleans : Cond.code yX7_cleans cX7_cleans 5 (some .int) ∈ GW := gw 839 (by decide +kernel) rfl
theorem wmX7_159 : Cond.methodLink RX7 159 yX7_cleansFor ∈ GW := gw 840 (by decide +kernel) rfl
theorem wvX7_cleansFor : Cond.instanceMethod yX7_cleansFor ∈ GW := gw 842 (by decide +kernel) rfl
theorem wbX7_cleansFor : Cond.code yX7_cleansFor cX7_cleansFor 4 (some .boolean) ∈ GW := gw 843 (by decide +kernel) rfl
theorem wmL_64 : Cond.methodLink RL 64 yX7_flips ∈ GW := gw 844 (by decide +kernel) rfl
theorem wvX7_flips : Cond.instanceMethod yX7_flips ∈ GW := gw 845 (by decide +kernel) rfl
theorem weX7_flips : Cond.selects RX7 yX7_flips yX7_flips ∈ GW := gw 846 (by decide +kernel) rfl
theorem wbX7_flips : Cond.code yX7_flips cX7_flips 2 (some .int) ∈ GW := gw 847 (by decide +kernel) rfl
theorem wmX7_162 : Cond.methodLink RX7 162 yX7_flipsBy ∈ GW := gw 848 (by decide +kernel) rfl
theorem wvX7_flipsBy : Cond.instanceMethod yX7_flipsBy ∈ GW := gw 850 (by decide +kernel) rfl
theorem wbX7_flipsBy : Cond.code yX7_flipsBy cX7_flipsBy 6 (some .int) ∈ GW := gw 851 (by decide +kernel) rfl
theorem wmL_68 : Cond.methodLink RL 68 yX7_seed ∈ GW := gw 852 (by decide +kernel) rfl
theorem wvX7_seed : Cond.instanceMethod yX7_seed ∈ GW := gw 853 (by decide +kernel) rfl
theorem weX7_seed : Cond.selects RX7 yX7_seed yX7_seed ∈ GW := gw 854 (by decide +kernel) rfl
theorem wbX7_seed : Cond.code yX7_seed cX7_seed 4 (some .int) ∈ GW := gw 855 (by decide +kernel) rfl
theorem wmL_72 : Cond.methodLink RL 72 yX7_at ∈ GW := gw 856 (by decide +kernel) rfl
theorem wvX7_at : Cond.instanceMethod yX7_at ∈ GW := gw 857 (by decide +kernel) rfl
theorem weX7_at : Cond.selects RX7 yX7_at yX7_at ∈ GW := gw 858 (by decide +kernel) rfl
theorem wbX7_at : Cond.code yX7_at cX7_at 2 (some .int) ∈ GW := gw 859 (by decide +kernel) rfl
theorem wmL_76 : Cond.methodLink RL 76 yX7_inRow ∈ GW := gw 860 (by decide +kernel) rfl
theorem wvX7_inRow : Cond.instanceMethod yX7_inRow ∈ GW := gw 861 (by decide +kernel) rfl
theorem weX7_inRow : Cond.selects RX7 yX7_inRow yX7_inRow ∈ GW := gw 862 (by decide +kernel) rfl
theorem wbX7_inRow : Cond.code yX7_inRow cX7_inRow 4 (some .int) ∈ GW := gw 863 (by decide +kernel) rfl
theorem wmX7_165 : Cond.methodLink RX7 165 yX7_placeTold ∈ GW := gw 864 (by decide +kernel) rfl
theorem wvX7_placeTold : Cond.instanceMethod yX7_placeTold ∈ GW := gw 866 (by decide +kernel) rfl
theorem wbX7_placeTold : Cond.code yX7_placeTold cX7_placeTold 5 (some .int) ∈ GW := gw 867 (by decide +kernel) rfl
theorem wmL_80 : Cond.methodLink RL 80 yX7_who ∈ GW := gw 868 (by decide +kernel) rfl
theorem wvX7_who : Cond.instanceMethod yX7_who ∈ GW := gw 869 (by decide +kernel) rfl
theorem weX7_who : Cond.selects RX7 yX7_who yX7_who ∈ GW := gw 870 (by decide +kernel) rfl
theorem wbX7_who : Cond.code yX7_who cX7_who 8 (some .int) ∈ GW := gw 871 (by decide +kernel) rfl
theorem wmL_84 : Cond.methodLink RL 84 yX7_left ∈ GW := gw 872 (by decide +kernel) rfl
theorem wvX7_left : Cond.instanceMethod yX7_left ∈ GW := gw 873 (by decide +kernel) rfl
theorem weX7_left : Cond.selects RX7 yX7_left yX7_left ∈ GW := gw 874 (by decide +kernel) rfl
theorem wbX7_left : Cond.code yX7_left cX7_left 4 (some .int) ∈ GW := gw 875 (by decide +kernel) rfl
theorem wmX7_168 : Cond.methodLink RX7 168 yX7_fewestOf ∈ GW := gw 876 (by decide +kernel) rfl
theorem wvX7_fewestOf : Cond.instanceMethod yX7_fewestOf ∈ GW := gw 878 (by decide +kernel) rfl
theorem wbX7_fewestOf : Cond.code yX7_fewestOf cX7_fewestOf 5 (some .int) ∈ GW := gw 879 (by decide +kernel) rfl
theorem wmX7_90 : Cond.methodLink RX7 90 yX7_ones ∈ GW := gw 880 (by decide +kernel) rfl
theorem wsX7_ones : Cond.static yX7_ones ∈ GW := gw 881 (by decide +kernel) rfl
theorem wbX7_ones : Cond.code yX7_ones cX7_ones 3 (some .int) ∈ GW := gw 882 (by decide +kernel) rfl
theorem wmX7_171 : Cond.methodLink RX7 171 yX7_halvesOf ∈ GW := gw 883 (by decide +kernel) rfl
theorem wvX7_halvesOf : Cond.instanceMethod yX7_halvesOf ∈ GW := gw 885 (by decide +kernel) rfl
theorem wbX7_halvesOf : Cond.code yX7_halvesOf cX7_halvesOf 8 (some .int) ∈ GW := gw 886 (by decide +kernel) rfl
theorem wmL_88 : Cond.methodLink RL 88 yX7_count ∈ GW := gw 887 (by decide +kernel) rfl
theorem wvX7_count : Cond.instanceMethod yX7_count ∈ GW := gw 888 (by decide +kernel) rfl
theorem weX7_count : Cond.selects RX7 yX7_count yX7_count ∈ GW := gw 889 (by decide +kernel) rfl
theorem wbX7_count : Cond.code yX7_count cX7_count 2 (some .int) ∈ GW := gw 890 (by decide +kernel) rfl
theorem wmX7_177 : Cond.methodLink RX7 177 yX7_countTold ∈ GW := gw 891 (by decide +kernel) rfl
theorem wvX7_countTold : Cond.instanceMethod yX7_countTold ∈ GW := gw 893 (by decide +kernel) rfl
theorem wbX7_countTold : Cond.code yX7_countTold cX7_countTold 5 (some .int) ∈ GW := gw 894 (by decide +kernel) rfl
theorem wmX7_174 : Cond.methodLink RX7 174 yX7_soilsAll ∈ GW := gw 895 (by decide +kernel) rfl
theorem wvX7_soilsAll : Cond.instanceMethod yX7_soilsAll ∈ GW := gw 897 (by decide +kernel) rfl
theorem wbX7_soilsAll : Cond.code yX7_soilsAll cX7_soilsAll 4 (some .int) ∈ GW := gw 898 (by decide +kernel) rfl
theorem wmL_92 : Cond.methodLink RL 92 yX7_type ∈ GW := gw 899 (by decide +kernel) rfl
theorem wvX7_type : Cond.instanceMethod yX7_type ∈ GW := gw 900 (by decide +kernel) rfl
theorem weX7_type : Cond.selects RX7 yX7_type yX7_type ∈ GW := gw 901 (by decide +kernel) rfl
theorem wbX7_type : Cond.code yX7_type cX7_type 2 (some .int) ∈ GW := gw 902 (by decide +kernel) rfl
theorem wmL_96 : Cond.methodLink RL 96 yX7_clear ∈ GW := gw 903 (by decide +kernel) rfl
theorem wvX7_clear : Cond.instanceMethod yX7_clear ∈ GW := gw 904 (by decide +kernel) rfl
theorem weX7_clear : Cond.selects RX7 yX7_clear yX7_clear ∈ GW := gw 905 (by decide +kernel) rfl
theorem wbX7_clear : Cond.code yX7_clear cX7_clear 2 (some .int) ∈ GW := gw 906 (by decide +kernel) rfl
theorem wmL_100 : Cond.methodLink RL 100 yX7_does ∈ GW := gw 907 (by decide +kernel) rfl
theorem wvX7_does : Cond.instanceMethod yX7_does ∈ GW := gw 908 (by decide +kernel) rfl
theorem weX7_does : Cond.selects RX7 yX7_does yX7_does ∈ GW := gw 909 (by decide +kernel) rfl
theorem wbX7_does : Cond.code yX7_does cX7_does 2 (some .int) ∈ GW := gw 910 (by decide +kernel) rfl
theorem wmX7_211 : Cond.methodLink RX7 211 yX7_isRead ∈ GW := gw 911 (by decide +kernel) rfl
theorem wvX7_isRead : Cond.instanceMethod yX7_isRead ∈ GW := gw 913 (by decide +kernel) rfl
theorem wbX7_isRead : Cond.code yX7_isRead cX7_isRead 1 (some .boolean) ∈ GW := gw 914 (by decide +kernel) rfl
theorem wmX7_192 : Cond.methodLink RX7 192 yX7_blanks ∈ GW := gw 915 (by decide +kernel) rfl
theorem wvX7_blanks : Cond.instanceMethod yX7_blanks ∈ GW := gw 917 (by decide +kernel) rfl
theorem wbX7_blanks : Cond.code yX7_blanks cX7_blanks 1 none ∈ GW := gw 918 (by decide +kernel) rfl
theorem wmX7_186 : Cond.methodLink RX7 186 yX7_isAt ∈ GW := gw 919 (by decide +kernel) rfl
theorem wvX7_isAt : Cond.instanceMethod yX7_isAt ∈ GW := gw 921 (by decide +kernel) rfl
theorem wbX7_isAt : Cond.code yX7_isAt cX7_isAt 3 (some .boolean) ∈ GW := gw 922 (by decide +kernel) rfl
theorem wmX7_208 : Cond.methodLink RX7 208 yX7_takesOrder ∈ GW := gw 923 (by decide +kernel) rfl
theorem wvX7_takesOrder : Cond.instanceMethod yX7_takesOrder ∈ GW := gw 925 (by decide +kernel) rfl
theorem wbX7_takesOrder : Cond.code yX7_takesOrder cX7_takesOrder 3 (some .boolean) ∈ GW := gw 926 (by decide +kernel) rfl
theorem wmX7_199 : Cond.methodLink RX7 199 yX7_manyOf ∈ GW := gw 927 (by decide +kernel) rfl
theorem wsX7_manyOf : Cond.static yX7_manyOf ∈ GW := gw 928 (by decide +kernel) rfl
theorem wbX7_manyOf : Cond.code yX7_manyOf cX7_manyOf 1 (some .int) ∈ GW := gw 929 (by decide +kernel) rfl
theorem wmX7_195 : Cond.methodLink RX7 195 yX7_fails ∈ GW := gw 930 (by decide +kernel) rfl
theorem wvX7_fails : Cond.instanceMethod yX7_fails ∈ GW := gw 932 (by decide +kernel) rfl
theorem wbX7_fails : Cond.code yX7_fails cX7_fails 1 (some .boolean) ∈ GW := gw 933 (by decide +kernel) rfl
theorem wmX7_205 : Cond.methodLink RX7 205 yX7_takesNumber ∈ GW := gw 934 (by decide +kernel) rfl
theorem wvX7_takesNumber : Cond.instanceMethod yX7_takesNumber ∈ GW := gw 936 (by decide +kernel) rfl
theorem wbX7_takesNumber : Cond.code yX7_takesNumber cX7_takesNumber 4 (some .boolean) ∈ GW := gw 937 (by decide +kernel) rfl
theorem wmX7_214 : Cond.methodLink RX7 214 yX7_doneOne ∈ GW := gw 938 (by decide +kernel) rfl
theorem wvX7_doneOne : Cond.instanceMethod yX7_doneOne ∈ GW := gw 940 (by decide +kernel) rfl
theorem wbX7_doneOne : Cond.code yX7_doneOne cX7_doneOne 4 (some .int) ∈ GW := gw 941 (by decide +kernel) rfl
theorem wmX7_217 : Cond.methodLink RX7 217 yX7_takesBack ∈ GW := gw 942 (by decide +kernel) rfl
theorem wvX7_takesBack : Cond.instanceMethod yX7_takesBack ∈ GW := gw 944 (by decide +kernel) rfl
theorem wbX7_takesBack : Cond.code yX7_takesBack cX7_takesBack 2 none ∈ GW := gw 945 (by decide +kernel) rfl
theorem wmL_108 : Cond.methodLink RL 108 yX7_told ∈ GW := gw 946 (by decide +kernel) rfl
theorem wvX7_told : Cond.instanceMethod yX7_told ∈ GW := gw 947 (by decide +kernel) rfl
theorem weX7_told : Cond.selects RX7 yX7_told yX7_told ∈ GW := gw 948 (by decide +kernel) rfl
theorem wbX7_told : Cond.code yX7_told cX7_told 2 (some .int) ∈ GW := gw 949 (by decide +kernel) rfl
theorem wmX7_220 : Cond.methodLink RX7 220 yX7_toldAt ∈ GW := gw 950 (by decide +kernel) rfl
theorem wvX7_toldAt : Cond.instanceMethod yX7_toldAt ∈ GW := gw 952 (by decide +kernel) rfl
theorem wbX7_toldAt : Cond.code yX7_toldAt cX7_toldAt 2 (some .int) ∈ GW := gw 953 (by decide +kernel) rfl
theorem wmL_113 : Cond.methodLink RL 113 yX7_digest ∈ GW := gw 954 (by decide +kernel) rfl
theorem wvX7_digest : Cond.instanceMethod yX7_digest ∈ GW := gw 955 (by decide +kernel) rfl
theorem weX7_digest : Cond.selects RX7 yX7_digest yX7_digest ∈ GW := gw 956 (by decide +kernel) rfl
theorem wbX7_digest : Cond.code yX7_digest cX7_digest 3 (some .long) ∈ GW := gw 957 (by decide +kernel) rfl
theorem wkX7_229 : Cond.constantLong RX7 229 (18056) ∈ GW := gw 958 (by decide +kernel) rfl
theorem wmX7_231 : Cond.methodLink RX7 231 yX7_mix ∈ GW := gw 959 (by decide +kernel) rfl
theorem wvX7_mix : Cond.instanceMethod yX7_mix ∈ GW := gw 961 (by decide +kernel) rfl
theorem wbX7_mix : Cond.code yX7_mix cX7_mix 3 none ∈ GW := gw 962 (by decide +kernel) rfl
theorem wkX7_223 : Cond.constantLong RX7 223 (31) ∈ GW := gw 963 (by decide +kernel) rfl
def nW : List Cond := [Cond.methodLinkNest RX6 9 yX4_init "SoiledTests", Cond.methodLinkNest RX4 17 yX3_init "SoiledTests", Cond.fieldLinkNest RX2 15 "SoiledTests$Row" "size" "I" "SoiledTests", Cond.fieldLinkNest RX4 44 "SoiledTests$Row" "size" "I" "SoiledTests", Cond.fieldLinkNest RX6 165 "SoiledTests$Row" "size" "I" "SoiledTests", Cond.fieldLinkNest RX2 9 "SoiledTests$Suite" "row" "LSoiledTests$Row;" "SoiledTests", Cond.fieldLinkNest RX6 120 "SoiledTests$Suite" "row" "LSoiledTests$Row;" "SoiledTests", Cond.fieldLinkNest RX6 162 "SoiledTests$Suite" "size" "I" "SoiledTests", Cond.fieldLinkNest RX6 85 "SoiledTests$Suite" "startCells" "I" "SoiledTests", Cond.fieldLinkNest RX6 166 "SoiledTests$Suite" "modeNow" "I" "SoiledTests", Cond.methodLinkNest RX1 17 yX4_init "SoiledTests", Cond.fieldLinkNest RX6 208 "SoiledTests$Past" "size" "I" "SoiledTests", Cond.methodLinkNest RX6 25 yX5_init "SoiledTests", Cond.fieldLinkNest RX0 25 "SoiledTests$Text" "length" "I" "SoiledTests", Cond.fieldLinkNest RX6 222 "SoiledTests$Text" "length" "I" "SoiledTests", Cond.methodLinkNest RX6 32 yX0_init "SoiledTests", Cond.fieldLinkNest RX6 198 "SoiledTests$Orders" "size" "I" "SoiledTests", Cond.methodLinkNest RX6 39 yX3_init "SoiledTests", Cond.methodLinkNest RX4 22 yX6_areCells "SoiledTests", Cond.methodLinkNest RX3 23 yX6_isIn "SoiledTests", Cond.methodLinkNest RX4 54 yX6_isSeed "SoiledTests", Cond.methodLinkNest RX4 86 yX6_isIn "SoiledTests", Cond.methodLinkNest RX2 25 yX6_isIn "SoiledTests", Cond.methodLinkNest RX4 104 yX6_oneIf "SoiledTests"]
theorem nW_in : ∀ w ∈ nW, w ∈ lw_tbl := by
  intro w hw
  have hp : nW = ([80, 86, 92, 93, 94, 103, 104, 106, 108, 110, 130, 133, 144, 150, 151, 159, 166, 184, 238, 268, 332, 374, 395, 454] : List Nat).filterMap (fun i => lw_tbl[i]?) := by decide +kernel
  rw [hp] at hw
  obtain ⟨i, -, hi⟩ := List.mem_filterMap.mp hw
  exact List.mem_of_getElem? hi
theorem wnX6_9 : Cond.methodLinkNest RX6 9 yX4_init "SoiledTests" ∈ nW := List.mem_of_getElem? (i := 0) rfl
theorem wnX4_17 : Cond.methodLinkNest RX4 17 yX3_init "SoiledTests" ∈ nW := List.mem_of_getElem? (i := 1) rfl
theorem wnX2_15 : Cond.fieldLinkNest RX2 15 "SoiledTests$Row" "size" "I" "SoiledTests" ∈ nW := List.mem_of_getElem? (i := 2) rfl
theorem wnX4_44 : Cond.fieldLinkNest RX4 44 "SoiledTests$Row" "size" "I" "SoiledTests" ∈ nW := List.mem_of_getElem? (i := 3) rfl
theorem wnX6_165 : Cond.fieldLinkNest RX6 165 "SoiledTests$Row" "size" "I" "SoiledTests" ∈ nW := List.mem_of_getElem? (i := 4) rfl
theorem wnX2_9 : Cond.fieldLinkNest RX2 9 "SoiledTests$Suite" "row" "LSoiledTests$Row;" "SoiledTests" ∈ nW := List.mem_of_getElem? (i := 5) rfl
theorem wnX6_120 : Cond.fieldLinkNest RX6 120 "SoiledTests$Suite" "row" "LSoiledTests$Row;" "SoiledTests" ∈ nW := List.mem_of_getElem? (i := 6) rfl
theorem wnX6_162 : Cond.fieldLinkNest RX6 162 "SoiledTests$Suite" "size" "I" "SoiledTests" ∈ nW := List.mem_of_getElem? (i := 7) rfl
theorem wnX6_85 : Cond.fieldLinkNest RX6 85 "SoiledTests$Suite" "startCells" "I" "SoiledTests" ∈ nW := List.mem_of_getElem? (i := 8) rfl
theorem wnX6_166 : Cond.fieldLinkNest RX6 166 "SoiledTests$Suite" "modeNow" "I" "SoiledTests" ∈ nW := List.mem_of_getElem? (i := 9) rfl
theorem wnX1_17 : Cond.methodLinkNest RX1 17 yX4_init "SoiledTests" ∈ nW := List.mem_of_getElem? (i := 10) rfl
theorem wnX6_208 : Cond.fieldLinkNest RX6 208 "SoiledTests$Past" "size" "I" "SoiledTests" ∈ nW := List.mem_of_getElem? (i := 11) rfl
theorem wnX6_25 : Cond.methodLinkNest RX6 25 yX5_init "SoiledTests" ∈ nW := List.mem_of_getElem? (i := 12) rfl
theorem wnX0_25 : Cond.fieldLinkNest RX0 25 "SoiledTests$Text" "length" "I" "SoiledTests" ∈ nW := List.mem_of_getElem? (i := 13) rfl
theorem wnX6_222 : Cond.fieldLinkNest RX6 222 "SoiledTests$Text" "length" "I" "SoiledTests" ∈ nW := List.mem_of_getElem? (i := 14) rfl
theorem wnX6_32 : Cond.methodLinkNest RX6 32 yX0_init "SoiledTests" ∈ nW := List.mem_of_getElem? (i := 15) rfl
theorem wnX6_198 : Cond.fieldLinkNest RX6 198 "SoiledTests$Orders" "size" "I" "SoiledTests" ∈ nW := List.mem_of_getElem? (i := 16) rfl
theorem wnX6_39 : Cond.methodLinkNest RX6 39 yX3_init "SoiledTests" ∈ nW := List.mem_of_getElem? (i := 17) rfl
theorem wnX4_22 : Cond.methodLinkNest RX4 22 yX6_areCells "SoiledTests" ∈ nW := List.mem_of_getElem? (i := 18) rfl
theorem wnX3_23 : Cond.methodLinkNest RX3 23 yX6_isIn "SoiledTests" ∈ nW := List.mem_of_getElem? (i := 19) rfl
theorem wnX4_54 : Cond.methodLinkNest RX4 54 yX6_isSeed "SoiledTests" ∈ nW := List.mem_of_getElem? (i := 20) rfl
theorem wnX4_86 : Cond.methodLinkNest RX4 86 yX6_isIn "SoiledTests" ∈ nW := List.mem_of_getElem? (i := 21) rfl
theorem wnX2_25 : Cond.methodLinkNest RX2 25 yX6_isIn "SoiledTests" ∈ nW := List.mem_of_getElem? (i := 22) rfl
theorem wnX4_104 : Cond.methodLinkNest RX4 104 yX6_oneIf "SoiledTests" ∈ nW := List.mem_of_getElem? (i := 23) rfl
theorem w_over : Cond.arrayOver (.object "SoiledTests$Suite") ∈ lw_tbl := List.mem_of_getElem? (i := 129) (by decide +kernel)
theorem inX0 : ∀ w ∈ u_ws RX0 TX0 6, w ∈ GW := gw_all [170, 172, 174, 176, 178, 180] (by decide +kernel) (by decide +kernel)
theorem inX1 : ∀ w ∈ u_ws RX1 TX1 3, w ∈ GW := gw_all [135, 137, 139] (by decide +kernel) (by decide +kernel)
theorem inX3 : ∀ w ∈ u_ws RX3 TX3 2, w ∈ GW := gw_all [95, 97] (by decide +kernel) (by decide +kernel)
theorem inX4 : ∀ w ∈ u_ws RX4 TX4 5, w ∈ GW := gw_all [111, 113, 115, 117, 119] (by decide +kernel) (by decide +kernel)
theorem inX5 : ∀ w ∈ u_ws RX5 TX5 2, w ∈ GW := gw_all [152, 154] (by decide +kernel) (by decide +kernel)
theorem inX6 : ∀ w ∈ u_ws RX6 TX6 8, w ∈ GW := gw_all [193, 195, 197, 199, 201, 203, 205, 207] (by decide +kernel) (by decide +kernel)
theorem inX7 : ∀ w ∈ u_ws RX7 TX7 16, w ∈ GW := gw_all [632, 634, 636, 638, 640, 642, 644, 646, 648, 650, 652, 654, 656, 658, 660, 662] (by decide +kernel) (by decide +kernel)
end
section
theorem dX0_init_0 : decode cX0_init 0 = .ok (.aload_n 0, 1) := by decide +kernel
theorem dX0_init_1 : decode cX0_init 1 = .ok (.invokespecial 3, 3) := by decide +kernel
theorem dX0_init_4 : decode cX0_init 4 = .ok (.aload_n 0, 1) := by decide +kernel
theorem dX0_init_5 : decode cX0_init 5 = .ok (.bipush 75, 2) := by decide +kernel
theorem dX0_init_7 : decode cX0_init 7 = .ok (.newarray .int, 2) := by decide +kernel
theorem dX0_init_9 : decode cX0_init 9 = .ok (.putfield 9, 3) := by decide +kernel
theorem dX0_init_12 : decode cX0_init 12 = .ok (.aload_n 0, 1) := by decide +kernel
theorem dX0_init_13 : decode cX0_init 13 = .ok (.sipush 375, 3) := by decide +kernel
theorem dX0_init_16 : decode cX0_init 16 = .ok (.newarray .int, 2) := by decide +kernel
theorem dX0_init_18 : decode cX0_init 18 = .ok (.putfield 15, 3) := by decide +kernel
theorem dX0_init_21 : decode cX0_init 21 = .ok (.return_, 1) := by decide +kernel
theorem dX0_read_0 : decode cX0_read 0 = .ok (.aload_n 0, 1) := by decide +kernel
theorem dX0_read_1 : decode cX0_read 1 = .ok (.iconst 0, 1) := by decide +kernel
theorem dX0_read_2 : decode cX0_read 2 = .ok (.putfield 18, 3) := by decide +kernel
theorem dX0_read_5 : decode cX0_read 5 = .ok (.aload_n 0, 1) := by decide +kernel
theorem dX0_read_6 : decode cX0_read 6 = .ok (.iconst (-1), 1) := by decide +kernel
theorem dX0_read_7 : decode cX0_read 7 = .ok (.putfield 22, 3) := by decide +kernel
theorem dX0_read_10 : decode cX0_read 10 = .ok (.iconst 0, 1) := by decide +kernel
theorem dX0_read_11 : decode cX0_read 11 = .ok (.istore_n 2, 1) := by decide +kernel
theorem dX0_read_12 : decode cX0_read 12 = .ok (.iload_n 2, 1) := by decide +kernel
theorem dX0_read_13 : decode cX0_read 13 = .ok (.aload_n 1, 1) := by decide +kernel
theorem dX0_read_14 : decode cX0_read 14 = .ok (.getfield 25, 3) := by decide +kernel
theorem dX0_read_17 : decode cX0_read 17 = .ok (.if_icmp .ge 23, 3) := by decide +kernel
theorem dX0_read_20 : decode cX0_read 20 = .ok (.aload_n 0, 1) := by decide +kernel
theorem dX0_read_21 : decode cX0_read 21 = .ok (.aload_n 1, 1) := by decide +kernel
theorem dX0_read_22 : decode cX0_read 22 = .ok (.iload_n 2, 1) := by decide +kernel
theorem dX0_read_23 : decode cX0_read 23 = .ok (.invokevirtual 30, 3) := by decide +kernel
theorem dX0_read_26 : decode cX0_read 26 = .ok (.invokevirtual 34, 3) := by decide +kernel
theorem dX0_read_29 : decode cX0_read 29 = .ok (.ifCond .ne 5, 3) := by decide +kernel
theorem dX0_read_32 : decode cX0_read 32 = .ok (.iload_n 2, 1) := by decide +kernel
theorem dX0_read_33 : decode cX0_read 33 = .ok (.ireturn, 1) := by decide +kernel
theorem dX0_read_34 : decode cX0_read 34 = .ok (.iinc 2 1, 3) := by decide +kernel
theorem dX0_read_37 : decode cX0_read 37 = .ok (.goto (-25), 3) := by decide +kernel
theorem dX0_read_40 : decode cX0_read 40 = .ok (.aload_n 0, 1) := by decide +kernel
theorem dX0_read_41 : decode cX0_read 41 = .ok (.getfield 22, 3) := by decide +kernel
theorem dX0_read_44 : decode cX0_read 44 = .ok (.iconst (-1), 1) := by decide +kernel
theorem dX0_read_45 : decode cX0_read 45 = .ok (.if_icmp .ne 10, 3) := by decide +kernel
theorem dX0_read_48 : decode cX0_read 48 = .ok (.aload_n 0, 1) := by decide +kernel
theorem dX0_read_49 : decode cX0_read 49 = .ok (.getfield 18, 3) := by decide +kernel
theorem dX0_read_52 : decode cX0_read 52 = .ok (.ifCond .ne 10, 3) := by decide +kernel
theorem dX0_read_55 : decode cX0_read 55 = .ok (.aload_n 1, 1) := by decide +kernel
theorem dX0_read_56 : decode cX0_read 56 = .ok (.getfield 25, 3) := by decide +kernel
theorem dX0_read_59 : decode cX0_read 59 = .ok (.goto 4, 3) := by decide +kernel
theorem dX0_read_62 : decode cX0_read 62 = .ok (.iconst (-1), 1) := by decide +kernel
theorem dX0_read_63 : decode cX0_read 63 = .ok (.ireturn, 1) := by decide +kernel
theorem dX0_takes_0 : decode cX0_takes 0 = .ok (.iload_n 1, 1) := by decide +kernel
theorem dX0_takes_1 : decode cX0_takes 1 = .ok (.bipush 32, 2) := by decide +kernel
theorem dX0_takes_3 : decode cX0_takes 3 = .ok (.if_icmp .ne 10, 3) := by decide +kernel
theorem dX0_takes_6 : decode cX0_takes 6 = .ok (.aload_n 0, 1) := by decide +kernel
theorem dX0_takes_7 : decode cX0_takes 7 = .ok (.iconst 0, 1) := by decide +kernel
theorem dX0_takes_8 : decode cX0_takes 8 = .ok (.putfield 38, 3) := by decide +kernel
theorem dX0_takes_11 : decode cX0_takes 11 = .ok (.iconst 1, 1) := by decide +kernel
theorem dX0_takes_12 : decode cX0_takes 12 = .ok (.ireturn, 1) := by decide +kernel
theorem dX0_takes_13 : decode cX0_takes 13 = .ok (.aload_n 0, 1) := by decide +kernel
theorem dX0_takes_14 : decode cX0_takes 14 = .ok (.getfield 22, 3) := by decide +kernel
theorem dX0_takes_17 : decode cX0_takes 17 = .ok (.iconst (-1), 1) := by decide +kernel
theorem dX0_takes_18 : decode cX0_takes 18 = .ok (.if_icmp .ne 9, 3) := by decide +kernel
theorem dX0_takes_21 : decode cX0_takes 21 = .ok (.aload_n 0, 1) := by decide +kernel
theorem dX0_takes_22 : decode cX0_takes 22 = .ok (.iload_n 1, 1) := by decide +kernel
theorem dX0_takes_23 : decode cX0_takes 23 = .ok (.invokevirtual 41, 3) := by decide +kernel
theorem dX0_takes_26 : decode cX0_takes 26 = .ok (.ireturn, 1) := by decide +kernel
theorem dX0_takes_27 : decode cX0_takes 27 = .ok (.iload_n 1, 1) := by decide +kernel
theorem dX0_takes_28 : decode cX0_takes 28 = .ok (.bipush 59, 2) := by decide +kernel
theorem dX0_takes_30 : decode cX0_takes 30 = .ok (.if_icmp .ne 10, 3) := by decide +kernel
theorem dX0_takes_33 : decode cX0_takes 33 = .ok (.aload_n 0, 1) := by decide +kernel
theorem dX0_takes_34 : decode cX0_takes 34 = .ok (.invokevirtual 44, 3) := by decide +kernel
theorem dX0_takes_37 : decode cX0_takes 37 = .ok (.goto 8, 3) := by decide +kernel
theorem dX0_takes_40 : decode cX0_takes 40 = .ok (.aload_n 0, 1) := by decide +kernel
theorem dX0_takes_41 : decode cX0_takes 41 = .ok (.iload_n 1, 1) := by decide +kernel
theorem dX0_takes_42 : decode cX0_takes 42 = .ok (.invokevirtual 48, 3) := by decide +kernel
theorem dX0_takes_45 : decode cX0_takes 45 = .ok (.ireturn, 1) := by decide +kernel
theorem dX0_opensOrder_0 : decode cX0_opensOrder 0 = .ok (.aload_n 0, 1) := by decide +kernel
theorem dX0_opensOrder_1 : decode cX0_opensOrder 1 = .ok (.iload_n 1, 1) := by decide +kernel
theorem dX0_opensOrder_2 : decode cX0_opensOrder 2 = .ok (.invokestatic 51, 3) := by decide +kernel
theorem dX0_opensOrder_5 : decode cX0_opensOrder 5 = .ok (.putfield 22, 3) := by decide +kernel
theorem dX0_opensOrder_8 : decode cX0_opensOrder 8 = .ok (.aload_n 0, 1) := by decide +kernel
theorem dX0_opensOrder_9 : decode cX0_opensOrder 9 = .ok (.getfield 22, 3) := by decide +kernel
theorem dX0_opensOrder_12 : decode cX0_opensOrder 12 = .ok (.iconst (-1), 1) := by decide +kernel
theorem dX0_opensOrder_13 : decode cX0_opensOrder 13 = .ok (.if_icmp .eq 22, 3) := by decide +kernel
theorem dX0_opensOrder_16 : decode cX0_opensOrder 16 = .ok (.aload_n 0, 1) := by decide +kernel
theorem dX0_opensOrder_17 : decode cX0_opensOrder 17 = .ok (.getfield 18, 3) := by decide +kernel
theorem dX0_opensOrder_20 : decode cX0_opensOrder 20 = .ok (.ifCond .lt 15, 3) := by decide +kernel
theorem dX0_opensOrder_23 : decode cX0_opensOrder 23 = .ok (.aload_n 0, 1) := by decide +kernel
theorem dX0_opensOrder_24 : decode cX0_opensOrder 24 = .ok (.getfield 18, 3) := by decide +kernel
theorem dX0_opensOrder_27 : decode cX0_opensOrder 27 = .ok (.aload_n 0, 1) := by decide +kernel
theorem dX0_opensOrder_28 : decode cX0_opensOrder 28 = .ok (.getfield 9, 3) := by decide +kernel
theorem dX0_opensOrder_31 : decode cX0_opensOrder 31 = .ok (.arraylength, 1) := by decide +kernel
theorem dX0_opensOrder_32 : decode cX0_opensOrder 32 = .ok (.if_icmp .lt 5, 3) := by decide +kernel
theorem dX0_opensOrder_35 : decode cX0_opensOrder 35 = .ok (.iconst 0, 1) := by decide +kernel
theorem dX0_opensOrder_36 : decode cX0_opensOrder 36 = .ok (.ireturn, 1) := by decide +kernel
theorem dX0_opensOrder_37 : decode cX0_opensOrder 37 = .ok (.aload_n 0, 1) := by decide +kernel
theorem dX0_opensOrder_38 : decode cX0_opensOrder 38 = .ok (.getfield 9, 3) := by decide +kernel
theorem dX0_opensOrder_41 : decode cX0_opensOrder 41 = .ok (.aload_n 0, 1) := by decide +kernel
theorem dX0_opensOrder_42 : decode cX0_opensOrder 42 = .ok (.getfield 18, 3) := by decide +kernel
theorem dX0_opensOrder_45 : decode cX0_opensOrder 45 = .ok (.iload_n 1, 1) := by decide +kernel
theorem dX0_opensOrder_46 : decode cX0_opensOrder 46 = .ok (.iastore, 1) := by decide +kernel
theorem dX0_opensOrder_47 : decode cX0_opensOrder 47 = .ok (.aload_n 0, 1) := by decide +kernel
theorem dX0_opensOrder_48 : decode cX0_opensOrder 48 = .ok (.iconst 0, 1) := by decide +kernel
theorem dX0_opensOrder_49 : decode cX0_opensOrder 49 = .ok (.putfield 54, 3) := by decide +kernel
theorem dX0_opensOrder_52 : decode cX0_opensOrder 52 = .ok (.aload_n 0, 1) := by decide +kernel
theorem dX0_opensOrder_53 : decode cX0_opensOrder 53 = .ok (.iconst 0, 1) := by decide +kernel
theorem dX0_opensOrder_54 : decode cX0_opensOrder 54 = .ok (.putfield 38, 3) := by decide +kernel
theorem dX0_opensOrder_57 : decode cX0_opensOrder 57 = .ok (.iconst 1, 1) := by decide +kernel
theorem dX0_opensOrder_58 : decode cX0_opensOrder 58 = .ok (.ireturn, 1) := by decide +kernel
theorem dX0_endsOrder_0 : decode cX0_endsOrder 0 = .ok (.aload_n 0, 1) := by decide +kernel
theorem dX0_endsOrder_1 : decode cX0_endsOrder 1 = .ok (.getfield 54, 3) := by decide +kernel
theorem dX0_endsOrder_4 : decode cX0_endsOrder 4 = .ok (.aload_n 0, 1) := by decide +kernel
theorem dX0_endsOrder_5 : decode cX0_endsOrder 5 = .ok (.getfield 22, 3) := by decide +kernel
theorem dX0_endsOrder_8 : decode cX0_endsOrder 8 = .ok (.if_icmp .ge 5, 3) := by decide +kernel
theorem dX0_endsOrder_11 : decode cX0_endsOrder 11 = .ok (.iconst 0, 1) := by decide +kernel
theorem dX0_endsOrder_12 : decode cX0_endsOrder 12 = .ok (.ireturn, 1) := by decide +kernel
theorem dX0_endsOrder_13 : decode cX0_endsOrder 13 = .ok (.aload_n 0, 1) := by decide +kernel
theorem dX0_endsOrder_14 : decode cX0_endsOrder 14 = .ok (.dup, 1) := by decide +kernel
theorem dX0_endsOrder_15 : decode cX0_endsOrder 15 = .ok (.getfield 18, 3) := by decide +kernel
theorem dX0_endsOrder_18 : decode cX0_endsOrder 18 = .ok (.iconst 1, 1) := by decide +kernel
theorem dX0_endsOrder_19 : decode cX0_endsOrder 19 = .ok (.iadd, 1) := by decide +kernel
theorem dX0_endsOrder_20 : decode cX0_endsOrder 20 = .ok (.putfield 18, 3) := by decide +kernel
theorem dX0_endsOrder_23 : decode cX0_endsOrder 23 = .ok (.aload_n 0, 1) := by decide +kernel
theorem dX0_endsOrder_24 : decode cX0_endsOrder 24 = .ok (.iconst (-1), 1) := by decide +kernel
theorem dX0_endsOrder_25 : decode cX0_endsOrder 25 = .ok (.putfield 22, 3) := by decide +kernel
theorem dX0_endsOrder_28 : decode cX0_endsOrder 28 = .ok (.iconst 1, 1) := by decide +kernel
theorem dX0_endsOrder_29 : decode cX0_endsOrder 29 = .ok (.ireturn, 1) := by decide +kernel
theorem dX0_takesFigure_0 : decode cX0_takesFigure 0 = .ok (.iload_n 1, 1) := by decide +kernel
theorem dX0_takesFigure_1 : decode cX0_takesFigure 1 = .ok (.bipush 48, 2) := by decide +kernel
theorem dX0_takesFigure_3 : decode cX0_takesFigure 3 = .ok (.if_icmp .lt 35, 3) := by decide +kernel
theorem dX0_takesFigure_6 : decode cX0_takesFigure 6 = .ok (.iload_n 1, 1) := by decide +kernel
theorem dX0_takesFigure_7 : decode cX0_takesFigure 7 = .ok (.bipush 57, 2) := by decide +kernel
theorem dX0_takesFigure_9 : decode cX0_takesFigure 9 = .ok (.if_icmp .gt 29, 3) := by decide +kernel
theorem dX0_takesFigure_12 : decode cX0_takesFigure 12 = .ok (.aload_n 0, 1) := by decide +kernel
theorem dX0_takesFigure_13 : decode cX0_takesFigure 13 = .ok (.getfield 38, 3) := by decide +kernel
theorem dX0_takesFigure_16 : decode cX0_takesFigure 16 = .ok (.iconst 2, 1) := by decide +kernel
theorem dX0_takesFigure_17 : decode cX0_takesFigure 17 = .ok (.if_icmp .eq 21, 3) := by decide +kernel
theorem dX0_takesFigure_20 : decode cX0_takesFigure 20 = .ok (.aload_n 0, 1) := by decide +kernel
theorem dX0_takesFigure_21 : decode cX0_takesFigure 21 = .ok (.getfield 38, 3) := by decide +kernel
theorem dX0_takesFigure_24 : decode cX0_takesFigure 24 = .ok (.ifCond .ne 16, 3) := by decide +kernel
theorem dX0_takesFigure_27 : decode cX0_takesFigure 27 = .ok (.aload_n 0, 1) := by decide +kernel
theorem dX0_takesFigure_28 : decode cX0_takesFigure 28 = .ok (.getfield 54, 3) := by decide +kernel
theorem dX0_takesFigure_31 : decode cX0_takesFigure 31 = .ok (.aload_n 0, 1) := by decide +kernel
theorem dX0_takesFigure_32 : decode cX0_takesFigure 32 = .ok (.getfield 22, 3) := by decide +kernel
theorem dX0_takesFigure_35 : decode cX0_takesFigure 35 = .ok (.if_icmp .ne 5, 3) := by decide +kernel
theorem dX0_takesFigure_38 : decode cX0_takesFigure 38 = .ok (.iconst 0, 1) := by decide +kernel
theorem dX0_takesFigure_39 : decode cX0_takesFigure 39 = .ok (.ireturn, 1) := by decide +kernel
theorem dX0_takesFigure_40 : decode cX0_takesFigure 40 = .ok (.aload_n 0, 1) := by decide +kernel
theorem dX0_takesFigure_41 : decode cX0_takesFigure 41 = .ok (.getfield 38, 3) := by decide +kernel
theorem dX0_takesFigure_44 : decode cX0_takesFigure 44 = .ok (.ifCond .ne 24, 3) := by decide +kernel
theorem dX0_takesFigure_47 : decode cX0_takesFigure 47 = .ok (.aload_n 0, 1) := by decide +kernel
theorem dX0_takesFigure_48 : decode cX0_takesFigure 48 = .ok (.dup, 1) := by decide +kernel
theorem dX0_takesFigure_49 : decode cX0_takesFigure 49 = .ok (.getfield 54, 3) := by decide +kernel
theorem dX0_takesFigure_52 : decode cX0_takesFigure 52 = .ok (.iconst 1, 1) := by decide +kernel
theorem dX0_takesFigure_53 : decode cX0_takesFigure 53 = .ok (.iadd, 1) := by decide +kernel
theorem dX0_takesFigure_54 : decode cX0_takesFigure 54 = .ok (.putfield 54, 3) := by decide +kernel
theorem dX0_takesFigure_57 : decode cX0_takesFigure 57 = .ok (.aload_n 0, 1) := by decide +kernel
theorem dX0_takesFigure_58 : decode cX0_takesFigure 58 = .ok (.iload_n 1, 1) := by decide +kernel
theorem dX0_takesFigure_59 : decode cX0_takesFigure 59 = .ok (.bipush 48, 2) := by decide +kernel
theorem dX0_takesFigure_61 : decode cX0_takesFigure 61 = .ok (.isub, 1) := by decide +kernel
theorem dX0_takesFigure_62 : decode cX0_takesFigure 62 = .ok (.invokevirtual 57, 3) := by decide +kernel
theorem dX0_takesFigure_65 : decode cX0_takesFigure 65 = .ok (.goto 29, 3) := by decide +kernel
theorem dX0_takesFigure_68 : decode cX0_takesFigure 68 = .ok (.aload_n 0, 1) := by decide +kernel
theorem dX0_takesFigure_69 : decode cX0_takesFigure 69 = .ok (.bipush 10, 2) := by decide +kernel
theorem dX0_takesFigure_71 : decode cX0_takesFigure 71 = .ok (.aload_n 0, 1) := by decide +kernel
theorem dX0_takesFigure_72 : decode cX0_takesFigure 72 = .ok (.aload_n 0, 1) := by decide +kernel
theorem dX0_takesFigure_73 : decode cX0_takesFigure 73 = .ok (.getfield 18, 3) := by decide +kernel
theorem dX0_takesFigure_76 : decode cX0_takesFigure 76 = .ok (.aload_n 0, 1) := by decide +kernel
theorem dX0_takesFigure_77 : decode cX0_takesFigure 77 = .ok (.getfield 54, 3) := by decide +kernel
theorem dX0_takesFigure_80 : decode cX0_takesFigure 80 = .ok (.iconst 1, 1) := by decide +kernel
theorem dX0_takesFigure_81 : decode cX0_takesFigure 81 = .ok (.isub, 1) := by decide +kernel
theorem dX0_takesFigure_82 : decode cX0_takesFigure 82 = .ok (.invokevirtual 61, 3) := by decide +kernel
theorem dX0_takesFigure_85 : decode cX0_takesFigure 85 = .ok (.imul, 1) := by decide +kernel
theorem dX0_takesFigure_86 : decode cX0_takesFigure 86 = .ok (.iload_n 1, 1) := by decide +kernel
theorem dX0_takesFigure_87 : decode cX0_takesFigure 87 = .ok (.iadd, 1) := by decide +kernel
theorem dX0_takesFigure_88 : decode cX0_takesFigure 88 = .ok (.bipush 48, 2) := by decide +kernel
theorem dX0_takesFigure_90 : decode cX0_takesFigure 90 = .ok (.isub, 1) := by decide +kernel
theorem dX0_takesFigure_91 : decode cX0_takesFigure 91 = .ok (.invokevirtual 57, 3) := by decide +kernel
theorem dX0_takesFigure_94 : decode cX0_takesFigure 94 = .ok (.aload_n 0, 1) := by decide +kernel
theorem dX0_takesFigure_95 : decode cX0_takesFigure 95 = .ok (.dup, 1) := by decide +kernel
theorem dX0_takesFigure_96 : decode cX0_takesFigure 96 = .ok (.getfield 38, 3) := by decide +kernel
theorem dX0_takesFigure_99 : decode cX0_takesFigure 99 = .ok (.iconst 1, 1) := by decide +kernel
theorem dX0_takesFigure_100 : decode cX0_takesFigure 100 = .ok (.iadd, 1) := by decide +kernel
theorem dX0_takesFigure_101 : decode cX0_takesFigure 101 = .ok (.putfield 38, 3) := by decide +kernel
theorem dX0_takesFigure_104 : decode cX0_takesFigure 104 = .ok (.iconst 1, 1) := by decide +kernel
theorem dX0_takesFigure_105 : decode cX0_takesFigure 105 = .ok (.ireturn, 1) := by decide +kernel
theorem dX0_setNumber_0 : decode cX0_setNumber 0 = .ok (.aload_n 0, 1) := by decide +kernel
theorem dX0_setNumber_1 : decode cX0_setNumber 1 = .ok (.getfield 18, 3) := by decide +kernel
theorem dX0_setNumber_4 : decode cX0_setNumber 4 = .ok (.iconst 5, 1) := by decide +kernel
theorem dX0_setNumber_5 : decode cX0_setNumber 5 = .ok (.imul, 1) := by decide +kernel
theorem dX0_setNumber_6 : decode cX0_setNumber 6 = .ok (.aload_n 0, 1) := by decide +kernel
theorem dX0_setNumber_7 : decode cX0_setNumber 7 = .ok (.getfield 54, 3) := by decide +kernel
theorem dX0_setNumber_10 : decode cX0_setNumber 10 = .ok (.iadd, 1) := by decide +kernel
theorem dX0_setNumber_11 : decode cX0_setNumber 11 = .ok (.iconst 1, 1) := by decide +kernel
theorem dX0_setNumber_12 : decode cX0_setNumber 12 = .ok (.isub, 1) := by decide +kernel
theorem dX0_setNumber_13 : decode cX0_setNumber 13 = .ok (.istore_n 2, 1) := by decide +kernel
theorem dX0_setNumber_14 : decode cX0_setNumber 14 = .ok (.iload_n 2, 1) := by decide +kernel
theorem dX0_setNumber_15 : decode cX0_setNumber 15 = .ok (.ifCond .lt 19, 3) := by decide +kernel
theorem dX0_setNumber_18 : decode cX0_setNumber 18 = .ok (.iload_n 2, 1) := by decide +kernel
theorem dX0_setNumber_19 : decode cX0_setNumber 19 = .ok (.aload_n 0, 1) := by decide +kernel
theorem dX0_setNumber_20 : decode cX0_setNumber 20 = .ok (.getfield 15, 3) := by decide +kernel
theorem dX0_setNumber_23 : decode cX0_setNumber 23 = .ok (.arraylength, 1) := by decide +kernel
theorem dX0_setNumber_24 : decode cX0_setNumber 24 = .ok (.if_icmp .ge 10, 3) := by decide +kernel
theorem dX0_setNumber_27 : decode cX0_setNumber 27 = .ok (.aload_n 0, 1) := by decide +kernel
theorem dX0_setNumber_28 : decode cX0_setNumber 28 = .ok (.getfield 15, 3) := by decide +kernel
theorem dX0_setNumber_31 : decode cX0_setNumber 31 = .ok (.iload_n 2, 1) := by decide +kernel
theorem dX0_setNumber_32 : decode cX0_setNumber 32 = .ok (.iload_n 1, 1) := by decide +kernel
theorem dX0_setNumber_33 : decode cX0_setNumber 33 = .ok (.iastore, 1) := by decide +kernel
theorem dX0_setNumber_34 : decode cX0_setNumber 34 = .ok (.return_, 1) := by decide +kernel
theorem dX0_numbersOf_0 : decode cX0_numbersOf 0 = .ok (.iload_n 0, 1) := by decide +kernel
theorem dX0_numbersOf_1 : decode cX0_numbersOf 1 = .ok (.lookupswitch 65 #[(99, 63), (109, 61), (114, 61), (115, 61), (116, 59), (119, 63)], 59) := by decide +kernel
theorem dX0_numbersOf_60 : decode cX0_numbersOf 60 = .ok (.iconst 5, 1) := by decide +kernel
theorem dX0_numbersOf_61 : decode cX0_numbersOf 61 = .ok (.ireturn, 1) := by decide +kernel
theorem dX0_numbersOf_62 : decode cX0_numbersOf 62 = .ok (.iconst 1, 1) := by decide +kernel
theorem dX0_numbersOf_63 : decode cX0_numbersOf 63 = .ok (.ireturn, 1) := by decide +kernel
theorem dX0_numbersOf_64 : decode cX0_numbersOf 64 = .ok (.iconst 0, 1) := by decide +kernel
theorem dX0_numbersOf_65 : decode cX0_numbersOf 65 = .ok (.ireturn, 1) := by decide +kernel
theorem dX0_numbersOf_66 : decode cX0_numbersOf 66 = .ok (.iconst (-1), 1) := by decide +kernel
theorem dX0_numbersOf_67 : decode cX0_numbersOf 67 = .ok (.ireturn, 1) := by decide +kernel
theorem dX0_letter_0 : decode cX0_letter 0 = .ok (.iload_n 1, 1) := by decide +kernel
theorem dX0_letter_1 : decode cX0_letter 1 = .ok (.ifCond .lt 21, 3) := by decide +kernel
theorem dX0_letter_4 : decode cX0_letter 4 = .ok (.iload_n 1, 1) := by decide +kernel
theorem dX0_letter_5 : decode cX0_letter 5 = .ok (.aload_n 0, 1) := by decide +kernel
theorem dX0_letter_6 : decode cX0_letter 6 = .ok (.getfield 9, 3) := by decide +kernel
theorem dX0_letter_9 : decode cX0_letter 9 = .ok (.arraylength, 1) := by decide +kernel
theorem dX0_letter_10 : decode cX0_letter 10 = .ok (.if_icmp .ge 12, 3) := by decide +kernel
theorem dX0_letter_13 : decode cX0_letter 13 = .ok (.aload_n 0, 1) := by decide +kernel
theorem dX0_letter_14 : decode cX0_letter 14 = .ok (.getfield 9, 3) := by decide +kernel
theorem dX0_letter_17 : decode cX0_letter 17 = .ok (.iload_n 1, 1) := by decide +kernel
theorem dX0_letter_18 : decode cX0_letter 18 = .ok (.iaload, 1) := by decide +kernel
theorem dX0_letter_19 : decode cX0_letter 19 = .ok (.goto 4, 3) := by decide +kernel
theorem dX0_letter_22 : decode cX0_letter 22 = .ok (.iconst (-1), 1) := by decide +kernel
theorem dX0_letter_23 : decode cX0_letter 23 = .ok (.ireturn, 1) := by decide +kernel
theorem dX0_number_0 : decode cX0_number 0 = .ok (.iload_n 1, 1) := by decide +kernel
theorem dX0_number_1 : decode cX0_number 1 = .ok (.iconst 5, 1) := by decide +kernel
theorem dX0_number_2 : decode cX0_number 2 = .ok (.imul, 1) := by decide +kernel
theorem dX0_number_3 : decode cX0_number 3 = .ok (.iload_n 2, 1) := by decide +kernel
theorem dX0_number_4 : decode cX0_number 4 = .ok (.iadd, 1) := by decide +kernel
theorem dX0_number_5 : decode cX0_number 5 = .ok (.istore_n 3, 1) := by decide +kernel
theorem dX0_number_6 : decode cX0_number 6 = .ok (.iload_n 3, 1) := by decide +kernel
theorem dX0_number_7 : decode cX0_number 7 = .ok (.ifCond .lt 21, 3) := by decide +kernel
theorem dX0_number_10 : decode cX0_number 10 = .ok (.iload_n 3, 1) := by decide +kernel
theorem dX0_number_11 : decode cX0_number 11 = .ok (.aload_n 0, 1) := by decide +kernel
theorem dX0_number_12 : decode cX0_number 12 = .ok (.getfield 15, 3) := by decide +kernel
theorem dX0_number_15 : decode cX0_number 15 = .ok (.arraylength, 1) := by decide +kernel
theorem dX0_number_16 : decode cX0_number 16 = .ok (.if_icmp .ge 12, 3) := by decide +kernel
theorem dX0_number_19 : decode cX0_number 19 = .ok (.aload_n 0, 1) := by decide +kernel
theorem dX0_number_20 : decode cX0_number 20 = .ok (.getfield 15, 3) := by decide +kernel
theorem dX0_number_23 : decode cX0_number 23 = .ok (.iload_n 3, 1) := by decide +kernel
theorem dX0_number_24 : decode cX0_number 24 = .ok (.iaload, 1) := by decide +kernel
theorem dX0_number_25 : decode cX0_number 25 = .ok (.goto 4, 3) := by decide +kernel
theorem dX0_number_28 : decode cX0_number 28 = .ok (.iconst 0, 1) := by decide +kernel
theorem dX0_number_29 : decode cX0_number 29 = .ok (.ireturn, 1) := by decide +kernel
theorem dX1_init_0 : decode cX1_init 0 = .ok (.aload_n 0, 1) := by decide +kernel
theorem dX1_init_1 : decode cX1_init 1 = .ok (.invokespecial 3, 3) := by decide +kernel
theorem dX1_init_4 : decode cX1_init 4 = .ok (.aload_n 0, 1) := by decide +kernel
theorem dX1_init_5 : decode cX1_init 5 = .ok (.bipush 6, 2) := by decide +kernel
theorem dX1_init_7 : decode cX1_init 7 = .ok (.anewarray 11, 3) := by decide +kernel
theorem dX1_init_10 : decode cX1_init 10 = .ok (.putfield 13, 3) := by decide +kernel
theorem dX1_init_13 : decode cX1_init 13 = .ok (.iconst 0, 1) := by decide +kernel
theorem dX1_init_14 : decode cX1_init 14 = .ok (.istore_n 1, 1) := by decide +kernel
theorem dX1_init_15 : decode cX1_init 15 = .ok (.iload_n 1, 1) := by decide +kernel
theorem dX1_init_16 : decode cX1_init 16 = .ok (.aload_n 0, 1) := by decide +kernel
theorem dX1_init_17 : decode cX1_init 17 = .ok (.getfield 13, 3) := by decide +kernel
theorem dX1_init_20 : decode cX1_init 20 = .ok (.arraylength, 1) := by decide +kernel
theorem dX1_init_21 : decode cX1_init 21 = .ok (.if_icmp .ge 22, 3) := by decide +kernel
theorem dX1_init_24 : decode cX1_init 24 = .ok (.aload_n 0, 1) := by decide +kernel
theorem dX1_init_25 : decode cX1_init 25 = .ok (.getfield 13, 3) := by decide +kernel
theorem dX1_init_28 : decode cX1_init 28 = .ok (.iload_n 1, 1) := by decide +kernel
theorem dX1_init_29 : decode cX1_init 29 = .ok (.new 11, 3) := by decide +kernel
theorem dX1_init_32 : decode cX1_init 32 = .ok (.dup, 1) := by decide +kernel
theorem dX1_init_33 : decode cX1_init 33 = .ok (.invokespecial 17, 3) := by decide +kernel
theorem dX1_init_36 : decode cX1_init 36 = .ok (.aastore, 1) := by decide +kernel
theorem dX1_init_37 : decode cX1_init 37 = .ok (.iinc 1 1, 3) := by decide +kernel
theorem dX1_init_40 : decode cX1_init 40 = .ok (.goto (-25), 3) := by decide +kernel
theorem dX1_init_43 : decode cX1_init 43 = .ok (.return_, 1) := by decide +kernel
theorem dX1_markedSlot_0 : decode cX1_markedSlot 0 = .ok (.aload_n 0, 1) := by decide +kernel
theorem dX1_markedSlot_1 : decode cX1_markedSlot 1 = .ok (.getfield 18, 3) := by decide +kernel
theorem dX1_markedSlot_4 : decode cX1_markedSlot 4 = .ok (.ifCond .lt 27, 3) := by decide +kernel
theorem dX1_markedSlot_7 : decode cX1_markedSlot 7 = .ok (.aload_n 0, 1) := by decide +kernel
theorem dX1_markedSlot_8 : decode cX1_markedSlot 8 = .ok (.getfield 18, 3) := by decide +kernel
theorem dX1_markedSlot_11 : decode cX1_markedSlot 11 = .ok (.aload_n 0, 1) := by decide +kernel
theorem dX1_markedSlot_12 : decode cX1_markedSlot 12 = .ok (.getfield 13, 3) := by decide +kernel
theorem dX1_markedSlot_15 : decode cX1_markedSlot 15 = .ok (.arraylength, 1) := by decide +kernel
theorem dX1_markedSlot_16 : decode cX1_markedSlot 16 = .ok (.if_icmp .ge 15, 3) := by decide +kernel
theorem dX1_markedSlot_19 : decode cX1_markedSlot 19 = .ok (.aload_n 0, 1) := by decide +kernel
theorem dX1_markedSlot_20 : decode cX1_markedSlot 20 = .ok (.getfield 13, 3) := by decide +kernel
theorem dX1_markedSlot_23 : decode cX1_markedSlot 23 = .ok (.aload_n 0, 1) := by decide +kernel
theorem dX1_markedSlot_24 : decode cX1_markedSlot 24 = .ok (.getfield 18, 3) := by decide +kernel
theorem dX1_markedSlot_27 : decode cX1_markedSlot 27 = .ok (.aaload, 1) := by decide +kernel
theorem dX1_markedSlot_28 : decode cX1_markedSlot 28 = .ok (.goto 4, 3) := by decide +kernel
theorem dX1_markedSlot_31 : decode cX1_markedSlot 31 = .ok (.aconst_null, 1) := by decide +kernel
theorem dX1_markedSlot_32 : decode cX1_markedSlot 32 = .ok (.areturn, 1) := by decide +kernel
theorem dX1_mark_0 : decode cX1_mark 0 = .ok (.aload_n 0, 1) := by decide +kernel
theorem dX1_mark_1 : decode cX1_mark 1 = .ok (.invokevirtual 22, 3) := by decide +kernel
theorem dX1_mark_4 : decode cX1_mark 4 = .ok (.astore_n 2, 1) := by decide +kernel
theorem dX1_mark_5 : decode cX1_mark 5 = .ok (.aload_n 2, 1) := by decide +kernel
theorem dX1_mark_6 : decode cX1_mark 6 = .ok (.ifnull 8, 3) := by decide +kernel
theorem dX1_mark_9 : decode cX1_mark 9 = .ok (.aload_n 2, 1) := by decide +kernel
theorem dX1_mark_10 : decode cX1_mark 10 = .ok (.aload_n 1, 1) := by decide +kernel
theorem dX1_mark_11 : decode cX1_mark 11 = .ok (.invokevirtual 26, 3) := by decide +kernel
theorem dX1_mark_14 : decode cX1_mark 14 = .ok (.return_, 1) := by decide +kernel
theorem dX1_recall_0 : decode cX1_recall 0 = .ok (.aload_n 0, 1) := by decide +kernel
theorem dX1_recall_1 : decode cX1_recall 1 = .ok (.invokevirtual 22, 3) := by decide +kernel
theorem dX1_recall_4 : decode cX1_recall 4 = .ok (.astore_n 2, 1) := by decide +kernel
theorem dX1_recall_5 : decode cX1_recall 5 = .ok (.aload_n 2, 1) := by decide +kernel
theorem dX1_recall_6 : decode cX1_recall 6 = .ok (.ifnull 8, 3) := by decide +kernel
theorem dX1_recall_9 : decode cX1_recall 9 = .ok (.aload_n 1, 1) := by decide +kernel
theorem dX1_recall_10 : decode cX1_recall 10 = .ok (.aload_n 2, 1) := by decide +kernel
theorem dX1_recall_11 : decode cX1_recall 11 = .ok (.invokevirtual 26, 3) := by decide +kernel
theorem dX1_recall_14 : decode cX1_recall 14 = .ok (.return_, 1) := by decide +kernel
theorem dX1_keep_0 : decode cX1_keep 0 = .ok (.aload_n 0, 1) := by decide +kernel
theorem dX1_keep_1 : decode cX1_keep 1 = .ok (.aload_n 0, 1) := by decide +kernel
theorem dX1_keep_2 : decode cX1_keep 2 = .ok (.getfield 18, 3) := by decide +kernel
theorem dX1_keep_5 : decode cX1_keep 5 = .ok (.iconst 1, 1) := by decide +kernel
theorem dX1_keep_6 : decode cX1_keep 6 = .ok (.iadd, 1) := by decide +kernel
theorem dX1_keep_7 : decode cX1_keep 7 = .ok (.bipush 6, 2) := by decide +kernel
theorem dX1_keep_9 : decode cX1_keep 9 = .ok (.irem, 1) := by decide +kernel
theorem dX1_keep_10 : decode cX1_keep 10 = .ok (.putfield 18, 3) := by decide +kernel
theorem dX1_keep_13 : decode cX1_keep 13 = .ok (.aload_n 0, 1) := by decide +kernel
theorem dX1_keep_14 : decode cX1_keep 14 = .ok (.aload_n 0, 1) := by decide +kernel
theorem dX1_keep_15 : decode cX1_keep 15 = .ok (.getfield 30, 3) := by decide +kernel
theorem dX1_keep_18 : decode cX1_keep 18 = .ok (.iconst 1, 1) := by decide +kernel
theorem dX1_keep_19 : decode cX1_keep 19 = .ok (.iadd, 1) := by decide +kernel
theorem dX1_keep_20 : decode cX1_keep 20 = .ok (.iconst 5, 1) := by decide +kernel
theorem dX1_keep_21 : decode cX1_keep 21 = .ok (.invokestatic 33, 3) := by decide +kernel
theorem dX1_keep_24 : decode cX1_keep 24 = .ok (.putfield 30, 3) := by decide +kernel
theorem dX1_keep_27 : decode cX1_keep 27 = .ok (.return_, 1) := by decide +kernel
theorem dX1_stepBack_0 : decode cX1_stepBack 0 = .ok (.aload_n 0, 1) := by decide +kernel
theorem dX1_stepBack_1 : decode cX1_stepBack 1 = .ok (.getfield 30, 3) := by decide +kernel
theorem dX1_stepBack_4 : decode cX1_stepBack 4 = .ok (.ifCond .le 34, 3) := by decide +kernel
theorem dX1_stepBack_7 : decode cX1_stepBack 7 = .ok (.aload_n 0, 1) := by decide +kernel
theorem dX1_stepBack_8 : decode cX1_stepBack 8 = .ok (.dup, 1) := by decide +kernel
theorem dX1_stepBack_9 : decode cX1_stepBack 9 = .ok (.getfield 30, 3) := by decide +kernel
theorem dX1_stepBack_12 : decode cX1_stepBack 12 = .ok (.iconst 1, 1) := by decide +kernel
theorem dX1_stepBack_13 : decode cX1_stepBack 13 = .ok (.isub, 1) := by decide +kernel
theorem dX1_stepBack_14 : decode cX1_stepBack 14 = .ok (.putfield 30, 3) := by decide +kernel
theorem dX1_stepBack_17 : decode cX1_stepBack 17 = .ok (.aload_n 0, 1) := by decide +kernel
theorem dX1_stepBack_18 : decode cX1_stepBack 18 = .ok (.aload_n 0, 1) := by decide +kernel
theorem dX1_stepBack_19 : decode cX1_stepBack 19 = .ok (.getfield 18, 3) := by decide +kernel
theorem dX1_stepBack_22 : decode cX1_stepBack 22 = .ok (.bipush 6, 2) := by decide +kernel
theorem dX1_stepBack_24 : decode cX1_stepBack 24 = .ok (.iadd, 1) := by decide +kernel
theorem dX1_stepBack_25 : decode cX1_stepBack 25 = .ok (.iconst 1, 1) := by decide +kernel
theorem dX1_stepBack_26 : decode cX1_stepBack 26 = .ok (.isub, 1) := by decide +kernel
theorem dX1_stepBack_27 : decode cX1_stepBack 27 = .ok (.bipush 6, 2) := by decide +kernel
theorem dX1_stepBack_29 : decode cX1_stepBack 29 = .ok (.irem, 1) := by decide +kernel
theorem dX1_stepBack_30 : decode cX1_stepBack 30 = .ok (.putfield 18, 3) := by decide +kernel
theorem dX1_stepBack_33 : decode cX1_stepBack 33 = .ok (.aload_n 0, 1) := by decide +kernel
theorem dX1_stepBack_34 : decode cX1_stepBack 34 = .ok (.aload_n 1, 1) := by decide +kernel
theorem dX1_stepBack_35 : decode cX1_stepBack 35 = .ok (.invokevirtual 39, 3) := by decide +kernel
theorem dX1_stepBack_38 : decode cX1_stepBack 38 = .ok (.aload_n 0, 1) := by decide +kernel
theorem dX1_stepBack_39 : decode cX1_stepBack 39 = .ok (.getfield 30, 3) := by decide +kernel
theorem dX1_stepBack_42 : decode cX1_stepBack 42 = .ok (.ireturn, 1) := by decide +kernel
theorem dX2_least_0 : decode cX2_least 0 = .ok (.iload_n 1, 1) := by decide +kernel
theorem dX2_least_1 : decode cX2_least 1 = .ok (.istore_n 3, 1) := by decide +kernel
theorem dX2_least_2 : decode cX2_least 2 = .ok (.iconst 1, 1) := by decide +kernel
theorem dX2_least_3 : decode cX2_least 3 = .ok (.istore 4, 2) := by decide +kernel
theorem dX2_least_5 : decode cX2_least 5 = .ok (.iconst 0, 1) := by decide +kernel
theorem dX2_least_6 : decode cX2_least 6 = .ok (.istore 5, 2) := by decide +kernel
theorem dX2_least_8 : decode cX2_least 8 = .ok (.iload 5, 2) := by decide +kernel
theorem dX2_least_10 : decode cX2_least 10 = .ok (.bipush 8, 2) := by decide +kernel
theorem dX2_least_12 : decode cX2_least 12 = .ok (.if_icmp .gt 84, 3) := by decide +kernel
theorem dX2_least_15 : decode cX2_least 15 = .ok (.iload 4, 2) := by decide +kernel
theorem dX2_least_17 : decode cX2_least 17 = .ok (.ifCond .eq 79, 3) := by decide +kernel
theorem dX2_least_20 : decode cX2_least 20 = .ok (.iconst 0, 1) := by decide +kernel
theorem dX2_least_21 : decode cX2_least 21 = .ok (.istore 4, 2) := by decide +kernel
theorem dX2_least_23 : decode cX2_least 23 = .ok (.iconst 0, 1) := by decide +kernel
theorem dX2_least_24 : decode cX2_least 24 = .ok (.istore 6, 2) := by decide +kernel
theorem dX2_least_26 : decode cX2_least 26 = .ok (.iload 6, 2) := by decide +kernel
theorem dX2_least_28 : decode cX2_least 28 = .ok (.aload_n 0, 1) := by decide +kernel
theorem dX2_least_29 : decode cX2_least 29 = .ok (.getfield 9, 3) := by decide +kernel
theorem dX2_least_32 : decode cX2_least 32 = .ok (.getfield 15, 3) := by decide +kernel
theorem dX2_least_35 : decode cX2_least 35 = .ok (.if_icmp .ge 55, 3) := by decide +kernel
theorem dX2_least_38 : decode cX2_least 38 = .ok (.aload_n 0, 1) := by decide +kernel
theorem dX2_least_39 : decode cX2_least 39 = .ok (.getfield 9, 3) := by decide +kernel
theorem dX2_least_42 : decode cX2_least 42 = .ok (.iload 6, 2) := by decide +kernel
theorem dX2_least_44 : decode cX2_least 44 = .ok (.invokevirtual 21, 3) := by decide +kernel
theorem dX2_least_47 : decode cX2_least 47 = .ok (.istore 7, 2) := by decide +kernel
theorem dX2_least_49 : decode cX2_least 49 = .ok (.iload_n 3, 1) := by decide +kernel
theorem dX2_least_50 : decode cX2_least 50 = .ok (.iconst 1, 1) := by decide +kernel
theorem dX2_least_51 : decode cX2_least 51 = .ok (.iload 7, 2) := by decide +kernel
theorem dX2_least_53 : decode cX2_least 53 = .ok (.ishl, 1) := by decide +kernel
theorem dX2_least_54 : decode cX2_least 54 = .ok (.iconst (-1), 1) := by decide +kernel
theorem dX2_least_55 : decode cX2_least 55 = .ok (.ixor, 1) := by decide +kernel
theorem dX2_least_56 : decode cX2_least 56 = .ok (.iand, 1) := by decide +kernel
theorem dX2_least_57 : decode cX2_least 57 = .ok (.istore 8, 2) := by decide +kernel
theorem dX2_least_59 : decode cX2_least 59 = .ok (.iload 7, 2) := by decide +kernel
theorem dX2_least_61 : decode cX2_least 61 = .ok (.iload_n 3, 1) := by decide +kernel
theorem dX2_least_62 : decode cX2_least 62 = .ok (.invokestatic 25, 3) := by decide +kernel
theorem dX2_least_65 : decode cX2_least 65 = .ok (.ifCond .eq 19, 3) := by decide +kernel
theorem dX2_least_68 : decode cX2_least 68 = .ok (.aload_n 0, 1) := by decide +kernel
theorem dX2_least_69 : decode cX2_least 69 = .ok (.iload 8, 2) := by decide +kernel
theorem dX2_least_71 : decode cX2_least 71 = .ok (.iload_n 2, 1) := by decide +kernel
theorem dX2_least_72 : decode cX2_least 72 = .ok (.invokevirtual 29, 3) := by decide +kernel
theorem dX2_least_75 : decode cX2_least 75 = .ok (.ifCond .eq 9, 3) := by decide +kernel
theorem dX2_least_78 : decode cX2_least 78 = .ok (.iload 8, 2) := by decide +kernel
theorem dX2_least_80 : decode cX2_least 80 = .ok (.istore_n 3, 1) := by decide +kernel
theorem dX2_least_81 : decode cX2_least 81 = .ok (.iconst 1, 1) := by decide +kernel
theorem dX2_least_82 : decode cX2_least 82 = .ok (.istore 4, 2) := by decide +kernel
theorem dX2_least_84 : decode cX2_least 84 = .ok (.iinc 6 1, 3) := by decide +kernel
theorem dX2_least_87 : decode cX2_least 87 = .ok (.goto (-61), 3) := by decide +kernel
theorem dX2_least_90 : decode cX2_least 90 = .ok (.iinc 5 1, 3) := by decide +kernel
theorem dX2_least_93 : decode cX2_least 93 = .ok (.goto (-85), 3) := by decide +kernel
theorem dX2_least_96 : decode cX2_least 96 = .ok (.iload_n 3, 1) := by decide +kernel
theorem dX2_least_97 : decode cX2_least 97 = .ok (.ireturn, 1) := by decide +kernel
theorem dX2_fewest_0 : decode cX2_fewest 0 = .ok (.iload_n 1, 1) := by decide +kernel
theorem dX2_fewest_1 : decode cX2_fewest 1 = .ok (.istore_n 3, 1) := by decide +kernel
theorem dX2_fewest_2 : decode cX2_fewest 2 = .ok (.iload_n 1, 1) := by decide +kernel
theorem dX2_fewest_3 : decode cX2_fewest 3 = .ok (.istore 4, 2) := by decide +kernel
theorem dX2_fewest_5 : decode cX2_fewest 5 = .ok (.iload 4, 2) := by decide +kernel
theorem dX2_fewest_7 : decode cX2_fewest 7 = .ok (.ifCond .le 55, 3) := by decide +kernel
theorem dX2_fewest_10 : decode cX2_fewest 10 = .ok (.iload 4, 2) := by decide +kernel
theorem dX2_fewest_12 : decode cX2_fewest 12 = .ok (.iload_n 1, 1) := by decide +kernel
theorem dX2_fewest_13 : decode cX2_fewest 13 = .ok (.iconst (-1), 1) := by decide +kernel
theorem dX2_fewest_14 : decode cX2_fewest 14 = .ok (.ixor, 1) := by decide +kernel
theorem dX2_fewest_15 : decode cX2_fewest 15 = .ok (.iand, 1) := by decide +kernel
theorem dX2_fewest_16 : decode cX2_fewest 16 = .ok (.ifCond .ne 7, 3) := by decide +kernel
theorem dX2_fewest_19 : decode cX2_fewest 19 = .ok (.iconst 1, 1) := by decide +kernel
theorem dX2_fewest_20 : decode cX2_fewest 20 = .ok (.goto 4, 3) := by decide +kernel
theorem dX2_fewest_23 : decode cX2_fewest 23 = .ok (.iconst 0, 1) := by decide +kernel
theorem dX2_fewest_24 : decode cX2_fewest 24 = .ok (.istore 5, 2) := by decide +kernel
theorem dX2_fewest_26 : decode cX2_fewest 26 = .ok (.iload 5, 2) := by decide +kernel
theorem dX2_fewest_28 : decode cX2_fewest 28 = .ok (.ifCond .eq 28, 3) := by decide +kernel
theorem dX2_fewest_31 : decode cX2_fewest 31 = .ok (.iload 4, 2) := by decide +kernel
theorem dX2_fewest_33 : decode cX2_fewest 33 = .ok (.invokestatic 32, 3) := by decide +kernel
theorem dX2_fewest_36 : decode cX2_fewest 36 = .ok (.iload_n 3, 1) := by decide +kernel
theorem dX2_fewest_37 : decode cX2_fewest 37 = .ok (.invokestatic 32, 3) := by decide +kernel
theorem dX2_fewest_40 : decode cX2_fewest 40 = .ok (.if_icmp .gt 16, 3) := by decide +kernel
theorem dX2_fewest_43 : decode cX2_fewest 43 = .ok (.aload_n 0, 1) := by decide +kernel
theorem dX2_fewest_44 : decode cX2_fewest 44 = .ok (.iload 4, 2) := by decide +kernel
theorem dX2_fewest_46 : decode cX2_fewest 46 = .ok (.iload_n 2, 1) := by decide +kernel
theorem dX2_fewest_47 : decode cX2_fewest 47 = .ok (.invokevirtual 29, 3) := by decide +kernel
theorem dX2_fewest_50 : decode cX2_fewest 50 = .ok (.ifCond .eq 6, 3) := by decide +kernel
theorem dX2_fewest_53 : decode cX2_fewest 53 = .ok (.iload 4, 2) := by decide +kernel
theorem dX2_fewest_55 : decode cX2_fewest 55 = .ok (.istore_n 3, 1) := by decide +kernel
theorem dX2_fewest_56 : decode cX2_fewest 56 = .ok (.iinc 4 (-1), 3) := by decide +kernel
theorem dX2_fewest_59 : decode cX2_fewest 59 = .ok (.goto (-54), 3) := by decide +kernel
theorem dX2_fewest_62 : decode cX2_fewest 62 = .ok (.iload_n 3, 1) := by decide +kernel
theorem dX2_fewest_63 : decode cX2_fewest 63 = .ok (.ireturn, 1) := by decide +kernel
theorem dX2_halves_0 : decode cX2_halves 0 = .ok (.iload_n 1, 1) := by decide +kernel
theorem dX2_halves_1 : decode cX2_halves 1 = .ok (.istore_n 3, 1) := by decide +kernel
theorem dX2_halves_2 : decode cX2_halves 2 = .ok (.iconst 0, 1) := by decide +kernel
theorem dX2_halves_3 : decode cX2_halves 3 = .ok (.istore 4, 2) := by decide +kernel
theorem dX2_halves_5 : decode cX2_halves 5 = .ok (.iload 4, 2) := by decide +kernel
theorem dX2_halves_7 : decode cX2_halves 7 = .ok (.bipush 8, 2) := by decide +kernel
theorem dX2_halves_9 : decode cX2_halves 9 = .ok (.if_icmp .ge 64, 3) := by decide +kernel
theorem dX2_halves_12 : decode cX2_halves 12 = .ok (.iload_n 3, 1) := by decide +kernel
theorem dX2_halves_13 : decode cX2_halves 13 = .ok (.invokestatic 32, 3) := by decide +kernel
theorem dX2_halves_16 : decode cX2_halves 16 = .ok (.iconst 2, 1) := by decide +kernel
theorem dX2_halves_17 : decode cX2_halves 17 = .ok (.if_icmp .lt 56, 3) := by decide +kernel
theorem dX2_halves_20 : decode cX2_halves 20 = .ok (.aload_n 0, 1) := by decide +kernel
theorem dX2_halves_21 : decode cX2_halves 21 = .ok (.getfield 9, 3) := by decide +kernel
theorem dX2_halves_24 : decode cX2_halves 24 = .ok (.iload_n 3, 1) := by decide +kernel
theorem dX2_halves_25 : decode cX2_halves 25 = .ok (.invokestatic 37, 3) := by decide +kernel
theorem dX2_halves_28 : decode cX2_halves 28 = .ok (.istore 5, 2) := by decide +kernel
theorem dX2_halves_30 : decode cX2_halves 30 = .ok (.iload_n 3, 1) := by decide +kernel
theorem dX2_halves_31 : decode cX2_halves 31 = .ok (.iload 5, 2) := by decide +kernel
theorem dX2_halves_33 : decode cX2_halves 33 = .ok (.iconst (-1), 1) := by decide +kernel
theorem dX2_halves_34 : decode cX2_halves 34 = .ok (.ixor, 1) := by decide +kernel
theorem dX2_halves_35 : decode cX2_halves 35 = .ok (.iand, 1) := by decide +kernel
theorem dX2_halves_36 : decode cX2_halves 36 = .ok (.istore 6, 2) := by decide +kernel
theorem dX2_halves_38 : decode cX2_halves 38 = .ok (.aload_n 0, 1) := by decide +kernel
theorem dX2_halves_39 : decode cX2_halves 39 = .ok (.iload 5, 2) := by decide +kernel
theorem dX2_halves_41 : decode cX2_halves 41 = .ok (.iload_n 2, 1) := by decide +kernel
theorem dX2_halves_42 : decode cX2_halves 42 = .ok (.invokevirtual 29, 3) := by decide +kernel
theorem dX2_halves_45 : decode cX2_halves 45 = .ok (.ifCond .eq 9, 3) := by decide +kernel
theorem dX2_halves_48 : decode cX2_halves 48 = .ok (.iload 5, 2) := by decide +kernel
theorem dX2_halves_50 : decode cX2_halves 50 = .ok (.istore_n 3, 1) := by decide +kernel
theorem dX2_halves_51 : decode cX2_halves 51 = .ok (.goto 16, 3) := by decide +kernel
theorem dX2_halves_54 : decode cX2_halves 54 = .ok (.aload_n 0, 1) := by decide +kernel
theorem dX2_halves_55 : decode cX2_halves 55 = .ok (.iload 6, 2) := by decide +kernel
theorem dX2_halves_57 : decode cX2_halves 57 = .ok (.iload_n 2, 1) := by decide +kernel
theorem dX2_halves_58 : decode cX2_halves 58 = .ok (.invokevirtual 29, 3) := by decide +kernel
theorem dX2_halves_61 : decode cX2_halves 61 = .ok (.ifCond .eq 12, 3) := by decide +kernel
theorem dX2_halves_64 : decode cX2_halves 64 = .ok (.iload 6, 2) := by decide +kernel
theorem dX2_halves_66 : decode cX2_halves 66 = .ok (.istore_n 3, 1) := by decide +kernel
theorem dX2_halves_67 : decode cX2_halves 67 = .ok (.iinc 4 1, 3) := by decide +kernel
theorem dX2_halves_70 : decode cX2_halves 70 = .ok (.goto (-65), 3) := by decide +kernel
theorem dX2_halves_73 : decode cX2_halves 73 = .ok (.iload_n 3, 1) := by decide +kernel
theorem dX2_halves_74 : decode cX2_halves 74 = .ok (.ireturn, 1) := by decide +kernel
theorem dX2_firstHalf_0 : decode cX2_firstHalf 0 = .ok (.iconst 0, 1) := by decide +kernel
theorem dX2_firstHalf_1 : decode cX2_firstHalf 1 = .ok (.istore_n 2, 1) := by decide +kernel
theorem dX2_firstHalf_2 : decode cX2_firstHalf 2 = .ok (.iload_n 1, 1) := by decide +kernel
theorem dX2_firstHalf_3 : decode cX2_firstHalf 3 = .ok (.invokestatic 32, 3) := by decide +kernel
theorem dX2_firstHalf_6 : decode cX2_firstHalf 6 = .ok (.iconst 2, 1) := by decide +kernel
theorem dX2_firstHalf_7 : decode cX2_firstHalf 7 = .ok (.idiv, 1) := by decide +kernel
theorem dX2_firstHalf_8 : decode cX2_firstHalf 8 = .ok (.istore_n 3, 1) := by decide +kernel
theorem dX2_firstHalf_9 : decode cX2_firstHalf 9 = .ok (.iconst 0, 1) := by decide +kernel
theorem dX2_firstHalf_10 : decode cX2_firstHalf 10 = .ok (.istore 4, 2) := by decide +kernel
theorem dX2_firstHalf_12 : decode cX2_firstHalf 12 = .ok (.iload 4, 2) := by decide +kernel
theorem dX2_firstHalf_14 : decode cX2_firstHalf 14 = .ok (.aload_n 0, 1) := by decide +kernel
theorem dX2_firstHalf_15 : decode cX2_firstHalf 15 = .ok (.getfield 15, 3) := by decide +kernel
theorem dX2_firstHalf_18 : decode cX2_firstHalf 18 = .ok (.if_icmp .ge 40, 3) := by decide +kernel
theorem dX2_firstHalf_21 : decode cX2_firstHalf 21 = .ok (.iload_n 3, 1) := by decide +kernel
theorem dX2_firstHalf_22 : decode cX2_firstHalf 22 = .ok (.ifCond .le 36, 3) := by decide +kernel
theorem dX2_firstHalf_25 : decode cX2_firstHalf 25 = .ok (.aload_n 0, 1) := by decide +kernel
theorem dX2_firstHalf_26 : decode cX2_firstHalf 26 = .ok (.iload 4, 2) := by decide +kernel
theorem dX2_firstHalf_28 : decode cX2_firstHalf 28 = .ok (.invokevirtual 21, 3) := by decide +kernel
theorem dX2_firstHalf_31 : decode cX2_firstHalf 31 = .ok (.istore 5, 2) := by decide +kernel
theorem dX2_firstHalf_33 : decode cX2_firstHalf 33 = .ok (.iload 5, 2) := by decide +kernel
theorem dX2_firstHalf_35 : decode cX2_firstHalf 35 = .ok (.iload_n 1, 1) := by decide +kernel
theorem dX2_firstHalf_36 : decode cX2_firstHalf 36 = .ok (.invokestatic 25, 3) := by decide +kernel
theorem dX2_firstHalf_39 : decode cX2_firstHalf 39 = .ok (.ifCond .eq 13, 3) := by decide +kernel
theorem dX2_firstHalf_42 : decode cX2_firstHalf 42 = .ok (.iload_n 2, 1) := by decide +kernel
theorem dX2_firstHalf_43 : decode cX2_firstHalf 43 = .ok (.iconst 1, 1) := by decide +kernel
theorem dX2_firstHalf_44 : decode cX2_firstHalf 44 = .ok (.iload 5, 2) := by decide +kernel
theorem dX2_firstHalf_46 : decode cX2_firstHalf 46 = .ok (.ishl, 1) := by decide +kernel
theorem dX2_firstHalf_47 : decode cX2_firstHalf 47 = .ok (.ior, 1) := by decide +kernel
theorem dX2_firstHalf_48 : decode cX2_firstHalf 48 = .ok (.istore_n 2, 1) := by decide +kernel
theorem dX2_firstHalf_49 : decode cX2_firstHalf 49 = .ok (.iinc 3 (-1), 3) := by decide +kernel
theorem dX2_firstHalf_52 : decode cX2_firstHalf 52 = .ok (.iinc 4 1, 3) := by decide +kernel
theorem dX2_firstHalf_55 : decode cX2_firstHalf 55 = .ok (.goto (-43), 3) := by decide +kernel
theorem dX2_firstHalf_58 : decode cX2_firstHalf 58 = .ok (.iload_n 2, 1) := by decide +kernel
theorem dX2_firstHalf_59 : decode cX2_firstHalf 59 = .ok (.ireturn, 1) := by decide +kernel
theorem dX3_init_0 : decode cX3_init 0 = .ok (.aload_n 0, 1) := by decide +kernel
theorem dX3_init_1 : decode cX3_init 1 = .ok (.invokespecial 3, 3) := by decide +kernel
theorem dX3_init_4 : decode cX3_init 4 = .ok (.aload_n 0, 1) := by decide +kernel
theorem dX3_init_5 : decode cX3_init 5 = .ok (.bipush 8, 2) := by decide +kernel
theorem dX3_init_7 : decode cX3_init 7 = .ok (.newarray .int, 2) := by decide +kernel
theorem dX3_init_9 : decode cX3_init 9 = .ok (.putfield 9, 3) := by decide +kernel
theorem dX3_init_12 : decode cX3_init 12 = .ok (.return_, 1) := by decide +kernel
theorem dX3_nth_0 : decode cX3_nth 0 = .ok (.iload_n 1, 1) := by decide +kernel
theorem dX3_nth_1 : decode cX3_nth 1 = .ok (.ifCond .lt 29, 3) := by decide +kernel
theorem dX3_nth_4 : decode cX3_nth 4 = .ok (.iload_n 1, 1) := by decide +kernel
theorem dX3_nth_5 : decode cX3_nth 5 = .ok (.aload_n 0, 1) := by decide +kernel
theorem dX3_nth_6 : decode cX3_nth 6 = .ok (.getfield 15, 3) := by decide +kernel
theorem dX3_nth_9 : decode cX3_nth 9 = .ok (.if_icmp .ge 21, 3) := by decide +kernel
theorem dX3_nth_12 : decode cX3_nth 12 = .ok (.iload_n 1, 1) := by decide +kernel
theorem dX3_nth_13 : decode cX3_nth 13 = .ok (.aload_n 0, 1) := by decide +kernel
theorem dX3_nth_14 : decode cX3_nth 14 = .ok (.getfield 9, 3) := by decide +kernel
theorem dX3_nth_17 : decode cX3_nth 17 = .ok (.arraylength, 1) := by decide +kernel
theorem dX3_nth_18 : decode cX3_nth 18 = .ok (.if_icmp .ge 12, 3) := by decide +kernel
theorem dX3_nth_21 : decode cX3_nth 21 = .ok (.aload_n 0, 1) := by decide +kernel
theorem dX3_nth_22 : decode cX3_nth 22 = .ok (.getfield 9, 3) := by decide +kernel
theorem dX3_nth_25 : decode cX3_nth 25 = .ok (.iload_n 1, 1) := by decide +kernel
theorem dX3_nth_26 : decode cX3_nth 26 = .ok (.iaload, 1) := by decide +kernel
theorem dX3_nth_27 : decode cX3_nth 27 = .ok (.goto 4, 3) := by decide +kernel
theorem dX3_nth_30 : decode cX3_nth 30 = .ok (.iconst (-1), 1) := by decide +kernel
theorem dX3_nth_31 : decode cX3_nth 31 = .ok (.ireturn, 1) := by decide +kernel
theorem dX3_placeOf_0 : decode cX3_placeOf 0 = .ok (.iconst 0, 1) := by decide +kernel
theorem dX3_placeOf_1 : decode cX3_placeOf 1 = .ok (.istore_n 2, 1) := by decide +kernel
theorem dX3_placeOf_2 : decode cX3_placeOf 2 = .ok (.iload_n 2, 1) := by decide +kernel
theorem dX3_placeOf_3 : decode cX3_placeOf 3 = .ok (.aload_n 0, 1) := by decide +kernel
theorem dX3_placeOf_4 : decode cX3_placeOf 4 = .ok (.getfield 15, 3) := by decide +kernel
theorem dX3_placeOf_7 : decode cX3_placeOf 7 = .ok (.if_icmp .ge 20, 3) := by decide +kernel
theorem dX3_placeOf_10 : decode cX3_placeOf 10 = .ok (.aload_n 0, 1) := by decide +kernel
theorem dX3_placeOf_11 : decode cX3_placeOf 11 = .ok (.iload_n 2, 1) := by decide +kernel
theorem dX3_placeOf_12 : decode cX3_placeOf 12 = .ok (.invokevirtual 19, 3) := by decide +kernel
theorem dX3_placeOf_15 : decode cX3_placeOf 15 = .ok (.iload_n 1, 1) := by decide +kernel
theorem dX3_placeOf_16 : decode cX3_placeOf 16 = .ok (.if_icmp .ne 5, 3) := by decide +kernel
theorem dX3_placeOf_19 : decode cX3_placeOf 19 = .ok (.iload_n 2, 1) := by decide +kernel
theorem dX3_placeOf_20 : decode cX3_placeOf 20 = .ok (.ireturn, 1) := by decide +kernel
theorem dX3_placeOf_21 : decode cX3_placeOf 21 = .ok (.iinc 2 1, 3) := by decide +kernel
theorem dX3_placeOf_24 : decode cX3_placeOf 24 = .ok (.goto (-22), 3) := by decide +kernel
theorem dX3_placeOf_27 : decode cX3_placeOf 27 = .ok (.iconst (-1), 1) := by decide +kernel
theorem dX3_placeOf_28 : decode cX3_placeOf 28 = .ok (.ireturn, 1) := by decide +kernel
theorem dX3_setAhead_0 : decode cX3_setAhead 0 = .ok (.iconst 0, 1) := by decide +kernel
theorem dX3_setAhead_1 : decode cX3_setAhead 1 = .ok (.istore_n 2, 1) := by decide +kernel
theorem dX3_setAhead_2 : decode cX3_setAhead 2 = .ok (.iconst 0, 1) := by decide +kernel
theorem dX3_setAhead_3 : decode cX3_setAhead 3 = .ok (.istore_n 3, 1) := by decide +kernel
theorem dX3_setAhead_4 : decode cX3_setAhead 4 = .ok (.iload_n 3, 1) := by decide +kernel
theorem dX3_setAhead_5 : decode cX3_setAhead 5 = .ok (.iload_n 1, 1) := by decide +kernel
theorem dX3_setAhead_6 : decode cX3_setAhead 6 = .ok (.if_icmp .ge 27, 3) := by decide +kernel
theorem dX3_setAhead_9 : decode cX3_setAhead 9 = .ok (.iload_n 3, 1) := by decide +kernel
theorem dX3_setAhead_10 : decode cX3_setAhead 10 = .ok (.aload_n 0, 1) := by decide +kernel
theorem dX3_setAhead_11 : decode cX3_setAhead 11 = .ok (.getfield 15, 3) := by decide +kernel
theorem dX3_setAhead_14 : decode cX3_setAhead 14 = .ok (.if_icmp .ge 19, 3) := by decide +kernel
theorem dX3_setAhead_17 : decode cX3_setAhead 17 = .ok (.iload_n 2, 1) := by decide +kernel
theorem dX3_setAhead_18 : decode cX3_setAhead 18 = .ok (.iconst 1, 1) := by decide +kernel
theorem dX3_setAhead_19 : decode cX3_setAhead 19 = .ok (.aload_n 0, 1) := by decide +kernel
theorem dX3_setAhead_20 : decode cX3_setAhead 20 = .ok (.iload_n 3, 1) := by decide +kernel
theorem dX3_setAhead_21 : decode cX3_setAhead 21 = .ok (.invokevirtual 19, 3) := by decide +kernel
theorem dX3_setAhead_24 : decode cX3_setAhead 24 = .ok (.ishl, 1) := by decide +kernel
theorem dX3_setAhead_25 : decode cX3_setAhead 25 = .ok (.ior, 1) := by decide +kernel
theorem dX3_setAhead_26 : decode cX3_setAhead 26 = .ok (.istore_n 2, 1) := by decide +kernel
theorem dX3_setAhead_27 : decode cX3_setAhead 27 = .ok (.iinc 3 1, 3) := by decide +kernel
theorem dX3_setAhead_30 : decode cX3_setAhead 30 = .ok (.goto (-26), 3) := by decide +kernel
theorem dX3_setAhead_33 : decode cX3_setAhead 33 = .ok (.iload_n 2, 1) := by decide +kernel
theorem dX3_setAhead_34 : decode cX3_setAhead 34 = .ok (.ireturn, 1) := by decide +kernel
theorem dX3_append_0 : decode cX3_append 0 = .ok (.aload_n 0, 1) := by decide +kernel
theorem dX3_append_1 : decode cX3_append 1 = .ok (.getfield 15, 3) := by decide +kernel
theorem dX3_append_4 : decode cX3_append 4 = .ok (.ifCond .lt 35, 3) := by decide +kernel
theorem dX3_append_7 : decode cX3_append 7 = .ok (.aload_n 0, 1) := by decide +kernel
theorem dX3_append_8 : decode cX3_append 8 = .ok (.getfield 15, 3) := by decide +kernel
theorem dX3_append_11 : decode cX3_append 11 = .ok (.aload_n 0, 1) := by decide +kernel
theorem dX3_append_12 : decode cX3_append 12 = .ok (.getfield 9, 3) := by decide +kernel
theorem dX3_append_15 : decode cX3_append 15 = .ok (.arraylength, 1) := by decide +kernel
theorem dX3_append_16 : decode cX3_append 16 = .ok (.if_icmp .ge 23, 3) := by decide +kernel
theorem dX3_append_19 : decode cX3_append 19 = .ok (.aload_n 0, 1) := by decide +kernel
theorem dX3_append_20 : decode cX3_append 20 = .ok (.getfield 9, 3) := by decide +kernel
theorem dX3_append_23 : decode cX3_append 23 = .ok (.aload_n 0, 1) := by decide +kernel
theorem dX3_append_24 : decode cX3_append 24 = .ok (.getfield 15, 3) := by decide +kernel
theorem dX3_append_27 : decode cX3_append 27 = .ok (.iload_n 1, 1) := by decide +kernel
theorem dX3_append_28 : decode cX3_append 28 = .ok (.iastore, 1) := by decide +kernel
theorem dX3_append_29 : decode cX3_append 29 = .ok (.aload_n 0, 1) := by decide +kernel
theorem dX3_append_30 : decode cX3_append 30 = .ok (.dup, 1) := by decide +kernel
theorem dX3_append_31 : decode cX3_append 31 = .ok (.getfield 15, 3) := by decide +kernel
theorem dX3_append_34 : decode cX3_append 34 = .ok (.iconst 1, 1) := by decide +kernel
theorem dX3_append_35 : decode cX3_append 35 = .ok (.iadd, 1) := by decide +kernel
theorem dX3_append_36 : decode cX3_append 36 = .ok (.putfield 15, 3) := by decide +kernel
theorem dX3_append_39 : decode cX3_append 39 = .ok (.return_, 1) := by decide +kernel
theorem dX3_makeEmpty_0 : decode cX3_makeEmpty 0 = .ok (.aload_n 0, 1) := by decide +kernel
theorem dX3_makeEmpty_1 : decode cX3_makeEmpty 1 = .ok (.iconst 0, 1) := by decide +kernel
theorem dX3_makeEmpty_2 : decode cX3_makeEmpty 2 = .ok (.putfield 15, 3) := by decide +kernel
theorem dX3_makeEmpty_5 : decode cX3_makeEmpty 5 = .ok (.return_, 1) := by decide +kernel
theorem dX3_takeOut_0 : decode cX3_takeOut 0 = .ok (.aload_n 0, 1) := by decide +kernel
theorem dX3_takeOut_1 : decode cX3_takeOut 1 = .ok (.getfield 15, 3) := by decide +kernel
theorem dX3_takeOut_4 : decode cX3_takeOut 4 = .ok (.istore_n 2, 1) := by decide +kernel
theorem dX3_takeOut_5 : decode cX3_takeOut 5 = .ok (.aload_n 0, 1) := by decide +kernel
theorem dX3_takeOut_6 : decode cX3_takeOut 6 = .ok (.iconst 0, 1) := by decide +kernel
theorem dX3_takeOut_7 : decode cX3_takeOut 7 = .ok (.putfield 15, 3) := by decide +kernel
theorem dX3_takeOut_10 : decode cX3_takeOut 10 = .ok (.iconst 0, 1) := by decide +kernel
theorem dX3_takeOut_11 : decode cX3_takeOut 11 = .ok (.istore_n 3, 1) := by decide +kernel
theorem dX3_takeOut_12 : decode cX3_takeOut 12 = .ok (.iload_n 3, 1) := by decide +kernel
theorem dX3_takeOut_13 : decode cX3_takeOut 13 = .ok (.iload_n 2, 1) := by decide +kernel
theorem dX3_takeOut_14 : decode cX3_takeOut 14 = .ok (.if_icmp .ge 41, 3) := by decide +kernel
theorem dX3_takeOut_17 : decode cX3_takeOut 17 = .ok (.iload_n 3, 1) := by decide +kernel
theorem dX3_takeOut_18 : decode cX3_takeOut 18 = .ok (.aload_n 0, 1) := by decide +kernel
theorem dX3_takeOut_19 : decode cX3_takeOut 19 = .ok (.getfield 9, 3) := by decide +kernel
theorem dX3_takeOut_22 : decode cX3_takeOut 22 = .ok (.arraylength, 1) := by decide +kernel
theorem dX3_takeOut_23 : decode cX3_takeOut 23 = .ok (.if_icmp .ge 32, 3) := by decide +kernel
theorem dX3_takeOut_26 : decode cX3_takeOut 26 = .ok (.aload_n 0, 1) := by decide +kernel
theorem dX3_takeOut_27 : decode cX3_takeOut 27 = .ok (.getfield 9, 3) := by decide +kernel
theorem dX3_takeOut_30 : decode cX3_takeOut 30 = .ok (.iload_n 3, 1) := by decide +kernel
theorem dX3_takeOut_31 : decode cX3_takeOut 31 = .ok (.iaload, 1) := by decide +kernel
theorem dX3_takeOut_32 : decode cX3_takeOut 32 = .ok (.istore 4, 2) := by decide +kernel
theorem dX3_takeOut_34 : decode cX3_takeOut 34 = .ok (.iload 4, 2) := by decide +kernel
theorem dX3_takeOut_36 : decode cX3_takeOut 36 = .ok (.iload_n 1, 1) := by decide +kernel
theorem dX3_takeOut_37 : decode cX3_takeOut 37 = .ok (.invokestatic 23, 3) := by decide +kernel
theorem dX3_takeOut_40 : decode cX3_takeOut 40 = .ok (.ifCond .ne 9, 3) := by decide +kernel
theorem dX3_takeOut_43 : decode cX3_takeOut 43 = .ok (.aload_n 0, 1) := by decide +kernel
theorem dX3_takeOut_44 : decode cX3_takeOut 44 = .ok (.iload 4, 2) := by decide +kernel
theorem dX3_takeOut_46 : decode cX3_takeOut 46 = .ok (.invokevirtual 27, 3) := by decide +kernel
theorem dX3_takeOut_49 : decode cX3_takeOut 49 = .ok (.iinc 3 1, 3) := by decide +kernel
theorem dX3_takeOut_52 : decode cX3_takeOut 52 = .ok (.goto (-40), 3) := by decide +kernel
theorem dX3_takeOut_55 : decode cX3_takeOut 55 = .ok (.return_, 1) := by decide +kernel
theorem dX3_layShuffled_0 : decode cX3_layShuffled 0 = .ok (.aload_n 0, 1) := by decide +kernel
theorem dX3_layShuffled_1 : decode cX3_layShuffled 1 = .ok (.invokevirtual 31, 3) := by decide +kernel
theorem dX3_layShuffled_4 : decode cX3_layShuffled 4 = .ok (.iconst 0, 1) := by decide +kernel
theorem dX3_layShuffled_5 : decode cX3_layShuffled 5 = .ok (.istore_n 3, 1) := by decide +kernel
theorem dX3_layShuffled_6 : decode cX3_layShuffled 6 = .ok (.iload_n 3, 1) := by decide +kernel
theorem dX3_layShuffled_7 : decode cX3_layShuffled 7 = .ok (.iload_n 1, 1) := by decide +kernel
theorem dX3_layShuffled_8 : decode cX3_layShuffled 8 = .ok (.if_icmp .ge 14, 3) := by decide +kernel
theorem dX3_layShuffled_11 : decode cX3_layShuffled 11 = .ok (.aload_n 0, 1) := by decide +kernel
theorem dX3_layShuffled_12 : decode cX3_layShuffled 12 = .ok (.iload_n 3, 1) := by decide +kernel
theorem dX3_layShuffled_13 : decode cX3_layShuffled 13 = .ok (.invokevirtual 27, 3) := by decide +kernel
theorem dX3_layShuffled_16 : decode cX3_layShuffled 16 = .ok (.iinc 3 1, 3) := by decide +kernel
theorem dX3_layShuffled_19 : decode cX3_layShuffled 19 = .ok (.goto (-13), 3) := by decide +kernel
theorem dX3_layShuffled_22 : decode cX3_layShuffled 22 = .ok (.iload_n 2, 1) := by decide +kernel
theorem dX3_layShuffled_23 : decode cX3_layShuffled 23 = .ok (.i2l, 1) := by decide +kernel
theorem dX3_layShuffled_24 : decode cX3_layShuffled 24 = .ok (.lstore_n 3, 1) := by decide +kernel
theorem dX3_layShuffled_25 : decode cX3_layShuffled 25 = .ok (.aload_n 0, 1) := by decide +kernel
theorem dX3_layShuffled_26 : decode cX3_layShuffled 26 = .ok (.getfield 15, 3) := by decide +kernel
theorem dX3_layShuffled_29 : decode cX3_layShuffled 29 = .ok (.iconst 1, 1) := by decide +kernel
theorem dX3_layShuffled_30 : decode cX3_layShuffled 30 = .ok (.isub, 1) := by decide +kernel
theorem dX3_layShuffled_31 : decode cX3_layShuffled 31 = .ok (.istore 5, 2) := by decide +kernel
theorem dX3_layShuffled_33 : decode cX3_layShuffled 33 = .ok (.iload 5, 2) := by decide +kernel
theorem dX3_layShuffled_35 : decode cX3_layShuffled 35 = .ok (.iconst 1, 1) := by decide +kernel
theorem dX3_layShuffled_36 : decode cX3_layShuffled 36 = .ok (.if_icmp .lt 41, 3) := by decide +kernel
theorem dX3_layShuffled_39 : decode cX3_layShuffled 39 = .ok (.lload_n 3, 1) := by decide +kernel
theorem dX3_layShuffled_40 : decode cX3_layShuffled 40 = .ok (.ldc2_w 34, 3) := by decide +kernel
theorem dX3_layShuffled_43 : decode cX3_layShuffled 43 = .ok (.lmul, 1) := by decide +kernel
theorem dX3_layShuffled_44 : decode cX3_layShuffled 44 = .ok (.ldc2_w 36, 3) := by decide +kernel
theorem dX3_layShuffled_47 : decode cX3_layShuffled 47 = .ok (.ladd, 1) := by decide +kernel
theorem dX3_layShuffled_48 : decode cX3_layShuffled 48 = .ok (.ldc2_w 38, 3) := by decide +kernel
theorem dX3_layShuffled_51 : decode cX3_layShuffled 51 = .ok (.lrem, 1) := by decide +kernel
theorem dX3_layShuffled_52 : decode cX3_layShuffled 52 = .ok (.lstore_n 3, 1) := by decide +kernel
theorem dX3_layShuffled_53 : decode cX3_layShuffled 53 = .ok (.aload_n 0, 1) := by decide +kernel
theorem dX3_layShuffled_54 : decode cX3_layShuffled 54 = .ok (.iload 5, 2) := by decide +kernel
theorem dX3_layShuffled_56 : decode cX3_layShuffled 56 = .ok (.lload_n 3, 1) := by decide +kernel
theorem dX3_layShuffled_57 : decode cX3_layShuffled 57 = .ok (.ldc2_w 40, 3) := by decide +kernel
theorem dX3_layShuffled_60 : decode cX3_layShuffled 60 = .ok (.ldiv, 1) := by decide +kernel
theorem dX3_layShuffled_61 : decode cX3_layShuffled 61 = .ok (.iload 5, 2) := by decide +kernel
theorem dX3_layShuffled_63 : decode cX3_layShuffled 63 = .ok (.iconst 1, 1) := by decide +kernel
theorem dX3_layShuffled_64 : decode cX3_layShuffled 64 = .ok (.iadd, 1) := by decide +kernel
theorem dX3_layShuffled_65 : decode cX3_layShuffled 65 = .ok (.i2l, 1) := by decide +kernel
theorem dX3_layShuffled_66 : decode cX3_layShuffled 66 = .ok (.lrem, 1) := by decide +kernel
theorem dX3_layShuffled_67 : decode cX3_layShuffled 67 = .ok (.l2i, 1) := by decide +kernel
theorem dX3_layShuffled_68 : decode cX3_layShuffled 68 = .ok (.invokevirtual 42, 3) := by decide +kernel
theorem dX3_layShuffled_71 : decode cX3_layShuffled 71 = .ok (.iinc 5 (-1), 3) := by decide +kernel
theorem dX3_layShuffled_74 : decode cX3_layShuffled 74 = .ok (.goto (-41), 3) := by decide +kernel
theorem dX3_layShuffled_77 : decode cX3_layShuffled 77 = .ok (.return_, 1) := by decide +kernel
theorem dX3_swap_0 : decode cX3_swap 0 = .ok (.iload_n 1, 1) := by decide +kernel
theorem dX3_swap_1 : decode cX3_swap 1 = .ok (.ifCond .lt 51, 3) := by decide +kernel
theorem dX3_swap_4 : decode cX3_swap 4 = .ok (.iload_n 1, 1) := by decide +kernel
theorem dX3_swap_5 : decode cX3_swap 5 = .ok (.aload_n 0, 1) := by decide +kernel
theorem dX3_swap_6 : decode cX3_swap 6 = .ok (.getfield 9, 3) := by decide +kernel
theorem dX3_swap_9 : decode cX3_swap 9 = .ok (.arraylength, 1) := by decide +kernel
theorem dX3_swap_10 : decode cX3_swap 10 = .ok (.if_icmp .ge 42, 3) := by decide +kernel
theorem dX3_swap_13 : decode cX3_swap 13 = .ok (.iload_n 2, 1) := by decide +kernel
theorem dX3_swap_14 : decode cX3_swap 14 = .ok (.ifCond .lt 38, 3) := by decide +kernel
theorem dX3_swap_17 : decode cX3_swap 17 = .ok (.iload_n 2, 1) := by decide +kernel
theorem dX3_swap_18 : decode cX3_swap 18 = .ok (.aload_n 0, 1) := by decide +kernel
theorem dX3_swap_19 : decode cX3_swap 19 = .ok (.getfield 9, 3) := by decide +kernel
theorem dX3_swap_22 : decode cX3_swap 22 = .ok (.arraylength, 1) := by decide +kernel
theorem dX3_swap_23 : decode cX3_swap 23 = .ok (.if_icmp .ge 29, 3) := by decide +kernel
theorem dX3_swap_26 : decode cX3_swap 26 = .ok (.aload_n 0, 1) := by decide +kernel
theorem dX3_swap_27 : decode cX3_swap 27 = .ok (.getfield 9, 3) := by decide +kernel
theorem dX3_swap_30 : decode cX3_swap 30 = .ok (.iload_n 1, 1) := by decide +kernel
theorem dX3_swap_31 : decode cX3_swap 31 = .ok (.iaload, 1) := by decide +kernel
theorem dX3_swap_32 : decode cX3_swap 32 = .ok (.istore_n 3, 1) := by decide +kernel
theorem dX3_swap_33 : decode cX3_swap 33 = .ok (.aload_n 0, 1) := by decide +kernel
theorem dX3_swap_34 : decode cX3_swap 34 = .ok (.getfield 9, 3) := by decide +kernel
theorem dX3_swap_37 : decode cX3_swap 37 = .ok (.iload_n 1, 1) := by decide +kernel
theorem dX3_swap_38 : decode cX3_swap 38 = .ok (.aload_n 0, 1) := by decide +kernel
theorem dX3_swap_39 : decode cX3_swap 39 = .ok (.getfield 9, 3) := by decide +kernel
theorem dX3_swap_42 : decode cX3_swap 42 = .ok (.iload_n 2, 1) := by decide +kernel
theorem dX3_swap_43 : decode cX3_swap 43 = .ok (.iaload, 1) := by decide +kernel
theorem dX3_swap_44 : decode cX3_swap 44 = .ok (.iastore, 1) := by decide +kernel
theorem dX3_swap_45 : decode cX3_swap 45 = .ok (.aload_n 0, 1) := by decide +kernel
theorem dX3_swap_46 : decode cX3_swap 46 = .ok (.getfield 9, 3) := by decide +kernel
theorem dX3_swap_49 : decode cX3_swap 49 = .ok (.iload_n 2, 1) := by decide +kernel
theorem dX3_swap_50 : decode cX3_swap 50 = .ok (.iload_n 3, 1) := by decide +kernel
theorem dX3_swap_51 : decode cX3_swap 51 = .ok (.iastore, 1) := by decide +kernel
theorem dX3_swap_52 : decode cX3_swap 52 = .ok (.return_, 1) := by decide +kernel
theorem dX3_copyFrom_0 : decode cX3_copyFrom 0 = .ok (.aload_n 1, 1) := by decide +kernel
theorem dX3_copyFrom_1 : decode cX3_copyFrom 1 = .ok (.getfield 9, 3) := by decide +kernel
theorem dX3_copyFrom_4 : decode cX3_copyFrom 4 = .ok (.iconst 0, 1) := by decide +kernel
theorem dX3_copyFrom_5 : decode cX3_copyFrom 5 = .ok (.aload_n 0, 1) := by decide +kernel
theorem dX3_copyFrom_6 : decode cX3_copyFrom 6 = .ok (.getfield 9, 3) := by decide +kernel
theorem dX3_copyFrom_9 : decode cX3_copyFrom 9 = .ok (.iconst 0, 1) := by decide +kernel
theorem dX3_copyFrom_10 : decode cX3_copyFrom 10 = .ok (.bipush 8, 2) := by decide +kernel
theorem dX3_copyFrom_12 : decode cX3_copyFrom 12 = .ok (.invokestatic 46, 3) := by decide +kernel
theorem dX3_copyFrom_15 : decode cX3_copyFrom 15 = .ok (.aload_n 0, 1) := by decide +kernel
theorem dX3_copyFrom_16 : decode cX3_copyFrom 16 = .ok (.aload_n 1, 1) := by decide +kernel
theorem dX3_copyFrom_17 : decode cX3_copyFrom 17 = .ok (.getfield 15, 3) := by decide +kernel
theorem dX3_copyFrom_20 : decode cX3_copyFrom 20 = .ok (.putfield 15, 3) := by decide +kernel
theorem dX3_copyFrom_23 : decode cX3_copyFrom 23 = .ok (.return_, 1) := by decide +kernel
theorem dX4_init_0 : decode cX4_init 0 = .ok (.aload_n 0, 1) := by decide +kernel
theorem dX4_init_1 : decode cX4_init 1 = .ok (.invokespecial 3, 3) := by decide +kernel
theorem dX4_init_4 : decode cX4_init 4 = .ok (.aload_n 0, 1) := by decide +kernel
theorem dX4_init_5 : decode cX4_init 5 = .ok (.bipush 40, 2) := by decide +kernel
theorem dX4_init_7 : decode cX4_init 7 = .ok (.newarray .int, 2) := by decide +kernel
theorem dX4_init_9 : decode cX4_init 9 = .ok (.putfield 9, 3) := by decide +kernel
theorem dX4_init_12 : decode cX4_init 12 = .ok (.aload_n 0, 1) := by decide +kernel
theorem dX4_init_13 : decode cX4_init 13 = .ok (.new 15, 3) := by decide +kernel
theorem dX4_init_16 : decode cX4_init 16 = .ok (.dup, 1) := by decide +kernel
theorem dX4_init_17 : decode cX4_init 17 = .ok (.invokespecial 17, 3) := by decide +kernel
theorem dX4_init_20 : decode cX4_init 20 = .ok (.putfield 18, 3) := by decide +kernel
theorem dX4_init_23 : decode cX4_init 23 = .ok (.return_, 1) := by decide +kernel
theorem dX4_addTest_0 : decode cX4_addTest 0 = .ok (.iload_n 1, 1) := by decide +kernel
theorem dX4_addTest_1 : decode cX4_addTest 1 = .ok (.invokestatic 22, 3) := by decide +kernel
theorem dX4_addTest_4 : decode cX4_addTest 4 = .ok (.ifCond .eq 33, 3) := by decide +kernel
theorem dX4_addTest_7 : decode cX4_addTest 7 = .ok (.iload_n 2, 1) := by decide +kernel
theorem dX4_addTest_8 : decode cX4_addTest 8 = .ok (.invokestatic 22, 3) := by decide +kernel
theorem dX4_addTest_11 : decode cX4_addTest 11 = .ok (.ifCond .eq 26, 3) := by decide +kernel
theorem dX4_addTest_14 : decode cX4_addTest 14 = .ok (.iload_n 3, 1) := by decide +kernel
theorem dX4_addTest_15 : decode cX4_addTest 15 = .ok (.invokestatic 22, 3) := by decide +kernel
theorem dX4_addTest_18 : decode cX4_addTest 18 = .ok (.ifCond .eq 19, 3) := by decide +kernel
theorem dX4_addTest_21 : decode cX4_addTest 21 = .ok (.iload 4, 2) := by decide +kernel
theorem dX4_addTest_23 : decode cX4_addTest 23 = .ok (.invokestatic 22, 3) := by decide +kernel
theorem dX4_addTest_26 : decode cX4_addTest 26 = .ok (.ifCond .eq 11, 3) := by decide +kernel
theorem dX4_addTest_29 : decode cX4_addTest 29 = .ok (.iload 5, 2) := by decide +kernel
theorem dX4_addTest_31 : decode cX4_addTest 31 = .ok (.invokestatic 22, 3) := by decide +kernel
theorem dX4_addTest_34 : decode cX4_addTest 34 = .ok (.ifCond .ne 6, 3) := by decide +kernel
theorem dX4_addTest_37 : decode cX4_addTest 37 = .ok (.bipush (-2), 2) := by decide +kernel
theorem dX4_addTest_39 : decode cX4_addTest 39 = .ok (.ireturn, 1) := by decide +kernel
theorem dX4_addTest_40 : decode cX4_addTest 40 = .ok (.iload_n 1, 1) := by decide +kernel
theorem dX4_addTest_41 : decode cX4_addTest 41 = .ok (.iload_n 2, 1) := by decide +kernel
theorem dX4_addTest_42 : decode cX4_addTest 42 = .ok (.iand, 1) := by decide +kernel
theorem dX4_addTest_43 : decode cX4_addTest 43 = .ok (.ifCond .ne 25, 3) := by decide +kernel
theorem dX4_addTest_46 : decode cX4_addTest 46 = .ok (.iload_n 3, 1) := by decide +kernel
theorem dX4_addTest_47 : decode cX4_addTest 47 = .ok (.iload 4, 2) := by decide +kernel
theorem dX4_addTest_49 : decode cX4_addTest 49 = .ok (.iand, 1) := by decide +kernel
theorem dX4_addTest_50 : decode cX4_addTest 50 = .ok (.ifCond .ne 18, 3) := by decide +kernel
theorem dX4_addTest_53 : decode cX4_addTest 53 = .ok (.iload_n 3, 1) := by decide +kernel
theorem dX4_addTest_54 : decode cX4_addTest 54 = .ok (.iload 5, 2) := by decide +kernel
theorem dX4_addTest_56 : decode cX4_addTest 56 = .ok (.iand, 1) := by decide +kernel
theorem dX4_addTest_57 : decode cX4_addTest 57 = .ok (.ifCond .ne 11, 3) := by decide +kernel
theorem dX4_addTest_60 : decode cX4_addTest 60 = .ok (.iload 4, 2) := by decide +kernel
theorem dX4_addTest_62 : decode cX4_addTest 62 = .ok (.iload 5, 2) := by decide +kernel
theorem dX4_addTest_64 : decode cX4_addTest 64 = .ok (.iand, 1) := by decide +kernel
theorem dX4_addTest_65 : decode cX4_addTest 65 = .ok (.ifCond .eq 6, 3) := by decide +kernel
theorem dX4_addTest_68 : decode cX4_addTest 68 = .ok (.bipush (-2), 2) := by decide +kernel
theorem dX4_addTest_70 : decode cX4_addTest 70 = .ok (.ireturn, 1) := by decide +kernel
theorem dX4_addTest_71 : decode cX4_addTest 71 = .ok (.aload_n 0, 1) := by decide +kernel
theorem dX4_addTest_72 : decode cX4_addTest 72 = .ok (.getfield 26, 3) := by decide +kernel
theorem dX4_addTest_75 : decode cX4_addTest 75 = .ok (.ifCond .lt 12, 3) := by decide +kernel
theorem dX4_addTest_78 : decode cX4_addTest 78 = .ok (.aload_n 0, 1) := by decide +kernel
theorem dX4_addTest_79 : decode cX4_addTest 79 = .ok (.getfield 26, 3) := by decide +kernel
theorem dX4_addTest_82 : decode cX4_addTest 82 = .ok (.bipush 8, 2) := by decide +kernel
theorem dX4_addTest_84 : decode cX4_addTest 84 = .ok (.if_icmp .lt 6, 3) := by decide +kernel
theorem dX4_addTest_87 : decode cX4_addTest 87 = .ok (.bipush (-4), 2) := by decide +kernel
theorem dX4_addTest_89 : decode cX4_addTest 89 = .ok (.ireturn, 1) := by decide +kernel
theorem dX4_addTest_90 : decode cX4_addTest 90 = .ok (.aload_n 0, 1) := by decide +kernel
theorem dX4_addTest_91 : decode cX4_addTest 91 = .ok (.getfield 26, 3) := by decide +kernel
theorem dX4_addTest_94 : decode cX4_addTest 94 = .ok (.iconst 5, 1) := by decide +kernel
theorem dX4_addTest_95 : decode cX4_addTest 95 = .ok (.imul, 1) := by decide +kernel
theorem dX4_addTest_96 : decode cX4_addTest 96 = .ok (.istore 6, 2) := by decide +kernel
theorem dX4_addTest_98 : decode cX4_addTest 98 = .ok (.aload_n 0, 1) := by decide +kernel
theorem dX4_addTest_99 : decode cX4_addTest 99 = .ok (.getfield 9, 3) := by decide +kernel
theorem dX4_addTest_102 : decode cX4_addTest 102 = .ok (.iload 6, 2) := by decide +kernel
theorem dX4_addTest_104 : decode cX4_addTest 104 = .ok (.iconst 0, 1) := by decide +kernel
theorem dX4_addTest_105 : decode cX4_addTest 105 = .ok (.iadd, 1) := by decide +kernel
theorem dX4_addTest_106 : decode cX4_addTest 106 = .ok (.iload_n 1, 1) := by decide +kernel
theorem dX4_addTest_107 : decode cX4_addTest 107 = .ok (.iastore, 1) := by decide +kernel
theorem dX4_addTest_108 : decode cX4_addTest 108 = .ok (.aload_n 0, 1) := by decide +kernel
theorem dX4_addTest_109 : decode cX4_addTest 109 = .ok (.getfield 9, 3) := by decide +kernel
theorem dX4_addTest_112 : decode cX4_addTest 112 = .ok (.iload 6, 2) := by decide +kernel
theorem dX4_addTest_114 : decode cX4_addTest 114 = .ok (.iconst 1, 1) := by decide +kernel
theorem dX4_addTest_115 : decode cX4_addTest 115 = .ok (.iadd, 1) := by decide +kernel
theorem dX4_addTest_116 : decode cX4_addTest 116 = .ok (.iload_n 2, 1) := by decide +kernel
theorem dX4_addTest_117 : decode cX4_addTest 117 = .ok (.iastore, 1) := by decide +kernel
theorem dX4_addTest_118 : decode cX4_addTest 118 = .ok (.aload_n 0, 1) := by decide +kernel
theorem dX4_addTest_119 : decode cX4_addTest 119 = .ok (.getfield 9, 3) := by decide +kernel
theorem dX4_addTest_122 : decode cX4_addTest 122 = .ok (.iload 6, 2) := by decide +kernel
theorem dX4_addTest_124 : decode cX4_addTest 124 = .ok (.iconst 2, 1) := by decide +kernel
theorem dX4_addTest_125 : decode cX4_addTest 125 = .ok (.iadd, 1) := by decide +kernel
theorem dX4_addTest_126 : decode cX4_addTest 126 = .ok (.iload_n 3, 1) := by decide +kernel
theorem dX4_addTest_127 : decode cX4_addTest 127 = .ok (.iastore, 1) := by decide +kernel
theorem dX4_addTest_128 : decode cX4_addTest 128 = .ok (.aload_n 0, 1) := by decide +kernel
theorem dX4_addTest_129 : decode cX4_addTest 129 = .ok (.getfield 9, 3) := by decide +kernel
theorem dX4_addTest_132 : decode cX4_addTest 132 = .ok (.iload 6, 2) := by decide +kernel
theorem dX4_addTest_134 : decode cX4_addTest 134 = .ok (.iconst 3, 1) := by decide +kernel
theorem dX4_addTest_135 : decode cX4_addTest 135 = .ok (.iadd, 1) := by decide +kernel
theorem dX4_addTest_136 : decode cX4_addTest 136 = .ok (.iload 4, 2) := by decide +kernel
theorem dX4_addTest_138 : decode cX4_addTest 138 = .ok (.iastore, 1) := by decide +kernel
theorem dX4_addTest_139 : decode cX4_addTest 139 = .ok (.aload_n 0, 1) := by decide +kernel
theorem dX4_addTest_140 : decode cX4_addTest 140 = .ok (.getfield 9, 3) := by decide +kernel
theorem dX4_addTest_143 : decode cX4_addTest 143 = .ok (.iload 6, 2) := by decide +kernel
theorem dX4_addTest_145 : decode cX4_addTest 145 = .ok (.iconst 4, 1) := by decide +kernel
theorem dX4_addTest_146 : decode cX4_addTest 146 = .ok (.iadd, 1) := by decide +kernel
theorem dX4_addTest_147 : decode cX4_addTest 147 = .ok (.iload 5, 2) := by decide +kernel
theorem dX4_addTest_149 : decode cX4_addTest 149 = .ok (.iastore, 1) := by decide +kernel
theorem dX4_addTest_150 : decode cX4_addTest 150 = .ok (.aload_n 0, 1) := by decide +kernel
theorem dX4_addTest_151 : decode cX4_addTest 151 = .ok (.dup, 1) := by decide +kernel
theorem dX4_addTest_152 : decode cX4_addTest 152 = .ok (.getfield 26, 3) := by decide +kernel
theorem dX4_addTest_155 : decode cX4_addTest 155 = .ok (.iconst 1, 1) := by decide +kernel
theorem dX4_addTest_156 : decode cX4_addTest 156 = .ok (.iadd, 1) := by decide +kernel
theorem dX4_addTest_157 : decode cX4_addTest 157 = .ok (.putfield 26, 3) := by decide +kernel
theorem dX4_addTest_160 : decode cX4_addTest 160 = .ok (.aload_n 0, 1) := by decide +kernel
theorem dX4_addTest_161 : decode cX4_addTest 161 = .ok (.getfield 26, 3) := by decide +kernel
theorem dX4_addTest_164 : decode cX4_addTest 164 = .ok (.iconst 1, 1) := by decide +kernel
theorem dX4_addTest_165 : decode cX4_addTest 165 = .ok (.isub, 1) := by decide +kernel
theorem dX4_addTest_166 : decode cX4_addTest 166 = .ok (.ireturn, 1) := by decide +kernel
theorem dX4_cutLast_0 : decode cX4_cutLast 0 = .ok (.aload_n 0, 1) := by decide +kernel
theorem dX4_cutLast_1 : decode cX4_cutLast 1 = .ok (.getfield 26, 3) := by decide +kernel
theorem dX4_cutLast_4 : decode cX4_cutLast 4 = .ok (.ifCond .gt 6, 3) := by decide +kernel
theorem dX4_cutLast_7 : decode cX4_cutLast 7 = .ok (.bipush (-3), 2) := by decide +kernel
theorem dX4_cutLast_9 : decode cX4_cutLast 9 = .ok (.ireturn, 1) := by decide +kernel
theorem dX4_cutLast_10 : decode cX4_cutLast 10 = .ok (.aload_n 0, 1) := by decide +kernel
theorem dX4_cutLast_11 : decode cX4_cutLast 11 = .ok (.dup, 1) := by decide +kernel
theorem dX4_cutLast_12 : decode cX4_cutLast 12 = .ok (.getfield 26, 3) := by decide +kernel
theorem dX4_cutLast_15 : decode cX4_cutLast 15 = .ok (.iconst 1, 1) := by decide +kernel
theorem dX4_cutLast_16 : decode cX4_cutLast 16 = .ok (.isub, 1) := by decide +kernel
theorem dX4_cutLast_17 : decode cX4_cutLast 17 = .ok (.putfield 26, 3) := by decide +kernel
theorem dX4_cutLast_20 : decode cX4_cutLast 20 = .ok (.aload_n 0, 1) := by decide +kernel
theorem dX4_cutLast_21 : decode cX4_cutLast 21 = .ok (.getfield 18, 3) := by decide +kernel
theorem dX4_cutLast_24 : decode cX4_cutLast 24 = .ok (.iconst 1, 1) := by decide +kernel
theorem dX4_cutLast_25 : decode cX4_cutLast 25 = .ok (.aload_n 0, 1) := by decide +kernel
theorem dX4_cutLast_26 : decode cX4_cutLast 26 = .ok (.getfield 26, 3) := by decide +kernel
theorem dX4_cutLast_29 : decode cX4_cutLast 29 = .ok (.ishl, 1) := by decide +kernel
theorem dX4_cutLast_30 : decode cX4_cutLast 30 = .ok (.invokevirtual 30, 3) := by decide +kernel
theorem dX4_cutLast_33 : decode cX4_cutLast 33 = .ok (.aload_n 0, 1) := by decide +kernel
theorem dX4_cutLast_34 : decode cX4_cutLast 34 = .ok (.getfield 26, 3) := by decide +kernel
theorem dX4_cutLast_37 : decode cX4_cutLast 37 = .ok (.ireturn, 1) := by decide +kernel
theorem dX4_layTest_0 : decode cX4_layTest 0 = .ok (.aload_n 0, 1) := by decide +kernel
theorem dX4_layTest_1 : decode cX4_layTest 1 = .ok (.iload_n 1, 1) := by decide +kernel
theorem dX4_layTest_2 : decode cX4_layTest 2 = .ok (.invokevirtual 34, 3) := by decide +kernel
theorem dX4_layTest_5 : decode cX4_layTest 5 = .ok (.ifCond .ne 6, 3) := by decide +kernel
theorem dX4_layTest_8 : decode cX4_layTest 8 = .ok (.bipush (-2), 2) := by decide +kernel
theorem dX4_layTest_10 : decode cX4_layTest 10 = .ok (.ireturn, 1) := by decide +kernel
theorem dX4_layTest_11 : decode cX4_layTest 11 = .ok (.aload_n 0, 1) := by decide +kernel
theorem dX4_layTest_12 : decode cX4_layTest 12 = .ok (.getfield 18, 3) := by decide +kernel
theorem dX4_layTest_15 : decode cX4_layTest 15 = .ok (.iload_n 1, 1) := by decide +kernel
theorem dX4_layTest_16 : decode cX4_layTest 16 = .ok (.invokevirtual 37, 3) := by decide +kernel
theorem dX4_layTest_19 : decode cX4_layTest 19 = .ok (.iconst (-1), 1) := by decide +kernel
theorem dX4_layTest_20 : decode cX4_layTest 20 = .ok (.if_icmp .eq 6, 3) := by decide +kernel
theorem dX4_layTest_23 : decode cX4_layTest 23 = .ok (.bipush (-3), 2) := by decide +kernel
theorem dX4_layTest_25 : decode cX4_layTest 25 = .ok (.ireturn, 1) := by decide +kernel
theorem dX4_layTest_26 : decode cX4_layTest 26 = .ok (.aload_n 0, 1) := by decide +kernel
theorem dX4_layTest_27 : decode cX4_layTest 27 = .ok (.getfield 18, 3) := by decide +kernel
theorem dX4_layTest_30 : decode cX4_layTest 30 = .ok (.iload_n 1, 1) := by decide +kernel
theorem dX4_layTest_31 : decode cX4_layTest 31 = .ok (.invokevirtual 41, 3) := by decide +kernel
theorem dX4_layTest_34 : decode cX4_layTest 34 = .ok (.aload_n 0, 1) := by decide +kernel
theorem dX4_layTest_35 : decode cX4_layTest 35 = .ok (.getfield 18, 3) := by decide +kernel
theorem dX4_layTest_38 : decode cX4_layTest 38 = .ok (.getfield 44, 3) := by decide +kernel
theorem dX4_layTest_41 : decode cX4_layTest 41 = .ok (.ireturn, 1) := by decide +kernel
theorem dX4_wipeRow_0 : decode cX4_wipeRow 0 = .ok (.aload_n 0, 1) := by decide +kernel
theorem dX4_wipeRow_1 : decode cX4_wipeRow 1 = .ok (.getfield 18, 3) := by decide +kernel
theorem dX4_wipeRow_4 : decode cX4_wipeRow 4 = .ok (.getfield 44, 3) := by decide +kernel
theorem dX4_wipeRow_7 : decode cX4_wipeRow 7 = .ok (.istore_n 1, 1) := by decide +kernel
theorem dX4_wipeRow_8 : decode cX4_wipeRow 8 = .ok (.aload_n 0, 1) := by decide +kernel
theorem dX4_wipeRow_9 : decode cX4_wipeRow 9 = .ok (.getfield 18, 3) := by decide +kernel
theorem dX4_wipeRow_12 : decode cX4_wipeRow 12 = .ok (.invokevirtual 45, 3) := by decide +kernel
theorem dX4_wipeRow_15 : decode cX4_wipeRow 15 = .ok (.iload_n 1, 1) := by decide +kernel
theorem dX4_wipeRow_16 : decode cX4_wipeRow 16 = .ok (.ireturn, 1) := by decide +kernel
theorem dX4_changeStart_0 : decode cX4_changeStart 0 = .ok (.iload_n 1, 1) := by decide +kernel
theorem dX4_changeStart_1 : decode cX4_changeStart 1 = .ok (.invokestatic 22, 3) := by decide +kernel
theorem dX4_changeStart_4 : decode cX4_changeStart 4 = .ok (.ifCond .ne 6, 3) := by decide +kernel
theorem dX4_changeStart_7 : decode cX4_changeStart 7 = .ok (.bipush (-2), 2) := by decide +kernel
theorem dX4_changeStart_9 : decode cX4_changeStart 9 = .ok (.ireturn, 1) := by decide +kernel
theorem dX4_changeStart_10 : decode cX4_changeStart 10 = .ok (.aload_n 0, 1) := by decide +kernel
theorem dX4_changeStart_11 : decode cX4_changeStart 11 = .ok (.getfield 48, 3) := by decide +kernel
theorem dX4_changeStart_14 : decode cX4_changeStart 14 = .ok (.istore_n 2, 1) := by decide +kernel
theorem dX4_changeStart_15 : decode cX4_changeStart 15 = .ok (.aload_n 0, 1) := by decide +kernel
theorem dX4_changeStart_16 : decode cX4_changeStart 16 = .ok (.iload_n 1, 1) := by decide +kernel
theorem dX4_changeStart_17 : decode cX4_changeStart 17 = .ok (.putfield 48, 3) := by decide +kernel
theorem dX4_changeStart_20 : decode cX4_changeStart 20 = .ok (.iload_n 2, 1) := by decide +kernel
theorem dX4_changeStart_21 : decode cX4_changeStart 21 = .ok (.ireturn, 1) := by decide +kernel
theorem dX4_changeMode_0 : decode cX4_changeMode 0 = .ok (.iload_n 1, 1) := by decide +kernel
theorem dX4_changeMode_1 : decode cX4_changeMode 1 = .ok (.ifCond .eq 11, 3) := by decide +kernel
theorem dX4_changeMode_4 : decode cX4_changeMode 4 = .ok (.iload_n 1, 1) := by decide +kernel
theorem dX4_changeMode_5 : decode cX4_changeMode 5 = .ok (.iconst 1, 1) := by decide +kernel
theorem dX4_changeMode_6 : decode cX4_changeMode 6 = .ok (.if_icmp .eq 6, 3) := by decide +kernel
end
section
theorem dX4_changeMode_9 : decode cX4_changeMode 9 = .ok (.bipush (-2), 2) := by decide +kernel
theorem dX4_changeMode_11 : decode cX4_changeMode 11 = .ok (.ireturn, 1) := by decide +kernel
theorem dX4_changeMode_12 : decode cX4_changeMode 12 = .ok (.aload_n 0, 1) := by decide +kernel
theorem dX4_changeMode_13 : decode cX4_changeMode 13 = .ok (.getfield 51, 3) := by decide +kernel
theorem dX4_changeMode_16 : decode cX4_changeMode 16 = .ok (.istore_n 2, 1) := by decide +kernel
theorem dX4_changeMode_17 : decode cX4_changeMode 17 = .ok (.aload_n 0, 1) := by decide +kernel
theorem dX4_changeMode_18 : decode cX4_changeMode 18 = .ok (.iload_n 1, 1) := by decide +kernel
theorem dX4_changeMode_19 : decode cX4_changeMode 19 = .ok (.putfield 51, 3) := by decide +kernel
theorem dX4_changeMode_22 : decode cX4_changeMode 22 = .ok (.iload_n 2, 1) := by decide +kernel
theorem dX4_changeMode_23 : decode cX4_changeMode 23 = .ok (.ireturn, 1) := by decide +kernel
theorem dX4_shuffleRow_0 : decode cX4_shuffleRow 0 = .ok (.iload_n 1, 1) := by decide +kernel
theorem dX4_shuffleRow_1 : decode cX4_shuffleRow 1 = .ok (.invokestatic 54, 3) := by decide +kernel
theorem dX4_shuffleRow_4 : decode cX4_shuffleRow 4 = .ok (.ifCond .ne 6, 3) := by decide +kernel
theorem dX4_shuffleRow_7 : decode cX4_shuffleRow 7 = .ok (.bipush (-2), 2) := by decide +kernel
theorem dX4_shuffleRow_9 : decode cX4_shuffleRow 9 = .ok (.ireturn, 1) := by decide +kernel
theorem dX4_shuffleRow_10 : decode cX4_shuffleRow 10 = .ok (.aload_n 0, 1) := by decide +kernel
theorem dX4_shuffleRow_11 : decode cX4_shuffleRow 11 = .ok (.getfield 18, 3) := by decide +kernel
theorem dX4_shuffleRow_14 : decode cX4_shuffleRow 14 = .ok (.aload_n 0, 1) := by decide +kernel
theorem dX4_shuffleRow_15 : decode cX4_shuffleRow 15 = .ok (.getfield 26, 3) := by decide +kernel
theorem dX4_shuffleRow_18 : decode cX4_shuffleRow 18 = .ok (.iload_n 1, 1) := by decide +kernel
theorem dX4_shuffleRow_19 : decode cX4_shuffleRow 19 = .ok (.invokevirtual 57, 3) := by decide +kernel
theorem dX4_shuffleRow_22 : decode cX4_shuffleRow 22 = .ok (.aload_n 0, 1) := by decide +kernel
theorem dX4_shuffleRow_23 : decode cX4_shuffleRow 23 = .ok (.getfield 18, 3) := by decide +kernel
theorem dX4_shuffleRow_26 : decode cX4_shuffleRow 26 = .ok (.getfield 44, 3) := by decide +kernel
theorem dX4_shuffleRow_29 : decode cX4_shuffleRow 29 = .ok (.ireturn, 1) := by decide +kernel
theorem dX4_trimAhead_0 : decode cX4_trimAhead 0 = .ok (.aload_n 0, 1) := by decide +kernel
theorem dX4_trimAhead_1 : decode cX4_trimAhead 1 = .ok (.iload_n 1, 1) := by decide +kernel
theorem dX4_trimAhead_2 : decode cX4_trimAhead 2 = .ok (.invokevirtual 61, 3) := by decide +kernel
theorem dX4_trimAhead_5 : decode cX4_trimAhead 5 = .ok (.istore_n 2, 1) := by decide +kernel
theorem dX4_trimAhead_6 : decode cX4_trimAhead 6 = .ok (.iload_n 2, 1) := by decide +kernel
theorem dX4_trimAhead_7 : decode cX4_trimAhead 7 = .ok (.ifCond .ge 5, 3) := by decide +kernel
theorem dX4_trimAhead_10 : decode cX4_trimAhead 10 = .ok (.iload_n 2, 1) := by decide +kernel
theorem dX4_trimAhead_11 : decode cX4_trimAhead 11 = .ok (.ireturn, 1) := by decide +kernel
theorem dX4_trimAhead_12 : decode cX4_trimAhead 12 = .ok (.iload_n 2, 1) := by decide +kernel
theorem dX4_trimAhead_13 : decode cX4_trimAhead 13 = .ok (.aload_n 0, 1) := by decide +kernel
theorem dX4_trimAhead_14 : decode cX4_trimAhead 14 = .ok (.iload_n 2, 1) := by decide +kernel
theorem dX4_trimAhead_15 : decode cX4_trimAhead 15 = .ok (.iload_n 1, 1) := by decide +kernel
theorem dX4_trimAhead_16 : decode cX4_trimAhead 16 = .ok (.invokestatic 64, 3) := by decide +kernel
theorem dX4_trimAhead_19 : decode cX4_trimAhead 19 = .ok (.iconst (-1), 1) := by decide +kernel
theorem dX4_trimAhead_20 : decode cX4_trimAhead 20 = .ok (.ixor, 1) := by decide +kernel
theorem dX4_trimAhead_21 : decode cX4_trimAhead 21 = .ok (.iand, 1) := by decide +kernel
theorem dX4_trimAhead_22 : decode cX4_trimAhead 22 = .ok (.istore_n 3, 1) := by decide +kernel
theorem dX4_trimAhead_23 : decode cX4_trimAhead 23 = .ok (.aload_n 0, 1) := by decide +kernel
theorem dX4_trimAhead_24 : decode cX4_trimAhead 24 = .ok (.getfield 18, 3) := by decide +kernel
theorem dX4_trimAhead_27 : decode cX4_trimAhead 27 = .ok (.iload_n 3, 1) := by decide +kernel
theorem dX4_trimAhead_28 : decode cX4_trimAhead 28 = .ok (.invokevirtual 30, 3) := by decide +kernel
theorem dX4_trimAhead_31 : decode cX4_trimAhead 31 = .ok (.iload_n 3, 1) := by decide +kernel
theorem dX4_trimAhead_32 : decode cX4_trimAhead 32 = .ok (.invokestatic 70, 3) := by decide +kernel
theorem dX4_trimAhead_35 : decode cX4_trimAhead 35 = .ok (.ireturn, 1) := by decide +kernel
theorem dX4_hasTest_0 : decode cX4_hasTest 0 = .ok (.iload_n 1, 1) := by decide +kernel
theorem dX4_hasTest_1 : decode cX4_hasTest 1 = .ok (.ifCond .lt 15, 3) := by decide +kernel
theorem dX4_hasTest_4 : decode cX4_hasTest 4 = .ok (.iload_n 1, 1) := by decide +kernel
theorem dX4_hasTest_5 : decode cX4_hasTest 5 = .ok (.aload_n 0, 1) := by decide +kernel
theorem dX4_hasTest_6 : decode cX4_hasTest 6 = .ok (.getfield 26, 3) := by decide +kernel
theorem dX4_hasTest_9 : decode cX4_hasTest 9 = .ok (.if_icmp .ge 7, 3) := by decide +kernel
theorem dX4_hasTest_12 : decode cX4_hasTest 12 = .ok (.iconst 1, 1) := by decide +kernel
theorem dX4_hasTest_13 : decode cX4_hasTest 13 = .ok (.goto 4, 3) := by decide +kernel
theorem dX4_hasTest_16 : decode cX4_hasTest 16 = .ok (.iconst 0, 1) := by decide +kernel
theorem dX4_hasTest_17 : decode cX4_hasTest 17 = .ok (.ireturn, 1) := by decide +kernel
theorem dX4_mask_0 : decode cX4_mask 0 = .ok (.iload_n 1, 1) := by decide +kernel
theorem dX4_mask_1 : decode cX4_mask 1 = .ok (.iconst 5, 1) := by decide +kernel
theorem dX4_mask_2 : decode cX4_mask 2 = .ok (.imul, 1) := by decide +kernel
theorem dX4_mask_3 : decode cX4_mask 3 = .ok (.iload_n 2, 1) := by decide +kernel
theorem dX4_mask_4 : decode cX4_mask 4 = .ok (.iadd, 1) := by decide +kernel
theorem dX4_mask_5 : decode cX4_mask 5 = .ok (.istore_n 3, 1) := by decide +kernel
theorem dX4_mask_6 : decode cX4_mask 6 = .ok (.iload_n 3, 1) := by decide +kernel
theorem dX4_mask_7 : decode cX4_mask 7 = .ok (.ifCond .lt 21, 3) := by decide +kernel
theorem dX4_mask_10 : decode cX4_mask 10 = .ok (.iload_n 3, 1) := by decide +kernel
theorem dX4_mask_11 : decode cX4_mask 11 = .ok (.aload_n 0, 1) := by decide +kernel
theorem dX4_mask_12 : decode cX4_mask 12 = .ok (.getfield 9, 3) := by decide +kernel
theorem dX4_mask_15 : decode cX4_mask 15 = .ok (.arraylength, 1) := by decide +kernel
theorem dX4_mask_16 : decode cX4_mask 16 = .ok (.if_icmp .ge 12, 3) := by decide +kernel
theorem dX4_mask_19 : decode cX4_mask 19 = .ok (.aload_n 0, 1) := by decide +kernel
theorem dX4_mask_20 : decode cX4_mask 20 = .ok (.getfield 9, 3) := by decide +kernel
theorem dX4_mask_23 : decode cX4_mask 23 = .ok (.iload_n 3, 1) := by decide +kernel
theorem dX4_mask_24 : decode cX4_mask 24 = .ok (.iaload, 1) := by decide +kernel
theorem dX4_mask_25 : decode cX4_mask 25 = .ok (.goto 4, 3) := by decide +kernel
theorem dX4_mask_28 : decode cX4_mask 28 = .ok (.iconst 0, 1) := by decide +kernel
theorem dX4_mask_29 : decode cX4_mask 29 = .ok (.ireturn, 1) := by decide +kernel
theorem dX4_wrongCells_0 : decode cX4_wrongCells 0 = .ok (.iload_n 1, 1) := by decide +kernel
theorem dX4_wrongCells_1 : decode cX4_wrongCells 1 = .ok (.ifCond .lt 9, 3) := by decide +kernel
theorem dX4_wrongCells_4 : decode cX4_wrongCells 4 = .ok (.iload_n 1, 1) := by decide +kernel
theorem dX4_wrongCells_5 : decode cX4_wrongCells 5 = .ok (.bipush 8, 2) := by decide +kernel
theorem dX4_wrongCells_7 : decode cX4_wrongCells 7 = .ok (.if_icmp .lt 5, 3) := by decide +kernel
theorem dX4_wrongCells_10 : decode cX4_wrongCells 10 = .ok (.iconst 0, 1) := by decide +kernel
theorem dX4_wrongCells_11 : decode cX4_wrongCells 11 = .ok (.ireturn, 1) := by decide +kernel
theorem dX4_wrongCells_12 : decode cX4_wrongCells 12 = .ok (.iload_n 1, 1) := by decide +kernel
theorem dX4_wrongCells_13 : decode cX4_wrongCells 13 = .ok (.iconst 5, 1) := by decide +kernel
theorem dX4_wrongCells_14 : decode cX4_wrongCells 14 = .ok (.imul, 1) := by decide +kernel
theorem dX4_wrongCells_15 : decode cX4_wrongCells 15 = .ok (.istore_n 3, 1) := by decide +kernel
theorem dX4_wrongCells_16 : decode cX4_wrongCells 16 = .ok (.iload_n 2, 1) := by decide +kernel
theorem dX4_wrongCells_17 : decode cX4_wrongCells 17 = .ok (.aload_n 0, 1) := by decide +kernel
theorem dX4_wrongCells_18 : decode cX4_wrongCells 18 = .ok (.getfield 9, 3) := by decide +kernel
theorem dX4_wrongCells_21 : decode cX4_wrongCells 21 = .ok (.iload_n 3, 1) := by decide +kernel
theorem dX4_wrongCells_22 : decode cX4_wrongCells 22 = .ok (.iconst 0, 1) := by decide +kernel
theorem dX4_wrongCells_23 : decode cX4_wrongCells 23 = .ok (.iadd, 1) := by decide +kernel
theorem dX4_wrongCells_24 : decode cX4_wrongCells 24 = .ok (.iaload, 1) := by decide +kernel
theorem dX4_wrongCells_25 : decode cX4_wrongCells 25 = .ok (.iand, 1) := by decide +kernel
theorem dX4_wrongCells_26 : decode cX4_wrongCells 26 = .ok (.iload_n 2, 1) := by decide +kernel
theorem dX4_wrongCells_27 : decode cX4_wrongCells 27 = .ok (.iconst (-1), 1) := by decide +kernel
theorem dX4_wrongCells_28 : decode cX4_wrongCells 28 = .ok (.ixor, 1) := by decide +kernel
theorem dX4_wrongCells_29 : decode cX4_wrongCells 29 = .ok (.aload_n 0, 1) := by decide +kernel
theorem dX4_wrongCells_30 : decode cX4_wrongCells 30 = .ok (.getfield 9, 3) := by decide +kernel
theorem dX4_wrongCells_33 : decode cX4_wrongCells 33 = .ok (.iload_n 3, 1) := by decide +kernel
theorem dX4_wrongCells_34 : decode cX4_wrongCells 34 = .ok (.iconst 1, 1) := by decide +kernel
theorem dX4_wrongCells_35 : decode cX4_wrongCells 35 = .ok (.iadd, 1) := by decide +kernel
theorem dX4_wrongCells_36 : decode cX4_wrongCells 36 = .ok (.iaload, 1) := by decide +kernel
theorem dX4_wrongCells_37 : decode cX4_wrongCells 37 = .ok (.iand, 1) := by decide +kernel
theorem dX4_wrongCells_38 : decode cX4_wrongCells 38 = .ok (.ior, 1) := by decide +kernel
theorem dX4_wrongCells_39 : decode cX4_wrongCells 39 = .ok (.ireturn, 1) := by decide +kernel
theorem dX4_passesOn_0 : decode cX4_passesOn 0 = .ok (.aload_n 0, 1) := by decide +kernel
theorem dX4_passesOn_1 : decode cX4_passesOn 1 = .ok (.iload_n 1, 1) := by decide +kernel
theorem dX4_passesOn_2 : decode cX4_passesOn 2 = .ok (.iload_n 2, 1) := by decide +kernel
theorem dX4_passesOn_3 : decode cX4_passesOn 3 = .ok (.invokevirtual 75, 3) := by decide +kernel
theorem dX4_passesOn_6 : decode cX4_passesOn 6 = .ok (.ifCond .ne 7, 3) := by decide +kernel
theorem dX4_passesOn_9 : decode cX4_passesOn 9 = .ok (.iconst 1, 1) := by decide +kernel
theorem dX4_passesOn_10 : decode cX4_passesOn 10 = .ok (.goto 4, 3) := by decide +kernel
theorem dX4_passesOn_13 : decode cX4_passesOn 13 = .ok (.iconst 0, 1) := by decide +kernel
theorem dX4_passesOn_14 : decode cX4_passesOn 14 = .ok (.ireturn, 1) := by decide +kernel
theorem dX4_isFlippedOn_0 : decode cX4_isFlippedOn 0 = .ok (.aload_n 0, 1) := by decide +kernel
theorem dX4_isFlippedOn_1 : decode cX4_isFlippedOn 1 = .ok (.iload_n 1, 1) := by decide +kernel
theorem dX4_isFlippedOn_2 : decode cX4_isFlippedOn 2 = .ok (.iload_n 2, 1) := by decide +kernel
theorem dX4_isFlippedOn_3 : decode cX4_isFlippedOn 3 = .ok (.invokevirtual 79, 3) := by decide +kernel
theorem dX4_isFlippedOn_6 : decode cX4_isFlippedOn 6 = .ok (.aload_n 0, 1) := by decide +kernel
theorem dX4_isFlippedOn_7 : decode cX4_isFlippedOn 7 = .ok (.iload_n 1, 1) := by decide +kernel
theorem dX4_isFlippedOn_8 : decode cX4_isFlippedOn 8 = .ok (.aload_n 0, 1) := by decide +kernel
theorem dX4_isFlippedOn_9 : decode cX4_isFlippedOn 9 = .ok (.getfield 48, 3) := by decide +kernel
theorem dX4_isFlippedOn_12 : decode cX4_isFlippedOn 12 = .ok (.invokevirtual 79, 3) := by decide +kernel
theorem dX4_isFlippedOn_15 : decode cX4_isFlippedOn 15 = .ok (.if_icmp .eq 7, 3) := by decide +kernel
theorem dX4_isFlippedOn_18 : decode cX4_isFlippedOn 18 = .ok (.iconst 1, 1) := by decide +kernel
theorem dX4_isFlippedOn_19 : decode cX4_isFlippedOn 19 = .ok (.goto 4, 3) := by decide +kernel
theorem dX4_isFlippedOn_22 : decode cX4_isFlippedOn 22 = .ok (.iconst 0, 1) := by decide +kernel
theorem dX4_isFlippedOn_23 : decode cX4_isFlippedOn 23 = .ok (.ireturn, 1) := by decide +kernel
theorem dX4_cellsAfter_0 : decode cX4_cellsAfter 0 = .ok (.iload_n 1, 1) := by decide +kernel
theorem dX4_cellsAfter_1 : decode cX4_cellsAfter 1 = .ok (.ifCond .lt 25, 3) := by decide +kernel
theorem dX4_cellsAfter_4 : decode cX4_cellsAfter 4 = .ok (.iload_n 1, 1) := by decide +kernel
theorem dX4_cellsAfter_5 : decode cX4_cellsAfter 5 = .ok (.bipush 8, 2) := by decide +kernel
theorem dX4_cellsAfter_7 : decode cX4_cellsAfter 7 = .ok (.if_icmp .ge 19, 3) := by decide +kernel
theorem dX4_cellsAfter_10 : decode cX4_cellsAfter 10 = .ok (.aload_n 0, 1) := by decide +kernel
theorem dX4_cellsAfter_11 : decode cX4_cellsAfter 11 = .ok (.getfield 51, 3) := by decide +kernel
theorem dX4_cellsAfter_14 : decode cX4_cellsAfter 14 = .ok (.ifCond .ne 14, 3) := by decide +kernel
theorem dX4_cellsAfter_17 : decode cX4_cellsAfter 17 = .ok (.aload_n 0, 1) := by decide +kernel
theorem dX4_cellsAfter_18 : decode cX4_cellsAfter 18 = .ok (.iload_n 1, 1) := by decide +kernel
theorem dX4_cellsAfter_19 : decode cX4_cellsAfter 19 = .ok (.iload_n 2, 1) := by decide +kernel
theorem dX4_cellsAfter_20 : decode cX4_cellsAfter 20 = .ok (.invokevirtual 75, 3) := by decide +kernel
theorem dX4_cellsAfter_23 : decode cX4_cellsAfter 23 = .ok (.ifCond .eq 5, 3) := by decide +kernel
theorem dX4_cellsAfter_26 : decode cX4_cellsAfter 26 = .ok (.iload_n 2, 1) := by decide +kernel
theorem dX4_cellsAfter_27 : decode cX4_cellsAfter 27 = .ok (.ireturn, 1) := by decide +kernel
theorem dX4_cellsAfter_28 : decode cX4_cellsAfter 28 = .ok (.iload_n 1, 1) := by decide +kernel
theorem dX4_cellsAfter_29 : decode cX4_cellsAfter 29 = .ok (.iconst 5, 1) := by decide +kernel
theorem dX4_cellsAfter_30 : decode cX4_cellsAfter 30 = .ok (.imul, 1) := by decide +kernel
theorem dX4_cellsAfter_31 : decode cX4_cellsAfter 31 = .ok (.istore_n 3, 1) := by decide +kernel
theorem dX4_cellsAfter_32 : decode cX4_cellsAfter 32 = .ok (.iload_n 2, 1) := by decide +kernel
theorem dX4_cellsAfter_33 : decode cX4_cellsAfter 33 = .ok (.aload_n 0, 1) := by decide +kernel
theorem dX4_cellsAfter_34 : decode cX4_cellsAfter 34 = .ok (.getfield 9, 3) := by decide +kernel
theorem dX4_cellsAfter_37 : decode cX4_cellsAfter 37 = .ok (.iload_n 3, 1) := by decide +kernel
theorem dX4_cellsAfter_38 : decode cX4_cellsAfter 38 = .ok (.iconst 2, 1) := by decide +kernel
theorem dX4_cellsAfter_39 : decode cX4_cellsAfter 39 = .ok (.iadd, 1) := by decide +kernel
theorem dX4_cellsAfter_40 : decode cX4_cellsAfter 40 = .ok (.iaload, 1) := by decide +kernel
theorem dX4_cellsAfter_41 : decode cX4_cellsAfter 41 = .ok (.iconst (-1), 1) := by decide +kernel
theorem dX4_cellsAfter_42 : decode cX4_cellsAfter 42 = .ok (.ixor, 1) := by decide +kernel
theorem dX4_cellsAfter_43 : decode cX4_cellsAfter 43 = .ok (.iand, 1) := by decide +kernel
theorem dX4_cellsAfter_44 : decode cX4_cellsAfter 44 = .ok (.aload_n 0, 1) := by decide +kernel
theorem dX4_cellsAfter_45 : decode cX4_cellsAfter 45 = .ok (.getfield 9, 3) := by decide +kernel
theorem dX4_cellsAfter_48 : decode cX4_cellsAfter 48 = .ok (.iload_n 3, 1) := by decide +kernel
theorem dX4_cellsAfter_49 : decode cX4_cellsAfter 49 = .ok (.iconst 3, 1) := by decide +kernel
theorem dX4_cellsAfter_50 : decode cX4_cellsAfter 50 = .ok (.iadd, 1) := by decide +kernel
theorem dX4_cellsAfter_51 : decode cX4_cellsAfter 51 = .ok (.iaload, 1) := by decide +kernel
theorem dX4_cellsAfter_52 : decode cX4_cellsAfter 52 = .ok (.ior, 1) := by decide +kernel
theorem dX4_cellsAfter_53 : decode cX4_cellsAfter 53 = .ok (.aload_n 0, 1) := by decide +kernel
theorem dX4_cellsAfter_54 : decode cX4_cellsAfter 54 = .ok (.getfield 9, 3) := by decide +kernel
theorem dX4_cellsAfter_57 : decode cX4_cellsAfter 57 = .ok (.iload_n 3, 1) := by decide +kernel
theorem dX4_cellsAfter_58 : decode cX4_cellsAfter 58 = .ok (.iconst 4, 1) := by decide +kernel
theorem dX4_cellsAfter_59 : decode cX4_cellsAfter 59 = .ok (.iadd, 1) := by decide +kernel
theorem dX4_cellsAfter_60 : decode cX4_cellsAfter 60 = .ok (.iaload, 1) := by decide +kernel
theorem dX4_cellsAfter_61 : decode cX4_cellsAfter 61 = .ok (.ixor, 1) := by decide +kernel
theorem dX4_cellsAfter_62 : decode cX4_cellsAfter 62 = .ok (.ireturn, 1) := by decide +kernel
theorem dX4_cellsBehind_0 : decode cX4_cellsBehind 0 = .ok (.aload_n 0, 1) := by decide +kernel
theorem dX4_cellsBehind_1 : decode cX4_cellsBehind 1 = .ok (.getfield 48, 3) := by decide +kernel
theorem dX4_cellsBehind_4 : decode cX4_cellsBehind 4 = .ok (.istore_n 2, 1) := by decide +kernel
theorem dX4_cellsBehind_5 : decode cX4_cellsBehind 5 = .ok (.iconst 0, 1) := by decide +kernel
theorem dX4_cellsBehind_6 : decode cX4_cellsBehind 6 = .ok (.istore_n 3, 1) := by decide +kernel
theorem dX4_cellsBehind_7 : decode cX4_cellsBehind 7 = .ok (.iload_n 3, 1) := by decide +kernel
theorem dX4_cellsBehind_8 : decode cX4_cellsBehind 8 = .ok (.aload_n 0, 1) := by decide +kernel
theorem dX4_cellsBehind_9 : decode cX4_cellsBehind 9 = .ok (.getfield 18, 3) := by decide +kernel
theorem dX4_cellsBehind_12 : decode cX4_cellsBehind 12 = .ok (.getfield 44, 3) := by decide +kernel
theorem dX4_cellsBehind_15 : decode cX4_cellsBehind 15 = .ok (.if_icmp .ge 36, 3) := by decide +kernel
theorem dX4_cellsBehind_18 : decode cX4_cellsBehind 18 = .ok (.aload_n 0, 1) := by decide +kernel
theorem dX4_cellsBehind_19 : decode cX4_cellsBehind 19 = .ok (.getfield 18, 3) := by decide +kernel
theorem dX4_cellsBehind_22 : decode cX4_cellsBehind 22 = .ok (.iload_n 3, 1) := by decide +kernel
theorem dX4_cellsBehind_23 : decode cX4_cellsBehind 23 = .ok (.invokevirtual 83, 3) := by decide +kernel
theorem dX4_cellsBehind_26 : decode cX4_cellsBehind 26 = .ok (.istore 4, 2) := by decide +kernel
theorem dX4_cellsBehind_28 : decode cX4_cellsBehind 28 = .ok (.iload 4, 2) := by decide +kernel
theorem dX4_cellsBehind_30 : decode cX4_cellsBehind 30 = .ok (.iload_n 1, 1) := by decide +kernel
theorem dX4_cellsBehind_31 : decode cX4_cellsBehind 31 = .ok (.invokestatic 86, 3) := by decide +kernel
theorem dX4_cellsBehind_34 : decode cX4_cellsBehind 34 = .ok (.ifCond .eq 11, 3) := by decide +kernel
theorem dX4_cellsBehind_37 : decode cX4_cellsBehind 37 = .ok (.aload_n 0, 1) := by decide +kernel
theorem dX4_cellsBehind_38 : decode cX4_cellsBehind 38 = .ok (.iload 4, 2) := by decide +kernel
theorem dX4_cellsBehind_40 : decode cX4_cellsBehind 40 = .ok (.iload_n 2, 1) := by decide +kernel
theorem dX4_cellsBehind_41 : decode cX4_cellsBehind 41 = .ok (.invokevirtual 89, 3) := by decide +kernel
theorem dX4_cellsBehind_44 : decode cX4_cellsBehind 44 = .ok (.istore_n 2, 1) := by decide +kernel
theorem dX4_cellsBehind_45 : decode cX4_cellsBehind 45 = .ok (.iinc 3 1, 3) := by decide +kernel
theorem dX4_cellsBehind_48 : decode cX4_cellsBehind 48 = .ok (.goto (-41), 3) := by decide +kernel
theorem dX4_cellsBehind_51 : decode cX4_cellsBehind 51 = .ok (.iload_n 2, 1) := by decide +kernel
theorem dX4_cellsBehind_52 : decode cX4_cellsBehind 52 = .ok (.ireturn, 1) := by decide +kernel
theorem dX4_isFlippedBehind_0 : decode cX4_isFlippedBehind 0 = .ok (.aload_n 0, 1) := by decide +kernel
theorem dX4_isFlippedBehind_1 : decode cX4_isFlippedBehind 1 = .ok (.iload_n 2, 1) := by decide +kernel
theorem dX4_isFlippedBehind_2 : decode cX4_isFlippedBehind 2 = .ok (.aload_n 0, 1) := by decide +kernel
theorem dX4_isFlippedBehind_3 : decode cX4_isFlippedBehind 3 = .ok (.iload_n 1, 1) := by decide +kernel
theorem dX4_isFlippedBehind_4 : decode cX4_isFlippedBehind 4 = .ok (.invokevirtual 92, 3) := by decide +kernel
theorem dX4_isFlippedBehind_7 : decode cX4_isFlippedBehind 7 = .ok (.invokevirtual 95, 3) := by decide +kernel
theorem dX4_isFlippedBehind_10 : decode cX4_isFlippedBehind 10 = .ok (.ireturn, 1) := by decide +kernel
theorem dX4_flippingAhead_0 : decode cX4_flippingAhead 0 = .ok (.aload_n 0, 1) := by decide +kernel
theorem dX4_flippingAhead_1 : decode cX4_flippingAhead 1 = .ok (.iload_n 1, 1) := by decide +kernel
theorem dX4_flippingAhead_2 : decode cX4_flippingAhead 2 = .ok (.invokevirtual 34, 3) := by decide +kernel
theorem dX4_flippingAhead_5 : decode cX4_flippingAhead 5 = .ok (.ifCond .ne 6, 3) := by decide +kernel
theorem dX4_flippingAhead_8 : decode cX4_flippingAhead 8 = .ok (.bipush (-2), 2) := by decide +kernel
theorem dX4_flippingAhead_10 : decode cX4_flippingAhead 10 = .ok (.ireturn, 1) := by decide +kernel
theorem dX4_flippingAhead_11 : decode cX4_flippingAhead 11 = .ok (.aload_n 0, 1) := by decide +kernel
theorem dX4_flippingAhead_12 : decode cX4_flippingAhead 12 = .ok (.getfield 18, 3) := by decide +kernel
theorem dX4_flippingAhead_15 : decode cX4_flippingAhead 15 = .ok (.iload_n 1, 1) := by decide +kernel
theorem dX4_flippingAhead_16 : decode cX4_flippingAhead 16 = .ok (.invokevirtual 37, 3) := by decide +kernel
theorem dX4_flippingAhead_19 : decode cX4_flippingAhead 19 = .ok (.istore_n 2, 1) := by decide +kernel
theorem dX4_flippingAhead_20 : decode cX4_flippingAhead 20 = .ok (.iload_n 2, 1) := by decide +kernel
theorem dX4_flippingAhead_21 : decode cX4_flippingAhead 21 = .ok (.iconst (-1), 1) := by decide +kernel
theorem dX4_flippingAhead_22 : decode cX4_flippingAhead 22 = .ok (.if_icmp .ne 6, 3) := by decide +kernel
theorem dX4_flippingAhead_25 : decode cX4_flippingAhead 25 = .ok (.bipush (-3), 2) := by decide +kernel
theorem dX4_flippingAhead_27 : decode cX4_flippingAhead 27 = .ok (.ireturn, 1) := by decide +kernel
theorem dX4_flippingAhead_28 : decode cX4_flippingAhead 28 = .ok (.aload_n 0, 1) := by decide +kernel
theorem dX4_flippingAhead_29 : decode cX4_flippingAhead 29 = .ok (.getfield 18, 3) := by decide +kernel
theorem dX4_flippingAhead_32 : decode cX4_flippingAhead 32 = .ok (.iload_n 2, 1) := by decide +kernel
theorem dX4_flippingAhead_33 : decode cX4_flippingAhead 33 = .ok (.invokevirtual 98, 3) := by decide +kernel
theorem dX4_flippingAhead_36 : decode cX4_flippingAhead 36 = .ok (.istore_n 3, 1) := by decide +kernel
theorem dX4_flippingAhead_37 : decode cX4_flippingAhead 37 = .ok (.aload_n 0, 1) := by decide +kernel
theorem dX4_flippingAhead_38 : decode cX4_flippingAhead 38 = .ok (.iload_n 3, 1) := by decide +kernel
theorem dX4_flippingAhead_39 : decode cX4_flippingAhead 39 = .ok (.iload_n 1, 1) := by decide +kernel
theorem dX4_flippingAhead_40 : decode cX4_flippingAhead 40 = .ok (.invokevirtual 101, 3) := by decide +kernel
theorem dX4_flippingAhead_43 : decode cX4_flippingAhead 43 = .ok (.ifCond .eq 7, 3) := by decide +kernel
theorem dX4_flippingAhead_46 : decode cX4_flippingAhead 46 = .ok (.iload_n 3, 1) := by decide +kernel
theorem dX4_flippingAhead_47 : decode cX4_flippingAhead 47 = .ok (.goto 5, 3) := by decide +kernel
theorem dX4_flippingAhead_50 : decode cX4_flippingAhead 50 = .ok (.bipush (-3), 2) := by decide +kernel
theorem dX4_flippingAhead_52 : decode cX4_flippingAhead 52 = .ok (.ireturn, 1) := by decide +kernel
theorem dX4_passingIn_0 : decode cX4_passingIn 0 = .ok (.iconst 0, 1) := by decide +kernel
theorem dX4_passingIn_1 : decode cX4_passingIn 1 = .ok (.istore_n 2, 1) := by decide +kernel
theorem dX4_passingIn_2 : decode cX4_passingIn 2 = .ok (.aload_n 0, 1) := by decide +kernel
theorem dX4_passingIn_3 : decode cX4_passingIn 3 = .ok (.getfield 48, 3) := by decide +kernel
theorem dX4_passingIn_6 : decode cX4_passingIn 6 = .ok (.istore_n 3, 1) := by decide +kernel
theorem dX4_passingIn_7 : decode cX4_passingIn 7 = .ok (.iconst 0, 1) := by decide +kernel
theorem dX4_passingIn_8 : decode cX4_passingIn 8 = .ok (.istore 4, 2) := by decide +kernel
theorem dX4_passingIn_10 : decode cX4_passingIn 10 = .ok (.iload 4, 2) := by decide +kernel
theorem dX4_passingIn_12 : decode cX4_passingIn 12 = .ok (.aload_n 1, 1) := by decide +kernel
theorem dX4_passingIn_13 : decode cX4_passingIn 13 = .ok (.getfield 44, 3) := by decide +kernel
theorem dX4_passingIn_16 : decode cX4_passingIn 16 = .ok (.if_icmp .ge 41, 3) := by decide +kernel
theorem dX4_passingIn_19 : decode cX4_passingIn 19 = .ok (.aload_n 1, 1) := by decide +kernel
theorem dX4_passingIn_20 : decode cX4_passingIn 20 = .ok (.iload 4, 2) := by decide +kernel
theorem dX4_passingIn_22 : decode cX4_passingIn 22 = .ok (.invokevirtual 83, 3) := by decide +kernel
theorem dX4_passingIn_25 : decode cX4_passingIn 25 = .ok (.istore 5, 2) := by decide +kernel
theorem dX4_passingIn_27 : decode cX4_passingIn 27 = .ok (.iload_n 2, 1) := by decide +kernel
theorem dX4_passingIn_28 : decode cX4_passingIn 28 = .ok (.aload_n 0, 1) := by decide +kernel
theorem dX4_passingIn_29 : decode cX4_passingIn 29 = .ok (.iload 5, 2) := by decide +kernel
theorem dX4_passingIn_31 : decode cX4_passingIn 31 = .ok (.iload_n 3, 1) := by decide +kernel
theorem dX4_passingIn_32 : decode cX4_passingIn 32 = .ok (.invokevirtual 79, 3) := by decide +kernel
theorem dX4_passingIn_35 : decode cX4_passingIn 35 = .ok (.invokestatic 104, 3) := by decide +kernel
theorem dX4_passingIn_38 : decode cX4_passingIn 38 = .ok (.iload 5, 2) := by decide +kernel
theorem dX4_passingIn_40 : decode cX4_passingIn 40 = .ok (.ishl, 1) := by decide +kernel
theorem dX4_passingIn_41 : decode cX4_passingIn 41 = .ok (.ior, 1) := by decide +kernel
theorem dX4_passingIn_42 : decode cX4_passingIn 42 = .ok (.istore_n 2, 1) := by decide +kernel
theorem dX4_passingIn_43 : decode cX4_passingIn 43 = .ok (.aload_n 0, 1) := by decide +kernel
theorem dX4_passingIn_44 : decode cX4_passingIn 44 = .ok (.iload 5, 2) := by decide +kernel
theorem dX4_passingIn_46 : decode cX4_passingIn 46 = .ok (.iload_n 3, 1) := by decide +kernel
theorem dX4_passingIn_47 : decode cX4_passingIn 47 = .ok (.invokevirtual 89, 3) := by decide +kernel
theorem dX4_passingIn_50 : decode cX4_passingIn 50 = .ok (.istore_n 3, 1) := by decide +kernel
theorem dX4_passingIn_51 : decode cX4_passingIn 51 = .ok (.iinc 4 1, 3) := by decide +kernel
theorem dX4_passingIn_54 : decode cX4_passingIn 54 = .ok (.goto (-44), 3) := by decide +kernel
theorem dX4_passingIn_57 : decode cX4_passingIn 57 = .ok (.iload_n 2, 1) := by decide +kernel
theorem dX4_passingIn_58 : decode cX4_passingIn 58 = .ok (.ireturn, 1) := by decide +kernel
theorem dX4_passingAlone_0 : decode cX4_passingAlone 0 = .ok (.iconst 0, 1) := by decide +kernel
theorem dX4_passingAlone_1 : decode cX4_passingAlone 1 = .ok (.istore_n 1, 1) := by decide +kernel
theorem dX4_passingAlone_2 : decode cX4_passingAlone 2 = .ok (.iconst 0, 1) := by decide +kernel
theorem dX4_passingAlone_3 : decode cX4_passingAlone 3 = .ok (.istore_n 2, 1) := by decide +kernel
theorem dX4_passingAlone_4 : decode cX4_passingAlone 4 = .ok (.iload_n 2, 1) := by decide +kernel
theorem dX4_passingAlone_5 : decode cX4_passingAlone 5 = .ok (.aload_n 0, 1) := by decide +kernel
theorem dX4_passingAlone_6 : decode cX4_passingAlone 6 = .ok (.getfield 26, 3) := by decide +kernel
theorem dX4_passingAlone_9 : decode cX4_passingAlone 9 = .ok (.if_icmp .ge 26, 3) := by decide +kernel
theorem dX4_passingAlone_12 : decode cX4_passingAlone 12 = .ok (.iload_n 1, 1) := by decide +kernel
theorem dX4_passingAlone_13 : decode cX4_passingAlone 13 = .ok (.aload_n 0, 1) := by decide +kernel
theorem dX4_passingAlone_14 : decode cX4_passingAlone 14 = .ok (.iload_n 2, 1) := by decide +kernel
theorem dX4_passingAlone_15 : decode cX4_passingAlone 15 = .ok (.aload_n 0, 1) := by decide +kernel
theorem dX4_passingAlone_16 : decode cX4_passingAlone 16 = .ok (.getfield 48, 3) := by decide +kernel
theorem dX4_passingAlone_19 : decode cX4_passingAlone 19 = .ok (.invokevirtual 79, 3) := by decide +kernel
theorem dX4_passingAlone_22 : decode cX4_passingAlone 22 = .ok (.invokestatic 104, 3) := by decide +kernel
theorem dX4_passingAlone_25 : decode cX4_passingAlone 25 = .ok (.iload_n 2, 1) := by decide +kernel
theorem dX4_passingAlone_26 : decode cX4_passingAlone 26 = .ok (.ishl, 1) := by decide +kernel
theorem dX4_passingAlone_27 : decode cX4_passingAlone 27 = .ok (.ior, 1) := by decide +kernel
theorem dX4_passingAlone_28 : decode cX4_passingAlone 28 = .ok (.istore_n 1, 1) := by decide +kernel
theorem dX4_passingAlone_29 : decode cX4_passingAlone 29 = .ok (.iinc 2 1, 3) := by decide +kernel
theorem dX4_passingAlone_32 : decode cX4_passingAlone 32 = .ok (.goto (-28), 3) := by decide +kernel
theorem dX4_passingAlone_35 : decode cX4_passingAlone 35 = .ok (.iload_n 1, 1) := by decide +kernel
theorem dX4_passingAlone_36 : decode cX4_passingAlone 36 = .ok (.ireturn, 1) := by decide +kernel
theorem dX4_flippedIn_0 : decode cX4_flippedIn 0 = .ok (.aload_n 0, 1) := by decide +kernel
theorem dX4_flippedIn_1 : decode cX4_flippedIn 1 = .ok (.aload_n 1, 1) := by decide +kernel
theorem dX4_flippedIn_2 : decode cX4_flippedIn 2 = .ok (.invokevirtual 108, 3) := by decide +kernel
theorem dX4_flippedIn_5 : decode cX4_flippedIn 5 = .ok (.aload_n 0, 1) := by decide +kernel
theorem dX4_flippedIn_6 : decode cX4_flippedIn 6 = .ok (.invokevirtual 112, 3) := by decide +kernel
theorem dX4_flippedIn_9 : decode cX4_flippedIn 9 = .ok (.aload_n 1, 1) := by decide +kernel
theorem dX4_flippedIn_10 : decode cX4_flippedIn 10 = .ok (.aload_n 1, 1) := by decide +kernel
theorem dX4_flippedIn_11 : decode cX4_flippedIn 11 = .ok (.getfield 44, 3) := by decide +kernel
theorem dX4_flippedIn_14 : decode cX4_flippedIn 14 = .ok (.invokevirtual 98, 3) := by decide +kernel
theorem dX4_flippedIn_17 : decode cX4_flippedIn 17 = .ok (.iand, 1) := by decide +kernel
theorem dX4_flippedIn_18 : decode cX4_flippedIn 18 = .ok (.ixor, 1) := by decide +kernel
theorem dX4_flippedIn_19 : decode cX4_flippedIn 19 = .ok (.ireturn, 1) := by decide +kernel
theorem dX4_lastToChange_0 : decode cX4_lastToChange 0 = .ok (.iconst (-1), 1) := by decide +kernel
theorem dX4_lastToChange_1 : decode cX4_lastToChange 1 = .ok (.istore_n 3, 1) := by decide +kernel
theorem dX4_lastToChange_2 : decode cX4_lastToChange 2 = .ok (.aload_n 0, 1) := by decide +kernel
theorem dX4_lastToChange_3 : decode cX4_lastToChange 3 = .ok (.getfield 48, 3) := by decide +kernel
theorem dX4_lastToChange_6 : decode cX4_lastToChange 6 = .ok (.istore 4, 2) := by decide +kernel
theorem dX4_lastToChange_8 : decode cX4_lastToChange 8 = .ok (.iconst 0, 1) := by decide +kernel
theorem dX4_lastToChange_9 : decode cX4_lastToChange 9 = .ok (.istore 5, 2) := by decide +kernel
theorem dX4_lastToChange_11 : decode cX4_lastToChange 11 = .ok (.iload 5, 2) := by decide +kernel
theorem dX4_lastToChange_13 : decode cX4_lastToChange 13 = .ok (.iload_n 2, 1) := by decide +kernel
theorem dX4_lastToChange_14 : decode cX4_lastToChange 14 = .ok (.if_icmp .ge 61, 3) := by decide +kernel
theorem dX4_lastToChange_17 : decode cX4_lastToChange 17 = .ok (.iload 5, 2) := by decide +kernel
theorem dX4_lastToChange_19 : decode cX4_lastToChange 19 = .ok (.aload_n 0, 1) := by decide +kernel
theorem dX4_lastToChange_20 : decode cX4_lastToChange 20 = .ok (.getfield 18, 3) := by decide +kernel
theorem dX4_lastToChange_23 : decode cX4_lastToChange 23 = .ok (.getfield 44, 3) := by decide +kernel
theorem dX4_lastToChange_26 : decode cX4_lastToChange 26 = .ok (.if_icmp .ge 49, 3) := by decide +kernel
theorem dX4_lastToChange_29 : decode cX4_lastToChange 29 = .ok (.aload_n 0, 1) := by decide +kernel
theorem dX4_lastToChange_30 : decode cX4_lastToChange 30 = .ok (.getfield 18, 3) := by decide +kernel
theorem dX4_lastToChange_33 : decode cX4_lastToChange 33 = .ok (.iload 5, 2) := by decide +kernel
theorem dX4_lastToChange_35 : decode cX4_lastToChange 35 = .ok (.invokevirtual 83, 3) := by decide +kernel
theorem dX4_lastToChange_38 : decode cX4_lastToChange 38 = .ok (.istore 6, 2) := by decide +kernel
theorem dX4_lastToChange_40 : decode cX4_lastToChange 40 = .ok (.aload_n 0, 1) := by decide +kernel
theorem dX4_lastToChange_41 : decode cX4_lastToChange 41 = .ok (.iload 6, 2) := by decide +kernel
theorem dX4_lastToChange_43 : decode cX4_lastToChange 43 = .ok (.iload 4, 2) := by decide +kernel
theorem dX4_lastToChange_45 : decode cX4_lastToChange 45 = .ok (.invokevirtual 89, 3) := by decide +kernel
theorem dX4_lastToChange_48 : decode cX4_lastToChange 48 = .ok (.istore 7, 2) := by decide +kernel
theorem dX4_lastToChange_50 : decode cX4_lastToChange 50 = .ok (.iload_n 1, 1) := by decide +kernel
theorem dX4_lastToChange_51 : decode cX4_lastToChange 51 = .ok (.iload 4, 2) := by decide +kernel
theorem dX4_lastToChange_53 : decode cX4_lastToChange 53 = .ok (.iload 7, 2) := by decide +kernel
theorem dX4_lastToChange_55 : decode cX4_lastToChange 55 = .ok (.ixor, 1) := by decide +kernel
theorem dX4_lastToChange_56 : decode cX4_lastToChange 56 = .ok (.invokestatic 86, 3) := by decide +kernel
theorem dX4_lastToChange_59 : decode cX4_lastToChange 59 = .ok (.ifCond .eq 6, 3) := by decide +kernel
theorem dX4_lastToChange_62 : decode cX4_lastToChange 62 = .ok (.iload 6, 2) := by decide +kernel
theorem dX4_lastToChange_64 : decode cX4_lastToChange 64 = .ok (.istore_n 3, 1) := by decide +kernel
theorem dX4_lastToChange_65 : decode cX4_lastToChange 65 = .ok (.iload 7, 2) := by decide +kernel
theorem dX4_lastToChange_67 : decode cX4_lastToChange 67 = .ok (.istore 4, 2) := by decide +kernel
theorem dX4_lastToChange_69 : decode cX4_lastToChange 69 = .ok (.iinc 5 1, 3) := by decide +kernel
theorem dX4_lastToChange_72 : decode cX4_lastToChange 72 = .ok (.goto (-61), 3) := by decide +kernel
theorem dX4_lastToChange_75 : decode cX4_lastToChange 75 = .ok (.iload_n 3, 1) := by decide +kernel
theorem dX4_lastToChange_76 : decode cX4_lastToChange 76 = .ok (.ireturn, 1) := by decide +kernel
theorem dX4_doesSoil_0 : decode cX4_doesSoil 0 = .ok (.iload_n 1, 1) := by decide +kernel
theorem dX4_doesSoil_1 : decode cX4_doesSoil 1 = .ok (.iload_n 2, 1) := by decide +kernel
theorem dX4_doesSoil_2 : decode cX4_doesSoil 2 = .ok (.if_icmp .eq 24, 3) := by decide +kernel
theorem dX4_doesSoil_5 : decode cX4_doesSoil 5 = .ok (.aload_n 0, 1) := by decide +kernel
theorem dX4_doesSoil_6 : decode cX4_doesSoil 6 = .ok (.iload_n 2, 1) := by decide +kernel
theorem dX4_doesSoil_7 : decode cX4_doesSoil 7 = .ok (.aload_n 0, 1) := by decide +kernel
theorem dX4_doesSoil_8 : decode cX4_doesSoil 8 = .ok (.iload_n 1, 1) := by decide +kernel
theorem dX4_doesSoil_9 : decode cX4_doesSoil 9 = .ok (.aload_n 0, 1) := by decide +kernel
theorem dX4_doesSoil_10 : decode cX4_doesSoil 10 = .ok (.getfield 48, 3) := by decide +kernel
theorem dX4_doesSoil_13 : decode cX4_doesSoil 13 = .ok (.invokevirtual 89, 3) := by decide +kernel
theorem dX4_doesSoil_16 : decode cX4_doesSoil 16 = .ok (.invokevirtual 95, 3) := by decide +kernel
theorem dX4_doesSoil_19 : decode cX4_doesSoil 19 = .ok (.ifCond .eq 7, 3) := by decide +kernel
theorem dX4_doesSoil_22 : decode cX4_doesSoil 22 = .ok (.iconst 1, 1) := by decide +kernel
theorem dX4_doesSoil_23 : decode cX4_doesSoil 23 = .ok (.goto 4, 3) := by decide +kernel
theorem dX4_doesSoil_26 : decode cX4_doesSoil 26 = .ok (.iconst 0, 1) := by decide +kernel
theorem dX4_doesSoil_27 : decode cX4_doesSoil 27 = .ok (.ireturn, 1) := by decide +kernel
theorem dX4_soilingPairs_0 : decode cX4_soilingPairs 0 = .ok (.iconst 0, 1) := by decide +kernel
theorem dX4_soilingPairs_1 : decode cX4_soilingPairs 1 = .ok (.istore_n 1, 1) := by decide +kernel
theorem dX4_soilingPairs_2 : decode cX4_soilingPairs 2 = .ok (.iconst 0, 1) := by decide +kernel
theorem dX4_soilingPairs_3 : decode cX4_soilingPairs 3 = .ok (.istore_n 2, 1) := by decide +kernel
theorem dX4_soilingPairs_4 : decode cX4_soilingPairs 4 = .ok (.iload_n 2, 1) := by decide +kernel
theorem dX4_soilingPairs_5 : decode cX4_soilingPairs 5 = .ok (.aload_n 0, 1) := by decide +kernel
theorem dX4_soilingPairs_6 : decode cX4_soilingPairs 6 = .ok (.getfield 26, 3) := by decide +kernel
theorem dX4_soilingPairs_9 : decode cX4_soilingPairs 9 = .ok (.if_icmp .ge 37, 3) := by decide +kernel
theorem dX4_soilingPairs_12 : decode cX4_soilingPairs 12 = .ok (.iconst 0, 1) := by decide +kernel
theorem dX4_soilingPairs_13 : decode cX4_soilingPairs 13 = .ok (.istore_n 3, 1) := by decide +kernel
theorem dX4_soilingPairs_14 : decode cX4_soilingPairs 14 = .ok (.iload_n 3, 1) := by decide +kernel
theorem dX4_soilingPairs_15 : decode cX4_soilingPairs 15 = .ok (.aload_n 0, 1) := by decide +kernel
theorem dX4_soilingPairs_16 : decode cX4_soilingPairs 16 = .ok (.getfield 26, 3) := by decide +kernel
theorem dX4_soilingPairs_19 : decode cX4_soilingPairs 19 = .ok (.if_icmp .ge 21, 3) := by decide +kernel
theorem dX4_soilingPairs_22 : decode cX4_soilingPairs 22 = .ok (.iload_n 1, 1) := by decide +kernel
theorem dX4_soilingPairs_23 : decode cX4_soilingPairs 23 = .ok (.aload_n 0, 1) := by decide +kernel
theorem dX4_soilingPairs_24 : decode cX4_soilingPairs 24 = .ok (.iload_n 2, 1) := by decide +kernel
theorem dX4_soilingPairs_25 : decode cX4_soilingPairs 25 = .ok (.iload_n 3, 1) := by decide +kernel
theorem dX4_soilingPairs_26 : decode cX4_soilingPairs 26 = .ok (.invokevirtual 116, 3) := by decide +kernel
theorem dX4_soilingPairs_29 : decode cX4_soilingPairs 29 = .ok (.invokestatic 104, 3) := by decide +kernel
theorem dX4_soilingPairs_32 : decode cX4_soilingPairs 32 = .ok (.iadd, 1) := by decide +kernel
theorem dX4_soilingPairs_33 : decode cX4_soilingPairs 33 = .ok (.istore_n 1, 1) := by decide +kernel
theorem dX4_soilingPairs_34 : decode cX4_soilingPairs 34 = .ok (.iinc 3 1, 3) := by decide +kernel
theorem dX4_soilingPairs_37 : decode cX4_soilingPairs 37 = .ok (.goto (-23), 3) := by decide +kernel
theorem dX4_soilingPairs_40 : decode cX4_soilingPairs 40 = .ok (.iinc 2 1, 3) := by decide +kernel
theorem dX4_soilingPairs_43 : decode cX4_soilingPairs 43 = .ok (.goto (-39), 3) := by decide +kernel
theorem dX4_soilingPairs_46 : decode cX4_soilingPairs 46 = .ok (.iload_n 1, 1) := by decide +kernel
theorem dX4_soilingPairs_47 : decode cX4_soilingPairs 47 = .ok (.ireturn, 1) := by decide +kernel
theorem dX4_cleaners_0 : decode cX4_cleaners 0 = .ok (.iconst 0, 1) := by decide +kernel
theorem dX4_cleaners_1 : decode cX4_cleaners 1 = .ok (.istore_n 3, 1) := by decide +kernel
theorem dX4_cleaners_2 : decode cX4_cleaners 2 = .ok (.aload_n 0, 1) := by decide +kernel
theorem dX4_cleaners_3 : decode cX4_cleaners 3 = .ok (.iload_n 1, 1) := by decide +kernel
theorem dX4_cleaners_4 : decode cX4_cleaners 4 = .ok (.aload_n 0, 1) := by decide +kernel
theorem dX4_cleaners_5 : decode cX4_cleaners 5 = .ok (.getfield 48, 3) := by decide +kernel
theorem dX4_cleaners_8 : decode cX4_cleaners 8 = .ok (.invokevirtual 89, 3) := by decide +kernel
theorem dX4_cleaners_11 : decode cX4_cleaners 11 = .ok (.istore 4, 2) := by decide +kernel
theorem dX4_cleaners_13 : decode cX4_cleaners 13 = .ok (.iconst 0, 1) := by decide +kernel
theorem dX4_cleaners_14 : decode cX4_cleaners 14 = .ok (.istore 5, 2) := by decide +kernel
theorem dX4_cleaners_16 : decode cX4_cleaners 16 = .ok (.iload 5, 2) := by decide +kernel
theorem dX4_cleaners_18 : decode cX4_cleaners 18 = .ok (.aload_n 0, 1) := by decide +kernel
theorem dX4_cleaners_19 : decode cX4_cleaners 19 = .ok (.getfield 26, 3) := by decide +kernel
theorem dX4_cleaners_22 : decode cX4_cleaners 22 = .ok (.if_icmp .ge 44, 3) := by decide +kernel
theorem dX4_cleaners_25 : decode cX4_cleaners 25 = .ok (.iload 5, 2) := by decide +kernel
theorem dX4_cleaners_27 : decode cX4_cleaners 27 = .ok (.iload_n 1, 1) := by decide +kernel
theorem dX4_cleaners_28 : decode cX4_cleaners 28 = .ok (.if_icmp .eq 32, 3) := by decide +kernel
theorem dX4_cleaners_31 : decode cX4_cleaners 31 = .ok (.iload 5, 2) := by decide +kernel
theorem dX4_cleaners_33 : decode cX4_cleaners 33 = .ok (.iload_n 2, 1) := by decide +kernel
theorem dX4_cleaners_34 : decode cX4_cleaners 34 = .ok (.if_icmp .eq 26, 3) := by decide +kernel
theorem dX4_cleaners_37 : decode cX4_cleaners 37 = .ok (.aload_n 0, 1) := by decide +kernel
theorem dX4_cleaners_38 : decode cX4_cleaners 38 = .ok (.iload_n 2, 1) := by decide +kernel
theorem dX4_cleaners_39 : decode cX4_cleaners 39 = .ok (.aload_n 0, 1) := by decide +kernel
theorem dX4_cleaners_40 : decode cX4_cleaners 40 = .ok (.iload 5, 2) := by decide +kernel
theorem dX4_cleaners_42 : decode cX4_cleaners 42 = .ok (.iload 4, 2) := by decide +kernel
theorem dX4_cleaners_44 : decode cX4_cleaners 44 = .ok (.invokevirtual 89, 3) := by decide +kernel
theorem dX4_cleaners_47 : decode cX4_cleaners 47 = .ok (.invokevirtual 95, 3) := by decide +kernel
theorem dX4_cleaners_50 : decode cX4_cleaners 50 = .ok (.ifCond .ne 10, 3) := by decide +kernel
theorem dX4_cleaners_53 : decode cX4_cleaners 53 = .ok (.iload_n 3, 1) := by decide +kernel
theorem dX4_cleaners_54 : decode cX4_cleaners 54 = .ok (.iconst 1, 1) := by decide +kernel
theorem dX4_cleaners_55 : decode cX4_cleaners 55 = .ok (.iload 5, 2) := by decide +kernel
theorem dX4_cleaners_57 : decode cX4_cleaners 57 = .ok (.ishl, 1) := by decide +kernel
theorem dX4_cleaners_58 : decode cX4_cleaners 58 = .ok (.ior, 1) := by decide +kernel
theorem dX4_cleaners_59 : decode cX4_cleaners 59 = .ok (.istore_n 3, 1) := by decide +kernel
theorem dX4_cleaners_60 : decode cX4_cleaners 60 = .ok (.iinc 5 1, 3) := by decide +kernel
theorem dX4_cleaners_63 : decode cX4_cleaners 63 = .ok (.goto (-47), 3) := by decide +kernel
theorem dX4_cleaners_66 : decode cX4_cleaners 66 = .ok (.iload_n 3, 1) := by decide +kernel
theorem dX4_cleaners_67 : decode cX4_cleaners 67 = .ok (.ireturn, 1) := by decide +kernel
theorem dX4_copyFrom_0 : decode cX4_copyFrom 0 = .ok (.aload_n 1, 1) := by decide +kernel
theorem dX4_copyFrom_1 : decode cX4_copyFrom 1 = .ok (.getfield 9, 3) := by decide +kernel
theorem dX4_copyFrom_4 : decode cX4_copyFrom 4 = .ok (.iconst 0, 1) := by decide +kernel
theorem dX4_copyFrom_5 : decode cX4_copyFrom 5 = .ok (.aload_n 0, 1) := by decide +kernel
theorem dX4_copyFrom_6 : decode cX4_copyFrom 6 = .ok (.getfield 9, 3) := by decide +kernel
theorem dX4_copyFrom_9 : decode cX4_copyFrom 9 = .ok (.iconst 0, 1) := by decide +kernel
theorem dX4_copyFrom_10 : decode cX4_copyFrom 10 = .ok (.bipush 40, 2) := by decide +kernel
theorem dX4_copyFrom_12 : decode cX4_copyFrom 12 = .ok (.invokestatic 119, 3) := by decide +kernel
theorem dX4_copyFrom_15 : decode cX4_copyFrom 15 = .ok (.aload_n 0, 1) := by decide +kernel
theorem dX4_copyFrom_16 : decode cX4_copyFrom 16 = .ok (.getfield 18, 3) := by decide +kernel
theorem dX4_copyFrom_19 : decode cX4_copyFrom 19 = .ok (.aload_n 1, 1) := by decide +kernel
theorem dX4_copyFrom_20 : decode cX4_copyFrom 20 = .ok (.getfield 18, 3) := by decide +kernel
theorem dX4_copyFrom_23 : decode cX4_copyFrom 23 = .ok (.invokevirtual 125, 3) := by decide +kernel
theorem dX4_copyFrom_26 : decode cX4_copyFrom 26 = .ok (.aload_n 0, 1) := by decide +kernel
theorem dX4_copyFrom_27 : decode cX4_copyFrom 27 = .ok (.aload_n 1, 1) := by decide +kernel
theorem dX4_copyFrom_28 : decode cX4_copyFrom 28 = .ok (.getfield 26, 3) := by decide +kernel
theorem dX4_copyFrom_31 : decode cX4_copyFrom 31 = .ok (.putfield 26, 3) := by decide +kernel
theorem dX4_copyFrom_34 : decode cX4_copyFrom 34 = .ok (.aload_n 0, 1) := by decide +kernel
theorem dX4_copyFrom_35 : decode cX4_copyFrom 35 = .ok (.aload_n 1, 1) := by decide +kernel
theorem dX4_copyFrom_36 : decode cX4_copyFrom 36 = .ok (.getfield 48, 3) := by decide +kernel
theorem dX4_copyFrom_39 : decode cX4_copyFrom 39 = .ok (.putfield 48, 3) := by decide +kernel
theorem dX4_copyFrom_42 : decode cX4_copyFrom 42 = .ok (.aload_n 0, 1) := by decide +kernel
theorem dX4_copyFrom_43 : decode cX4_copyFrom 43 = .ok (.aload_n 1, 1) := by decide +kernel
theorem dX4_copyFrom_44 : decode cX4_copyFrom 44 = .ok (.getfield 51, 3) := by decide +kernel
theorem dX4_copyFrom_47 : decode cX4_copyFrom 47 = .ok (.putfield 51, 3) := by decide +kernel
theorem dX4_copyFrom_50 : decode cX4_copyFrom 50 = .ok (.return_, 1) := by decide +kernel
theorem dX5_init_0 : decode cX5_init 0 = .ok (.aload_n 0, 1) := by decide +kernel
theorem dX5_init_1 : decode cX5_init 1 = .ok (.invokespecial 3, 3) := by decide +kernel
theorem dX5_init_4 : decode cX5_init 4 = .ok (.aload_n 0, 1) := by decide +kernel
theorem dX5_init_5 : decode cX5_init 5 = .ok (.sipush 150, 3) := by decide +kernel
theorem dX5_init_8 : decode cX5_init 8 = .ok (.newarray .int, 2) := by decide +kernel
theorem dX5_init_10 : decode cX5_init 10 = .ok (.putfield 9, 3) := by decide +kernel
theorem dX5_init_13 : decode cX5_init 13 = .ok (.return_, 1) := by decide +kernel
theorem dX5_isFull_0 : decode cX5_isFull 0 = .ok (.aload_n 0, 1) := by decide +kernel
theorem dX5_isFull_1 : decode cX5_isFull 1 = .ok (.getfield 15, 3) := by decide +kernel
theorem dX5_isFull_4 : decode cX5_isFull 4 = .ok (.sipush 150, 3) := by decide +kernel
theorem dX5_isFull_7 : decode cX5_isFull 7 = .ok (.if_icmp .lt 7, 3) := by decide +kernel
theorem dX5_isFull_10 : decode cX5_isFull 10 = .ok (.iconst 1, 1) := by decide +kernel
theorem dX5_isFull_11 : decode cX5_isFull 11 = .ok (.goto 4, 3) := by decide +kernel
theorem dX5_isFull_14 : decode cX5_isFull 14 = .ok (.iconst 0, 1) := by decide +kernel
theorem dX5_isFull_15 : decode cX5_isFull 15 = .ok (.ireturn, 1) := by decide +kernel
theorem dX5_append_0 : decode cX5_append 0 = .ok (.aload_n 0, 1) := by decide +kernel
theorem dX5_append_1 : decode cX5_append 1 = .ok (.getfield 15, 3) := by decide +kernel
theorem dX5_append_4 : decode cX5_append 4 = .ok (.ifCond .lt 35, 3) := by decide +kernel
theorem dX5_append_7 : decode cX5_append 7 = .ok (.aload_n 0, 1) := by decide +kernel
theorem dX5_append_8 : decode cX5_append 8 = .ok (.getfield 15, 3) := by decide +kernel
theorem dX5_append_11 : decode cX5_append 11 = .ok (.aload_n 0, 1) := by decide +kernel
theorem dX5_append_12 : decode cX5_append 12 = .ok (.getfield 9, 3) := by decide +kernel
theorem dX5_append_15 : decode cX5_append 15 = .ok (.arraylength, 1) := by decide +kernel
theorem dX5_append_16 : decode cX5_append 16 = .ok (.if_icmp .ge 23, 3) := by decide +kernel
theorem dX5_append_19 : decode cX5_append 19 = .ok (.aload_n 0, 1) := by decide +kernel
theorem dX5_append_20 : decode cX5_append 20 = .ok (.getfield 9, 3) := by decide +kernel
theorem dX5_append_23 : decode cX5_append 23 = .ok (.aload_n 0, 1) := by decide +kernel
theorem dX5_append_24 : decode cX5_append 24 = .ok (.getfield 15, 3) := by decide +kernel
theorem dX5_append_27 : decode cX5_append 27 = .ok (.iload_n 1, 1) := by decide +kernel
theorem dX5_append_28 : decode cX5_append 28 = .ok (.iastore, 1) := by decide +kernel
theorem dX5_append_29 : decode cX5_append 29 = .ok (.aload_n 0, 1) := by decide +kernel
theorem dX5_append_30 : decode cX5_append 30 = .ok (.dup, 1) := by decide +kernel
theorem dX5_append_31 : decode cX5_append 31 = .ok (.getfield 15, 3) := by decide +kernel
theorem dX5_append_34 : decode cX5_append 34 = .ok (.iconst 1, 1) := by decide +kernel
theorem dX5_append_35 : decode cX5_append 35 = .ok (.iadd, 1) := by decide +kernel
theorem dX5_append_36 : decode cX5_append 36 = .ok (.putfield 15, 3) := by decide +kernel
theorem dX5_append_39 : decode cX5_append 39 = .ok (.aload_n 0, 1) := by decide +kernel
theorem dX5_append_40 : decode cX5_append 40 = .ok (.getfield 15, 3) := by decide +kernel
theorem dX5_append_43 : decode cX5_append 43 = .ok (.ireturn, 1) := by decide +kernel
theorem dX5_makeEmpty_0 : decode cX5_makeEmpty 0 = .ok (.aload_n 0, 1) := by decide +kernel
theorem dX5_makeEmpty_1 : decode cX5_makeEmpty 1 = .ok (.getfield 15, 3) := by decide +kernel
theorem dX5_makeEmpty_4 : decode cX5_makeEmpty 4 = .ok (.istore_n 1, 1) := by decide +kernel
theorem dX5_makeEmpty_5 : decode cX5_makeEmpty 5 = .ok (.aload_n 0, 1) := by decide +kernel
theorem dX5_makeEmpty_6 : decode cX5_makeEmpty 6 = .ok (.iconst 0, 1) := by decide +kernel
theorem dX5_makeEmpty_7 : decode cX5_makeEmpty 7 = .ok (.putfield 15, 3) := by decide +kernel
theorem dX5_makeEmpty_10 : decode cX5_makeEmpty 10 = .ok (.iload_n 1, 1) := by decide +kernel
theorem dX5_makeEmpty_11 : decode cX5_makeEmpty 11 = .ok (.ireturn, 1) := by decide +kernel
theorem dX5_nth_0 : decode cX5_nth 0 = .ok (.iload_n 1, 1) := by decide +kernel
theorem dX5_nth_1 : decode cX5_nth 1 = .ok (.ifCond .lt 29, 3) := by decide +kernel
theorem dX5_nth_4 : decode cX5_nth 4 = .ok (.iload_n 1, 1) := by decide +kernel
theorem dX5_nth_5 : decode cX5_nth 5 = .ok (.aload_n 0, 1) := by decide +kernel
theorem dX5_nth_6 : decode cX5_nth 6 = .ok (.getfield 15, 3) := by decide +kernel
theorem dX5_nth_9 : decode cX5_nth 9 = .ok (.if_icmp .ge 21, 3) := by decide +kernel
theorem dX5_nth_12 : decode cX5_nth 12 = .ok (.iload_n 1, 1) := by decide +kernel
theorem dX5_nth_13 : decode cX5_nth 13 = .ok (.aload_n 0, 1) := by decide +kernel
theorem dX5_nth_14 : decode cX5_nth 14 = .ok (.getfield 9, 3) := by decide +kernel
theorem dX5_nth_17 : decode cX5_nth 17 = .ok (.arraylength, 1) := by decide +kernel
theorem dX5_nth_18 : decode cX5_nth 18 = .ok (.if_icmp .ge 12, 3) := by decide +kernel
theorem dX5_nth_21 : decode cX5_nth 21 = .ok (.aload_n 0, 1) := by decide +kernel
theorem dX5_nth_22 : decode cX5_nth 22 = .ok (.getfield 9, 3) := by decide +kernel
theorem dX5_nth_25 : decode cX5_nth 25 = .ok (.iload_n 1, 1) := by decide +kernel
theorem dX5_nth_26 : decode cX5_nth 26 = .ok (.iaload, 1) := by decide +kernel
theorem dX5_nth_27 : decode cX5_nth 27 = .ok (.goto 4, 3) := by decide +kernel
theorem dX5_nth_30 : decode cX5_nth 30 = .ok (.iconst (-1), 1) := by decide +kernel
theorem dX5_nth_31 : decode cX5_nth 31 = .ok (.ireturn, 1) := by decide +kernel
theorem dX6_init_0 : decode cX6_init 0 = .ok (.aload_n 0, 1) := by decide +kernel
theorem dX6_init_1 : decode cX6_init 1 = .ok (.invokespecial 1, 3) := by decide +kernel
theorem dX6_init_4 : decode cX6_init 4 = .ok (.aload_n 0, 1) := by decide +kernel
theorem dX6_init_5 : decode cX6_init 5 = .ok (.new 7, 3) := by decide +kernel
theorem dX6_init_8 : decode cX6_init 8 = .ok (.dup, 1) := by decide +kernel
theorem dX6_init_9 : decode cX6_init 9 = .ok (.invokespecial 9, 3) := by decide +kernel
theorem dX6_init_12 : decode cX6_init 12 = .ok (.putfield 10, 3) := by decide +kernel
theorem dX6_init_15 : decode cX6_init 15 = .ok (.aload_n 0, 1) := by decide +kernel
theorem dX6_init_16 : decode cX6_init 16 = .ok (.new 16, 3) := by decide +kernel
theorem dX6_init_19 : decode cX6_init 19 = .ok (.dup, 1) := by decide +kernel
theorem dX6_init_20 : decode cX6_init 20 = .ok (.invokespecial 18, 3) := by decide +kernel
theorem dX6_init_23 : decode cX6_init 23 = .ok (.putfield 19, 3) := by decide +kernel
theorem dX6_init_26 : decode cX6_init 26 = .ok (.aload_n 0, 1) := by decide +kernel
theorem dX6_init_27 : decode cX6_init 27 = .ok (.new 23, 3) := by decide +kernel
theorem dX6_init_30 : decode cX6_init 30 = .ok (.dup, 1) := by decide +kernel
theorem dX6_init_31 : decode cX6_init 31 = .ok (.invokespecial 25, 3) := by decide +kernel
theorem dX6_init_34 : decode cX6_init 34 = .ok (.putfield 26, 3) := by decide +kernel
theorem dX6_init_37 : decode cX6_init 37 = .ok (.aload_n 0, 1) := by decide +kernel
theorem dX6_init_38 : decode cX6_init 38 = .ok (.new 30, 3) := by decide +kernel
theorem dX6_init_41 : decode cX6_init 41 = .ok (.dup, 1) := by decide +kernel
theorem dX6_init_42 : decode cX6_init 42 = .ok (.invokespecial 32, 3) := by decide +kernel
theorem dX6_init_45 : decode cX6_init 45 = .ok (.putfield 33, 3) := by decide +kernel
theorem dX6_init_48 : decode cX6_init 48 = .ok (.aload_n 0, 1) := by decide +kernel
theorem dX6_init_49 : decode cX6_init 49 = .ok (.new 37, 3) := by decide +kernel
theorem dX6_init_52 : decode cX6_init 52 = .ok (.dup, 1) := by decide +kernel
theorem dX6_init_53 : decode cX6_init 53 = .ok (.invokespecial 39, 3) := by decide +kernel
theorem dX6_init_56 : decode cX6_init 56 = .ok (.putfield 40, 3) := by decide +kernel
theorem dX6_init_59 : decode cX6_init 59 = .ok (.return_, 1) := by decide +kernel
theorem dX6_test_0 : decode cX6_test 0 = .ok (.aload_n 0, 1) := by decide +kernel
theorem dX6_test_1 : decode cX6_test 1 = .ok (.getfield 19, 3) := by decide +kernel
theorem dX6_test_4 : decode cX6_test 4 = .ok (.aload_n 0, 1) := by decide +kernel
theorem dX6_test_5 : decode cX6_test 5 = .ok (.getfield 10, 3) := by decide +kernel
theorem dX6_test_8 : decode cX6_test 8 = .ok (.invokevirtual 44, 3) := by decide +kernel
theorem dX6_test_11 : decode cX6_test 11 = .ok (.aload_n 0, 1) := by decide +kernel
theorem dX6_test_12 : decode cX6_test 12 = .ok (.aload_n 0, 1) := by decide +kernel
theorem dX6_test_13 : decode cX6_test 13 = .ok (.getfield 10, 3) := by decide +kernel
theorem dX6_test_16 : decode cX6_test 16 = .ok (.iload_n 1, 1) := by decide +kernel
theorem dX6_test_17 : decode cX6_test 17 = .ok (.iload_n 2, 1) := by decide +kernel
theorem dX6_test_18 : decode cX6_test 18 = .ok (.iload_n 3, 1) := by decide +kernel
theorem dX6_test_19 : decode cX6_test 19 = .ok (.iload 4, 2) := by decide +kernel
theorem dX6_test_21 : decode cX6_test 21 = .ok (.iload 5, 2) := by decide +kernel
theorem dX6_test_23 : decode cX6_test 23 = .ok (.invokevirtual 48, 3) := by decide +kernel
theorem dX6_test_26 : decode cX6_test 26 = .ok (.invokevirtual 52, 3) := by decide +kernel
theorem dX6_test_29 : decode cX6_test 29 = .ok (.ireturn, 1) := by decide +kernel
theorem dX6_cuts_0 : decode cX6_cuts 0 = .ok (.aload_n 0, 1) := by decide +kernel
theorem dX6_cuts_1 : decode cX6_cuts 1 = .ok (.getfield 19, 3) := by decide +kernel
theorem dX6_cuts_4 : decode cX6_cuts 4 = .ok (.aload_n 0, 1) := by decide +kernel
theorem dX6_cuts_5 : decode cX6_cuts 5 = .ok (.getfield 10, 3) := by decide +kernel
theorem dX6_cuts_8 : decode cX6_cuts 8 = .ok (.invokevirtual 44, 3) := by decide +kernel
theorem dX6_cuts_11 : decode cX6_cuts 11 = .ok (.aload_n 0, 1) := by decide +kernel
theorem dX6_cuts_12 : decode cX6_cuts 12 = .ok (.aload_n 0, 1) := by decide +kernel
theorem dX6_cuts_13 : decode cX6_cuts 13 = .ok (.getfield 10, 3) := by decide +kernel
theorem dX6_cuts_16 : decode cX6_cuts 16 = .ok (.invokevirtual 56, 3) := by decide +kernel
theorem dX6_cuts_19 : decode cX6_cuts 19 = .ok (.invokevirtual 52, 3) := by decide +kernel
theorem dX6_cuts_22 : decode cX6_cuts 22 = .ok (.ireturn, 1) := by decide +kernel
theorem dX6_lays_0 : decode cX6_lays 0 = .ok (.aload_n 0, 1) := by decide +kernel
theorem dX6_lays_1 : decode cX6_lays 1 = .ok (.getfield 19, 3) := by decide +kernel
theorem dX6_lays_4 : decode cX6_lays 4 = .ok (.aload_n 0, 1) := by decide +kernel
theorem dX6_lays_5 : decode cX6_lays 5 = .ok (.getfield 10, 3) := by decide +kernel
theorem dX6_lays_8 : decode cX6_lays 8 = .ok (.invokevirtual 44, 3) := by decide +kernel
theorem dX6_lays_11 : decode cX6_lays 11 = .ok (.aload_n 0, 1) := by decide +kernel
theorem dX6_lays_12 : decode cX6_lays 12 = .ok (.aload_n 0, 1) := by decide +kernel
theorem dX6_lays_13 : decode cX6_lays 13 = .ok (.getfield 10, 3) := by decide +kernel
theorem dX6_lays_16 : decode cX6_lays 16 = .ok (.iload_n 1, 1) := by decide +kernel
theorem dX6_lays_17 : decode cX6_lays 17 = .ok (.invokevirtual 60, 3) := by decide +kernel
theorem dX6_lays_20 : decode cX6_lays 20 = .ok (.invokevirtual 52, 3) := by decide +kernel
theorem dX6_lays_23 : decode cX6_lays 23 = .ok (.ireturn, 1) := by decide +kernel
theorem dX6_wipes_0 : decode cX6_wipes 0 = .ok (.aload_n 0, 1) := by decide +kernel
theorem dX6_wipes_1 : decode cX6_wipes 1 = .ok (.getfield 19, 3) := by decide +kernel
theorem dX6_wipes_4 : decode cX6_wipes 4 = .ok (.aload_n 0, 1) := by decide +kernel
theorem dX6_wipes_5 : decode cX6_wipes 5 = .ok (.getfield 10, 3) := by decide +kernel
theorem dX6_wipes_8 : decode cX6_wipes 8 = .ok (.invokevirtual 44, 3) := by decide +kernel
theorem dX6_wipes_11 : decode cX6_wipes 11 = .ok (.aload_n 0, 1) := by decide +kernel
theorem dX6_wipes_12 : decode cX6_wipes 12 = .ok (.aload_n 0, 1) := by decide +kernel
theorem dX6_wipes_13 : decode cX6_wipes 13 = .ok (.getfield 10, 3) := by decide +kernel
theorem dX6_wipes_16 : decode cX6_wipes 16 = .ok (.invokevirtual 63, 3) := by decide +kernel
theorem dX6_wipes_19 : decode cX6_wipes 19 = .ok (.invokevirtual 52, 3) := by decide +kernel
theorem dX6_wipes_22 : decode cX6_wipes 22 = .ok (.ireturn, 1) := by decide +kernel
theorem dX6_start_0 : decode cX6_start 0 = .ok (.aload_n 0, 1) := by decide +kernel
theorem dX6_start_1 : decode cX6_start 1 = .ok (.getfield 19, 3) := by decide +kernel
theorem dX6_start_4 : decode cX6_start 4 = .ok (.aload_n 0, 1) := by decide +kernel
theorem dX6_start_5 : decode cX6_start 5 = .ok (.getfield 10, 3) := by decide +kernel
theorem dX6_start_8 : decode cX6_start 8 = .ok (.invokevirtual 44, 3) := by decide +kernel
theorem dX6_start_11 : decode cX6_start 11 = .ok (.aload_n 0, 1) := by decide +kernel
theorem dX6_start_12 : decode cX6_start 12 = .ok (.aload_n 0, 1) := by decide +kernel
theorem dX6_start_13 : decode cX6_start 13 = .ok (.getfield 10, 3) := by decide +kernel
theorem dX6_start_16 : decode cX6_start 16 = .ok (.iload_n 1, 1) := by decide +kernel
theorem dX6_start_17 : decode cX6_start 17 = .ok (.invokevirtual 66, 3) := by decide +kernel
theorem dX6_start_20 : decode cX6_start 20 = .ok (.invokevirtual 52, 3) := by decide +kernel
theorem dX6_start_23 : decode cX6_start 23 = .ok (.ireturn, 1) := by decide +kernel
theorem dX6_mode_0 : decode cX6_mode 0 = .ok (.aload_n 0, 1) := by decide +kernel
theorem dX6_mode_1 : decode cX6_mode 1 = .ok (.getfield 19, 3) := by decide +kernel
theorem dX6_mode_4 : decode cX6_mode 4 = .ok (.aload_n 0, 1) := by decide +kernel
theorem dX6_mode_5 : decode cX6_mode 5 = .ok (.getfield 10, 3) := by decide +kernel
theorem dX6_mode_8 : decode cX6_mode 8 = .ok (.invokevirtual 44, 3) := by decide +kernel
theorem dX6_mode_11 : decode cX6_mode 11 = .ok (.aload_n 0, 1) := by decide +kernel
theorem dX6_mode_12 : decode cX6_mode 12 = .ok (.aload_n 0, 1) := by decide +kernel
theorem dX6_mode_13 : decode cX6_mode 13 = .ok (.getfield 10, 3) := by decide +kernel
theorem dX6_mode_16 : decode cX6_mode 16 = .ok (.iload_n 1, 1) := by decide +kernel
theorem dX6_mode_17 : decode cX6_mode 17 = .ok (.invokevirtual 69, 3) := by decide +kernel
theorem dX6_mode_20 : decode cX6_mode 20 = .ok (.invokevirtual 52, 3) := by decide +kernel
theorem dX6_mode_23 : decode cX6_mode 23 = .ok (.ireturn, 1) := by decide +kernel
theorem dX6_shuffles_0 : decode cX6_shuffles 0 = .ok (.aload_n 0, 1) := by decide +kernel
theorem dX6_shuffles_1 : decode cX6_shuffles 1 = .ok (.getfield 19, 3) := by decide +kernel
theorem dX6_shuffles_4 : decode cX6_shuffles 4 = .ok (.aload_n 0, 1) := by decide +kernel
theorem dX6_shuffles_5 : decode cX6_shuffles 5 = .ok (.getfield 10, 3) := by decide +kernel
theorem dX6_shuffles_8 : decode cX6_shuffles 8 = .ok (.invokevirtual 44, 3) := by decide +kernel
theorem dX6_shuffles_11 : decode cX6_shuffles 11 = .ok (.aload_n 0, 1) := by decide +kernel
theorem dX6_shuffles_12 : decode cX6_shuffles 12 = .ok (.aload_n 0, 1) := by decide +kernel
theorem dX6_shuffles_13 : decode cX6_shuffles 13 = .ok (.getfield 10, 3) := by decide +kernel
theorem dX6_shuffles_16 : decode cX6_shuffles 16 = .ok (.iload_n 1, 1) := by decide +kernel
theorem dX6_shuffles_17 : decode cX6_shuffles 17 = .ok (.invokevirtual 72, 3) := by decide +kernel
theorem dX6_shuffles_20 : decode cX6_shuffles 20 = .ok (.invokevirtual 52, 3) := by decide +kernel
theorem dX6_shuffles_23 : decode cX6_shuffles 23 = .ok (.ireturn, 1) := by decide +kernel
theorem dX6_trims_0 : decode cX6_trims 0 = .ok (.aload_n 0, 1) := by decide +kernel
theorem dX6_trims_1 : decode cX6_trims 1 = .ok (.getfield 19, 3) := by decide +kernel
theorem dX6_trims_4 : decode cX6_trims 4 = .ok (.aload_n 0, 1) := by decide +kernel
theorem dX6_trims_5 : decode cX6_trims 5 = .ok (.getfield 10, 3) := by decide +kernel
theorem dX6_trims_8 : decode cX6_trims 8 = .ok (.invokevirtual 44, 3) := by decide +kernel
theorem dX6_trims_11 : decode cX6_trims 11 = .ok (.aload_n 0, 1) := by decide +kernel
theorem dX6_trims_12 : decode cX6_trims 12 = .ok (.aload_n 0, 1) := by decide +kernel
theorem dX6_trims_13 : decode cX6_trims 13 = .ok (.getfield 10, 3) := by decide +kernel
theorem dX6_trims_16 : decode cX6_trims 16 = .ok (.iload_n 1, 1) := by decide +kernel
theorem dX6_trims_17 : decode cX6_trims 17 = .ok (.invokevirtual 75, 3) := by decide +kernel
theorem dX6_trims_20 : decode cX6_trims 20 = .ok (.invokevirtual 52, 3) := by decide +kernel
theorem dX6_trims_23 : decode cX6_trims 23 = .ok (.ireturn, 1) := by decide +kernel
theorem dX6_of_0 : decode cX6_of 0 = .ok (.aload_n 0, 1) := by decide +kernel
theorem dX6_of_1 : decode cX6_of 1 = .ok (.getfield 10, 3) := by decide +kernel
theorem dX6_of_4 : decode cX6_of 4 = .ok (.iload_n 1, 1) := by decide +kernel
theorem dX6_of_5 : decode cX6_of 5 = .ok (.invokevirtual 78, 3) := by decide +kernel
theorem dX6_of_8 : decode cX6_of 8 = .ok (.ifCond .eq 12, 3) := by decide +kernel
theorem dX6_of_11 : decode cX6_of 11 = .ok (.iload_n 2, 1) := by decide +kernel
theorem dX6_of_12 : decode cX6_of 12 = .ok (.ifCond .lt 8, 3) := by decide +kernel
theorem dX6_of_15 : decode cX6_of 15 = .ok (.iload_n 2, 1) := by decide +kernel
theorem dX6_of_16 : decode cX6_of 16 = .ok (.iconst 5, 1) := by decide +kernel
theorem dX6_of_17 : decode cX6_of 17 = .ok (.if_icmp .le 10, 3) := by decide +kernel
theorem dX6_of_20 : decode cX6_of 20 = .ok (.aload_n 0, 1) := by decide +kernel
theorem dX6_of_21 : decode cX6_of 21 = .ok (.bipush (-2), 2) := by decide +kernel
theorem dX6_of_23 : decode cX6_of 23 = .ok (.invokevirtual 82, 3) := by decide +kernel
theorem dX6_of_26 : decode cX6_of 26 = .ok (.ireturn, 1) := by decide +kernel
theorem dX6_of_27 : decode cX6_of 27 = .ok (.iload_n 2, 1) := by decide +kernel
theorem dX6_of_28 : decode cX6_of 28 = .ok (.iconst 5, 1) := by decide +kernel
theorem dX6_of_29 : decode cX6_of 29 = .ok (.if_icmp .ne 24, 3) := by decide +kernel
theorem dX6_of_32 : decode cX6_of 32 = .ok (.aload_n 0, 1) := by decide +kernel
theorem dX6_of_33 : decode cX6_of 33 = .ok (.getfield 10, 3) := by decide +kernel
theorem dX6_of_36 : decode cX6_of 36 = .ok (.iload_n 1, 1) := by decide +kernel
theorem dX6_of_37 : decode cX6_of 37 = .ok (.aload_n 0, 1) := by decide +kernel
theorem dX6_of_38 : decode cX6_of 38 = .ok (.getfield 10, 3) := by decide +kernel
theorem dX6_of_41 : decode cX6_of 41 = .ok (.getfield 85, 3) := by decide +kernel
theorem dX6_of_44 : decode cX6_of 44 = .ok (.invokevirtual 89, 3) := by decide +kernel
theorem dX6_of_47 : decode cX6_of 47 = .ok (.invokestatic 93, 3) := by decide +kernel
theorem dX6_of_50 : decode cX6_of 50 = .ok (.goto 12, 3) := by decide +kernel
theorem dX6_of_53 : decode cX6_of 53 = .ok (.aload_n 0, 1) := by decide +kernel
theorem dX6_of_54 : decode cX6_of 54 = .ok (.getfield 10, 3) := by decide +kernel
theorem dX6_of_57 : decode cX6_of 57 = .ok (.iload_n 1, 1) := by decide +kernel
theorem dX6_of_58 : decode cX6_of 58 = .ok (.iload_n 2, 1) := by decide +kernel
theorem dX6_of_59 : decode cX6_of 59 = .ok (.invokevirtual 97, 3) := by decide +kernel
theorem dX6_of_62 : decode cX6_of 62 = .ok (.ireturn, 1) := by decide +kernel
theorem dX6_soils_0 : decode cX6_soils 0 = .ok (.aload_n 0, 1) := by decide +kernel
theorem dX6_soils_1 : decode cX6_soils 1 = .ok (.iload_n 1, 1) := by decide +kernel
theorem dX6_soils_2 : decode cX6_soils 2 = .ok (.iload_n 2, 1) := by decide +kernel
theorem dX6_soils_3 : decode cX6_soils 3 = .ok (.invokevirtual 101, 3) := by decide +kernel
theorem dX6_soils_6 : decode cX6_soils 6 = .ok (.ifCond .ne 10, 3) := by decide +kernel
theorem dX6_soils_9 : decode cX6_soils 9 = .ok (.aload_n 0, 1) := by decide +kernel
theorem dX6_soils_10 : decode cX6_soils 10 = .ok (.bipush (-2), 2) := by decide +kernel
theorem dX6_soils_12 : decode cX6_soils 12 = .ok (.invokevirtual 82, 3) := by decide +kernel
theorem dX6_soils_15 : decode cX6_soils 15 = .ok (.ireturn, 1) := by decide +kernel
theorem dX6_soils_16 : decode cX6_soils 16 = .ok (.aload_n 0, 1) := by decide +kernel
theorem dX6_soils_17 : decode cX6_soils 17 = .ok (.getfield 10, 3) := by decide +kernel
theorem dX6_soils_20 : decode cX6_soils 20 = .ok (.iload_n 1, 1) := by decide +kernel
theorem dX6_soils_21 : decode cX6_soils 21 = .ok (.iload_n 2, 1) := by decide +kernel
theorem dX6_soils_22 : decode cX6_soils 22 = .ok (.invokevirtual 104, 3) := by decide +kernel
theorem dX6_soils_25 : decode cX6_soils 25 = .ok (.invokestatic 93, 3) := by decide +kernel
theorem dX6_soils_28 : decode cX6_soils 28 = .ok (.ireturn, 1) := by decide +kernel
theorem dX6_cleans_0 : decode cX6_cleans 0 = .ok (.aload_n 0, 1) := by decide +kernel
theorem dX6_cleans_1 : decode cX6_cleans 1 = .ok (.iload_n 1, 1) := by decide +kernel
theorem dX6_cleans_2 : decode cX6_cleans 2 = .ok (.iload_n 2, 1) := by decide +kernel
theorem dX6_cleans_3 : decode cX6_cleans 3 = .ok (.invokevirtual 101, 3) := by decide +kernel
theorem dX6_cleans_6 : decode cX6_cleans 6 = .ok (.ifCond .ne 10, 3) := by decide +kernel
theorem dX6_cleans_9 : decode cX6_cleans 9 = .ok (.aload_n 0, 1) := by decide +kernel
theorem dX6_cleans_10 : decode cX6_cleans 10 = .ok (.bipush (-2), 2) := by decide +kernel
theorem dX6_cleans_12 : decode cX6_cleans 12 = .ok (.invokevirtual 82, 3) := by decide +kernel
theorem dX6_cleans_15 : decode cX6_cleans 15 = .ok (.ireturn, 1) := by decide +kernel
theorem dX6_cleans_16 : decode cX6_cleans 16 = .ok (.aload_n 0, 1) := by decide +kernel
theorem dX6_cleans_17 : decode cX6_cleans 17 = .ok (.getfield 10, 3) := by decide +kernel
theorem dX6_cleans_20 : decode cX6_cleans 20 = .ok (.iload_n 1, 1) := by decide +kernel
theorem dX6_cleans_21 : decode cX6_cleans 21 = .ok (.iload_n 2, 1) := by decide +kernel
theorem dX6_cleans_22 : decode cX6_cleans 22 = .ok (.invokevirtual 104, 3) := by decide +kernel
theorem dX6_cleans_25 : decode cX6_cleans 25 = .ok (.ifCond .ne 10, 3) := by decide +kernel
theorem dX6_cleans_28 : decode cX6_cleans 28 = .ok (.aload_n 0, 1) := by decide +kernel
theorem dX6_cleans_29 : decode cX6_cleans 29 = .ok (.bipush (-3), 2) := by decide +kernel
theorem dX6_cleans_31 : decode cX6_cleans 31 = .ok (.invokevirtual 82, 3) := by decide +kernel
theorem dX6_cleans_34 : decode cX6_cleans 34 = .ok (.ireturn, 1) := by decide +kernel
theorem dX6_cleans_35 : decode cX6_cleans 35 = .ok (.aload_n 0, 1) := by decide +kernel
theorem dX6_cleans_36 : decode cX6_cleans 36 = .ok (.getfield 10, 3) := by decide +kernel
theorem dX6_cleans_39 : decode cX6_cleans 39 = .ok (.iload_n 1, 1) := by decide +kernel
theorem dX6_cleans_40 : decode cX6_cleans 40 = .ok (.iload_n 2, 1) := by decide +kernel
theorem dX6_cleans_41 : decode cX6_cleans 41 = .ok (.invokevirtual 107, 3) := by decide +kernel
theorem dX6_cleans_44 : decode cX6_cleans 44 = .ok (.ireturn, 1) := by decide +kernel
theorem dX6_flips_0 : decode cX6_flips 0 = .ok (.iload_n 1, 1) := by decide +kernel
theorem dX6_flips_1 : decode cX6_flips 1 = .ok (.invokestatic 110, 3) := by decide +kernel
theorem dX6_flips_4 : decode cX6_flips 4 = .ok (.ifCond .ne 10, 3) := by decide +kernel
theorem dX6_flips_7 : decode cX6_flips 7 = .ok (.aload_n 0, 1) := by decide +kernel
theorem dX6_flips_8 : decode cX6_flips 8 = .ok (.bipush (-2), 2) := by decide +kernel
theorem dX6_flips_10 : decode cX6_flips 10 = .ok (.invokevirtual 82, 3) := by decide +kernel
theorem dX6_flips_13 : decode cX6_flips 13 = .ok (.ireturn, 1) := by decide +kernel
theorem dX6_flips_14 : decode cX6_flips 14 = .ok (.aload_n 0, 1) := by decide +kernel
theorem dX6_flips_15 : decode cX6_flips 15 = .ok (.iload_n 1, 1) := by decide +kernel
theorem dX6_flips_16 : decode cX6_flips 16 = .ok (.invokevirtual 113, 3) := by decide +kernel
theorem dX6_flips_19 : decode cX6_flips 19 = .ok (.ireturn, 1) := by decide +kernel
theorem dX6_seed_0 : decode cX6_seed 0 = .ok (.iload_n 1, 1) := by decide +kernel
theorem dX6_seed_1 : decode cX6_seed 1 = .ok (.invokestatic 110, 3) := by decide +kernel
theorem dX6_seed_4 : decode cX6_seed 4 = .ok (.ifCond .eq 14, 3) := by decide +kernel
theorem dX6_seed_7 : decode cX6_seed 7 = .ok (.aload_n 0, 1) := by decide +kernel
theorem dX6_seed_8 : decode cX6_seed 8 = .ok (.getfield 10, 3) := by decide +kernel
theorem dX6_seed_11 : decode cX6_seed 11 = .ok (.iload_n 2, 1) := by decide +kernel
theorem dX6_seed_12 : decode cX6_seed 12 = .ok (.invokevirtual 78, 3) := by decide +kernel
theorem dX6_seed_15 : decode cX6_seed 15 = .ok (.ifCond .ne 10, 3) := by decide +kernel
theorem dX6_seed_18 : decode cX6_seed 18 = .ok (.aload_n 0, 1) := by decide +kernel
theorem dX6_seed_19 : decode cX6_seed 19 = .ok (.bipush (-2), 2) := by decide +kernel
theorem dX6_seed_21 : decode cX6_seed 21 = .ok (.invokevirtual 82, 3) := by decide +kernel
theorem dX6_seed_24 : decode cX6_seed 24 = .ok (.ireturn, 1) := by decide +kernel
theorem dX6_seed_25 : decode cX6_seed 25 = .ok (.iconst 0, 1) := by decide +kernel
theorem dX6_seed_26 : decode cX6_seed 26 = .ok (.istore_n 3, 1) := by decide +kernel
theorem dX6_seed_27 : decode cX6_seed 27 = .ok (.iload_n 3, 1) := by decide +kernel
theorem dX6_seed_28 : decode cX6_seed 28 = .ok (.sipush 200, 3) := by decide +kernel
theorem dX6_seed_31 : decode cX6_seed 31 = .ok (.if_icmp .ge 35, 3) := by decide +kernel
theorem dX6_seed_34 : decode cX6_seed 34 = .ok (.iload_n 1, 1) := by decide +kernel
theorem dX6_seed_35 : decode cX6_seed 35 = .ok (.iload_n 3, 1) := by decide +kernel
theorem dX6_seed_36 : decode cX6_seed 36 = .ok (.iadd, 1) := by decide +kernel
theorem dX6_seed_37 : decode cX6_seed 37 = .ok (.ldc 116, 2) := by decide +kernel
theorem dX6_seed_39 : decode cX6_seed 39 = .ok (.if_icmp .gt 27, 3) := by decide +kernel
theorem dX6_seed_42 : decode cX6_seed 42 = .ok (.iload_n 2, 1) := by decide +kernel
theorem dX6_seed_43 : decode cX6_seed 43 = .ok (.aload_n 0, 1) := by decide +kernel
theorem dX6_seed_44 : decode cX6_seed 44 = .ok (.iload_n 1, 1) := by decide +kernel
theorem dX6_seed_45 : decode cX6_seed 45 = .ok (.iload_n 3, 1) := by decide +kernel
theorem dX6_seed_46 : decode cX6_seed 46 = .ok (.iadd, 1) := by decide +kernel
theorem dX6_seed_47 : decode cX6_seed 47 = .ok (.invokevirtual 113, 3) := by decide +kernel
theorem dX6_seed_50 : decode cX6_seed 50 = .ok (.invokestatic 117, 3) := by decide +kernel
theorem dX6_seed_53 : decode cX6_seed 53 = .ok (.ifCond .eq 7, 3) := by decide +kernel
theorem dX6_seed_56 : decode cX6_seed 56 = .ok (.iload_n 1, 1) := by decide +kernel
theorem dX6_seed_57 : decode cX6_seed 57 = .ok (.iload_n 3, 1) := by decide +kernel
theorem dX6_seed_58 : decode cX6_seed 58 = .ok (.iadd, 1) := by decide +kernel
theorem dX6_seed_59 : decode cX6_seed 59 = .ok (.ireturn, 1) := by decide +kernel
theorem dX6_seed_60 : decode cX6_seed 60 = .ok (.iinc 3 1, 3) := by decide +kernel
theorem dX6_seed_63 : decode cX6_seed 63 = .ok (.goto (-36), 3) := by decide +kernel
theorem dX6_seed_66 : decode cX6_seed 66 = .ok (.iconst (-1), 1) := by decide +kernel
theorem dX6_seed_67 : decode cX6_seed 67 = .ok (.ireturn, 1) := by decide +kernel
theorem dX6_at_0 : decode cX6_at 0 = .ok (.iload_n 1, 1) := by decide +kernel
theorem dX6_at_1 : decode cX6_at 1 = .ok (.ifCond .ge 10, 3) := by decide +kernel
theorem dX6_at_4 : decode cX6_at 4 = .ok (.aload_n 0, 1) := by decide +kernel
theorem dX6_at_5 : decode cX6_at 5 = .ok (.bipush (-2), 2) := by decide +kernel
theorem dX6_at_7 : decode cX6_at 7 = .ok (.invokevirtual 82, 3) := by decide +kernel
theorem dX6_at_10 : decode cX6_at 10 = .ok (.ireturn, 1) := by decide +kernel
theorem dX6_at_11 : decode cX6_at 11 = .ok (.aload_n 0, 1) := by decide +kernel
theorem dX6_at_12 : decode cX6_at 12 = .ok (.getfield 10, 3) := by decide +kernel
theorem dX6_at_15 : decode cX6_at 15 = .ok (.getfield 120, 3) := by decide +kernel
theorem dX6_at_18 : decode cX6_at 18 = .ok (.iload_n 1, 1) := by decide +kernel
theorem dX6_at_19 : decode cX6_at 19 = .ok (.invokevirtual 123, 3) := by decide +kernel
theorem dX6_at_22 : decode cX6_at 22 = .ok (.ireturn, 1) := by decide +kernel
theorem dX6_inRow_0 : decode cX6_inRow 0 = .ok (.aload_n 0, 1) := by decide +kernel
theorem dX6_inRow_1 : decode cX6_inRow 1 = .ok (.getfield 10, 3) := by decide +kernel
theorem dX6_inRow_4 : decode cX6_inRow 4 = .ok (.iload_n 1, 1) := by decide +kernel
theorem dX6_inRow_5 : decode cX6_inRow 5 = .ok (.invokevirtual 78, 3) := by decide +kernel
theorem dX6_inRow_8 : decode cX6_inRow 8 = .ok (.ifCond .eq 12, 3) := by decide +kernel
theorem dX6_inRow_11 : decode cX6_inRow 11 = .ok (.iload_n 2, 1) := by decide +kernel
theorem dX6_inRow_12 : decode cX6_inRow 12 = .ok (.ifCond .lt 8, 3) := by decide +kernel
theorem dX6_inRow_15 : decode cX6_inRow 15 = .ok (.iload_n 2, 1) := by decide +kernel
theorem dX6_inRow_16 : decode cX6_inRow 16 = .ok (.iconst 4, 1) := by decide +kernel
theorem dX6_inRow_17 : decode cX6_inRow 17 = .ok (.if_icmp .le 10, 3) := by decide +kernel
theorem dX6_inRow_20 : decode cX6_inRow 20 = .ok (.aload_n 0, 1) := by decide +kernel
theorem dX6_inRow_21 : decode cX6_inRow 21 = .ok (.bipush (-2), 2) := by decide +kernel
theorem dX6_inRow_23 : decode cX6_inRow 23 = .ok (.invokevirtual 82, 3) := by decide +kernel
theorem dX6_inRow_26 : decode cX6_inRow 26 = .ok (.ireturn, 1) := by decide +kernel
theorem dX6_inRow_27 : decode cX6_inRow 27 = .ok (.aload_n 0, 1) := by decide +kernel
theorem dX6_inRow_28 : decode cX6_inRow 28 = .ok (.getfield 10, 3) := by decide +kernel
theorem dX6_inRow_31 : decode cX6_inRow 31 = .ok (.getfield 120, 3) := by decide +kernel
theorem dX6_inRow_34 : decode cX6_inRow 34 = .ok (.iload_n 1, 1) := by decide +kernel
theorem dX6_inRow_35 : decode cX6_inRow 35 = .ok (.invokevirtual 126, 3) := by decide +kernel
theorem dX6_inRow_38 : decode cX6_inRow 38 = .ok (.istore_n 3, 1) := by decide +kernel
theorem dX6_inRow_39 : decode cX6_inRow 39 = .ok (.iload_n 3, 1) := by decide +kernel
theorem dX6_inRow_40 : decode cX6_inRow 40 = .ok (.iconst (-1), 1) := by decide +kernel
theorem dX6_inRow_41 : decode cX6_inRow 41 = .ok (.if_icmp .ne 10, 3) := by decide +kernel
theorem dX6_inRow_44 : decode cX6_inRow 44 = .ok (.aload_n 0, 1) := by decide +kernel
theorem dX6_inRow_45 : decode cX6_inRow 45 = .ok (.bipush (-3), 2) := by decide +kernel
theorem dX6_inRow_47 : decode cX6_inRow 47 = .ok (.invokevirtual 82, 3) := by decide +kernel
theorem dX6_inRow_50 : decode cX6_inRow 50 = .ok (.ireturn, 1) := by decide +kernel
theorem dX6_inRow_51 : decode cX6_inRow 51 = .ok (.aload_n 0, 1) := by decide +kernel
theorem dX6_inRow_52 : decode cX6_inRow 52 = .ok (.getfield 10, 3) := by decide +kernel
theorem dX6_inRow_55 : decode cX6_inRow 55 = .ok (.aload_n 0, 1) := by decide +kernel
theorem dX6_inRow_56 : decode cX6_inRow 56 = .ok (.getfield 10, 3) := by decide +kernel
theorem dX6_inRow_59 : decode cX6_inRow 59 = .ok (.getfield 120, 3) := by decide +kernel
theorem dX6_inRow_62 : decode cX6_inRow 62 = .ok (.iload_n 3, 1) := by decide +kernel
theorem dX6_inRow_63 : decode cX6_inRow 63 = .ok (.invokevirtual 129, 3) := by decide +kernel
theorem dX6_inRow_66 : decode cX6_inRow 66 = .ok (.invokevirtual 132, 3) := by decide +kernel
theorem dX6_inRow_69 : decode cX6_inRow 69 = .ok (.istore 4, 2) := by decide +kernel
theorem dX6_inRow_71 : decode cX6_inRow 71 = .ok (.iload_n 2, 1) := by decide +kernel
theorem dX6_inRow_72 : decode cX6_inRow 72 = .ok (.tableswitch 73 0 3 #[32, 34, 48, 62], 32) := by decide +kernel
theorem dX6_inRow_104 : decode cX6_inRow 104 = .ok (.iload_n 3, 1) := by decide +kernel
theorem dX6_inRow_105 : decode cX6_inRow 105 = .ok (.ireturn, 1) := by decide +kernel
theorem dX6_inRow_106 : decode cX6_inRow 106 = .ok (.aload_n 0, 1) := by decide +kernel
theorem dX6_inRow_107 : decode cX6_inRow 107 = .ok (.getfield 10, 3) := by decide +kernel
theorem dX6_inRow_110 : decode cX6_inRow 110 = .ok (.iload_n 1, 1) := by decide +kernel
theorem dX6_inRow_111 : decode cX6_inRow 111 = .ok (.iload 4, 2) := by decide +kernel
theorem dX6_inRow_113 : decode cX6_inRow 113 = .ok (.invokevirtual 89, 3) := by decide +kernel
theorem dX6_inRow_116 : decode cX6_inRow 116 = .ok (.invokestatic 93, 3) := by decide +kernel
theorem dX6_inRow_119 : decode cX6_inRow 119 = .ok (.ireturn, 1) := by decide +kernel
theorem dX6_inRow_120 : decode cX6_inRow 120 = .ok (.aload_n 0, 1) := by decide +kernel
theorem dX6_inRow_121 : decode cX6_inRow 121 = .ok (.getfield 10, 3) := by decide +kernel
theorem dX6_inRow_124 : decode cX6_inRow 124 = .ok (.iload_n 1, 1) := by decide +kernel
theorem dX6_inRow_125 : decode cX6_inRow 125 = .ok (.iload 4, 2) := by decide +kernel
theorem dX6_inRow_127 : decode cX6_inRow 127 = .ok (.invokevirtual 135, 3) := by decide +kernel
theorem dX6_inRow_130 : decode cX6_inRow 130 = .ok (.invokestatic 93, 3) := by decide +kernel
theorem dX6_inRow_133 : decode cX6_inRow 133 = .ok (.ireturn, 1) := by decide +kernel
theorem dX6_inRow_134 : decode cX6_inRow 134 = .ok (.aload_n 0, 1) := by decide +kernel
theorem dX6_inRow_135 : decode cX6_inRow 135 = .ok (.getfield 10, 3) := by decide +kernel
theorem dX6_inRow_138 : decode cX6_inRow 138 = .ok (.iload_n 1, 1) := by decide +kernel
theorem dX6_inRow_139 : decode cX6_inRow 139 = .ok (.iload 4, 2) := by decide +kernel
theorem dX6_inRow_141 : decode cX6_inRow 141 = .ok (.invokevirtual 138, 3) := by decide +kernel
theorem dX6_inRow_144 : decode cX6_inRow 144 = .ok (.ireturn, 1) := by decide +kernel
theorem dX6_inRow_145 : decode cX6_inRow 145 = .ok (.aload_n 0, 1) := by decide +kernel
theorem dX6_inRow_146 : decode cX6_inRow 146 = .ok (.getfield 10, 3) := by decide +kernel
theorem dX6_inRow_149 : decode cX6_inRow 149 = .ok (.iload_n 1, 1) := by decide +kernel
theorem dX6_inRow_150 : decode cX6_inRow 150 = .ok (.iload 4, 2) := by decide +kernel
theorem dX6_inRow_152 : decode cX6_inRow 152 = .ok (.invokevirtual 141, 3) := by decide +kernel
theorem dX6_inRow_155 : decode cX6_inRow 155 = .ok (.ireturn, 1) := by decide +kernel
theorem dX6_who_0 : decode cX6_who 0 = .ok (.aload_n 0, 1) := by decide +kernel
theorem dX6_who_1 : decode cX6_who 1 = .ok (.getfield 10, 3) := by decide +kernel
theorem dX6_who_4 : decode cX6_who 4 = .ok (.iload_n 1, 1) := by decide +kernel
theorem dX6_who_5 : decode cX6_who 5 = .ok (.invokevirtual 78, 3) := by decide +kernel
theorem dX6_who_8 : decode cX6_who 8 = .ok (.ifCond .eq 13, 3) := by decide +kernel
theorem dX6_who_11 : decode cX6_who 11 = .ok (.iload_n 2, 1) := by decide +kernel
theorem dX6_who_12 : decode cX6_who 12 = .ok (.ifCond .lt 9, 3) := by decide +kernel
theorem dX6_who_15 : decode cX6_who 15 = .ok (.iload_n 2, 1) := by decide +kernel
theorem dX6_who_16 : decode cX6_who 16 = .ok (.bipush 6, 2) := by decide +kernel
theorem dX6_who_18 : decode cX6_who 18 = .ok (.if_icmp .lt 10, 3) := by decide +kernel
theorem dX6_who_21 : decode cX6_who 21 = .ok (.aload_n 0, 1) := by decide +kernel
theorem dX6_who_22 : decode cX6_who 22 = .ok (.bipush (-2), 2) := by decide +kernel
theorem dX6_who_24 : decode cX6_who 24 = .ok (.invokevirtual 82, 3) := by decide +kernel
theorem dX6_who_27 : decode cX6_who 27 = .ok (.ireturn, 1) := by decide +kernel
theorem dX6_who_28 : decode cX6_who 28 = .ok (.aload_n 0, 1) := by decide +kernel
theorem dX6_who_29 : decode cX6_who 29 = .ok (.getfield 10, 3) := by decide +kernel
theorem dX6_who_32 : decode cX6_who 32 = .ok (.getfield 120, 3) := by decide +kernel
theorem dX6_who_35 : decode cX6_who 35 = .ok (.iload_n 1, 1) := by decide +kernel
theorem dX6_who_36 : decode cX6_who 36 = .ok (.invokevirtual 126, 3) := by decide +kernel
theorem dX6_who_39 : decode cX6_who 39 = .ok (.istore_n 3, 1) := by decide +kernel
theorem dX6_who_40 : decode cX6_who 40 = .ok (.iload_n 3, 1) := by decide +kernel
theorem dX6_who_41 : decode cX6_who 41 = .ok (.iconst (-1), 1) := by decide +kernel
theorem dX6_who_42 : decode cX6_who 42 = .ok (.if_icmp .ne 10, 3) := by decide +kernel
theorem dX6_who_45 : decode cX6_who 45 = .ok (.aload_n 0, 1) := by decide +kernel
theorem dX6_who_46 : decode cX6_who 46 = .ok (.bipush (-3), 2) := by decide +kernel
theorem dX6_who_48 : decode cX6_who 48 = .ok (.invokevirtual 82, 3) := by decide +kernel
theorem dX6_who_51 : decode cX6_who 51 = .ok (.ireturn, 1) := by decide +kernel
theorem dX6_who_52 : decode cX6_who 52 = .ok (.aload_n 0, 1) := by decide +kernel
theorem dX6_who_53 : decode cX6_who 53 = .ok (.getfield 10, 3) := by decide +kernel
theorem dX6_who_56 : decode cX6_who 56 = .ok (.iload_n 2, 1) := by decide +kernel
theorem dX6_who_57 : decode cX6_who 57 = .ok (.iload_n 3, 1) := by decide +kernel
theorem dX6_who_58 : decode cX6_who 58 = .ok (.invokevirtual 144, 3) := by decide +kernel
theorem dX6_who_61 : decode cX6_who 61 = .ok (.ireturn, 1) := by decide +kernel
theorem dX6_left_0 : decode cX6_left 0 = .ok (.iload_n 2, 1) := by decide +kernel
theorem dX6_left_1 : decode cX6_left 1 = .ok (.ifCond .lt 8, 3) := by decide +kernel
theorem dX6_left_4 : decode cX6_left 4 = .ok (.iload_n 2, 1) := by decide +kernel
theorem dX6_left_5 : decode cX6_left 5 = .ok (.iconst 2, 1) := by decide +kernel
theorem dX6_left_6 : decode cX6_left 6 = .ok (.if_icmp .le 10, 3) := by decide +kernel
theorem dX6_left_9 : decode cX6_left 9 = .ok (.aload_n 0, 1) := by decide +kernel
theorem dX6_left_10 : decode cX6_left 10 = .ok (.bipush (-2), 2) := by decide +kernel
theorem dX6_left_12 : decode cX6_left 12 = .ok (.invokevirtual 82, 3) := by decide +kernel
theorem dX6_left_15 : decode cX6_left 15 = .ok (.ireturn, 1) := by decide +kernel
theorem dX6_left_16 : decode cX6_left 16 = .ok (.aload_n 0, 1) := by decide +kernel
theorem dX6_left_17 : decode cX6_left 17 = .ok (.getfield 10, 3) := by decide +kernel
theorem dX6_left_20 : decode cX6_left 20 = .ok (.iload_n 1, 1) := by decide +kernel
theorem dX6_left_21 : decode cX6_left 21 = .ok (.invokevirtual 147, 3) := by decide +kernel
theorem dX6_left_24 : decode cX6_left 24 = .ok (.istore_n 3, 1) := by decide +kernel
theorem dX6_left_25 : decode cX6_left 25 = .ok (.iload_n 3, 1) := by decide +kernel
theorem dX6_left_26 : decode cX6_left 26 = .ok (.ifCond .ge 9, 3) := by decide +kernel
theorem dX6_left_29 : decode cX6_left 29 = .ok (.aload_n 0, 1) := by decide +kernel
theorem dX6_left_30 : decode cX6_left 30 = .ok (.iload_n 3, 1) := by decide +kernel
end
section
theorem dX6_left_31 : decode cX6_left 31 = .ok (.invokevirtual 82, 3) := by decide +kernel
theorem dX6_left_34 : decode cX6_left 34 = .ok (.ireturn, 1) := by decide +kernel
theorem dX6_left_35 : decode cX6_left 35 = .ok (.iload_n 2, 1) := by decide +kernel
theorem dX6_left_36 : decode cX6_left 36 = .ok (.lookupswitch 48 #[(0, 28), (1, 38)], 28) := by decide +kernel
theorem dX6_left_64 : decode cX6_left 64 = .ok (.aload_n 0, 1) := by decide +kernel
theorem dX6_left_65 : decode cX6_left 65 = .ok (.getfield 10, 3) := by decide +kernel
theorem dX6_left_68 : decode cX6_left 68 = .ok (.iload_n 3, 1) := by decide +kernel
theorem dX6_left_69 : decode cX6_left 69 = .ok (.iload_n 1, 1) := by decide +kernel
theorem dX6_left_70 : decode cX6_left 70 = .ok (.invokestatic 150, 3) := by decide +kernel
theorem dX6_left_73 : decode cX6_left 73 = .ok (.ireturn, 1) := by decide +kernel
theorem dX6_left_74 : decode cX6_left 74 = .ok (.aload_n 0, 1) := by decide +kernel
theorem dX6_left_75 : decode cX6_left 75 = .ok (.getfield 10, 3) := by decide +kernel
theorem dX6_left_78 : decode cX6_left 78 = .ok (.iload_n 3, 1) := by decide +kernel
theorem dX6_left_79 : decode cX6_left 79 = .ok (.iload_n 1, 1) := by decide +kernel
theorem dX6_left_80 : decode cX6_left 80 = .ok (.invokestatic 156, 3) := by decide +kernel
theorem dX6_left_83 : decode cX6_left 83 = .ok (.ireturn, 1) := by decide +kernel
theorem dX6_left_84 : decode cX6_left 84 = .ok (.aload_n 0, 1) := by decide +kernel
theorem dX6_left_85 : decode cX6_left 85 = .ok (.getfield 10, 3) := by decide +kernel
theorem dX6_left_88 : decode cX6_left 88 = .ok (.iload_n 3, 1) := by decide +kernel
theorem dX6_left_89 : decode cX6_left 89 = .ok (.iload_n 1, 1) := by decide +kernel
theorem dX6_left_90 : decode cX6_left 90 = .ok (.invokestatic 159, 3) := by decide +kernel
theorem dX6_left_93 : decode cX6_left 93 = .ok (.ireturn, 1) := by decide +kernel
theorem dX6_count_0 : decode cX6_count 0 = .ok (.iload_n 1, 1) := by decide +kernel
theorem dX6_count_1 : decode cX6_count 1 = .ok (.tableswitch 137 0 7 #[47, 55, 66, 74, 82, 93, 111, 129], 47) := by decide +kernel
theorem dX6_count_48 : decode cX6_count 48 = .ok (.aload_n 0, 1) := by decide +kernel
theorem dX6_count_49 : decode cX6_count 49 = .ok (.getfield 10, 3) := by decide +kernel
theorem dX6_count_52 : decode cX6_count 52 = .ok (.getfield 162, 3) := by decide +kernel
theorem dX6_count_55 : decode cX6_count 55 = .ok (.ireturn, 1) := by decide +kernel
theorem dX6_count_56 : decode cX6_count 56 = .ok (.aload_n 0, 1) := by decide +kernel
theorem dX6_count_57 : decode cX6_count 57 = .ok (.getfield 10, 3) := by decide +kernel
theorem dX6_count_60 : decode cX6_count 60 = .ok (.getfield 120, 3) := by decide +kernel
theorem dX6_count_63 : decode cX6_count 63 = .ok (.getfield 165, 3) := by decide +kernel
theorem dX6_count_66 : decode cX6_count 66 = .ok (.ireturn, 1) := by decide +kernel
theorem dX6_count_67 : decode cX6_count 67 = .ok (.aload_n 0, 1) := by decide +kernel
theorem dX6_count_68 : decode cX6_count 68 = .ok (.getfield 10, 3) := by decide +kernel
theorem dX6_count_71 : decode cX6_count 71 = .ok (.getfield 85, 3) := by decide +kernel
theorem dX6_count_74 : decode cX6_count 74 = .ok (.ireturn, 1) := by decide +kernel
theorem dX6_count_75 : decode cX6_count 75 = .ok (.aload_n 0, 1) := by decide +kernel
theorem dX6_count_76 : decode cX6_count 76 = .ok (.getfield 10, 3) := by decide +kernel
theorem dX6_count_79 : decode cX6_count 79 = .ok (.getfield 166, 3) := by decide +kernel
theorem dX6_count_82 : decode cX6_count 82 = .ok (.ireturn, 1) := by decide +kernel
theorem dX6_count_83 : decode cX6_count 83 = .ok (.aload_n 0, 1) := by decide +kernel
theorem dX6_count_84 : decode cX6_count 84 = .ok (.getfield 10, 3) := by decide +kernel
theorem dX6_count_87 : decode cX6_count 87 = .ok (.sipush 255, 3) := by decide +kernel
theorem dX6_count_90 : decode cX6_count 90 = .ok (.invokevirtual 132, 3) := by decide +kernel
theorem dX6_count_93 : decode cX6_count 93 = .ok (.ireturn, 1) := by decide +kernel
theorem dX6_count_94 : decode cX6_count 94 = .ok (.aload_n 0, 1) := by decide +kernel
theorem dX6_count_95 : decode cX6_count 95 = .ok (.getfield 10, 3) := by decide +kernel
theorem dX6_count_98 : decode cX6_count 98 = .ok (.aload_n 0, 1) := by decide +kernel
theorem dX6_count_99 : decode cX6_count 99 = .ok (.getfield 10, 3) := by decide +kernel
theorem dX6_count_102 : decode cX6_count 102 = .ok (.getfield 120, 3) := by decide +kernel
theorem dX6_count_105 : decode cX6_count 105 = .ok (.invokevirtual 169, 3) := by decide +kernel
theorem dX6_count_108 : decode cX6_count 108 = .ok (.invokestatic 173, 3) := by decide +kernel
theorem dX6_count_111 : decode cX6_count 111 = .ok (.ireturn, 1) := by decide +kernel
theorem dX6_count_112 : decode cX6_count 112 = .ok (.aload_n 0, 1) := by decide +kernel
theorem dX6_count_113 : decode cX6_count 113 = .ok (.getfield 10, 3) := by decide +kernel
theorem dX6_count_116 : decode cX6_count 116 = .ok (.aload_n 0, 1) := by decide +kernel
theorem dX6_count_117 : decode cX6_count 117 = .ok (.getfield 10, 3) := by decide +kernel
theorem dX6_count_120 : decode cX6_count 120 = .ok (.getfield 120, 3) := by decide +kernel
theorem dX6_count_123 : decode cX6_count 123 = .ok (.invokevirtual 178, 3) := by decide +kernel
theorem dX6_count_126 : decode cX6_count 126 = .ok (.invokestatic 173, 3) := by decide +kernel
theorem dX6_count_129 : decode cX6_count 129 = .ok (.ireturn, 1) := by decide +kernel
theorem dX6_count_130 : decode cX6_count 130 = .ok (.aload_n 0, 1) := by decide +kernel
theorem dX6_count_131 : decode cX6_count 131 = .ok (.getfield 10, 3) := by decide +kernel
theorem dX6_count_134 : decode cX6_count 134 = .ok (.invokevirtual 181, 3) := by decide +kernel
theorem dX6_count_137 : decode cX6_count 137 = .ok (.ireturn, 1) := by decide +kernel
theorem dX6_count_138 : decode cX6_count 138 = .ok (.aload_n 0, 1) := by decide +kernel
theorem dX6_count_139 : decode cX6_count 139 = .ok (.bipush (-2), 2) := by decide +kernel
theorem dX6_count_141 : decode cX6_count 141 = .ok (.invokevirtual 82, 3) := by decide +kernel
theorem dX6_count_144 : decode cX6_count 144 = .ok (.ireturn, 1) := by decide +kernel
theorem dX6_type_0 : decode cX6_type 0 = .ok (.iload_n 1, 1) := by decide +kernel
theorem dX6_type_1 : decode cX6_type 1 = .ok (.ifCond .lt 9, 3) := by decide +kernel
theorem dX6_type_4 : decode cX6_type 4 = .ok (.iload_n 1, 1) := by decide +kernel
theorem dX6_type_5 : decode cX6_type 5 = .ok (.bipush 127, 2) := by decide +kernel
theorem dX6_type_7 : decode cX6_type 7 = .ok (.if_icmp .le 10, 3) := by decide +kernel
theorem dX6_type_10 : decode cX6_type 10 = .ok (.aload_n 0, 1) := by decide +kernel
theorem dX6_type_11 : decode cX6_type 11 = .ok (.bipush (-2), 2) := by decide +kernel
theorem dX6_type_13 : decode cX6_type 13 = .ok (.invokevirtual 82, 3) := by decide +kernel
theorem dX6_type_16 : decode cX6_type 16 = .ok (.ireturn, 1) := by decide +kernel
theorem dX6_type_17 : decode cX6_type 17 = .ok (.aload_n 0, 1) := by decide +kernel
theorem dX6_type_18 : decode cX6_type 18 = .ok (.getfield 26, 3) := by decide +kernel
theorem dX6_type_21 : decode cX6_type 21 = .ok (.invokevirtual 184, 3) := by decide +kernel
theorem dX6_type_24 : decode cX6_type 24 = .ok (.ifCond .eq 10, 3) := by decide +kernel
theorem dX6_type_27 : decode cX6_type 27 = .ok (.aload_n 0, 1) := by decide +kernel
theorem dX6_type_28 : decode cX6_type 28 = .ok (.bipush (-4), 2) := by decide +kernel
theorem dX6_type_30 : decode cX6_type 30 = .ok (.invokevirtual 82, 3) := by decide +kernel
theorem dX6_type_33 : decode cX6_type 33 = .ok (.ireturn, 1) := by decide +kernel
theorem dX6_type_34 : decode cX6_type 34 = .ok (.aload_n 0, 1) := by decide +kernel
theorem dX6_type_35 : decode cX6_type 35 = .ok (.getfield 26, 3) := by decide +kernel
theorem dX6_type_38 : decode cX6_type 38 = .ok (.iload_n 1, 1) := by decide +kernel
theorem dX6_type_39 : decode cX6_type 39 = .ok (.invokevirtual 188, 3) := by decide +kernel
theorem dX6_type_42 : decode cX6_type 42 = .ok (.ireturn, 1) := by decide +kernel
theorem dX6_clear_0 : decode cX6_clear 0 = .ok (.aload_n 0, 1) := by decide +kernel
theorem dX6_clear_1 : decode cX6_clear 1 = .ok (.getfield 26, 3) := by decide +kernel
theorem dX6_clear_4 : decode cX6_clear 4 = .ok (.invokevirtual 191, 3) := by decide +kernel
theorem dX6_clear_7 : decode cX6_clear 7 = .ok (.ireturn, 1) := by decide +kernel
theorem dX6_does_0 : decode cX6_does 0 = .ok (.aload_n 0, 1) := by decide +kernel
theorem dX6_does_1 : decode cX6_does 1 = .ok (.getfield 33, 3) := by decide +kernel
theorem dX6_does_4 : decode cX6_does 4 = .ok (.aload_n 0, 1) := by decide +kernel
theorem dX6_does_5 : decode cX6_does 5 = .ok (.getfield 26, 3) := by decide +kernel
theorem dX6_does_8 : decode cX6_does 8 = .ok (.invokevirtual 194, 3) := by decide +kernel
theorem dX6_does_11 : decode cX6_does 11 = .ok (.istore_n 1, 1) := by decide +kernel
theorem dX6_does_12 : decode cX6_does 12 = .ok (.iload_n 1, 1) := by decide +kernel
theorem dX6_does_13 : decode cX6_does 13 = .ok (.iconst (-1), 1) := by decide +kernel
theorem dX6_does_14 : decode cX6_does 14 = .ok (.if_icmp .eq 8, 3) := by decide +kernel
theorem dX6_does_17 : decode cX6_does 17 = .ok (.bipush (-10), 2) := by decide +kernel
theorem dX6_does_19 : decode cX6_does 19 = .ok (.iload_n 1, 1) := by decide +kernel
theorem dX6_does_20 : decode cX6_does 20 = .ok (.isub, 1) := by decide +kernel
theorem dX6_does_21 : decode cX6_does 21 = .ok (.ireturn, 1) := by decide +kernel
theorem dX6_does_22 : decode cX6_does 22 = .ok (.aload_n 0, 1) := by decide +kernel
theorem dX6_does_23 : decode cX6_does 23 = .ok (.getfield 19, 3) := by decide +kernel
theorem dX6_does_26 : decode cX6_does 26 = .ok (.aload_n 0, 1) := by decide +kernel
theorem dX6_does_27 : decode cX6_does 27 = .ok (.getfield 10, 3) := by decide +kernel
theorem dX6_does_30 : decode cX6_does 30 = .ok (.invokevirtual 44, 3) := by decide +kernel
theorem dX6_does_33 : decode cX6_does 33 = .ok (.iconst 0, 1) := by decide +kernel
theorem dX6_does_34 : decode cX6_does 34 = .ok (.istore_n 2, 1) := by decide +kernel
theorem dX6_does_35 : decode cX6_does 35 = .ok (.iload_n 2, 1) := by decide +kernel
theorem dX6_does_36 : decode cX6_does 36 = .ok (.aload_n 0, 1) := by decide +kernel
theorem dX6_does_37 : decode cX6_does 37 = .ok (.getfield 33, 3) := by decide +kernel
theorem dX6_does_40 : decode cX6_does 40 = .ok (.getfield 198, 3) := by decide +kernel
theorem dX6_does_43 : decode cX6_does 43 = .ok (.if_icmp .ge 34, 3) := by decide +kernel
theorem dX6_does_46 : decode cX6_does 46 = .ok (.aload_n 0, 1) := by decide +kernel
theorem dX6_does_47 : decode cX6_does 47 = .ok (.iload_n 2, 1) := by decide +kernel
theorem dX6_does_48 : decode cX6_does 48 = .ok (.invokevirtual 199, 3) := by decide +kernel
theorem dX6_does_51 : decode cX6_does 51 = .ok (.ifCond .ge 20, 3) := by decide +kernel
theorem dX6_does_54 : decode cX6_does 54 = .ok (.aload_n 0, 1) := by decide +kernel
theorem dX6_does_55 : decode cX6_does 55 = .ok (.getfield 19, 3) := by decide +kernel
theorem dX6_does_58 : decode cX6_does 58 = .ok (.aload_n 0, 1) := by decide +kernel
theorem dX6_does_59 : decode cX6_does 59 = .ok (.getfield 10, 3) := by decide +kernel
theorem dX6_does_62 : decode cX6_does 62 = .ok (.invokevirtual 202, 3) := by decide +kernel
theorem dX6_does_65 : decode cX6_does 65 = .ok (.sipush (-1000), 3) := by decide +kernel
theorem dX6_does_68 : decode cX6_does 68 = .ok (.iload_n 2, 1) := by decide +kernel
theorem dX6_does_69 : decode cX6_does 69 = .ok (.isub, 1) := by decide +kernel
theorem dX6_does_70 : decode cX6_does 70 = .ok (.ireturn, 1) := by decide +kernel
theorem dX6_does_71 : decode cX6_does 71 = .ok (.iinc 2 1, 3) := by decide +kernel
theorem dX6_does_74 : decode cX6_does 74 = .ok (.goto (-39), 3) := by decide +kernel
theorem dX6_does_77 : decode cX6_does 77 = .ok (.aload_n 0, 1) := by decide +kernel
theorem dX6_does_78 : decode cX6_does 78 = .ok (.getfield 19, 3) := by decide +kernel
theorem dX6_does_81 : decode cX6_does 81 = .ok (.invokevirtual 205, 3) := by decide +kernel
theorem dX6_does_84 : decode cX6_does 84 = .ok (.aload_n 0, 1) := by decide +kernel
theorem dX6_does_85 : decode cX6_does 85 = .ok (.getfield 33, 3) := by decide +kernel
theorem dX6_does_88 : decode cX6_does 88 = .ok (.getfield 198, 3) := by decide +kernel
theorem dX6_does_91 : decode cX6_does 91 = .ok (.ireturn, 1) := by decide +kernel
theorem dX6_back_0 : decode cX6_back 0 = .ok (.aload_n 0, 1) := by decide +kernel
theorem dX6_back_1 : decode cX6_back 1 = .ok (.getfield 19, 3) := by decide +kernel
theorem dX6_back_4 : decode cX6_back 4 = .ok (.getfield 208, 3) := by decide +kernel
theorem dX6_back_7 : decode cX6_back 7 = .ok (.ifCond .ne 10, 3) := by decide +kernel
theorem dX6_back_10 : decode cX6_back 10 = .ok (.aload_n 0, 1) := by decide +kernel
theorem dX6_back_11 : decode cX6_back 11 = .ok (.bipush (-3), 2) := by decide +kernel
theorem dX6_back_13 : decode cX6_back 13 = .ok (.invokevirtual 82, 3) := by decide +kernel
theorem dX6_back_16 : decode cX6_back 16 = .ok (.ireturn, 1) := by decide +kernel
theorem dX6_back_17 : decode cX6_back 17 = .ok (.aload_n 0, 1) := by decide +kernel
theorem dX6_back_18 : decode cX6_back 18 = .ok (.getfield 19, 3) := by decide +kernel
theorem dX6_back_21 : decode cX6_back 21 = .ok (.aload_n 0, 1) := by decide +kernel
theorem dX6_back_22 : decode cX6_back 22 = .ok (.getfield 10, 3) := by decide +kernel
theorem dX6_back_25 : decode cX6_back 25 = .ok (.invokevirtual 209, 3) := by decide +kernel
theorem dX6_back_28 : decode cX6_back 28 = .ok (.ireturn, 1) := by decide +kernel
theorem dX6_told_0 : decode cX6_told 0 = .ok (.iload_n 1, 1) := by decide +kernel
theorem dX6_told_1 : decode cX6_told 1 = .ok (.tableswitch 66 0 4 #[35, 40, 45, 50, 58], 35) := by decide +kernel
theorem dX6_told_36 : decode cX6_told 36 = .ok (.aload_n 0, 1) := by decide +kernel
theorem dX6_told_37 : decode cX6_told 37 = .ok (.getfield 213, 3) := by decide +kernel
theorem dX6_told_40 : decode cX6_told 40 = .ok (.ireturn, 1) := by decide +kernel
theorem dX6_told_41 : decode cX6_told 41 = .ok (.aload_n 0, 1) := by decide +kernel
theorem dX6_told_42 : decode cX6_told 42 = .ok (.getfield 216, 3) := by decide +kernel
theorem dX6_told_45 : decode cX6_told 45 = .ok (.ireturn, 1) := by decide +kernel
theorem dX6_told_46 : decode cX6_told 46 = .ok (.aload_n 0, 1) := by decide +kernel
theorem dX6_told_47 : decode cX6_told 47 = .ok (.getfield 219, 3) := by decide +kernel
theorem dX6_told_50 : decode cX6_told 50 = .ok (.ireturn, 1) := by decide +kernel
theorem dX6_told_51 : decode cX6_told 51 = .ok (.aload_n 0, 1) := by decide +kernel
theorem dX6_told_52 : decode cX6_told 52 = .ok (.getfield 26, 3) := by decide +kernel
theorem dX6_told_55 : decode cX6_told 55 = .ok (.getfield 222, 3) := by decide +kernel
theorem dX6_told_58 : decode cX6_told 58 = .ok (.ireturn, 1) := by decide +kernel
theorem dX6_told_59 : decode cX6_told 59 = .ok (.aload_n 0, 1) := by decide +kernel
theorem dX6_told_60 : decode cX6_told 60 = .ok (.getfield 19, 3) := by decide +kernel
theorem dX6_told_63 : decode cX6_told 63 = .ok (.getfield 208, 3) := by decide +kernel
theorem dX6_told_66 : decode cX6_told 66 = .ok (.ireturn, 1) := by decide +kernel
theorem dX6_told_67 : decode cX6_told 67 = .ok (.aload_n 0, 1) := by decide +kernel
theorem dX6_told_68 : decode cX6_told 68 = .ok (.bipush (-2), 2) := by decide +kernel
theorem dX6_told_70 : decode cX6_told 70 = .ok (.invokevirtual 82, 3) := by decide +kernel
theorem dX6_told_73 : decode cX6_told 73 = .ok (.ireturn, 1) := by decide +kernel
theorem dX6_digest_0 : decode cX6_digest 0 = .ok (.ldc2_w 225, 3) := by decide +kernel
theorem dX6_digest_3 : decode cX6_digest 3 = .ok (.lstore_n 1, 1) := by decide +kernel
theorem dX6_digest_4 : decode cX6_digest 4 = .ok (.iconst 0, 1) := by decide +kernel
theorem dX6_digest_5 : decode cX6_digest 5 = .ok (.istore_n 3, 1) := by decide +kernel
theorem dX6_digest_6 : decode cX6_digest 6 = .ok (.iload_n 3, 1) := by decide +kernel
theorem dX6_digest_7 : decode cX6_digest 7 = .ok (.iconst 4, 1) := by decide +kernel
theorem dX6_digest_8 : decode cX6_digest 8 = .ok (.if_icmp .gt 22, 3) := by decide +kernel
theorem dX6_digest_11 : decode cX6_digest 11 = .ok (.ldc2_w 227, 3) := by decide +kernel
theorem dX6_digest_14 : decode cX6_digest 14 = .ok (.lload_n 1, 1) := by decide +kernel
theorem dX6_digest_15 : decode cX6_digest 15 = .ok (.lmul, 1) := by decide +kernel
theorem dX6_digest_16 : decode cX6_digest 16 = .ok (.aload_n 0, 1) := by decide +kernel
theorem dX6_digest_17 : decode cX6_digest 17 = .ok (.iload_n 3, 1) := by decide +kernel
theorem dX6_digest_18 : decode cX6_digest 18 = .ok (.invokevirtual 229, 3) := by decide +kernel
theorem dX6_digest_21 : decode cX6_digest 21 = .ok (.i2l, 1) := by decide +kernel
theorem dX6_digest_22 : decode cX6_digest 22 = .ok (.ladd, 1) := by decide +kernel
theorem dX6_digest_23 : decode cX6_digest 23 = .ok (.lstore_n 1, 1) := by decide +kernel
theorem dX6_digest_24 : decode cX6_digest 24 = .ok (.iinc 3 1, 3) := by decide +kernel
theorem dX6_digest_27 : decode cX6_digest 27 = .ok (.goto (-21), 3) := by decide +kernel
theorem dX6_digest_30 : decode cX6_digest 30 = .ok (.iconst 0, 1) := by decide +kernel
theorem dX6_digest_31 : decode cX6_digest 31 = .ok (.istore_n 3, 1) := by decide +kernel
theorem dX6_digest_32 : decode cX6_digest 32 = .ok (.iload_n 3, 1) := by decide +kernel
theorem dX6_digest_33 : decode cX6_digest 33 = .ok (.bipush 7, 2) := by decide +kernel
theorem dX6_digest_35 : decode cX6_digest 35 = .ok (.if_icmp .gt 22, 3) := by decide +kernel
theorem dX6_digest_38 : decode cX6_digest 38 = .ok (.ldc2_w 227, 3) := by decide +kernel
theorem dX6_digest_41 : decode cX6_digest 41 = .ok (.lload_n 1, 1) := by decide +kernel
theorem dX6_digest_42 : decode cX6_digest 42 = .ok (.lmul, 1) := by decide +kernel
theorem dX6_digest_43 : decode cX6_digest 43 = .ok (.aload_n 0, 1) := by decide +kernel
theorem dX6_digest_44 : decode cX6_digest 44 = .ok (.iload_n 3, 1) := by decide +kernel
theorem dX6_digest_45 : decode cX6_digest 45 = .ok (.invokevirtual 232, 3) := by decide +kernel
theorem dX6_digest_48 : decode cX6_digest 48 = .ok (.i2l, 1) := by decide +kernel
theorem dX6_digest_49 : decode cX6_digest 49 = .ok (.ladd, 1) := by decide +kernel
theorem dX6_digest_50 : decode cX6_digest 50 = .ok (.lstore_n 1, 1) := by decide +kernel
theorem dX6_digest_51 : decode cX6_digest 51 = .ok (.iinc 3 1, 3) := by decide +kernel
theorem dX6_digest_54 : decode cX6_digest 54 = .ok (.goto (-22), 3) := by decide +kernel
theorem dX6_digest_57 : decode cX6_digest 57 = .ok (.iconst 0, 1) := by decide +kernel
theorem dX6_digest_58 : decode cX6_digest 58 = .ok (.istore_n 3, 1) := by decide +kernel
theorem dX6_digest_59 : decode cX6_digest 59 = .ok (.iload_n 3, 1) := by decide +kernel
theorem dX6_digest_60 : decode cX6_digest 60 = .ok (.aload_n 0, 1) := by decide +kernel
theorem dX6_digest_61 : decode cX6_digest 61 = .ok (.getfield 10, 3) := by decide +kernel
theorem dX6_digest_64 : decode cX6_digest 64 = .ok (.getfield 162, 3) := by decide +kernel
theorem dX6_digest_67 : decode cX6_digest 67 = .ok (.if_icmp .ge 39, 3) := by decide +kernel
theorem dX6_digest_70 : decode cX6_digest 70 = .ok (.iconst 0, 1) := by decide +kernel
theorem dX6_digest_71 : decode cX6_digest 71 = .ok (.istore 4, 2) := by decide +kernel
theorem dX6_digest_73 : decode cX6_digest 73 = .ok (.iload 4, 2) := by decide +kernel
theorem dX6_digest_75 : decode cX6_digest 75 = .ok (.iconst 5, 1) := by decide +kernel
theorem dX6_digest_76 : decode cX6_digest 76 = .ok (.if_icmp .gt 24, 3) := by decide +kernel
theorem dX6_digest_79 : decode cX6_digest 79 = .ok (.ldc2_w 227, 3) := by decide +kernel
theorem dX6_digest_82 : decode cX6_digest 82 = .ok (.lload_n 1, 1) := by decide +kernel
theorem dX6_digest_83 : decode cX6_digest 83 = .ok (.lmul, 1) := by decide +kernel
theorem dX6_digest_84 : decode cX6_digest 84 = .ok (.aload_n 0, 1) := by decide +kernel
theorem dX6_digest_85 : decode cX6_digest 85 = .ok (.iload_n 3, 1) := by decide +kernel
theorem dX6_digest_86 : decode cX6_digest 86 = .ok (.iload 4, 2) := by decide +kernel
theorem dX6_digest_88 : decode cX6_digest 88 = .ok (.invokevirtual 235, 3) := by decide +kernel
theorem dX6_digest_91 : decode cX6_digest 91 = .ok (.i2l, 1) := by decide +kernel
theorem dX6_digest_92 : decode cX6_digest 92 = .ok (.ladd, 1) := by decide +kernel
theorem dX6_digest_93 : decode cX6_digest 93 = .ok (.lstore_n 1, 1) := by decide +kernel
theorem dX6_digest_94 : decode cX6_digest 94 = .ok (.iinc 4 1, 3) := by decide +kernel
theorem dX6_digest_97 : decode cX6_digest 97 = .ok (.goto (-24), 3) := by decide +kernel
theorem dX6_digest_100 : decode cX6_digest 100 = .ok (.iinc 3 1, 3) := by decide +kernel
theorem dX6_digest_103 : decode cX6_digest 103 = .ok (.goto (-44), 3) := by decide +kernel
theorem dX6_digest_106 : decode cX6_digest 106 = .ok (.iconst 0, 1) := by decide +kernel
theorem dX6_digest_107 : decode cX6_digest 107 = .ok (.istore_n 3, 1) := by decide +kernel
theorem dX6_digest_108 : decode cX6_digest 108 = .ok (.iload_n 3, 1) := by decide +kernel
theorem dX6_digest_109 : decode cX6_digest 109 = .ok (.aload_n 0, 1) := by decide +kernel
theorem dX6_digest_110 : decode cX6_digest 110 = .ok (.getfield 10, 3) := by decide +kernel
theorem dX6_digest_113 : decode cX6_digest 113 = .ok (.getfield 120, 3) := by decide +kernel
theorem dX6_digest_116 : decode cX6_digest 116 = .ok (.getfield 165, 3) := by decide +kernel
theorem dX6_digest_119 : decode cX6_digest 119 = .ok (.if_icmp .ge 63, 3) := by decide +kernel
theorem dX6_digest_122 : decode cX6_digest 122 = .ok (.aload_n 0, 1) := by decide +kernel
theorem dX6_digest_123 : decode cX6_digest 123 = .ok (.getfield 10, 3) := by decide +kernel
theorem dX6_digest_126 : decode cX6_digest 126 = .ok (.getfield 120, 3) := by decide +kernel
theorem dX6_digest_129 : decode cX6_digest 129 = .ok (.iload_n 3, 1) := by decide +kernel
theorem dX6_digest_130 : decode cX6_digest 130 = .ok (.invokevirtual 123, 3) := by decide +kernel
theorem dX6_digest_133 : decode cX6_digest 133 = .ok (.istore 4, 2) := by decide +kernel
theorem dX6_digest_135 : decode cX6_digest 135 = .ok (.ldc2_w 227, 3) := by decide +kernel
theorem dX6_digest_138 : decode cX6_digest 138 = .ok (.lload_n 1, 1) := by decide +kernel
theorem dX6_digest_139 : decode cX6_digest 139 = .ok (.lmul, 1) := by decide +kernel
theorem dX6_digest_140 : decode cX6_digest 140 = .ok (.iload 4, 2) := by decide +kernel
theorem dX6_digest_142 : decode cX6_digest 142 = .ok (.i2l, 1) := by decide +kernel
theorem dX6_digest_143 : decode cX6_digest 143 = .ok (.ladd, 1) := by decide +kernel
theorem dX6_digest_144 : decode cX6_digest 144 = .ok (.lstore_n 1, 1) := by decide +kernel
theorem dX6_digest_145 : decode cX6_digest 145 = .ok (.iconst 1, 1) := by decide +kernel
theorem dX6_digest_146 : decode cX6_digest 146 = .ok (.istore 5, 2) := by decide +kernel
theorem dX6_digest_148 : decode cX6_digest 148 = .ok (.iload 5, 2) := by decide +kernel
theorem dX6_digest_150 : decode cX6_digest 150 = .ok (.iconst 4, 1) := by decide +kernel
theorem dX6_digest_151 : decode cX6_digest 151 = .ok (.if_icmp .gt 25, 3) := by decide +kernel
theorem dX6_digest_154 : decode cX6_digest 154 = .ok (.ldc2_w 227, 3) := by decide +kernel
theorem dX6_digest_157 : decode cX6_digest 157 = .ok (.lload_n 1, 1) := by decide +kernel
theorem dX6_digest_158 : decode cX6_digest 158 = .ok (.lmul, 1) := by decide +kernel
theorem dX6_digest_159 : decode cX6_digest 159 = .ok (.aload_n 0, 1) := by decide +kernel
theorem dX6_digest_160 : decode cX6_digest 160 = .ok (.iload 4, 2) := by decide +kernel
theorem dX6_digest_162 : decode cX6_digest 162 = .ok (.iload 5, 2) := by decide +kernel
theorem dX6_digest_164 : decode cX6_digest 164 = .ok (.invokevirtual 238, 3) := by decide +kernel
theorem dX6_digest_167 : decode cX6_digest 167 = .ok (.i2l, 1) := by decide +kernel
theorem dX6_digest_168 : decode cX6_digest 168 = .ok (.ladd, 1) := by decide +kernel
theorem dX6_digest_169 : decode cX6_digest 169 = .ok (.lstore_n 1, 1) := by decide +kernel
theorem dX6_digest_170 : decode cX6_digest 170 = .ok (.iinc 5 1, 3) := by decide +kernel
theorem dX6_digest_173 : decode cX6_digest 173 = .ok (.goto (-25), 3) := by decide +kernel
theorem dX6_digest_176 : decode cX6_digest 176 = .ok (.iinc 3 1, 3) := by decide +kernel
theorem dX6_digest_179 : decode cX6_digest 179 = .ok (.goto (-71), 3) := by decide +kernel
theorem dX6_digest_182 : decode cX6_digest 182 = .ok (.iconst 1, 1) := by decide +kernel
theorem dX6_digest_183 : decode cX6_digest 183 = .ok (.istore_n 3, 1) := by decide +kernel
theorem dX6_digest_184 : decode cX6_digest 184 = .ok (.iload_n 3, 1) := by decide +kernel
theorem dX6_digest_185 : decode cX6_digest 185 = .ok (.iconst 3, 1) := by decide +kernel
theorem dX6_digest_186 : decode cX6_digest 186 = .ok (.if_icmp .gt 22, 3) := by decide +kernel
theorem dX6_digest_189 : decode cX6_digest 189 = .ok (.ldc2_w 227, 3) := by decide +kernel
theorem dX6_digest_192 : decode cX6_digest 192 = .ok (.lload_n 1, 1) := by decide +kernel
theorem dX6_digest_193 : decode cX6_digest 193 = .ok (.lmul, 1) := by decide +kernel
theorem dX6_digest_194 : decode cX6_digest 194 = .ok (.aload_n 0, 1) := by decide +kernel
theorem dX6_digest_195 : decode cX6_digest 195 = .ok (.iload_n 3, 1) := by decide +kernel
theorem dX6_digest_196 : decode cX6_digest 196 = .ok (.invokevirtual 241, 3) := by decide +kernel
theorem dX6_digest_199 : decode cX6_digest 199 = .ok (.i2l, 1) := by decide +kernel
theorem dX6_digest_200 : decode cX6_digest 200 = .ok (.ladd, 1) := by decide +kernel
theorem dX6_digest_201 : decode cX6_digest 201 = .ok (.lstore_n 1, 1) := by decide +kernel
theorem dX6_digest_202 : decode cX6_digest 202 = .ok (.iinc 3 1, 3) := by decide +kernel
theorem dX6_digest_205 : decode cX6_digest 205 = .ok (.goto (-21), 3) := by decide +kernel
theorem dX6_digest_208 : decode cX6_digest 208 = .ok (.lload_n 1, 1) := by decide +kernel
theorem dX6_digest_209 : decode cX6_digest 209 = .ok (.lreturn, 1) := by decide +kernel
theorem dX6_refused_0 : decode cX6_refused 0 = .ok (.iload_n 1, 1) := by decide +kernel
theorem dX6_refused_1 : decode cX6_refused 1 = .ok (.bipush (-2), 2) := by decide +kernel
theorem dX6_refused_3 : decode cX6_refused 3 = .ok (.if_icmp .ne 16, 3) := by decide +kernel
theorem dX6_refused_6 : decode cX6_refused 6 = .ok (.aload_n 0, 1) := by decide +kernel
theorem dX6_refused_7 : decode cX6_refused 7 = .ok (.dup, 1) := by decide +kernel
theorem dX6_refused_8 : decode cX6_refused 8 = .ok (.getfield 213, 3) := by decide +kernel
theorem dX6_refused_11 : decode cX6_refused 11 = .ok (.iconst 1, 1) := by decide +kernel
theorem dX6_refused_12 : decode cX6_refused 12 = .ok (.iadd, 1) := by decide +kernel
theorem dX6_refused_13 : decode cX6_refused 13 = .ok (.putfield 213, 3) := by decide +kernel
theorem dX6_refused_16 : decode cX6_refused 16 = .ok (.goto 32, 3) := by decide +kernel
theorem dX6_refused_19 : decode cX6_refused 19 = .ok (.iload_n 1, 1) := by decide +kernel
theorem dX6_refused_20 : decode cX6_refused 20 = .ok (.bipush (-3), 2) := by decide +kernel
theorem dX6_refused_22 : decode cX6_refused 22 = .ok (.if_icmp .ne 16, 3) := by decide +kernel
theorem dX6_refused_25 : decode cX6_refused 25 = .ok (.aload_n 0, 1) := by decide +kernel
theorem dX6_refused_26 : decode cX6_refused 26 = .ok (.dup, 1) := by decide +kernel
theorem dX6_refused_27 : decode cX6_refused 27 = .ok (.getfield 216, 3) := by decide +kernel
theorem dX6_refused_30 : decode cX6_refused 30 = .ok (.iconst 1, 1) := by decide +kernel
theorem dX6_refused_31 : decode cX6_refused 31 = .ok (.iadd, 1) := by decide +kernel
theorem dX6_refused_32 : decode cX6_refused 32 = .ok (.putfield 216, 3) := by decide +kernel
theorem dX6_refused_35 : decode cX6_refused 35 = .ok (.goto 13, 3) := by decide +kernel
theorem dX6_refused_38 : decode cX6_refused 38 = .ok (.aload_n 0, 1) := by decide +kernel
theorem dX6_refused_39 : decode cX6_refused 39 = .ok (.dup, 1) := by decide +kernel
theorem dX6_refused_40 : decode cX6_refused 40 = .ok (.getfield 219, 3) := by decide +kernel
theorem dX6_refused_43 : decode cX6_refused 43 = .ok (.iconst 1, 1) := by decide +kernel
theorem dX6_refused_44 : decode cX6_refused 44 = .ok (.iadd, 1) := by decide +kernel
theorem dX6_refused_45 : decode cX6_refused 45 = .ok (.putfield 219, 3) := by decide +kernel
theorem dX6_refused_48 : decode cX6_refused 48 = .ok (.iload_n 1, 1) := by decide +kernel
theorem dX6_refused_49 : decode cX6_refused 49 = .ok (.ireturn, 1) := by decide +kernel
theorem dX6_settled_0 : decode cX6_settled 0 = .ok (.iload_n 1, 1) := by decide +kernel
theorem dX6_settled_1 : decode cX6_settled 1 = .ok (.ifCond .ge 9, 3) := by decide +kernel
theorem dX6_settled_4 : decode cX6_settled 4 = .ok (.aload_n 0, 1) := by decide +kernel
theorem dX6_settled_5 : decode cX6_settled 5 = .ok (.iload_n 1, 1) := by decide +kernel
theorem dX6_settled_6 : decode cX6_settled 6 = .ok (.invokevirtual 82, 3) := by decide +kernel
theorem dX6_settled_9 : decode cX6_settled 9 = .ok (.ireturn, 1) := by decide +kernel
theorem dX6_settled_10 : decode cX6_settled 10 = .ok (.aload_n 0, 1) := by decide +kernel
theorem dX6_settled_11 : decode cX6_settled 11 = .ok (.getfield 19, 3) := by decide +kernel
theorem dX6_settled_14 : decode cX6_settled 14 = .ok (.invokevirtual 205, 3) := by decide +kernel
theorem dX6_settled_17 : decode cX6_settled 17 = .ok (.iload_n 1, 1) := by decide +kernel
theorem dX6_settled_18 : decode cX6_settled 18 = .ok (.ireturn, 1) := by decide +kernel
theorem dX6_carryOut_0 : decode cX6_carryOut 0 = .ok (.aload_n 0, 1) := by decide +kernel
theorem dX6_carryOut_1 : decode cX6_carryOut 1 = .ok (.getfield 33, 3) := by decide +kernel
theorem dX6_carryOut_4 : decode cX6_carryOut 4 = .ok (.iload_n 1, 1) := by decide +kernel
theorem dX6_carryOut_5 : decode cX6_carryOut 5 = .ok (.iconst 0, 1) := by decide +kernel
theorem dX6_carryOut_6 : decode cX6_carryOut 6 = .ok (.invokevirtual 244, 3) := by decide +kernel
theorem dX6_carryOut_9 : decode cX6_carryOut 9 = .ok (.istore_n 2, 1) := by decide +kernel
theorem dX6_carryOut_10 : decode cX6_carryOut 10 = .ok (.aload_n 0, 1) := by decide +kernel
theorem dX6_carryOut_11 : decode cX6_carryOut 11 = .ok (.getfield 33, 3) := by decide +kernel
theorem dX6_carryOut_14 : decode cX6_carryOut 14 = .ok (.iload_n 1, 1) := by decide +kernel
theorem dX6_carryOut_15 : decode cX6_carryOut 15 = .ok (.invokevirtual 247, 3) := by decide +kernel
theorem dX6_carryOut_18 : decode cX6_carryOut 18 = .ok (.lookupswitch 146 #[(99, 138), (109, 129), (114, 103), (115, 120), (116, 58), (119, 112)], 58) := by decide +kernel
theorem dX6_carryOut_76 : decode cX6_carryOut 76 = .ok (.aload_n 0, 1) := by decide +kernel
theorem dX6_carryOut_77 : decode cX6_carryOut 77 = .ok (.getfield 10, 3) := by decide +kernel
theorem dX6_carryOut_80 : decode cX6_carryOut 80 = .ok (.iload_n 2, 1) := by decide +kernel
theorem dX6_carryOut_81 : decode cX6_carryOut 81 = .ok (.aload_n 0, 1) := by decide +kernel
theorem dX6_carryOut_82 : decode cX6_carryOut 82 = .ok (.getfield 33, 3) := by decide +kernel
theorem dX6_carryOut_85 : decode cX6_carryOut 85 = .ok (.iload_n 1, 1) := by decide +kernel
theorem dX6_carryOut_86 : decode cX6_carryOut 86 = .ok (.iconst 1, 1) := by decide +kernel
theorem dX6_carryOut_87 : decode cX6_carryOut 87 = .ok (.invokevirtual 244, 3) := by decide +kernel
theorem dX6_carryOut_90 : decode cX6_carryOut 90 = .ok (.aload_n 0, 1) := by decide +kernel
theorem dX6_carryOut_91 : decode cX6_carryOut 91 = .ok (.getfield 33, 3) := by decide +kernel
theorem dX6_carryOut_94 : decode cX6_carryOut 94 = .ok (.iload_n 1, 1) := by decide +kernel
theorem dX6_carryOut_95 : decode cX6_carryOut 95 = .ok (.iconst 2, 1) := by decide +kernel
theorem dX6_carryOut_96 : decode cX6_carryOut 96 = .ok (.invokevirtual 244, 3) := by decide +kernel
theorem dX6_carryOut_99 : decode cX6_carryOut 99 = .ok (.aload_n 0, 1) := by decide +kernel
theorem dX6_carryOut_100 : decode cX6_carryOut 100 = .ok (.getfield 33, 3) := by decide +kernel
theorem dX6_carryOut_103 : decode cX6_carryOut 103 = .ok (.iload_n 1, 1) := by decide +kernel
theorem dX6_carryOut_104 : decode cX6_carryOut 104 = .ok (.iconst 3, 1) := by decide +kernel
theorem dX6_carryOut_105 : decode cX6_carryOut 105 = .ok (.invokevirtual 244, 3) := by decide +kernel
theorem dX6_carryOut_108 : decode cX6_carryOut 108 = .ok (.aload_n 0, 1) := by decide +kernel
theorem dX6_carryOut_109 : decode cX6_carryOut 109 = .ok (.getfield 33, 3) := by decide +kernel
theorem dX6_carryOut_112 : decode cX6_carryOut 112 = .ok (.iload_n 1, 1) := by decide +kernel
theorem dX6_carryOut_113 : decode cX6_carryOut 113 = .ok (.iconst 4, 1) := by decide +kernel
theorem dX6_carryOut_114 : decode cX6_carryOut 114 = .ok (.invokevirtual 244, 3) := by decide +kernel
theorem dX6_carryOut_117 : decode cX6_carryOut 117 = .ok (.invokevirtual 48, 3) := by decide +kernel
theorem dX6_carryOut_120 : decode cX6_carryOut 120 = .ok (.ireturn, 1) := by decide +kernel
theorem dX6_carryOut_121 : decode cX6_carryOut 121 = .ok (.aload_n 0, 1) := by decide +kernel
theorem dX6_carryOut_122 : decode cX6_carryOut 122 = .ok (.getfield 10, 3) := by decide +kernel
theorem dX6_carryOut_125 : decode cX6_carryOut 125 = .ok (.iload_n 2, 1) := by decide +kernel
theorem dX6_carryOut_126 : decode cX6_carryOut 126 = .ok (.invokevirtual 60, 3) := by decide +kernel
theorem dX6_carryOut_129 : decode cX6_carryOut 129 = .ok (.ireturn, 1) := by decide +kernel
theorem dX6_carryOut_130 : decode cX6_carryOut 130 = .ok (.aload_n 0, 1) := by decide +kernel
theorem dX6_carryOut_131 : decode cX6_carryOut 131 = .ok (.getfield 10, 3) := by decide +kernel
theorem dX6_carryOut_134 : decode cX6_carryOut 134 = .ok (.invokevirtual 63, 3) := by decide +kernel
theorem dX6_carryOut_137 : decode cX6_carryOut 137 = .ok (.ireturn, 1) := by decide +kernel
theorem dX6_carryOut_138 : decode cX6_carryOut 138 = .ok (.aload_n 0, 1) := by decide +kernel
theorem dX6_carryOut_139 : decode cX6_carryOut 139 = .ok (.getfield 10, 3) := by decide +kernel
theorem dX6_carryOut_142 : decode cX6_carryOut 142 = .ok (.iload_n 2, 1) := by decide +kernel
theorem dX6_carryOut_143 : decode cX6_carryOut 143 = .ok (.invokevirtual 66, 3) := by decide +kernel
theorem dX6_carryOut_146 : decode cX6_carryOut 146 = .ok (.ireturn, 1) := by decide +kernel
theorem dX6_carryOut_147 : decode cX6_carryOut 147 = .ok (.aload_n 0, 1) := by decide +kernel
theorem dX6_carryOut_148 : decode cX6_carryOut 148 = .ok (.getfield 10, 3) := by decide +kernel
theorem dX6_carryOut_151 : decode cX6_carryOut 151 = .ok (.iload_n 2, 1) := by decide +kernel
theorem dX6_carryOut_152 : decode cX6_carryOut 152 = .ok (.invokevirtual 69, 3) := by decide +kernel
theorem dX6_carryOut_155 : decode cX6_carryOut 155 = .ok (.ireturn, 1) := by decide +kernel
theorem dX6_carryOut_156 : decode cX6_carryOut 156 = .ok (.aload_n 0, 1) := by decide +kernel
theorem dX6_carryOut_157 : decode cX6_carryOut 157 = .ok (.getfield 10, 3) := by decide +kernel
theorem dX6_carryOut_160 : decode cX6_carryOut 160 = .ok (.invokevirtual 56, 3) := by decide +kernel
theorem dX6_carryOut_163 : decode cX6_carryOut 163 = .ok (.ireturn, 1) := by decide +kernel
theorem dX6_carryOut_164 : decode cX6_carryOut 164 = .ok (.bipush (-2), 2) := by decide +kernel
theorem dX6_carryOut_166 : decode cX6_carryOut 166 = .ok (.ireturn, 1) := by decide +kernel
theorem dX6_areTwoTests_0 : decode cX6_areTwoTests 0 = .ok (.aload_n 0, 1) := by decide +kernel
theorem dX6_areTwoTests_1 : decode cX6_areTwoTests 1 = .ok (.getfield 10, 3) := by decide +kernel
theorem dX6_areTwoTests_4 : decode cX6_areTwoTests 4 = .ok (.iload_n 1, 1) := by decide +kernel
theorem dX6_areTwoTests_5 : decode cX6_areTwoTests 5 = .ok (.invokevirtual 78, 3) := by decide +kernel
theorem dX6_areTwoTests_8 : decode cX6_areTwoTests 8 = .ok (.ifCond .eq 23, 3) := by decide +kernel
theorem dX6_areTwoTests_11 : decode cX6_areTwoTests 11 = .ok (.aload_n 0, 1) := by decide +kernel
theorem dX6_areTwoTests_12 : decode cX6_areTwoTests 12 = .ok (.getfield 10, 3) := by decide +kernel
theorem dX6_areTwoTests_15 : decode cX6_areTwoTests 15 = .ok (.iload_n 2, 1) := by decide +kernel
theorem dX6_areTwoTests_16 : decode cX6_areTwoTests 16 = .ok (.invokevirtual 78, 3) := by decide +kernel
theorem dX6_areTwoTests_19 : decode cX6_areTwoTests 19 = .ok (.ifCond .eq 12, 3) := by decide +kernel
theorem dX6_areTwoTests_22 : decode cX6_areTwoTests 22 = .ok (.iload_n 1, 1) := by decide +kernel
theorem dX6_areTwoTests_23 : decode cX6_areTwoTests 23 = .ok (.iload_n 2, 1) := by decide +kernel
theorem dX6_areTwoTests_24 : decode cX6_areTwoTests 24 = .ok (.if_icmp .eq 7, 3) := by decide +kernel
theorem dX6_areTwoTests_27 : decode cX6_areTwoTests 27 = .ok (.iconst 1, 1) := by decide +kernel
theorem dX6_areTwoTests_28 : decode cX6_areTwoTests 28 = .ok (.goto 4, 3) := by decide +kernel
theorem dX6_areTwoTests_31 : decode cX6_areTwoTests 31 = .ok (.iconst 0, 1) := by decide +kernel
theorem dX6_areTwoTests_32 : decode cX6_areTwoTests 32 = .ok (.ireturn, 1) := by decide +kernel
theorem dX6_flippedBySeed_0 : decode cX6_flippedBySeed 0 = .ok (.aload_n 0, 1) := by decide +kernel
theorem dX6_flippedBySeed_1 : decode cX6_flippedBySeed 1 = .ok (.getfield 40, 3) := by decide +kernel
theorem dX6_flippedBySeed_4 : decode cX6_flippedBySeed 4 = .ok (.aload_n 0, 1) := by decide +kernel
theorem dX6_flippedBySeed_5 : decode cX6_flippedBySeed 5 = .ok (.getfield 10, 3) := by decide +kernel
theorem dX6_flippedBySeed_8 : decode cX6_flippedBySeed 8 = .ok (.getfield 162, 3) := by decide +kernel
theorem dX6_flippedBySeed_11 : decode cX6_flippedBySeed 11 = .ok (.iload_n 1, 1) := by decide +kernel
theorem dX6_flippedBySeed_12 : decode cX6_flippedBySeed 12 = .ok (.invokevirtual 250, 3) := by decide +kernel
theorem dX6_flippedBySeed_15 : decode cX6_flippedBySeed 15 = .ok (.aload_n 0, 1) := by decide +kernel
theorem dX6_flippedBySeed_16 : decode cX6_flippedBySeed 16 = .ok (.getfield 10, 3) := by decide +kernel
theorem dX6_flippedBySeed_19 : decode cX6_flippedBySeed 19 = .ok (.aload_n 0, 1) := by decide +kernel
theorem dX6_flippedBySeed_20 : decode cX6_flippedBySeed 20 = .ok (.getfield 40, 3) := by decide +kernel
theorem dX6_flippedBySeed_23 : decode cX6_flippedBySeed 23 = .ok (.invokevirtual 178, 3) := by decide +kernel
theorem dX6_flippedBySeed_26 : decode cX6_flippedBySeed 26 = .ok (.ireturn, 1) := by decide +kernel
theorem dX6_isSeed_0 : decode cX6_isSeed 0 = .ok (.iload_n 0, 1) := by decide +kernel
theorem dX6_isSeed_1 : decode cX6_isSeed 1 = .ok (.ifCond .lt 13, 3) := by decide +kernel
theorem dX6_isSeed_4 : decode cX6_isSeed 4 = .ok (.iload_n 0, 1) := by decide +kernel
theorem dX6_isSeed_5 : decode cX6_isSeed 5 = .ok (.ldc 116, 2) := by decide +kernel
theorem dX6_isSeed_7 : decode cX6_isSeed 7 = .ok (.if_icmp .gt 7, 3) := by decide +kernel
theorem dX6_isSeed_10 : decode cX6_isSeed 10 = .ok (.iconst 1, 1) := by decide +kernel
theorem dX6_isSeed_11 : decode cX6_isSeed 11 = .ok (.goto 4, 3) := by decide +kernel
theorem dX6_isSeed_14 : decode cX6_isSeed 14 = .ok (.iconst 0, 1) := by decide +kernel
theorem dX6_isSeed_15 : decode cX6_isSeed 15 = .ok (.ireturn, 1) := by decide +kernel
theorem dX6_areCells_0 : decode cX6_areCells 0 = .ok (.iload_n 0, 1) := by decide +kernel
theorem dX6_areCells_1 : decode cX6_areCells 1 = .ok (.ifCond .lt 13, 3) := by decide +kernel
theorem dX6_areCells_4 : decode cX6_areCells 4 = .ok (.iload_n 0, 1) := by decide +kernel
theorem dX6_areCells_5 : decode cX6_areCells 5 = .ok (.bipush 63, 2) := by decide +kernel
theorem dX6_areCells_7 : decode cX6_areCells 7 = .ok (.if_icmp .gt 7, 3) := by decide +kernel
theorem dX6_areCells_10 : decode cX6_areCells 10 = .ok (.iconst 1, 1) := by decide +kernel
theorem dX6_areCells_11 : decode cX6_areCells 11 = .ok (.goto 4, 3) := by decide +kernel
theorem dX6_areCells_14 : decode cX6_areCells 14 = .ok (.iconst 0, 1) := by decide +kernel
theorem dX6_areCells_15 : decode cX6_areCells 15 = .ok (.ireturn, 1) := by decide +kernel
theorem dX6_isIn_0 : decode cX6_isIn 0 = .ok (.iload_n 1, 1) := by decide +kernel
theorem dX6_isIn_1 : decode cX6_isIn 1 = .ok (.iload_n 0, 1) := by decide +kernel
theorem dX6_isIn_2 : decode cX6_isIn 2 = .ok (.ishr, 1) := by decide +kernel
theorem dX6_isIn_3 : decode cX6_isIn 3 = .ok (.iconst 1, 1) := by decide +kernel
theorem dX6_isIn_4 : decode cX6_isIn 4 = .ok (.iand, 1) := by decide +kernel
theorem dX6_isIn_5 : decode cX6_isIn 5 = .ok (.ifCond .eq 7, 3) := by decide +kernel
theorem dX6_isIn_8 : decode cX6_isIn 8 = .ok (.iconst 1, 1) := by decide +kernel
theorem dX6_isIn_9 : decode cX6_isIn 9 = .ok (.goto 4, 3) := by decide +kernel
theorem dX6_isIn_12 : decode cX6_isIn 12 = .ok (.iconst 0, 1) := by decide +kernel
theorem dX6_isIn_13 : decode cX6_isIn 13 = .ok (.ireturn, 1) := by decide +kernel
theorem dX6_oneIf_0 : decode cX6_oneIf 0 = .ok (.iload_n 0, 1) := by decide +kernel
theorem dX6_oneIf_1 : decode cX6_oneIf 1 = .ok (.ifCond .eq 7, 3) := by decide +kernel
theorem dX6_oneIf_4 : decode cX6_oneIf 4 = .ok (.iconst 1, 1) := by decide +kernel
theorem dX6_oneIf_5 : decode cX6_oneIf 5 = .ok (.goto 4, 3) := by decide +kernel
theorem dX6_oneIf_8 : decode cX6_oneIf 8 = .ok (.iconst 0, 1) := by decide +kernel
theorem dX6_oneIf_9 : decode cX6_oneIf 9 = .ok (.ireturn, 1) := by decide +kernel
theorem dX7_init_0 : decode cX7_init 0 = .ok (.aload_n 0, 1) := by decide +kernel
theorem dX7_init_1 : decode cX7_init 1 = .ok (.invokespecial 1, 3) := by decide +kernel
theorem dX7_init_4 : decode cX7_init 4 = .ok (.aload_n 0, 1) := by decide +kernel
theorem dX7_init_5 : decode cX7_init 5 = .ok (.bipush 52, 2) := by decide +kernel
theorem dX7_init_7 : decode cX7_init 7 = .ok (.newarray .int, 2) := by decide +kernel
theorem dX7_init_9 : decode cX7_init 9 = .ok (.putfield 7, 3) := by decide +kernel
theorem dX7_init_12 : decode cX7_init 12 = .ok (.aload_n 0, 1) := by decide +kernel
theorem dX7_init_13 : decode cX7_init 13 = .ok (.bipush 52, 2) := by decide +kernel
theorem dX7_init_15 : decode cX7_init 15 = .ok (.newarray .int, 2) := by decide +kernel
theorem dX7_init_17 : decode cX7_init 17 = .ok (.putfield 13, 3) := by decide +kernel
theorem dX7_init_20 : decode cX7_init 20 = .ok (.aload_n 0, 1) := by decide +kernel
theorem dX7_init_21 : decode cX7_init 21 = .ok (.sipush 260, 3) := by decide +kernel
theorem dX7_init_24 : decode cX7_init 24 = .ok (.newarray .int, 2) := by decide +kernel
theorem dX7_init_26 : decode cX7_init 26 = .ok (.putfield 16, 3) := by decide +kernel
theorem dX7_init_29 : decode cX7_init 29 = .ok (.aload_n 0, 1) := by decide +kernel
theorem dX7_init_30 : decode cX7_init 30 = .ok (.iconst 3, 1) := by decide +kernel
theorem dX7_init_31 : decode cX7_init 31 = .ok (.newarray .int, 2) := by decide +kernel
theorem dX7_init_33 : decode cX7_init 33 = .ok (.putfield 19, 3) := by decide +kernel
theorem dX7_init_36 : decode cX7_init 36 = .ok (.aload_n 0, 1) := by decide +kernel
theorem dX7_init_37 : decode cX7_init 37 = .ok (.sipush 150, 3) := by decide +kernel
theorem dX7_init_40 : decode cX7_init 40 = .ok (.newarray .int, 2) := by decide +kernel
theorem dX7_init_42 : decode cX7_init 42 = .ok (.putfield 22, 3) := by decide +kernel
theorem dX7_init_45 : decode cX7_init 45 = .ok (.aload_n 0, 1) := by decide +kernel
theorem dX7_init_46 : decode cX7_init 46 = .ok (.bipush 9, 2) := by decide +kernel
theorem dX7_init_48 : decode cX7_init 48 = .ok (.newarray .int, 2) := by decide +kernel
theorem dX7_init_50 : decode cX7_init 50 = .ok (.putfield 25, 3) := by decide +kernel
theorem dX7_init_53 : decode cX7_init 53 = .ok (.aload_n 0, 1) := by decide +kernel
theorem dX7_init_54 : decode cX7_init 54 = .ok (.bipush 8, 2) := by decide +kernel
theorem dX7_init_56 : decode cX7_init 56 = .ok (.newarray .int, 2) := by decide +kernel
theorem dX7_init_58 : decode cX7_init 58 = .ok (.putfield 28, 3) := by decide +kernel
theorem dX7_init_61 : decode cX7_init 61 = .ok (.aload_n 0, 1) := by decide +kernel
theorem dX7_init_62 : decode cX7_init 62 = .ok (.bipush 75, 2) := by decide +kernel
theorem dX7_init_64 : decode cX7_init 64 = .ok (.newarray .int, 2) := by decide +kernel
theorem dX7_init_66 : decode cX7_init 66 = .ok (.putfield 31, 3) := by decide +kernel
theorem dX7_init_69 : decode cX7_init 69 = .ok (.aload_n 0, 1) := by decide +kernel
theorem dX7_init_70 : decode cX7_init 70 = .ok (.sipush 375, 3) := by decide +kernel
theorem dX7_init_73 : decode cX7_init 73 = .ok (.newarray .int, 2) := by decide +kernel
theorem dX7_init_75 : decode cX7_init 75 = .ok (.putfield 34, 3) := by decide +kernel
theorem dX7_init_78 : decode cX7_init 78 = .ok (.return_, 1) := by decide +kernel
theorem dX7_in_0 : decode cX7_in 0 = .ok (.iload_n 0, 1) := by decide +kernel
theorem dX7_in_1 : decode cX7_in 1 = .ok (.iload_n 1, 1) := by decide +kernel
theorem dX7_in_2 : decode cX7_in 2 = .ok (.if_icmp .lt 12, 3) := by decide +kernel
theorem dX7_in_5 : decode cX7_in 5 = .ok (.iload_n 0, 1) := by decide +kernel
theorem dX7_in_6 : decode cX7_in 6 = .ok (.iload_n 2, 1) := by decide +kernel
theorem dX7_in_7 : decode cX7_in 7 = .ok (.if_icmp .gt 7, 3) := by decide +kernel
theorem dX7_in_10 : decode cX7_in 10 = .ok (.iconst 1, 1) := by decide +kernel
theorem dX7_in_11 : decode cX7_in 11 = .ok (.goto 4, 3) := by decide +kernel
theorem dX7_in_14 : decode cX7_in 14 = .ok (.iconst 0, 1) := by decide +kernel
theorem dX7_in_15 : decode cX7_in 15 = .ok (.ireturn, 1) := by decide +kernel
theorem dX7_has_0 : decode cX7_has 0 = .ok (.iload_n 0, 1) := by decide +kernel
theorem dX7_has_1 : decode cX7_has 1 = .ok (.iload_n 1, 1) := by decide +kernel
theorem dX7_has_2 : decode cX7_has 2 = .ok (.ishr, 1) := by decide +kernel
theorem dX7_has_3 : decode cX7_has 3 = .ok (.iconst 1, 1) := by decide +kernel
theorem dX7_has_4 : decode cX7_has 4 = .ok (.iand, 1) := by decide +kernel
theorem dX7_has_5 : decode cX7_has 5 = .ok (.iconst 1, 1) := by decide +kernel
theorem dX7_has_6 : decode cX7_has 6 = .ok (.if_icmp .ne 7, 3) := by decide +kernel
theorem dX7_has_9 : decode cX7_has 9 = .ok (.iconst 1, 1) := by decide +kernel
theorem dX7_has_10 : decode cX7_has 10 = .ok (.goto 4, 3) := by decide +kernel
theorem dX7_has_13 : decode cX7_has 13 = .ok (.iconst 0, 1) := by decide +kernel
theorem dX7_has_14 : decode cX7_has 14 = .ok (.ireturn, 1) := by decide +kernel
theorem dX7_ones_0 : decode cX7_ones 0 = .ok (.iconst 0, 1) := by decide +kernel
theorem dX7_ones_1 : decode cX7_ones 1 = .ok (.istore_n 1, 1) := by decide +kernel
theorem dX7_ones_2 : decode cX7_ones 2 = .ok (.iconst 0, 1) := by decide +kernel
theorem dX7_ones_3 : decode cX7_ones 3 = .ok (.istore_n 2, 1) := by decide +kernel
theorem dX7_ones_4 : decode cX7_ones 4 = .ok (.iload_n 2, 1) := by decide +kernel
theorem dX7_ones_5 : decode cX7_ones 5 = .ok (.bipush 8, 2) := by decide +kernel
theorem dX7_ones_7 : decode cX7_ones 7 = .ok (.if_icmp .ge 17, 3) := by decide +kernel
theorem dX7_ones_10 : decode cX7_ones 10 = .ok (.iload_n 1, 1) := by decide +kernel
theorem dX7_ones_11 : decode cX7_ones 11 = .ok (.iload_n 0, 1) := by decide +kernel
theorem dX7_ones_12 : decode cX7_ones 12 = .ok (.iload_n 2, 1) := by decide +kernel
theorem dX7_ones_13 : decode cX7_ones 13 = .ok (.ishr, 1) := by decide +kernel
theorem dX7_ones_14 : decode cX7_ones 14 = .ok (.iconst 1, 1) := by decide +kernel
theorem dX7_ones_15 : decode cX7_ones 15 = .ok (.iand, 1) := by decide +kernel
theorem dX7_ones_16 : decode cX7_ones 16 = .ok (.iadd, 1) := by decide +kernel
theorem dX7_ones_17 : decode cX7_ones 17 = .ok (.istore_n 1, 1) := by decide +kernel
theorem dX7_ones_18 : decode cX7_ones 18 = .ok (.iinc 2 1, 3) := by decide +kernel
theorem dX7_ones_21 : decode cX7_ones 21 = .ok (.goto (-17), 3) := by decide +kernel
theorem dX7_ones_24 : decode cX7_ones 24 = .ok (.iload_n 1, 1) := by decide +kernel
theorem dX7_ones_25 : decode cX7_ones 25 = .ok (.ireturn, 1) := by decide +kernel
theorem dX7_refuses_0 : decode cX7_refuses 0 = .ok (.aload_n 0, 1) := by decide +kernel
theorem dX7_refuses_1 : decode cX7_refuses 1 = .ok (.getfield 19, 3) := by decide +kernel
theorem dX7_refuses_4 : decode cX7_refuses 4 = .ok (.bipush (-2), 2) := by decide +kernel
theorem dX7_refuses_6 : decode cX7_refuses 6 = .ok (.iload_n 1, 1) := by decide +kernel
theorem dX7_refuses_7 : decode cX7_refuses 7 = .ok (.isub, 1) := by decide +kernel
theorem dX7_refuses_8 : decode cX7_refuses 8 = .ok (.dup2, 1) := by decide +kernel
theorem dX7_refuses_9 : decode cX7_refuses 9 = .ok (.iaload, 1) := by decide +kernel
theorem dX7_refuses_10 : decode cX7_refuses 10 = .ok (.iconst 1, 1) := by decide +kernel
theorem dX7_refuses_11 : decode cX7_refuses 11 = .ok (.iadd, 1) := by decide +kernel
theorem dX7_refuses_12 : decode cX7_refuses 12 = .ok (.iastore, 1) := by decide +kernel
theorem dX7_refuses_13 : decode cX7_refuses 13 = .ok (.iload_n 1, 1) := by decide +kernel
theorem dX7_refuses_14 : decode cX7_refuses 14 = .ok (.ireturn, 1) := by decide +kernel
theorem dX7_laysAside_0 : decode cX7_laysAside 0 = .ok (.iconst 0, 1) := by decide +kernel
theorem dX7_laysAside_1 : decode cX7_laysAside 1 = .ok (.istore_n 1, 1) := by decide +kernel
theorem dX7_laysAside_2 : decode cX7_laysAside 2 = .ok (.iload_n 1, 1) := by decide +kernel
theorem dX7_laysAside_3 : decode cX7_laysAside 3 = .ok (.bipush 52, 2) := by decide +kernel
theorem dX7_laysAside_5 : decode cX7_laysAside 5 = .ok (.if_icmp .ge 21, 3) := by decide +kernel
theorem dX7_laysAside_8 : decode cX7_laysAside 8 = .ok (.aload_n 0, 1) := by decide +kernel
theorem dX7_laysAside_9 : decode cX7_laysAside 9 = .ok (.getfield 13, 3) := by decide +kernel
theorem dX7_laysAside_12 : decode cX7_laysAside 12 = .ok (.iload_n 1, 1) := by decide +kernel
theorem dX7_laysAside_13 : decode cX7_laysAside 13 = .ok (.aload_n 0, 1) := by decide +kernel
theorem dX7_laysAside_14 : decode cX7_laysAside 14 = .ok (.getfield 7, 3) := by decide +kernel
theorem dX7_laysAside_17 : decode cX7_laysAside 17 = .ok (.iload_n 1, 1) := by decide +kernel
theorem dX7_laysAside_18 : decode cX7_laysAside 18 = .ok (.iaload, 1) := by decide +kernel
theorem dX7_laysAside_19 : decode cX7_laysAside 19 = .ok (.iastore, 1) := by decide +kernel
theorem dX7_laysAside_20 : decode cX7_laysAside 20 = .ok (.iinc 1 1, 3) := by decide +kernel
theorem dX7_laysAside_23 : decode cX7_laysAside 23 = .ok (.goto (-21), 3) := by decide +kernel
theorem dX7_laysAside_26 : decode cX7_laysAside 26 = .ok (.return_, 1) := by decide +kernel
theorem dX7_takesBack_0 : decode cX7_takesBack 0 = .ok (.iconst 0, 1) := by decide +kernel
theorem dX7_takesBack_1 : decode cX7_takesBack 1 = .ok (.istore_n 1, 1) := by decide +kernel
theorem dX7_takesBack_2 : decode cX7_takesBack 2 = .ok (.iload_n 1, 1) := by decide +kernel
theorem dX7_takesBack_3 : decode cX7_takesBack 3 = .ok (.bipush 52, 2) := by decide +kernel
theorem dX7_takesBack_5 : decode cX7_takesBack 5 = .ok (.if_icmp .ge 21, 3) := by decide +kernel
theorem dX7_takesBack_8 : decode cX7_takesBack 8 = .ok (.aload_n 0, 1) := by decide +kernel
theorem dX7_takesBack_9 : decode cX7_takesBack 9 = .ok (.getfield 7, 3) := by decide +kernel
theorem dX7_takesBack_12 : decode cX7_takesBack 12 = .ok (.iload_n 1, 1) := by decide +kernel
theorem dX7_takesBack_13 : decode cX7_takesBack 13 = .ok (.aload_n 0, 1) := by decide +kernel
theorem dX7_takesBack_14 : decode cX7_takesBack 14 = .ok (.getfield 13, 3) := by decide +kernel
theorem dX7_takesBack_17 : decode cX7_takesBack 17 = .ok (.iload_n 1, 1) := by decide +kernel
theorem dX7_takesBack_18 : decode cX7_takesBack 18 = .ok (.iaload, 1) := by decide +kernel
theorem dX7_takesBack_19 : decode cX7_takesBack 19 = .ok (.iastore, 1) := by decide +kernel
theorem dX7_takesBack_20 : decode cX7_takesBack 20 = .ok (.iinc 1 1, 3) := by decide +kernel
theorem dX7_takesBack_23 : decode cX7_takesBack 23 = .ok (.goto (-21), 3) := by decide +kernel
theorem dX7_takesBack_26 : decode cX7_takesBack 26 = .ok (.return_, 1) := by decide +kernel
theorem dX7_remembers_0 : decode cX7_remembers 0 = .ok (.aload_n 0, 1) := by decide +kernel
theorem dX7_remembers_1 : decode cX7_remembers 1 = .ok (.getfield 37, 3) := by decide +kernel
theorem dX7_remembers_4 : decode cX7_remembers 4 = .ok (.iconst 5, 1) := by decide +kernel
theorem dX7_remembers_5 : decode cX7_remembers 5 = .ok (.if_icmp .ne 43, 3) := by decide +kernel
theorem dX7_remembers_8 : decode cX7_remembers 8 = .ok (.iconst 0, 1) := by decide +kernel
theorem dX7_remembers_9 : decode cX7_remembers 9 = .ok (.istore_n 1, 1) := by decide +kernel
theorem dX7_remembers_10 : decode cX7_remembers 10 = .ok (.iload_n 1, 1) := by decide +kernel
theorem dX7_remembers_11 : decode cX7_remembers 11 = .ok (.sipush 208, 3) := by decide +kernel
theorem dX7_remembers_14 : decode cX7_remembers 14 = .ok (.if_icmp .ge 24, 3) := by decide +kernel
theorem dX7_remembers_17 : decode cX7_remembers 17 = .ok (.aload_n 0, 1) := by decide +kernel
theorem dX7_remembers_18 : decode cX7_remembers 18 = .ok (.getfield 16, 3) := by decide +kernel
theorem dX7_remembers_21 : decode cX7_remembers 21 = .ok (.iload_n 1, 1) := by decide +kernel
theorem dX7_remembers_22 : decode cX7_remembers 22 = .ok (.aload_n 0, 1) := by decide +kernel
theorem dX7_remembers_23 : decode cX7_remembers 23 = .ok (.getfield 16, 3) := by decide +kernel
theorem dX7_remembers_26 : decode cX7_remembers 26 = .ok (.iload_n 1, 1) := by decide +kernel
theorem dX7_remembers_27 : decode cX7_remembers 27 = .ok (.bipush 52, 2) := by decide +kernel
theorem dX7_remembers_29 : decode cX7_remembers 29 = .ok (.iadd, 1) := by decide +kernel
theorem dX7_remembers_30 : decode cX7_remembers 30 = .ok (.iaload, 1) := by decide +kernel
theorem dX7_remembers_31 : decode cX7_remembers 31 = .ok (.iastore, 1) := by decide +kernel
theorem dX7_remembers_32 : decode cX7_remembers 32 = .ok (.iinc 1 1, 3) := by decide +kernel
theorem dX7_remembers_35 : decode cX7_remembers 35 = .ok (.goto (-25), 3) := by decide +kernel
theorem dX7_remembers_38 : decode cX7_remembers 38 = .ok (.aload_n 0, 1) := by decide +kernel
theorem dX7_remembers_39 : decode cX7_remembers 39 = .ok (.dup, 1) := by decide +kernel
theorem dX7_remembers_40 : decode cX7_remembers 40 = .ok (.getfield 37, 3) := by decide +kernel
theorem dX7_remembers_43 : decode cX7_remembers 43 = .ok (.iconst 1, 1) := by decide +kernel
theorem dX7_remembers_44 : decode cX7_remembers 44 = .ok (.isub, 1) := by decide +kernel
theorem dX7_remembers_45 : decode cX7_remembers 45 = .ok (.putfield 37, 3) := by decide +kernel
theorem dX7_remembers_48 : decode cX7_remembers 48 = .ok (.iconst 0, 1) := by decide +kernel
theorem dX7_remembers_49 : decode cX7_remembers 49 = .ok (.istore_n 1, 1) := by decide +kernel
theorem dX7_remembers_50 : decode cX7_remembers 50 = .ok (.iload_n 1, 1) := by decide +kernel
theorem dX7_remembers_51 : decode cX7_remembers 51 = .ok (.bipush 52, 2) := by decide +kernel
theorem dX7_remembers_53 : decode cX7_remembers 53 = .ok (.if_icmp .ge 29, 3) := by decide +kernel
theorem dX7_remembers_56 : decode cX7_remembers 56 = .ok (.aload_n 0, 1) := by decide +kernel
theorem dX7_remembers_57 : decode cX7_remembers 57 = .ok (.getfield 16, 3) := by decide +kernel
theorem dX7_remembers_60 : decode cX7_remembers 60 = .ok (.bipush 52, 2) := by decide +kernel
theorem dX7_remembers_62 : decode cX7_remembers 62 = .ok (.aload_n 0, 1) := by decide +kernel
theorem dX7_remembers_63 : decode cX7_remembers 63 = .ok (.getfield 37, 3) := by decide +kernel
theorem dX7_remembers_66 : decode cX7_remembers 66 = .ok (.imul, 1) := by decide +kernel
theorem dX7_remembers_67 : decode cX7_remembers 67 = .ok (.iload_n 1, 1) := by decide +kernel
theorem dX7_remembers_68 : decode cX7_remembers 68 = .ok (.iadd, 1) := by decide +kernel
theorem dX7_remembers_69 : decode cX7_remembers 69 = .ok (.aload_n 0, 1) := by decide +kernel
theorem dX7_remembers_70 : decode cX7_remembers 70 = .ok (.getfield 13, 3) := by decide +kernel
theorem dX7_remembers_73 : decode cX7_remembers 73 = .ok (.iload_n 1, 1) := by decide +kernel
theorem dX7_remembers_74 : decode cX7_remembers 74 = .ok (.iaload, 1) := by decide +kernel
theorem dX7_remembers_75 : decode cX7_remembers 75 = .ok (.iastore, 1) := by decide +kernel
theorem dX7_remembers_76 : decode cX7_remembers 76 = .ok (.iinc 1 1, 3) := by decide +kernel
theorem dX7_remembers_79 : decode cX7_remembers 79 = .ok (.goto (-29), 3) := by decide +kernel
theorem dX7_remembers_82 : decode cX7_remembers 82 = .ok (.aload_n 0, 1) := by decide +kernel
theorem dX7_remembers_83 : decode cX7_remembers 83 = .ok (.dup, 1) := by decide +kernel
theorem dX7_remembers_84 : decode cX7_remembers 84 = .ok (.getfield 37, 3) := by decide +kernel
theorem dX7_remembers_87 : decode cX7_remembers 87 = .ok (.iconst 1, 1) := by decide +kernel
theorem dX7_remembers_88 : decode cX7_remembers 88 = .ok (.iadd, 1) := by decide +kernel
theorem dX7_remembers_89 : decode cX7_remembers 89 = .ok (.putfield 37, 3) := by decide +kernel
theorem dX7_remembers_92 : decode cX7_remembers 92 = .ok (.return_, 1) := by decide +kernel
theorem dX7_finished_0 : decode cX7_finished 0 = .ok (.iload_n 1, 1) := by decide +kernel
theorem dX7_finished_1 : decode cX7_finished 1 = .ok (.bipush (-2), 2) := by decide +kernel
theorem dX7_finished_3 : decode cX7_finished 3 = .ok (.if_icmp .gt 9, 3) := by decide +kernel
theorem dX7_finished_6 : decode cX7_finished 6 = .ok (.aload_n 0, 1) := by decide +kernel
theorem dX7_finished_7 : decode cX7_finished 7 = .ok (.iload_n 1, 1) := by decide +kernel
theorem dX7_finished_8 : decode cX7_finished 8 = .ok (.invokevirtual 41, 3) := by decide +kernel
theorem dX7_finished_11 : decode cX7_finished 11 = .ok (.ireturn, 1) := by decide +kernel
theorem dX7_finished_12 : decode cX7_finished 12 = .ok (.aload_n 0, 1) := by decide +kernel
theorem dX7_finished_13 : decode cX7_finished 13 = .ok (.invokevirtual 45, 3) := by decide +kernel
theorem dX7_finished_16 : decode cX7_finished 16 = .ok (.iload_n 1, 1) := by decide +kernel
theorem dX7_finished_17 : decode cX7_finished 17 = .ok (.ireturn, 1) := by decide +kernel
theorem dX7_back_0 : decode cX7_back 0 = .ok (.aload_n 0, 1) := by decide +kernel
theorem dX7_back_1 : decode cX7_back 1 = .ok (.getfield 37, 3) := by decide +kernel
theorem dX7_back_4 : decode cX7_back 4 = .ok (.ifCond .ne 10, 3) := by decide +kernel
theorem dX7_back_7 : decode cX7_back 7 = .ok (.aload_n 0, 1) := by decide +kernel
theorem dX7_back_8 : decode cX7_back 8 = .ok (.bipush (-3), 2) := by decide +kernel
theorem dX7_back_10 : decode cX7_back 10 = .ok (.invokevirtual 41, 3) := by decide +kernel
theorem dX7_back_13 : decode cX7_back 13 = .ok (.ireturn, 1) := by decide +kernel
theorem dX7_back_14 : decode cX7_back 14 = .ok (.aload_n 0, 1) := by decide +kernel
theorem dX7_back_15 : decode cX7_back 15 = .ok (.dup, 1) := by decide +kernel
theorem dX7_back_16 : decode cX7_back 16 = .ok (.getfield 37, 3) := by decide +kernel
theorem dX7_back_19 : decode cX7_back 19 = .ok (.iconst 1, 1) := by decide +kernel
theorem dX7_back_20 : decode cX7_back 20 = .ok (.isub, 1) := by decide +kernel
theorem dX7_back_21 : decode cX7_back 21 = .ok (.putfield 37, 3) := by decide +kernel
theorem dX7_back_24 : decode cX7_back 24 = .ok (.iconst 0, 1) := by decide +kernel
theorem dX7_back_25 : decode cX7_back 25 = .ok (.istore_n 1, 1) := by decide +kernel
theorem dX7_back_26 : decode cX7_back 26 = .ok (.iload_n 1, 1) := by decide +kernel
theorem dX7_back_27 : decode cX7_back 27 = .ok (.bipush 52, 2) := by decide +kernel
theorem dX7_back_29 : decode cX7_back 29 = .ok (.if_icmp .ge 29, 3) := by decide +kernel
theorem dX7_back_32 : decode cX7_back 32 = .ok (.aload_n 0, 1) := by decide +kernel
theorem dX7_back_33 : decode cX7_back 33 = .ok (.getfield 7, 3) := by decide +kernel
theorem dX7_back_36 : decode cX7_back 36 = .ok (.iload_n 1, 1) := by decide +kernel
theorem dX7_back_37 : decode cX7_back 37 = .ok (.aload_n 0, 1) := by decide +kernel
theorem dX7_back_38 : decode cX7_back 38 = .ok (.getfield 16, 3) := by decide +kernel
theorem dX7_back_41 : decode cX7_back 41 = .ok (.bipush 52, 2) := by decide +kernel
theorem dX7_back_43 : decode cX7_back 43 = .ok (.aload_n 0, 1) := by decide +kernel
theorem dX7_back_44 : decode cX7_back 44 = .ok (.getfield 37, 3) := by decide +kernel
theorem dX7_back_47 : decode cX7_back 47 = .ok (.imul, 1) := by decide +kernel
theorem dX7_back_48 : decode cX7_back 48 = .ok (.iload_n 1, 1) := by decide +kernel
theorem dX7_back_49 : decode cX7_back 49 = .ok (.iadd, 1) := by decide +kernel
theorem dX7_back_50 : decode cX7_back 50 = .ok (.iaload, 1) := by decide +kernel
theorem dX7_back_51 : decode cX7_back 51 = .ok (.iastore, 1) := by decide +kernel
theorem dX7_back_52 : decode cX7_back 52 = .ok (.iinc 1 1, 3) := by decide +kernel
theorem dX7_back_55 : decode cX7_back 55 = .ok (.goto (-29), 3) := by decide +kernel
theorem dX7_back_58 : decode cX7_back 58 = .ok (.aload_n 0, 1) := by decide +kernel
theorem dX7_back_59 : decode cX7_back 59 = .ok (.getfield 37, 3) := by decide +kernel
theorem dX7_back_62 : decode cX7_back 62 = .ok (.ireturn, 1) := by decide +kernel
theorem dX7_isTest_0 : decode cX7_isTest 0 = .ok (.iload_n 1, 1) := by decide +kernel
theorem dX7_isTest_1 : decode cX7_isTest 1 = .ok (.iconst 0, 1) := by decide +kernel
theorem dX7_isTest_2 : decode cX7_isTest 2 = .ok (.aload_n 0, 1) := by decide +kernel
theorem dX7_isTest_3 : decode cX7_isTest 3 = .ok (.getfield 7, 3) := by decide +kernel
theorem dX7_isTest_6 : decode cX7_isTest 6 = .ok (.iconst 0, 1) := by decide +kernel
theorem dX7_isTest_7 : decode cX7_isTest 7 = .ok (.iaload, 1) := by decide +kernel
theorem dX7_isTest_8 : decode cX7_isTest 8 = .ok (.iconst 1, 1) := by decide +kernel
theorem dX7_isTest_9 : decode cX7_isTest 9 = .ok (.isub, 1) := by decide +kernel
theorem dX7_isTest_10 : decode cX7_isTest 10 = .ok (.invokestatic 48, 3) := by decide +kernel
theorem dX7_isTest_13 : decode cX7_isTest 13 = .ok (.ireturn, 1) := by decide +kernel
theorem dX7_ofTest_0 : decode cX7_ofTest 0 = .ok (.aload_n 0, 1) := by decide +kernel
theorem dX7_ofTest_1 : decode cX7_ofTest 1 = .ok (.getfield 7, 3) := by decide +kernel
theorem dX7_ofTest_4 : decode cX7_ofTest 4 = .ok (.bipush 12, 2) := by decide +kernel
theorem dX7_ofTest_6 : decode cX7_ofTest 6 = .ok (.iconst 5, 1) := by decide +kernel
theorem dX7_ofTest_7 : decode cX7_ofTest 7 = .ok (.iload_n 1, 1) := by decide +kernel
theorem dX7_ofTest_8 : decode cX7_ofTest 8 = .ok (.imul, 1) := by decide +kernel
theorem dX7_ofTest_9 : decode cX7_ofTest 9 = .ok (.iadd, 1) := by decide +kernel
theorem dX7_ofTest_10 : decode cX7_ofTest 10 = .ok (.iload_n 2, 1) := by decide +kernel
theorem dX7_ofTest_11 : decode cX7_ofTest 11 = .ok (.iadd, 1) := by decide +kernel
theorem dX7_ofTest_12 : decode cX7_ofTest 12 = .ok (.iaload, 1) := by decide +kernel
theorem dX7_ofTest_13 : decode cX7_ofTest 13 = .ok (.ireturn, 1) := by decide +kernel
theorem dX7_passes_0 : decode cX7_passes 0 = .ok (.iload_n 2, 1) := by decide +kernel
theorem dX7_passes_1 : decode cX7_passes 1 = .ok (.aload_n 0, 1) := by decide +kernel
theorem dX7_passes_2 : decode cX7_passes 2 = .ok (.iload_n 1, 1) := by decide +kernel
theorem dX7_passes_3 : decode cX7_passes 3 = .ok (.iconst 0, 1) := by decide +kernel
theorem dX7_passes_4 : decode cX7_passes 4 = .ok (.invokevirtual 52, 3) := by decide +kernel
theorem dX7_passes_7 : decode cX7_passes 7 = .ok (.iand, 1) := by decide +kernel
theorem dX7_passes_8 : decode cX7_passes 8 = .ok (.ifCond .ne 20, 3) := by decide +kernel
theorem dX7_passes_11 : decode cX7_passes 11 = .ok (.iload_n 2, 1) := by decide +kernel
theorem dX7_passes_12 : decode cX7_passes 12 = .ok (.iconst (-1), 1) := by decide +kernel
theorem dX7_passes_13 : decode cX7_passes 13 = .ok (.ixor, 1) := by decide +kernel
theorem dX7_passes_14 : decode cX7_passes 14 = .ok (.aload_n 0, 1) := by decide +kernel
theorem dX7_passes_15 : decode cX7_passes 15 = .ok (.iload_n 1, 1) := by decide +kernel
theorem dX7_passes_16 : decode cX7_passes 16 = .ok (.iconst 1, 1) := by decide +kernel
theorem dX7_passes_17 : decode cX7_passes 17 = .ok (.invokevirtual 52, 3) := by decide +kernel
theorem dX7_passes_20 : decode cX7_passes 20 = .ok (.iand, 1) := by decide +kernel
theorem dX7_passes_21 : decode cX7_passes 21 = .ok (.ifCond .ne 7, 3) := by decide +kernel
theorem dX7_passes_24 : decode cX7_passes 24 = .ok (.iconst 1, 1) := by decide +kernel
theorem dX7_passes_25 : decode cX7_passes 25 = .ok (.goto 4, 3) := by decide +kernel
theorem dX7_passes_28 : decode cX7_passes 28 = .ok (.iconst 0, 1) := by decide +kernel
theorem dX7_passes_29 : decode cX7_passes 29 = .ok (.ireturn, 1) := by decide +kernel
theorem dX7_behind_0 : decode cX7_behind 0 = .ok (.aload_n 0, 1) := by decide +kernel
theorem dX7_behind_1 : decode cX7_behind 1 = .ok (.getfield 7, 3) := by decide +kernel
theorem dX7_behind_4 : decode cX7_behind 4 = .ok (.iconst 2, 1) := by decide +kernel
theorem dX7_behind_5 : decode cX7_behind 5 = .ok (.iaload, 1) := by decide +kernel
theorem dX7_behind_6 : decode cX7_behind 6 = .ok (.iconst 1, 1) := by decide +kernel
theorem dX7_behind_7 : decode cX7_behind 7 = .ok (.if_icmp .eq 12, 3) := by decide +kernel
theorem dX7_behind_10 : decode cX7_behind 10 = .ok (.aload_n 0, 1) := by decide +kernel
theorem dX7_behind_11 : decode cX7_behind 11 = .ok (.iload_n 1, 1) := by decide +kernel
theorem dX7_behind_12 : decode cX7_behind 12 = .ok (.iload_n 2, 1) := by decide +kernel
theorem dX7_behind_13 : decode cX7_behind 13 = .ok (.invokevirtual 56, 3) := by decide +kernel
theorem dX7_behind_16 : decode cX7_behind 16 = .ok (.ifCond .eq 7, 3) := by decide +kernel
theorem dX7_behind_19 : decode cX7_behind 19 = .ok (.iconst 1, 1) := by decide +kernel
theorem dX7_behind_20 : decode cX7_behind 20 = .ok (.goto 4, 3) := by decide +kernel
theorem dX7_behind_23 : decode cX7_behind 23 = .ok (.iconst 0, 1) := by decide +kernel
theorem dX7_behind_24 : decode cX7_behind 24 = .ok (.istore_n 3, 1) := by decide +kernel
theorem dX7_behind_25 : decode cX7_behind 25 = .ok (.iload_n 3, 1) := by decide +kernel
theorem dX7_behind_26 : decode cX7_behind 26 = .ok (.ifCond .eq 30, 3) := by decide +kernel
theorem dX7_behind_29 : decode cX7_behind 29 = .ok (.iload_n 2, 1) := by decide +kernel
theorem dX7_behind_30 : decode cX7_behind 30 = .ok (.aload_n 0, 1) := by decide +kernel
theorem dX7_behind_31 : decode cX7_behind 31 = .ok (.iload_n 1, 1) := by decide +kernel
theorem dX7_behind_32 : decode cX7_behind 32 = .ok (.iconst 2, 1) := by decide +kernel
theorem dX7_behind_33 : decode cX7_behind 33 = .ok (.invokevirtual 52, 3) := by decide +kernel
theorem dX7_behind_36 : decode cX7_behind 36 = .ok (.iconst (-1), 1) := by decide +kernel
theorem dX7_behind_37 : decode cX7_behind 37 = .ok (.ixor, 1) := by decide +kernel
theorem dX7_behind_38 : decode cX7_behind 38 = .ok (.iand, 1) := by decide +kernel
theorem dX7_behind_39 : decode cX7_behind 39 = .ok (.aload_n 0, 1) := by decide +kernel
theorem dX7_behind_40 : decode cX7_behind 40 = .ok (.iload_n 1, 1) := by decide +kernel
theorem dX7_behind_41 : decode cX7_behind 41 = .ok (.iconst 3, 1) := by decide +kernel
theorem dX7_behind_42 : decode cX7_behind 42 = .ok (.invokevirtual 52, 3) := by decide +kernel
theorem dX7_behind_45 : decode cX7_behind 45 = .ok (.ior, 1) := by decide +kernel
theorem dX7_behind_46 : decode cX7_behind 46 = .ok (.aload_n 0, 1) := by decide +kernel
theorem dX7_behind_47 : decode cX7_behind 47 = .ok (.iload_n 1, 1) := by decide +kernel
theorem dX7_behind_48 : decode cX7_behind 48 = .ok (.iconst 4, 1) := by decide +kernel
theorem dX7_behind_49 : decode cX7_behind 49 = .ok (.invokevirtual 52, 3) := by decide +kernel
theorem dX7_behind_52 : decode cX7_behind 52 = .ok (.ixor, 1) := by decide +kernel
theorem dX7_behind_53 : decode cX7_behind 53 = .ok (.goto 4, 3) := by decide +kernel
theorem dX7_behind_56 : decode cX7_behind 56 = .ok (.iload_n 2, 1) := by decide +kernel
theorem dX7_behind_57 : decode cX7_behind 57 = .ok (.ireturn, 1) := by decide +kernel
theorem dX7_isAlone_0 : decode cX7_isAlone 0 = .ok (.aload_n 0, 1) := by decide +kernel
theorem dX7_isAlone_1 : decode cX7_isAlone 1 = .ok (.iload_n 1, 1) := by decide +kernel
theorem dX7_isAlone_2 : decode cX7_isAlone 2 = .ok (.aload_n 0, 1) := by decide +kernel
theorem dX7_isAlone_3 : decode cX7_isAlone 3 = .ok (.getfield 7, 3) := by decide +kernel
theorem dX7_isAlone_6 : decode cX7_isAlone 6 = .ok (.iconst 1, 1) := by decide +kernel
theorem dX7_isAlone_7 : decode cX7_isAlone 7 = .ok (.iaload, 1) := by decide +kernel
theorem dX7_isAlone_8 : decode cX7_isAlone 8 = .ok (.invokevirtual 56, 3) := by decide +kernel
theorem dX7_isAlone_11 : decode cX7_isAlone 11 = .ok (.ireturn, 1) := by decide +kernel
theorem dX7_behindTried_0 : decode cX7_behindTried 0 = .ok (.aload_n 0, 1) := by decide +kernel
theorem dX7_behindTried_1 : decode cX7_behindTried 1 = .ok (.getfield 7, 3) := by decide +kernel
theorem dX7_behindTried_4 : decode cX7_behindTried 4 = .ok (.iconst 1, 1) := by decide +kernel
theorem dX7_behindTried_5 : decode cX7_behindTried 5 = .ok (.iaload, 1) := by decide +kernel
theorem dX7_behindTried_6 : decode cX7_behindTried 6 = .ok (.istore_n 1, 1) := by decide +kernel
theorem dX7_behindTried_7 : decode cX7_behindTried 7 = .ok (.iconst 0, 1) := by decide +kernel
theorem dX7_behindTried_8 : decode cX7_behindTried 8 = .ok (.istore_n 2, 1) := by decide +kernel
theorem dX7_behindTried_9 : decode cX7_behindTried 9 = .ok (.iload_n 2, 1) := by decide +kernel
theorem dX7_behindTried_10 : decode cX7_behindTried 10 = .ok (.aload_n 0, 1) := by decide +kernel
theorem dX7_behindTried_11 : decode cX7_behindTried 11 = .ok (.getfield 60, 3) := by decide +kernel
theorem dX7_behindTried_14 : decode cX7_behindTried 14 = .ok (.if_icmp .ge 21, 3) := by decide +kernel
theorem dX7_behindTried_17 : decode cX7_behindTried 17 = .ok (.aload_n 0, 1) := by decide +kernel
theorem dX7_behindTried_18 : decode cX7_behindTried 18 = .ok (.aload_n 0, 1) := by decide +kernel
theorem dX7_behindTried_19 : decode cX7_behindTried 19 = .ok (.getfield 25, 3) := by decide +kernel
theorem dX7_behindTried_22 : decode cX7_behindTried 22 = .ok (.iload_n 2, 1) := by decide +kernel
theorem dX7_behindTried_23 : decode cX7_behindTried 23 = .ok (.iaload, 1) := by decide +kernel
theorem dX7_behindTried_24 : decode cX7_behindTried 24 = .ok (.iload_n 1, 1) := by decide +kernel
theorem dX7_behindTried_25 : decode cX7_behindTried 25 = .ok (.invokevirtual 63, 3) := by decide +kernel
theorem dX7_behindTried_28 : decode cX7_behindTried 28 = .ok (.istore_n 1, 1) := by decide +kernel
theorem dX7_behindTried_29 : decode cX7_behindTried 29 = .ok (.iinc 2 1, 3) := by decide +kernel
theorem dX7_behindTried_32 : decode cX7_behindTried 32 = .ok (.goto (-23), 3) := by decide +kernel
theorem dX7_behindTried_35 : decode cX7_behindTried 35 = .ok (.iload_n 1, 1) := by decide +kernel
theorem dX7_behindTried_36 : decode cX7_behindTried 36 = .ok (.ireturn, 1) := by decide +kernel
theorem dX7_isFlipped_0 : decode cX7_isFlipped 0 = .ok (.aload_n 0, 1) := by decide +kernel
theorem dX7_isFlipped_1 : decode cX7_isFlipped 1 = .ok (.iload_n 1, 1) := by decide +kernel
theorem dX7_isFlipped_2 : decode cX7_isFlipped 2 = .ok (.aload_n 0, 1) := by decide +kernel
theorem dX7_isFlipped_3 : decode cX7_isFlipped 3 = .ok (.invokevirtual 66, 3) := by decide +kernel
theorem dX7_isFlipped_6 : decode cX7_isFlipped 6 = .ok (.invokevirtual 56, 3) := by decide +kernel
theorem dX7_isFlipped_9 : decode cX7_isFlipped 9 = .ok (.aload_n 0, 1) := by decide +kernel
theorem dX7_isFlipped_10 : decode cX7_isFlipped 10 = .ok (.iload_n 1, 1) := by decide +kernel
theorem dX7_isFlipped_11 : decode cX7_isFlipped 11 = .ok (.invokevirtual 70, 3) := by decide +kernel
theorem dX7_isFlipped_14 : decode cX7_isFlipped 14 = .ok (.if_icmp .eq 7, 3) := by decide +kernel
theorem dX7_isFlipped_17 : decode cX7_isFlipped 17 = .ok (.iconst 1, 1) := by decide +kernel
theorem dX7_isFlipped_18 : decode cX7_isFlipped 18 = .ok (.goto 4, 3) := by decide +kernel
theorem dX7_isFlipped_21 : decode cX7_isFlipped 21 = .ok (.iconst 0, 1) := by decide +kernel
theorem dX7_isFlipped_22 : decode cX7_isFlipped 22 = .ok (.ireturn, 1) := by decide +kernel
theorem dX7_soilsFor_0 : decode cX7_soilsFor 0 = .ok (.aload_n 0, 1) := by decide +kernel
theorem dX7_soilsFor_1 : decode cX7_soilsFor 1 = .ok (.getfield 25, 3) := by decide +kernel
theorem dX7_soilsFor_4 : decode cX7_soilsFor 4 = .ok (.iconst 0, 1) := by decide +kernel
theorem dX7_soilsFor_5 : decode cX7_soilsFor 5 = .ok (.iload_n 1, 1) := by decide +kernel
theorem dX7_soilsFor_6 : decode cX7_soilsFor 6 = .ok (.iastore, 1) := by decide +kernel
theorem dX7_soilsFor_7 : decode cX7_soilsFor 7 = .ok (.aload_n 0, 1) := by decide +kernel
theorem dX7_soilsFor_8 : decode cX7_soilsFor 8 = .ok (.iconst 1, 1) := by decide +kernel
theorem dX7_soilsFor_9 : decode cX7_soilsFor 9 = .ok (.putfield 60, 3) := by decide +kernel
theorem dX7_soilsFor_12 : decode cX7_soilsFor 12 = .ok (.aload_n 0, 1) := by decide +kernel
theorem dX7_soilsFor_13 : decode cX7_soilsFor 13 = .ok (.iload_n 2, 1) := by decide +kernel
theorem dX7_soilsFor_14 : decode cX7_soilsFor 14 = .ok (.invokevirtual 74, 3) := by decide +kernel
theorem dX7_soilsFor_17 : decode cX7_soilsFor 17 = .ok (.ireturn, 1) := by decide +kernel
theorem dX7_cleansFor_0 : decode cX7_cleansFor 0 = .ok (.aload_n 0, 1) := by decide +kernel
theorem dX7_cleansFor_1 : decode cX7_cleansFor 1 = .ok (.getfield 25, 3) := by decide +kernel
theorem dX7_cleansFor_4 : decode cX7_cleansFor 4 = .ok (.iconst 0, 1) := by decide +kernel
theorem dX7_cleansFor_5 : decode cX7_cleansFor 5 = .ok (.iload_n 2, 1) := by decide +kernel
theorem dX7_cleansFor_6 : decode cX7_cleansFor 6 = .ok (.iastore, 1) := by decide +kernel
theorem dX7_cleansFor_7 : decode cX7_cleansFor 7 = .ok (.aload_n 0, 1) := by decide +kernel
theorem dX7_cleansFor_8 : decode cX7_cleansFor 8 = .ok (.getfield 25, 3) := by decide +kernel
theorem dX7_cleansFor_11 : decode cX7_cleansFor 11 = .ok (.iconst 1, 1) := by decide +kernel
theorem dX7_cleansFor_12 : decode cX7_cleansFor 12 = .ok (.iload_n 1, 1) := by decide +kernel
theorem dX7_cleansFor_13 : decode cX7_cleansFor 13 = .ok (.iastore, 1) := by decide +kernel
theorem dX7_cleansFor_14 : decode cX7_cleansFor 14 = .ok (.aload_n 0, 1) := by decide +kernel
theorem dX7_cleansFor_15 : decode cX7_cleansFor 15 = .ok (.iconst 2, 1) := by decide +kernel
theorem dX7_cleansFor_16 : decode cX7_cleansFor 16 = .ok (.putfield 60, 3) := by decide +kernel
theorem dX7_cleansFor_19 : decode cX7_cleansFor 19 = .ok (.aload_n 0, 1) := by decide +kernel
theorem dX7_cleansFor_20 : decode cX7_cleansFor 20 = .ok (.iload_n 3, 1) := by decide +kernel
theorem dX7_cleansFor_21 : decode cX7_cleansFor 21 = .ok (.invokevirtual 74, 3) := by decide +kernel
theorem dX7_cleansFor_24 : decode cX7_cleansFor 24 = .ok (.ifCond .ne 7, 3) := by decide +kernel
theorem dX7_cleansFor_27 : decode cX7_cleansFor 27 = .ok (.iconst 1, 1) := by decide +kernel
theorem dX7_cleansFor_28 : decode cX7_cleansFor 28 = .ok (.goto 4, 3) := by decide +kernel
theorem dX7_cleansFor_31 : decode cX7_cleansFor 31 = .ok (.iconst 0, 1) := by decide +kernel
theorem dX7_cleansFor_32 : decode cX7_cleansFor 32 = .ok (.ireturn, 1) := by decide +kernel
theorem dX7_placeOf_0 : decode cX7_placeOf 0 = .ok (.iconst 0, 1) := by decide +kernel
theorem dX7_placeOf_1 : decode cX7_placeOf 1 = .ok (.istore_n 2, 1) := by decide +kernel
theorem dX7_placeOf_2 : decode cX7_placeOf 2 = .ok (.iload_n 2, 1) := by decide +kernel
theorem dX7_placeOf_3 : decode cX7_placeOf 3 = .ok (.aload_n 0, 1) := by decide +kernel
theorem dX7_placeOf_4 : decode cX7_placeOf 4 = .ok (.getfield 7, 3) := by decide +kernel
theorem dX7_placeOf_7 : decode cX7_placeOf 7 = .ok (.iconst 3, 1) := by decide +kernel
theorem dX7_placeOf_8 : decode cX7_placeOf 8 = .ok (.iaload, 1) := by decide +kernel
theorem dX7_placeOf_9 : decode cX7_placeOf 9 = .ok (.if_icmp .ge 23, 3) := by decide +kernel
theorem dX7_placeOf_12 : decode cX7_placeOf 12 = .ok (.aload_n 0, 1) := by decide +kernel
theorem dX7_placeOf_13 : decode cX7_placeOf 13 = .ok (.getfield 7, 3) := by decide +kernel
theorem dX7_placeOf_16 : decode cX7_placeOf 16 = .ok (.iconst 4, 1) := by decide +kernel
theorem dX7_placeOf_17 : decode cX7_placeOf 17 = .ok (.iload_n 2, 1) := by decide +kernel
theorem dX7_placeOf_18 : decode cX7_placeOf 18 = .ok (.iadd, 1) := by decide +kernel
theorem dX7_placeOf_19 : decode cX7_placeOf 19 = .ok (.iaload, 1) := by decide +kernel
theorem dX7_placeOf_20 : decode cX7_placeOf 20 = .ok (.iload_n 1, 1) := by decide +kernel
theorem dX7_placeOf_21 : decode cX7_placeOf 21 = .ok (.if_icmp .ne 5, 3) := by decide +kernel
theorem dX7_placeOf_24 : decode cX7_placeOf 24 = .ok (.iload_n 2, 1) := by decide +kernel
theorem dX7_placeOf_25 : decode cX7_placeOf 25 = .ok (.ireturn, 1) := by decide +kernel
theorem dX7_placeOf_26 : decode cX7_placeOf 26 = .ok (.iinc 2 1, 3) := by decide +kernel
theorem dX7_placeOf_29 : decode cX7_placeOf 29 = .ok (.goto (-27), 3) := by decide +kernel
theorem dX7_placeOf_32 : decode cX7_placeOf 32 = .ok (.iconst (-1), 1) := by decide +kernel
theorem dX7_placeOf_33 : decode cX7_placeOf 33 = .ok (.ireturn, 1) := by decide +kernel
theorem dX7_tries_0 : decode cX7_tries 0 = .ok (.aload_n 0, 1) := by decide +kernel
theorem dX7_tries_1 : decode cX7_tries 1 = .ok (.iconst 0, 1) := by decide +kernel
theorem dX7_tries_2 : decode cX7_tries 2 = .ok (.putfield 60, 3) := by decide +kernel
theorem dX7_tries_5 : decode cX7_tries 5 = .ok (.iconst 0, 1) := by decide +kernel
theorem dX7_tries_6 : decode cX7_tries 6 = .ok (.istore_n 3, 1) := by decide +kernel
theorem dX7_tries_7 : decode cX7_tries 7 = .ok (.iload_n 3, 1) := by decide +kernel
theorem dX7_tries_8 : decode cX7_tries 8 = .ok (.iload_n 1, 1) := by decide +kernel
theorem dX7_tries_9 : decode cX7_tries 9 = .ok (.if_icmp .ge 51, 3) := by decide +kernel
theorem dX7_tries_12 : decode cX7_tries 12 = .ok (.iload_n 2, 1) := by decide +kernel
theorem dX7_tries_13 : decode cX7_tries 13 = .ok (.aload_n 0, 1) := by decide +kernel
theorem dX7_tries_14 : decode cX7_tries 14 = .ok (.getfield 7, 3) := by decide +kernel
theorem dX7_tries_17 : decode cX7_tries 17 = .ok (.iconst 4, 1) := by decide +kernel
theorem dX7_tries_18 : decode cX7_tries 18 = .ok (.iload_n 3, 1) := by decide +kernel
theorem dX7_tries_19 : decode cX7_tries 19 = .ok (.iadd, 1) := by decide +kernel
theorem dX7_tries_20 : decode cX7_tries 20 = .ok (.iaload, 1) := by decide +kernel
theorem dX7_tries_21 : decode cX7_tries 21 = .ok (.invokestatic 77, 3) := by decide +kernel
theorem dX7_tries_24 : decode cX7_tries 24 = .ok (.ifCond .eq 30, 3) := by decide +kernel
theorem dX7_tries_27 : decode cX7_tries 27 = .ok (.aload_n 0, 1) := by decide +kernel
theorem dX7_tries_28 : decode cX7_tries 28 = .ok (.getfield 25, 3) := by decide +kernel
theorem dX7_tries_31 : decode cX7_tries 31 = .ok (.aload_n 0, 1) := by decide +kernel
theorem dX7_tries_32 : decode cX7_tries 32 = .ok (.getfield 60, 3) := by decide +kernel
theorem dX7_tries_35 : decode cX7_tries 35 = .ok (.aload_n 0, 1) := by decide +kernel
theorem dX7_tries_36 : decode cX7_tries 36 = .ok (.getfield 7, 3) := by decide +kernel
theorem dX7_tries_39 : decode cX7_tries 39 = .ok (.iconst 4, 1) := by decide +kernel
theorem dX7_tries_40 : decode cX7_tries 40 = .ok (.iload_n 3, 1) := by decide +kernel
theorem dX7_tries_41 : decode cX7_tries 41 = .ok (.iadd, 1) := by decide +kernel
theorem dX7_tries_42 : decode cX7_tries 42 = .ok (.iaload, 1) := by decide +kernel
theorem dX7_tries_43 : decode cX7_tries 43 = .ok (.iastore, 1) := by decide +kernel
theorem dX7_tries_44 : decode cX7_tries 44 = .ok (.aload_n 0, 1) := by decide +kernel
theorem dX7_tries_45 : decode cX7_tries 45 = .ok (.dup, 1) := by decide +kernel
theorem dX7_tries_46 : decode cX7_tries 46 = .ok (.getfield 60, 3) := by decide +kernel
theorem dX7_tries_49 : decode cX7_tries 49 = .ok (.iconst 1, 1) := by decide +kernel
theorem dX7_tries_50 : decode cX7_tries 50 = .ok (.iadd, 1) := by decide +kernel
theorem dX7_tries_51 : decode cX7_tries 51 = .ok (.putfield 60, 3) := by decide +kernel
theorem dX7_tries_54 : decode cX7_tries 54 = .ok (.iinc 3 1, 3) := by decide +kernel
theorem dX7_tries_57 : decode cX7_tries 57 = .ok (.goto (-50), 3) := by decide +kernel
end
section
theorem dX7_tries_60 : decode cX7_tries 60 = .ok (.return_, 1) := by decide +kernel
theorem dX7_flipsIn_0 : decode cX7_flipsIn 0 = .ok (.aload_n 0, 1) := by decide +kernel
theorem dX7_flipsIn_1 : decode cX7_flipsIn 1 = .ok (.iload_n 1, 1) := by decide +kernel
theorem dX7_flipsIn_2 : decode cX7_flipsIn 2 = .ok (.iload_n 2, 1) := by decide +kernel
theorem dX7_flipsIn_3 : decode cX7_flipsIn 3 = .ok (.invokevirtual 80, 3) := by decide +kernel
theorem dX7_flipsIn_6 : decode cX7_flipsIn 6 = .ok (.aload_n 0, 1) := by decide +kernel
theorem dX7_flipsIn_7 : decode cX7_flipsIn 7 = .ok (.aload_n 0, 1) := by decide +kernel
theorem dX7_flipsIn_8 : decode cX7_flipsIn 8 = .ok (.getfield 7, 3) := by decide +kernel
theorem dX7_flipsIn_11 : decode cX7_flipsIn 11 = .ok (.iconst 4, 1) := by decide +kernel
theorem dX7_flipsIn_12 : decode cX7_flipsIn 12 = .ok (.iload_n 1, 1) := by decide +kernel
theorem dX7_flipsIn_13 : decode cX7_flipsIn 13 = .ok (.iadd, 1) := by decide +kernel
theorem dX7_flipsIn_14 : decode cX7_flipsIn 14 = .ok (.iaload, 1) := by decide +kernel
theorem dX7_flipsIn_15 : decode cX7_flipsIn 15 = .ok (.invokevirtual 74, 3) := by decide +kernel
theorem dX7_flipsIn_18 : decode cX7_flipsIn 18 = .ok (.ireturn, 1) := by decide +kernel
theorem dX7_ahead_0 : decode cX7_ahead 0 = .ok (.iconst 0, 1) := by decide +kernel
theorem dX7_ahead_1 : decode cX7_ahead 1 = .ok (.istore_n 2, 1) := by decide +kernel
theorem dX7_ahead_2 : decode cX7_ahead 2 = .ok (.iconst 0, 1) := by decide +kernel
theorem dX7_ahead_3 : decode cX7_ahead 3 = .ok (.istore_n 3, 1) := by decide +kernel
theorem dX7_ahead_4 : decode cX7_ahead 4 = .ok (.iload_n 3, 1) := by decide +kernel
theorem dX7_ahead_5 : decode cX7_ahead 5 = .ok (.iload_n 1, 1) := by decide +kernel
theorem dX7_ahead_6 : decode cX7_ahead 6 = .ok (.if_icmp .ge 22, 3) := by decide +kernel
theorem dX7_ahead_9 : decode cX7_ahead 9 = .ok (.iload_n 2, 1) := by decide +kernel
theorem dX7_ahead_10 : decode cX7_ahead 10 = .ok (.iconst 1, 1) := by decide +kernel
theorem dX7_ahead_11 : decode cX7_ahead 11 = .ok (.aload_n 0, 1) := by decide +kernel
theorem dX7_ahead_12 : decode cX7_ahead 12 = .ok (.getfield 7, 3) := by decide +kernel
theorem dX7_ahead_15 : decode cX7_ahead 15 = .ok (.iconst 4, 1) := by decide +kernel
theorem dX7_ahead_16 : decode cX7_ahead 16 = .ok (.iload_n 3, 1) := by decide +kernel
theorem dX7_ahead_17 : decode cX7_ahead 17 = .ok (.iadd, 1) := by decide +kernel
theorem dX7_ahead_18 : decode cX7_ahead 18 = .ok (.iaload, 1) := by decide +kernel
theorem dX7_ahead_19 : decode cX7_ahead 19 = .ok (.ishl, 1) := by decide +kernel
theorem dX7_ahead_20 : decode cX7_ahead 20 = .ok (.ior, 1) := by decide +kernel
theorem dX7_ahead_21 : decode cX7_ahead 21 = .ok (.istore_n 2, 1) := by decide +kernel
theorem dX7_ahead_22 : decode cX7_ahead 22 = .ok (.iinc 3 1, 3) := by decide +kernel
theorem dX7_ahead_25 : decode cX7_ahead 25 = .ok (.goto (-21), 3) := by decide +kernel
theorem dX7_ahead_28 : decode cX7_ahead 28 = .ok (.iload_n 2, 1) := by decide +kernel
theorem dX7_ahead_29 : decode cX7_ahead 29 = .ok (.ireturn, 1) := by decide +kernel
theorem dX7_leastOf_0 : decode cX7_leastOf 0 = .ok (.aload_n 0, 1) := by decide +kernel
theorem dX7_leastOf_1 : decode cX7_leastOf 1 = .ok (.iload_n 1, 1) := by decide +kernel
theorem dX7_leastOf_2 : decode cX7_leastOf 2 = .ok (.invokevirtual 84, 3) := by decide +kernel
theorem dX7_leastOf_5 : decode cX7_leastOf 5 = .ok (.istore_n 2, 1) := by decide +kernel
theorem dX7_leastOf_6 : decode cX7_leastOf 6 = .ok (.iconst 1, 1) := by decide +kernel
theorem dX7_leastOf_7 : decode cX7_leastOf 7 = .ok (.istore_n 3, 1) := by decide +kernel
theorem dX7_leastOf_8 : decode cX7_leastOf 8 = .ok (.iload_n 3, 1) := by decide +kernel
theorem dX7_leastOf_9 : decode cX7_leastOf 9 = .ok (.ifCond .eq 61, 3) := by decide +kernel
theorem dX7_leastOf_12 : decode cX7_leastOf 12 = .ok (.iconst 0, 1) := by decide +kernel
theorem dX7_leastOf_13 : decode cX7_leastOf 13 = .ok (.istore_n 3, 1) := by decide +kernel
theorem dX7_leastOf_14 : decode cX7_leastOf 14 = .ok (.iconst 0, 1) := by decide +kernel
theorem dX7_leastOf_15 : decode cX7_leastOf 15 = .ok (.istore 4, 2) := by decide +kernel
theorem dX7_leastOf_17 : decode cX7_leastOf 17 = .ok (.iload 4, 2) := by decide +kernel
theorem dX7_leastOf_19 : decode cX7_leastOf 19 = .ok (.iload_n 1, 1) := by decide +kernel
theorem dX7_leastOf_20 : decode cX7_leastOf 20 = .ok (.if_icmp .ge 47, 3) := by decide +kernel
theorem dX7_leastOf_23 : decode cX7_leastOf 23 = .ok (.iload_n 2, 1) := by decide +kernel
theorem dX7_leastOf_24 : decode cX7_leastOf 24 = .ok (.iconst 1, 1) := by decide +kernel
theorem dX7_leastOf_25 : decode cX7_leastOf 25 = .ok (.aload_n 0, 1) := by decide +kernel
theorem dX7_leastOf_26 : decode cX7_leastOf 26 = .ok (.getfield 7, 3) := by decide +kernel
theorem dX7_leastOf_29 : decode cX7_leastOf 29 = .ok (.iconst 4, 1) := by decide +kernel
theorem dX7_leastOf_30 : decode cX7_leastOf 30 = .ok (.iload 4, 2) := by decide +kernel
theorem dX7_leastOf_32 : decode cX7_leastOf 32 = .ok (.iadd, 1) := by decide +kernel
theorem dX7_leastOf_33 : decode cX7_leastOf 33 = .ok (.iaload, 1) := by decide +kernel
theorem dX7_leastOf_34 : decode cX7_leastOf 34 = .ok (.ishl, 1) := by decide +kernel
theorem dX7_leastOf_35 : decode cX7_leastOf 35 = .ok (.iconst (-1), 1) := by decide +kernel
theorem dX7_leastOf_36 : decode cX7_leastOf 36 = .ok (.ixor, 1) := by decide +kernel
theorem dX7_leastOf_37 : decode cX7_leastOf 37 = .ok (.iand, 1) := by decide +kernel
theorem dX7_leastOf_38 : decode cX7_leastOf 38 = .ok (.istore 5, 2) := by decide +kernel
theorem dX7_leastOf_40 : decode cX7_leastOf 40 = .ok (.iload 5, 2) := by decide +kernel
theorem dX7_leastOf_42 : decode cX7_leastOf 42 = .ok (.iload_n 2, 1) := by decide +kernel
theorem dX7_leastOf_43 : decode cX7_leastOf 43 = .ok (.if_icmp .eq 18, 3) := by decide +kernel
theorem dX7_leastOf_46 : decode cX7_leastOf 46 = .ok (.aload_n 0, 1) := by decide +kernel
theorem dX7_leastOf_47 : decode cX7_leastOf 47 = .ok (.iload_n 1, 1) := by decide +kernel
theorem dX7_leastOf_48 : decode cX7_leastOf 48 = .ok (.iload 5, 2) := by decide +kernel
theorem dX7_leastOf_50 : decode cX7_leastOf 50 = .ok (.invokevirtual 87, 3) := by decide +kernel
theorem dX7_leastOf_53 : decode cX7_leastOf 53 = .ok (.ifCond .eq 8, 3) := by decide +kernel
theorem dX7_leastOf_56 : decode cX7_leastOf 56 = .ok (.iload 5, 2) := by decide +kernel
theorem dX7_leastOf_58 : decode cX7_leastOf 58 = .ok (.istore_n 2, 1) := by decide +kernel
theorem dX7_leastOf_59 : decode cX7_leastOf 59 = .ok (.iconst 1, 1) := by decide +kernel
theorem dX7_leastOf_60 : decode cX7_leastOf 60 = .ok (.istore_n 3, 1) := by decide +kernel
theorem dX7_leastOf_61 : decode cX7_leastOf 61 = .ok (.iinc 4 1, 3) := by decide +kernel
theorem dX7_leastOf_64 : decode cX7_leastOf 64 = .ok (.goto (-47), 3) := by decide +kernel
theorem dX7_leastOf_67 : decode cX7_leastOf 67 = .ok (.goto (-59), 3) := by decide +kernel
theorem dX7_leastOf_70 : decode cX7_leastOf 70 = .ok (.iload_n 2, 1) := by decide +kernel
theorem dX7_leastOf_71 : decode cX7_leastOf 71 = .ok (.ireturn, 1) := by decide +kernel
theorem dX7_fewestOf_0 : decode cX7_fewestOf 0 = .ok (.aload_n 0, 1) := by decide +kernel
theorem dX7_fewestOf_1 : decode cX7_fewestOf 1 = .ok (.iload_n 1, 1) := by decide +kernel
theorem dX7_fewestOf_2 : decode cX7_fewestOf 2 = .ok (.invokevirtual 84, 3) := by decide +kernel
theorem dX7_fewestOf_5 : decode cX7_fewestOf 5 = .ok (.istore_n 2, 1) := by decide +kernel
theorem dX7_fewestOf_6 : decode cX7_fewestOf 6 = .ok (.iload_n 2, 1) := by decide +kernel
theorem dX7_fewestOf_7 : decode cX7_fewestOf 7 = .ok (.istore_n 3, 1) := by decide +kernel
theorem dX7_fewestOf_8 : decode cX7_fewestOf 8 = .ok (.sipush 255, 3) := by decide +kernel
theorem dX7_fewestOf_11 : decode cX7_fewestOf 11 = .ok (.istore 4, 2) := by decide +kernel
theorem dX7_fewestOf_13 : decode cX7_fewestOf 13 = .ok (.iload 4, 2) := by decide +kernel
theorem dX7_fewestOf_15 : decode cX7_fewestOf 15 = .ok (.ifCond .lt 43, 3) := by decide +kernel
theorem dX7_fewestOf_18 : decode cX7_fewestOf 18 = .ok (.iload 4, 2) := by decide +kernel
theorem dX7_fewestOf_20 : decode cX7_fewestOf 20 = .ok (.iload_n 2, 1) := by decide +kernel
theorem dX7_fewestOf_21 : decode cX7_fewestOf 21 = .ok (.iconst (-1), 1) := by decide +kernel
theorem dX7_fewestOf_22 : decode cX7_fewestOf 22 = .ok (.ixor, 1) := by decide +kernel
theorem dX7_fewestOf_23 : decode cX7_fewestOf 23 = .ok (.iand, 1) := by decide +kernel
theorem dX7_fewestOf_24 : decode cX7_fewestOf 24 = .ok (.ifCond .ne 28, 3) := by decide +kernel
theorem dX7_fewestOf_27 : decode cX7_fewestOf 27 = .ok (.iload 4, 2) := by decide +kernel
theorem dX7_fewestOf_29 : decode cX7_fewestOf 29 = .ok (.invokestatic 90, 3) := by decide +kernel
theorem dX7_fewestOf_32 : decode cX7_fewestOf 32 = .ok (.iload_n 3, 1) := by decide +kernel
theorem dX7_fewestOf_33 : decode cX7_fewestOf 33 = .ok (.invokestatic 90, 3) := by decide +kernel
theorem dX7_fewestOf_36 : decode cX7_fewestOf 36 = .ok (.if_icmp .gt 16, 3) := by decide +kernel
theorem dX7_fewestOf_39 : decode cX7_fewestOf 39 = .ok (.aload_n 0, 1) := by decide +kernel
theorem dX7_fewestOf_40 : decode cX7_fewestOf 40 = .ok (.iload_n 1, 1) := by decide +kernel
theorem dX7_fewestOf_41 : decode cX7_fewestOf 41 = .ok (.iload 4, 2) := by decide +kernel
theorem dX7_fewestOf_43 : decode cX7_fewestOf 43 = .ok (.invokevirtual 87, 3) := by decide +kernel
theorem dX7_fewestOf_46 : decode cX7_fewestOf 46 = .ok (.ifCond .eq 6, 3) := by decide +kernel
theorem dX7_fewestOf_49 : decode cX7_fewestOf 49 = .ok (.iload 4, 2) := by decide +kernel
theorem dX7_fewestOf_51 : decode cX7_fewestOf 51 = .ok (.istore_n 3, 1) := by decide +kernel
theorem dX7_fewestOf_52 : decode cX7_fewestOf 52 = .ok (.iinc 4 (-1), 3) := by decide +kernel
theorem dX7_fewestOf_55 : decode cX7_fewestOf 55 = .ok (.goto (-42), 3) := by decide +kernel
theorem dX7_fewestOf_58 : decode cX7_fewestOf 58 = .ok (.iload_n 3, 1) := by decide +kernel
theorem dX7_fewestOf_59 : decode cX7_fewestOf 59 = .ok (.ireturn, 1) := by decide +kernel
theorem dX7_halvesOf_0 : decode cX7_halvesOf 0 = .ok (.aload_n 0, 1) := by decide +kernel
theorem dX7_halvesOf_1 : decode cX7_halvesOf 1 = .ok (.iload_n 1, 1) := by decide +kernel
theorem dX7_halvesOf_2 : decode cX7_halvesOf 2 = .ok (.invokevirtual 84, 3) := by decide +kernel
theorem dX7_halvesOf_5 : decode cX7_halvesOf 5 = .ok (.istore_n 2, 1) := by decide +kernel
theorem dX7_halvesOf_6 : decode cX7_halvesOf 6 = .ok (.iload_n 2, 1) := by decide +kernel
theorem dX7_halvesOf_7 : decode cX7_halvesOf 7 = .ok (.invokestatic 90, 3) := by decide +kernel
theorem dX7_halvesOf_10 : decode cX7_halvesOf 10 = .ok (.iconst 1, 1) := by decide +kernel
theorem dX7_halvesOf_11 : decode cX7_halvesOf 11 = .ok (.if_icmp .le 7, 3) := by decide +kernel
theorem dX7_halvesOf_14 : decode cX7_halvesOf 14 = .ok (.iconst 1, 1) := by decide +kernel
theorem dX7_halvesOf_15 : decode cX7_halvesOf 15 = .ok (.goto 4, 3) := by decide +kernel
theorem dX7_halvesOf_18 : decode cX7_halvesOf 18 = .ok (.iconst 0, 1) := by decide +kernel
theorem dX7_halvesOf_19 : decode cX7_halvesOf 19 = .ok (.istore_n 3, 1) := by decide +kernel
theorem dX7_halvesOf_20 : decode cX7_halvesOf 20 = .ok (.iload_n 3, 1) := by decide +kernel
theorem dX7_halvesOf_21 : decode cX7_halvesOf 21 = .ok (.ifCond .eq 150, 3) := by decide +kernel
theorem dX7_halvesOf_24 : decode cX7_halvesOf 24 = .ok (.iconst 0, 1) := by decide +kernel
theorem dX7_halvesOf_25 : decode cX7_halvesOf 25 = .ok (.istore 4, 2) := by decide +kernel
theorem dX7_halvesOf_27 : decode cX7_halvesOf 27 = .ok (.iload_n 2, 1) := by decide +kernel
theorem dX7_halvesOf_28 : decode cX7_halvesOf 28 = .ok (.invokestatic 90, 3) := by decide +kernel
theorem dX7_halvesOf_31 : decode cX7_halvesOf 31 = .ok (.iconst 2, 1) := by decide +kernel
theorem dX7_halvesOf_32 : decode cX7_halvesOf 32 = .ok (.idiv, 1) := by decide +kernel
theorem dX7_halvesOf_33 : decode cX7_halvesOf 33 = .ok (.istore 5, 2) := by decide +kernel
theorem dX7_halvesOf_35 : decode cX7_halvesOf 35 = .ok (.iconst 0, 1) := by decide +kernel
theorem dX7_halvesOf_36 : decode cX7_halvesOf 36 = .ok (.istore 6, 2) := by decide +kernel
theorem dX7_halvesOf_38 : decode cX7_halvesOf 38 = .ok (.iload 6, 2) := by decide +kernel
theorem dX7_halvesOf_40 : decode cX7_halvesOf 40 = .ok (.iload_n 1, 1) := by decide +kernel
theorem dX7_halvesOf_41 : decode cX7_halvesOf 41 = .ok (.if_icmp .ge 67, 3) := by decide +kernel
theorem dX7_halvesOf_44 : decode cX7_halvesOf 44 = .ok (.iload_n 2, 1) := by decide +kernel
theorem dX7_halvesOf_45 : decode cX7_halvesOf 45 = .ok (.aload_n 0, 1) := by decide +kernel
theorem dX7_halvesOf_46 : decode cX7_halvesOf 46 = .ok (.getfield 7, 3) := by decide +kernel
theorem dX7_halvesOf_49 : decode cX7_halvesOf 49 = .ok (.iconst 4, 1) := by decide +kernel
theorem dX7_halvesOf_50 : decode cX7_halvesOf 50 = .ok (.iload 6, 2) := by decide +kernel
theorem dX7_halvesOf_52 : decode cX7_halvesOf 52 = .ok (.iadd, 1) := by decide +kernel
theorem dX7_halvesOf_53 : decode cX7_halvesOf 53 = .ok (.iaload, 1) := by decide +kernel
theorem dX7_halvesOf_54 : decode cX7_halvesOf 54 = .ok (.invokestatic 77, 3) := by decide +kernel
theorem dX7_halvesOf_57 : decode cX7_halvesOf 57 = .ok (.ifCond .eq 17, 3) := by decide +kernel
theorem dX7_halvesOf_60 : decode cX7_halvesOf 60 = .ok (.iload 4, 2) := by decide +kernel
theorem dX7_halvesOf_62 : decode cX7_halvesOf 62 = .ok (.invokestatic 90, 3) := by decide +kernel
theorem dX7_halvesOf_65 : decode cX7_halvesOf 65 = .ok (.iload 5, 2) := by decide +kernel
theorem dX7_halvesOf_67 : decode cX7_halvesOf 67 = .ok (.if_icmp .ge 7, 3) := by decide +kernel
theorem dX7_halvesOf_70 : decode cX7_halvesOf 70 = .ok (.iconst 1, 1) := by decide +kernel
theorem dX7_halvesOf_71 : decode cX7_halvesOf 71 = .ok (.goto 4, 3) := by decide +kernel
theorem dX7_halvesOf_74 : decode cX7_halvesOf 74 = .ok (.iconst 0, 1) := by decide +kernel
theorem dX7_halvesOf_75 : decode cX7_halvesOf 75 = .ok (.istore 7, 2) := by decide +kernel
theorem dX7_halvesOf_77 : decode cX7_halvesOf 77 = .ok (.iload 4, 2) := by decide +kernel
theorem dX7_halvesOf_79 : decode cX7_halvesOf 79 = .ok (.iload 7, 2) := by decide +kernel
theorem dX7_halvesOf_81 : decode cX7_halvesOf 81 = .ok (.ifCond .eq 17, 3) := by decide +kernel
theorem dX7_halvesOf_84 : decode cX7_halvesOf 84 = .ok (.iconst 1, 1) := by decide +kernel
theorem dX7_halvesOf_85 : decode cX7_halvesOf 85 = .ok (.aload_n 0, 1) := by decide +kernel
theorem dX7_halvesOf_86 : decode cX7_halvesOf 86 = .ok (.getfield 7, 3) := by decide +kernel
theorem dX7_halvesOf_89 : decode cX7_halvesOf 89 = .ok (.iconst 4, 1) := by decide +kernel
theorem dX7_halvesOf_90 : decode cX7_halvesOf 90 = .ok (.iload 6, 2) := by decide +kernel
theorem dX7_halvesOf_92 : decode cX7_halvesOf 92 = .ok (.iadd, 1) := by decide +kernel
theorem dX7_halvesOf_93 : decode cX7_halvesOf 93 = .ok (.iaload, 1) := by decide +kernel
theorem dX7_halvesOf_94 : decode cX7_halvesOf 94 = .ok (.ishl, 1) := by decide +kernel
theorem dX7_halvesOf_95 : decode cX7_halvesOf 95 = .ok (.goto 4, 3) := by decide +kernel
theorem dX7_halvesOf_98 : decode cX7_halvesOf 98 = .ok (.iconst 0, 1) := by decide +kernel
theorem dX7_halvesOf_99 : decode cX7_halvesOf 99 = .ok (.ior, 1) := by decide +kernel
theorem dX7_halvesOf_100 : decode cX7_halvesOf 100 = .ok (.istore 4, 2) := by decide +kernel
theorem dX7_halvesOf_102 : decode cX7_halvesOf 102 = .ok (.iinc 6 1, 3) := by decide +kernel
theorem dX7_halvesOf_105 : decode cX7_halvesOf 105 = .ok (.goto (-67), 3) := by decide +kernel
theorem dX7_halvesOf_108 : decode cX7_halvesOf 108 = .ok (.iload_n 2, 1) := by decide +kernel
theorem dX7_halvesOf_109 : decode cX7_halvesOf 109 = .ok (.iload 4, 2) := by decide +kernel
theorem dX7_halvesOf_111 : decode cX7_halvesOf 111 = .ok (.iconst (-1), 1) := by decide +kernel
theorem dX7_halvesOf_112 : decode cX7_halvesOf 112 = .ok (.ixor, 1) := by decide +kernel
theorem dX7_halvesOf_113 : decode cX7_halvesOf 113 = .ok (.iand, 1) := by decide +kernel
theorem dX7_halvesOf_114 : decode cX7_halvesOf 114 = .ok (.istore 6, 2) := by decide +kernel
theorem dX7_halvesOf_116 : decode cX7_halvesOf 116 = .ok (.aload_n 0, 1) := by decide +kernel
theorem dX7_halvesOf_117 : decode cX7_halvesOf 117 = .ok (.iload_n 1, 1) := by decide +kernel
theorem dX7_halvesOf_118 : decode cX7_halvesOf 118 = .ok (.iload 4, 2) := by decide +kernel
theorem dX7_halvesOf_120 : decode cX7_halvesOf 120 = .ok (.invokevirtual 87, 3) := by decide +kernel
theorem dX7_halvesOf_123 : decode cX7_halvesOf 123 = .ok (.ifCond .eq 9, 3) := by decide +kernel
theorem dX7_halvesOf_126 : decode cX7_halvesOf 126 = .ok (.iload 4, 2) := by decide +kernel
theorem dX7_halvesOf_128 : decode cX7_halvesOf 128 = .ok (.istore_n 2, 1) := by decide +kernel
theorem dX7_halvesOf_129 : decode cX7_halvesOf 129 = .ok (.goto 21, 3) := by decide +kernel
theorem dX7_halvesOf_132 : decode cX7_halvesOf 132 = .ok (.aload_n 0, 1) := by decide +kernel
theorem dX7_halvesOf_133 : decode cX7_halvesOf 133 = .ok (.iload_n 1, 1) := by decide +kernel
theorem dX7_halvesOf_134 : decode cX7_halvesOf 134 = .ok (.iload 6, 2) := by decide +kernel
theorem dX7_halvesOf_136 : decode cX7_halvesOf 136 = .ok (.invokevirtual 87, 3) := by decide +kernel
theorem dX7_halvesOf_139 : decode cX7_halvesOf 139 = .ok (.ifCond .eq 9, 3) := by decide +kernel
theorem dX7_halvesOf_142 : decode cX7_halvesOf 142 = .ok (.iload 6, 2) := by decide +kernel
theorem dX7_halvesOf_144 : decode cX7_halvesOf 144 = .ok (.istore_n 2, 1) := by decide +kernel
theorem dX7_halvesOf_145 : decode cX7_halvesOf 145 = .ok (.goto 5, 3) := by decide +kernel
theorem dX7_halvesOf_148 : decode cX7_halvesOf 148 = .ok (.iconst 0, 1) := by decide +kernel
theorem dX7_halvesOf_149 : decode cX7_halvesOf 149 = .ok (.istore_n 3, 1) := by decide +kernel
theorem dX7_halvesOf_150 : decode cX7_halvesOf 150 = .ok (.iload_n 3, 1) := by decide +kernel
theorem dX7_halvesOf_151 : decode cX7_halvesOf 151 = .ok (.ifCond .eq 15, 3) := by decide +kernel
theorem dX7_halvesOf_154 : decode cX7_halvesOf 154 = .ok (.iload_n 2, 1) := by decide +kernel
theorem dX7_halvesOf_155 : decode cX7_halvesOf 155 = .ok (.invokestatic 90, 3) := by decide +kernel
theorem dX7_halvesOf_158 : decode cX7_halvesOf 158 = .ok (.iconst 1, 1) := by decide +kernel
theorem dX7_halvesOf_159 : decode cX7_halvesOf 159 = .ok (.if_icmp .le 7, 3) := by decide +kernel
theorem dX7_halvesOf_162 : decode cX7_halvesOf 162 = .ok (.iconst 1, 1) := by decide +kernel
theorem dX7_halvesOf_163 : decode cX7_halvesOf 163 = .ok (.goto 4, 3) := by decide +kernel
theorem dX7_halvesOf_166 : decode cX7_halvesOf 166 = .ok (.iconst 0, 1) := by decide +kernel
theorem dX7_halvesOf_167 : decode cX7_halvesOf 167 = .ok (.istore_n 3, 1) := by decide +kernel
theorem dX7_halvesOf_168 : decode cX7_halvesOf 168 = .ok (.goto (-148), 3) := by decide +kernel
theorem dX7_halvesOf_171 : decode cX7_halvesOf 171 = .ok (.iload_n 2, 1) := by decide +kernel
theorem dX7_halvesOf_172 : decode cX7_halvesOf 172 = .ok (.ireturn, 1) := by decide +kernel
theorem dX7_isFlippedInRow_0 : decode cX7_isFlippedInRow 0 = .ok (.aload_n 0, 1) := by decide +kernel
theorem dX7_isFlippedInRow_1 : decode cX7_isFlippedInRow 1 = .ok (.iload_n 1, 1) := by decide +kernel
theorem dX7_isFlippedInRow_2 : decode cX7_isFlippedInRow 2 = .ok (.invokevirtual 93, 3) := by decide +kernel
theorem dX7_isFlippedInRow_5 : decode cX7_isFlippedInRow 5 = .ok (.istore_n 2, 1) := by decide +kernel
theorem dX7_isFlippedInRow_6 : decode cX7_isFlippedInRow 6 = .ok (.iload_n 2, 1) := by decide +kernel
theorem dX7_isFlippedInRow_7 : decode cX7_isFlippedInRow 7 = .ok (.iconst (-1), 1) := by decide +kernel
theorem dX7_isFlippedInRow_8 : decode cX7_isFlippedInRow 8 = .ok (.if_icmp .eq 18, 3) := by decide +kernel
theorem dX7_isFlippedInRow_11 : decode cX7_isFlippedInRow 11 = .ok (.aload_n 0, 1) := by decide +kernel
theorem dX7_isFlippedInRow_12 : decode cX7_isFlippedInRow 12 = .ok (.iload_n 2, 1) := by decide +kernel
theorem dX7_isFlippedInRow_13 : decode cX7_isFlippedInRow 13 = .ok (.sipush 255, 3) := by decide +kernel
theorem dX7_isFlippedInRow_16 : decode cX7_isFlippedInRow 16 = .ok (.invokevirtual 87, 3) := by decide +kernel
theorem dX7_isFlippedInRow_19 : decode cX7_isFlippedInRow 19 = .ok (.ifCond .eq 7, 3) := by decide +kernel
theorem dX7_isFlippedInRow_22 : decode cX7_isFlippedInRow 22 = .ok (.iconst 1, 1) := by decide +kernel
theorem dX7_isFlippedInRow_23 : decode cX7_isFlippedInRow 23 = .ok (.goto 4, 3) := by decide +kernel
theorem dX7_isFlippedInRow_26 : decode cX7_isFlippedInRow 26 = .ok (.iconst 0, 1) := by decide +kernel
theorem dX7_isFlippedInRow_27 : decode cX7_isFlippedInRow 27 = .ok (.ireturn, 1) := by decide +kernel
theorem dX7_putTest_0 : decode cX7_putTest 0 = .ok (.iload_n 1, 1) := by decide +kernel
theorem dX7_putTest_1 : decode cX7_putTest 1 = .ok (.iconst 0, 1) := by decide +kernel
theorem dX7_putTest_2 : decode cX7_putTest 2 = .ok (.bipush 63, 2) := by decide +kernel
theorem dX7_putTest_4 : decode cX7_putTest 4 = .ok (.invokestatic 48, 3) := by decide +kernel
theorem dX7_putTest_7 : decode cX7_putTest 7 = .ok (.ifCond .eq 49, 3) := by decide +kernel
theorem dX7_putTest_10 : decode cX7_putTest 10 = .ok (.iload_n 2, 1) := by decide +kernel
theorem dX7_putTest_11 : decode cX7_putTest 11 = .ok (.iconst 0, 1) := by decide +kernel
theorem dX7_putTest_12 : decode cX7_putTest 12 = .ok (.bipush 63, 2) := by decide +kernel
theorem dX7_putTest_14 : decode cX7_putTest 14 = .ok (.invokestatic 48, 3) := by decide +kernel
theorem dX7_putTest_17 : decode cX7_putTest 17 = .ok (.ifCond .eq 39, 3) := by decide +kernel
theorem dX7_putTest_20 : decode cX7_putTest 20 = .ok (.iload_n 3, 1) := by decide +kernel
theorem dX7_putTest_21 : decode cX7_putTest 21 = .ok (.iconst 0, 1) := by decide +kernel
theorem dX7_putTest_22 : decode cX7_putTest 22 = .ok (.bipush 63, 2) := by decide +kernel
theorem dX7_putTest_24 : decode cX7_putTest 24 = .ok (.invokestatic 48, 3) := by decide +kernel
theorem dX7_putTest_27 : decode cX7_putTest 27 = .ok (.ifCond .eq 29, 3) := by decide +kernel
theorem dX7_putTest_30 : decode cX7_putTest 30 = .ok (.iload 4, 2) := by decide +kernel
theorem dX7_putTest_32 : decode cX7_putTest 32 = .ok (.iconst 0, 1) := by decide +kernel
theorem dX7_putTest_33 : decode cX7_putTest 33 = .ok (.bipush 63, 2) := by decide +kernel
theorem dX7_putTest_35 : decode cX7_putTest 35 = .ok (.invokestatic 48, 3) := by decide +kernel
theorem dX7_putTest_38 : decode cX7_putTest 38 = .ok (.ifCond .eq 18, 3) := by decide +kernel
theorem dX7_putTest_41 : decode cX7_putTest 41 = .ok (.iload 5, 2) := by decide +kernel
theorem dX7_putTest_43 : decode cX7_putTest 43 = .ok (.iconst 0, 1) := by decide +kernel
theorem dX7_putTest_44 : decode cX7_putTest 44 = .ok (.bipush 63, 2) := by decide +kernel
theorem dX7_putTest_46 : decode cX7_putTest 46 = .ok (.invokestatic 48, 3) := by decide +kernel
theorem dX7_putTest_49 : decode cX7_putTest 49 = .ok (.ifCond .eq 7, 3) := by decide +kernel
theorem dX7_putTest_52 : decode cX7_putTest 52 = .ok (.iconst 1, 1) := by decide +kernel
theorem dX7_putTest_53 : decode cX7_putTest 53 = .ok (.goto 4, 3) := by decide +kernel
theorem dX7_putTest_56 : decode cX7_putTest 56 = .ok (.iconst 0, 1) := by decide +kernel
theorem dX7_putTest_57 : decode cX7_putTest 57 = .ok (.istore 6, 2) := by decide +kernel
theorem dX7_putTest_59 : decode cX7_putTest 59 = .ok (.iload 6, 2) := by decide +kernel
theorem dX7_putTest_61 : decode cX7_putTest 61 = .ok (.ifCond .eq 31, 3) := by decide +kernel
theorem dX7_putTest_64 : decode cX7_putTest 64 = .ok (.iload_n 1, 1) := by decide +kernel
theorem dX7_putTest_65 : decode cX7_putTest 65 = .ok (.iload_n 2, 1) := by decide +kernel
theorem dX7_putTest_66 : decode cX7_putTest 66 = .ok (.iand, 1) := by decide +kernel
theorem dX7_putTest_67 : decode cX7_putTest 67 = .ok (.ifCond .ne 25, 3) := by decide +kernel
theorem dX7_putTest_70 : decode cX7_putTest 70 = .ok (.iload_n 3, 1) := by decide +kernel
theorem dX7_putTest_71 : decode cX7_putTest 71 = .ok (.iload 4, 2) := by decide +kernel
theorem dX7_putTest_73 : decode cX7_putTest 73 = .ok (.iand, 1) := by decide +kernel
theorem dX7_putTest_74 : decode cX7_putTest 74 = .ok (.ifCond .ne 18, 3) := by decide +kernel
theorem dX7_putTest_77 : decode cX7_putTest 77 = .ok (.iload_n 3, 1) := by decide +kernel
theorem dX7_putTest_78 : decode cX7_putTest 78 = .ok (.iload 5, 2) := by decide +kernel
theorem dX7_putTest_80 : decode cX7_putTest 80 = .ok (.iand, 1) := by decide +kernel
theorem dX7_putTest_81 : decode cX7_putTest 81 = .ok (.ifCond .ne 11, 3) := by decide +kernel
theorem dX7_putTest_84 : decode cX7_putTest 84 = .ok (.iload 4, 2) := by decide +kernel
theorem dX7_putTest_86 : decode cX7_putTest 86 = .ok (.iload 5, 2) := by decide +kernel
theorem dX7_putTest_88 : decode cX7_putTest 88 = .ok (.iand, 1) := by decide +kernel
theorem dX7_putTest_89 : decode cX7_putTest 89 = .ok (.ifCond .eq 6, 3) := by decide +kernel
theorem dX7_putTest_92 : decode cX7_putTest 92 = .ok (.bipush (-2), 2) := by decide +kernel
theorem dX7_putTest_94 : decode cX7_putTest 94 = .ok (.ireturn, 1) := by decide +kernel
theorem dX7_putTest_95 : decode cX7_putTest 95 = .ok (.aload_n 0, 1) := by decide +kernel
theorem dX7_putTest_96 : decode cX7_putTest 96 = .ok (.getfield 7, 3) := by decide +kernel
theorem dX7_putTest_99 : decode cX7_putTest 99 = .ok (.iconst 0, 1) := by decide +kernel
theorem dX7_putTest_100 : decode cX7_putTest 100 = .ok (.iaload, 1) := by decide +kernel
theorem dX7_putTest_101 : decode cX7_putTest 101 = .ok (.bipush 8, 2) := by decide +kernel
theorem dX7_putTest_103 : decode cX7_putTest 103 = .ok (.if_icmp .ne 6, 3) := by decide +kernel
theorem dX7_putTest_106 : decode cX7_putTest 106 = .ok (.bipush (-4), 2) := by decide +kernel
theorem dX7_putTest_108 : decode cX7_putTest 108 = .ok (.ireturn, 1) := by decide +kernel
theorem dX7_putTest_109 : decode cX7_putTest 109 = .ok (.bipush 12, 2) := by decide +kernel
theorem dX7_putTest_111 : decode cX7_putTest 111 = .ok (.iconst 5, 1) := by decide +kernel
theorem dX7_putTest_112 : decode cX7_putTest 112 = .ok (.aload_n 0, 1) := by decide +kernel
theorem dX7_putTest_113 : decode cX7_putTest 113 = .ok (.getfield 7, 3) := by decide +kernel
theorem dX7_putTest_116 : decode cX7_putTest 116 = .ok (.iconst 0, 1) := by decide +kernel
theorem dX7_putTest_117 : decode cX7_putTest 117 = .ok (.iaload, 1) := by decide +kernel
theorem dX7_putTest_118 : decode cX7_putTest 118 = .ok (.imul, 1) := by decide +kernel
theorem dX7_putTest_119 : decode cX7_putTest 119 = .ok (.iadd, 1) := by decide +kernel
theorem dX7_putTest_120 : decode cX7_putTest 120 = .ok (.istore 7, 2) := by decide +kernel
theorem dX7_putTest_122 : decode cX7_putTest 122 = .ok (.aload_n 0, 1) := by decide +kernel
theorem dX7_putTest_123 : decode cX7_putTest 123 = .ok (.getfield 7, 3) := by decide +kernel
theorem dX7_putTest_126 : decode cX7_putTest 126 = .ok (.iload 7, 2) := by decide +kernel
theorem dX7_putTest_128 : decode cX7_putTest 128 = .ok (.iload_n 1, 1) := by decide +kernel
theorem dX7_putTest_129 : decode cX7_putTest 129 = .ok (.iastore, 1) := by decide +kernel
theorem dX7_putTest_130 : decode cX7_putTest 130 = .ok (.aload_n 0, 1) := by decide +kernel
theorem dX7_putTest_131 : decode cX7_putTest 131 = .ok (.getfield 7, 3) := by decide +kernel
theorem dX7_putTest_134 : decode cX7_putTest 134 = .ok (.iload 7, 2) := by decide +kernel
theorem dX7_putTest_136 : decode cX7_putTest 136 = .ok (.iconst 1, 1) := by decide +kernel
theorem dX7_putTest_137 : decode cX7_putTest 137 = .ok (.iadd, 1) := by decide +kernel
theorem dX7_putTest_138 : decode cX7_putTest 138 = .ok (.iload_n 2, 1) := by decide +kernel
theorem dX7_putTest_139 : decode cX7_putTest 139 = .ok (.iastore, 1) := by decide +kernel
theorem dX7_putTest_140 : decode cX7_putTest 140 = .ok (.aload_n 0, 1) := by decide +kernel
theorem dX7_putTest_141 : decode cX7_putTest 141 = .ok (.getfield 7, 3) := by decide +kernel
theorem dX7_putTest_144 : decode cX7_putTest 144 = .ok (.iload 7, 2) := by decide +kernel
theorem dX7_putTest_146 : decode cX7_putTest 146 = .ok (.iconst 2, 1) := by decide +kernel
theorem dX7_putTest_147 : decode cX7_putTest 147 = .ok (.iadd, 1) := by decide +kernel
theorem dX7_putTest_148 : decode cX7_putTest 148 = .ok (.iload_n 3, 1) := by decide +kernel
theorem dX7_putTest_149 : decode cX7_putTest 149 = .ok (.iastore, 1) := by decide +kernel
theorem dX7_putTest_150 : decode cX7_putTest 150 = .ok (.aload_n 0, 1) := by decide +kernel
theorem dX7_putTest_151 : decode cX7_putTest 151 = .ok (.getfield 7, 3) := by decide +kernel
theorem dX7_putTest_154 : decode cX7_putTest 154 = .ok (.iload 7, 2) := by decide +kernel
theorem dX7_putTest_156 : decode cX7_putTest 156 = .ok (.iconst 3, 1) := by decide +kernel
theorem dX7_putTest_157 : decode cX7_putTest 157 = .ok (.iadd, 1) := by decide +kernel
theorem dX7_putTest_158 : decode cX7_putTest 158 = .ok (.iload 4, 2) := by decide +kernel
theorem dX7_putTest_160 : decode cX7_putTest 160 = .ok (.iastore, 1) := by decide +kernel
theorem dX7_putTest_161 : decode cX7_putTest 161 = .ok (.aload_n 0, 1) := by decide +kernel
theorem dX7_putTest_162 : decode cX7_putTest 162 = .ok (.getfield 7, 3) := by decide +kernel
theorem dX7_putTest_165 : decode cX7_putTest 165 = .ok (.iload 7, 2) := by decide +kernel
theorem dX7_putTest_167 : decode cX7_putTest 167 = .ok (.iconst 4, 1) := by decide +kernel
theorem dX7_putTest_168 : decode cX7_putTest 168 = .ok (.iadd, 1) := by decide +kernel
theorem dX7_putTest_169 : decode cX7_putTest 169 = .ok (.iload 5, 2) := by decide +kernel
theorem dX7_putTest_171 : decode cX7_putTest 171 = .ok (.iastore, 1) := by decide +kernel
theorem dX7_putTest_172 : decode cX7_putTest 172 = .ok (.aload_n 0, 1) := by decide +kernel
theorem dX7_putTest_173 : decode cX7_putTest 173 = .ok (.getfield 7, 3) := by decide +kernel
theorem dX7_putTest_176 : decode cX7_putTest 176 = .ok (.iconst 0, 1) := by decide +kernel
theorem dX7_putTest_177 : decode cX7_putTest 177 = .ok (.dup2, 1) := by decide +kernel
theorem dX7_putTest_178 : decode cX7_putTest 178 = .ok (.iaload, 1) := by decide +kernel
theorem dX7_putTest_179 : decode cX7_putTest 179 = .ok (.iconst 1, 1) := by decide +kernel
theorem dX7_putTest_180 : decode cX7_putTest 180 = .ok (.iadd, 1) := by decide +kernel
theorem dX7_putTest_181 : decode cX7_putTest 181 = .ok (.iastore, 1) := by decide +kernel
theorem dX7_putTest_182 : decode cX7_putTest 182 = .ok (.aload_n 0, 1) := by decide +kernel
theorem dX7_putTest_183 : decode cX7_putTest 183 = .ok (.getfield 7, 3) := by decide +kernel
theorem dX7_putTest_186 : decode cX7_putTest 186 = .ok (.iconst 0, 1) := by decide +kernel
theorem dX7_putTest_187 : decode cX7_putTest 187 = .ok (.iaload, 1) := by decide +kernel
theorem dX7_putTest_188 : decode cX7_putTest 188 = .ok (.iconst 1, 1) := by decide +kernel
theorem dX7_putTest_189 : decode cX7_putTest 189 = .ok (.isub, 1) := by decide +kernel
theorem dX7_putTest_190 : decode cX7_putTest 190 = .ok (.ireturn, 1) := by decide +kernel
theorem dX7_takesOut_0 : decode cX7_takesOut 0 = .ok (.aload_n 0, 1) := by decide +kernel
theorem dX7_takesOut_1 : decode cX7_takesOut 1 = .ok (.getfield 7, 3) := by decide +kernel
theorem dX7_takesOut_4 : decode cX7_takesOut 4 = .ok (.iconst 3, 1) := by decide +kernel
theorem dX7_takesOut_5 : decode cX7_takesOut 5 = .ok (.dup2, 1) := by decide +kernel
theorem dX7_takesOut_6 : decode cX7_takesOut 6 = .ok (.iaload, 1) := by decide +kernel
theorem dX7_takesOut_7 : decode cX7_takesOut 7 = .ok (.iconst 1, 1) := by decide +kernel
theorem dX7_takesOut_8 : decode cX7_takesOut 8 = .ok (.isub, 1) := by decide +kernel
theorem dX7_takesOut_9 : decode cX7_takesOut 9 = .ok (.iastore, 1) := by decide +kernel
theorem dX7_takesOut_10 : decode cX7_takesOut 10 = .ok (.iload_n 1, 1) := by decide +kernel
theorem dX7_takesOut_11 : decode cX7_takesOut 11 = .ok (.istore_n 2, 1) := by decide +kernel
theorem dX7_takesOut_12 : decode cX7_takesOut 12 = .ok (.iload_n 2, 1) := by decide +kernel
theorem dX7_takesOut_13 : decode cX7_takesOut 13 = .ok (.aload_n 0, 1) := by decide +kernel
theorem dX7_takesOut_14 : decode cX7_takesOut 14 = .ok (.getfield 7, 3) := by decide +kernel
theorem dX7_takesOut_17 : decode cX7_takesOut 17 = .ok (.iconst 3, 1) := by decide +kernel
theorem dX7_takesOut_18 : decode cX7_takesOut 18 = .ok (.iaload, 1) := by decide +kernel
theorem dX7_takesOut_19 : decode cX7_takesOut 19 = .ok (.if_icmp .ge 27, 3) := by decide +kernel
theorem dX7_takesOut_22 : decode cX7_takesOut 22 = .ok (.aload_n 0, 1) := by decide +kernel
theorem dX7_takesOut_23 : decode cX7_takesOut 23 = .ok (.getfield 7, 3) := by decide +kernel
theorem dX7_takesOut_26 : decode cX7_takesOut 26 = .ok (.iconst 4, 1) := by decide +kernel
theorem dX7_takesOut_27 : decode cX7_takesOut 27 = .ok (.iload_n 2, 1) := by decide +kernel
theorem dX7_takesOut_28 : decode cX7_takesOut 28 = .ok (.iadd, 1) := by decide +kernel
theorem dX7_takesOut_29 : decode cX7_takesOut 29 = .ok (.aload_n 0, 1) := by decide +kernel
theorem dX7_takesOut_30 : decode cX7_takesOut 30 = .ok (.getfield 7, 3) := by decide +kernel
theorem dX7_takesOut_33 : decode cX7_takesOut 33 = .ok (.iconst 4, 1) := by decide +kernel
theorem dX7_takesOut_34 : decode cX7_takesOut 34 = .ok (.iload_n 2, 1) := by decide +kernel
theorem dX7_takesOut_35 : decode cX7_takesOut 35 = .ok (.iadd, 1) := by decide +kernel
theorem dX7_takesOut_36 : decode cX7_takesOut 36 = .ok (.iconst 1, 1) := by decide +kernel
theorem dX7_takesOut_37 : decode cX7_takesOut 37 = .ok (.iadd, 1) := by decide +kernel
theorem dX7_takesOut_38 : decode cX7_takesOut 38 = .ok (.iaload, 1) := by decide +kernel
theorem dX7_takesOut_39 : decode cX7_takesOut 39 = .ok (.iastore, 1) := by decide +kernel
theorem dX7_takesOut_40 : decode cX7_takesOut 40 = .ok (.iinc 2 1, 3) := by decide +kernel
theorem dX7_takesOut_43 : decode cX7_takesOut 43 = .ok (.goto (-31), 3) := by decide +kernel
theorem dX7_takesOut_46 : decode cX7_takesOut 46 = .ok (.aload_n 0, 1) := by decide +kernel
theorem dX7_takesOut_47 : decode cX7_takesOut 47 = .ok (.getfield 7, 3) := by decide +kernel
theorem dX7_takesOut_50 : decode cX7_takesOut 50 = .ok (.iconst 4, 1) := by decide +kernel
theorem dX7_takesOut_51 : decode cX7_takesOut 51 = .ok (.aload_n 0, 1) := by decide +kernel
theorem dX7_takesOut_52 : decode cX7_takesOut 52 = .ok (.getfield 7, 3) := by decide +kernel
theorem dX7_takesOut_55 : decode cX7_takesOut 55 = .ok (.iconst 3, 1) := by decide +kernel
theorem dX7_takesOut_56 : decode cX7_takesOut 56 = .ok (.iaload, 1) := by decide +kernel
theorem dX7_takesOut_57 : decode cX7_takesOut 57 = .ok (.iadd, 1) := by decide +kernel
theorem dX7_takesOut_58 : decode cX7_takesOut 58 = .ok (.iconst 0, 1) := by decide +kernel
theorem dX7_takesOut_59 : decode cX7_takesOut 59 = .ok (.iastore, 1) := by decide +kernel
theorem dX7_takesOut_60 : decode cX7_takesOut 60 = .ok (.return_, 1) := by decide +kernel
theorem dX7_putCut_0 : decode cX7_putCut 0 = .ok (.aload_n 0, 1) := by decide +kernel
theorem dX7_putCut_1 : decode cX7_putCut 1 = .ok (.getfield 7, 3) := by decide +kernel
theorem dX7_putCut_4 : decode cX7_putCut 4 = .ok (.iconst 0, 1) := by decide +kernel
theorem dX7_putCut_5 : decode cX7_putCut 5 = .ok (.iaload, 1) := by decide +kernel
theorem dX7_putCut_6 : decode cX7_putCut 6 = .ok (.ifCond .ne 6, 3) := by decide +kernel
theorem dX7_putCut_9 : decode cX7_putCut 9 = .ok (.bipush (-3), 2) := by decide +kernel
theorem dX7_putCut_11 : decode cX7_putCut 11 = .ok (.ireturn, 1) := by decide +kernel
theorem dX7_putCut_12 : decode cX7_putCut 12 = .ok (.aload_n 0, 1) := by decide +kernel
theorem dX7_putCut_13 : decode cX7_putCut 13 = .ok (.getfield 7, 3) := by decide +kernel
theorem dX7_putCut_16 : decode cX7_putCut 16 = .ok (.iconst 0, 1) := by decide +kernel
theorem dX7_putCut_17 : decode cX7_putCut 17 = .ok (.dup2, 1) := by decide +kernel
theorem dX7_putCut_18 : decode cX7_putCut 18 = .ok (.iaload, 1) := by decide +kernel
theorem dX7_putCut_19 : decode cX7_putCut 19 = .ok (.iconst 1, 1) := by decide +kernel
theorem dX7_putCut_20 : decode cX7_putCut 20 = .ok (.isub, 1) := by decide +kernel
theorem dX7_putCut_21 : decode cX7_putCut 21 = .ok (.iastore, 1) := by decide +kernel
theorem dX7_putCut_22 : decode cX7_putCut 22 = .ok (.aload_n 0, 1) := by decide +kernel
theorem dX7_putCut_23 : decode cX7_putCut 23 = .ok (.aload_n 0, 1) := by decide +kernel
theorem dX7_putCut_24 : decode cX7_putCut 24 = .ok (.getfield 7, 3) := by decide +kernel
theorem dX7_putCut_27 : decode cX7_putCut 27 = .ok (.iconst 0, 1) := by decide +kernel
theorem dX7_putCut_28 : decode cX7_putCut 28 = .ok (.iaload, 1) := by decide +kernel
theorem dX7_putCut_29 : decode cX7_putCut 29 = .ok (.invokevirtual 93, 3) := by decide +kernel
theorem dX7_putCut_32 : decode cX7_putCut 32 = .ok (.istore_n 1, 1) := by decide +kernel
theorem dX7_putCut_33 : decode cX7_putCut 33 = .ok (.iload_n 1, 1) := by decide +kernel
theorem dX7_putCut_34 : decode cX7_putCut 34 = .ok (.iconst (-1), 1) := by decide +kernel
theorem dX7_putCut_35 : decode cX7_putCut 35 = .ok (.if_icmp .eq 8, 3) := by decide +kernel
theorem dX7_putCut_38 : decode cX7_putCut 38 = .ok (.aload_n 0, 1) := by decide +kernel
theorem dX7_putCut_39 : decode cX7_putCut 39 = .ok (.iload_n 1, 1) := by decide +kernel
theorem dX7_putCut_40 : decode cX7_putCut 40 = .ok (.invokevirtual 96, 3) := by decide +kernel
theorem dX7_putCut_43 : decode cX7_putCut 43 = .ok (.aload_n 0, 1) := by decide +kernel
theorem dX7_putCut_44 : decode cX7_putCut 44 = .ok (.getfield 7, 3) := by decide +kernel
theorem dX7_putCut_47 : decode cX7_putCut 47 = .ok (.iconst 0, 1) := by decide +kernel
theorem dX7_putCut_48 : decode cX7_putCut 48 = .ok (.iaload, 1) := by decide +kernel
theorem dX7_putCut_49 : decode cX7_putCut 49 = .ok (.ireturn, 1) := by decide +kernel
theorem dX7_putLaid_0 : decode cX7_putLaid 0 = .ok (.aload_n 0, 1) := by decide +kernel
theorem dX7_putLaid_1 : decode cX7_putLaid 1 = .ok (.iload_n 1, 1) := by decide +kernel
theorem dX7_putLaid_2 : decode cX7_putLaid 2 = .ok (.invokevirtual 100, 3) := by decide +kernel
theorem dX7_putLaid_5 : decode cX7_putLaid 5 = .ok (.ifCond .ne 6, 3) := by decide +kernel
theorem dX7_putLaid_8 : decode cX7_putLaid 8 = .ok (.bipush (-2), 2) := by decide +kernel
theorem dX7_putLaid_10 : decode cX7_putLaid 10 = .ok (.ireturn, 1) := by decide +kernel
theorem dX7_putLaid_11 : decode cX7_putLaid 11 = .ok (.aload_n 0, 1) := by decide +kernel
theorem dX7_putLaid_12 : decode cX7_putLaid 12 = .ok (.iload_n 1, 1) := by decide +kernel
theorem dX7_putLaid_13 : decode cX7_putLaid 13 = .ok (.invokevirtual 93, 3) := by decide +kernel
theorem dX7_putLaid_16 : decode cX7_putLaid 16 = .ok (.iconst (-1), 1) := by decide +kernel
theorem dX7_putLaid_17 : decode cX7_putLaid 17 = .ok (.if_icmp .eq 6, 3) := by decide +kernel
theorem dX7_putLaid_20 : decode cX7_putLaid 20 = .ok (.bipush (-3), 2) := by decide +kernel
theorem dX7_putLaid_22 : decode cX7_putLaid 22 = .ok (.ireturn, 1) := by decide +kernel
theorem dX7_putLaid_23 : decode cX7_putLaid 23 = .ok (.aload_n 0, 1) := by decide +kernel
theorem dX7_putLaid_24 : decode cX7_putLaid 24 = .ok (.getfield 7, 3) := by decide +kernel
theorem dX7_putLaid_27 : decode cX7_putLaid 27 = .ok (.iconst 4, 1) := by decide +kernel
theorem dX7_putLaid_28 : decode cX7_putLaid 28 = .ok (.aload_n 0, 1) := by decide +kernel
theorem dX7_putLaid_29 : decode cX7_putLaid 29 = .ok (.getfield 7, 3) := by decide +kernel
theorem dX7_putLaid_32 : decode cX7_putLaid 32 = .ok (.iconst 3, 1) := by decide +kernel
theorem dX7_putLaid_33 : decode cX7_putLaid 33 = .ok (.iaload, 1) := by decide +kernel
theorem dX7_putLaid_34 : decode cX7_putLaid 34 = .ok (.iadd, 1) := by decide +kernel
theorem dX7_putLaid_35 : decode cX7_putLaid 35 = .ok (.iload_n 1, 1) := by decide +kernel
theorem dX7_putLaid_36 : decode cX7_putLaid 36 = .ok (.iastore, 1) := by decide +kernel
theorem dX7_putLaid_37 : decode cX7_putLaid 37 = .ok (.aload_n 0, 1) := by decide +kernel
theorem dX7_putLaid_38 : decode cX7_putLaid 38 = .ok (.getfield 7, 3) := by decide +kernel
theorem dX7_putLaid_41 : decode cX7_putLaid 41 = .ok (.iconst 3, 1) := by decide +kernel
theorem dX7_putLaid_42 : decode cX7_putLaid 42 = .ok (.dup2, 1) := by decide +kernel
theorem dX7_putLaid_43 : decode cX7_putLaid 43 = .ok (.iaload, 1) := by decide +kernel
theorem dX7_putLaid_44 : decode cX7_putLaid 44 = .ok (.iconst 1, 1) := by decide +kernel
theorem dX7_putLaid_45 : decode cX7_putLaid 45 = .ok (.iadd, 1) := by decide +kernel
theorem dX7_putLaid_46 : decode cX7_putLaid 46 = .ok (.iastore, 1) := by decide +kernel
theorem dX7_putLaid_47 : decode cX7_putLaid 47 = .ok (.aload_n 0, 1) := by decide +kernel
theorem dX7_putLaid_48 : decode cX7_putLaid 48 = .ok (.getfield 7, 3) := by decide +kernel
theorem dX7_putLaid_51 : decode cX7_putLaid 51 = .ok (.iconst 3, 1) := by decide +kernel
theorem dX7_putLaid_52 : decode cX7_putLaid 52 = .ok (.iaload, 1) := by decide +kernel
theorem dX7_putLaid_53 : decode cX7_putLaid 53 = .ok (.ireturn, 1) := by decide +kernel
theorem dX7_putWiped_0 : decode cX7_putWiped 0 = .ok (.aload_n 0, 1) := by decide +kernel
theorem dX7_putWiped_1 : decode cX7_putWiped 1 = .ok (.getfield 7, 3) := by decide +kernel
theorem dX7_putWiped_4 : decode cX7_putWiped 4 = .ok (.iconst 3, 1) := by decide +kernel
theorem dX7_putWiped_5 : decode cX7_putWiped 5 = .ok (.iaload, 1) := by decide +kernel
theorem dX7_putWiped_6 : decode cX7_putWiped 6 = .ok (.istore_n 1, 1) := by decide +kernel
theorem dX7_putWiped_7 : decode cX7_putWiped 7 = .ok (.aload_n 0, 1) := by decide +kernel
theorem dX7_putWiped_8 : decode cX7_putWiped 8 = .ok (.getfield 7, 3) := by decide +kernel
theorem dX7_putWiped_11 : decode cX7_putWiped 11 = .ok (.iconst 3, 1) := by decide +kernel
theorem dX7_putWiped_12 : decode cX7_putWiped 12 = .ok (.iconst 0, 1) := by decide +kernel
theorem dX7_putWiped_13 : decode cX7_putWiped 13 = .ok (.iastore, 1) := by decide +kernel
theorem dX7_putWiped_14 : decode cX7_putWiped 14 = .ok (.iload_n 1, 1) := by decide +kernel
theorem dX7_putWiped_15 : decode cX7_putWiped 15 = .ok (.ireturn, 1) := by decide +kernel
theorem dX7_change_0 : decode cX7_change 0 = .ok (.iload_n 2, 1) := by decide +kernel
theorem dX7_change_1 : decode cX7_change 1 = .ok (.iconst 0, 1) := by decide +kernel
theorem dX7_change_2 : decode cX7_change 2 = .ok (.iload_n 3, 1) := by decide +kernel
theorem dX7_change_3 : decode cX7_change 3 = .ok (.invokestatic 48, 3) := by decide +kernel
theorem dX7_change_6 : decode cX7_change 6 = .ok (.ifCond .ne 6, 3) := by decide +kernel
theorem dX7_change_9 : decode cX7_change 9 = .ok (.bipush (-2), 2) := by decide +kernel
theorem dX7_change_11 : decode cX7_change 11 = .ok (.ireturn, 1) := by decide +kernel
theorem dX7_change_12 : decode cX7_change 12 = .ok (.aload_n 0, 1) := by decide +kernel
theorem dX7_change_13 : decode cX7_change 13 = .ok (.getfield 7, 3) := by decide +kernel
theorem dX7_change_16 : decode cX7_change 16 = .ok (.iload_n 1, 1) := by decide +kernel
theorem dX7_change_17 : decode cX7_change 17 = .ok (.iaload, 1) := by decide +kernel
theorem dX7_change_18 : decode cX7_change 18 = .ok (.istore 4, 2) := by decide +kernel
theorem dX7_change_20 : decode cX7_change 20 = .ok (.aload_n 0, 1) := by decide +kernel
theorem dX7_change_21 : decode cX7_change 21 = .ok (.getfield 7, 3) := by decide +kernel
theorem dX7_change_24 : decode cX7_change 24 = .ok (.iload_n 1, 1) := by decide +kernel
theorem dX7_change_25 : decode cX7_change 25 = .ok (.iload_n 2, 1) := by decide +kernel
theorem dX7_change_26 : decode cX7_change 26 = .ok (.iastore, 1) := by decide +kernel
theorem dX7_change_27 : decode cX7_change 27 = .ok (.iload 4, 2) := by decide +kernel
theorem dX7_change_29 : decode cX7_change 29 = .ok (.ireturn, 1) := by decide +kernel
theorem dX7_laysShuffled_0 : decode cX7_laysShuffled 0 = .ok (.iconst 0, 1) := by decide +kernel
theorem dX7_laysShuffled_1 : decode cX7_laysShuffled 1 = .ok (.istore_n 2, 1) := by decide +kernel
theorem dX7_laysShuffled_2 : decode cX7_laysShuffled 2 = .ok (.iload_n 2, 1) := by decide +kernel
theorem dX7_laysShuffled_3 : decode cX7_laysShuffled 3 = .ok (.aload_n 0, 1) := by decide +kernel
theorem dX7_laysShuffled_4 : decode cX7_laysShuffled 4 = .ok (.getfield 7, 3) := by decide +kernel
theorem dX7_laysShuffled_7 : decode cX7_laysShuffled 7 = .ok (.iconst 0, 1) := by decide +kernel
theorem dX7_laysShuffled_8 : decode cX7_laysShuffled 8 = .ok (.iaload, 1) := by decide +kernel
theorem dX7_laysShuffled_9 : decode cX7_laysShuffled 9 = .ok (.if_icmp .ge 16, 3) := by decide +kernel
theorem dX7_laysShuffled_12 : decode cX7_laysShuffled 12 = .ok (.aload_n 0, 1) := by decide +kernel
theorem dX7_laysShuffled_13 : decode cX7_laysShuffled 13 = .ok (.getfield 28, 3) := by decide +kernel
theorem dX7_laysShuffled_16 : decode cX7_laysShuffled 16 = .ok (.iload_n 2, 1) := by decide +kernel
theorem dX7_laysShuffled_17 : decode cX7_laysShuffled 17 = .ok (.iload_n 2, 1) := by decide +kernel
theorem dX7_laysShuffled_18 : decode cX7_laysShuffled 18 = .ok (.iastore, 1) := by decide +kernel
theorem dX7_laysShuffled_19 : decode cX7_laysShuffled 19 = .ok (.iinc 2 1, 3) := by decide +kernel
theorem dX7_laysShuffled_22 : decode cX7_laysShuffled 22 = .ok (.goto (-20), 3) := by decide +kernel
theorem dX7_laysShuffled_25 : decode cX7_laysShuffled 25 = .ok (.iload_n 1, 1) := by decide +kernel
theorem dX7_laysShuffled_26 : decode cX7_laysShuffled 26 = .ok (.i2l, 1) := by decide +kernel
theorem dX7_laysShuffled_27 : decode cX7_laysShuffled 27 = .ok (.lstore_n 2, 1) := by decide +kernel
theorem dX7_laysShuffled_28 : decode cX7_laysShuffled 28 = .ok (.aload_n 0, 1) := by decide +kernel
theorem dX7_laysShuffled_29 : decode cX7_laysShuffled 29 = .ok (.getfield 7, 3) := by decide +kernel
theorem dX7_laysShuffled_32 : decode cX7_laysShuffled 32 = .ok (.iconst 0, 1) := by decide +kernel
theorem dX7_laysShuffled_33 : decode cX7_laysShuffled 33 = .ok (.iaload, 1) := by decide +kernel
theorem dX7_laysShuffled_34 : decode cX7_laysShuffled 34 = .ok (.iconst 1, 1) := by decide +kernel
theorem dX7_laysShuffled_35 : decode cX7_laysShuffled 35 = .ok (.isub, 1) := by decide +kernel
theorem dX7_laysShuffled_36 : decode cX7_laysShuffled 36 = .ok (.istore 4, 2) := by decide +kernel
theorem dX7_laysShuffled_38 : decode cX7_laysShuffled 38 = .ok (.iload 4, 2) := by decide +kernel
theorem dX7_laysShuffled_40 : decode cX7_laysShuffled 40 = .ok (.ifCond .le 69, 3) := by decide +kernel
theorem dX7_laysShuffled_43 : decode cX7_laysShuffled 43 = .ok (.lload_n 2, 1) := by decide +kernel
theorem dX7_laysShuffled_44 : decode cX7_laysShuffled 44 = .ok (.ldc2_w 103, 3) := by decide +kernel
theorem dX7_laysShuffled_47 : decode cX7_laysShuffled 47 = .ok (.lmul, 1) := by decide +kernel
theorem dX7_laysShuffled_48 : decode cX7_laysShuffled 48 = .ok (.ldc2_w 105, 3) := by decide +kernel
theorem dX7_laysShuffled_51 : decode cX7_laysShuffled 51 = .ok (.ladd, 1) := by decide +kernel
theorem dX7_laysShuffled_52 : decode cX7_laysShuffled 52 = .ok (.ldc2_w 107, 3) := by decide +kernel
theorem dX7_laysShuffled_55 : decode cX7_laysShuffled 55 = .ok (.lrem, 1) := by decide +kernel
theorem dX7_laysShuffled_56 : decode cX7_laysShuffled 56 = .ok (.lstore_n 2, 1) := by decide +kernel
theorem dX7_laysShuffled_57 : decode cX7_laysShuffled 57 = .ok (.lload_n 2, 1) := by decide +kernel
theorem dX7_laysShuffled_58 : decode cX7_laysShuffled 58 = .ok (.ldc2_w 109, 3) := by decide +kernel
theorem dX7_laysShuffled_61 : decode cX7_laysShuffled 61 = .ok (.ldiv, 1) := by decide +kernel
theorem dX7_laysShuffled_62 : decode cX7_laysShuffled 62 = .ok (.iload 4, 2) := by decide +kernel
theorem dX7_laysShuffled_64 : decode cX7_laysShuffled 64 = .ok (.iconst 1, 1) := by decide +kernel
theorem dX7_laysShuffled_65 : decode cX7_laysShuffled 65 = .ok (.iadd, 1) := by decide +kernel
theorem dX7_laysShuffled_66 : decode cX7_laysShuffled 66 = .ok (.i2l, 1) := by decide +kernel
theorem dX7_laysShuffled_67 : decode cX7_laysShuffled 67 = .ok (.lrem, 1) := by decide +kernel
theorem dX7_laysShuffled_68 : decode cX7_laysShuffled 68 = .ok (.l2i, 1) := by decide +kernel
theorem dX7_laysShuffled_69 : decode cX7_laysShuffled 69 = .ok (.istore 5, 2) := by decide +kernel
theorem dX7_laysShuffled_71 : decode cX7_laysShuffled 71 = .ok (.aload_n 0, 1) := by decide +kernel
theorem dX7_laysShuffled_72 : decode cX7_laysShuffled 72 = .ok (.getfield 28, 3) := by decide +kernel
theorem dX7_laysShuffled_75 : decode cX7_laysShuffled 75 = .ok (.iload 4, 2) := by decide +kernel
theorem dX7_laysShuffled_77 : decode cX7_laysShuffled 77 = .ok (.iaload, 1) := by decide +kernel
theorem dX7_laysShuffled_78 : decode cX7_laysShuffled 78 = .ok (.istore 6, 2) := by decide +kernel
theorem dX7_laysShuffled_80 : decode cX7_laysShuffled 80 = .ok (.aload_n 0, 1) := by decide +kernel
theorem dX7_laysShuffled_81 : decode cX7_laysShuffled 81 = .ok (.getfield 28, 3) := by decide +kernel
theorem dX7_laysShuffled_84 : decode cX7_laysShuffled 84 = .ok (.iload 4, 2) := by decide +kernel
theorem dX7_laysShuffled_86 : decode cX7_laysShuffled 86 = .ok (.aload_n 0, 1) := by decide +kernel
theorem dX7_laysShuffled_87 : decode cX7_laysShuffled 87 = .ok (.getfield 28, 3) := by decide +kernel
theorem dX7_laysShuffled_90 : decode cX7_laysShuffled 90 = .ok (.iload 5, 2) := by decide +kernel
theorem dX7_laysShuffled_92 : decode cX7_laysShuffled 92 = .ok (.iaload, 1) := by decide +kernel
theorem dX7_laysShuffled_93 : decode cX7_laysShuffled 93 = .ok (.iastore, 1) := by decide +kernel
theorem dX7_laysShuffled_94 : decode cX7_laysShuffled 94 = .ok (.aload_n 0, 1) := by decide +kernel
theorem dX7_laysShuffled_95 : decode cX7_laysShuffled 95 = .ok (.getfield 28, 3) := by decide +kernel
theorem dX7_laysShuffled_98 : decode cX7_laysShuffled 98 = .ok (.iload 5, 2) := by decide +kernel
theorem dX7_laysShuffled_100 : decode cX7_laysShuffled 100 = .ok (.iload 6, 2) := by decide +kernel
theorem dX7_laysShuffled_102 : decode cX7_laysShuffled 102 = .ok (.iastore, 1) := by decide +kernel
theorem dX7_laysShuffled_103 : decode cX7_laysShuffled 103 = .ok (.iinc 4 (-1), 3) := by decide +kernel
theorem dX7_laysShuffled_106 : decode cX7_laysShuffled 106 = .ok (.goto (-68), 3) := by decide +kernel
theorem dX7_laysShuffled_109 : decode cX7_laysShuffled 109 = .ok (.return_, 1) := by decide +kernel
theorem dX7_putShuffled_0 : decode cX7_putShuffled 0 = .ok (.iload_n 1, 1) := by decide +kernel
theorem dX7_putShuffled_1 : decode cX7_putShuffled 1 = .ok (.iconst 0, 1) := by decide +kernel
theorem dX7_putShuffled_2 : decode cX7_putShuffled 2 = .ok (.ldc 111, 2) := by decide +kernel
theorem dX7_putShuffled_4 : decode cX7_putShuffled 4 = .ok (.invokestatic 48, 3) := by decide +kernel
theorem dX7_putShuffled_7 : decode cX7_putShuffled 7 = .ok (.ifCond .ne 6, 3) := by decide +kernel
theorem dX7_putShuffled_10 : decode cX7_putShuffled 10 = .ok (.bipush (-2), 2) := by decide +kernel
theorem dX7_putShuffled_12 : decode cX7_putShuffled 12 = .ok (.ireturn, 1) := by decide +kernel
theorem dX7_putShuffled_13 : decode cX7_putShuffled 13 = .ok (.aload_n 0, 1) := by decide +kernel
theorem dX7_putShuffled_14 : decode cX7_putShuffled 14 = .ok (.iload_n 1, 1) := by decide +kernel
theorem dX7_putShuffled_15 : decode cX7_putShuffled 15 = .ok (.invokevirtual 112, 3) := by decide +kernel
theorem dX7_putShuffled_18 : decode cX7_putShuffled 18 = .ok (.aload_n 0, 1) := by decide +kernel
theorem dX7_putShuffled_19 : decode cX7_putShuffled 19 = .ok (.getfield 7, 3) := by decide +kernel
theorem dX7_putShuffled_22 : decode cX7_putShuffled 22 = .ok (.iconst 3, 1) := by decide +kernel
theorem dX7_putShuffled_23 : decode cX7_putShuffled 23 = .ok (.aload_n 0, 1) := by decide +kernel
theorem dX7_putShuffled_24 : decode cX7_putShuffled 24 = .ok (.getfield 7, 3) := by decide +kernel
theorem dX7_putShuffled_27 : decode cX7_putShuffled 27 = .ok (.iconst 0, 1) := by decide +kernel
theorem dX7_putShuffled_28 : decode cX7_putShuffled 28 = .ok (.iaload, 1) := by decide +kernel
theorem dX7_putShuffled_29 : decode cX7_putShuffled 29 = .ok (.iastore, 1) := by decide +kernel
theorem dX7_putShuffled_30 : decode cX7_putShuffled 30 = .ok (.iconst 0, 1) := by decide +kernel
theorem dX7_putShuffled_31 : decode cX7_putShuffled 31 = .ok (.istore_n 2, 1) := by decide +kernel
theorem dX7_putShuffled_32 : decode cX7_putShuffled 32 = .ok (.iload_n 2, 1) := by decide +kernel
theorem dX7_putShuffled_33 : decode cX7_putShuffled 33 = .ok (.aload_n 0, 1) := by decide +kernel
theorem dX7_putShuffled_34 : decode cX7_putShuffled 34 = .ok (.getfield 7, 3) := by decide +kernel
theorem dX7_putShuffled_37 : decode cX7_putShuffled 37 = .ok (.iconst 3, 1) := by decide +kernel
theorem dX7_putShuffled_38 : decode cX7_putShuffled 38 = .ok (.iaload, 1) := by decide +kernel
theorem dX7_putShuffled_39 : decode cX7_putShuffled 39 = .ok (.if_icmp .ge 23, 3) := by decide +kernel
theorem dX7_putShuffled_42 : decode cX7_putShuffled 42 = .ok (.aload_n 0, 1) := by decide +kernel
theorem dX7_putShuffled_43 : decode cX7_putShuffled 43 = .ok (.getfield 7, 3) := by decide +kernel
theorem dX7_putShuffled_46 : decode cX7_putShuffled 46 = .ok (.iconst 4, 1) := by decide +kernel
theorem dX7_putShuffled_47 : decode cX7_putShuffled 47 = .ok (.iload_n 2, 1) := by decide +kernel
theorem dX7_putShuffled_48 : decode cX7_putShuffled 48 = .ok (.iadd, 1) := by decide +kernel
theorem dX7_putShuffled_49 : decode cX7_putShuffled 49 = .ok (.aload_n 0, 1) := by decide +kernel
theorem dX7_putShuffled_50 : decode cX7_putShuffled 50 = .ok (.getfield 28, 3) := by decide +kernel
theorem dX7_putShuffled_53 : decode cX7_putShuffled 53 = .ok (.iload_n 2, 1) := by decide +kernel
theorem dX7_putShuffled_54 : decode cX7_putShuffled 54 = .ok (.iaload, 1) := by decide +kernel
theorem dX7_putShuffled_55 : decode cX7_putShuffled 55 = .ok (.iastore, 1) := by decide +kernel
theorem dX7_putShuffled_56 : decode cX7_putShuffled 56 = .ok (.iinc 2 1, 3) := by decide +kernel
theorem dX7_putShuffled_59 : decode cX7_putShuffled 59 = .ok (.goto (-27), 3) := by decide +kernel
theorem dX7_putShuffled_62 : decode cX7_putShuffled 62 = .ok (.aload_n 0, 1) := by decide +kernel
theorem dX7_putShuffled_63 : decode cX7_putShuffled 63 = .ok (.getfield 7, 3) := by decide +kernel
theorem dX7_putShuffled_66 : decode cX7_putShuffled 66 = .ok (.iconst 3, 1) := by decide +kernel
theorem dX7_putShuffled_67 : decode cX7_putShuffled 67 = .ok (.iaload, 1) := by decide +kernel
theorem dX7_putShuffled_68 : decode cX7_putShuffled 68 = .ok (.ireturn, 1) := by decide +kernel
theorem dX7_putTrimmed_0 : decode cX7_putTrimmed 0 = .ok (.aload_n 0, 1) := by decide +kernel
theorem dX7_putTrimmed_1 : decode cX7_putTrimmed 1 = .ok (.iload_n 1, 1) := by decide +kernel
theorem dX7_putTrimmed_2 : decode cX7_putTrimmed 2 = .ok (.invokevirtual 100, 3) := by decide +kernel
theorem dX7_putTrimmed_5 : decode cX7_putTrimmed 5 = .ok (.ifCond .ne 6, 3) := by decide +kernel
theorem dX7_putTrimmed_8 : decode cX7_putTrimmed 8 = .ok (.bipush (-2), 2) := by decide +kernel
theorem dX7_putTrimmed_10 : decode cX7_putTrimmed 10 = .ok (.ireturn, 1) := by decide +kernel
theorem dX7_putTrimmed_11 : decode cX7_putTrimmed 11 = .ok (.aload_n 0, 1) := by decide +kernel
theorem dX7_putTrimmed_12 : decode cX7_putTrimmed 12 = .ok (.iload_n 1, 1) := by decide +kernel
theorem dX7_putTrimmed_13 : decode cX7_putTrimmed 13 = .ok (.invokevirtual 115, 3) := by decide +kernel
theorem dX7_putTrimmed_16 : decode cX7_putTrimmed 16 = .ok (.ifCond .ne 6, 3) := by decide +kernel
theorem dX7_putTrimmed_19 : decode cX7_putTrimmed 19 = .ok (.bipush (-3), 2) := by decide +kernel
theorem dX7_putTrimmed_21 : decode cX7_putTrimmed 21 = .ok (.ireturn, 1) := by decide +kernel
theorem dX7_putTrimmed_22 : decode cX7_putTrimmed 22 = .ok (.aload_n 0, 1) := by decide +kernel
theorem dX7_putTrimmed_23 : decode cX7_putTrimmed 23 = .ok (.iload_n 1, 1) := by decide +kernel
theorem dX7_putTrimmed_24 : decode cX7_putTrimmed 24 = .ok (.invokevirtual 93, 3) := by decide +kernel
theorem dX7_putTrimmed_27 : decode cX7_putTrimmed 27 = .ok (.istore_n 2, 1) := by decide +kernel
theorem dX7_putTrimmed_28 : decode cX7_putTrimmed 28 = .ok (.aload_n 0, 1) := by decide +kernel
theorem dX7_putTrimmed_29 : decode cX7_putTrimmed 29 = .ok (.iload_n 2, 1) := by decide +kernel
theorem dX7_putTrimmed_30 : decode cX7_putTrimmed 30 = .ok (.invokevirtual 118, 3) := by decide +kernel
theorem dX7_putTrimmed_33 : decode cX7_putTrimmed 33 = .ok (.istore_n 3, 1) := by decide +kernel
theorem dX7_putTrimmed_34 : decode cX7_putTrimmed 34 = .ok (.iconst 0, 1) := by decide +kernel
theorem dX7_putTrimmed_35 : decode cX7_putTrimmed 35 = .ok (.istore 4, 2) := by decide +kernel
theorem dX7_putTrimmed_37 : decode cX7_putTrimmed 37 = .ok (.iload_n 2, 1) := by decide +kernel
theorem dX7_putTrimmed_38 : decode cX7_putTrimmed 38 = .ok (.iconst 1, 1) := by decide +kernel
theorem dX7_putTrimmed_39 : decode cX7_putTrimmed 39 = .ok (.isub, 1) := by decide +kernel
theorem dX7_putTrimmed_40 : decode cX7_putTrimmed 40 = .ok (.istore 5, 2) := by decide +kernel
theorem dX7_putTrimmed_42 : decode cX7_putTrimmed 42 = .ok (.iload 5, 2) := by decide +kernel
theorem dX7_putTrimmed_44 : decode cX7_putTrimmed 44 = .ok (.ifCond .lt 34, 3) := by decide +kernel
theorem dX7_putTrimmed_47 : decode cX7_putTrimmed 47 = .ok (.iload_n 3, 1) := by decide +kernel
theorem dX7_putTrimmed_48 : decode cX7_putTrimmed 48 = .ok (.aload_n 0, 1) := by decide +kernel
theorem dX7_putTrimmed_49 : decode cX7_putTrimmed 49 = .ok (.getfield 7, 3) := by decide +kernel
theorem dX7_putTrimmed_52 : decode cX7_putTrimmed 52 = .ok (.iconst 4, 1) := by decide +kernel
theorem dX7_putTrimmed_53 : decode cX7_putTrimmed 53 = .ok (.iload 5, 2) := by decide +kernel
theorem dX7_putTrimmed_55 : decode cX7_putTrimmed 55 = .ok (.iadd, 1) := by decide +kernel
theorem dX7_putTrimmed_56 : decode cX7_putTrimmed 56 = .ok (.iaload, 1) := by decide +kernel
theorem dX7_putTrimmed_57 : decode cX7_putTrimmed 57 = .ok (.invokestatic 77, 3) := by decide +kernel
theorem dX7_putTrimmed_60 : decode cX7_putTrimmed 60 = .ok (.ifCond .ne 12, 3) := by decide +kernel
theorem dX7_putTrimmed_63 : decode cX7_putTrimmed 63 = .ok (.aload_n 0, 1) := by decide +kernel
theorem dX7_putTrimmed_64 : decode cX7_putTrimmed 64 = .ok (.iload 5, 2) := by decide +kernel
theorem dX7_putTrimmed_66 : decode cX7_putTrimmed 66 = .ok (.invokevirtual 96, 3) := by decide +kernel
theorem dX7_putTrimmed_69 : decode cX7_putTrimmed 69 = .ok (.iinc 4 1, 3) := by decide +kernel
theorem dX7_putTrimmed_72 : decode cX7_putTrimmed 72 = .ok (.iinc 5 (-1), 3) := by decide +kernel
theorem dX7_putTrimmed_75 : decode cX7_putTrimmed 75 = .ok (.goto (-33), 3) := by decide +kernel
theorem dX7_putTrimmed_78 : decode cX7_putTrimmed 78 = .ok (.iload 4, 2) := by decide +kernel
theorem dX7_putTrimmed_80 : decode cX7_putTrimmed 80 = .ok (.ireturn, 1) := by decide +kernel
theorem dX7_test_0 : decode cX7_test 0 = .ok (.aload_n 0, 1) := by decide +kernel
theorem dX7_test_1 : decode cX7_test 1 = .ok (.invokevirtual 121, 3) := by decide +kernel
theorem dX7_test_4 : decode cX7_test 4 = .ok (.aload_n 0, 1) := by decide +kernel
theorem dX7_test_5 : decode cX7_test 5 = .ok (.aload_n 0, 1) := by decide +kernel
theorem dX7_test_6 : decode cX7_test 6 = .ok (.iload_n 1, 1) := by decide +kernel
theorem dX7_test_7 : decode cX7_test 7 = .ok (.iload_n 2, 1) := by decide +kernel
theorem dX7_test_8 : decode cX7_test 8 = .ok (.iload_n 3, 1) := by decide +kernel
theorem dX7_test_9 : decode cX7_test 9 = .ok (.iload 4, 2) := by decide +kernel
theorem dX7_test_11 : decode cX7_test 11 = .ok (.iload 5, 2) := by decide +kernel
theorem dX7_test_13 : decode cX7_test 13 = .ok (.invokevirtual 124, 3) := by decide +kernel
theorem dX7_test_16 : decode cX7_test 16 = .ok (.invokevirtual 128, 3) := by decide +kernel
theorem dX7_test_19 : decode cX7_test 19 = .ok (.ireturn, 1) := by decide +kernel
theorem dX7_cuts_0 : decode cX7_cuts 0 = .ok (.aload_n 0, 1) := by decide +kernel
theorem dX7_cuts_1 : decode cX7_cuts 1 = .ok (.invokevirtual 121, 3) := by decide +kernel
theorem dX7_cuts_4 : decode cX7_cuts 4 = .ok (.aload_n 0, 1) := by decide +kernel
theorem dX7_cuts_5 : decode cX7_cuts 5 = .ok (.aload_n 0, 1) := by decide +kernel
theorem dX7_cuts_6 : decode cX7_cuts 6 = .ok (.invokevirtual 131, 3) := by decide +kernel
theorem dX7_cuts_9 : decode cX7_cuts 9 = .ok (.invokevirtual 128, 3) := by decide +kernel
theorem dX7_cuts_12 : decode cX7_cuts 12 = .ok (.ireturn, 1) := by decide +kernel
theorem dX7_lays_0 : decode cX7_lays 0 = .ok (.aload_n 0, 1) := by decide +kernel
theorem dX7_lays_1 : decode cX7_lays 1 = .ok (.invokevirtual 121, 3) := by decide +kernel
theorem dX7_lays_4 : decode cX7_lays 4 = .ok (.aload_n 0, 1) := by decide +kernel
theorem dX7_lays_5 : decode cX7_lays 5 = .ok (.aload_n 0, 1) := by decide +kernel
theorem dX7_lays_6 : decode cX7_lays 6 = .ok (.iload_n 1, 1) := by decide +kernel
theorem dX7_lays_7 : decode cX7_lays 7 = .ok (.invokevirtual 134, 3) := by decide +kernel
theorem dX7_lays_10 : decode cX7_lays 10 = .ok (.invokevirtual 128, 3) := by decide +kernel
theorem dX7_lays_13 : decode cX7_lays 13 = .ok (.ireturn, 1) := by decide +kernel
theorem dX7_wipes_0 : decode cX7_wipes 0 = .ok (.aload_n 0, 1) := by decide +kernel
theorem dX7_wipes_1 : decode cX7_wipes 1 = .ok (.invokevirtual 121, 3) := by decide +kernel
theorem dX7_wipes_4 : decode cX7_wipes 4 = .ok (.aload_n 0, 1) := by decide +kernel
theorem dX7_wipes_5 : decode cX7_wipes 5 = .ok (.aload_n 0, 1) := by decide +kernel
theorem dX7_wipes_6 : decode cX7_wipes 6 = .ok (.invokevirtual 137, 3) := by decide +kernel
theorem dX7_wipes_9 : decode cX7_wipes 9 = .ok (.invokevirtual 128, 3) := by decide +kernel
theorem dX7_wipes_12 : decode cX7_wipes 12 = .ok (.ireturn, 1) := by decide +kernel
theorem dX7_start_0 : decode cX7_start 0 = .ok (.aload_n 0, 1) := by decide +kernel
theorem dX7_start_1 : decode cX7_start 1 = .ok (.invokevirtual 121, 3) := by decide +kernel
theorem dX7_start_4 : decode cX7_start 4 = .ok (.aload_n 0, 1) := by decide +kernel
theorem dX7_start_5 : decode cX7_start 5 = .ok (.aload_n 0, 1) := by decide +kernel
theorem dX7_start_6 : decode cX7_start 6 = .ok (.iconst 1, 1) := by decide +kernel
theorem dX7_start_7 : decode cX7_start 7 = .ok (.iload_n 1, 1) := by decide +kernel
theorem dX7_start_8 : decode cX7_start 8 = .ok (.bipush 63, 2) := by decide +kernel
theorem dX7_start_10 : decode cX7_start 10 = .ok (.invokevirtual 140, 3) := by decide +kernel
theorem dX7_start_13 : decode cX7_start 13 = .ok (.invokevirtual 128, 3) := by decide +kernel
theorem dX7_start_16 : decode cX7_start 16 = .ok (.ireturn, 1) := by decide +kernel
theorem dX7_mode_0 : decode cX7_mode 0 = .ok (.aload_n 0, 1) := by decide +kernel
theorem dX7_mode_1 : decode cX7_mode 1 = .ok (.invokevirtual 121, 3) := by decide +kernel
theorem dX7_mode_4 : decode cX7_mode 4 = .ok (.aload_n 0, 1) := by decide +kernel
theorem dX7_mode_5 : decode cX7_mode 5 = .ok (.aload_n 0, 1) := by decide +kernel
theorem dX7_mode_6 : decode cX7_mode 6 = .ok (.iconst 2, 1) := by decide +kernel
theorem dX7_mode_7 : decode cX7_mode 7 = .ok (.iload_n 1, 1) := by decide +kernel
theorem dX7_mode_8 : decode cX7_mode 8 = .ok (.iconst 1, 1) := by decide +kernel
theorem dX7_mode_9 : decode cX7_mode 9 = .ok (.invokevirtual 140, 3) := by decide +kernel
theorem dX7_mode_12 : decode cX7_mode 12 = .ok (.invokevirtual 128, 3) := by decide +kernel
theorem dX7_mode_15 : decode cX7_mode 15 = .ok (.ireturn, 1) := by decide +kernel
theorem dX7_shuffles_0 : decode cX7_shuffles 0 = .ok (.aload_n 0, 1) := by decide +kernel
theorem dX7_shuffles_1 : decode cX7_shuffles 1 = .ok (.invokevirtual 121, 3) := by decide +kernel
theorem dX7_shuffles_4 : decode cX7_shuffles 4 = .ok (.aload_n 0, 1) := by decide +kernel
theorem dX7_shuffles_5 : decode cX7_shuffles 5 = .ok (.aload_n 0, 1) := by decide +kernel
theorem dX7_shuffles_6 : decode cX7_shuffles 6 = .ok (.iload_n 1, 1) := by decide +kernel
theorem dX7_shuffles_7 : decode cX7_shuffles 7 = .ok (.invokevirtual 144, 3) := by decide +kernel
theorem dX7_shuffles_10 : decode cX7_shuffles 10 = .ok (.invokevirtual 128, 3) := by decide +kernel
theorem dX7_shuffles_13 : decode cX7_shuffles 13 = .ok (.ireturn, 1) := by decide +kernel
theorem dX7_trims_0 : decode cX7_trims 0 = .ok (.aload_n 0, 1) := by decide +kernel
theorem dX7_trims_1 : decode cX7_trims 1 = .ok (.invokevirtual 121, 3) := by decide +kernel
theorem dX7_trims_4 : decode cX7_trims 4 = .ok (.aload_n 0, 1) := by decide +kernel
theorem dX7_trims_5 : decode cX7_trims 5 = .ok (.aload_n 0, 1) := by decide +kernel
theorem dX7_trims_6 : decode cX7_trims 6 = .ok (.iload_n 1, 1) := by decide +kernel
theorem dX7_trims_7 : decode cX7_trims 7 = .ok (.invokevirtual 147, 3) := by decide +kernel
theorem dX7_trims_10 : decode cX7_trims 10 = .ok (.invokevirtual 128, 3) := by decide +kernel
theorem dX7_trims_13 : decode cX7_trims 13 = .ok (.ireturn, 1) := by decide +kernel
theorem dX7_testTold_0 : decode cX7_testTold 0 = .ok (.iload_n 2, 1) := by decide +kernel
theorem dX7_testTold_1 : decode cX7_testTold 1 = .ok (.iconst 5, 1) := by decide +kernel
theorem dX7_testTold_2 : decode cX7_testTold 2 = .ok (.if_icmp .ge 12, 3) := by decide +kernel
theorem dX7_testTold_5 : decode cX7_testTold 5 = .ok (.aload_n 0, 1) := by decide +kernel
theorem dX7_testTold_6 : decode cX7_testTold 6 = .ok (.iload_n 1, 1) := by decide +kernel
theorem dX7_testTold_7 : decode cX7_testTold 7 = .ok (.iload_n 2, 1) := by decide +kernel
theorem dX7_testTold_8 : decode cX7_testTold 8 = .ok (.invokevirtual 52, 3) := by decide +kernel
theorem dX7_testTold_11 : decode cX7_testTold 11 = .ok (.goto 16, 3) := by decide +kernel
theorem dX7_testTold_14 : decode cX7_testTold 14 = .ok (.aload_n 0, 1) := by decide +kernel
theorem dX7_testTold_15 : decode cX7_testTold 15 = .ok (.iload_n 1, 1) := by decide +kernel
theorem dX7_testTold_16 : decode cX7_testTold 16 = .ok (.invokevirtual 70, 3) := by decide +kernel
theorem dX7_testTold_19 : decode cX7_testTold 19 = .ok (.ifCond .eq 7, 3) := by decide +kernel
theorem dX7_testTold_22 : decode cX7_testTold 22 = .ok (.iconst 1, 1) := by decide +kernel
theorem dX7_testTold_23 : decode cX7_testTold 23 = .ok (.goto 4, 3) := by decide +kernel
theorem dX7_testTold_26 : decode cX7_testTold 26 = .ok (.iconst 0, 1) := by decide +kernel
theorem dX7_testTold_27 : decode cX7_testTold 27 = .ok (.ireturn, 1) := by decide +kernel
theorem dX7_of_0 : decode cX7_of 0 = .ok (.aload_n 0, 1) := by decide +kernel
theorem dX7_of_1 : decode cX7_of 1 = .ok (.iload_n 1, 1) := by decide +kernel
theorem dX7_of_2 : decode cX7_of 2 = .ok (.invokevirtual 100, 3) := by decide +kernel
theorem dX7_of_5 : decode cX7_of 5 = .ok (.ifCond .eq 21, 3) := by decide +kernel
theorem dX7_of_8 : decode cX7_of 8 = .ok (.iload_n 2, 1) := by decide +kernel
theorem dX7_of_9 : decode cX7_of 9 = .ok (.iconst 0, 1) := by decide +kernel
theorem dX7_of_10 : decode cX7_of 10 = .ok (.iconst 5, 1) := by decide +kernel
theorem dX7_of_11 : decode cX7_of 11 = .ok (.invokestatic 48, 3) := by decide +kernel
theorem dX7_of_14 : decode cX7_of 14 = .ok (.ifCond .eq 12, 3) := by decide +kernel
theorem dX7_of_17 : decode cX7_of 17 = .ok (.aload_n 0, 1) := by decide +kernel
theorem dX7_of_18 : decode cX7_of 18 = .ok (.iload_n 1, 1) := by decide +kernel
theorem dX7_of_19 : decode cX7_of 19 = .ok (.iload_n 2, 1) := by decide +kernel
theorem dX7_of_20 : decode cX7_of 20 = .ok (.invokevirtual 150, 3) := by decide +kernel
theorem dX7_of_23 : decode cX7_of 23 = .ok (.goto 9, 3) := by decide +kernel
theorem dX7_of_26 : decode cX7_of 26 = .ok (.aload_n 0, 1) := by decide +kernel
theorem dX7_of_27 : decode cX7_of 27 = .ok (.bipush (-2), 2) := by decide +kernel
theorem dX7_of_29 : decode cX7_of 29 = .ok (.invokevirtual 41, 3) := by decide +kernel
theorem dX7_of_32 : decode cX7_of 32 = .ok (.ireturn, 1) := by decide +kernel
theorem dX7_areTwo_0 : decode cX7_areTwo 0 = .ok (.aload_n 0, 1) := by decide +kernel
theorem dX7_areTwo_1 : decode cX7_areTwo 1 = .ok (.iload_n 1, 1) := by decide +kernel
theorem dX7_areTwo_2 : decode cX7_areTwo 2 = .ok (.invokevirtual 100, 3) := by decide +kernel
theorem dX7_areTwo_5 : decode cX7_areTwo 5 = .ok (.ifCond .eq 20, 3) := by decide +kernel
theorem dX7_areTwo_8 : decode cX7_areTwo 8 = .ok (.aload_n 0, 1) := by decide +kernel
theorem dX7_areTwo_9 : decode cX7_areTwo 9 = .ok (.iload_n 2, 1) := by decide +kernel
theorem dX7_areTwo_10 : decode cX7_areTwo 10 = .ok (.invokevirtual 100, 3) := by decide +kernel
theorem dX7_areTwo_13 : decode cX7_areTwo 13 = .ok (.ifCond .eq 12, 3) := by decide +kernel
theorem dX7_areTwo_16 : decode cX7_areTwo 16 = .ok (.iload_n 1, 1) := by decide +kernel
theorem dX7_areTwo_17 : decode cX7_areTwo 17 = .ok (.iload_n 2, 1) := by decide +kernel
theorem dX7_areTwo_18 : decode cX7_areTwo 18 = .ok (.if_icmp .eq 7, 3) := by decide +kernel
theorem dX7_areTwo_21 : decode cX7_areTwo 21 = .ok (.iconst 1, 1) := by decide +kernel
theorem dX7_areTwo_22 : decode cX7_areTwo 22 = .ok (.goto 4, 3) := by decide +kernel
theorem dX7_areTwo_25 : decode cX7_areTwo 25 = .ok (.iconst 0, 1) := by decide +kernel
theorem dX7_areTwo_26 : decode cX7_areTwo 26 = .ok (.ireturn, 1) := by decide +kernel
theorem dX7_soils_0 : decode cX7_soils 0 = .ok (.aload_n 0, 1) := by decide +kernel
theorem dX7_soils_1 : decode cX7_soils 1 = .ok (.iload_n 1, 1) := by decide +kernel
theorem dX7_soils_2 : decode cX7_soils 2 = .ok (.iload_n 2, 1) := by decide +kernel
theorem dX7_soils_3 : decode cX7_soils 3 = .ok (.invokevirtual 153, 3) := by decide +kernel
theorem dX7_soils_6 : decode cX7_soils 6 = .ok (.ifCond .ne 12, 3) := by decide +kernel
theorem dX7_soils_9 : decode cX7_soils 9 = .ok (.aload_n 0, 1) := by decide +kernel
theorem dX7_soils_10 : decode cX7_soils 10 = .ok (.bipush (-2), 2) := by decide +kernel
theorem dX7_soils_12 : decode cX7_soils 12 = .ok (.invokevirtual 41, 3) := by decide +kernel
theorem dX7_soils_15 : decode cX7_soils 15 = .ok (.goto 17, 3) := by decide +kernel
theorem dX7_soils_18 : decode cX7_soils 18 = .ok (.aload_n 0, 1) := by decide +kernel
theorem dX7_soils_19 : decode cX7_soils 19 = .ok (.iload_n 1, 1) := by decide +kernel
theorem dX7_soils_20 : decode cX7_soils 20 = .ok (.iload_n 2, 1) := by decide +kernel
theorem dX7_soils_21 : decode cX7_soils 21 = .ok (.invokevirtual 156, 3) := by decide +kernel
theorem dX7_soils_24 : decode cX7_soils 24 = .ok (.ifCond .eq 7, 3) := by decide +kernel
theorem dX7_soils_27 : decode cX7_soils 27 = .ok (.iconst 1, 1) := by decide +kernel
theorem dX7_soils_28 : decode cX7_soils 28 = .ok (.goto 4, 3) := by decide +kernel
theorem dX7_soils_31 : decode cX7_soils 31 = .ok (.iconst 0, 1) := by decide +kernel
theorem dX7_soils_32 : decode cX7_soils 32 = .ok (.ireturn, 1) := by decide +kernel
theorem dX7_cleans_0 : decode cX7_cleans 0 = .ok (.aload_n 0, 1) := by decide +kernel
theorem dX7_cleans_1 : decode cX7_cleans 1 = .ok (.iload_n 1, 1) := by decide +kernel
theorem dX7_cleans_2 : decode cX7_cleans 2 = .ok (.iload_n 2, 1) := by decide +kernel
theorem dX7_cleans_3 : decode cX7_cleans 3 = .ok (.invokevirtual 153, 3) := by decide +kernel
theorem dX7_cleans_6 : decode cX7_cleans 6 = .ok (.ifCond .ne 10, 3) := by decide +kernel
theorem dX7_cleans_9 : decode cX7_cleans 9 = .ok (.aload_n 0, 1) := by decide +kernel
theorem dX7_cleans_10 : decode cX7_cleans 10 = .ok (.bipush (-2), 2) := by decide +kernel
theorem dX7_cleans_12 : decode cX7_cleans 12 = .ok (.invokevirtual 41, 3) := by decide +kernel
theorem dX7_cleans_15 : decode cX7_cleans 15 = .ok (.ireturn, 1) := by decide +kernel
theorem dX7_cleans_16 : decode cX7_cleans 16 = .ok (.aload_n 0, 1) := by decide +kernel
theorem dX7_cleans_17 : decode cX7_cleans 17 = .ok (.iload_n 1, 1) := by decide +kernel
theorem dX7_cleans_18 : decode cX7_cleans 18 = .ok (.iload_n 2, 1) := by decide +kernel
theorem dX7_cleans_19 : decode cX7_cleans 19 = .ok (.invokevirtual 156, 3) := by decide +kernel
theorem dX7_cleans_22 : decode cX7_cleans 22 = .ok (.ifCond .ne 10, 3) := by decide +kernel
theorem dX7_cleans_25 : decode cX7_cleans 25 = .ok (.aload_n 0, 1) := by decide +kernel
theorem dX7_cleans_26 : decode cX7_cleans 26 = .ok (.bipush (-3), 2) := by decide +kernel
theorem dX7_cleans_28 : decode cX7_cleans 28 = .ok (.invokevirtual 41, 3) := by decide +kernel
theorem dX7_cleans_31 : decode cX7_cleans 31 = .ok (.ireturn, 1) := by decide +kernel
theorem dX7_cleans_32 : decode cX7_cleans 32 = .ok (.iconst 0, 1) := by decide +kernel
theorem dX7_cleans_33 : decode cX7_cleans 33 = .ok (.istore_n 3, 1) := by decide +kernel
theorem dX7_cleans_34 : decode cX7_cleans 34 = .ok (.iconst 0, 1) := by decide +kernel
theorem dX7_cleans_35 : decode cX7_cleans 35 = .ok (.istore 4, 2) := by decide +kernel
theorem dX7_cleans_37 : decode cX7_cleans 37 = .ok (.iload 4, 2) := by decide +kernel
theorem dX7_cleans_39 : decode cX7_cleans 39 = .ok (.aload_n 0, 1) := by decide +kernel
theorem dX7_cleans_40 : decode cX7_cleans 40 = .ok (.getfield 7, 3) := by decide +kernel
theorem dX7_cleans_43 : decode cX7_cleans 43 = .ok (.iconst 0, 1) := by decide +kernel
theorem dX7_cleans_44 : decode cX7_cleans 44 = .ok (.iaload, 1) := by decide +kernel
theorem dX7_cleans_45 : decode cX7_cleans 45 = .ok (.if_icmp .ge 43, 3) := by decide +kernel
theorem dX7_cleans_48 : decode cX7_cleans 48 = .ok (.iload_n 3, 1) := by decide +kernel
theorem dX7_cleans_49 : decode cX7_cleans 49 = .ok (.iload 4, 2) := by decide +kernel
theorem dX7_cleans_51 : decode cX7_cleans 51 = .ok (.iload_n 1, 1) := by decide +kernel
theorem dX7_cleans_52 : decode cX7_cleans 52 = .ok (.if_icmp .eq 27, 3) := by decide +kernel
theorem dX7_cleans_55 : decode cX7_cleans 55 = .ok (.iload 4, 2) := by decide +kernel
theorem dX7_cleans_57 : decode cX7_cleans 57 = .ok (.iload_n 2, 1) := by decide +kernel
theorem dX7_cleans_58 : decode cX7_cleans 58 = .ok (.if_icmp .eq 21, 3) := by decide +kernel
theorem dX7_cleans_61 : decode cX7_cleans 61 = .ok (.aload_n 0, 1) := by decide +kernel
theorem dX7_cleans_62 : decode cX7_cleans 62 = .ok (.iload 4, 2) := by decide +kernel
theorem dX7_cleans_64 : decode cX7_cleans 64 = .ok (.iload_n 1, 1) := by decide +kernel
theorem dX7_cleans_65 : decode cX7_cleans 65 = .ok (.iload_n 2, 1) := by decide +kernel
theorem dX7_cleans_66 : decode cX7_cleans 66 = .ok (.invokevirtual 159, 3) := by decide +kernel
theorem dX7_cleans_69 : decode cX7_cleans 69 = .ok (.ifCond .eq 10, 3) := by decide +kernel
theorem dX7_cleans_72 : decode cX7_cleans 72 = .ok (.iconst 1, 1) := by decide +kernel
theorem dX7_cleans_73 : decode cX7_cleans 73 = .ok (.iload 4, 2) := by decide +kernel
theorem dX7_cleans_75 : decode cX7_cleans 75 = .ok (.ishl, 1) := by decide +kernel
theorem dX7_cleans_76 : decode cX7_cleans 76 = .ok (.goto 4, 3) := by decide +kernel
theorem dX7_cleans_79 : decode cX7_cleans 79 = .ok (.iconst 0, 1) := by decide +kernel
theorem dX7_cleans_80 : decode cX7_cleans 80 = .ok (.ior, 1) := by decide +kernel
theorem dX7_cleans_81 : decode cX7_cleans 81 = .ok (.istore_n 3, 1) := by decide +kernel
theorem dX7_cleans_82 : decode cX7_cleans 82 = .ok (.iinc 4 1, 3) := by decide +kernel
theorem dX7_cleans_85 : decode cX7_cleans 85 = .ok (.goto (-48), 3) := by decide +kernel
theorem dX7_cleans_88 : decode cX7_cleans 88 = .ok (.iload_n 3, 1) := by decide +kernel
theorem dX7_cleans_89 : decode cX7_cleans 89 = .ok (.ireturn, 1) := by decide +kernel
theorem dX7_flipsBy_0 : decode cX7_flipsBy 0 = .ok (.aload_n 0, 1) := by decide +kernel
theorem dX7_flipsBy_1 : decode cX7_flipsBy 1 = .ok (.iload_n 1, 1) := by decide +kernel
theorem dX7_flipsBy_2 : decode cX7_flipsBy 2 = .ok (.invokevirtual 112, 3) := by decide +kernel
theorem dX7_flipsBy_5 : decode cX7_flipsBy 5 = .ok (.iconst 0, 1) := by decide +kernel
theorem dX7_flipsBy_6 : decode cX7_flipsBy 6 = .ok (.istore_n 2, 1) := by decide +kernel
theorem dX7_flipsBy_7 : decode cX7_flipsBy 7 = .ok (.aload_n 0, 1) := by decide +kernel
theorem dX7_flipsBy_8 : decode cX7_flipsBy 8 = .ok (.getfield 7, 3) := by decide +kernel
theorem dX7_flipsBy_11 : decode cX7_flipsBy 11 = .ok (.iconst 1, 1) := by decide +kernel
theorem dX7_flipsBy_12 : decode cX7_flipsBy 12 = .ok (.iaload, 1) := by decide +kernel
theorem dX7_flipsBy_13 : decode cX7_flipsBy 13 = .ok (.istore_n 3, 1) := by decide +kernel
theorem dX7_flipsBy_14 : decode cX7_flipsBy 14 = .ok (.iconst 0, 1) := by decide +kernel
theorem dX7_flipsBy_15 : decode cX7_flipsBy 15 = .ok (.istore 4, 2) := by decide +kernel
theorem dX7_flipsBy_17 : decode cX7_flipsBy 17 = .ok (.iload 4, 2) := by decide +kernel
theorem dX7_flipsBy_19 : decode cX7_flipsBy 19 = .ok (.aload_n 0, 1) := by decide +kernel
theorem dX7_flipsBy_20 : decode cX7_flipsBy 20 = .ok (.getfield 7, 3) := by decide +kernel
theorem dX7_flipsBy_23 : decode cX7_flipsBy 23 = .ok (.iconst 0, 1) := by decide +kernel
theorem dX7_flipsBy_24 : decode cX7_flipsBy 24 = .ok (.iaload, 1) := by decide +kernel
theorem dX7_flipsBy_25 : decode cX7_flipsBy 25 = .ok (.if_icmp .ge 53, 3) := by decide +kernel
theorem dX7_flipsBy_28 : decode cX7_flipsBy 28 = .ok (.aload_n 0, 1) := by decide +kernel
theorem dX7_flipsBy_29 : decode cX7_flipsBy 29 = .ok (.getfield 28, 3) := by decide +kernel
theorem dX7_flipsBy_32 : decode cX7_flipsBy 32 = .ok (.iload 4, 2) := by decide +kernel
theorem dX7_flipsBy_34 : decode cX7_flipsBy 34 = .ok (.iaload, 1) := by decide +kernel
theorem dX7_flipsBy_35 : decode cX7_flipsBy 35 = .ok (.istore 5, 2) := by decide +kernel
theorem dX7_flipsBy_37 : decode cX7_flipsBy 37 = .ok (.iload_n 2, 1) := by decide +kernel
theorem dX7_flipsBy_38 : decode cX7_flipsBy 38 = .ok (.aload_n 0, 1) := by decide +kernel
theorem dX7_flipsBy_39 : decode cX7_flipsBy 39 = .ok (.iload 5, 2) := by decide +kernel
theorem dX7_flipsBy_41 : decode cX7_flipsBy 41 = .ok (.iload_n 3, 1) := by decide +kernel
theorem dX7_flipsBy_42 : decode cX7_flipsBy 42 = .ok (.invokevirtual 56, 3) := by decide +kernel
theorem dX7_flipsBy_45 : decode cX7_flipsBy 45 = .ok (.aload_n 0, 1) := by decide +kernel
theorem dX7_flipsBy_46 : decode cX7_flipsBy 46 = .ok (.iload 5, 2) := by decide +kernel
theorem dX7_flipsBy_48 : decode cX7_flipsBy 48 = .ok (.invokevirtual 70, 3) := by decide +kernel
theorem dX7_flipsBy_51 : decode cX7_flipsBy 51 = .ok (.if_icmp .eq 10, 3) := by decide +kernel
theorem dX7_flipsBy_54 : decode cX7_flipsBy 54 = .ok (.iconst 1, 1) := by decide +kernel
theorem dX7_flipsBy_55 : decode cX7_flipsBy 55 = .ok (.iload 5, 2) := by decide +kernel
theorem dX7_flipsBy_57 : decode cX7_flipsBy 57 = .ok (.ishl, 1) := by decide +kernel
theorem dX7_flipsBy_58 : decode cX7_flipsBy 58 = .ok (.goto 4, 3) := by decide +kernel
theorem dX7_flipsBy_61 : decode cX7_flipsBy 61 = .ok (.iconst 0, 1) := by decide +kernel
theorem dX7_flipsBy_62 : decode cX7_flipsBy 62 = .ok (.ior, 1) := by decide +kernel
theorem dX7_flipsBy_63 : decode cX7_flipsBy 63 = .ok (.istore_n 2, 1) := by decide +kernel
theorem dX7_flipsBy_64 : decode cX7_flipsBy 64 = .ok (.aload_n 0, 1) := by decide +kernel
theorem dX7_flipsBy_65 : decode cX7_flipsBy 65 = .ok (.iload 5, 2) := by decide +kernel
theorem dX7_flipsBy_67 : decode cX7_flipsBy 67 = .ok (.iload_n 3, 1) := by decide +kernel
theorem dX7_flipsBy_68 : decode cX7_flipsBy 68 = .ok (.invokevirtual 63, 3) := by decide +kernel
theorem dX7_flipsBy_71 : decode cX7_flipsBy 71 = .ok (.istore_n 3, 1) := by decide +kernel
theorem dX7_flipsBy_72 : decode cX7_flipsBy 72 = .ok (.iinc 4 1, 3) := by decide +kernel
theorem dX7_flipsBy_75 : decode cX7_flipsBy 75 = .ok (.goto (-58), 3) := by decide +kernel
theorem dX7_flipsBy_78 : decode cX7_flipsBy 78 = .ok (.iload_n 2, 1) := by decide +kernel
theorem dX7_flipsBy_79 : decode cX7_flipsBy 79 = .ok (.ireturn, 1) := by decide +kernel
theorem dX7_flips_0 : decode cX7_flips 0 = .ok (.iload_n 1, 1) := by decide +kernel
theorem dX7_flips_1 : decode cX7_flips 1 = .ok (.iconst 0, 1) := by decide +kernel
theorem dX7_flips_2 : decode cX7_flips 2 = .ok (.ldc 111, 2) := by decide +kernel
theorem dX7_flips_4 : decode cX7_flips 4 = .ok (.invokestatic 48, 3) := by decide +kernel
theorem dX7_flips_7 : decode cX7_flips 7 = .ok (.ifCond .eq 11, 3) := by decide +kernel
theorem dX7_flips_10 : decode cX7_flips 10 = .ok (.aload_n 0, 1) := by decide +kernel
theorem dX7_flips_11 : decode cX7_flips 11 = .ok (.iload_n 1, 1) := by decide +kernel
theorem dX7_flips_12 : decode cX7_flips 12 = .ok (.invokevirtual 162, 3) := by decide +kernel
theorem dX7_flips_15 : decode cX7_flips 15 = .ok (.goto 9, 3) := by decide +kernel
theorem dX7_flips_18 : decode cX7_flips 18 = .ok (.aload_n 0, 1) := by decide +kernel
theorem dX7_flips_19 : decode cX7_flips 19 = .ok (.bipush (-2), 2) := by decide +kernel
theorem dX7_flips_21 : decode cX7_flips 21 = .ok (.invokevirtual 41, 3) := by decide +kernel
theorem dX7_flips_24 : decode cX7_flips 24 = .ok (.ireturn, 1) := by decide +kernel
theorem dX7_seed_0 : decode cX7_seed 0 = .ok (.iload_n 1, 1) := by decide +kernel
theorem dX7_seed_1 : decode cX7_seed 1 = .ok (.iconst 0, 1) := by decide +kernel
theorem dX7_seed_2 : decode cX7_seed 2 = .ok (.ldc 111, 2) := by decide +kernel
theorem dX7_seed_4 : decode cX7_seed 4 = .ok (.invokestatic 48, 3) := by decide +kernel
theorem dX7_seed_7 : decode cX7_seed 7 = .ok (.ifCond .eq 11, 3) := by decide +kernel
theorem dX7_seed_10 : decode cX7_seed 10 = .ok (.aload_n 0, 1) := by decide +kernel
theorem dX7_seed_11 : decode cX7_seed 11 = .ok (.iload_n 2, 1) := by decide +kernel
theorem dX7_seed_12 : decode cX7_seed 12 = .ok (.invokevirtual 100, 3) := by decide +kernel
theorem dX7_seed_15 : decode cX7_seed 15 = .ok (.ifCond .ne 10, 3) := by decide +kernel
theorem dX7_seed_18 : decode cX7_seed 18 = .ok (.aload_n 0, 1) := by decide +kernel
theorem dX7_seed_19 : decode cX7_seed 19 = .ok (.bipush (-2), 2) := by decide +kernel
theorem dX7_seed_21 : decode cX7_seed 21 = .ok (.invokevirtual 41, 3) := by decide +kernel
theorem dX7_seed_24 : decode cX7_seed 24 = .ok (.ireturn, 1) := by decide +kernel
end
section
theorem dX7_seed_25 : decode cX7_seed 25 = .ok (.iload_n 1, 1) := by decide +kernel
theorem dX7_seed_26 : decode cX7_seed 26 = .ok (.istore_n 3, 1) := by decide +kernel
theorem dX7_seed_27 : decode cX7_seed 27 = .ok (.iload_n 3, 1) := by decide +kernel
theorem dX7_seed_28 : decode cX7_seed 28 = .ok (.iload_n 1, 1) := by decide +kernel
theorem dX7_seed_29 : decode cX7_seed 29 = .ok (.sipush 200, 3) := by decide +kernel
theorem dX7_seed_32 : decode cX7_seed 32 = .ok (.iadd, 1) := by decide +kernel
theorem dX7_seed_33 : decode cX7_seed 33 = .ok (.if_icmp .ge 29, 3) := by decide +kernel
theorem dX7_seed_36 : decode cX7_seed 36 = .ok (.iload_n 3, 1) := by decide +kernel
theorem dX7_seed_37 : decode cX7_seed 37 = .ok (.ldc 111, 2) := by decide +kernel
theorem dX7_seed_39 : decode cX7_seed 39 = .ok (.if_icmp .gt 23, 3) := by decide +kernel
theorem dX7_seed_42 : decode cX7_seed 42 = .ok (.aload_n 0, 1) := by decide +kernel
theorem dX7_seed_43 : decode cX7_seed 43 = .ok (.iload_n 3, 1) := by decide +kernel
theorem dX7_seed_44 : decode cX7_seed 44 = .ok (.invokevirtual 162, 3) := by decide +kernel
theorem dX7_seed_47 : decode cX7_seed 47 = .ok (.iload_n 2, 1) := by decide +kernel
theorem dX7_seed_48 : decode cX7_seed 48 = .ok (.invokestatic 77, 3) := by decide +kernel
theorem dX7_seed_51 : decode cX7_seed 51 = .ok (.ifCond .eq 5, 3) := by decide +kernel
theorem dX7_seed_54 : decode cX7_seed 54 = .ok (.iload_n 3, 1) := by decide +kernel
theorem dX7_seed_55 : decode cX7_seed 55 = .ok (.ireturn, 1) := by decide +kernel
theorem dX7_seed_56 : decode cX7_seed 56 = .ok (.iinc 3 1, 3) := by decide +kernel
theorem dX7_seed_59 : decode cX7_seed 59 = .ok (.goto (-32), 3) := by decide +kernel
theorem dX7_seed_62 : decode cX7_seed 62 = .ok (.iconst (-1), 1) := by decide +kernel
theorem dX7_seed_63 : decode cX7_seed 63 = .ok (.ireturn, 1) := by decide +kernel
theorem dX7_at_0 : decode cX7_at 0 = .ok (.iload_n 1, 1) := by decide +kernel
theorem dX7_at_1 : decode cX7_at 1 = .ok (.ifCond .ge 12, 3) := by decide +kernel
theorem dX7_at_4 : decode cX7_at 4 = .ok (.aload_n 0, 1) := by decide +kernel
theorem dX7_at_5 : decode cX7_at 5 = .ok (.bipush (-2), 2) := by decide +kernel
theorem dX7_at_7 : decode cX7_at 7 = .ok (.invokevirtual 41, 3) := by decide +kernel
theorem dX7_at_10 : decode cX7_at 10 = .ok (.goto 25, 3) := by decide +kernel
theorem dX7_at_13 : decode cX7_at 13 = .ok (.iload_n 1, 1) := by decide +kernel
theorem dX7_at_14 : decode cX7_at 14 = .ok (.aload_n 0, 1) := by decide +kernel
theorem dX7_at_15 : decode cX7_at 15 = .ok (.getfield 7, 3) := by decide +kernel
theorem dX7_at_18 : decode cX7_at 18 = .ok (.iconst 3, 1) := by decide +kernel
theorem dX7_at_19 : decode cX7_at 19 = .ok (.iaload, 1) := by decide +kernel
theorem dX7_at_20 : decode cX7_at 20 = .ok (.if_icmp .ge 14, 3) := by decide +kernel
theorem dX7_at_23 : decode cX7_at 23 = .ok (.aload_n 0, 1) := by decide +kernel
theorem dX7_at_24 : decode cX7_at 24 = .ok (.getfield 7, 3) := by decide +kernel
theorem dX7_at_27 : decode cX7_at 27 = .ok (.iconst 4, 1) := by decide +kernel
theorem dX7_at_28 : decode cX7_at 28 = .ok (.iload_n 1, 1) := by decide +kernel
theorem dX7_at_29 : decode cX7_at 29 = .ok (.iadd, 1) := by decide +kernel
theorem dX7_at_30 : decode cX7_at 30 = .ok (.iaload, 1) := by decide +kernel
theorem dX7_at_31 : decode cX7_at 31 = .ok (.goto 4, 3) := by decide +kernel
theorem dX7_at_34 : decode cX7_at 34 = .ok (.iconst (-1), 1) := by decide +kernel
theorem dX7_at_35 : decode cX7_at 35 = .ok (.ireturn, 1) := by decide +kernel
theorem dX7_placeTold_0 : decode cX7_placeTold 0 = .ok (.aload_n 0, 1) := by decide +kernel
theorem dX7_placeTold_1 : decode cX7_placeTold 1 = .ok (.getfield 7, 3) := by decide +kernel
theorem dX7_placeTold_4 : decode cX7_placeTold 4 = .ok (.iconst 4, 1) := by decide +kernel
theorem dX7_placeTold_5 : decode cX7_placeTold 5 = .ok (.iload_n 1, 1) := by decide +kernel
theorem dX7_placeTold_6 : decode cX7_placeTold 6 = .ok (.iadd, 1) := by decide +kernel
theorem dX7_placeTold_7 : decode cX7_placeTold 7 = .ok (.iaload, 1) := by decide +kernel
theorem dX7_placeTold_8 : decode cX7_placeTold 8 = .ok (.istore_n 3, 1) := by decide +kernel
theorem dX7_placeTold_9 : decode cX7_placeTold 9 = .ok (.aload_n 0, 1) := by decide +kernel
theorem dX7_placeTold_10 : decode cX7_placeTold 10 = .ok (.iload_n 1, 1) := by decide +kernel
theorem dX7_placeTold_11 : decode cX7_placeTold 11 = .ok (.sipush 255, 3) := by decide +kernel
theorem dX7_placeTold_14 : decode cX7_placeTold 14 = .ok (.invokevirtual 80, 3) := by decide +kernel
theorem dX7_placeTold_17 : decode cX7_placeTold 17 = .ok (.aload_n 0, 1) := by decide +kernel
theorem dX7_placeTold_18 : decode cX7_placeTold 18 = .ok (.invokevirtual 66, 3) := by decide +kernel
theorem dX7_placeTold_21 : decode cX7_placeTold 21 = .ok (.istore 4, 2) := by decide +kernel
theorem dX7_placeTold_23 : decode cX7_placeTold 23 = .ok (.iload_n 2, 1) := by decide +kernel
theorem dX7_placeTold_24 : decode cX7_placeTold 24 = .ok (.tableswitch 93 0 3 #[32, 34, 50, 71], 32) := by decide +kernel
theorem dX7_placeTold_56 : decode cX7_placeTold 56 = .ok (.iload_n 1, 1) := by decide +kernel
theorem dX7_placeTold_57 : decode cX7_placeTold 57 = .ok (.ireturn, 1) := by decide +kernel
theorem dX7_placeTold_58 : decode cX7_placeTold 58 = .ok (.aload_n 0, 1) := by decide +kernel
theorem dX7_placeTold_59 : decode cX7_placeTold 59 = .ok (.iload_n 3, 1) := by decide +kernel
theorem dX7_placeTold_60 : decode cX7_placeTold 60 = .ok (.iload 4, 2) := by decide +kernel
theorem dX7_placeTold_62 : decode cX7_placeTold 62 = .ok (.invokevirtual 56, 3) := by decide +kernel
theorem dX7_placeTold_65 : decode cX7_placeTold 65 = .ok (.ifCond .eq 7, 3) := by decide +kernel
theorem dX7_placeTold_68 : decode cX7_placeTold 68 = .ok (.iconst 1, 1) := by decide +kernel
theorem dX7_placeTold_69 : decode cX7_placeTold 69 = .ok (.goto 4, 3) := by decide +kernel
theorem dX7_placeTold_72 : decode cX7_placeTold 72 = .ok (.iconst 0, 1) := by decide +kernel
theorem dX7_placeTold_73 : decode cX7_placeTold 73 = .ok (.ireturn, 1) := by decide +kernel
theorem dX7_placeTold_74 : decode cX7_placeTold 74 = .ok (.aload_n 0, 1) := by decide +kernel
theorem dX7_placeTold_75 : decode cX7_placeTold 75 = .ok (.iload_n 3, 1) := by decide +kernel
theorem dX7_placeTold_76 : decode cX7_placeTold 76 = .ok (.iload 4, 2) := by decide +kernel
theorem dX7_placeTold_78 : decode cX7_placeTold 78 = .ok (.invokevirtual 56, 3) := by decide +kernel
theorem dX7_placeTold_81 : decode cX7_placeTold 81 = .ok (.aload_n 0, 1) := by decide +kernel
theorem dX7_placeTold_82 : decode cX7_placeTold 82 = .ok (.iload_n 3, 1) := by decide +kernel
theorem dX7_placeTold_83 : decode cX7_placeTold 83 = .ok (.invokevirtual 70, 3) := by decide +kernel
theorem dX7_placeTold_86 : decode cX7_placeTold 86 = .ok (.if_icmp .eq 7, 3) := by decide +kernel
theorem dX7_placeTold_89 : decode cX7_placeTold 89 = .ok (.iconst 1, 1) := by decide +kernel
theorem dX7_placeTold_90 : decode cX7_placeTold 90 = .ok (.goto 4, 3) := by decide +kernel
theorem dX7_placeTold_93 : decode cX7_placeTold 93 = .ok (.iconst 0, 1) := by decide +kernel
theorem dX7_placeTold_94 : decode cX7_placeTold 94 = .ok (.ireturn, 1) := by decide +kernel
theorem dX7_placeTold_95 : decode cX7_placeTold 95 = .ok (.iload 4, 2) := by decide +kernel
theorem dX7_placeTold_97 : decode cX7_placeTold 97 = .ok (.aload_n 0, 1) := by decide +kernel
theorem dX7_placeTold_98 : decode cX7_placeTold 98 = .ok (.iload_n 3, 1) := by decide +kernel
theorem dX7_placeTold_99 : decode cX7_placeTold 99 = .ok (.iconst 0, 1) := by decide +kernel
theorem dX7_placeTold_100 : decode cX7_placeTold 100 = .ok (.invokevirtual 52, 3) := by decide +kernel
theorem dX7_placeTold_103 : decode cX7_placeTold 103 = .ok (.iand, 1) := by decide +kernel
theorem dX7_placeTold_104 : decode cX7_placeTold 104 = .ok (.iload 4, 2) := by decide +kernel
theorem dX7_placeTold_106 : decode cX7_placeTold 106 = .ok (.iconst (-1), 1) := by decide +kernel
theorem dX7_placeTold_107 : decode cX7_placeTold 107 = .ok (.ixor, 1) := by decide +kernel
theorem dX7_placeTold_108 : decode cX7_placeTold 108 = .ok (.aload_n 0, 1) := by decide +kernel
theorem dX7_placeTold_109 : decode cX7_placeTold 109 = .ok (.iload_n 3, 1) := by decide +kernel
theorem dX7_placeTold_110 : decode cX7_placeTold 110 = .ok (.iconst 1, 1) := by decide +kernel
theorem dX7_placeTold_111 : decode cX7_placeTold 111 = .ok (.invokevirtual 52, 3) := by decide +kernel
theorem dX7_placeTold_114 : decode cX7_placeTold 114 = .ok (.iand, 1) := by decide +kernel
theorem dX7_placeTold_115 : decode cX7_placeTold 115 = .ok (.ior, 1) := by decide +kernel
theorem dX7_placeTold_116 : decode cX7_placeTold 116 = .ok (.ireturn, 1) := by decide +kernel
theorem dX7_placeTold_117 : decode cX7_placeTold 117 = .ok (.aload_n 0, 1) := by decide +kernel
theorem dX7_placeTold_118 : decode cX7_placeTold 118 = .ok (.iload_n 3, 1) := by decide +kernel
theorem dX7_placeTold_119 : decode cX7_placeTold 119 = .ok (.iload 4, 2) := by decide +kernel
theorem dX7_placeTold_121 : decode cX7_placeTold 121 = .ok (.invokevirtual 63, 3) := by decide +kernel
theorem dX7_placeTold_124 : decode cX7_placeTold 124 = .ok (.ireturn, 1) := by decide +kernel
theorem dX7_inRow_0 : decode cX7_inRow 0 = .ok (.aload_n 0, 1) := by decide +kernel
theorem dX7_inRow_1 : decode cX7_inRow 1 = .ok (.iload_n 1, 1) := by decide +kernel
theorem dX7_inRow_2 : decode cX7_inRow 2 = .ok (.invokevirtual 100, 3) := by decide +kernel
theorem dX7_inRow_5 : decode cX7_inRow 5 = .ok (.ifCond .eq 12, 3) := by decide +kernel
theorem dX7_inRow_8 : decode cX7_inRow 8 = .ok (.iload_n 2, 1) := by decide +kernel
theorem dX7_inRow_9 : decode cX7_inRow 9 = .ok (.iconst 0, 1) := by decide +kernel
theorem dX7_inRow_10 : decode cX7_inRow 10 = .ok (.iconst 4, 1) := by decide +kernel
theorem dX7_inRow_11 : decode cX7_inRow 11 = .ok (.invokestatic 48, 3) := by decide +kernel
theorem dX7_inRow_14 : decode cX7_inRow 14 = .ok (.ifCond .ne 10, 3) := by decide +kernel
theorem dX7_inRow_17 : decode cX7_inRow 17 = .ok (.aload_n 0, 1) := by decide +kernel
theorem dX7_inRow_18 : decode cX7_inRow 18 = .ok (.bipush (-2), 2) := by decide +kernel
theorem dX7_inRow_20 : decode cX7_inRow 20 = .ok (.invokevirtual 41, 3) := by decide +kernel
theorem dX7_inRow_23 : decode cX7_inRow 23 = .ok (.ireturn, 1) := by decide +kernel
theorem dX7_inRow_24 : decode cX7_inRow 24 = .ok (.aload_n 0, 1) := by decide +kernel
theorem dX7_inRow_25 : decode cX7_inRow 25 = .ok (.iload_n 1, 1) := by decide +kernel
theorem dX7_inRow_26 : decode cX7_inRow 26 = .ok (.invokevirtual 93, 3) := by decide +kernel
theorem dX7_inRow_29 : decode cX7_inRow 29 = .ok (.istore_n 3, 1) := by decide +kernel
theorem dX7_inRow_30 : decode cX7_inRow 30 = .ok (.iload_n 3, 1) := by decide +kernel
theorem dX7_inRow_31 : decode cX7_inRow 31 = .ok (.iconst (-1), 1) := by decide +kernel
theorem dX7_inRow_32 : decode cX7_inRow 32 = .ok (.if_icmp .ne 12, 3) := by decide +kernel
theorem dX7_inRow_35 : decode cX7_inRow 35 = .ok (.aload_n 0, 1) := by decide +kernel
theorem dX7_inRow_36 : decode cX7_inRow 36 = .ok (.bipush (-3), 2) := by decide +kernel
theorem dX7_inRow_38 : decode cX7_inRow 38 = .ok (.invokevirtual 41, 3) := by decide +kernel
theorem dX7_inRow_41 : decode cX7_inRow 41 = .ok (.goto 9, 3) := by decide +kernel
theorem dX7_inRow_44 : decode cX7_inRow 44 = .ok (.aload_n 0, 1) := by decide +kernel
theorem dX7_inRow_45 : decode cX7_inRow 45 = .ok (.iload_n 3, 1) := by decide +kernel
theorem dX7_inRow_46 : decode cX7_inRow 46 = .ok (.iload_n 2, 1) := by decide +kernel
theorem dX7_inRow_47 : decode cX7_inRow 47 = .ok (.invokevirtual 165, 3) := by decide +kernel
theorem dX7_inRow_50 : decode cX7_inRow 50 = .ok (.ireturn, 1) := by decide +kernel
theorem dX7_who_0 : decode cX7_who 0 = .ok (.aload_n 0, 1) := by decide +kernel
theorem dX7_who_1 : decode cX7_who 1 = .ok (.iload_n 1, 1) := by decide +kernel
theorem dX7_who_2 : decode cX7_who 2 = .ok (.invokevirtual 100, 3) := by decide +kernel
theorem dX7_who_5 : decode cX7_who 5 = .ok (.ifCond .eq 12, 3) := by decide +kernel
theorem dX7_who_8 : decode cX7_who 8 = .ok (.iload_n 2, 1) := by decide +kernel
theorem dX7_who_9 : decode cX7_who 9 = .ok (.iconst 0, 1) := by decide +kernel
theorem dX7_who_10 : decode cX7_who 10 = .ok (.iconst 5, 1) := by decide +kernel
theorem dX7_who_11 : decode cX7_who 11 = .ok (.invokestatic 48, 3) := by decide +kernel
theorem dX7_who_14 : decode cX7_who 14 = .ok (.ifCond .ne 10, 3) := by decide +kernel
theorem dX7_who_17 : decode cX7_who 17 = .ok (.aload_n 0, 1) := by decide +kernel
theorem dX7_who_18 : decode cX7_who 18 = .ok (.bipush (-2), 2) := by decide +kernel
theorem dX7_who_20 : decode cX7_who 20 = .ok (.invokevirtual 41, 3) := by decide +kernel
theorem dX7_who_23 : decode cX7_who 23 = .ok (.ireturn, 1) := by decide +kernel
theorem dX7_who_24 : decode cX7_who 24 = .ok (.aload_n 0, 1) := by decide +kernel
theorem dX7_who_25 : decode cX7_who 25 = .ok (.iload_n 1, 1) := by decide +kernel
theorem dX7_who_26 : decode cX7_who 26 = .ok (.invokevirtual 93, 3) := by decide +kernel
theorem dX7_who_29 : decode cX7_who 29 = .ok (.istore_n 3, 1) := by decide +kernel
theorem dX7_who_30 : decode cX7_who 30 = .ok (.iload_n 3, 1) := by decide +kernel
theorem dX7_who_31 : decode cX7_who 31 = .ok (.iconst (-1), 1) := by decide +kernel
theorem dX7_who_32 : decode cX7_who 32 = .ok (.if_icmp .ne 10, 3) := by decide +kernel
theorem dX7_who_35 : decode cX7_who 35 = .ok (.aload_n 0, 1) := by decide +kernel
theorem dX7_who_36 : decode cX7_who 36 = .ok (.bipush (-3), 2) := by decide +kernel
theorem dX7_who_38 : decode cX7_who 38 = .ok (.invokevirtual 41, 3) := by decide +kernel
theorem dX7_who_41 : decode cX7_who 41 = .ok (.ireturn, 1) := by decide +kernel
theorem dX7_who_42 : decode cX7_who 42 = .ok (.iconst (-1), 1) := by decide +kernel
theorem dX7_who_43 : decode cX7_who 43 = .ok (.istore 4, 2) := by decide +kernel
theorem dX7_who_45 : decode cX7_who 45 = .ok (.aload_n 0, 1) := by decide +kernel
theorem dX7_who_46 : decode cX7_who 46 = .ok (.getfield 7, 3) := by decide +kernel
theorem dX7_who_49 : decode cX7_who 49 = .ok (.iconst 1, 1) := by decide +kernel
theorem dX7_who_50 : decode cX7_who 50 = .ok (.iaload, 1) := by decide +kernel
theorem dX7_who_51 : decode cX7_who 51 = .ok (.istore 5, 2) := by decide +kernel
theorem dX7_who_53 : decode cX7_who 53 = .ok (.iconst 0, 1) := by decide +kernel
theorem dX7_who_54 : decode cX7_who 54 = .ok (.istore 6, 2) := by decide +kernel
theorem dX7_who_56 : decode cX7_who 56 = .ok (.iload 6, 2) := by decide +kernel
theorem dX7_who_58 : decode cX7_who 58 = .ok (.iload_n 3, 1) := by decide +kernel
theorem dX7_who_59 : decode cX7_who 59 = .ok (.if_icmp .ge 58, 3) := by decide +kernel
theorem dX7_who_62 : decode cX7_who 62 = .ok (.aload_n 0, 1) := by decide +kernel
theorem dX7_who_63 : decode cX7_who 63 = .ok (.aload_n 0, 1) := by decide +kernel
theorem dX7_who_64 : decode cX7_who 64 = .ok (.getfield 7, 3) := by decide +kernel
theorem dX7_who_67 : decode cX7_who 67 = .ok (.iconst 4, 1) := by decide +kernel
theorem dX7_who_68 : decode cX7_who 68 = .ok (.iload 6, 2) := by decide +kernel
theorem dX7_who_70 : decode cX7_who 70 = .ok (.iadd, 1) := by decide +kernel
theorem dX7_who_71 : decode cX7_who 71 = .ok (.iaload, 1) := by decide +kernel
theorem dX7_who_72 : decode cX7_who 72 = .ok (.iload 5, 2) := by decide +kernel
theorem dX7_who_74 : decode cX7_who 74 = .ok (.invokevirtual 63, 3) := by decide +kernel
theorem dX7_who_77 : decode cX7_who 77 = .ok (.istore 7, 2) := by decide +kernel
theorem dX7_who_79 : decode cX7_who 79 = .ok (.iload 5, 2) := by decide +kernel
theorem dX7_who_81 : decode cX7_who 81 = .ok (.iload 7, 2) := by decide +kernel
theorem dX7_who_83 : decode cX7_who 83 = .ok (.ixor, 1) := by decide +kernel
theorem dX7_who_84 : decode cX7_who 84 = .ok (.iload_n 2, 1) := by decide +kernel
theorem dX7_who_85 : decode cX7_who 85 = .ok (.invokestatic 77, 3) := by decide +kernel
theorem dX7_who_88 : decode cX7_who 88 = .ok (.ifCond .eq 15, 3) := by decide +kernel
theorem dX7_who_91 : decode cX7_who 91 = .ok (.aload_n 0, 1) := by decide +kernel
theorem dX7_who_92 : decode cX7_who 92 = .ok (.getfield 7, 3) := by decide +kernel
theorem dX7_who_95 : decode cX7_who 95 = .ok (.iconst 4, 1) := by decide +kernel
theorem dX7_who_96 : decode cX7_who 96 = .ok (.iload 6, 2) := by decide +kernel
theorem dX7_who_98 : decode cX7_who 98 = .ok (.iadd, 1) := by decide +kernel
theorem dX7_who_99 : decode cX7_who 99 = .ok (.iaload, 1) := by decide +kernel
theorem dX7_who_100 : decode cX7_who 100 = .ok (.goto 5, 3) := by decide +kernel
theorem dX7_who_103 : decode cX7_who 103 = .ok (.iload 4, 2) := by decide +kernel
theorem dX7_who_105 : decode cX7_who 105 = .ok (.istore 4, 2) := by decide +kernel
theorem dX7_who_107 : decode cX7_who 107 = .ok (.iload 7, 2) := by decide +kernel
theorem dX7_who_109 : decode cX7_who 109 = .ok (.istore 5, 2) := by decide +kernel
theorem dX7_who_111 : decode cX7_who 111 = .ok (.iinc 6 1, 3) := by decide +kernel
theorem dX7_who_114 : decode cX7_who 114 = .ok (.goto (-58), 3) := by decide +kernel
theorem dX7_who_117 : decode cX7_who 117 = .ok (.iload 4, 2) := by decide +kernel
theorem dX7_who_119 : decode cX7_who 119 = .ok (.ireturn, 1) := by decide +kernel
theorem dX7_left_0 : decode cX7_left 0 = .ok (.aload_n 0, 1) := by decide +kernel
theorem dX7_left_1 : decode cX7_left 1 = .ok (.iload_n 1, 1) := by decide +kernel
theorem dX7_left_2 : decode cX7_left 2 = .ok (.invokevirtual 100, 3) := by decide +kernel
theorem dX7_left_5 : decode cX7_left 5 = .ok (.ifCond .eq 12, 3) := by decide +kernel
theorem dX7_left_8 : decode cX7_left 8 = .ok (.iload_n 2, 1) := by decide +kernel
theorem dX7_left_9 : decode cX7_left 9 = .ok (.iconst 0, 1) := by decide +kernel
theorem dX7_left_10 : decode cX7_left 10 = .ok (.iconst 2, 1) := by decide +kernel
theorem dX7_left_11 : decode cX7_left 11 = .ok (.invokestatic 48, 3) := by decide +kernel
theorem dX7_left_14 : decode cX7_left 14 = .ok (.ifCond .ne 10, 3) := by decide +kernel
theorem dX7_left_17 : decode cX7_left 17 = .ok (.aload_n 0, 1) := by decide +kernel
theorem dX7_left_18 : decode cX7_left 18 = .ok (.bipush (-2), 2) := by decide +kernel
theorem dX7_left_20 : decode cX7_left 20 = .ok (.invokevirtual 41, 3) := by decide +kernel
theorem dX7_left_23 : decode cX7_left 23 = .ok (.ireturn, 1) := by decide +kernel
theorem dX7_left_24 : decode cX7_left 24 = .ok (.aload_n 0, 1) := by decide +kernel
theorem dX7_left_25 : decode cX7_left 25 = .ok (.iload_n 1, 1) := by decide +kernel
theorem dX7_left_26 : decode cX7_left 26 = .ok (.invokevirtual 115, 3) := by decide +kernel
theorem dX7_left_29 : decode cX7_left 29 = .ok (.ifCond .ne 10, 3) := by decide +kernel
theorem dX7_left_32 : decode cX7_left 32 = .ok (.aload_n 0, 1) := by decide +kernel
theorem dX7_left_33 : decode cX7_left 33 = .ok (.bipush (-3), 2) := by decide +kernel
theorem dX7_left_35 : decode cX7_left 35 = .ok (.invokevirtual 41, 3) := by decide +kernel
theorem dX7_left_38 : decode cX7_left 38 = .ok (.ireturn, 1) := by decide +kernel
theorem dX7_left_39 : decode cX7_left 39 = .ok (.aload_n 0, 1) := by decide +kernel
theorem dX7_left_40 : decode cX7_left 40 = .ok (.iload_n 1, 1) := by decide +kernel
theorem dX7_left_41 : decode cX7_left 41 = .ok (.invokevirtual 93, 3) := by decide +kernel
theorem dX7_left_44 : decode cX7_left 44 = .ok (.istore_n 3, 1) := by decide +kernel
theorem dX7_left_45 : decode cX7_left 45 = .ok (.iload_n 2, 1) := by decide +kernel
theorem dX7_left_46 : decode cX7_left 46 = .ok (.ifCond .ne 11, 3) := by decide +kernel
theorem dX7_left_49 : decode cX7_left 49 = .ok (.aload_n 0, 1) := by decide +kernel
theorem dX7_left_50 : decode cX7_left 50 = .ok (.iload_n 3, 1) := by decide +kernel
theorem dX7_left_51 : decode cX7_left 51 = .ok (.invokevirtual 118, 3) := by decide +kernel
theorem dX7_left_54 : decode cX7_left 54 = .ok (.goto 21, 3) := by decide +kernel
theorem dX7_left_57 : decode cX7_left 57 = .ok (.iload_n 2, 1) := by decide +kernel
theorem dX7_left_58 : decode cX7_left 58 = .ok (.iconst 1, 1) := by decide +kernel
theorem dX7_left_59 : decode cX7_left 59 = .ok (.if_icmp .ne 11, 3) := by decide +kernel
theorem dX7_left_62 : decode cX7_left 62 = .ok (.aload_n 0, 1) := by decide +kernel
theorem dX7_left_63 : decode cX7_left 63 = .ok (.iload_n 3, 1) := by decide +kernel
theorem dX7_left_64 : decode cX7_left 64 = .ok (.invokevirtual 168, 3) := by decide +kernel
theorem dX7_left_67 : decode cX7_left 67 = .ok (.goto 8, 3) := by decide +kernel
theorem dX7_left_70 : decode cX7_left 70 = .ok (.aload_n 0, 1) := by decide +kernel
theorem dX7_left_71 : decode cX7_left 71 = .ok (.iload_n 3, 1) := by decide +kernel
theorem dX7_left_72 : decode cX7_left 72 = .ok (.invokevirtual 171, 3) := by decide +kernel
theorem dX7_left_75 : decode cX7_left 75 = .ok (.ireturn, 1) := by decide +kernel
theorem dX7_soilsAll_0 : decode cX7_soilsAll 0 = .ok (.iconst 0, 1) := by decide +kernel
theorem dX7_soilsAll_1 : decode cX7_soilsAll 1 = .ok (.istore_n 1, 1) := by decide +kernel
theorem dX7_soilsAll_2 : decode cX7_soilsAll 2 = .ok (.iconst 0, 1) := by decide +kernel
theorem dX7_soilsAll_3 : decode cX7_soilsAll 3 = .ok (.istore_n 2, 1) := by decide +kernel
theorem dX7_soilsAll_4 : decode cX7_soilsAll 4 = .ok (.iload_n 2, 1) := by decide +kernel
theorem dX7_soilsAll_5 : decode cX7_soilsAll 5 = .ok (.aload_n 0, 1) := by decide +kernel
theorem dX7_soilsAll_6 : decode cX7_soilsAll 6 = .ok (.getfield 7, 3) := by decide +kernel
theorem dX7_soilsAll_9 : decode cX7_soilsAll 9 = .ok (.iconst 0, 1) := by decide +kernel
theorem dX7_soilsAll_10 : decode cX7_soilsAll 10 = .ok (.iaload, 1) := by decide +kernel
theorem dX7_soilsAll_11 : decode cX7_soilsAll 11 = .ok (.if_icmp .ge 49, 3) := by decide +kernel
theorem dX7_soilsAll_14 : decode cX7_soilsAll 14 = .ok (.iconst 0, 1) := by decide +kernel
theorem dX7_soilsAll_15 : decode cX7_soilsAll 15 = .ok (.istore_n 3, 1) := by decide +kernel
theorem dX7_soilsAll_16 : decode cX7_soilsAll 16 = .ok (.iload_n 3, 1) := by decide +kernel
theorem dX7_soilsAll_17 : decode cX7_soilsAll 17 = .ok (.aload_n 0, 1) := by decide +kernel
theorem dX7_soilsAll_18 : decode cX7_soilsAll 18 = .ok (.getfield 7, 3) := by decide +kernel
theorem dX7_soilsAll_21 : decode cX7_soilsAll 21 = .ok (.iconst 0, 1) := by decide +kernel
theorem dX7_soilsAll_22 : decode cX7_soilsAll 22 = .ok (.iaload, 1) := by decide +kernel
theorem dX7_soilsAll_23 : decode cX7_soilsAll 23 = .ok (.if_icmp .ge 31, 3) := by decide +kernel
theorem dX7_soilsAll_26 : decode cX7_soilsAll 26 = .ok (.iload_n 1, 1) := by decide +kernel
theorem dX7_soilsAll_27 : decode cX7_soilsAll 27 = .ok (.iload_n 2, 1) := by decide +kernel
theorem dX7_soilsAll_28 : decode cX7_soilsAll 28 = .ok (.iload_n 3, 1) := by decide +kernel
theorem dX7_soilsAll_29 : decode cX7_soilsAll 29 = .ok (.if_icmp .eq 16, 3) := by decide +kernel
theorem dX7_soilsAll_32 : decode cX7_soilsAll 32 = .ok (.aload_n 0, 1) := by decide +kernel
theorem dX7_soilsAll_33 : decode cX7_soilsAll 33 = .ok (.iload_n 2, 1) := by decide +kernel
theorem dX7_soilsAll_34 : decode cX7_soilsAll 34 = .ok (.iload_n 3, 1) := by decide +kernel
theorem dX7_soilsAll_35 : decode cX7_soilsAll 35 = .ok (.invokevirtual 156, 3) := by decide +kernel
theorem dX7_soilsAll_38 : decode cX7_soilsAll 38 = .ok (.ifCond .eq 7, 3) := by decide +kernel
theorem dX7_soilsAll_41 : decode cX7_soilsAll 41 = .ok (.iconst 1, 1) := by decide +kernel
theorem dX7_soilsAll_42 : decode cX7_soilsAll 42 = .ok (.goto 4, 3) := by decide +kernel
theorem dX7_soilsAll_45 : decode cX7_soilsAll 45 = .ok (.iconst 0, 1) := by decide +kernel
theorem dX7_soilsAll_46 : decode cX7_soilsAll 46 = .ok (.iadd, 1) := by decide +kernel
theorem dX7_soilsAll_47 : decode cX7_soilsAll 47 = .ok (.istore_n 1, 1) := by decide +kernel
theorem dX7_soilsAll_48 : decode cX7_soilsAll 48 = .ok (.iinc 3 1, 3) := by decide +kernel
theorem dX7_soilsAll_51 : decode cX7_soilsAll 51 = .ok (.goto (-35), 3) := by decide +kernel
theorem dX7_soilsAll_54 : decode cX7_soilsAll 54 = .ok (.iinc 2 1, 3) := by decide +kernel
theorem dX7_soilsAll_57 : decode cX7_soilsAll 57 = .ok (.goto (-53), 3) := by decide +kernel
theorem dX7_soilsAll_60 : decode cX7_soilsAll 60 = .ok (.iload_n 1, 1) := by decide +kernel
theorem dX7_soilsAll_61 : decode cX7_soilsAll 61 = .ok (.ireturn, 1) := by decide +kernel
theorem dX7_countTold_0 : decode cX7_countTold 0 = .ok (.iconst 0, 1) := by decide +kernel
theorem dX7_countTold_1 : decode cX7_countTold 1 = .ok (.istore_n 2, 1) := by decide +kernel
theorem dX7_countTold_2 : decode cX7_countTold 2 = .ok (.iconst 0, 1) := by decide +kernel
theorem dX7_countTold_3 : decode cX7_countTold 3 = .ok (.istore_n 3, 1) := by decide +kernel
theorem dX7_countTold_4 : decode cX7_countTold 4 = .ok (.iconst 0, 1) := by decide +kernel
theorem dX7_countTold_5 : decode cX7_countTold 5 = .ok (.istore 4, 2) := by decide +kernel
theorem dX7_countTold_7 : decode cX7_countTold 7 = .ok (.iload 4, 2) := by decide +kernel
theorem dX7_countTold_9 : decode cX7_countTold 9 = .ok (.aload_n 0, 1) := by decide +kernel
theorem dX7_countTold_10 : decode cX7_countTold 10 = .ok (.getfield 7, 3) := by decide +kernel
theorem dX7_countTold_13 : decode cX7_countTold 13 = .ok (.iconst 3, 1) := by decide +kernel
theorem dX7_countTold_14 : decode cX7_countTold 14 = .ok (.iaload, 1) := by decide +kernel
theorem dX7_countTold_15 : decode cX7_countTold 15 = .ok (.if_icmp .ge 29, 3) := by decide +kernel
theorem dX7_countTold_18 : decode cX7_countTold 18 = .ok (.iload_n 2, 1) := by decide +kernel
theorem dX7_countTold_19 : decode cX7_countTold 19 = .ok (.aload_n 0, 1) := by decide +kernel
theorem dX7_countTold_20 : decode cX7_countTold 20 = .ok (.iload 4, 2) := by decide +kernel
theorem dX7_countTold_22 : decode cX7_countTold 22 = .ok (.iconst 1, 1) := by decide +kernel
theorem dX7_countTold_23 : decode cX7_countTold 23 = .ok (.invokevirtual 165, 3) := by decide +kernel
theorem dX7_countTold_26 : decode cX7_countTold 26 = .ok (.iadd, 1) := by decide +kernel
theorem dX7_countTold_27 : decode cX7_countTold 27 = .ok (.istore_n 2, 1) := by decide +kernel
theorem dX7_countTold_28 : decode cX7_countTold 28 = .ok (.iload_n 3, 1) := by decide +kernel
theorem dX7_countTold_29 : decode cX7_countTold 29 = .ok (.aload_n 0, 1) := by decide +kernel
theorem dX7_countTold_30 : decode cX7_countTold 30 = .ok (.iload 4, 2) := by decide +kernel
theorem dX7_countTold_32 : decode cX7_countTold 32 = .ok (.iconst 2, 1) := by decide +kernel
theorem dX7_countTold_33 : decode cX7_countTold 33 = .ok (.invokevirtual 165, 3) := by decide +kernel
theorem dX7_countTold_36 : decode cX7_countTold 36 = .ok (.iadd, 1) := by decide +kernel
theorem dX7_countTold_37 : decode cX7_countTold 37 = .ok (.istore_n 3, 1) := by decide +kernel
theorem dX7_countTold_38 : decode cX7_countTold 38 = .ok (.iinc 4 1, 3) := by decide +kernel
theorem dX7_countTold_41 : decode cX7_countTold 41 = .ok (.goto (-34), 3) := by decide +kernel
theorem dX7_countTold_44 : decode cX7_countTold 44 = .ok (.iload_n 1, 1) := by decide +kernel
theorem dX7_countTold_45 : decode cX7_countTold 45 = .ok (.tableswitch 93 0 6 #[43, 50, 57, 64, 71, 89, 91], 43) := by decide +kernel
theorem dX7_countTold_88 : decode cX7_countTold 88 = .ok (.aload_n 0, 1) := by decide +kernel
theorem dX7_countTold_89 : decode cX7_countTold 89 = .ok (.getfield 7, 3) := by decide +kernel
theorem dX7_countTold_92 : decode cX7_countTold 92 = .ok (.iconst 0, 1) := by decide +kernel
theorem dX7_countTold_93 : decode cX7_countTold 93 = .ok (.iaload, 1) := by decide +kernel
theorem dX7_countTold_94 : decode cX7_countTold 94 = .ok (.ireturn, 1) := by decide +kernel
theorem dX7_countTold_95 : decode cX7_countTold 95 = .ok (.aload_n 0, 1) := by decide +kernel
theorem dX7_countTold_96 : decode cX7_countTold 96 = .ok (.getfield 7, 3) := by decide +kernel
theorem dX7_countTold_99 : decode cX7_countTold 99 = .ok (.iconst 3, 1) := by decide +kernel
theorem dX7_countTold_100 : decode cX7_countTold 100 = .ok (.iaload, 1) := by decide +kernel
theorem dX7_countTold_101 : decode cX7_countTold 101 = .ok (.ireturn, 1) := by decide +kernel
theorem dX7_countTold_102 : decode cX7_countTold 102 = .ok (.aload_n 0, 1) := by decide +kernel
theorem dX7_countTold_103 : decode cX7_countTold 103 = .ok (.getfield 7, 3) := by decide +kernel
theorem dX7_countTold_106 : decode cX7_countTold 106 = .ok (.iconst 1, 1) := by decide +kernel
theorem dX7_countTold_107 : decode cX7_countTold 107 = .ok (.iaload, 1) := by decide +kernel
theorem dX7_countTold_108 : decode cX7_countTold 108 = .ok (.ireturn, 1) := by decide +kernel
theorem dX7_countTold_109 : decode cX7_countTold 109 = .ok (.aload_n 0, 1) := by decide +kernel
theorem dX7_countTold_110 : decode cX7_countTold 110 = .ok (.getfield 7, 3) := by decide +kernel
theorem dX7_countTold_113 : decode cX7_countTold 113 = .ok (.iconst 2, 1) := by decide +kernel
theorem dX7_countTold_114 : decode cX7_countTold 114 = .ok (.iaload, 1) := by decide +kernel
theorem dX7_countTold_115 : decode cX7_countTold 115 = .ok (.ireturn, 1) := by decide +kernel
theorem dX7_countTold_116 : decode cX7_countTold 116 = .ok (.aload_n 0, 1) := by decide +kernel
theorem dX7_countTold_117 : decode cX7_countTold 117 = .ok (.aload_n 0, 1) := by decide +kernel
theorem dX7_countTold_118 : decode cX7_countTold 118 = .ok (.getfield 7, 3) := by decide +kernel
theorem dX7_countTold_121 : decode cX7_countTold 121 = .ok (.iconst 3, 1) := by decide +kernel
theorem dX7_countTold_122 : decode cX7_countTold 122 = .ok (.iaload, 1) := by decide +kernel
theorem dX7_countTold_123 : decode cX7_countTold 123 = .ok (.sipush 255, 3) := by decide +kernel
theorem dX7_countTold_126 : decode cX7_countTold 126 = .ok (.invokevirtual 80, 3) := by decide +kernel
theorem dX7_countTold_129 : decode cX7_countTold 129 = .ok (.aload_n 0, 1) := by decide +kernel
theorem dX7_countTold_130 : decode cX7_countTold 130 = .ok (.invokevirtual 66, 3) := by decide +kernel
theorem dX7_countTold_133 : decode cX7_countTold 133 = .ok (.ireturn, 1) := by decide +kernel
theorem dX7_countTold_134 : decode cX7_countTold 134 = .ok (.iload_n 2, 1) := by decide +kernel
theorem dX7_countTold_135 : decode cX7_countTold 135 = .ok (.ireturn, 1) := by decide +kernel
theorem dX7_countTold_136 : decode cX7_countTold 136 = .ok (.iload_n 3, 1) := by decide +kernel
theorem dX7_countTold_137 : decode cX7_countTold 137 = .ok (.ireturn, 1) := by decide +kernel
theorem dX7_countTold_138 : decode cX7_countTold 138 = .ok (.aload_n 0, 1) := by decide +kernel
theorem dX7_countTold_139 : decode cX7_countTold 139 = .ok (.invokevirtual 174, 3) := by decide +kernel
theorem dX7_countTold_142 : decode cX7_countTold 142 = .ok (.ireturn, 1) := by decide +kernel
theorem dX7_count_0 : decode cX7_count 0 = .ok (.iload_n 1, 1) := by decide +kernel
theorem dX7_count_1 : decode cX7_count 1 = .ok (.iconst 0, 1) := by decide +kernel
theorem dX7_count_2 : decode cX7_count 2 = .ok (.bipush 7, 2) := by decide +kernel
theorem dX7_count_4 : decode cX7_count 4 = .ok (.invokestatic 48, 3) := by decide +kernel
theorem dX7_count_7 : decode cX7_count 7 = .ok (.ifCond .eq 11, 3) := by decide +kernel
theorem dX7_count_10 : decode cX7_count 10 = .ok (.aload_n 0, 1) := by decide +kernel
theorem dX7_count_11 : decode cX7_count 11 = .ok (.iload_n 1, 1) := by decide +kernel
theorem dX7_count_12 : decode cX7_count 12 = .ok (.invokevirtual 177, 3) := by decide +kernel
theorem dX7_count_15 : decode cX7_count 15 = .ok (.goto 9, 3) := by decide +kernel
theorem dX7_count_18 : decode cX7_count 18 = .ok (.aload_n 0, 1) := by decide +kernel
theorem dX7_count_19 : decode cX7_count 19 = .ok (.bipush (-2), 2) := by decide +kernel
theorem dX7_count_21 : decode cX7_count 21 = .ok (.invokevirtual 41, 3) := by decide +kernel
theorem dX7_count_24 : decode cX7_count 24 = .ok (.ireturn, 1) := by decide +kernel
theorem dX7_type_0 : decode cX7_type 0 = .ok (.iload_n 1, 1) := by decide +kernel
theorem dX7_type_1 : decode cX7_type 1 = .ok (.iconst 0, 1) := by decide +kernel
theorem dX7_type_2 : decode cX7_type 2 = .ok (.bipush 127, 2) := by decide +kernel
theorem dX7_type_4 : decode cX7_type 4 = .ok (.invokestatic 48, 3) := by decide +kernel
theorem dX7_type_7 : decode cX7_type 7 = .ok (.ifCond .ne 10, 3) := by decide +kernel
theorem dX7_type_10 : decode cX7_type 10 = .ok (.aload_n 0, 1) := by decide +kernel
theorem dX7_type_11 : decode cX7_type 11 = .ok (.bipush (-2), 2) := by decide +kernel
theorem dX7_type_13 : decode cX7_type 13 = .ok (.invokevirtual 41, 3) := by decide +kernel
theorem dX7_type_16 : decode cX7_type 16 = .ok (.ireturn, 1) := by decide +kernel
theorem dX7_type_17 : decode cX7_type 17 = .ok (.aload_n 0, 1) := by decide +kernel
theorem dX7_type_18 : decode cX7_type 18 = .ok (.getfield 180, 3) := by decide +kernel
theorem dX7_type_21 : decode cX7_type 21 = .ok (.sipush 150, 3) := by decide +kernel
theorem dX7_type_24 : decode cX7_type 24 = .ok (.if_icmp .ne 10, 3) := by decide +kernel
theorem dX7_type_27 : decode cX7_type 27 = .ok (.aload_n 0, 1) := by decide +kernel
theorem dX7_type_28 : decode cX7_type 28 = .ok (.bipush (-4), 2) := by decide +kernel
theorem dX7_type_30 : decode cX7_type 30 = .ok (.invokevirtual 41, 3) := by decide +kernel
theorem dX7_type_33 : decode cX7_type 33 = .ok (.ireturn, 1) := by decide +kernel
theorem dX7_type_34 : decode cX7_type 34 = .ok (.aload_n 0, 1) := by decide +kernel
theorem dX7_type_35 : decode cX7_type 35 = .ok (.getfield 22, 3) := by decide +kernel
theorem dX7_type_38 : decode cX7_type 38 = .ok (.aload_n 0, 1) := by decide +kernel
theorem dX7_type_39 : decode cX7_type 39 = .ok (.getfield 180, 3) := by decide +kernel
theorem dX7_type_42 : decode cX7_type 42 = .ok (.iload_n 1, 1) := by decide +kernel
theorem dX7_type_43 : decode cX7_type 43 = .ok (.iastore, 1) := by decide +kernel
theorem dX7_type_44 : decode cX7_type 44 = .ok (.aload_n 0, 1) := by decide +kernel
theorem dX7_type_45 : decode cX7_type 45 = .ok (.dup, 1) := by decide +kernel
theorem dX7_type_46 : decode cX7_type 46 = .ok (.getfield 180, 3) := by decide +kernel
theorem dX7_type_49 : decode cX7_type 49 = .ok (.iconst 1, 1) := by decide +kernel
theorem dX7_type_50 : decode cX7_type 50 = .ok (.iadd, 1) := by decide +kernel
theorem dX7_type_51 : decode cX7_type 51 = .ok (.putfield 180, 3) := by decide +kernel
theorem dX7_type_54 : decode cX7_type 54 = .ok (.aload_n 0, 1) := by decide +kernel
theorem dX7_type_55 : decode cX7_type 55 = .ok (.getfield 180, 3) := by decide +kernel
theorem dX7_type_58 : decode cX7_type 58 = .ok (.ireturn, 1) := by decide +kernel
theorem dX7_clear_0 : decode cX7_clear 0 = .ok (.aload_n 0, 1) := by decide +kernel
theorem dX7_clear_1 : decode cX7_clear 1 = .ok (.getfield 180, 3) := by decide +kernel
theorem dX7_clear_4 : decode cX7_clear 4 = .ok (.istore_n 1, 1) := by decide +kernel
theorem dX7_clear_5 : decode cX7_clear 5 = .ok (.aload_n 0, 1) := by decide +kernel
theorem dX7_clear_6 : decode cX7_clear 6 = .ok (.iconst 0, 1) := by decide +kernel
theorem dX7_clear_7 : decode cX7_clear 7 = .ok (.putfield 180, 3) := by decide +kernel
theorem dX7_clear_10 : decode cX7_clear 10 = .ok (.iload_n 1, 1) := by decide +kernel
theorem dX7_clear_11 : decode cX7_clear 11 = .ok (.ireturn, 1) := by decide +kernel
theorem dX7_isAt_0 : decode cX7_isAt 0 = .ok (.aload_n 0, 1) := by decide +kernel
theorem dX7_isAt_1 : decode cX7_isAt 1 = .ok (.getfield 183, 3) := by decide +kernel
theorem dX7_isAt_4 : decode cX7_isAt 4 = .ok (.aload_n 0, 1) := by decide +kernel
theorem dX7_isAt_5 : decode cX7_isAt 5 = .ok (.getfield 180, 3) := by decide +kernel
theorem dX7_isAt_8 : decode cX7_isAt 8 = .ok (.if_icmp .ge 24, 3) := by decide +kernel
theorem dX7_isAt_11 : decode cX7_isAt 11 = .ok (.aload_n 0, 1) := by decide +kernel
theorem dX7_isAt_12 : decode cX7_isAt 12 = .ok (.getfield 22, 3) := by decide +kernel
theorem dX7_isAt_15 : decode cX7_isAt 15 = .ok (.aload_n 0, 1) := by decide +kernel
theorem dX7_isAt_16 : decode cX7_isAt 16 = .ok (.getfield 183, 3) := by decide +kernel
theorem dX7_isAt_19 : decode cX7_isAt 19 = .ok (.iaload, 1) := by decide +kernel
theorem dX7_isAt_20 : decode cX7_isAt 20 = .ok (.iload_n 1, 1) := by decide +kernel
theorem dX7_isAt_21 : decode cX7_isAt 21 = .ok (.iload_n 2, 1) := by decide +kernel
theorem dX7_isAt_22 : decode cX7_isAt 22 = .ok (.invokestatic 48, 3) := by decide +kernel
theorem dX7_isAt_25 : decode cX7_isAt 25 = .ok (.ifCond .eq 7, 3) := by decide +kernel
theorem dX7_isAt_28 : decode cX7_isAt 28 = .ok (.iconst 1, 1) := by decide +kernel
theorem dX7_isAt_29 : decode cX7_isAt 29 = .ok (.goto 4, 3) := by decide +kernel
theorem dX7_isAt_32 : decode cX7_isAt 32 = .ok (.iconst 0, 1) := by decide +kernel
theorem dX7_isAt_33 : decode cX7_isAt 33 = .ok (.ireturn, 1) := by decide +kernel
theorem dX7_blanks_0 : decode cX7_blanks 0 = .ok (.aload_n 0, 1) := by decide +kernel
theorem dX7_blanks_1 : decode cX7_blanks 1 = .ok (.bipush 32, 2) := by decide +kernel
theorem dX7_blanks_3 : decode cX7_blanks 3 = .ok (.bipush 32, 2) := by decide +kernel
theorem dX7_blanks_5 : decode cX7_blanks 5 = .ok (.invokevirtual 186, 3) := by decide +kernel
theorem dX7_blanks_8 : decode cX7_blanks 8 = .ok (.ifCond .eq 16, 3) := by decide +kernel
theorem dX7_blanks_11 : decode cX7_blanks 11 = .ok (.aload_n 0, 1) := by decide +kernel
theorem dX7_blanks_12 : decode cX7_blanks 12 = .ok (.dup, 1) := by decide +kernel
theorem dX7_blanks_13 : decode cX7_blanks 13 = .ok (.getfield 183, 3) := by decide +kernel
theorem dX7_blanks_16 : decode cX7_blanks 16 = .ok (.iconst 1, 1) := by decide +kernel
theorem dX7_blanks_17 : decode cX7_blanks 17 = .ok (.iadd, 1) := by decide +kernel
theorem dX7_blanks_18 : decode cX7_blanks 18 = .ok (.putfield 183, 3) := by decide +kernel
theorem dX7_blanks_21 : decode cX7_blanks 21 = .ok (.goto (-21), 3) := by decide +kernel
theorem dX7_blanks_24 : decode cX7_blanks 24 = .ok (.return_, 1) := by decide +kernel
theorem dX7_fails_0 : decode cX7_fails 0 = .ok (.aload_n 0, 1) := by decide +kernel
theorem dX7_fails_1 : decode cX7_fails 1 = .ok (.aload_n 0, 1) := by decide +kernel
theorem dX7_fails_2 : decode cX7_fails 2 = .ok (.getfield 183, 3) := by decide +kernel
theorem dX7_fails_5 : decode cX7_fails 5 = .ok (.putfield 189, 3) := by decide +kernel
theorem dX7_fails_8 : decode cX7_fails 8 = .ok (.iconst 0, 1) := by decide +kernel
theorem dX7_fails_9 : decode cX7_fails 9 = .ok (.ireturn, 1) := by decide +kernel
theorem dX7_manyOf_0 : decode cX7_manyOf 0 = .ok (.iload_n 0, 1) := by decide +kernel
theorem dX7_manyOf_1 : decode cX7_manyOf 1 = .ok (.lookupswitch 65 #[(99, 63), (109, 61), (114, 61), (115, 61), (116, 59), (119, 63)], 59) := by decide +kernel
theorem dX7_manyOf_60 : decode cX7_manyOf 60 = .ok (.iconst 5, 1) := by decide +kernel
theorem dX7_manyOf_61 : decode cX7_manyOf 61 = .ok (.ireturn, 1) := by decide +kernel
theorem dX7_manyOf_62 : decode cX7_manyOf 62 = .ok (.iconst 1, 1) := by decide +kernel
theorem dX7_manyOf_63 : decode cX7_manyOf 63 = .ok (.ireturn, 1) := by decide +kernel
theorem dX7_manyOf_64 : decode cX7_manyOf 64 = .ok (.iconst 0, 1) := by decide +kernel
theorem dX7_manyOf_65 : decode cX7_manyOf 65 = .ok (.ireturn, 1) := by decide +kernel
theorem dX7_manyOf_66 : decode cX7_manyOf 66 = .ok (.iconst (-1), 1) := by decide +kernel
theorem dX7_manyOf_67 : decode cX7_manyOf 67 = .ok (.ireturn, 1) := by decide +kernel
theorem dX7_takesNumber_0 : decode cX7_takesNumber 0 = .ok (.aload_n 0, 1) := by decide +kernel
theorem dX7_takesNumber_1 : decode cX7_takesNumber 1 = .ok (.invokevirtual 192, 3) := by decide +kernel
theorem dX7_takesNumber_4 : decode cX7_takesNumber 4 = .ok (.aload_n 0, 1) := by decide +kernel
theorem dX7_takesNumber_5 : decode cX7_takesNumber 5 = .ok (.getfield 183, 3) := by decide +kernel
theorem dX7_takesNumber_8 : decode cX7_takesNumber 8 = .ok (.istore_n 2, 1) := by decide +kernel
theorem dX7_takesNumber_9 : decode cX7_takesNumber 9 = .ok (.iconst 0, 1) := by decide +kernel
theorem dX7_takesNumber_10 : decode cX7_takesNumber 10 = .ok (.istore_n 3, 1) := by decide +kernel
theorem dX7_takesNumber_11 : decode cX7_takesNumber 11 = .ok (.aload_n 0, 1) := by decide +kernel
theorem dX7_takesNumber_12 : decode cX7_takesNumber 12 = .ok (.bipush 48, 2) := by decide +kernel
theorem dX7_takesNumber_14 : decode cX7_takesNumber 14 = .ok (.bipush 57, 2) := by decide +kernel
theorem dX7_takesNumber_16 : decode cX7_takesNumber 16 = .ok (.invokevirtual 186, 3) := by decide +kernel
theorem dX7_takesNumber_19 : decode cX7_takesNumber 19 = .ok (.ifCond .eq 49, 3) := by decide +kernel
theorem dX7_takesNumber_22 : decode cX7_takesNumber 22 = .ok (.aload_n 0, 1) := by decide +kernel
theorem dX7_takesNumber_23 : decode cX7_takesNumber 23 = .ok (.getfield 183, 3) := by decide +kernel
theorem dX7_takesNumber_26 : decode cX7_takesNumber 26 = .ok (.iload_n 2, 1) := by decide +kernel
theorem dX7_takesNumber_27 : decode cX7_takesNumber 27 = .ok (.iconst 2, 1) := by decide +kernel
theorem dX7_takesNumber_28 : decode cX7_takesNumber 28 = .ok (.iadd, 1) := by decide +kernel
theorem dX7_takesNumber_29 : decode cX7_takesNumber 29 = .ok (.if_icmp .ne 8, 3) := by decide +kernel
theorem dX7_takesNumber_32 : decode cX7_takesNumber 32 = .ok (.aload_n 0, 1) := by decide +kernel
theorem dX7_takesNumber_33 : decode cX7_takesNumber 33 = .ok (.invokevirtual 195, 3) := by decide +kernel
theorem dX7_takesNumber_36 : decode cX7_takesNumber 36 = .ok (.ireturn, 1) := by decide +kernel
theorem dX7_takesNumber_37 : decode cX7_takesNumber 37 = .ok (.bipush 10, 2) := by decide +kernel
theorem dX7_takesNumber_39 : decode cX7_takesNumber 39 = .ok (.iload_n 3, 1) := by decide +kernel
theorem dX7_takesNumber_40 : decode cX7_takesNumber 40 = .ok (.imul, 1) := by decide +kernel
theorem dX7_takesNumber_41 : decode cX7_takesNumber 41 = .ok (.aload_n 0, 1) := by decide +kernel
theorem dX7_takesNumber_42 : decode cX7_takesNumber 42 = .ok (.getfield 22, 3) := by decide +kernel
theorem dX7_takesNumber_45 : decode cX7_takesNumber 45 = .ok (.aload_n 0, 1) := by decide +kernel
theorem dX7_takesNumber_46 : decode cX7_takesNumber 46 = .ok (.getfield 183, 3) := by decide +kernel
theorem dX7_takesNumber_49 : decode cX7_takesNumber 49 = .ok (.iaload, 1) := by decide +kernel
theorem dX7_takesNumber_50 : decode cX7_takesNumber 50 = .ok (.iadd, 1) := by decide +kernel
theorem dX7_takesNumber_51 : decode cX7_takesNumber 51 = .ok (.bipush 48, 2) := by decide +kernel
theorem dX7_takesNumber_53 : decode cX7_takesNumber 53 = .ok (.isub, 1) := by decide +kernel
theorem dX7_takesNumber_54 : decode cX7_takesNumber 54 = .ok (.istore_n 3, 1) := by decide +kernel
theorem dX7_takesNumber_55 : decode cX7_takesNumber 55 = .ok (.aload_n 0, 1) := by decide +kernel
theorem dX7_takesNumber_56 : decode cX7_takesNumber 56 = .ok (.dup, 1) := by decide +kernel
theorem dX7_takesNumber_57 : decode cX7_takesNumber 57 = .ok (.getfield 183, 3) := by decide +kernel
theorem dX7_takesNumber_60 : decode cX7_takesNumber 60 = .ok (.iconst 1, 1) := by decide +kernel
theorem dX7_takesNumber_61 : decode cX7_takesNumber 61 = .ok (.iadd, 1) := by decide +kernel
theorem dX7_takesNumber_62 : decode cX7_takesNumber 62 = .ok (.putfield 183, 3) := by decide +kernel
theorem dX7_takesNumber_65 : decode cX7_takesNumber 65 = .ok (.goto (-54), 3) := by decide +kernel
theorem dX7_takesNumber_68 : decode cX7_takesNumber 68 = .ok (.aload_n 0, 1) := by decide +kernel
theorem dX7_takesNumber_69 : decode cX7_takesNumber 69 = .ok (.getfield 34, 3) := by decide +kernel
theorem dX7_takesNumber_72 : decode cX7_takesNumber 72 = .ok (.iload_n 1, 1) := by decide +kernel
theorem dX7_takesNumber_73 : decode cX7_takesNumber 73 = .ok (.iload_n 3, 1) := by decide +kernel
theorem dX7_takesNumber_74 : decode cX7_takesNumber 74 = .ok (.iastore, 1) := by decide +kernel
theorem dX7_takesNumber_75 : decode cX7_takesNumber 75 = .ok (.aload_n 0, 1) := by decide +kernel
theorem dX7_takesNumber_76 : decode cX7_takesNumber 76 = .ok (.getfield 183, 3) := by decide +kernel
theorem dX7_takesNumber_79 : decode cX7_takesNumber 79 = .ok (.iload_n 2, 1) := by decide +kernel
theorem dX7_takesNumber_80 : decode cX7_takesNumber 80 = .ok (.if_icmp .gt 10, 3) := by decide +kernel
theorem dX7_takesNumber_83 : decode cX7_takesNumber 83 = .ok (.aload_n 0, 1) := by decide +kernel
theorem dX7_takesNumber_84 : decode cX7_takesNumber 84 = .ok (.invokevirtual 195, 3) := by decide +kernel
theorem dX7_takesNumber_87 : decode cX7_takesNumber 87 = .ok (.ifCond .eq 7, 3) := by decide +kernel
theorem dX7_takesNumber_90 : decode cX7_takesNumber 90 = .ok (.iconst 1, 1) := by decide +kernel
theorem dX7_takesNumber_91 : decode cX7_takesNumber 91 = .ok (.goto 4, 3) := by decide +kernel
theorem dX7_takesNumber_94 : decode cX7_takesNumber 94 = .ok (.iconst 0, 1) := by decide +kernel
theorem dX7_takesNumber_95 : decode cX7_takesNumber 95 = .ok (.ireturn, 1) := by decide +kernel
theorem dX7_takesOrder_0 : decode cX7_takesOrder 0 = .ok (.aload_n 0, 1) := by decide +kernel
theorem dX7_takesOrder_1 : decode cX7_takesOrder 1 = .ok (.getfield 22, 3) := by decide +kernel
theorem dX7_takesOrder_4 : decode cX7_takesOrder 4 = .ok (.aload_n 0, 1) := by decide +kernel
theorem dX7_takesOrder_5 : decode cX7_takesOrder 5 = .ok (.getfield 183, 3) := by decide +kernel
theorem dX7_takesOrder_8 : decode cX7_takesOrder 8 = .ok (.iaload, 1) := by decide +kernel
theorem dX7_takesOrder_9 : decode cX7_takesOrder 9 = .ok (.invokestatic 199, 3) := by decide +kernel
theorem dX7_takesOrder_12 : decode cX7_takesOrder 12 = .ok (.istore_n 1, 1) := by decide +kernel
theorem dX7_takesOrder_13 : decode cX7_takesOrder 13 = .ok (.iload_n 1, 1) := by decide +kernel
theorem dX7_takesOrder_14 : decode cX7_takesOrder 14 = .ok (.iconst (-1), 1) := by decide +kernel
theorem dX7_takesOrder_15 : decode cX7_takesOrder 15 = .ok (.if_icmp .ne 8, 3) := by decide +kernel
theorem dX7_takesOrder_18 : decode cX7_takesOrder 18 = .ok (.aload_n 0, 1) := by decide +kernel
theorem dX7_takesOrder_19 : decode cX7_takesOrder 19 = .ok (.invokevirtual 195, 3) := by decide +kernel
theorem dX7_takesOrder_22 : decode cX7_takesOrder 22 = .ok (.ireturn, 1) := by decide +kernel
theorem dX7_takesOrder_23 : decode cX7_takesOrder 23 = .ok (.aload_n 0, 1) := by decide +kernel
theorem dX7_takesOrder_24 : decode cX7_takesOrder 24 = .ok (.getfield 31, 3) := by decide +kernel
theorem dX7_takesOrder_27 : decode cX7_takesOrder 27 = .ok (.aload_n 0, 1) := by decide +kernel
theorem dX7_takesOrder_28 : decode cX7_takesOrder 28 = .ok (.getfield 202, 3) := by decide +kernel
theorem dX7_takesOrder_31 : decode cX7_takesOrder 31 = .ok (.aload_n 0, 1) := by decide +kernel
theorem dX7_takesOrder_32 : decode cX7_takesOrder 32 = .ok (.getfield 22, 3) := by decide +kernel
theorem dX7_takesOrder_35 : decode cX7_takesOrder 35 = .ok (.aload_n 0, 1) := by decide +kernel
theorem dX7_takesOrder_36 : decode cX7_takesOrder 36 = .ok (.getfield 183, 3) := by decide +kernel
theorem dX7_takesOrder_39 : decode cX7_takesOrder 39 = .ok (.iaload, 1) := by decide +kernel
theorem dX7_takesOrder_40 : decode cX7_takesOrder 40 = .ok (.iastore, 1) := by decide +kernel
theorem dX7_takesOrder_41 : decode cX7_takesOrder 41 = .ok (.aload_n 0, 1) := by decide +kernel
theorem dX7_takesOrder_42 : decode cX7_takesOrder 42 = .ok (.dup, 1) := by decide +kernel
theorem dX7_takesOrder_43 : decode cX7_takesOrder 43 = .ok (.getfield 183, 3) := by decide +kernel
theorem dX7_takesOrder_46 : decode cX7_takesOrder 46 = .ok (.iconst 1, 1) := by decide +kernel
theorem dX7_takesOrder_47 : decode cX7_takesOrder 47 = .ok (.iadd, 1) := by decide +kernel
theorem dX7_takesOrder_48 : decode cX7_takesOrder 48 = .ok (.putfield 183, 3) := by decide +kernel
theorem dX7_takesOrder_51 : decode cX7_takesOrder 51 = .ok (.iconst 0, 1) := by decide +kernel
theorem dX7_takesOrder_52 : decode cX7_takesOrder 52 = .ok (.istore_n 2, 1) := by decide +kernel
theorem dX7_takesOrder_53 : decode cX7_takesOrder 53 = .ok (.iload_n 2, 1) := by decide +kernel
theorem dX7_takesOrder_54 : decode cX7_takesOrder 54 = .ok (.iload_n 1, 1) := by decide +kernel
theorem dX7_takesOrder_55 : decode cX7_takesOrder 55 = .ok (.if_icmp .ge 26, 3) := by decide +kernel
theorem dX7_takesOrder_58 : decode cX7_takesOrder 58 = .ok (.aload_n 0, 1) := by decide +kernel
theorem dX7_takesOrder_59 : decode cX7_takesOrder 59 = .ok (.iconst 5, 1) := by decide +kernel
theorem dX7_takesOrder_60 : decode cX7_takesOrder 60 = .ok (.aload_n 0, 1) := by decide +kernel
theorem dX7_takesOrder_61 : decode cX7_takesOrder 61 = .ok (.getfield 202, 3) := by decide +kernel
theorem dX7_takesOrder_64 : decode cX7_takesOrder 64 = .ok (.imul, 1) := by decide +kernel
theorem dX7_takesOrder_65 : decode cX7_takesOrder 65 = .ok (.iload_n 2, 1) := by decide +kernel
theorem dX7_takesOrder_66 : decode cX7_takesOrder 66 = .ok (.iadd, 1) := by decide +kernel
theorem dX7_takesOrder_67 : decode cX7_takesOrder 67 = .ok (.invokevirtual 205, 3) := by decide +kernel
theorem dX7_takesOrder_70 : decode cX7_takesOrder 70 = .ok (.ifCond .ne 5, 3) := by decide +kernel
theorem dX7_takesOrder_73 : decode cX7_takesOrder 73 = .ok (.iconst 0, 1) := by decide +kernel
theorem dX7_takesOrder_74 : decode cX7_takesOrder 74 = .ok (.ireturn, 1) := by decide +kernel
theorem dX7_takesOrder_75 : decode cX7_takesOrder 75 = .ok (.iinc 2 1, 3) := by decide +kernel
theorem dX7_takesOrder_78 : decode cX7_takesOrder 78 = .ok (.goto (-25), 3) := by decide +kernel
theorem dX7_takesOrder_81 : decode cX7_takesOrder 81 = .ok (.aload_n 0, 1) := by decide +kernel
theorem dX7_takesOrder_82 : decode cX7_takesOrder 82 = .ok (.invokevirtual 192, 3) := by decide +kernel
theorem dX7_takesOrder_85 : decode cX7_takesOrder 85 = .ok (.aload_n 0, 1) := by decide +kernel
theorem dX7_takesOrder_86 : decode cX7_takesOrder 86 = .ok (.bipush 59, 2) := by decide +kernel
theorem dX7_takesOrder_88 : decode cX7_takesOrder 88 = .ok (.bipush 59, 2) := by decide +kernel
theorem dX7_takesOrder_90 : decode cX7_takesOrder 90 = .ok (.invokevirtual 186, 3) := by decide +kernel
theorem dX7_takesOrder_93 : decode cX7_takesOrder 93 = .ok (.ifCond .ne 8, 3) := by decide +kernel
theorem dX7_takesOrder_96 : decode cX7_takesOrder 96 = .ok (.aload_n 0, 1) := by decide +kernel
theorem dX7_takesOrder_97 : decode cX7_takesOrder 97 = .ok (.invokevirtual 195, 3) := by decide +kernel
theorem dX7_takesOrder_100 : decode cX7_takesOrder 100 = .ok (.ireturn, 1) := by decide +kernel
theorem dX7_takesOrder_101 : decode cX7_takesOrder 101 = .ok (.aload_n 0, 1) := by decide +kernel
theorem dX7_takesOrder_102 : decode cX7_takesOrder 102 = .ok (.dup, 1) := by decide +kernel
theorem dX7_takesOrder_103 : decode cX7_takesOrder 103 = .ok (.getfield 183, 3) := by decide +kernel
theorem dX7_takesOrder_106 : decode cX7_takesOrder 106 = .ok (.iconst 1, 1) := by decide +kernel
theorem dX7_takesOrder_107 : decode cX7_takesOrder 107 = .ok (.iadd, 1) := by decide +kernel
theorem dX7_takesOrder_108 : decode cX7_takesOrder 108 = .ok (.putfield 183, 3) := by decide +kernel
theorem dX7_takesOrder_111 : decode cX7_takesOrder 111 = .ok (.aload_n 0, 1) := by decide +kernel
theorem dX7_takesOrder_112 : decode cX7_takesOrder 112 = .ok (.dup, 1) := by decide +kernel
theorem dX7_takesOrder_113 : decode cX7_takesOrder 113 = .ok (.getfield 202, 3) := by decide +kernel
theorem dX7_takesOrder_116 : decode cX7_takesOrder 116 = .ok (.iconst 1, 1) := by decide +kernel
theorem dX7_takesOrder_117 : decode cX7_takesOrder 117 = .ok (.iadd, 1) := by decide +kernel
theorem dX7_takesOrder_118 : decode cX7_takesOrder 118 = .ok (.putfield 202, 3) := by decide +kernel
theorem dX7_takesOrder_121 : decode cX7_takesOrder 121 = .ok (.iconst 1, 1) := by decide +kernel
theorem dX7_takesOrder_122 : decode cX7_takesOrder 122 = .ok (.ireturn, 1) := by decide +kernel
theorem dX7_isRead_0 : decode cX7_isRead 0 = .ok (.aload_n 0, 1) := by decide +kernel
theorem dX7_isRead_1 : decode cX7_isRead 1 = .ok (.iconst 0, 1) := by decide +kernel
theorem dX7_isRead_2 : decode cX7_isRead 2 = .ok (.putfield 183, 3) := by decide +kernel
theorem dX7_isRead_5 : decode cX7_isRead 5 = .ok (.aload_n 0, 1) := by decide +kernel
theorem dX7_isRead_6 : decode cX7_isRead 6 = .ok (.iconst 0, 1) := by decide +kernel
theorem dX7_isRead_7 : decode cX7_isRead 7 = .ok (.putfield 202, 3) := by decide +kernel
theorem dX7_isRead_10 : decode cX7_isRead 10 = .ok (.aload_n 0, 1) := by decide +kernel
theorem dX7_isRead_11 : decode cX7_isRead 11 = .ok (.invokevirtual 192, 3) := by decide +kernel
theorem dX7_isRead_14 : decode cX7_isRead 14 = .ok (.aload_n 0, 1) := by decide +kernel
theorem dX7_isRead_15 : decode cX7_isRead 15 = .ok (.getfield 183, 3) := by decide +kernel
theorem dX7_isRead_18 : decode cX7_isRead 18 = .ok (.aload_n 0, 1) := by decide +kernel
theorem dX7_isRead_19 : decode cX7_isRead 19 = .ok (.getfield 180, 3) := by decide +kernel
theorem dX7_isRead_22 : decode cX7_isRead 22 = .ok (.if_icmp .ge 19, 3) := by decide +kernel
theorem dX7_isRead_25 : decode cX7_isRead 25 = .ok (.aload_n 0, 1) := by decide +kernel
theorem dX7_isRead_26 : decode cX7_isRead 26 = .ok (.invokevirtual 208, 3) := by decide +kernel
theorem dX7_isRead_29 : decode cX7_isRead 29 = .ok (.ifCond .ne 5, 3) := by decide +kernel
theorem dX7_isRead_32 : decode cX7_isRead 32 = .ok (.iconst 0, 1) := by decide +kernel
theorem dX7_isRead_33 : decode cX7_isRead 33 = .ok (.ireturn, 1) := by decide +kernel
theorem dX7_isRead_34 : decode cX7_isRead 34 = .ok (.aload_n 0, 1) := by decide +kernel
theorem dX7_isRead_35 : decode cX7_isRead 35 = .ok (.invokevirtual 192, 3) := by decide +kernel
theorem dX7_isRead_38 : decode cX7_isRead 38 = .ok (.goto (-24), 3) := by decide +kernel
theorem dX7_isRead_41 : decode cX7_isRead 41 = .ok (.aload_n 0, 1) := by decide +kernel
theorem dX7_isRead_42 : decode cX7_isRead 42 = .ok (.getfield 202, 3) := by decide +kernel
theorem dX7_isRead_45 : decode cX7_isRead 45 = .ok (.ifCond .gt 10, 3) := by decide +kernel
theorem dX7_isRead_48 : decode cX7_isRead 48 = .ok (.aload_n 0, 1) := by decide +kernel
theorem dX7_isRead_49 : decode cX7_isRead 49 = .ok (.invokevirtual 195, 3) := by decide +kernel
theorem dX7_isRead_52 : decode cX7_isRead 52 = .ok (.ifCond .eq 7, 3) := by decide +kernel
theorem dX7_isRead_55 : decode cX7_isRead 55 = .ok (.iconst 1, 1) := by decide +kernel
theorem dX7_isRead_56 : decode cX7_isRead 56 = .ok (.goto 4, 3) := by decide +kernel
theorem dX7_isRead_59 : decode cX7_isRead 59 = .ok (.iconst 0, 1) := by decide +kernel
theorem dX7_isRead_60 : decode cX7_isRead 60 = .ok (.ireturn, 1) := by decide +kernel
theorem dX7_doneOne_0 : decode cX7_doneOne 0 = .ok (.iconst 5, 1) := by decide +kernel
theorem dX7_doneOne_1 : decode cX7_doneOne 1 = .ok (.iload_n 1, 1) := by decide +kernel
theorem dX7_doneOne_2 : decode cX7_doneOne 2 = .ok (.imul, 1) := by decide +kernel
theorem dX7_doneOne_3 : decode cX7_doneOne 3 = .ok (.istore_n 2, 1) := by decide +kernel
theorem dX7_doneOne_4 : decode cX7_doneOne 4 = .ok (.aload_n 0, 1) := by decide +kernel
theorem dX7_doneOne_5 : decode cX7_doneOne 5 = .ok (.getfield 34, 3) := by decide +kernel
theorem dX7_doneOne_8 : decode cX7_doneOne 8 = .ok (.iload_n 2, 1) := by decide +kernel
theorem dX7_doneOne_9 : decode cX7_doneOne 9 = .ok (.iaload, 1) := by decide +kernel
theorem dX7_doneOne_10 : decode cX7_doneOne 10 = .ok (.istore_n 3, 1) := by decide +kernel
theorem dX7_doneOne_11 : decode cX7_doneOne 11 = .ok (.aload_n 0, 1) := by decide +kernel
theorem dX7_doneOne_12 : decode cX7_doneOne 12 = .ok (.getfield 31, 3) := by decide +kernel
theorem dX7_doneOne_15 : decode cX7_doneOne 15 = .ok (.iload_n 1, 1) := by decide +kernel
theorem dX7_doneOne_16 : decode cX7_doneOne 16 = .ok (.iaload, 1) := by decide +kernel
theorem dX7_doneOne_17 : decode cX7_doneOne 17 = .ok (.tableswitch 125 109 119 #[117, 125, 125, 125, 125, 97, 108, 59, 125, 125, 103], 59) := by decide +kernel
theorem dX7_doneOne_76 : decode cX7_doneOne 76 = .ok (.aload_n 0, 1) := by decide +kernel
theorem dX7_doneOne_77 : decode cX7_doneOne 77 = .ok (.iload_n 3, 1) := by decide +kernel
theorem dX7_doneOne_78 : decode cX7_doneOne 78 = .ok (.aload_n 0, 1) := by decide +kernel
theorem dX7_doneOne_79 : decode cX7_doneOne 79 = .ok (.getfield 34, 3) := by decide +kernel
theorem dX7_doneOne_82 : decode cX7_doneOne 82 = .ok (.iload_n 2, 1) := by decide +kernel
theorem dX7_doneOne_83 : decode cX7_doneOne 83 = .ok (.iconst 1, 1) := by decide +kernel
theorem dX7_doneOne_84 : decode cX7_doneOne 84 = .ok (.iadd, 1) := by decide +kernel
theorem dX7_doneOne_85 : decode cX7_doneOne 85 = .ok (.iaload, 1) := by decide +kernel
theorem dX7_doneOne_86 : decode cX7_doneOne 86 = .ok (.aload_n 0, 1) := by decide +kernel
theorem dX7_doneOne_87 : decode cX7_doneOne 87 = .ok (.getfield 34, 3) := by decide +kernel
theorem dX7_doneOne_90 : decode cX7_doneOne 90 = .ok (.iload_n 2, 1) := by decide +kernel
theorem dX7_doneOne_91 : decode cX7_doneOne 91 = .ok (.iconst 2, 1) := by decide +kernel
theorem dX7_doneOne_92 : decode cX7_doneOne 92 = .ok (.iadd, 1) := by decide +kernel
theorem dX7_doneOne_93 : decode cX7_doneOne 93 = .ok (.iaload, 1) := by decide +kernel
theorem dX7_doneOne_94 : decode cX7_doneOne 94 = .ok (.aload_n 0, 1) := by decide +kernel
theorem dX7_doneOne_95 : decode cX7_doneOne 95 = .ok (.getfield 34, 3) := by decide +kernel
theorem dX7_doneOne_98 : decode cX7_doneOne 98 = .ok (.iload_n 2, 1) := by decide +kernel
theorem dX7_doneOne_99 : decode cX7_doneOne 99 = .ok (.iconst 3, 1) := by decide +kernel
theorem dX7_doneOne_100 : decode cX7_doneOne 100 = .ok (.iadd, 1) := by decide +kernel
theorem dX7_doneOne_101 : decode cX7_doneOne 101 = .ok (.iaload, 1) := by decide +kernel
theorem dX7_doneOne_102 : decode cX7_doneOne 102 = .ok (.aload_n 0, 1) := by decide +kernel
theorem dX7_doneOne_103 : decode cX7_doneOne 103 = .ok (.getfield 34, 3) := by decide +kernel
theorem dX7_doneOne_106 : decode cX7_doneOne 106 = .ok (.iload_n 2, 1) := by decide +kernel
theorem dX7_doneOne_107 : decode cX7_doneOne 107 = .ok (.iconst 4, 1) := by decide +kernel
theorem dX7_doneOne_108 : decode cX7_doneOne 108 = .ok (.iadd, 1) := by decide +kernel
theorem dX7_doneOne_109 : decode cX7_doneOne 109 = .ok (.iaload, 1) := by decide +kernel
theorem dX7_doneOne_110 : decode cX7_doneOne 110 = .ok (.invokevirtual 124, 3) := by decide +kernel
theorem dX7_doneOne_113 : decode cX7_doneOne 113 = .ok (.ireturn, 1) := by decide +kernel
theorem dX7_doneOne_114 : decode cX7_doneOne 114 = .ok (.aload_n 0, 1) := by decide +kernel
theorem dX7_doneOne_115 : decode cX7_doneOne 115 = .ok (.iload_n 3, 1) := by decide +kernel
theorem dX7_doneOne_116 : decode cX7_doneOne 116 = .ok (.invokevirtual 134, 3) := by decide +kernel
theorem dX7_doneOne_119 : decode cX7_doneOne 119 = .ok (.ireturn, 1) := by decide +kernel
theorem dX7_doneOne_120 : decode cX7_doneOne 120 = .ok (.aload_n 0, 1) := by decide +kernel
theorem dX7_doneOne_121 : decode cX7_doneOne 121 = .ok (.invokevirtual 137, 3) := by decide +kernel
theorem dX7_doneOne_124 : decode cX7_doneOne 124 = .ok (.ireturn, 1) := by decide +kernel
theorem dX7_doneOne_125 : decode cX7_doneOne 125 = .ok (.aload_n 0, 1) := by decide +kernel
theorem dX7_doneOne_126 : decode cX7_doneOne 126 = .ok (.iconst 1, 1) := by decide +kernel
theorem dX7_doneOne_127 : decode cX7_doneOne 127 = .ok (.iload_n 3, 1) := by decide +kernel
theorem dX7_doneOne_128 : decode cX7_doneOne 128 = .ok (.bipush 63, 2) := by decide +kernel
theorem dX7_doneOne_130 : decode cX7_doneOne 130 = .ok (.invokevirtual 140, 3) := by decide +kernel
theorem dX7_doneOne_133 : decode cX7_doneOne 133 = .ok (.ireturn, 1) := by decide +kernel
theorem dX7_doneOne_134 : decode cX7_doneOne 134 = .ok (.aload_n 0, 1) := by decide +kernel
theorem dX7_doneOne_135 : decode cX7_doneOne 135 = .ok (.iconst 2, 1) := by decide +kernel
theorem dX7_doneOne_136 : decode cX7_doneOne 136 = .ok (.iload_n 3, 1) := by decide +kernel
theorem dX7_doneOne_137 : decode cX7_doneOne 137 = .ok (.iconst 1, 1) := by decide +kernel
theorem dX7_doneOne_138 : decode cX7_doneOne 138 = .ok (.invokevirtual 140, 3) := by decide +kernel
theorem dX7_doneOne_141 : decode cX7_doneOne 141 = .ok (.ireturn, 1) := by decide +kernel
theorem dX7_doneOne_142 : decode cX7_doneOne 142 = .ok (.aload_n 0, 1) := by decide +kernel
theorem dX7_doneOne_143 : decode cX7_doneOne 143 = .ok (.invokevirtual 131, 3) := by decide +kernel
theorem dX7_doneOne_146 : decode cX7_doneOne 146 = .ok (.ireturn, 1) := by decide +kernel
theorem dX7_does_0 : decode cX7_does 0 = .ok (.aload_n 0, 1) := by decide +kernel
theorem dX7_does_1 : decode cX7_does 1 = .ok (.invokevirtual 211, 3) := by decide +kernel
theorem dX7_does_4 : decode cX7_does 4 = .ok (.ifCond .ne 11, 3) := by decide +kernel
theorem dX7_does_7 : decode cX7_does 7 = .ok (.bipush (-10), 2) := by decide +kernel
theorem dX7_does_9 : decode cX7_does 9 = .ok (.aload_n 0, 1) := by decide +kernel
theorem dX7_does_10 : decode cX7_does 10 = .ok (.getfield 189, 3) := by decide +kernel
theorem dX7_does_13 : decode cX7_does 13 = .ok (.isub, 1) := by decide +kernel
theorem dX7_does_14 : decode cX7_does 14 = .ok (.ireturn, 1) := by decide +kernel
theorem dX7_does_15 : decode cX7_does 15 = .ok (.aload_n 0, 1) := by decide +kernel
theorem dX7_does_16 : decode cX7_does 16 = .ok (.invokevirtual 121, 3) := by decide +kernel
theorem dX7_does_19 : decode cX7_does 19 = .ok (.iconst 0, 1) := by decide +kernel
theorem dX7_does_20 : decode cX7_does 20 = .ok (.istore_n 1, 1) := by decide +kernel
theorem dX7_does_21 : decode cX7_does 21 = .ok (.iload_n 1, 1) := by decide +kernel
theorem dX7_does_22 : decode cX7_does 22 = .ok (.aload_n 0, 1) := by decide +kernel
theorem dX7_does_23 : decode cX7_does 23 = .ok (.getfield 202, 3) := by decide +kernel
theorem dX7_does_26 : decode cX7_does 26 = .ok (.if_icmp .ge 29, 3) := by decide +kernel
theorem dX7_does_29 : decode cX7_does 29 = .ok (.aload_n 0, 1) := by decide +kernel
theorem dX7_does_30 : decode cX7_does 30 = .ok (.iload_n 1, 1) := by decide +kernel
theorem dX7_does_31 : decode cX7_does 31 = .ok (.invokevirtual 214, 3) := by decide +kernel
theorem dX7_does_34 : decode cX7_does 34 = .ok (.bipush (-2), 2) := by decide +kernel
theorem dX7_does_36 : decode cX7_does 36 = .ok (.if_icmp .gt 13, 3) := by decide +kernel
theorem dX7_does_39 : decode cX7_does 39 = .ok (.aload_n 0, 1) := by decide +kernel
theorem dX7_does_40 : decode cX7_does 40 = .ok (.invokevirtual 217, 3) := by decide +kernel
theorem dX7_does_43 : decode cX7_does 43 = .ok (.sipush (-1000), 3) := by decide +kernel
theorem dX7_does_46 : decode cX7_does 46 = .ok (.iload_n 1, 1) := by decide +kernel
theorem dX7_does_47 : decode cX7_does 47 = .ok (.isub, 1) := by decide +kernel
theorem dX7_does_48 : decode cX7_does 48 = .ok (.ireturn, 1) := by decide +kernel
theorem dX7_does_49 : decode cX7_does 49 = .ok (.iinc 1 1, 3) := by decide +kernel
theorem dX7_does_52 : decode cX7_does 52 = .ok (.goto (-31), 3) := by decide +kernel
theorem dX7_does_55 : decode cX7_does 55 = .ok (.aload_n 0, 1) := by decide +kernel
theorem dX7_does_56 : decode cX7_does 56 = .ok (.invokevirtual 45, 3) := by decide +kernel
theorem dX7_does_59 : decode cX7_does 59 = .ok (.aload_n 0, 1) := by decide +kernel
theorem dX7_does_60 : decode cX7_does 60 = .ok (.getfield 202, 3) := by decide +kernel
theorem dX7_does_63 : decode cX7_does 63 = .ok (.ireturn, 1) := by decide +kernel
theorem dX7_toldAt_0 : decode cX7_toldAt 0 = .ok (.iload_n 1, 1) := by decide +kernel
theorem dX7_toldAt_1 : decode cX7_toldAt 1 = .ok (.iconst 3, 1) := by decide +kernel
theorem dX7_toldAt_2 : decode cX7_toldAt 2 = .ok (.if_icmp .ge 12, 3) := by decide +kernel
theorem dX7_toldAt_5 : decode cX7_toldAt 5 = .ok (.aload_n 0, 1) := by decide +kernel
theorem dX7_toldAt_6 : decode cX7_toldAt 6 = .ok (.getfield 19, 3) := by decide +kernel
theorem dX7_toldAt_9 : decode cX7_toldAt 9 = .ok (.iload_n 1, 1) := by decide +kernel
theorem dX7_toldAt_10 : decode cX7_toldAt 10 = .ok (.iaload, 1) := by decide +kernel
theorem dX7_toldAt_11 : decode cX7_toldAt 11 = .ok (.goto 19, 3) := by decide +kernel
theorem dX7_toldAt_14 : decode cX7_toldAt 14 = .ok (.iload_n 1, 1) := by decide +kernel
theorem dX7_toldAt_15 : decode cX7_toldAt 15 = .ok (.iconst 3, 1) := by decide +kernel
theorem dX7_toldAt_16 : decode cX7_toldAt 16 = .ok (.if_icmp .ne 10, 3) := by decide +kernel
theorem dX7_toldAt_19 : decode cX7_toldAt 19 = .ok (.aload_n 0, 1) := by decide +kernel
theorem dX7_toldAt_20 : decode cX7_toldAt 20 = .ok (.getfield 180, 3) := by decide +kernel
theorem dX7_toldAt_23 : decode cX7_toldAt 23 = .ok (.goto 7, 3) := by decide +kernel
theorem dX7_toldAt_26 : decode cX7_toldAt 26 = .ok (.aload_n 0, 1) := by decide +kernel
theorem dX7_toldAt_27 : decode cX7_toldAt 27 = .ok (.getfield 37, 3) := by decide +kernel
theorem dX7_toldAt_30 : decode cX7_toldAt 30 = .ok (.ireturn, 1) := by decide +kernel
theorem dX7_told_0 : decode cX7_told 0 = .ok (.iload_n 1, 1) := by decide +kernel
theorem dX7_told_1 : decode cX7_told 1 = .ok (.iconst 0, 1) := by decide +kernel
theorem dX7_told_2 : decode cX7_told 2 = .ok (.iconst 4, 1) := by decide +kernel
theorem dX7_told_3 : decode cX7_told 3 = .ok (.invokestatic 48, 3) := by decide +kernel
theorem dX7_told_6 : decode cX7_told 6 = .ok (.ifCond .eq 11, 3) := by decide +kernel
theorem dX7_told_9 : decode cX7_told 9 = .ok (.aload_n 0, 1) := by decide +kernel
theorem dX7_told_10 : decode cX7_told 10 = .ok (.iload_n 1, 1) := by decide +kernel
theorem dX7_told_11 : decode cX7_told 11 = .ok (.invokevirtual 220, 3) := by decide +kernel
theorem dX7_told_14 : decode cX7_told 14 = .ok (.goto 9, 3) := by decide +kernel
theorem dX7_told_17 : decode cX7_told 17 = .ok (.aload_n 0, 1) := by decide +kernel
theorem dX7_told_18 : decode cX7_told 18 = .ok (.bipush (-2), 2) := by decide +kernel
theorem dX7_told_20 : decode cX7_told 20 = .ok (.invokevirtual 41, 3) := by decide +kernel
theorem dX7_told_23 : decode cX7_told 23 = .ok (.ireturn, 1) := by decide +kernel
theorem dX7_mix_0 : decode cX7_mix 0 = .ok (.aload_n 0, 1) := by decide +kernel
theorem dX7_mix_1 : decode cX7_mix 1 = .ok (.ldc2_w 223, 3) := by decide +kernel
theorem dX7_mix_4 : decode cX7_mix 4 = .ok (.aload_n 0, 1) := by decide +kernel
theorem dX7_mix_5 : decode cX7_mix 5 = .ok (.getfield 225, 3) := by decide +kernel
theorem dX7_mix_8 : decode cX7_mix 8 = .ok (.lmul, 1) := by decide +kernel
theorem dX7_mix_9 : decode cX7_mix 9 = .ok (.lload_n 1, 1) := by decide +kernel
theorem dX7_mix_10 : decode cX7_mix 10 = .ok (.ladd, 1) := by decide +kernel
theorem dX7_mix_11 : decode cX7_mix 11 = .ok (.putfield 225, 3) := by decide +kernel
theorem dX7_mix_14 : decode cX7_mix 14 = .ok (.return_, 1) := by decide +kernel
theorem dX7_digest_0 : decode cX7_digest 0 = .ok (.aload_n 0, 1) := by decide +kernel
theorem dX7_digest_1 : decode cX7_digest 1 = .ok (.ldc2_w 229, 3) := by decide +kernel
theorem dX7_digest_4 : decode cX7_digest 4 = .ok (.putfield 225, 3) := by decide +kernel
theorem dX7_digest_7 : decode cX7_digest 7 = .ok (.iconst 0, 1) := by decide +kernel
theorem dX7_digest_8 : decode cX7_digest 8 = .ok (.istore_n 1, 1) := by decide +kernel
theorem dX7_digest_9 : decode cX7_digest 9 = .ok (.iload_n 1, 1) := by decide +kernel
theorem dX7_digest_10 : decode cX7_digest 10 = .ok (.iconst 5, 1) := by decide +kernel
theorem dX7_digest_11 : decode cX7_digest 11 = .ok (.if_icmp .ge 19, 3) := by decide +kernel
theorem dX7_digest_14 : decode cX7_digest 14 = .ok (.aload_n 0, 1) := by decide +kernel
theorem dX7_digest_15 : decode cX7_digest 15 = .ok (.aload_n 0, 1) := by decide +kernel
theorem dX7_digest_16 : decode cX7_digest 16 = .ok (.iload_n 1, 1) := by decide +kernel
theorem dX7_digest_17 : decode cX7_digest 17 = .ok (.invokevirtual 220, 3) := by decide +kernel
theorem dX7_digest_20 : decode cX7_digest 20 = .ok (.i2l, 1) := by decide +kernel
theorem dX7_digest_21 : decode cX7_digest 21 = .ok (.invokevirtual 231, 3) := by decide +kernel
theorem dX7_digest_24 : decode cX7_digest 24 = .ok (.iinc 1 1, 3) := by decide +kernel
theorem dX7_digest_27 : decode cX7_digest 27 = .ok (.goto (-18), 3) := by decide +kernel
theorem dX7_digest_30 : decode cX7_digest 30 = .ok (.iconst 0, 1) := by decide +kernel
theorem dX7_digest_31 : decode cX7_digest 31 = .ok (.istore_n 1, 1) := by decide +kernel
theorem dX7_digest_32 : decode cX7_digest 32 = .ok (.iload_n 1, 1) := by decide +kernel
theorem dX7_digest_33 : decode cX7_digest 33 = .ok (.bipush 8, 2) := by decide +kernel
theorem dX7_digest_35 : decode cX7_digest 35 = .ok (.if_icmp .ge 19, 3) := by decide +kernel
theorem dX7_digest_38 : decode cX7_digest 38 = .ok (.aload_n 0, 1) := by decide +kernel
theorem dX7_digest_39 : decode cX7_digest 39 = .ok (.aload_n 0, 1) := by decide +kernel
theorem dX7_digest_40 : decode cX7_digest 40 = .ok (.iload_n 1, 1) := by decide +kernel
theorem dX7_digest_41 : decode cX7_digest 41 = .ok (.invokevirtual 177, 3) := by decide +kernel
theorem dX7_digest_44 : decode cX7_digest 44 = .ok (.i2l, 1) := by decide +kernel
theorem dX7_digest_45 : decode cX7_digest 45 = .ok (.invokevirtual 231, 3) := by decide +kernel
theorem dX7_digest_48 : decode cX7_digest 48 = .ok (.iinc 1 1, 3) := by decide +kernel
theorem dX7_digest_51 : decode cX7_digest 51 = .ok (.goto (-19), 3) := by decide +kernel
theorem dX7_digest_54 : decode cX7_digest 54 = .ok (.iconst 0, 1) := by decide +kernel
theorem dX7_digest_55 : decode cX7_digest 55 = .ok (.istore_n 1, 1) := by decide +kernel
theorem dX7_digest_56 : decode cX7_digest 56 = .ok (.iload_n 1, 1) := by decide +kernel
theorem dX7_digest_57 : decode cX7_digest 57 = .ok (.aload_n 0, 1) := by decide +kernel
theorem dX7_digest_58 : decode cX7_digest 58 = .ok (.getfield 7, 3) := by decide +kernel
theorem dX7_digest_61 : decode cX7_digest 61 = .ok (.iconst 0, 1) := by decide +kernel
theorem dX7_digest_62 : decode cX7_digest 62 = .ok (.iaload, 1) := by decide +kernel
theorem dX7_digest_63 : decode cX7_digest 63 = .ok (.if_icmp .ge 34, 3) := by decide +kernel
theorem dX7_digest_66 : decode cX7_digest 66 = .ok (.iconst 0, 1) := by decide +kernel
theorem dX7_digest_67 : decode cX7_digest 67 = .ok (.istore_n 2, 1) := by decide +kernel
theorem dX7_digest_68 : decode cX7_digest 68 = .ok (.iload_n 2, 1) := by decide +kernel
theorem dX7_digest_69 : decode cX7_digest 69 = .ok (.bipush 6, 2) := by decide +kernel
theorem dX7_digest_71 : decode cX7_digest 71 = .ok (.if_icmp .ge 20, 3) := by decide +kernel
theorem dX7_digest_74 : decode cX7_digest 74 = .ok (.aload_n 0, 1) := by decide +kernel
theorem dX7_digest_75 : decode cX7_digest 75 = .ok (.aload_n 0, 1) := by decide +kernel
theorem dX7_digest_76 : decode cX7_digest 76 = .ok (.iload_n 1, 1) := by decide +kernel
theorem dX7_digest_77 : decode cX7_digest 77 = .ok (.iload_n 2, 1) := by decide +kernel
theorem dX7_digest_78 : decode cX7_digest 78 = .ok (.invokevirtual 150, 3) := by decide +kernel
theorem dX7_digest_81 : decode cX7_digest 81 = .ok (.i2l, 1) := by decide +kernel
theorem dX7_digest_82 : decode cX7_digest 82 = .ok (.invokevirtual 231, 3) := by decide +kernel
theorem dX7_digest_85 : decode cX7_digest 85 = .ok (.iinc 2 1, 3) := by decide +kernel
theorem dX7_digest_88 : decode cX7_digest 88 = .ok (.goto (-20), 3) := by decide +kernel
theorem dX7_digest_91 : decode cX7_digest 91 = .ok (.iinc 1 1, 3) := by decide +kernel
theorem dX7_digest_94 : decode cX7_digest 94 = .ok (.goto (-38), 3) := by decide +kernel
theorem dX7_digest_97 : decode cX7_digest 97 = .ok (.iconst 0, 1) := by decide +kernel
theorem dX7_digest_98 : decode cX7_digest 98 = .ok (.istore_n 1, 1) := by decide +kernel
theorem dX7_digest_99 : decode cX7_digest 99 = .ok (.iload_n 1, 1) := by decide +kernel
theorem dX7_digest_100 : decode cX7_digest 100 = .ok (.aload_n 0, 1) := by decide +kernel
theorem dX7_digest_101 : decode cX7_digest 101 = .ok (.getfield 7, 3) := by decide +kernel
theorem dX7_digest_104 : decode cX7_digest 104 = .ok (.iconst 3, 1) := by decide +kernel
theorem dX7_digest_105 : decode cX7_digest 105 = .ok (.iaload, 1) := by decide +kernel
theorem dX7_digest_106 : decode cX7_digest 106 = .ok (.if_icmp .ge 46, 3) := by decide +kernel
theorem dX7_digest_109 : decode cX7_digest 109 = .ok (.aload_n 0, 1) := by decide +kernel
theorem dX7_digest_110 : decode cX7_digest 110 = .ok (.aload_n 0, 1) := by decide +kernel
theorem dX7_digest_111 : decode cX7_digest 111 = .ok (.getfield 7, 3) := by decide +kernel
theorem dX7_digest_114 : decode cX7_digest 114 = .ok (.iconst 4, 1) := by decide +kernel
theorem dX7_digest_115 : decode cX7_digest 115 = .ok (.iload_n 1, 1) := by decide +kernel
theorem dX7_digest_116 : decode cX7_digest 116 = .ok (.iadd, 1) := by decide +kernel
theorem dX7_digest_117 : decode cX7_digest 117 = .ok (.iaload, 1) := by decide +kernel
theorem dX7_digest_118 : decode cX7_digest 118 = .ok (.i2l, 1) := by decide +kernel
theorem dX7_digest_119 : decode cX7_digest 119 = .ok (.invokevirtual 231, 3) := by decide +kernel
theorem dX7_digest_122 : decode cX7_digest 122 = .ok (.iconst 1, 1) := by decide +kernel
theorem dX7_digest_123 : decode cX7_digest 123 = .ok (.istore_n 2, 1) := by decide +kernel
theorem dX7_digest_124 : decode cX7_digest 124 = .ok (.iload_n 2, 1) := by decide +kernel
theorem dX7_digest_125 : decode cX7_digest 125 = .ok (.iconst 5, 1) := by decide +kernel
theorem dX7_digest_126 : decode cX7_digest 126 = .ok (.if_icmp .ge 20, 3) := by decide +kernel
theorem dX7_digest_129 : decode cX7_digest 129 = .ok (.aload_n 0, 1) := by decide +kernel
theorem dX7_digest_130 : decode cX7_digest 130 = .ok (.aload_n 0, 1) := by decide +kernel
theorem dX7_digest_131 : decode cX7_digest 131 = .ok (.iload_n 1, 1) := by decide +kernel
theorem dX7_digest_132 : decode cX7_digest 132 = .ok (.iload_n 2, 1) := by decide +kernel
theorem dX7_digest_133 : decode cX7_digest 133 = .ok (.invokevirtual 165, 3) := by decide +kernel
theorem dX7_digest_136 : decode cX7_digest 136 = .ok (.i2l, 1) := by decide +kernel
theorem dX7_digest_137 : decode cX7_digest 137 = .ok (.invokevirtual 231, 3) := by decide +kernel
theorem dX7_digest_140 : decode cX7_digest 140 = .ok (.iinc 2 1, 3) := by decide +kernel
theorem dX7_digest_143 : decode cX7_digest 143 = .ok (.goto (-19), 3) := by decide +kernel
theorem dX7_digest_146 : decode cX7_digest 146 = .ok (.iinc 1 1, 3) := by decide +kernel
theorem dX7_digest_149 : decode cX7_digest 149 = .ok (.goto (-50), 3) := by decide +kernel
theorem dX7_digest_152 : decode cX7_digest 152 = .ok (.iconst 1, 1) := by decide +kernel
theorem dX7_digest_153 : decode cX7_digest 153 = .ok (.istore_n 1, 1) := by decide +kernel
theorem dX7_digest_154 : decode cX7_digest 154 = .ok (.iload_n 1, 1) := by decide +kernel
theorem dX7_digest_155 : decode cX7_digest 155 = .ok (.iconst 4, 1) := by decide +kernel
theorem dX7_digest_156 : decode cX7_digest 156 = .ok (.if_icmp .ge 19, 3) := by decide +kernel
theorem dX7_digest_159 : decode cX7_digest 159 = .ok (.aload_n 0, 1) := by decide +kernel
theorem dX7_digest_160 : decode cX7_digest 160 = .ok (.aload_n 0, 1) := by decide +kernel
theorem dX7_digest_161 : decode cX7_digest 161 = .ok (.iload_n 1, 1) := by decide +kernel
theorem dX7_digest_162 : decode cX7_digest 162 = .ok (.invokevirtual 162, 3) := by decide +kernel
theorem dX7_digest_165 : decode cX7_digest 165 = .ok (.i2l, 1) := by decide +kernel
theorem dX7_digest_166 : decode cX7_digest 166 = .ok (.invokevirtual 231, 3) := by decide +kernel
theorem dX7_digest_169 : decode cX7_digest 169 = .ok (.iinc 1 1, 3) := by decide +kernel
theorem dX7_digest_172 : decode cX7_digest 172 = .ok (.goto (-18), 3) := by decide +kernel
theorem dX7_digest_175 : decode cX7_digest 175 = .ok (.aload_n 0, 1) := by decide +kernel
theorem dX7_digest_176 : decode cX7_digest 176 = .ok (.getfield 225, 3) := by decide +kernel
theorem dX7_digest_179 : decode cX7_digest 179 = .ok (.lreturn, 1) := by decide +kernel
theorem dJ6_bitCount_0f7a4_0 : decode cJ6_bitCount_0f7a4 0 = .ok (.iload_n 0, 1) := by decide +kernel
theorem dJ6_bitCount_0f7a4_1 : decode cJ6_bitCount_0f7a4 1 = .ok (.iload_n 0, 1) := by decide +kernel
theorem dJ6_bitCount_0f7a4_2 : decode cJ6_bitCount_0f7a4 2 = .ok (.iconst 1, 1) := by decide +kernel
theorem dJ6_bitCount_0f7a4_3 : decode cJ6_bitCount_0f7a4 3 = .ok (.iushr, 1) := by decide +kernel
theorem dJ6_bitCount_0f7a4_4 : decode cJ6_bitCount_0f7a4 4 = .ok (.ldc_w 265, 3) := by decide +kernel
theorem dJ6_bitCount_0f7a4_7 : decode cJ6_bitCount_0f7a4 7 = .ok (.iand, 1) := by decide +kernel
theorem dJ6_bitCount_0f7a4_8 : decode cJ6_bitCount_0f7a4 8 = .ok (.isub, 1) := by decide +kernel
theorem dJ6_bitCount_0f7a4_9 : decode cJ6_bitCount_0f7a4 9 = .ok (.istore_n 0, 1) := by decide +kernel
theorem dJ6_bitCount_0f7a4_10 : decode cJ6_bitCount_0f7a4 10 = .ok (.iload_n 0, 1) := by decide +kernel
theorem dJ6_bitCount_0f7a4_11 : decode cJ6_bitCount_0f7a4 11 = .ok (.ldc_w 266, 3) := by decide +kernel
theorem dJ6_bitCount_0f7a4_14 : decode cJ6_bitCount_0f7a4 14 = .ok (.iand, 1) := by decide +kernel
theorem dJ6_bitCount_0f7a4_15 : decode cJ6_bitCount_0f7a4 15 = .ok (.iload_n 0, 1) := by decide +kernel
theorem dJ6_bitCount_0f7a4_16 : decode cJ6_bitCount_0f7a4 16 = .ok (.iconst 2, 1) := by decide +kernel
theorem dJ6_bitCount_0f7a4_17 : decode cJ6_bitCount_0f7a4 17 = .ok (.iushr, 1) := by decide +kernel
theorem dJ6_bitCount_0f7a4_18 : decode cJ6_bitCount_0f7a4 18 = .ok (.ldc_w 266, 3) := by decide +kernel
theorem dJ6_bitCount_0f7a4_21 : decode cJ6_bitCount_0f7a4 21 = .ok (.iand, 1) := by decide +kernel
theorem dJ6_bitCount_0f7a4_22 : decode cJ6_bitCount_0f7a4 22 = .ok (.iadd, 1) := by decide +kernel
theorem dJ6_bitCount_0f7a4_23 : decode cJ6_bitCount_0f7a4 23 = .ok (.istore_n 0, 1) := by decide +kernel
theorem dJ6_bitCount_0f7a4_24 : decode cJ6_bitCount_0f7a4 24 = .ok (.iload_n 0, 1) := by decide +kernel
theorem dJ6_bitCount_0f7a4_25 : decode cJ6_bitCount_0f7a4 25 = .ok (.iload_n 0, 1) := by decide +kernel
theorem dJ6_bitCount_0f7a4_26 : decode cJ6_bitCount_0f7a4 26 = .ok (.iconst 4, 1) := by decide +kernel
theorem dJ6_bitCount_0f7a4_27 : decode cJ6_bitCount_0f7a4 27 = .ok (.iushr, 1) := by decide +kernel
theorem dJ6_bitCount_0f7a4_28 : decode cJ6_bitCount_0f7a4 28 = .ok (.iadd, 1) := by decide +kernel
theorem dJ6_bitCount_0f7a4_29 : decode cJ6_bitCount_0f7a4 29 = .ok (.ldc_w 267, 3) := by decide +kernel
theorem dJ6_bitCount_0f7a4_32 : decode cJ6_bitCount_0f7a4 32 = .ok (.iand, 1) := by decide +kernel
theorem dJ6_bitCount_0f7a4_33 : decode cJ6_bitCount_0f7a4 33 = .ok (.istore_n 0, 1) := by decide +kernel
theorem dJ6_bitCount_0f7a4_34 : decode cJ6_bitCount_0f7a4 34 = .ok (.iload_n 0, 1) := by decide +kernel
theorem dJ6_bitCount_0f7a4_35 : decode cJ6_bitCount_0f7a4 35 = .ok (.iload_n 0, 1) := by decide +kernel
theorem dJ6_bitCount_0f7a4_36 : decode cJ6_bitCount_0f7a4 36 = .ok (.bipush 8, 2) := by decide +kernel
theorem dJ6_bitCount_0f7a4_38 : decode cJ6_bitCount_0f7a4 38 = .ok (.iushr, 1) := by decide +kernel
theorem dJ6_bitCount_0f7a4_39 : decode cJ6_bitCount_0f7a4 39 = .ok (.iadd, 1) := by decide +kernel
theorem dJ6_bitCount_0f7a4_40 : decode cJ6_bitCount_0f7a4 40 = .ok (.istore_n 0, 1) := by decide +kernel
theorem dJ6_bitCount_0f7a4_41 : decode cJ6_bitCount_0f7a4 41 = .ok (.iload_n 0, 1) := by decide +kernel
theorem dJ6_bitCount_0f7a4_42 : decode cJ6_bitCount_0f7a4 42 = .ok (.iload_n 0, 1) := by decide +kernel
theorem dJ6_bitCount_0f7a4_43 : decode cJ6_bitCount_0f7a4 43 = .ok (.bipush 16, 2) := by decide +kernel
theorem dJ6_bitCount_0f7a4_45 : decode cJ6_bitCount_0f7a4 45 = .ok (.iushr, 1) := by decide +kernel
theorem dJ6_bitCount_0f7a4_46 : decode cJ6_bitCount_0f7a4 46 = .ok (.iadd, 1) := by decide +kernel
theorem dJ6_bitCount_0f7a4_47 : decode cJ6_bitCount_0f7a4 47 = .ok (.istore_n 0, 1) := by decide +kernel
theorem dJ6_bitCount_0f7a4_48 : decode cJ6_bitCount_0f7a4 48 = .ok (.iload_n 0, 1) := by decide +kernel
theorem dJ6_bitCount_0f7a4_49 : decode cJ6_bitCount_0f7a4 49 = .ok (.bipush 63, 2) := by decide +kernel
theorem dJ6_bitCount_0f7a4_51 : decode cJ6_bitCount_0f7a4 51 = .ok (.iand, 1) := by decide +kernel
theorem dJ6_bitCount_0f7a4_52 : decode cJ6_bitCount_0f7a4 52 = .ok (.ireturn, 1) := by decide +kernel
theorem dJ9_min_7cf53_0 : decode cJ9_min_7cf53 0 = .ok (.iload_n 0, 1) := by decide +kernel
theorem dJ9_min_7cf53_1 : decode cJ9_min_7cf53 1 = .ok (.iload_n 1, 1) := by decide +kernel
theorem dJ9_min_7cf53_2 : decode cJ9_min_7cf53 2 = .ok (.if_icmp .gt 7, 3) := by decide +kernel
theorem dJ9_min_7cf53_5 : decode cJ9_min_7cf53 5 = .ok (.iload_n 0, 1) := by decide +kernel
theorem dJ9_min_7cf53_6 : decode cJ9_min_7cf53 6 = .ok (.goto 4, 3) := by decide +kernel
theorem dJ9_min_7cf53_9 : decode cJ9_min_7cf53 9 = .ok (.iload_n 1, 1) := by decide +kernel
theorem dJ9_min_7cf53_10 : decode cJ9_min_7cf53 10 = .ok (.ireturn, 1) := by decide +kernel
theorem dL_law_0 : decode cL_law 0 = .ok (.new 7, 3) := by decide +kernel
theorem dL_law_3 : decode cL_law 3 = .ok (.dup, 1) := by decide +kernel
theorem dL_law_4 : decode cL_law 4 = .ok (.invokespecial 9, 3) := by decide +kernel
theorem dL_law_7 : decode cL_law 7 = .ok (.astore_n 1, 1) := by decide +kernel
theorem dL_law_8 : decode cL_law 8 = .ok (.new 10, 3) := by decide +kernel
theorem dL_law_11 : decode cL_law 11 = .ok (.dup, 1) := by decide +kernel
theorem dL_law_12 : decode cL_law 12 = .ok (.invokespecial 12, 3) := by decide +kernel
theorem dL_law_15 : decode cL_law 15 = .ok (.astore_n 2, 1) := by decide +kernel
end
section
theorem dL_law_16 : decode cL_law 16 = .ok (.iconst 0, 1) := by decide +kernel
theorem dL_law_17 : decode cL_law 17 = .ok (.istore_n 3, 1) := by decide +kernel
theorem dL_law_18 : decode cL_law 18 = .ok (.iload_n 3, 1) := by decide +kernel
theorem dL_law_19 : decode cL_law 19 = .ok (.aload_n 0, 1) := by decide +kernel
theorem dL_law_20 : decode cL_law 20 = .ok (.arraylength, 1) := by decide +kernel
theorem dL_law_21 : decode cL_law 21 = .ok (.bipush 6, 2) := by decide +kernel
theorem dL_law_23 : decode cL_law 23 = .ok (.isub, 1) := by decide +kernel
theorem dL_law_24 : decode cL_law 24 = .ok (.if_icmp .gt 729, 3) := by decide +kernel
theorem dL_law_27 : decode cL_law 27 = .ok (.aload_n 0, 1) := by decide +kernel
theorem dL_law_28 : decode cL_law 28 = .ok (.iload_n 3, 1) := by decide +kernel
theorem dL_law_29 : decode cL_law 29 = .ok (.iaload, 1) := by decide +kernel
theorem dL_law_30 : decode cL_law 30 = .ok (.bipush 31, 2) := by decide +kernel
theorem dL_law_32 : decode cL_law 32 = .ok (.iand, 1) := by decide +kernel
theorem dL_law_33 : decode cL_law 33 = .ok (.tableswitch 714 0 23 #[111, 174, 187, 210, 223, 246, 269, 292, 315, 348, 381, 414, 437, 470, 493, 526, 559, 592, 615, 638, 651, 664, 677, 700], 111) := by decide +kernel
theorem dL_law_144 : decode cL_law 144 = .ok (.aload_n 1, 1) := by decide +kernel
theorem dL_law_145 : decode cL_law 145 = .ok (.aload_n 0, 1) := by decide +kernel
theorem dL_law_146 : decode cL_law 146 = .ok (.iload_n 3, 1) := by decide +kernel
theorem dL_law_147 : decode cL_law 147 = .ok (.iconst 1, 1) := by decide +kernel
theorem dL_law_148 : decode cL_law 148 = .ok (.iadd, 1) := by decide +kernel
theorem dL_law_149 : decode cL_law 149 = .ok (.iaload, 1) := by decide +kernel
theorem dL_law_150 : decode cL_law 150 = .ok (.aload_n 0, 1) := by decide +kernel
theorem dL_law_151 : decode cL_law 151 = .ok (.iload_n 3, 1) := by decide +kernel
theorem dL_law_152 : decode cL_law 152 = .ok (.iconst 2, 1) := by decide +kernel
theorem dL_law_153 : decode cL_law 153 = .ok (.iadd, 1) := by decide +kernel
theorem dL_law_154 : decode cL_law 154 = .ok (.iaload, 1) := by decide +kernel
theorem dL_law_155 : decode cL_law 155 = .ok (.aload_n 0, 1) := by decide +kernel
theorem dL_law_156 : decode cL_law 156 = .ok (.iload_n 3, 1) := by decide +kernel
theorem dL_law_157 : decode cL_law 157 = .ok (.iconst 3, 1) := by decide +kernel
theorem dL_law_158 : decode cL_law 158 = .ok (.iadd, 1) := by decide +kernel
theorem dL_law_159 : decode cL_law 159 = .ok (.iaload, 1) := by decide +kernel
theorem dL_law_160 : decode cL_law 160 = .ok (.aload_n 0, 1) := by decide +kernel
theorem dL_law_161 : decode cL_law 161 = .ok (.iload_n 3, 1) := by decide +kernel
theorem dL_law_162 : decode cL_law 162 = .ok (.iconst 4, 1) := by decide +kernel
theorem dL_law_163 : decode cL_law 163 = .ok (.iadd, 1) := by decide +kernel
theorem dL_law_164 : decode cL_law 164 = .ok (.iaload, 1) := by decide +kernel
theorem dL_law_165 : decode cL_law 165 = .ok (.aload_n 0, 1) := by decide +kernel
theorem dL_law_166 : decode cL_law 166 = .ok (.iload_n 3, 1) := by decide +kernel
theorem dL_law_167 : decode cL_law 167 = .ok (.iconst 5, 1) := by decide +kernel
theorem dL_law_168 : decode cL_law 168 = .ok (.iadd, 1) := by decide +kernel
theorem dL_law_169 : decode cL_law 169 = .ok (.iaload, 1) := by decide +kernel
theorem dL_law_170 : decode cL_law 170 = .ok (.invokevirtual 13, 3) := by decide +kernel
theorem dL_law_173 : decode cL_law 173 = .ok (.aload_n 2, 1) := by decide +kernel
theorem dL_law_174 : decode cL_law 174 = .ok (.aload_n 0, 1) := by decide +kernel
theorem dL_law_175 : decode cL_law 175 = .ok (.iload_n 3, 1) := by decide +kernel
theorem dL_law_176 : decode cL_law 176 = .ok (.iconst 1, 1) := by decide +kernel
theorem dL_law_177 : decode cL_law 177 = .ok (.iadd, 1) := by decide +kernel
theorem dL_law_178 : decode cL_law 178 = .ok (.iaload, 1) := by decide +kernel
theorem dL_law_179 : decode cL_law 179 = .ok (.aload_n 0, 1) := by decide +kernel
theorem dL_law_180 : decode cL_law 180 = .ok (.iload_n 3, 1) := by decide +kernel
theorem dL_law_181 : decode cL_law 181 = .ok (.iconst 2, 1) := by decide +kernel
theorem dL_law_182 : decode cL_law 182 = .ok (.iadd, 1) := by decide +kernel
theorem dL_law_183 : decode cL_law 183 = .ok (.iaload, 1) := by decide +kernel
theorem dL_law_184 : decode cL_law 184 = .ok (.aload_n 0, 1) := by decide +kernel
theorem dL_law_185 : decode cL_law 185 = .ok (.iload_n 3, 1) := by decide +kernel
theorem dL_law_186 : decode cL_law 186 = .ok (.iconst 3, 1) := by decide +kernel
theorem dL_law_187 : decode cL_law 187 = .ok (.iadd, 1) := by decide +kernel
theorem dL_law_188 : decode cL_law 188 = .ok (.iaload, 1) := by decide +kernel
theorem dL_law_189 : decode cL_law 189 = .ok (.aload_n 0, 1) := by decide +kernel
theorem dL_law_190 : decode cL_law 190 = .ok (.iload_n 3, 1) := by decide +kernel
theorem dL_law_191 : decode cL_law 191 = .ok (.iconst 4, 1) := by decide +kernel
theorem dL_law_192 : decode cL_law 192 = .ok (.iadd, 1) := by decide +kernel
theorem dL_law_193 : decode cL_law 193 = .ok (.iaload, 1) := by decide +kernel
theorem dL_law_194 : decode cL_law 194 = .ok (.aload_n 0, 1) := by decide +kernel
theorem dL_law_195 : decode cL_law 195 = .ok (.iload_n 3, 1) := by decide +kernel
theorem dL_law_196 : decode cL_law 196 = .ok (.iconst 5, 1) := by decide +kernel
theorem dL_law_197 : decode cL_law 197 = .ok (.iadd, 1) := by decide +kernel
theorem dL_law_198 : decode cL_law 198 = .ok (.iaload, 1) := by decide +kernel
theorem dL_law_199 : decode cL_law 199 = .ok (.invokevirtual 17, 3) := by decide +kernel
theorem dL_law_202 : decode cL_law 202 = .ok (.if_icmp .eq 545, 3) := by decide +kernel
theorem dL_law_205 : decode cL_law 205 = .ok (.iconst 0, 1) := by decide +kernel
theorem dL_law_206 : decode cL_law 206 = .ok (.ireturn, 1) := by decide +kernel
theorem dL_law_207 : decode cL_law 207 = .ok (.aload_n 1, 1) := by decide +kernel
theorem dL_law_208 : decode cL_law 208 = .ok (.invokevirtual 18, 3) := by decide +kernel
theorem dL_law_211 : decode cL_law 211 = .ok (.aload_n 2, 1) := by decide +kernel
theorem dL_law_212 : decode cL_law 212 = .ok (.invokevirtual 22, 3) := by decide +kernel
theorem dL_law_215 : decode cL_law 215 = .ok (.if_icmp .eq 532, 3) := by decide +kernel
theorem dL_law_218 : decode cL_law 218 = .ok (.iconst 0, 1) := by decide +kernel
theorem dL_law_219 : decode cL_law 219 = .ok (.ireturn, 1) := by decide +kernel
theorem dL_law_220 : decode cL_law 220 = .ok (.aload_n 1, 1) := by decide +kernel
theorem dL_law_221 : decode cL_law 221 = .ok (.aload_n 0, 1) := by decide +kernel
theorem dL_law_222 : decode cL_law 222 = .ok (.iload_n 3, 1) := by decide +kernel
theorem dL_law_223 : decode cL_law 223 = .ok (.iconst 1, 1) := by decide +kernel
theorem dL_law_224 : decode cL_law 224 = .ok (.iadd, 1) := by decide +kernel
theorem dL_law_225 : decode cL_law 225 = .ok (.iaload, 1) := by decide +kernel
theorem dL_law_226 : decode cL_law 226 = .ok (.invokevirtual 23, 3) := by decide +kernel
theorem dL_law_229 : decode cL_law 229 = .ok (.aload_n 2, 1) := by decide +kernel
theorem dL_law_230 : decode cL_law 230 = .ok (.aload_n 0, 1) := by decide +kernel
theorem dL_law_231 : decode cL_law 231 = .ok (.iload_n 3, 1) := by decide +kernel
theorem dL_law_232 : decode cL_law 232 = .ok (.iconst 1, 1) := by decide +kernel
theorem dL_law_233 : decode cL_law 233 = .ok (.iadd, 1) := by decide +kernel
theorem dL_law_234 : decode cL_law 234 = .ok (.iaload, 1) := by decide +kernel
theorem dL_law_235 : decode cL_law 235 = .ok (.invokevirtual 27, 3) := by decide +kernel
theorem dL_law_238 : decode cL_law 238 = .ok (.if_icmp .eq 509, 3) := by decide +kernel
theorem dL_law_241 : decode cL_law 241 = .ok (.iconst 0, 1) := by decide +kernel
theorem dL_law_242 : decode cL_law 242 = .ok (.ireturn, 1) := by decide +kernel
theorem dL_law_243 : decode cL_law 243 = .ok (.aload_n 1, 1) := by decide +kernel
theorem dL_law_244 : decode cL_law 244 = .ok (.invokevirtual 28, 3) := by decide +kernel
theorem dL_law_247 : decode cL_law 247 = .ok (.aload_n 2, 1) := by decide +kernel
theorem dL_law_248 : decode cL_law 248 = .ok (.invokevirtual 31, 3) := by decide +kernel
theorem dL_law_251 : decode cL_law 251 = .ok (.if_icmp .eq 496, 3) := by decide +kernel
theorem dL_law_254 : decode cL_law 254 = .ok (.iconst 0, 1) := by decide +kernel
theorem dL_law_255 : decode cL_law 255 = .ok (.ireturn, 1) := by decide +kernel
theorem dL_law_256 : decode cL_law 256 = .ok (.aload_n 1, 1) := by decide +kernel
theorem dL_law_257 : decode cL_law 257 = .ok (.aload_n 0, 1) := by decide +kernel
theorem dL_law_258 : decode cL_law 258 = .ok (.iload_n 3, 1) := by decide +kernel
theorem dL_law_259 : decode cL_law 259 = .ok (.iconst 1, 1) := by decide +kernel
theorem dL_law_260 : decode cL_law 260 = .ok (.iadd, 1) := by decide +kernel
theorem dL_law_261 : decode cL_law 261 = .ok (.iaload, 1) := by decide +kernel
theorem dL_law_262 : decode cL_law 262 = .ok (.invokevirtual 32, 3) := by decide +kernel
theorem dL_law_265 : decode cL_law 265 = .ok (.aload_n 2, 1) := by decide +kernel
theorem dL_law_266 : decode cL_law 266 = .ok (.aload_n 0, 1) := by decide +kernel
theorem dL_law_267 : decode cL_law 267 = .ok (.iload_n 3, 1) := by decide +kernel
theorem dL_law_268 : decode cL_law 268 = .ok (.iconst 1, 1) := by decide +kernel
theorem dL_law_269 : decode cL_law 269 = .ok (.iadd, 1) := by decide +kernel
theorem dL_law_270 : decode cL_law 270 = .ok (.iaload, 1) := by decide +kernel
theorem dL_law_271 : decode cL_law 271 = .ok (.invokevirtual 35, 3) := by decide +kernel
theorem dL_law_274 : decode cL_law 274 = .ok (.if_icmp .eq 473, 3) := by decide +kernel
theorem dL_law_277 : decode cL_law 277 = .ok (.iconst 0, 1) := by decide +kernel
theorem dL_law_278 : decode cL_law 278 = .ok (.ireturn, 1) := by decide +kernel
theorem dL_law_279 : decode cL_law 279 = .ok (.aload_n 1, 1) := by decide +kernel
theorem dL_law_280 : decode cL_law 280 = .ok (.aload_n 0, 1) := by decide +kernel
theorem dL_law_281 : decode cL_law 281 = .ok (.iload_n 3, 1) := by decide +kernel
theorem dL_law_282 : decode cL_law 282 = .ok (.iconst 1, 1) := by decide +kernel
theorem dL_law_283 : decode cL_law 283 = .ok (.iadd, 1) := by decide +kernel
theorem dL_law_284 : decode cL_law 284 = .ok (.iaload, 1) := by decide +kernel
theorem dL_law_285 : decode cL_law 285 = .ok (.invokevirtual 36, 3) := by decide +kernel
theorem dL_law_288 : decode cL_law 288 = .ok (.aload_n 2, 1) := by decide +kernel
theorem dL_law_289 : decode cL_law 289 = .ok (.aload_n 0, 1) := by decide +kernel
theorem dL_law_290 : decode cL_law 290 = .ok (.iload_n 3, 1) := by decide +kernel
theorem dL_law_291 : decode cL_law 291 = .ok (.iconst 1, 1) := by decide +kernel
theorem dL_law_292 : decode cL_law 292 = .ok (.iadd, 1) := by decide +kernel
theorem dL_law_293 : decode cL_law 293 = .ok (.iaload, 1) := by decide +kernel
theorem dL_law_294 : decode cL_law 294 = .ok (.invokevirtual 39, 3) := by decide +kernel
theorem dL_law_297 : decode cL_law 297 = .ok (.if_icmp .eq 450, 3) := by decide +kernel
theorem dL_law_300 : decode cL_law 300 = .ok (.iconst 0, 1) := by decide +kernel
theorem dL_law_301 : decode cL_law 301 = .ok (.ireturn, 1) := by decide +kernel
theorem dL_law_302 : decode cL_law 302 = .ok (.aload_n 1, 1) := by decide +kernel
theorem dL_law_303 : decode cL_law 303 = .ok (.aload_n 0, 1) := by decide +kernel
theorem dL_law_304 : decode cL_law 304 = .ok (.iload_n 3, 1) := by decide +kernel
theorem dL_law_305 : decode cL_law 305 = .ok (.iconst 1, 1) := by decide +kernel
theorem dL_law_306 : decode cL_law 306 = .ok (.iadd, 1) := by decide +kernel
theorem dL_law_307 : decode cL_law 307 = .ok (.iaload, 1) := by decide +kernel
theorem dL_law_308 : decode cL_law 308 = .ok (.invokevirtual 40, 3) := by decide +kernel
theorem dL_law_311 : decode cL_law 311 = .ok (.aload_n 2, 1) := by decide +kernel
theorem dL_law_312 : decode cL_law 312 = .ok (.aload_n 0, 1) := by decide +kernel
theorem dL_law_313 : decode cL_law 313 = .ok (.iload_n 3, 1) := by decide +kernel
theorem dL_law_314 : decode cL_law 314 = .ok (.iconst 1, 1) := by decide +kernel
theorem dL_law_315 : decode cL_law 315 = .ok (.iadd, 1) := by decide +kernel
theorem dL_law_316 : decode cL_law 316 = .ok (.iaload, 1) := by decide +kernel
theorem dL_law_317 : decode cL_law 317 = .ok (.invokevirtual 43, 3) := by decide +kernel
theorem dL_law_320 : decode cL_law 320 = .ok (.if_icmp .eq 427, 3) := by decide +kernel
theorem dL_law_323 : decode cL_law 323 = .ok (.iconst 0, 1) := by decide +kernel
theorem dL_law_324 : decode cL_law 324 = .ok (.ireturn, 1) := by decide +kernel
theorem dL_law_325 : decode cL_law 325 = .ok (.aload_n 1, 1) := by decide +kernel
theorem dL_law_326 : decode cL_law 326 = .ok (.aload_n 0, 1) := by decide +kernel
theorem dL_law_327 : decode cL_law 327 = .ok (.iload_n 3, 1) := by decide +kernel
theorem dL_law_328 : decode cL_law 328 = .ok (.iconst 1, 1) := by decide +kernel
theorem dL_law_329 : decode cL_law 329 = .ok (.iadd, 1) := by decide +kernel
theorem dL_law_330 : decode cL_law 330 = .ok (.iaload, 1) := by decide +kernel
theorem dL_law_331 : decode cL_law 331 = .ok (.invokevirtual 44, 3) := by decide +kernel
theorem dL_law_334 : decode cL_law 334 = .ok (.aload_n 2, 1) := by decide +kernel
theorem dL_law_335 : decode cL_law 335 = .ok (.aload_n 0, 1) := by decide +kernel
theorem dL_law_336 : decode cL_law 336 = .ok (.iload_n 3, 1) := by decide +kernel
theorem dL_law_337 : decode cL_law 337 = .ok (.iconst 1, 1) := by decide +kernel
theorem dL_law_338 : decode cL_law 338 = .ok (.iadd, 1) := by decide +kernel
theorem dL_law_339 : decode cL_law 339 = .ok (.iaload, 1) := by decide +kernel
theorem dL_law_340 : decode cL_law 340 = .ok (.invokevirtual 47, 3) := by decide +kernel
theorem dL_law_343 : decode cL_law 343 = .ok (.if_icmp .eq 404, 3) := by decide +kernel
theorem dL_law_346 : decode cL_law 346 = .ok (.iconst 0, 1) := by decide +kernel
theorem dL_law_347 : decode cL_law 347 = .ok (.ireturn, 1) := by decide +kernel
theorem dL_law_348 : decode cL_law 348 = .ok (.aload_n 1, 1) := by decide +kernel
theorem dL_law_349 : decode cL_law 349 = .ok (.aload_n 0, 1) := by decide +kernel
theorem dL_law_350 : decode cL_law 350 = .ok (.iload_n 3, 1) := by decide +kernel
theorem dL_law_351 : decode cL_law 351 = .ok (.iconst 1, 1) := by decide +kernel
theorem dL_law_352 : decode cL_law 352 = .ok (.iadd, 1) := by decide +kernel
theorem dL_law_353 : decode cL_law 353 = .ok (.iaload, 1) := by decide +kernel
theorem dL_law_354 : decode cL_law 354 = .ok (.aload_n 0, 1) := by decide +kernel
theorem dL_law_355 : decode cL_law 355 = .ok (.iload_n 3, 1) := by decide +kernel
theorem dL_law_356 : decode cL_law 356 = .ok (.iconst 2, 1) := by decide +kernel
theorem dL_law_357 : decode cL_law 357 = .ok (.iadd, 1) := by decide +kernel
theorem dL_law_358 : decode cL_law 358 = .ok (.iaload, 1) := by decide +kernel
theorem dL_law_359 : decode cL_law 359 = .ok (.invokevirtual 48, 3) := by decide +kernel
theorem dL_law_362 : decode cL_law 362 = .ok (.aload_n 2, 1) := by decide +kernel
theorem dL_law_363 : decode cL_law 363 = .ok (.aload_n 0, 1) := by decide +kernel
theorem dL_law_364 : decode cL_law 364 = .ok (.iload_n 3, 1) := by decide +kernel
theorem dL_law_365 : decode cL_law 365 = .ok (.iconst 1, 1) := by decide +kernel
theorem dL_law_366 : decode cL_law 366 = .ok (.iadd, 1) := by decide +kernel
theorem dL_law_367 : decode cL_law 367 = .ok (.iaload, 1) := by decide +kernel
theorem dL_law_368 : decode cL_law 368 = .ok (.aload_n 0, 1) := by decide +kernel
theorem dL_law_369 : decode cL_law 369 = .ok (.iload_n 3, 1) := by decide +kernel
theorem dL_law_370 : decode cL_law 370 = .ok (.iconst 2, 1) := by decide +kernel
theorem dL_law_371 : decode cL_law 371 = .ok (.iadd, 1) := by decide +kernel
theorem dL_law_372 : decode cL_law 372 = .ok (.iaload, 1) := by decide +kernel
theorem dL_law_373 : decode cL_law 373 = .ok (.invokevirtual 52, 3) := by decide +kernel
theorem dL_law_376 : decode cL_law 376 = .ok (.if_icmp .eq 371, 3) := by decide +kernel
theorem dL_law_379 : decode cL_law 379 = .ok (.iconst 0, 1) := by decide +kernel
theorem dL_law_380 : decode cL_law 380 = .ok (.ireturn, 1) := by decide +kernel
theorem dL_law_381 : decode cL_law 381 = .ok (.aload_n 1, 1) := by decide +kernel
theorem dL_law_382 : decode cL_law 382 = .ok (.aload_n 0, 1) := by decide +kernel
theorem dL_law_383 : decode cL_law 383 = .ok (.iload_n 3, 1) := by decide +kernel
theorem dL_law_384 : decode cL_law 384 = .ok (.iconst 1, 1) := by decide +kernel
theorem dL_law_385 : decode cL_law 385 = .ok (.iadd, 1) := by decide +kernel
theorem dL_law_386 : decode cL_law 386 = .ok (.iaload, 1) := by decide +kernel
theorem dL_law_387 : decode cL_law 387 = .ok (.aload_n 0, 1) := by decide +kernel
theorem dL_law_388 : decode cL_law 388 = .ok (.iload_n 3, 1) := by decide +kernel
theorem dL_law_389 : decode cL_law 389 = .ok (.iconst 2, 1) := by decide +kernel
theorem dL_law_390 : decode cL_law 390 = .ok (.iadd, 1) := by decide +kernel
theorem dL_law_391 : decode cL_law 391 = .ok (.iaload, 1) := by decide +kernel
theorem dL_law_392 : decode cL_law 392 = .ok (.invokevirtual 53, 3) := by decide +kernel
theorem dL_law_395 : decode cL_law 395 = .ok (.aload_n 2, 1) := by decide +kernel
theorem dL_law_396 : decode cL_law 396 = .ok (.aload_n 0, 1) := by decide +kernel
theorem dL_law_397 : decode cL_law 397 = .ok (.iload_n 3, 1) := by decide +kernel
theorem dL_law_398 : decode cL_law 398 = .ok (.iconst 1, 1) := by decide +kernel
theorem dL_law_399 : decode cL_law 399 = .ok (.iadd, 1) := by decide +kernel
theorem dL_law_400 : decode cL_law 400 = .ok (.iaload, 1) := by decide +kernel
theorem dL_law_401 : decode cL_law 401 = .ok (.aload_n 0, 1) := by decide +kernel
theorem dL_law_402 : decode cL_law 402 = .ok (.iload_n 3, 1) := by decide +kernel
theorem dL_law_403 : decode cL_law 403 = .ok (.iconst 2, 1) := by decide +kernel
theorem dL_law_404 : decode cL_law 404 = .ok (.iadd, 1) := by decide +kernel
theorem dL_law_405 : decode cL_law 405 = .ok (.iaload, 1) := by decide +kernel
theorem dL_law_406 : decode cL_law 406 = .ok (.invokevirtual 56, 3) := by decide +kernel
theorem dL_law_409 : decode cL_law 409 = .ok (.if_icmp .eq 338, 3) := by decide +kernel
theorem dL_law_412 : decode cL_law 412 = .ok (.iconst 0, 1) := by decide +kernel
theorem dL_law_413 : decode cL_law 413 = .ok (.ireturn, 1) := by decide +kernel
theorem dL_law_414 : decode cL_law 414 = .ok (.aload_n 1, 1) := by decide +kernel
theorem dL_law_415 : decode cL_law 415 = .ok (.aload_n 0, 1) := by decide +kernel
theorem dL_law_416 : decode cL_law 416 = .ok (.iload_n 3, 1) := by decide +kernel
theorem dL_law_417 : decode cL_law 417 = .ok (.iconst 1, 1) := by decide +kernel
theorem dL_law_418 : decode cL_law 418 = .ok (.iadd, 1) := by decide +kernel
theorem dL_law_419 : decode cL_law 419 = .ok (.iaload, 1) := by decide +kernel
theorem dL_law_420 : decode cL_law 420 = .ok (.aload_n 0, 1) := by decide +kernel
theorem dL_law_421 : decode cL_law 421 = .ok (.iload_n 3, 1) := by decide +kernel
theorem dL_law_422 : decode cL_law 422 = .ok (.iconst 2, 1) := by decide +kernel
theorem dL_law_423 : decode cL_law 423 = .ok (.iadd, 1) := by decide +kernel
theorem dL_law_424 : decode cL_law 424 = .ok (.iaload, 1) := by decide +kernel
theorem dL_law_425 : decode cL_law 425 = .ok (.invokevirtual 57, 3) := by decide +kernel
theorem dL_law_428 : decode cL_law 428 = .ok (.aload_n 2, 1) := by decide +kernel
theorem dL_law_429 : decode cL_law 429 = .ok (.aload_n 0, 1) := by decide +kernel
theorem dL_law_430 : decode cL_law 430 = .ok (.iload_n 3, 1) := by decide +kernel
theorem dL_law_431 : decode cL_law 431 = .ok (.iconst 1, 1) := by decide +kernel
theorem dL_law_432 : decode cL_law 432 = .ok (.iadd, 1) := by decide +kernel
theorem dL_law_433 : decode cL_law 433 = .ok (.iaload, 1) := by decide +kernel
theorem dL_law_434 : decode cL_law 434 = .ok (.aload_n 0, 1) := by decide +kernel
theorem dL_law_435 : decode cL_law 435 = .ok (.iload_n 3, 1) := by decide +kernel
theorem dL_law_436 : decode cL_law 436 = .ok (.iconst 2, 1) := by decide +kernel
theorem dL_law_437 : decode cL_law 437 = .ok (.iadd, 1) := by decide +kernel
theorem dL_law_438 : decode cL_law 438 = .ok (.iaload, 1) := by decide +kernel
theorem dL_law_439 : decode cL_law 439 = .ok (.invokevirtual 60, 3) := by decide +kernel
theorem dL_law_442 : decode cL_law 442 = .ok (.if_icmp .eq 305, 3) := by decide +kernel
theorem dL_law_445 : decode cL_law 445 = .ok (.iconst 0, 1) := by decide +kernel
theorem dL_law_446 : decode cL_law 446 = .ok (.ireturn, 1) := by decide +kernel
theorem dL_law_447 : decode cL_law 447 = .ok (.aload_n 1, 1) := by decide +kernel
theorem dL_law_448 : decode cL_law 448 = .ok (.aload_n 0, 1) := by decide +kernel
theorem dL_law_449 : decode cL_law 449 = .ok (.iload_n 3, 1) := by decide +kernel
theorem dL_law_450 : decode cL_law 450 = .ok (.iconst 1, 1) := by decide +kernel
theorem dL_law_451 : decode cL_law 451 = .ok (.iadd, 1) := by decide +kernel
theorem dL_law_452 : decode cL_law 452 = .ok (.iaload, 1) := by decide +kernel
theorem dL_law_453 : decode cL_law 453 = .ok (.invokevirtual 61, 3) := by decide +kernel
theorem dL_law_456 : decode cL_law 456 = .ok (.aload_n 2, 1) := by decide +kernel
theorem dL_law_457 : decode cL_law 457 = .ok (.aload_n 0, 1) := by decide +kernel
theorem dL_law_458 : decode cL_law 458 = .ok (.iload_n 3, 1) := by decide +kernel
theorem dL_law_459 : decode cL_law 459 = .ok (.iconst 1, 1) := by decide +kernel
theorem dL_law_460 : decode cL_law 460 = .ok (.iadd, 1) := by decide +kernel
theorem dL_law_461 : decode cL_law 461 = .ok (.iaload, 1) := by decide +kernel
theorem dL_law_462 : decode cL_law 462 = .ok (.invokevirtual 64, 3) := by decide +kernel
theorem dL_law_465 : decode cL_law 465 = .ok (.if_icmp .eq 282, 3) := by decide +kernel
theorem dL_law_468 : decode cL_law 468 = .ok (.iconst 0, 1) := by decide +kernel
theorem dL_law_469 : decode cL_law 469 = .ok (.ireturn, 1) := by decide +kernel
theorem dL_law_470 : decode cL_law 470 = .ok (.aload_n 1, 1) := by decide +kernel
theorem dL_law_471 : decode cL_law 471 = .ok (.aload_n 0, 1) := by decide +kernel
theorem dL_law_472 : decode cL_law 472 = .ok (.iload_n 3, 1) := by decide +kernel
theorem dL_law_473 : decode cL_law 473 = .ok (.iconst 1, 1) := by decide +kernel
theorem dL_law_474 : decode cL_law 474 = .ok (.iadd, 1) := by decide +kernel
theorem dL_law_475 : decode cL_law 475 = .ok (.iaload, 1) := by decide +kernel
theorem dL_law_476 : decode cL_law 476 = .ok (.aload_n 0, 1) := by decide +kernel
theorem dL_law_477 : decode cL_law 477 = .ok (.iload_n 3, 1) := by decide +kernel
theorem dL_law_478 : decode cL_law 478 = .ok (.iconst 2, 1) := by decide +kernel
theorem dL_law_479 : decode cL_law 479 = .ok (.iadd, 1) := by decide +kernel
theorem dL_law_480 : decode cL_law 480 = .ok (.iaload, 1) := by decide +kernel
theorem dL_law_481 : decode cL_law 481 = .ok (.invokevirtual 65, 3) := by decide +kernel
theorem dL_law_484 : decode cL_law 484 = .ok (.aload_n 2, 1) := by decide +kernel
theorem dL_law_485 : decode cL_law 485 = .ok (.aload_n 0, 1) := by decide +kernel
theorem dL_law_486 : decode cL_law 486 = .ok (.iload_n 3, 1) := by decide +kernel
theorem dL_law_487 : decode cL_law 487 = .ok (.iconst 1, 1) := by decide +kernel
theorem dL_law_488 : decode cL_law 488 = .ok (.iadd, 1) := by decide +kernel
theorem dL_law_489 : decode cL_law 489 = .ok (.iaload, 1) := by decide +kernel
theorem dL_law_490 : decode cL_law 490 = .ok (.aload_n 0, 1) := by decide +kernel
theorem dL_law_491 : decode cL_law 491 = .ok (.iload_n 3, 1) := by decide +kernel
theorem dL_law_492 : decode cL_law 492 = .ok (.iconst 2, 1) := by decide +kernel
theorem dL_law_493 : decode cL_law 493 = .ok (.iadd, 1) := by decide +kernel
theorem dL_law_494 : decode cL_law 494 = .ok (.iaload, 1) := by decide +kernel
theorem dL_law_495 : decode cL_law 495 = .ok (.invokevirtual 68, 3) := by decide +kernel
theorem dL_law_498 : decode cL_law 498 = .ok (.if_icmp .eq 249, 3) := by decide +kernel
theorem dL_law_501 : decode cL_law 501 = .ok (.iconst 0, 1) := by decide +kernel
theorem dL_law_502 : decode cL_law 502 = .ok (.ireturn, 1) := by decide +kernel
theorem dL_law_503 : decode cL_law 503 = .ok (.aload_n 1, 1) := by decide +kernel
theorem dL_law_504 : decode cL_law 504 = .ok (.aload_n 0, 1) := by decide +kernel
theorem dL_law_505 : decode cL_law 505 = .ok (.iload_n 3, 1) := by decide +kernel
theorem dL_law_506 : decode cL_law 506 = .ok (.iconst 1, 1) := by decide +kernel
theorem dL_law_507 : decode cL_law 507 = .ok (.iadd, 1) := by decide +kernel
theorem dL_law_508 : decode cL_law 508 = .ok (.iaload, 1) := by decide +kernel
theorem dL_law_509 : decode cL_law 509 = .ok (.invokevirtual 69, 3) := by decide +kernel
theorem dL_law_512 : decode cL_law 512 = .ok (.aload_n 2, 1) := by decide +kernel
theorem dL_law_513 : decode cL_law 513 = .ok (.aload_n 0, 1) := by decide +kernel
theorem dL_law_514 : decode cL_law 514 = .ok (.iload_n 3, 1) := by decide +kernel
theorem dL_law_515 : decode cL_law 515 = .ok (.iconst 1, 1) := by decide +kernel
theorem dL_law_516 : decode cL_law 516 = .ok (.iadd, 1) := by decide +kernel
theorem dL_law_517 : decode cL_law 517 = .ok (.iaload, 1) := by decide +kernel
theorem dL_law_518 : decode cL_law 518 = .ok (.invokevirtual 72, 3) := by decide +kernel
theorem dL_law_521 : decode cL_law 521 = .ok (.if_icmp .eq 226, 3) := by decide +kernel
theorem dL_law_524 : decode cL_law 524 = .ok (.iconst 0, 1) := by decide +kernel
theorem dL_law_525 : decode cL_law 525 = .ok (.ireturn, 1) := by decide +kernel
theorem dL_law_526 : decode cL_law 526 = .ok (.aload_n 1, 1) := by decide +kernel
theorem dL_law_527 : decode cL_law 527 = .ok (.aload_n 0, 1) := by decide +kernel
theorem dL_law_528 : decode cL_law 528 = .ok (.iload_n 3, 1) := by decide +kernel
theorem dL_law_529 : decode cL_law 529 = .ok (.iconst 1, 1) := by decide +kernel
theorem dL_law_530 : decode cL_law 530 = .ok (.iadd, 1) := by decide +kernel
theorem dL_law_531 : decode cL_law 531 = .ok (.iaload, 1) := by decide +kernel
theorem dL_law_532 : decode cL_law 532 = .ok (.aload_n 0, 1) := by decide +kernel
theorem dL_law_533 : decode cL_law 533 = .ok (.iload_n 3, 1) := by decide +kernel
theorem dL_law_534 : decode cL_law 534 = .ok (.iconst 2, 1) := by decide +kernel
theorem dL_law_535 : decode cL_law 535 = .ok (.iadd, 1) := by decide +kernel
theorem dL_law_536 : decode cL_law 536 = .ok (.iaload, 1) := by decide +kernel
theorem dL_law_537 : decode cL_law 537 = .ok (.invokevirtual 73, 3) := by decide +kernel
theorem dL_law_540 : decode cL_law 540 = .ok (.aload_n 2, 1) := by decide +kernel
theorem dL_law_541 : decode cL_law 541 = .ok (.aload_n 0, 1) := by decide +kernel
theorem dL_law_542 : decode cL_law 542 = .ok (.iload_n 3, 1) := by decide +kernel
theorem dL_law_543 : decode cL_law 543 = .ok (.iconst 1, 1) := by decide +kernel
theorem dL_law_544 : decode cL_law 544 = .ok (.iadd, 1) := by decide +kernel
theorem dL_law_545 : decode cL_law 545 = .ok (.iaload, 1) := by decide +kernel
theorem dL_law_546 : decode cL_law 546 = .ok (.aload_n 0, 1) := by decide +kernel
theorem dL_law_547 : decode cL_law 547 = .ok (.iload_n 3, 1) := by decide +kernel
theorem dL_law_548 : decode cL_law 548 = .ok (.iconst 2, 1) := by decide +kernel
theorem dL_law_549 : decode cL_law 549 = .ok (.iadd, 1) := by decide +kernel
theorem dL_law_550 : decode cL_law 550 = .ok (.iaload, 1) := by decide +kernel
theorem dL_law_551 : decode cL_law 551 = .ok (.invokevirtual 76, 3) := by decide +kernel
theorem dL_law_554 : decode cL_law 554 = .ok (.if_icmp .eq 193, 3) := by decide +kernel
theorem dL_law_557 : decode cL_law 557 = .ok (.iconst 0, 1) := by decide +kernel
theorem dL_law_558 : decode cL_law 558 = .ok (.ireturn, 1) := by decide +kernel
theorem dL_law_559 : decode cL_law 559 = .ok (.aload_n 1, 1) := by decide +kernel
theorem dL_law_560 : decode cL_law 560 = .ok (.aload_n 0, 1) := by decide +kernel
theorem dL_law_561 : decode cL_law 561 = .ok (.iload_n 3, 1) := by decide +kernel
theorem dL_law_562 : decode cL_law 562 = .ok (.iconst 1, 1) := by decide +kernel
theorem dL_law_563 : decode cL_law 563 = .ok (.iadd, 1) := by decide +kernel
theorem dL_law_564 : decode cL_law 564 = .ok (.iaload, 1) := by decide +kernel
theorem dL_law_565 : decode cL_law 565 = .ok (.aload_n 0, 1) := by decide +kernel
theorem dL_law_566 : decode cL_law 566 = .ok (.iload_n 3, 1) := by decide +kernel
theorem dL_law_567 : decode cL_law 567 = .ok (.iconst 2, 1) := by decide +kernel
theorem dL_law_568 : decode cL_law 568 = .ok (.iadd, 1) := by decide +kernel
theorem dL_law_569 : decode cL_law 569 = .ok (.iaload, 1) := by decide +kernel
theorem dL_law_570 : decode cL_law 570 = .ok (.invokevirtual 77, 3) := by decide +kernel
theorem dL_law_573 : decode cL_law 573 = .ok (.aload_n 2, 1) := by decide +kernel
theorem dL_law_574 : decode cL_law 574 = .ok (.aload_n 0, 1) := by decide +kernel
theorem dL_law_575 : decode cL_law 575 = .ok (.iload_n 3, 1) := by decide +kernel
theorem dL_law_576 : decode cL_law 576 = .ok (.iconst 1, 1) := by decide +kernel
theorem dL_law_577 : decode cL_law 577 = .ok (.iadd, 1) := by decide +kernel
theorem dL_law_578 : decode cL_law 578 = .ok (.iaload, 1) := by decide +kernel
theorem dL_law_579 : decode cL_law 579 = .ok (.aload_n 0, 1) := by decide +kernel
theorem dL_law_580 : decode cL_law 580 = .ok (.iload_n 3, 1) := by decide +kernel
theorem dL_law_581 : decode cL_law 581 = .ok (.iconst 2, 1) := by decide +kernel
theorem dL_law_582 : decode cL_law 582 = .ok (.iadd, 1) := by decide +kernel
theorem dL_law_583 : decode cL_law 583 = .ok (.iaload, 1) := by decide +kernel
theorem dL_law_584 : decode cL_law 584 = .ok (.invokevirtual 80, 3) := by decide +kernel
theorem dL_law_587 : decode cL_law 587 = .ok (.if_icmp .eq 160, 3) := by decide +kernel
theorem dL_law_590 : decode cL_law 590 = .ok (.iconst 0, 1) := by decide +kernel
theorem dL_law_591 : decode cL_law 591 = .ok (.ireturn, 1) := by decide +kernel
theorem dL_law_592 : decode cL_law 592 = .ok (.aload_n 1, 1) := by decide +kernel
theorem dL_law_593 : decode cL_law 593 = .ok (.aload_n 0, 1) := by decide +kernel
theorem dL_law_594 : decode cL_law 594 = .ok (.iload_n 3, 1) := by decide +kernel
theorem dL_law_595 : decode cL_law 595 = .ok (.iconst 1, 1) := by decide +kernel
theorem dL_law_596 : decode cL_law 596 = .ok (.iadd, 1) := by decide +kernel
theorem dL_law_597 : decode cL_law 597 = .ok (.iaload, 1) := by decide +kernel
theorem dL_law_598 : decode cL_law 598 = .ok (.aload_n 0, 1) := by decide +kernel
theorem dL_law_599 : decode cL_law 599 = .ok (.iload_n 3, 1) := by decide +kernel
theorem dL_law_600 : decode cL_law 600 = .ok (.iconst 2, 1) := by decide +kernel
theorem dL_law_601 : decode cL_law 601 = .ok (.iadd, 1) := by decide +kernel
theorem dL_law_602 : decode cL_law 602 = .ok (.iaload, 1) := by decide +kernel
theorem dL_law_603 : decode cL_law 603 = .ok (.invokevirtual 81, 3) := by decide +kernel
theorem dL_law_606 : decode cL_law 606 = .ok (.aload_n 2, 1) := by decide +kernel
theorem dL_law_607 : decode cL_law 607 = .ok (.aload_n 0, 1) := by decide +kernel
theorem dL_law_608 : decode cL_law 608 = .ok (.iload_n 3, 1) := by decide +kernel
theorem dL_law_609 : decode cL_law 609 = .ok (.iconst 1, 1) := by decide +kernel
theorem dL_law_610 : decode cL_law 610 = .ok (.iadd, 1) := by decide +kernel
theorem dL_law_611 : decode cL_law 611 = .ok (.iaload, 1) := by decide +kernel
theorem dL_law_612 : decode cL_law 612 = .ok (.aload_n 0, 1) := by decide +kernel
theorem dL_law_613 : decode cL_law 613 = .ok (.iload_n 3, 1) := by decide +kernel
theorem dL_law_614 : decode cL_law 614 = .ok (.iconst 2, 1) := by decide +kernel
theorem dL_law_615 : decode cL_law 615 = .ok (.iadd, 1) := by decide +kernel
theorem dL_law_616 : decode cL_law 616 = .ok (.iaload, 1) := by decide +kernel
theorem dL_law_617 : decode cL_law 617 = .ok (.invokevirtual 84, 3) := by decide +kernel
theorem dL_law_620 : decode cL_law 620 = .ok (.if_icmp .eq 127, 3) := by decide +kernel
theorem dL_law_623 : decode cL_law 623 = .ok (.iconst 0, 1) := by decide +kernel
theorem dL_law_624 : decode cL_law 624 = .ok (.ireturn, 1) := by decide +kernel
theorem dL_law_625 : decode cL_law 625 = .ok (.aload_n 1, 1) := by decide +kernel
theorem dL_law_626 : decode cL_law 626 = .ok (.aload_n 0, 1) := by decide +kernel
theorem dL_law_627 : decode cL_law 627 = .ok (.iload_n 3, 1) := by decide +kernel
theorem dL_law_628 : decode cL_law 628 = .ok (.iconst 1, 1) := by decide +kernel
theorem dL_law_629 : decode cL_law 629 = .ok (.iadd, 1) := by decide +kernel
theorem dL_law_630 : decode cL_law 630 = .ok (.iaload, 1) := by decide +kernel
theorem dL_law_631 : decode cL_law 631 = .ok (.invokevirtual 85, 3) := by decide +kernel
theorem dL_law_634 : decode cL_law 634 = .ok (.aload_n 2, 1) := by decide +kernel
theorem dL_law_635 : decode cL_law 635 = .ok (.aload_n 0, 1) := by decide +kernel
theorem dL_law_636 : decode cL_law 636 = .ok (.iload_n 3, 1) := by decide +kernel
theorem dL_law_637 : decode cL_law 637 = .ok (.iconst 1, 1) := by decide +kernel
theorem dL_law_638 : decode cL_law 638 = .ok (.iadd, 1) := by decide +kernel
theorem dL_law_639 : decode cL_law 639 = .ok (.iaload, 1) := by decide +kernel
theorem dL_law_640 : decode cL_law 640 = .ok (.invokevirtual 88, 3) := by decide +kernel
theorem dL_law_643 : decode cL_law 643 = .ok (.if_icmp .eq 104, 3) := by decide +kernel
theorem dL_law_646 : decode cL_law 646 = .ok (.iconst 0, 1) := by decide +kernel
theorem dL_law_647 : decode cL_law 647 = .ok (.ireturn, 1) := by decide +kernel
theorem dL_law_648 : decode cL_law 648 = .ok (.aload_n 1, 1) := by decide +kernel
theorem dL_law_649 : decode cL_law 649 = .ok (.aload_n 0, 1) := by decide +kernel
theorem dL_law_650 : decode cL_law 650 = .ok (.iload_n 3, 1) := by decide +kernel
theorem dL_law_651 : decode cL_law 651 = .ok (.iconst 1, 1) := by decide +kernel
theorem dL_law_652 : decode cL_law 652 = .ok (.iadd, 1) := by decide +kernel
theorem dL_law_653 : decode cL_law 653 = .ok (.iaload, 1) := by decide +kernel
theorem dL_law_654 : decode cL_law 654 = .ok (.invokevirtual 89, 3) := by decide +kernel
theorem dL_law_657 : decode cL_law 657 = .ok (.aload_n 2, 1) := by decide +kernel
theorem dL_law_658 : decode cL_law 658 = .ok (.aload_n 0, 1) := by decide +kernel
theorem dL_law_659 : decode cL_law 659 = .ok (.iload_n 3, 1) := by decide +kernel
theorem dL_law_660 : decode cL_law 660 = .ok (.iconst 1, 1) := by decide +kernel
theorem dL_law_661 : decode cL_law 661 = .ok (.iadd, 1) := by decide +kernel
theorem dL_law_662 : decode cL_law 662 = .ok (.iaload, 1) := by decide +kernel
theorem dL_law_663 : decode cL_law 663 = .ok (.invokevirtual 92, 3) := by decide +kernel
theorem dL_law_666 : decode cL_law 666 = .ok (.if_icmp .eq 81, 3) := by decide +kernel
theorem dL_law_669 : decode cL_law 669 = .ok (.iconst 0, 1) := by decide +kernel
theorem dL_law_670 : decode cL_law 670 = .ok (.ireturn, 1) := by decide +kernel
theorem dL_law_671 : decode cL_law 671 = .ok (.aload_n 1, 1) := by decide +kernel
theorem dL_law_672 : decode cL_law 672 = .ok (.invokevirtual 93, 3) := by decide +kernel
theorem dL_law_675 : decode cL_law 675 = .ok (.aload_n 2, 1) := by decide +kernel
theorem dL_law_676 : decode cL_law 676 = .ok (.invokevirtual 96, 3) := by decide +kernel
theorem dL_law_679 : decode cL_law 679 = .ok (.if_icmp .eq 68, 3) := by decide +kernel
theorem dL_law_682 : decode cL_law 682 = .ok (.iconst 0, 1) := by decide +kernel
theorem dL_law_683 : decode cL_law 683 = .ok (.ireturn, 1) := by decide +kernel
theorem dL_law_684 : decode cL_law 684 = .ok (.aload_n 1, 1) := by decide +kernel
theorem dL_law_685 : decode cL_law 685 = .ok (.invokevirtual 97, 3) := by decide +kernel
theorem dL_law_688 : decode cL_law 688 = .ok (.aload_n 2, 1) := by decide +kernel
theorem dL_law_689 : decode cL_law 689 = .ok (.invokevirtual 100, 3) := by decide +kernel
theorem dL_law_692 : decode cL_law 692 = .ok (.if_icmp .eq 55, 3) := by decide +kernel
theorem dL_law_695 : decode cL_law 695 = .ok (.iconst 0, 1) := by decide +kernel
theorem dL_law_696 : decode cL_law 696 = .ok (.ireturn, 1) := by decide +kernel
theorem dL_law_697 : decode cL_law 697 = .ok (.aload_n 1, 1) := by decide +kernel
theorem dL_law_698 : decode cL_law 698 = .ok (.invokevirtual 101, 3) := by decide +kernel
theorem dL_law_701 : decode cL_law 701 = .ok (.aload_n 2, 1) := by decide +kernel
theorem dL_law_702 : decode cL_law 702 = .ok (.invokevirtual 104, 3) := by decide +kernel
theorem dL_law_705 : decode cL_law 705 = .ok (.if_icmp .eq 42, 3) := by decide +kernel
theorem dL_law_708 : decode cL_law 708 = .ok (.iconst 0, 1) := by decide +kernel
theorem dL_law_709 : decode cL_law 709 = .ok (.ireturn, 1) := by decide +kernel
theorem dL_law_710 : decode cL_law 710 = .ok (.aload_n 1, 1) := by decide +kernel
theorem dL_law_711 : decode cL_law 711 = .ok (.aload_n 0, 1) := by decide +kernel
theorem dL_law_712 : decode cL_law 712 = .ok (.iload_n 3, 1) := by decide +kernel
theorem dL_law_713 : decode cL_law 713 = .ok (.iconst 1, 1) := by decide +kernel
theorem dL_law_714 : decode cL_law 714 = .ok (.iadd, 1) := by decide +kernel
theorem dL_law_715 : decode cL_law 715 = .ok (.iaload, 1) := by decide +kernel
theorem dL_law_716 : decode cL_law 716 = .ok (.invokevirtual 105, 3) := by decide +kernel
theorem dL_law_719 : decode cL_law 719 = .ok (.aload_n 2, 1) := by decide +kernel
theorem dL_law_720 : decode cL_law 720 = .ok (.aload_n 0, 1) := by decide +kernel
theorem dL_law_721 : decode cL_law 721 = .ok (.iload_n 3, 1) := by decide +kernel
theorem dL_law_722 : decode cL_law 722 = .ok (.iconst 1, 1) := by decide +kernel
theorem dL_law_723 : decode cL_law 723 = .ok (.iadd, 1) := by decide +kernel
theorem dL_law_724 : decode cL_law 724 = .ok (.iaload, 1) := by decide +kernel
theorem dL_law_725 : decode cL_law 725 = .ok (.invokevirtual 108, 3) := by decide +kernel
theorem dL_law_728 : decode cL_law 728 = .ok (.if_icmp .eq 19, 3) := by decide +kernel
theorem dL_law_731 : decode cL_law 731 = .ok (.iconst 0, 1) := by decide +kernel
theorem dL_law_732 : decode cL_law 732 = .ok (.ireturn, 1) := by decide +kernel
theorem dL_law_733 : decode cL_law 733 = .ok (.aload_n 1, 1) := by decide +kernel
theorem dL_law_734 : decode cL_law 734 = .ok (.invokevirtual 109, 3) := by decide +kernel
theorem dL_law_737 : decode cL_law 737 = .ok (.aload_n 2, 1) := by decide +kernel
theorem dL_law_738 : decode cL_law 738 = .ok (.invokevirtual 113, 3) := by decide +kernel
theorem dL_law_741 : decode cL_law 741 = .ok (.lcmp, 1) := by decide +kernel
theorem dL_law_742 : decode cL_law 742 = .ok (.ifCond .eq 5, 3) := by decide +kernel
theorem dL_law_745 : decode cL_law 745 = .ok (.iconst 0, 1) := by decide +kernel
theorem dL_law_746 : decode cL_law 746 = .ok (.ireturn, 1) := by decide +kernel
theorem dL_law_747 : decode cL_law 747 = .ok (.iinc 3 6, 3) := by decide +kernel
theorem dL_law_750 : decode cL_law 750 = .ok (.goto (-732), 3) := by decide +kernel
theorem dL_law_753 : decode cL_law 753 = .ok (.iconst 1, 1) := by decide +kernel
theorem dL_law_754 : decode cL_law 754 = .ok (.ireturn, 1) := by decide +kernel
end
section
/-! the form of the contracts: pure words, worlds, calls -/
abbrev Ar : Type := Nat → Int32
def b2i (b : Bool) : Int32 := cond b 1 0
def FU : Nat := 1000
def rd {α : Type} (f : Ar) (n : Nat) (i : Int32) (k : Int32 → Option α) : Option α := if i < 0 then none else if n ≤ i.toNatClampNeg then none else k (f i.toNatClampNeg)
def wr {α : Type} (f : Ar) (n : Nat) (i x : Int32) (k : Ar → Option α) : Option α := if i < 0 then none else if n ≤ i.toNatClampNeg then none else k (upd f i.toNatClampNeg x)
def dv {α : Type} (y : Int32) (k : Option α) : Option α := if y = 0 then none else k
def dvl {α : Type} (y : Int64) (k : Option α) : Option α := if y = 0 then none else k
def nm {α β : Type} (x : α) (k : α → β) : β := k x
theorem nm_use {α β : Type} {x v : α} {k : α → β} {o : β} (h : nm x k = o) (e : v = x) : k v = o := by
  subst e
  exact h
theorem rd_use {α : Type} {f : Ar} {n : Nat} {i : Int32} {k : Int32 → Option α} {o : α} (h : rd f n i k = some o) : vp_in i n ∧ k (f i.toNatClampNeg) = some o := by
  unfold rd at h
  by_cases h1 : i < 0
  · rw [if_pos h1] at h
    cases h
  · rw [if_neg h1] at h
    by_cases h2 : n ≤ i.toNatClampNeg
    · rw [if_pos h2] at h
      cases h
    · rw [if_neg h2] at h
      exact ⟨fun q => q.elim h1 h2, h⟩
theorem wr_use {α : Type} {f : Ar} {n : Nat} {i x : Int32} {k : Ar → Option α} {o : α} (h : wr f n i x k = some o) : vp_in i n ∧ k (upd f i.toNatClampNeg x) = some o := by
  unfold wr at h
  by_cases h1 : i < 0
  · rw [if_pos h1] at h
    cases h
  · rw [if_neg h1] at h
    by_cases h2 : n ≤ i.toNatClampNeg
    · rw [if_pos h2] at h
      cases h
    · rw [if_neg h2] at h
      exact ⟨fun q => q.elim h1 h2, h⟩
theorem dv_use {α : Type} {y : Int32} {k : Option α} {o : α} (h : dv y k = some o) : ¬ y = 0 ∧ k = some o := by
  unfold dv at h
  by_cases h1 : y = 0
  · rw [if_pos h1] at h
    cases h
  · rw [if_neg h1] at h
    exact ⟨h1, h⟩
theorem dvl_use {α : Type} {y : Int64} {k : Option α} {o : α} (h : dvl y k = some o) : ¬ y = 0 ∧ k = some o := by
  unfold dvl at h
  by_cases h1 : y = 0
  · rw [if_pos h1] at h
    cases h
  · rw [if_neg h1] at h
    exact ⟨h1, h⟩
theorem it_t {α : Type} {c : Prop} [Decidable c] {x y o : α} (hc : c) (h : (if c then x else y) = o) : x = o := by rw [if_pos hc] at h; exact h
theorem it_f {α : Type} {c : Prop} [Decidable c] {x y o : α} (hc : ¬ c) (h : (if c then x else y) = o) : y = o := by rw [if_neg hc] at h; exact h
theorem nn_no {α : Type} {o : α} {p : Prop} (h : (none : Option α) = some o) : p := by cases h
theorem b2i_nar (b : Bool) : narrow .boolean (.int (b2i b)) = .int (b2i b) := by cases b <;> rfl
def bd1 {α1 β : Type} (x : Option (α1)) (k : α1 → Option β) : Option β := match x with | none => none | some (a1) => k a1
theorem bd1_use {α1 β : Type} {x : Option (α1)} {k : α1 → Option β} {o : β} (h : bd1 x k = some o) : ∃ a1, x = some (a1) ∧ k a1 = some o := by
  cases x with
  | none => cases h
  | some q => exact ⟨q, rfl, h⟩
def bd2 {α1 α2 β : Type} (x : Option (α1 × α2)) (k : α1 → α2 → Option β) : Option β := match x with | none => none | some (a1, a2) => k a1 a2
theorem bd2_use {α1 α2 β : Type} {x : Option (α1 × α2)} {k : α1 → α2 → Option β} {o : β} (h : bd2 x k = some o) : ∃ a1 a2, x = some (a1, a2) ∧ k a1 a2 = some o := by
  cases x with
  | none => cases h
  | some q =>
    obtain ⟨a1, a2⟩ := q
    exact ⟨a1, a2, rfl, h⟩
def bd3 {α1 α2 α3 β : Type} (x : Option (α1 × α2 × α3)) (k : α1 → α2 → α3 → Option β) : Option β := match x with | none => none | some (a1, a2, a3) => k a1 a2 a3
theorem bd3_use {α1 α2 α3 β : Type} {x : Option (α1 × α2 × α3)} {k : α1 → α2 → α3 → Option β} {o : β} (h : bd3 x k = some o) : ∃ a1 a2 a3, x = some (a1, a2, a3) ∧ k a1 a2 a3 = some o := by
  cases x with
  | none => cases h
  | some q =>
    obtain ⟨a1, a2, a3⟩ := q
    exact ⟨a1, a2, a3, rfl, h⟩
def bd4 {α1 α2 α3 α4 β : Type} (x : Option (α1 × α2 × α3 × α4)) (k : α1 → α2 → α3 → α4 → Option β) : Option β := match x with | none => none | some (a1, a2, a3, a4) => k a1 a2 a3 a4
theorem bd4_use {α1 α2 α3 α4 β : Type} {x : Option (α1 × α2 × α3 × α4)} {k : α1 → α2 → α3 → α4 → Option β} {o : β} (h : bd4 x k = some o) : ∃ a1 a2 a3 a4, x = some (a1, a2, a3, a4) ∧ k a1 a2 a3 a4 = some o := by
  cases x with
  | none => cases h
  | some q =>
    obtain ⟨a1, a2, a3, a4⟩ := q
    exact ⟨a1, a2, a3, a4, rfl, h⟩
def bd5 {α1 α2 α3 α4 α5 β : Type} (x : Option (α1 × α2 × α3 × α4 × α5)) (k : α1 → α2 → α3 → α4 → α5 → Option β) : Option β := match x with | none => none | some (a1, a2, a3, a4, a5) => k a1 a2 a3 a4 a5
theorem bd5_use {α1 α2 α3 α4 α5 β : Type} {x : Option (α1 × α2 × α3 × α4 × α5)} {k : α1 → α2 → α3 → α4 → α5 → Option β} {o : β} (h : bd5 x k = some o) : ∃ a1 a2 a3 a4 a5, x = some (a1, a2, a3, a4, a5) ∧ k a1 a2 a3 a4 a5 = some o := by
  cases x with
  | none => cases h
  | some q =>
    obtain ⟨a1, a2, a3, a4, a5⟩ := q
    exact ⟨a1, a2, a3, a4, a5, rfl, h⟩
def bd6 {α1 α2 α3 α4 α5 α6 β : Type} (x : Option (α1 × α2 × α3 × α4 × α5 × α6)) (k : α1 → α2 → α3 → α4 → α5 → α6 → Option β) : Option β := match x with | none => none | some (a1, a2, a3, a4, a5, a6) => k a1 a2 a3 a4 a5 a6
theorem bd6_use {α1 α2 α3 α4 α5 α6 β : Type} {x : Option (α1 × α2 × α3 × α4 × α5 × α6)} {k : α1 → α2 → α3 → α4 → α5 → α6 → Option β} {o : β} (h : bd6 x k = some o) : ∃ a1 a2 a3 a4 a5 a6, x = some (a1, a2, a3, a4, a5, a6) ∧ k a1 a2 a3 a4 a5 a6 = some o := by
  cases x with
  | none => cases h
  | some q =>
    obtain ⟨a1, a2, a3, a4, a5, a6⟩ := q
    exact ⟨a1, a2, a3, a4, a5, a6, rfl, h⟩
def bd7 {α1 α2 α3 α4 α5 α6 α7 β : Type} (x : Option (α1 × α2 × α3 × α4 × α5 × α6 × α7)) (k : α1 → α2 → α3 → α4 → α5 → α6 → α7 → Option β) : Option β := match x with | none => none | some (a1, a2, a3, a4, a5, a6, a7) => k a1 a2 a3 a4 a5 a6 a7
theorem bd7_use {α1 α2 α3 α4 α5 α6 α7 β : Type} {x : Option (α1 × α2 × α3 × α4 × α5 × α6 × α7)} {k : α1 → α2 → α3 → α4 → α5 → α6 → α7 → Option β} {o : β} (h : bd7 x k = some o) : ∃ a1 a2 a3 a4 a5 a6 a7, x = some (a1, a2, a3, a4, a5, a6, a7) ∧ k a1 a2 a3 a4 a5 a6 a7 = some o := by
  cases x with
  | none => cases h
  | some q =>
    obtain ⟨a1, a2, a3, a4, a5, a6, a7⟩ := q
    exact ⟨a1, a2, a3, a4, a5, a6, a7, rfl, h⟩
def bd8 {α1 α2 α3 α4 α5 α6 α7 α8 β : Type} (x : Option (α1 × α2 × α3 × α4 × α5 × α6 × α7 × α8)) (k : α1 → α2 → α3 → α4 → α5 → α6 → α7 → α8 → Option β) : Option β := match x with | none => none | some (a1, a2, a3, a4, a5, a6, a7, a8) => k a1 a2 a3 a4 a5 a6 a7 a8
theorem bd8_use {α1 α2 α3 α4 α5 α6 α7 α8 β : Type} {x : Option (α1 × α2 × α3 × α4 × α5 × α6 × α7 × α8)} {k : α1 → α2 → α3 → α4 → α5 → α6 → α7 → α8 → Option β} {o : β} (h : bd8 x k = some o) : ∃ a1 a2 a3 a4 a5 a6 a7 a8, x = some (a1, a2, a3, a4, a5, a6, a7, a8) ∧ k a1 a2 a3 a4 a5 a6 a7 a8 = some o := by
  cases x with
  | none => cases h
  | some q =>
    obtain ⟨a1, a2, a3, a4, a5, a6, a7, a8⟩ := q
    exact ⟨a1, a2, a3, a4, a5, a6, a7, a8, rfl, h⟩
def bd9 {α1 α2 α3 α4 α5 α6 α7 α8 α9 β : Type} (x : Option (α1 × α2 × α3 × α4 × α5 × α6 × α7 × α8 × α9)) (k : α1 → α2 → α3 → α4 → α5 → α6 → α7 → α8 → α9 → Option β) : Option β := match x with | none => none | some (a1, a2, a3, a4, a5, a6, a7, a8, a9) => k a1 a2 a3 a4 a5 a6 a7 a8 a9
theorem bd9_use {α1 α2 α3 α4 α5 α6 α7 α8 α9 β : Type} {x : Option (α1 × α2 × α3 × α4 × α5 × α6 × α7 × α8 × α9)} {k : α1 → α2 → α3 → α4 → α5 → α6 → α7 → α8 → α9 → Option β} {o : β} (h : bd9 x k = some o) : ∃ a1 a2 a3 a4 a5 a6 a7 a8 a9, x = some (a1, a2, a3, a4, a5, a6, a7, a8, a9) ∧ k a1 a2 a3 a4 a5 a6 a7 a8 a9 = some o := by
  cases x with
  | none => cases h
  | some q =>
    obtain ⟨a1, a2, a3, a4, a5, a6, a7, a8, a9⟩ := q
    exact ⟨a1, a2, a3, a4, a5, a6, a7, a8, a9, rfl, h⟩
def bd10 {α1 α2 α3 α4 α5 α6 α7 α8 α9 α10 β : Type} (x : Option (α1 × α2 × α3 × α4 × α5 × α6 × α7 × α8 × α9 × α10)) (k : α1 → α2 → α3 → α4 → α5 → α6 → α7 → α8 → α9 → α10 → Option β) : Option β := match x with | none => none | some (a1, a2, a3, a4, a5, a6, a7, a8, a9, a10) => k a1 a2 a3 a4 a5 a6 a7 a8 a9 a10
theorem bd10_use {α1 α2 α3 α4 α5 α6 α7 α8 α9 α10 β : Type} {x : Option (α1 × α2 × α3 × α4 × α5 × α6 × α7 × α8 × α9 × α10)} {k : α1 → α2 → α3 → α4 → α5 → α6 → α7 → α8 → α9 → α10 → Option β} {o : β} (h : bd10 x k = some o) : ∃ a1 a2 a3 a4 a5 a6 a7 a8 a9 a10, x = some (a1, a2, a3, a4, a5, a6, a7, a8, a9, a10) ∧ k a1 a2 a3 a4 a5 a6 a7 a8 a9 a10 = some o := by
  cases x with
  | none => cases h
  | some q =>
    obtain ⟨a1, a2, a3, a4, a5, a6, a7, a8, a9, a10⟩ := q
    exact ⟨a1, a2, a3, a4, a5, a6, a7, a8, a9, a10, rfl, h⟩
def bd11 {α1 α2 α3 α4 α5 α6 α7 α8 α9 α10 α11 β : Type} (x : Option (α1 × α2 × α3 × α4 × α5 × α6 × α7 × α8 × α9 × α10 × α11)) (k : α1 → α2 → α3 → α4 → α5 → α6 → α7 → α8 → α9 → α10 → α11 → Option β) : Option β := match x with | none => none | some (a1, a2, a3, a4, a5, a6, a7, a8, a9, a10, a11) => k a1 a2 a3 a4 a5 a6 a7 a8 a9 a10 a11
theorem bd11_use {α1 α2 α3 α4 α5 α6 α7 α8 α9 α10 α11 β : Type} {x : Option (α1 × α2 × α3 × α4 × α5 × α6 × α7 × α8 × α9 × α10 × α11)} {k : α1 → α2 → α3 → α4 → α5 → α6 → α7 → α8 → α9 → α10 → α11 → Option β} {o : β} (h : bd11 x k = some o) : ∃ a1 a2 a3 a4 a5 a6 a7 a8 a9 a10 a11, x = some (a1, a2, a3, a4, a5, a6, a7, a8, a9, a10, a11) ∧ k a1 a2 a3 a4 a5 a6 a7 a8 a9 a10 a11 = some o := by
  cases x with
  | none => cases h
  | some q =>
    obtain ⟨a1, a2, a3, a4, a5, a6, a7, a8, a9, a10, a11⟩ := q
    exact ⟨a1, a2, a3, a4, a5, a6, a7, a8, a9, a10, a11, rfl, h⟩
def bd12 {α1 α2 α3 α4 α5 α6 α7 α8 α9 α10 α11 α12 β : Type} (x : Option (α1 × α2 × α3 × α4 × α5 × α6 × α7 × α8 × α9 × α10 × α11 × α12)) (k : α1 → α2 → α3 → α4 → α5 → α6 → α7 → α8 → α9 → α10 → α11 → α12 → Option β) : Option β := match x with | none => none | some (a1, a2, a3, a4, a5, a6, a7, a8, a9, a10, a11, a12) => k a1 a2 a3 a4 a5 a6 a7 a8 a9 a10 a11 a12
theorem bd12_use {α1 α2 α3 α4 α5 α6 α7 α8 α9 α10 α11 α12 β : Type} {x : Option (α1 × α2 × α3 × α4 × α5 × α6 × α7 × α8 × α9 × α10 × α11 × α12)} {k : α1 → α2 → α3 → α4 → α5 → α6 → α7 → α8 → α9 → α10 → α11 → α12 → Option β} {o : β} (h : bd12 x k = some o) : ∃ a1 a2 a3 a4 a5 a6 a7 a8 a9 a10 a11 a12, x = some (a1, a2, a3, a4, a5, a6, a7, a8, a9, a10, a11, a12) ∧ k a1 a2 a3 a4 a5 a6 a7 a8 a9 a10 a11 a12 = some o := by
  cases x with
  | none => cases h
  | some q =>
    obtain ⟨a1, a2, a3, a4, a5, a6, a7, a8, a9, a10, a11, a12⟩ := q
    exact ⟨a1, a2, a3, a4, a5, a6, a7, a8, a9, a10, a11, a12, rfl, h⟩
def bd13 {α1 α2 α3 α4 α5 α6 α7 α8 α9 α10 α11 α12 α13 β : Type} (x : Option (α1 × α2 × α3 × α4 × α5 × α6 × α7 × α8 × α9 × α10 × α11 × α12 × α13)) (k : α1 → α2 → α3 → α4 → α5 → α6 → α7 → α8 → α9 → α10 → α11 → α12 → α13 → Option β) : Option β := match x with | none => none | some (a1, a2, a3, a4, a5, a6, a7, a8, a9, a10, a11, a12, a13) => k a1 a2 a3 a4 a5 a6 a7 a8 a9 a10 a11 a12 a13
theorem bd13_use {α1 α2 α3 α4 α5 α6 α7 α8 α9 α10 α11 α12 α13 β : Type} {x : Option (α1 × α2 × α3 × α4 × α5 × α6 × α7 × α8 × α9 × α10 × α11 × α12 × α13)} {k : α1 → α2 → α3 → α4 → α5 → α6 → α7 → α8 → α9 → α10 → α11 → α12 → α13 → Option β} {o : β} (h : bd13 x k = some o) : ∃ a1 a2 a3 a4 a5 a6 a7 a8 a9 a10 a11 a12 a13, x = some (a1, a2, a3, a4, a5, a6, a7, a8, a9, a10, a11, a12, a13) ∧ k a1 a2 a3 a4 a5 a6 a7 a8 a9 a10 a11 a12 a13 = some o := by
  cases x with
  | none => cases h
  | some q =>
    obtain ⟨a1, a2, a3, a4, a5, a6, a7, a8, a9, a10, a11, a12, a13⟩ := q
    exact ⟨a1, a2, a3, a4, a5, a6, a7, a8, a9, a10, a11, a12, a13, rfl, h⟩
def mws (y : MethodName) (b : ByteArray) (n : Nat) (r : Option FieldType) : List Cond := Cond.code y b n r :: GW
def inW (ws : va_W) : Nat → Prop := fun q => ∃ (k : Nat) (e : va_E), ws[k]? = some (q, e)
def isNest : Cond → Bool
  | .fieldLinkNest _ _ _ _ _ _ => true
  | .methodLinkNest _ _ _ _ => true
  | _ => false
theorem nW_nest : ∀ w ∈ nW, isNest w = true := by decide +kernel
theorem nw_warm {w : Cond} (hw : isNest w = true) {s U : State} (hW : s.WarmedH U.vm) (h : va_Nw w s) : va_Nw w U := by
  cases w <;> first | exact va_Nw.warmF hW h | exact va_Nw.warmM hW h | cases hw
theorem nw_same {w : Cond} (hw : isNest w = true) {u U : State} (h : u.vm = U.vm) (hZ : va_Nw w u) : va_Nw w U := by
  cases w <;> first | cases hw; done | exact va_Nw.same rfl h hZ
abbrev KT (cI cS : ClassId) : List (ClassId × FieldType) := [(cI, .int), (cS, .object "SoiledTests$Suite")]
def KK (D : va_G) (cI cS : ClassId) (U : State) : Prop := va_K D vwCl (KT cI cS) U ∧ (∀ w ∈ nW, va_Nw w U) ∧ va_AO "SoiledTests$Suite" U
theorem KK.warm {D : va_G} {cI cS : ClassId} {s U : State} (hW : s.WarmedH U.vm) (h : KK D cI cS s) : KK D cI cS U := ⟨va_K.moved hW.alike h.1, fun w hw => nw_warm (nW_nest w hw) hW (h.2.1 w hw), va_AO.moved hW.alike h.2.2⟩
theorem KK.calling {D : va_G} {cI cS : ClassId} {U : State} {g : JFrame} {mk : MethodId} {a : Array Value} (h : KK D cI cS U) : KK D cI cS (U.calling g mk a) := ⟨va_K.moved (u := U) (U := U.calling g mk a) (Vm.Alike.refl U.vm) h.1, fun w hw => nw_same (u := U) (U := U.calling g mk a) (nW_nest w hw) rfl (h.2.1 w hw), va_AO.moved (u := U) (U := U.calling g mk a) (Vm.Alike.refl U.vm) h.2.2⟩
/-- a method that only reads -/
def roP (D : va_G) (cI cS : ClassId) (ws : va_W) : State → Prop := fun U => va_P D vwCl ws U.heap ∧ KK D cI cS U
def roQ (v : Option Value) : Array Value → State → Outcome → State → Prop := fun _ st oc t => oc = .returned v ∧ t.heap = st.heap
/-- a method that writes into cells that are there -/
def wrP (D : va_G) (cI cS : ClassId) (ws : va_W) : State → Prop := fun U => va_P D vwCl ws U.heap ∧ KK D cI cS U ∧ va_D (fun _ => True) ws
def wrQ (D : va_G) (A : Nat → Prop) (ws : va_W) (v : Option Value) : Array Value → State → Outcome → State → Prop := fun _ st oc t => oc = .returned v ∧ va_P D vwCl ws t.heap ∧ va_F A st t
abbrev noF : Addr → Prop := fun _ => False
abbrev roM (l : Launch) (D : va_G) (cI cS : ClassId) (y : MethodName) (b : ByteArray) (n : Nat) (r : Option FieldType) (fr lo : Nat) (av : List Value) (ws : va_W) (v : Option Value) : Prop := Met l y (mws y b n r) { frames := fr, cells := 0, slots := 0, locals := lo } (va_Pc av (roP D cI cS ws)) (roQ v) 0 0 noF
abbrev wrM (l : Launch) (D : va_G) (cI cS : ClassId) (y : MethodName) (b : ByteArray) (n : Nat) (r : Option FieldType) (fr lo : Nat) (av : List Value) (ws ws' : va_W) (v : Option Value) : Prop := Met l y (mws y b n r) { frames := fr, cells := 0, slots := 0, locals := lo } (va_Pc av (wrP D cI cS ws)) (wrQ D (inW ws) ws' v) 0 0 (inW ws)
theorem roP_blind {D : va_G} {cI cS : ClassId} {ws : va_W} {av : List Value} : FrameBlind (va_Pc av (roP D cI cS ws)) := fun _ _ _ _ q => ⟨q.1, q.2.1, q.2.2.calling⟩
theorem wrP_blind {D : va_G} {cI cS : ClassId} {ws : va_W} {av : List Value} : FrameBlind (va_Pc av (wrP D cI cS ws)) := fun _ _ _ _ q => ⟨q.1, q.2.1, q.2.2.1.calling, q.2.2.2⟩
theorem inW_self {ws : va_W} {A : Nat → Prop} (h : va_D A ws) : va_D (inW ws) ws := ⟨h.1, fun k q hk => ⟨k, q.2, hk⟩⟩
/-- what a callee's words are -/
abbrev plainY (y : MethodName) (n : Nat) : Prop := y.cls ≠ "java/lang/invoke/MethodHandle" ∧ y.cls ≠ "java/lang/invoke/VarHandle" ∧ (parseMethodDescriptor y.desc).map (fun d => d.parameters.length) = some n
def CYV (C : String) (y : MethodName) (b : ByteArray) (maxL : Nat) (ret : Option FieldType) (n : Nat) : Prop := (Cond.instanceMethod y ∈ GW ∧ Cond.selects C y y ∈ GW) ∧ Cond.initialized y.cls ∈ GW ∧ Cond.code y b maxL ret ∈ GW ∧ plainY y n
def CYS (y : MethodName) (b : ByteArray) (maxL : Nat) (ret : Option FieldType) (n : Nat) : Prop := Cond.static y ∈ GW ∧ Cond.initialized y.cls ∈ GW ∧ Cond.code y b maxL ret ∈ GW ∧ plainY y n
def CYI (y : MethodName) (b : ByteArray) (maxL : Nat) (n : Nat) : Prop := Cond.instanceMethod y ∈ GW ∧ Cond.initialized y.cls ∈ GW ∧ Cond.code y b maxL none ∈ GW ∧ plainY y n ∧ y.name = "<init>"
theorem mws_good {Ts : List Cond} {y : MethodName} {b : ByteArray} {n : Nat} {r : Option FieldType} (h : ∀ w ∈ GW, w ∈ Ts) (hc : Cond.code y b n r ∈ GW) : GoodIn Ts (mws y b n r) := by
  intro w hw
  rcases List.mem_cons.mp hw with rfl | hw
  · exact ⟨h _ hc, good_of_word (List.mem_filter.mp hc).2⟩
  · exact ⟨h _ hw, good_of_word (List.mem_filter.mp hw).2⟩
section CW
variable {R : Room} {s : State} {args : Array Value} {own C host : String} {index maxL n mc ms : Nat} {y : MethodName} {bytes : ByteArray} {ret : Option FieldType} {rm : Room}
theorem cwV1 (hts : ∀ w ∈ GW, w.before args s = true) (hy : CYV C y bytes maxL ret n) (hl : Cond.methodLink own index y ∈ GW) (hrc : rm.cells = mc) (hrs : rm.slots = ms) (hR : rm.frames + 1 ≤ R.frames ∧ 8 + (maxL + 11) + rm.locals ≤ R.locals) : CallW R s args own C index y bytes maxL ret (mws y bytes maxL ret) rm mc ms n :=
  ⟨callB_of n hts (mws_good (fun _ h => h) hy.2.2.1) rfl hrc hrs (hts _ hy.2.1) (hts _ hl) hy.2.2.2 hR, hts _ hy.1.1, hts _ hy.1.2⟩
theorem cwS1 (hts : ∀ w ∈ GW, w.before args s = true) (hy : CYS y bytes maxL ret n) (hl : Cond.methodLink own index y ∈ GW) (hrc : rm.cells = mc) (hrs : rm.slots = ms) (hR : rm.frames + 1 ≤ R.frames ∧ 8 + (maxL + 11) + rm.locals ≤ R.locals) : CallB R s args own index y bytes maxL ret (mws y bytes maxL ret) rm mc ms n ∧ (Cond.static y).before args s = true :=
  ⟨callB_of n hts (mws_good (fun _ h => h) hy.2.2.1) rfl hrc hrs (hts _ hy.2.1) (hts _ hl) hy.2.2.2 hR, hts _ hy.1⟩
theorem cwSN1 (hts : ∀ w ∈ GW, w.before args s = true) (hN : ∀ w ∈ nW, va_Nw w s) (hy : CYS y bytes maxL ret n) (hl : Cond.methodLinkNest own index y host ∈ nW) (hrc : rm.cells = mc) (hrs : rm.slots = ms) (hR : rm.frames + 1 ≤ R.frames ∧ 8 + (maxL + 11) + rm.locals ≤ R.locals) : va_CN R s args own index y host bytes maxL ret (mws y bytes maxL ret) rm mc ms n ∧ (Cond.static y).before args s = true ∧ True :=
  ⟨va_cnB n hts (mws_good (fun _ h => h) hy.2.2.1) rfl hrc hrs (hN _ hl) (hts _ hy.2.1) hy.2.2.2 hR, hts _ hy.1, trivial⟩
theorem cwI1 (hts : ∀ w ∈ GW, w.before args s = true) (hy : CYI y bytes maxL n) (hl : Cond.methodLink own index y ∈ GW) (hrc : rm.cells = mc) (hrs : rm.slots = ms) (hR : rm.frames + 1 ≤ R.frames ∧ 8 + (maxL + 11) + rm.locals ≤ R.locals) : CallB R s args own index y bytes maxL none (mws y bytes maxL none) rm mc ms n ∧ y.name = "<init>" ∧ (Cond.instanceMethod y).before args s = true :=
  ⟨callB_of n hts (mws_good (fun _ h => h) hy.2.2.1) rfl hrc hrs (hts _ hy.2.1) (hts _ hl) hy.2.2.2.1 hR, hy.2.2.2.2, hts _ hy.1⟩
theorem cwIN1 (hts : ∀ w ∈ GW, w.before args s = true) (hN : ∀ w ∈ nW, va_Nw w s) (hy : CYI y bytes maxL n) (hl : Cond.methodLinkNest own index y host ∈ nW) (hrc : rm.cells = mc) (hrs : rm.slots = ms) (hR : rm.frames + 1 ≤ R.frames ∧ 8 + (maxL + 11) + rm.locals ≤ R.locals) : va_CN R s args own index y host bytes maxL none (mws y bytes maxL none) rm mc ms n ∧ y.name = "<init>" ∧ (Cond.instanceMethod y).before args s = true :=
  ⟨va_cnB n hts (mws_good (fun _ h => h) hy.2.2.1) rfl hrc hrs (hN _ hl) (hts _ hy.2.1) hy.2.2.2.1 hR, hy.2.2.2.2, hts _ hy.1⟩
end CW
section RC
variable {p : Program} {l : Launch} {e : Env} {R : Room} {s : State} {m : MethodId} {args : Array Value} {below : List Frame} {meth : Method} {c : Code} {H : Heap} {locs : List Loc} {cells slots : Nat} {Q : State → Prop}
variable {pc : Nat} {ls : Array Slot} {rest st0 st1 As : List Value} {a : Array Value} {A0 : Nat → Prop} {H0 : Heap}
variable {D : va_G} {cI cS : ClassId} {ws wc wc' ws' : va_W} {v : Option Value}
variable {y : MethodName} {bytes cc : ByteArray} {maxL nL n index ci : Nat} {ret : Option FieldType} {rm : Room} {own C host : String} {b : Nat} {r : vw_C} {fs : List Value}
theorem ro_go (hr : va_Run p l e R s m args below meth c H locs cells slots 0 0 (F0 m pc ls st0) rest (roQ v a) noF) (hv : v.toList ++ rest = st1)
    (kk : W p l e R s m args below meth c H locs cells slots Q (F0 m (pc + 3) ls st1)) : W p l e R s m args below meth c H locs cells slots Q (F0 m pc ls st0) := by
  subst hv
  intro T hT X
  obtain ⟨v', st₀, t, T', L, h0, X', hL, e1, -, ⟨hv, hh⟩, st⟩ := hr T hT X
  cases hv
  obtain ⟨t2, a1, b1⟩ := kk T' (by rw [e1, hh, h0]) (Stand.forget X' (fun q h => (hL q h).elim))
  exact ⟨t2, st t2 a1, b1⟩
theorem recv1 (hK : KK D cI cS s) (hP : va_P D vwCl ws H) (q0 : Nat) (he : ws[q0]? = some (b, .inr (ci, fs))) (hc : vwCl[ci]? = some r) (hCr : r.1 = C) : ∃ cell : Cell, H[b]? = some cell ∧ cell.vm.isStatics = false ∧ s.vm.findClass C = some cell.cls := by
  subst hCr
  exact va_recv hK.1 hP hc he
theorem ro_V (S : CallFix p m c cc nL s args GW own) (hM : Met l y (mws y bytes maxL ret) rm (va_Pc (.ref b :: As) (roP D cI cS wc)) (roQ v) 0 0 noF) (cw : CallW R s args own C index y bytes maxL ret (mws y bytes maxL ret) rm 0 0 n) (hK : KK D cI cS s) (hP : va_P D vwCl ws H) (is : List Nat) (hs : is.filterMap (fun i => ws[i]?) = wc) (q0 : Nat) (he : ws[q0]? = some (b, .inr (ci, fs))) (hc : vwCl[ci]? = some r) (hCr : r.1 = C)
    (hn : As.length = n) (hsize : ls.size = nL) (hst : st0 = As.reverse ++ .ref b :: rest) (hW : (rest.map fun v => v.category).sum ≤ 8) (hdg : decode cc pc = .ok (.invokevirtual index, 3)) (hcs : cells + 0 ≤ R.cells ∧ slots + 0 ≤ R.slots) (hv : v.toList ++ rest = st1)
    (kk : W p l e R s m args below meth c H locs cells slots Q (F0 m (pc + 3) ls st1)) : W p l e R s m args below meth c H locs cells slots Q (F0 m pc ls st0) := by
  subst hst
  exact ro_go (va_runV S hM cw ⟨roP_blind, recv1 hK hP q0 he hc hCr, fun U hU hW => ⟨rfl, by rw [hU]; exact hP.sub is hs, hK.warm hW⟩⟩ rfl hn hsize rfl (lv_room hW) hdg hcs) hv kk
theorem ro_S (S : CallFix p m c cc nL s args GW own) (hM : Met l y (mws y bytes maxL ret) rm (va_Pc As (roP D cI cS wc)) (roQ v) 0 0 noF) (cw : CallB R s args own index y bytes maxL ret (mws y bytes maxL ret) rm 0 0 n ∧ (Cond.static y).before args s = true) (hK : KK D cI cS s) (hP : va_P D vwCl ws H) (is : List Nat) (hs : is.filterMap (fun i => ws[i]?) = wc)
    (hn : As.length = n) (hsize : ls.size = nL) (hst : st0 = As.reverse ++ rest) (hW : (rest.map fun v => v.category).sum ≤ 8) (hdg : decode cc pc = .ok (.invokestatic index, 3)) (hcs : cells + 0 ≤ R.cells ∧ slots + 0 ≤ R.slots) (hv : v.toList ++ rest = st1)
    (kk : W p l e R s m args below meth c H locs cells slots Q (F0 m (pc + 3) ls st1)) : W p l e R s m args below meth c H locs cells slots Q (F0 m pc ls st0) := by
  subst hst
  exact ro_go (va_runS S hM cw ⟨roP_blind, fun U hU hW => ⟨rfl, by rw [hU]; exact hP.sub is hs, hK.warm hW⟩⟩ rfl hn hsize rfl (lv_room hW) hdg hcs) hv kk
theorem ro_SN (S : CallFix p m c cc nL s args GW own) (hM : Met l y (mws y bytes maxL ret) rm (va_Pc As (roP D cI cS wc)) (roQ v) 0 0 noF) (cw : va_CN R s args own index y host bytes maxL ret (mws y bytes maxL ret) rm 0 0 n ∧ (Cond.static y).before args s = true ∧ True) (hK : KK D cI cS s) (hP : va_P D vwCl ws H) (is : List Nat) (hs : is.filterMap (fun i => ws[i]?) = wc)
    (hn : As.length = n) (hsize : ls.size = nL) (hst : st0 = As.reverse ++ rest) (hW : (rest.map fun v => v.category).sum ≤ 8) (hdg : decode cc pc = .ok (.invokestatic index, 3)) (hcs : cells + 0 ≤ R.cells ∧ slots + 0 ≤ R.slots) (hv : v.toList ++ rest = st1)
    (kk : W p l e R s m args below meth c H locs cells slots Q (F0 m (pc + 3) ls st1)) : W p l e R s m args below meth c H locs cells slots Q (F0 m pc ls st0) := by
  subst hst
  exact ro_go (va_runSN S hM cw ⟨roP_blind, fun U hU hW => ⟨rfl, by rw [hU]; exact hP.sub is hs, hK.warm hW⟩⟩ rfl hn hsize rfl (lv_room hW) hdg hcs) hv kk
/-- the world behind a call that wrote: of the callee's cells the new contents, the rest as it was, in the old order -/
def mixW (ws wc' : va_W) (src : List (Bool × Nat)) : List (Option (Nat × va_E)) := src.map (fun x => cond x.1 (wc'[x.2]?) (ws[x.2]?))
theorem adr_D {A : Nat → Prop} {w w' : va_W} (hD : va_D A w) (h : w'.map Prod.fst = w.map Prod.fst) : va_D A w' := by
  have key : ∀ (k : Nat) (q : Nat × va_E), w'[k]? = some q → ∃ q0, w[k]? = some q0 ∧ q0.1 = q.1 := by
    intro k q hk
    have h1 : (w'.map Prod.fst)[k]? = some q.1 := by rw [List.getElem?_map, hk]; rfl
    rw [h, List.getElem?_map] at h1
    cases hw : w[k]? with
    | none => rw [hw] at h1; cases h1
    | some q0 => rw [hw] at h1; exact ⟨q0, rfl, Option.some.inj h1⟩
  refine ⟨fun i j x y hi hj hxy => ?_, fun k q hk => ?_⟩
  · obtain ⟨x0, h1, h2⟩ := key i x hi
    obtain ⟨y0, h3, h4⟩ := key j y hj
    exact hD.1 i j x0 y0 h1 h3 (h2.trans (hxy.trans h4.symm))
  · obtain ⟨q0, h1, h2⟩ := key k q hk
    rw [← h2]
    exact hD.2 k q0 h1
theorem mix_P {H1 : Heap} (hP : va_P D vwCl ws H) (hD : va_D A0 ws) (isC : List Nat) (hC : isC.map (fun i => ws[i]?) = wc.map some) (src : List (Bool × Nat)) (hsrc : mixW ws wc' src = ws'.map some) (hno : src.all (fun x => x.1 || !(isC.contains x.2)) = true) (hk : ∀ q : Nat, q < H.size → ¬ inW wc q → H1[q]? = H[q]?) (hP1 : va_P D vwCl wc' H1) : va_P D vwCl ws' H1 := by
  intro k q hq
  have h1 : (ws'.map some)[k]? = some (some q) := by rw [List.getElem?_map, hq]; rfl
  rw [← hsrc, mixW, List.getElem?_map] at h1
  cases hx : src[k]? with
  | none => rw [hx] at h1; cases h1
  | some x =>
    rw [hx] at h1
    have h2 : cond x.1 (wc'[x.2]?) (ws[x.2]?) = some q := Option.some.inj h1
    obtain ⟨bx, i⟩ := x
    cases bx with
    | true => exact hP1 i q h2
    | false =>
      have h3 : ws[i]? = some q := h2
      have hn := List.all_eq_true.mp hno _ (List.mem_of_getElem? hx)
      have hni : i ∉ isC := by simpa using hn
      refine (hP i q h3).kept (hk q.1 (hP i q h3).lt (fun hin => ?_))
      obtain ⟨k2, e2, h4⟩ := hin
      have h5 : (isC.map (fun i => ws[i]?))[k2]? = some (some (q.1, e2)) := by rw [hC, List.getElem?_map, h4]; rfl
      rw [List.getElem?_map] at h5
      cases h6 : isC[k2]? with
      | none => rw [h6] at h5; cases h5
      | some j =>
        rw [h6] at h5
        have h7 : ws[j]? = some (q.1, e2) := Option.some.inj h5
        have h8 := hD.1 i j q (q.1, e2) h3 h7 rfl
        subst h8
        exact hni (List.mem_of_getElem? h6)
theorem wr_go (hr : va_Run p l e R s m args below meth c H locs cells slots 0 0 (F0 m pc ls st0) rest (wrQ D (inW wc) wc' v a) (inW wc)) (hP : va_P D vwCl ws H) (hD : va_D A0 ws) (hS : va_S A0 H0 H locs) (isC : List Nat) (hC : isC.map (fun i => ws[i]?) = wc.map some) (src : List (Bool × Nat)) (hsrc : mixW ws wc' src = ws'.map some) (hno : src.all (fun x => x.1 || !(isC.contains x.2)) = true) (had : ws'.map Prod.fst = ws.map Prod.fst) (hv : v.toList ++ rest = st1)
    (kk : ∀ (H1 : Heap) (locs1 : List Loc), va_P D vwCl ws' H1 → va_D A0 ws' → va_S A0 H0 H1 locs1 → W p l e R s m args below meth c H1 locs1 cells slots Q (F0 m (pc + 3) ls st1)) : W p l e R s m args below meth c H locs cells slots Q (F0 m pc ls st0) := by
  subst hv
  intro T hT X
  obtain ⟨v', st₀, t, T', L, h0, X', hL, e1, -, ⟨hv, hp1, hz, hk⟩, st⟩ := hr T hT X
  cases hv
  rw [h0] at hz hk
  have hin : ∀ q, inW wc q → A0 q := by
    intro q hq
    obtain ⟨k2, e2, h4⟩ := hq
    have h5 : (isC.map (fun i => ws[i]?))[k2]? = some (some (q, e2)) := by rw [hC, List.getElem?_map, h4]; rfl
    rw [List.getElem?_map] at h5
    cases h6 : isC[k2]? with
    | none => rw [h6] at h5; cases h5
    | some j => rw [h6] at h5; exact hD.2 j (q, e2) (Option.some.inj h5)
  obtain ⟨t2, a1, b1⟩ := kk T'.heap (locs ++ L) (by rw [e1]; exact mix_P hP hD isC hC src hsrc hno hk hp1) (adr_D hD had)
    ⟨Nat.le_trans hS.1 (by rw [e1]; exact hz), fun q h1 h2 => by rw [e1, hk q (Nat.lt_of_lt_of_le h1 hS.1) (fun z => h2 (hin q z))]; exact hS.2.1 q h1 h2, fun q hq => by
      rcases List.mem_append.mp hq with h | h
      · exact hS.2.2 q h
      · exact hin _ (hL q h)⟩ T' rfl X'
  exact ⟨t2, st t2 a1, b1⟩
theorem sub_D {A : Nat → Prop} (hD : va_D A ws) (isC : List Nat) (hn : va_nd isC = true) (hC : isC.map (fun i => ws[i]?) = wc.map some) : va_D (fun _ => True) wc := (hD.sub isC hn hC).weaken (fun _ _ _ _ => trivial)
theorem sub_P {H : Heap} (hP : va_P D vwCl ws H) (isC : List Nat) (hC : isC.map (fun i => ws[i]?) = wc.map some) : va_P D vwCl wc H := by
  intro k q hk
  have h5 : (isC.map (fun i => ws[i]?))[k]? = some (some q) := by rw [hC, List.getElem?_map, hk]; rfl
  rw [List.getElem?_map] at h5
  cases h6 : isC[k]? with
  | none => rw [h6] at h5; cases h5
  | some j => rw [h6] at h5; exact hP j q (Option.some.inj h5)
theorem wr_V (S : CallFix p m c cc nL s args GW own) (hM : Met l y (mws y bytes maxL ret) rm (va_Pc (.ref b :: As) (wrP D cI cS wc)) (wrQ D (inW wc) wc' v) 0 0 (inW wc)) (cw : CallW R s args own C index y bytes maxL ret (mws y bytes maxL ret) rm 0 0 n) (hK : KK D cI cS s) (hP : va_P D vwCl ws H) (hD : va_D A0 ws) (hS : va_S A0 H0 H locs) (isC : List Nat) (hnd : va_nd isC = true) (hC : isC.map (fun i => ws[i]?) = wc.map some) (src : List (Bool × Nat)) (hsrc : mixW ws wc' src = ws'.map some) (hno : src.all (fun x => x.1 || !(isC.contains x.2)) = true) (had : ws'.map Prod.fst = ws.map Prod.fst)
    (q0 : Nat) (he : ws[q0]? = some (b, .inr (ci, fs))) (hc : vwCl[ci]? = some r) (hCr : r.1 = C) (hn : As.length = n) (hsize : ls.size = nL) (hst : st0 = As.reverse ++ .ref b :: rest) (hW : (rest.map fun v => v.category).sum ≤ 8) (hdg : decode cc pc = .ok (.invokevirtual index, 3)) (hcs : cells + 0 ≤ R.cells ∧ slots + 0 ≤ R.slots) (hv : v.toList ++ rest = st1)
    (kk : ∀ (H1 : Heap) (locs1 : List Loc), va_P D vwCl ws' H1 → va_D A0 ws' → va_S A0 H0 H1 locs1 → W p l e R s m args below meth c H1 locs1 cells slots Q (F0 m (pc + 3) ls st1)) : W p l e R s m args below meth c H locs cells slots Q (F0 m pc ls st0) := by
  subst hst
  exact wr_go (va_runV S hM cw ⟨wrP_blind, recv1 hK hP q0 he hc hCr, fun U hU hW => ⟨rfl, by rw [hU]; exact sub_P hP isC hC, hK.warm hW, sub_D hD isC hnd hC⟩⟩ rfl hn hsize rfl (lv_room hW) hdg hcs) hP hD hS isC hC src hsrc hno had hv kk
theorem ia_ {f : Ar} {i : Int32} (hexec : p.tables.exec = Jvm.exec) (hb : c.code = cc) (hK : KK D cI cS s) (hP : va_P D vwCl ws H) (q0 : Nat) (he : ws[q0]? = some (b, .inl (cI, n, .inl f))) (hin : vp_in i n) (hdg : decode cc pc = .ok (.iaload, 1))
    (kk : W p l e R s m args below meth c H locs cells slots Q (F0 m (pc + 1) ls (.int (f i.toNatClampNeg) :: rest))) : W p l e R s m args below meth c H locs cells slots Q (F0 m pc ls (.int i :: .ref b :: rest)) := va_iald hexec hb hK.1 hP q0 0 he rfl hin hdg kk
theorem al_ {x : vp_A} {w : Int32} (hexec : p.tables.exec = Jvm.exec) (hb : c.code = cc) (hK : KK D cI cS s) (hP : va_P D vwCl ws H) (q0 : Nat) (he : ws[q0]? = some (b, .inl (cI, x))) (hv : Int32.ofNat x.1 = w) (hdg : decode cc pc = .ok (.arraylength, 1))
    (kk : W p l e R s m args below meth c H locs cells slots Q (F0 m (pc + 1) ls (.int w :: rest))) : W p l e R s m args below meth c H locs cells slots Q (F0 m pc ls (.ref b :: rest)) := va_alen hexec hb hK.1 hP q0 0 he rfl hv hdg kk
theorem is_ {f : Ar} {i x : Int32} (hexec : p.tables.exec = Jvm.exec) (hb : c.code = cc) (hK : KK D cI cS s) (hP : va_P D vwCl ws H) (hD : va_D A0 ws) (hS : va_S A0 H0 H locs) (q0 : Nat) (he : ws[q0]? = some (b, .inl (cI, n, .inl f))) (hU : ws.set q0 (b, .inl (cI, n, .inl (upd f i.toNatClampNeg x))) = ws') (hin : vp_in i n) (hdg : decode cc pc = .ok (.iastore, 1))
    (kk : ∀ (H1 : Heap) (locs1 : List Loc), va_P D vwCl ws' H1 → va_D A0 ws' → va_S A0 H0 H1 locs1 → W p l e R s m args below meth c H1 locs1 cells slots Q (F0 m (pc + 1) ls rest)) : W p l e R s m args below meth c H locs cells slots Q (F0 m pc ls (.int x :: .int i :: .ref b :: rest)) := by
  subst hU
  exact va_iast hexec hb hK.1 hP hD hS q0 0 he rfl hin hdg kk
theorem cp_ {a0 n0 : Nat} {f g : Ar} {sp dp k : Int32} (hexec : p.tables.exec = Jvm.exec) (hb : c.code = cc) (hml : c.maxLocals = ls.size) (hts : ∀ w ∈ GW, w.before args s = true) (hown : s.vm.findClass own = some m.cls) (hlink : Cond.methodLink own index arraycopyName ∈ GW) (hini : Cond.initialized "java/lang/System" ∈ GW) (hK : KK D cI cS s) (hP : va_P D vwCl ws H) (hD : va_D A0 ws) (hS : va_S A0 H0 H locs) (q0 q1 : Nat) (ha0 : ws[q0]? = some (a0, .inl (cI, n0, .inl f))) (ha1 : ws[q1]? = some (b, .inl (cI, n, .inl g)))
    (h1 : ¬ sp < 0) (h2 : ¬ dp < 0) (h3 : ¬ k < 0) (h4 : sp.toNatClampNeg + k.toNatClampNeg ≤ n0) (h5 : dp.toNatClampNeg + k.toNatClampNeg ≤ n) (hU : ws.set q1 (b, .inl (cI, n, .inl (va_cpy f g sp.toNatClampNeg dp.toNatClampNeg k.toNatClampNeg))) = ws') (hframes : 1 ≤ R.frames) (hlocals : (rest.map fun v => v.category).sum + (nativeFrameWords "java/lang/System" "arraycopy" 5 + 11) ≤ R.locals) (hdg : decode cc pc = .ok (.invokestatic index, 3))
    (kk : ∀ (H1 : Heap) (locs1 : List Loc), va_P D vwCl ws' H1 → va_D A0 ws' → va_S A0 H0 H1 locs1 → W p l e R s m args below meth c H1 locs1 cells slots Q (F0 m (pc + 3) ls rest)) : W p l e R s m args below meth c H locs cells slots Q (F0 m pc ls (.int k :: .int dp :: .ref b :: .int sp :: .ref a0 :: rest)) := by
  subst hU
  exact va_copyi hexec hb hml hown (hts _ hlink) (hts _ w_natCopy) (hts _ w_stCopy) (hts _ hini) hK.1 hP hD hS q0 q1 0 0 ha0 ha1 rfl rfl rfl h1 h2 h3 h4 h5 (fun _ _ => rfl) hframes hlocals hdg kk
end RC
section FL
variable {p : Program} {l : Launch} {e : Env} {R : Room} {s : State} {m : MethodId} {args : Array Value} {below : List Frame} {meth : Method} {c : Code} {H : Heap} {locs : List Loc} {cells slots : Nat} {Q : State → Prop}
variable {pc : Nat} {ls : Array Slot} {rest : List Value} {A0 : Nat → Prop} {H0 : Heap}
variable {D : va_G} {cI cS : ClassId} {ws ws' : va_W} {cc : ByteArray} {index : Nat} {own host : String} {b : Nat}
theorem gfX0_0 {f0 f1 f2 f3 f4 f5 : Value} (hexec : p.tables.exec = Jvm.exec) (hb : c.code = cc) (hts : ∀ w ∈ GW, w.before args s = true) (hown : s.vm.findClass own = some m.cls) (hK : KK D cI cS s) (hP : va_P D vwCl ws H) (q0 : Nat) (he : ws[q0]? = some (b, .inr (0, [f0, f1, f2, f3, f4, f5]))) (hl : Cond.fieldLink own index "SoiledTests$Orders" "letters" "[I" ∈ GW) (hdg : decode cc pc = .ok (.getfield index, 3)) (kk : W p l e R s m args below meth c H locs cells slots Q (F0 m (pc + 3) ls (f0 :: rest))) : W p l e R s m args below meth c H locs cells slots Q (F0 m pc ls (.ref b :: rest)) := va_get (T := TX0) (N := 6) hexec hb hts inX0 hown hK.1 hP q0 he rfl 0 (Nat.le_of_ble_eq_true rfl) (hts _ hl) (fun _ h9 => h9) rfl hdg kk
theorem gnX0_0 {f0 f1 f2 f3 f4 f5 : Value} (hexec : p.tables.exec = Jvm.exec) (hb : c.code = cc) (hts : ∀ w ∈ GW, w.before args s = true) (hown : s.vm.findClass own = some m.cls) (hK : KK D cI cS s) (hP : va_P D vwCl ws H) (q0 : Nat) (he : ws[q0]? = some (b, .inr (0, [f0, f1, f2, f3, f4, f5]))) (hl : Cond.fieldLinkNest own index "SoiledTests$Orders" "letters" "[I" host ∈ nW) (hdg : decode cc pc = .ok (.getfield index, 3)) (kk : W p l e R s m args below meth c H locs cells slots Q (F0 m (pc + 3) ls (f0 :: rest))) : W p l e R s m args below meth c H locs cells slots Q (F0 m pc ls (.ref b :: rest)) := va_getN (T := TX0) (N := 6) hexec hb hts inX0 hown hK.1 hP q0 he rfl 0 (Nat.le_of_ble_eq_true rfl) (va_Nw.use rfl (hK.2.1 _ hl)) (fun _ h9 => h9) rfl hdg kk
theorem gfX0_1 {f0 f1 f2 f3 f4 f5 : Value} (hexec : p.tables.exec = Jvm.exec) (hb : c.code = cc) (hts : ∀ w ∈ GW, w.before args s = true) (hown : s.vm.findClass own = some m.cls) (hK : KK D cI cS s) (hP : va_P D vwCl ws H) (q0 : Nat) (he : ws[q0]? = some (b, .inr (0, [f0, f1, f2, f3, f4, f5]))) (hl : Cond.fieldLink own index "SoiledTests$Orders" "numbers" "[I" ∈ GW) (hdg : decode cc pc = .ok (.getfield index, 3)) (kk : W p l e R s m args below meth c H locs cells slots Q (F0 m (pc + 3) ls (f1 :: rest))) : W p l e R s m args below meth c H locs cells slots Q (F0 m pc ls (.ref b :: rest)) := va_get (T := TX0) (N := 6) hexec hb hts inX0 hown hK.1 hP q0 he rfl 1 (Nat.le_of_ble_eq_true rfl) (hts _ hl) (fun _ h9 => h9) rfl hdg kk
theorem gnX0_1 {f0 f1 f2 f3 f4 f5 : Value} (hexec : p.tables.exec = Jvm.exec) (hb : c.code = cc) (hts : ∀ w ∈ GW, w.before args s = true) (hown : s.vm.findClass own = some m.cls) (hK : KK D cI cS s) (hP : va_P D vwCl ws H) (q0 : Nat) (he : ws[q0]? = some (b, .inr (0, [f0, f1, f2, f3, f4, f5]))) (hl : Cond.fieldLinkNest own index "SoiledTests$Orders" "numbers" "[I" host ∈ nW) (hdg : decode cc pc = .ok (.getfield index, 3)) (kk : W p l e R s m args below meth c H locs cells slots Q (F0 m (pc + 3) ls (f1 :: rest))) : W p l e R s m args below meth c H locs cells slots Q (F0 m pc ls (.ref b :: rest)) := va_getN (T := TX0) (N := 6) hexec hb hts inX0 hown hK.1 hP q0 he rfl 1 (Nat.le_of_ble_eq_true rfl) (va_Nw.use rfl (hK.2.1 _ hl)) (fun _ h9 => h9) rfl hdg kk
theorem gfX0_2 {f0 f1 f2 f3 f4 f5 : Value} (hexec : p.tables.exec = Jvm.exec) (hb : c.code = cc) (hts : ∀ w ∈ GW, w.before args s = true) (hown : s.vm.findClass own = some m.cls) (hK : KK D cI cS s) (hP : va_P D vwCl ws H) (q0 : Nat) (he : ws[q0]? = some (b, .inr (0, [f0, f1, f2, f3, f4, f5]))) (hl : Cond.fieldLink own index "SoiledTests$Orders" "size" "I" ∈ GW) (hdg : decode cc pc = .ok (.getfield index, 3)) (kk : W p l e R s m args below meth c H locs cells slots Q (F0 m (pc + 3) ls (f2 :: rest))) : W p l e R s m args below meth c H locs cells slots Q (F0 m pc ls (.ref b :: rest)) := va_get (T := TX0) (N := 6) hexec hb hts inX0 hown hK.1 hP q0 he rfl 2 (Nat.le_of_ble_eq_true rfl) (hts _ hl) (fun _ h9 => h9) rfl hdg kk
theorem gnX0_2 {f0 f1 f2 f3 f4 f5 : Value} (hexec : p.tables.exec = Jvm.exec) (hb : c.code = cc) (hts : ∀ w ∈ GW, w.before args s = true) (hown : s.vm.findClass own = some m.cls) (hK : KK D cI cS s) (hP : va_P D vwCl ws H) (q0 : Nat) (he : ws[q0]? = some (b, .inr (0, [f0, f1, f2, f3, f4, f5]))) (hl : Cond.fieldLinkNest own index "SoiledTests$Orders" "size" "I" host ∈ nW) (hdg : decode cc pc = .ok (.getfield index, 3)) (kk : W p l e R s m args below meth c H locs cells slots Q (F0 m (pc + 3) ls (f2 :: rest))) : W p l e R s m args below meth c H locs cells slots Q (F0 m pc ls (.ref b :: rest)) := va_getN (T := TX0) (N := 6) hexec hb hts inX0 hown hK.1 hP q0 he rfl 2 (Nat.le_of_ble_eq_true rfl) (va_Nw.use rfl (hK.2.1 _ hl)) (fun _ h9 => h9) rfl hdg kk
theorem pfX0_2 {f0 f1 f2 f3 f4 f5 : Value} {v : Int32} (hexec : p.tables.exec = Jvm.exec) (hb : c.code = cc) (hts : ∀ w ∈ GW, w.before args s = true) (hown : s.vm.findClass own = some m.cls) (hK : KK D cI cS s) (hP : va_P D vwCl ws H) (hD : va_D A0 ws) (hS : va_S A0 H0 H locs) (q0 : Nat) (he : ws[q0]? = some (b, .inr (0, [f0, f1, f2, f3, f4, f5]))) (hU : ws.set q0 (b, .inr (0, [f0, f1, .int v, f3, f4, f5])) = ws') (hl : Cond.fieldLink own index "SoiledTests$Orders" "size" "I" ∈ GW) (hdg : decode cc pc = .ok (.putfield index, 3)) (kk : ∀ (H1 : Heap) (locs1 : List Loc), va_P D vwCl ws' H1 → va_D A0 ws' → va_S A0 H0 H1 locs1 → W p l e R s m args below meth c H1 locs1 cells slots Q (F0 m (pc + 3) ls rest)) : W p l e R s m args below meth c H locs cells slots Q (F0 m pc ls (.int v :: .ref b :: rest)) := by
  subst hU
  exact va_put (T := TX0) (N := 6) (ty := .int) hexec hb hts inX0 tyX0 tyX0_ok nmX0 hown hK.1 hP hD hS q0 he rfl 2 (Nat.le_of_ble_eq_true rfl) (hts _ hl) (fun _ h9 => h9) rfl (by decide +kernel) rfl rfl (Nat.le_of_ble_eq_true rfl) hdg kk
theorem gfX0_3 {f0 f1 f2 f3 f4 f5 : Value} (hexec : p.tables.exec = Jvm.exec) (hb : c.code = cc) (hts : ∀ w ∈ GW, w.before args s = true) (hown : s.vm.findClass own = some m.cls) (hK : KK D cI cS s) (hP : va_P D vwCl ws H) (q0 : Nat) (he : ws[q0]? = some (b, .inr (0, [f0, f1, f2, f3, f4, f5]))) (hl : Cond.fieldLink own index "SoiledTests$Orders" "wanted" "I" ∈ GW) (hdg : decode cc pc = .ok (.getfield index, 3)) (kk : W p l e R s m args below meth c H locs cells slots Q (F0 m (pc + 3) ls (f3 :: rest))) : W p l e R s m args below meth c H locs cells slots Q (F0 m pc ls (.ref b :: rest)) := va_get (T := TX0) (N := 6) hexec hb hts inX0 hown hK.1 hP q0 he rfl 3 (Nat.le_of_ble_eq_true rfl) (hts _ hl) (fun _ h9 => h9) rfl hdg kk
theorem gnX0_3 {f0 f1 f2 f3 f4 f5 : Value} (hexec : p.tables.exec = Jvm.exec) (hb : c.code = cc) (hts : ∀ w ∈ GW, w.before args s = true) (hown : s.vm.findClass own = some m.cls) (hK : KK D cI cS s) (hP : va_P D vwCl ws H) (q0 : Nat) (he : ws[q0]? = some (b, .inr (0, [f0, f1, f2, f3, f4, f5]))) (hl : Cond.fieldLinkNest own index "SoiledTests$Orders" "wanted" "I" host ∈ nW) (hdg : decode cc pc = .ok (.getfield index, 3)) (kk : W p l e R s m args below meth c H locs cells slots Q (F0 m (pc + 3) ls (f3 :: rest))) : W p l e R s m args below meth c H locs cells slots Q (F0 m pc ls (.ref b :: rest)) := va_getN (T := TX0) (N := 6) hexec hb hts inX0 hown hK.1 hP q0 he rfl 3 (Nat.le_of_ble_eq_true rfl) (va_Nw.use rfl (hK.2.1 _ hl)) (fun _ h9 => h9) rfl hdg kk
theorem pfX0_3 {f0 f1 f2 f3 f4 f5 : Value} {v : Int32} (hexec : p.tables.exec = Jvm.exec) (hb : c.code = cc) (hts : ∀ w ∈ GW, w.before args s = true) (hown : s.vm.findClass own = some m.cls) (hK : KK D cI cS s) (hP : va_P D vwCl ws H) (hD : va_D A0 ws) (hS : va_S A0 H0 H locs) (q0 : Nat) (he : ws[q0]? = some (b, .inr (0, [f0, f1, f2, f3, f4, f5]))) (hU : ws.set q0 (b, .inr (0, [f0, f1, f2, .int v, f4, f5])) = ws') (hl : Cond.fieldLink own index "SoiledTests$Orders" "wanted" "I" ∈ GW) (hdg : decode cc pc = .ok (.putfield index, 3)) (kk : ∀ (H1 : Heap) (locs1 : List Loc), va_P D vwCl ws' H1 → va_D A0 ws' → va_S A0 H0 H1 locs1 → W p l e R s m args below meth c H1 locs1 cells slots Q (F0 m (pc + 3) ls rest)) : W p l e R s m args below meth c H locs cells slots Q (F0 m pc ls (.int v :: .ref b :: rest)) := by
  subst hU
  exact va_put (T := TX0) (N := 6) (ty := .int) hexec hb hts inX0 tyX0 tyX0_ok nmX0 hown hK.1 hP hD hS q0 he rfl 3 (Nat.le_of_ble_eq_true rfl) (hts _ hl) (fun _ h9 => h9) rfl (by decide +kernel) rfl rfl (Nat.le_of_ble_eq_true rfl) hdg kk
theorem gfX0_4 {f0 f1 f2 f3 f4 f5 : Value} (hexec : p.tables.exec = Jvm.exec) (hb : c.code = cc) (hts : ∀ w ∈ GW, w.before args s = true) (hown : s.vm.findClass own = some m.cls) (hK : KK D cI cS s) (hP : va_P D vwCl ws H) (q0 : Nat) (he : ws[q0]? = some (b, .inr (0, [f0, f1, f2, f3, f4, f5]))) (hl : Cond.fieldLink own index "SoiledTests$Orders" "begun" "I" ∈ GW) (hdg : decode cc pc = .ok (.getfield index, 3)) (kk : W p l e R s m args below meth c H locs cells slots Q (F0 m (pc + 3) ls (f4 :: rest))) : W p l e R s m args below meth c H locs cells slots Q (F0 m pc ls (.ref b :: rest)) := va_get (T := TX0) (N := 6) hexec hb hts inX0 hown hK.1 hP q0 he rfl 4 (Nat.le_of_ble_eq_true rfl) (hts _ hl) (fun _ h9 => h9) rfl hdg kk
theorem gnX0_4 {f0 f1 f2 f3 f4 f5 : Value} (hexec : p.tables.exec = Jvm.exec) (hb : c.code = cc) (hts : ∀ w ∈ GW, w.before args s = true) (hown : s.vm.findClass own = some m.cls) (hK : KK D cI cS s) (hP : va_P D vwCl ws H) (q0 : Nat) (he : ws[q0]? = some (b, .inr (0, [f0, f1, f2, f3, f4, f5]))) (hl : Cond.fieldLinkNest own index "SoiledTests$Orders" "begun" "I" host ∈ nW) (hdg : decode cc pc = .ok (.getfield index, 3)) (kk : W p l e R s m args below meth c H locs cells slots Q (F0 m (pc + 3) ls (f4 :: rest))) : W p l e R s m args below meth c H locs cells slots Q (F0 m pc ls (.ref b :: rest)) := va_getN (T := TX0) (N := 6) hexec hb hts inX0 hown hK.1 hP q0 he rfl 4 (Nat.le_of_ble_eq_true rfl) (va_Nw.use rfl (hK.2.1 _ hl)) (fun _ h9 => h9) rfl hdg kk
theorem pfX0_4 {f0 f1 f2 f3 f4 f5 : Value} {v : Int32} (hexec : p.tables.exec = Jvm.exec) (hb : c.code = cc) (hts : ∀ w ∈ GW, w.before args s = true) (hown : s.vm.findClass own = some m.cls) (hK : KK D cI cS s) (hP : va_P D vwCl ws H) (hD : va_D A0 ws) (hS : va_S A0 H0 H locs) (q0 : Nat) (he : ws[q0]? = some (b, .inr (0, [f0, f1, f2, f3, f4, f5]))) (hU : ws.set q0 (b, .inr (0, [f0, f1, f2, f3, .int v, f5])) = ws') (hl : Cond.fieldLink own index "SoiledTests$Orders" "begun" "I" ∈ GW) (hdg : decode cc pc = .ok (.putfield index, 3)) (kk : ∀ (H1 : Heap) (locs1 : List Loc), va_P D vwCl ws' H1 → va_D A0 ws' → va_S A0 H0 H1 locs1 → W p l e R s m args below meth c H1 locs1 cells slots Q (F0 m (pc + 3) ls rest)) : W p l e R s m args below meth c H locs cells slots Q (F0 m pc ls (.int v :: .ref b :: rest)) := by
  subst hU
  exact va_put (T := TX0) (N := 6) (ty := .int) hexec hb hts inX0 tyX0 tyX0_ok nmX0 hown hK.1 hP hD hS q0 he rfl 4 (Nat.le_of_ble_eq_true rfl) (hts _ hl) (fun _ h9 => h9) rfl (by decide +kernel) rfl rfl (Nat.le_of_ble_eq_true rfl) hdg kk
theorem gfX0_5 {f0 f1 f2 f3 f4 f5 : Value} (hexec : p.tables.exec = Jvm.exec) (hb : c.code = cc) (hts : ∀ w ∈ GW, w.before args s = true) (hown : s.vm.findClass own = some m.cls) (hK : KK D cI cS s) (hP : va_P D vwCl ws H) (q0 : Nat) (he : ws[q0]? = some (b, .inr (0, [f0, f1, f2, f3, f4, f5]))) (hl : Cond.fieldLink own index "SoiledTests$Orders" "figures" "I" ∈ GW) (hdg : decode cc pc = .ok (.getfield index, 3)) (kk : W p l e R s m args below meth c H locs cells slots Q (F0 m (pc + 3) ls (f5 :: rest))) : W p l e R s m args below meth c H locs cells slots Q (F0 m pc ls (.ref b :: rest)) := va_get (T := TX0) (N := 6) hexec hb hts inX0 hown hK.1 hP q0 he rfl 5 (Nat.le_of_ble_eq_true rfl) (hts _ hl) (fun _ h9 => h9) rfl hdg kk
theorem gnX0_5 {f0 f1 f2 f3 f4 f5 : Value} (hexec : p.tables.exec = Jvm.exec) (hb : c.code = cc) (hts : ∀ w ∈ GW, w.before args s = true) (hown : s.vm.findClass own = some m.cls) (hK : KK D cI cS s) (hP : va_P D vwCl ws H) (q0 : Nat) (he : ws[q0]? = some (b, .inr (0, [f0, f1, f2, f3, f4, f5]))) (hl : Cond.fieldLinkNest own index "SoiledTests$Orders" "figures" "I" host ∈ nW) (hdg : decode cc pc = .ok (.getfield index, 3)) (kk : W p l e R s m args below meth c H locs cells slots Q (F0 m (pc + 3) ls (f5 :: rest))) : W p l e R s m args below meth c H locs cells slots Q (F0 m pc ls (.ref b :: rest)) := va_getN (T := TX0) (N := 6) hexec hb hts inX0 hown hK.1 hP q0 he rfl 5 (Nat.le_of_ble_eq_true rfl) (va_Nw.use rfl (hK.2.1 _ hl)) (fun _ h9 => h9) rfl hdg kk
theorem pfX0_5 {f0 f1 f2 f3 f4 f5 : Value} {v : Int32} (hexec : p.tables.exec = Jvm.exec) (hb : c.code = cc) (hts : ∀ w ∈ GW, w.before args s = true) (hown : s.vm.findClass own = some m.cls) (hK : KK D cI cS s) (hP : va_P D vwCl ws H) (hD : va_D A0 ws) (hS : va_S A0 H0 H locs) (q0 : Nat) (he : ws[q0]? = some (b, .inr (0, [f0, f1, f2, f3, f4, f5]))) (hU : ws.set q0 (b, .inr (0, [f0, f1, f2, f3, f4, .int v])) = ws') (hl : Cond.fieldLink own index "SoiledTests$Orders" "figures" "I" ∈ GW) (hdg : decode cc pc = .ok (.putfield index, 3)) (kk : ∀ (H1 : Heap) (locs1 : List Loc), va_P D vwCl ws' H1 → va_D A0 ws' → va_S A0 H0 H1 locs1 → W p l e R s m args below meth c H1 locs1 cells slots Q (F0 m (pc + 3) ls rest)) : W p l e R s m args below meth c H locs cells slots Q (F0 m pc ls (.int v :: .ref b :: rest)) := by
  subst hU
  exact va_put (T := TX0) (N := 6) (ty := .int) hexec hb hts inX0 tyX0 tyX0_ok nmX0 hown hK.1 hP hD hS q0 he rfl 5 (Nat.le_of_ble_eq_true rfl) (hts _ hl) (fun _ h9 => h9) rfl (by decide +kernel) rfl rfl (Nat.le_of_ble_eq_true rfl) hdg kk
theorem gfX1_0 {f0 f1 f2 : Value} (hexec : p.tables.exec = Jvm.exec) (hb : c.code = cc) (hts : ∀ w ∈ GW, w.before args s = true) (hown : s.vm.findClass own = some m.cls) (hK : KK D cI cS s) (hP : va_P D vwCl ws H) (q0 : Nat) (he : ws[q0]? = some (b, .inr (1, [f0, f1, f2]))) (hl : Cond.fieldLink own index "SoiledTests$Past" "slots" "[LSoiledTests$Suite;" ∈ GW) (hdg : decode cc pc = .ok (.getfield index, 3)) (kk : W p l e R s m args below meth c H locs cells slots Q (F0 m (pc + 3) ls (f0 :: rest))) : W p l e R s m args below meth c H locs cells slots Q (F0 m pc ls (.ref b :: rest)) := va_get (T := TX1) (N := 3) hexec hb hts inX1 hown hK.1 hP q0 he rfl 0 (Nat.le_of_ble_eq_true rfl) (hts _ hl) (fun _ h9 => h9) rfl hdg kk
theorem gnX1_0 {f0 f1 f2 : Value} (hexec : p.tables.exec = Jvm.exec) (hb : c.code = cc) (hts : ∀ w ∈ GW, w.before args s = true) (hown : s.vm.findClass own = some m.cls) (hK : KK D cI cS s) (hP : va_P D vwCl ws H) (q0 : Nat) (he : ws[q0]? = some (b, .inr (1, [f0, f1, f2]))) (hl : Cond.fieldLinkNest own index "SoiledTests$Past" "slots" "[LSoiledTests$Suite;" host ∈ nW) (hdg : decode cc pc = .ok (.getfield index, 3)) (kk : W p l e R s m args below meth c H locs cells slots Q (F0 m (pc + 3) ls (f0 :: rest))) : W p l e R s m args below meth c H locs cells slots Q (F0 m pc ls (.ref b :: rest)) := va_getN (T := TX1) (N := 3) hexec hb hts inX1 hown hK.1 hP q0 he rfl 0 (Nat.le_of_ble_eq_true rfl) (va_Nw.use rfl (hK.2.1 _ hl)) (fun _ h9 => h9) rfl hdg kk
theorem gfX1_1 {f0 f1 f2 : Value} (hexec : p.tables.exec = Jvm.exec) (hb : c.code = cc) (hts : ∀ w ∈ GW, w.before args s = true) (hown : s.vm.findClass own = some m.cls) (hK : KK D cI cS s) (hP : va_P D vwCl ws H) (q0 : Nat) (he : ws[q0]? = some (b, .inr (1, [f0, f1, f2]))) (hl : Cond.fieldLink own index "SoiledTests$Past" "size" "I" ∈ GW) (hdg : decode cc pc = .ok (.getfield index, 3)) (kk : W p l e R s m args below meth c H locs cells slots Q (F0 m (pc + 3) ls (f1 :: rest))) : W p l e R s m args below meth c H locs cells slots Q (F0 m pc ls (.ref b :: rest)) := va_get (T := TX1) (N := 3) hexec hb hts inX1 hown hK.1 hP q0 he rfl 1 (Nat.le_of_ble_eq_true rfl) (hts _ hl) (fun _ h9 => h9) rfl hdg kk
theorem gnX1_1 {f0 f1 f2 : Value} (hexec : p.tables.exec = Jvm.exec) (hb : c.code = cc) (hts : ∀ w ∈ GW, w.before args s = true) (hown : s.vm.findClass own = some m.cls) (hK : KK D cI cS s) (hP : va_P D vwCl ws H) (q0 : Nat) (he : ws[q0]? = some (b, .inr (1, [f0, f1, f2]))) (hl : Cond.fieldLinkNest own index "SoiledTests$Past" "size" "I" host ∈ nW) (hdg : decode cc pc = .ok (.getfield index, 3)) (kk : W p l e R s m args below meth c H locs cells slots Q (F0 m (pc + 3) ls (f1 :: rest))) : W p l e R s m args below meth c H locs cells slots Q (F0 m pc ls (.ref b :: rest)) := va_getN (T := TX1) (N := 3) hexec hb hts inX1 hown hK.1 hP q0 he rfl 1 (Nat.le_of_ble_eq_true rfl) (va_Nw.use rfl (hK.2.1 _ hl)) (fun _ h9 => h9) rfl hdg kk
theorem pfX1_1 {f0 f1 f2 : Value} {v : Int32} (hexec : p.tables.exec = Jvm.exec) (hb : c.code = cc) (hts : ∀ w ∈ GW, w.before args s = true) (hown : s.vm.findClass own = some m.cls) (hK : KK D cI cS s) (hP : va_P D vwCl ws H) (hD : va_D A0 ws) (hS : va_S A0 H0 H locs) (q0 : Nat) (he : ws[q0]? = some (b, .inr (1, [f0, f1, f2]))) (hU : ws.set q0 (b, .inr (1, [f0, .int v, f2])) = ws') (hl : Cond.fieldLink own index "SoiledTests$Past" "size" "I" ∈ GW) (hdg : decode cc pc = .ok (.putfield index, 3)) (kk : ∀ (H1 : Heap) (locs1 : List Loc), va_P D vwCl ws' H1 → va_D A0 ws' → va_S A0 H0 H1 locs1 → W p l e R s m args below meth c H1 locs1 cells slots Q (F0 m (pc + 3) ls rest)) : W p l e R s m args below meth c H locs cells slots Q (F0 m pc ls (.int v :: .ref b :: rest)) := by
  subst hU
  exact va_put (T := TX1) (N := 3) (ty := .int) hexec hb hts inX1 tyX1 tyX1_ok nmX1 hown hK.1 hP hD hS q0 he rfl 1 (Nat.le_of_ble_eq_true rfl) (hts _ hl) (fun _ h9 => h9) rfl (by decide +kernel) rfl rfl (Nat.le_of_ble_eq_true rfl) hdg kk
theorem gfX1_2 {f0 f1 f2 : Value} (hexec : p.tables.exec = Jvm.exec) (hb : c.code = cc) (hts : ∀ w ∈ GW, w.before args s = true) (hown : s.vm.findClass own = some m.cls) (hK : KK D cI cS s) (hP : va_P D vwCl ws H) (q0 : Nat) (he : ws[q0]? = some (b, .inr (1, [f0, f1, f2]))) (hl : Cond.fieldLink own index "SoiledTests$Past" "marked" "I" ∈ GW) (hdg : decode cc pc = .ok (.getfield index, 3)) (kk : W p l e R s m args below meth c H locs cells slots Q (F0 m (pc + 3) ls (f2 :: rest))) : W p l e R s m args below meth c H locs cells slots Q (F0 m pc ls (.ref b :: rest)) := va_get (T := TX1) (N := 3) hexec hb hts inX1 hown hK.1 hP q0 he rfl 2 (Nat.le_of_ble_eq_true rfl) (hts _ hl) (fun _ h9 => h9) rfl hdg kk
theorem gnX1_2 {f0 f1 f2 : Value} (hexec : p.tables.exec = Jvm.exec) (hb : c.code = cc) (hts : ∀ w ∈ GW, w.before args s = true) (hown : s.vm.findClass own = some m.cls) (hK : KK D cI cS s) (hP : va_P D vwCl ws H) (q0 : Nat) (he : ws[q0]? = some (b, .inr (1, [f0, f1, f2]))) (hl : Cond.fieldLinkNest own index "SoiledTests$Past" "marked" "I" host ∈ nW) (hdg : decode cc pc = .ok (.getfield index, 3)) (kk : W p l e R s m args below meth c H locs cells slots Q (F0 m (pc + 3) ls (f2 :: rest))) : W p l e R s m args below meth c H locs cells slots Q (F0 m pc ls (.ref b :: rest)) := va_getN (T := TX1) (N := 3) hexec hb hts inX1 hown hK.1 hP q0 he rfl 2 (Nat.le_of_ble_eq_true rfl) (va_Nw.use rfl (hK.2.1 _ hl)) (fun _ h9 => h9) rfl hdg kk
theorem pfX1_2 {f0 f1 f2 : Value} {v : Int32} (hexec : p.tables.exec = Jvm.exec) (hb : c.code = cc) (hts : ∀ w ∈ GW, w.before args s = true) (hown : s.vm.findClass own = some m.cls) (hK : KK D cI cS s) (hP : va_P D vwCl ws H) (hD : va_D A0 ws) (hS : va_S A0 H0 H locs) (q0 : Nat) (he : ws[q0]? = some (b, .inr (1, [f0, f1, f2]))) (hU : ws.set q0 (b, .inr (1, [f0, f1, .int v])) = ws') (hl : Cond.fieldLink own index "SoiledTests$Past" "marked" "I" ∈ GW) (hdg : decode cc pc = .ok (.putfield index, 3)) (kk : ∀ (H1 : Heap) (locs1 : List Loc), va_P D vwCl ws' H1 → va_D A0 ws' → va_S A0 H0 H1 locs1 → W p l e R s m args below meth c H1 locs1 cells slots Q (F0 m (pc + 3) ls rest)) : W p l e R s m args below meth c H locs cells slots Q (F0 m pc ls (.int v :: .ref b :: rest)) := by
  subst hU
  exact va_put (T := TX1) (N := 3) (ty := .int) hexec hb hts inX1 tyX1 tyX1_ok nmX1 hown hK.1 hP hD hS q0 he rfl 2 (Nat.le_of_ble_eq_true rfl) (hts _ hl) (fun _ h9 => h9) rfl (by decide +kernel) rfl rfl (Nat.le_of_ble_eq_true rfl) hdg kk
theorem gfX3_0 {f0 f1 : Value} (hexec : p.tables.exec = Jvm.exec) (hb : c.code = cc) (hts : ∀ w ∈ GW, w.before args s = true) (hown : s.vm.findClass own = some m.cls) (hK : KK D cI cS s) (hP : va_P D vwCl ws H) (q0 : Nat) (he : ws[q0]? = some (b, .inr (2, [f0, f1]))) (hl : Cond.fieldLink own index "SoiledTests$Row" "tests" "[I" ∈ GW) (hdg : decode cc pc = .ok (.getfield index, 3)) (kk : W p l e R s m args below meth c H locs cells slots Q (F0 m (pc + 3) ls (f0 :: rest))) : W p l e R s m args below meth c H locs cells slots Q (F0 m pc ls (.ref b :: rest)) := va_get (T := TX3) (N := 2) hexec hb hts inX3 hown hK.1 hP q0 he rfl 0 (Nat.le_of_ble_eq_true rfl) (hts _ hl) (fun _ h9 => h9) rfl hdg kk
theorem gnX3_0 {f0 f1 : Value} (hexec : p.tables.exec = Jvm.exec) (hb : c.code = cc) (hts : ∀ w ∈ GW, w.before args s = true) (hown : s.vm.findClass own = some m.cls) (hK : KK D cI cS s) (hP : va_P D vwCl ws H) (q0 : Nat) (he : ws[q0]? = some (b, .inr (2, [f0, f1]))) (hl : Cond.fieldLinkNest own index "SoiledTests$Row" "tests" "[I" host ∈ nW) (hdg : decode cc pc = .ok (.getfield index, 3)) (kk : W p l e R s m args below meth c H locs cells slots Q (F0 m (pc + 3) ls (f0 :: rest))) : W p l e R s m args below meth c H locs cells slots Q (F0 m pc ls (.ref b :: rest)) := va_getN (T := TX3) (N := 2) hexec hb hts inX3 hown hK.1 hP q0 he rfl 0 (Nat.le_of_ble_eq_true rfl) (va_Nw.use rfl (hK.2.1 _ hl)) (fun _ h9 => h9) rfl hdg kk
theorem gfX3_1 {f0 f1 : Value} (hexec : p.tables.exec = Jvm.exec) (hb : c.code = cc) (hts : ∀ w ∈ GW, w.before args s = true) (hown : s.vm.findClass own = some m.cls) (hK : KK D cI cS s) (hP : va_P D vwCl ws H) (q0 : Nat) (he : ws[q0]? = some (b, .inr (2, [f0, f1]))) (hl : Cond.fieldLink own index "SoiledTests$Row" "size" "I" ∈ GW) (hdg : decode cc pc = .ok (.getfield index, 3)) (kk : W p l e R s m args below meth c H locs cells slots Q (F0 m (pc + 3) ls (f1 :: rest))) : W p l e R s m args below meth c H locs cells slots Q (F0 m pc ls (.ref b :: rest)) := va_get (T := TX3) (N := 2) hexec hb hts inX3 hown hK.1 hP q0 he rfl 1 (Nat.le_of_ble_eq_true rfl) (hts _ hl) (fun _ h9 => h9) rfl hdg kk
theorem gnX3_1 {f0 f1 : Value} (hexec : p.tables.exec = Jvm.exec) (hb : c.code = cc) (hts : ∀ w ∈ GW, w.before args s = true) (hown : s.vm.findClass own = some m.cls) (hK : KK D cI cS s) (hP : va_P D vwCl ws H) (q0 : Nat) (he : ws[q0]? = some (b, .inr (2, [f0, f1]))) (hl : Cond.fieldLinkNest own index "SoiledTests$Row" "size" "I" host ∈ nW) (hdg : decode cc pc = .ok (.getfield index, 3)) (kk : W p l e R s m args below meth c H locs cells slots Q (F0 m (pc + 3) ls (f1 :: rest))) : W p l e R s m args below meth c H locs cells slots Q (F0 m pc ls (.ref b :: rest)) := va_getN (T := TX3) (N := 2) hexec hb hts inX3 hown hK.1 hP q0 he rfl 1 (Nat.le_of_ble_eq_true rfl) (va_Nw.use rfl (hK.2.1 _ hl)) (fun _ h9 => h9) rfl hdg kk
theorem pfX3_1 {f0 f1 : Value} {v : Int32} (hexec : p.tables.exec = Jvm.exec) (hb : c.code = cc) (hts : ∀ w ∈ GW, w.before args s = true) (hown : s.vm.findClass own = some m.cls) (hK : KK D cI cS s) (hP : va_P D vwCl ws H) (hD : va_D A0 ws) (hS : va_S A0 H0 H locs) (q0 : Nat) (he : ws[q0]? = some (b, .inr (2, [f0, f1]))) (hU : ws.set q0 (b, .inr (2, [f0, .int v])) = ws') (hl : Cond.fieldLink own index "SoiledTests$Row" "size" "I" ∈ GW) (hdg : decode cc pc = .ok (.putfield index, 3)) (kk : ∀ (H1 : Heap) (locs1 : List Loc), va_P D vwCl ws' H1 → va_D A0 ws' → va_S A0 H0 H1 locs1 → W p l e R s m args below meth c H1 locs1 cells slots Q (F0 m (pc + 3) ls rest)) : W p l e R s m args below meth c H locs cells slots Q (F0 m pc ls (.int v :: .ref b :: rest)) := by
  subst hU
  exact va_put (T := TX3) (N := 2) (ty := .int) hexec hb hts inX3 tyX3 tyX3_ok nmX3 hown hK.1 hP hD hS q0 he rfl 1 (Nat.le_of_ble_eq_true rfl) (hts _ hl) (fun _ h9 => h9) rfl (by decide +kernel) rfl rfl (Nat.le_of_ble_eq_true rfl) hdg kk
theorem gfX4_0 {f0 f1 f2 f3 f4 : Value} (hexec : p.tables.exec = Jvm.exec) (hb : c.code = cc) (hts : ∀ w ∈ GW, w.before args s = true) (hown : s.vm.findClass own = some m.cls) (hK : KK D cI cS s) (hP : va_P D vwCl ws H) (q0 : Nat) (he : ws[q0]? = some (b, .inr (3, [f0, f1, f2, f3, f4]))) (hl : Cond.fieldLink own index "SoiledTests$Suite" "masks" "[I" ∈ GW) (hdg : decode cc pc = .ok (.getfield index, 3)) (kk : W p l e R s m args below meth c H locs cells slots Q (F0 m (pc + 3) ls (f0 :: rest))) : W p l e R s m args below meth c H locs cells slots Q (F0 m pc ls (.ref b :: rest)) := va_get (T := TX4) (N := 5) hexec hb hts inX4 hown hK.1 hP q0 he rfl 0 (Nat.le_of_ble_eq_true rfl) (hts _ hl) (fun _ h9 => h9) rfl hdg kk
theorem gnX4_0 {f0 f1 f2 f3 f4 : Value} (hexec : p.tables.exec = Jvm.exec) (hb : c.code = cc) (hts : ∀ w ∈ GW, w.before args s = true) (hown : s.vm.findClass own = some m.cls) (hK : KK D cI cS s) (hP : va_P D vwCl ws H) (q0 : Nat) (he : ws[q0]? = some (b, .inr (3, [f0, f1, f2, f3, f4]))) (hl : Cond.fieldLinkNest own index "SoiledTests$Suite" "masks" "[I" host ∈ nW) (hdg : decode cc pc = .ok (.getfield index, 3)) (kk : W p l e R s m args below meth c H locs cells slots Q (F0 m (pc + 3) ls (f0 :: rest))) : W p l e R s m args below meth c H locs cells slots Q (F0 m pc ls (.ref b :: rest)) := va_getN (T := TX4) (N := 5) hexec hb hts inX4 hown hK.1 hP q0 he rfl 0 (Nat.le_of_ble_eq_true rfl) (va_Nw.use rfl (hK.2.1 _ hl)) (fun _ h9 => h9) rfl hdg kk
theorem gfX4_1 {f0 f1 f2 f3 f4 : Value} (hexec : p.tables.exec = Jvm.exec) (hb : c.code = cc) (hts : ∀ w ∈ GW, w.before args s = true) (hown : s.vm.findClass own = some m.cls) (hK : KK D cI cS s) (hP : va_P D vwCl ws H) (q0 : Nat) (he : ws[q0]? = some (b, .inr (3, [f0, f1, f2, f3, f4]))) (hl : Cond.fieldLink own index "SoiledTests$Suite" "row" "LSoiledTests$Row;" ∈ GW) (hdg : decode cc pc = .ok (.getfield index, 3)) (kk : W p l e R s m args below meth c H locs cells slots Q (F0 m (pc + 3) ls (f1 :: rest))) : W p l e R s m args below meth c H locs cells slots Q (F0 m pc ls (.ref b :: rest)) := va_get (T := TX4) (N := 5) hexec hb hts inX4 hown hK.1 hP q0 he rfl 1 (Nat.le_of_ble_eq_true rfl) (hts _ hl) (fun _ h9 => h9) rfl hdg kk
theorem gnX4_1 {f0 f1 f2 f3 f4 : Value} (hexec : p.tables.exec = Jvm.exec) (hb : c.code = cc) (hts : ∀ w ∈ GW, w.before args s = true) (hown : s.vm.findClass own = some m.cls) (hK : KK D cI cS s) (hP : va_P D vwCl ws H) (q0 : Nat) (he : ws[q0]? = some (b, .inr (3, [f0, f1, f2, f3, f4]))) (hl : Cond.fieldLinkNest own index "SoiledTests$Suite" "row" "LSoiledTests$Row;" host ∈ nW) (hdg : decode cc pc = .ok (.getfield index, 3)) (kk : W p l e R s m args below meth c H locs cells slots Q (F0 m (pc + 3) ls (f1 :: rest))) : W p l e R s m args below meth c H locs cells slots Q (F0 m pc ls (.ref b :: rest)) := va_getN (T := TX4) (N := 5) hexec hb hts inX4 hown hK.1 hP q0 he rfl 1 (Nat.le_of_ble_eq_true rfl) (va_Nw.use rfl (hK.2.1 _ hl)) (fun _ h9 => h9) rfl hdg kk
theorem gfX4_2 {f0 f1 f2 f3 f4 : Value} (hexec : p.tables.exec = Jvm.exec) (hb : c.code = cc) (hts : ∀ w ∈ GW, w.before args s = true) (hown : s.vm.findClass own = some m.cls) (hK : KK D cI cS s) (hP : va_P D vwCl ws H) (q0 : Nat) (he : ws[q0]? = some (b, .inr (3, [f0, f1, f2, f3, f4]))) (hl : Cond.fieldLink own index "SoiledTests$Suite" "size" "I" ∈ GW) (hdg : decode cc pc = .ok (.getfield index, 3)) (kk : W p l e R s m args below meth c H locs cells slots Q (F0 m (pc + 3) ls (f2 :: rest))) : W p l e R s m args below meth c H locs cells slots Q (F0 m pc ls (.ref b :: rest)) := va_get (T := TX4) (N := 5) hexec hb hts inX4 hown hK.1 hP q0 he rfl 2 (Nat.le_of_ble_eq_true rfl) (hts _ hl) (fun _ h9 => h9) rfl hdg kk
theorem gnX4_2 {f0 f1 f2 f3 f4 : Value} (hexec : p.tables.exec = Jvm.exec) (hb : c.code = cc) (hts : ∀ w ∈ GW, w.before args s = true) (hown : s.vm.findClass own = some m.cls) (hK : KK D cI cS s) (hP : va_P D vwCl ws H) (q0 : Nat) (he : ws[q0]? = some (b, .inr (3, [f0, f1, f2, f3, f4]))) (hl : Cond.fieldLinkNest own index "SoiledTests$Suite" "size" "I" host ∈ nW) (hdg : decode cc pc = .ok (.getfield index, 3)) (kk : W p l e R s m args below meth c H locs cells slots Q (F0 m (pc + 3) ls (f2 :: rest))) : W p l e R s m args below meth c H locs cells slots Q (F0 m pc ls (.ref b :: rest)) := va_getN (T := TX4) (N := 5) hexec hb hts inX4 hown hK.1 hP q0 he rfl 2 (Nat.le_of_ble_eq_true rfl) (va_Nw.use rfl (hK.2.1 _ hl)) (fun _ h9 => h9) rfl hdg kk
theorem pfX4_2 {f0 f1 f2 f3 f4 : Value} {v : Int32} (hexec : p.tables.exec = Jvm.exec) (hb : c.code = cc) (hts : ∀ w ∈ GW, w.before args s = true) (hown : s.vm.findClass own = some m.cls) (hK : KK D cI cS s) (hP : va_P D vwCl ws H) (hD : va_D A0 ws) (hS : va_S A0 H0 H locs) (q0 : Nat) (he : ws[q0]? = some (b, .inr (3, [f0, f1, f2, f3, f4]))) (hU : ws.set q0 (b, .inr (3, [f0, f1, .int v, f3, f4])) = ws') (hl : Cond.fieldLink own index "SoiledTests$Suite" "size" "I" ∈ GW) (hdg : decode cc pc = .ok (.putfield index, 3)) (kk : ∀ (H1 : Heap) (locs1 : List Loc), va_P D vwCl ws' H1 → va_D A0 ws' → va_S A0 H0 H1 locs1 → W p l e R s m args below meth c H1 locs1 cells slots Q (F0 m (pc + 3) ls rest)) : W p l e R s m args below meth c H locs cells slots Q (F0 m pc ls (.int v :: .ref b :: rest)) := by
  subst hU
  exact va_put (T := TX4) (N := 5) (ty := .int) hexec hb hts inX4 tyX4 tyX4_ok nmX4 hown hK.1 hP hD hS q0 he rfl 2 (Nat.le_of_ble_eq_true rfl) (hts _ hl) (fun _ h9 => h9) rfl (by decide +kernel) rfl rfl (Nat.le_of_ble_eq_true rfl) hdg kk
theorem gfX4_3 {f0 f1 f2 f3 f4 : Value} (hexec : p.tables.exec = Jvm.exec) (hb : c.code = cc) (hts : ∀ w ∈ GW, w.before args s = true) (hown : s.vm.findClass own = some m.cls) (hK : KK D cI cS s) (hP : va_P D vwCl ws H) (q0 : Nat) (he : ws[q0]? = some (b, .inr (3, [f0, f1, f2, f3, f4]))) (hl : Cond.fieldLink own index "SoiledTests$Suite" "startCells" "I" ∈ GW) (hdg : decode cc pc = .ok (.getfield index, 3)) (kk : W p l e R s m args below meth c H locs cells slots Q (F0 m (pc + 3) ls (f3 :: rest))) : W p l e R s m args below meth c H locs cells slots Q (F0 m pc ls (.ref b :: rest)) := va_get (T := TX4) (N := 5) hexec hb hts inX4 hown hK.1 hP q0 he rfl 3 (Nat.le_of_ble_eq_true rfl) (hts _ hl) (fun _ h9 => h9) rfl hdg kk
theorem gnX4_3 {f0 f1 f2 f3 f4 : Value} (hexec : p.tables.exec = Jvm.exec) (hb : c.code = cc) (hts : ∀ w ∈ GW, w.before args s = true) (hown : s.vm.findClass own = some m.cls) (hK : KK D cI cS s) (hP : va_P D vwCl ws H) (q0 : Nat) (he : ws[q0]? = some (b, .inr (3, [f0, f1, f2, f3, f4]))) (hl : Cond.fieldLinkNest own index "SoiledTests$Suite" "startCells" "I" host ∈ nW) (hdg : decode cc pc = .ok (.getfield index, 3)) (kk : W p l e R s m args below meth c H locs cells slots Q (F0 m (pc + 3) ls (f3 :: rest))) : W p l e R s m args below meth c H locs cells slots Q (F0 m pc ls (.ref b :: rest)) := va_getN (T := TX4) (N := 5) hexec hb hts inX4 hown hK.1 hP q0 he rfl 3 (Nat.le_of_ble_eq_true rfl) (va_Nw.use rfl (hK.2.1 _ hl)) (fun _ h9 => h9) rfl hdg kk
theorem pfX4_3 {f0 f1 f2 f3 f4 : Value} {v : Int32} (hexec : p.tables.exec = Jvm.exec) (hb : c.code = cc) (hts : ∀ w ∈ GW, w.before args s = true) (hown : s.vm.findClass own = some m.cls) (hK : KK D cI cS s) (hP : va_P D vwCl ws H) (hD : va_D A0 ws) (hS : va_S A0 H0 H locs) (q0 : Nat) (he : ws[q0]? = some (b, .inr (3, [f0, f1, f2, f3, f4]))) (hU : ws.set q0 (b, .inr (3, [f0, f1, f2, .int v, f4])) = ws') (hl : Cond.fieldLink own index "SoiledTests$Suite" "startCells" "I" ∈ GW) (hdg : decode cc pc = .ok (.putfield index, 3)) (kk : ∀ (H1 : Heap) (locs1 : List Loc), va_P D vwCl ws' H1 → va_D A0 ws' → va_S A0 H0 H1 locs1 → W p l e R s m args below meth c H1 locs1 cells slots Q (F0 m (pc + 3) ls rest)) : W p l e R s m args below meth c H locs cells slots Q (F0 m pc ls (.int v :: .ref b :: rest)) := by
  subst hU
  exact va_put (T := TX4) (N := 5) (ty := .int) hexec hb hts inX4 tyX4 tyX4_ok nmX4 hown hK.1 hP hD hS q0 he rfl 3 (Nat.le_of_ble_eq_true rfl) (hts _ hl) (fun _ h9 => h9) rfl (by decide +kernel) rfl rfl (Nat.le_of_ble_eq_true rfl) hdg kk
theorem gfX4_4 {f0 f1 f2 f3 f4 : Value} (hexec : p.tables.exec = Jvm.exec) (hb : c.code = cc) (hts : ∀ w ∈ GW, w.before args s = true) (hown : s.vm.findClass own = some m.cls) (hK : KK D cI cS s) (hP : va_P D vwCl ws H) (q0 : Nat) (he : ws[q0]? = some (b, .inr (3, [f0, f1, f2, f3, f4]))) (hl : Cond.fieldLink own index "SoiledTests$Suite" "modeNow" "I" ∈ GW) (hdg : decode cc pc = .ok (.getfield index, 3)) (kk : W p l e R s m args below meth c H locs cells slots Q (F0 m (pc + 3) ls (f4 :: rest))) : W p l e R s m args below meth c H locs cells slots Q (F0 m pc ls (.ref b :: rest)) := va_get (T := TX4) (N := 5) hexec hb hts inX4 hown hK.1 hP q0 he rfl 4 (Nat.le_of_ble_eq_true rfl) (hts _ hl) (fun _ h9 => h9) rfl hdg kk
theorem gnX4_4 {f0 f1 f2 f3 f4 : Value} (hexec : p.tables.exec = Jvm.exec) (hb : c.code = cc) (hts : ∀ w ∈ GW, w.before args s = true) (hown : s.vm.findClass own = some m.cls) (hK : KK D cI cS s) (hP : va_P D vwCl ws H) (q0 : Nat) (he : ws[q0]? = some (b, .inr (3, [f0, f1, f2, f3, f4]))) (hl : Cond.fieldLinkNest own index "SoiledTests$Suite" "modeNow" "I" host ∈ nW) (hdg : decode cc pc = .ok (.getfield index, 3)) (kk : W p l e R s m args below meth c H locs cells slots Q (F0 m (pc + 3) ls (f4 :: rest))) : W p l e R s m args below meth c H locs cells slots Q (F0 m pc ls (.ref b :: rest)) := va_getN (T := TX4) (N := 5) hexec hb hts inX4 hown hK.1 hP q0 he rfl 4 (Nat.le_of_ble_eq_true rfl) (va_Nw.use rfl (hK.2.1 _ hl)) (fun _ h9 => h9) rfl hdg kk
theorem pfX4_4 {f0 f1 f2 f3 f4 : Value} {v : Int32} (hexec : p.tables.exec = Jvm.exec) (hb : c.code = cc) (hts : ∀ w ∈ GW, w.before args s = true) (hown : s.vm.findClass own = some m.cls) (hK : KK D cI cS s) (hP : va_P D vwCl ws H) (hD : va_D A0 ws) (hS : va_S A0 H0 H locs) (q0 : Nat) (he : ws[q0]? = some (b, .inr (3, [f0, f1, f2, f3, f4]))) (hU : ws.set q0 (b, .inr (3, [f0, f1, f2, f3, .int v])) = ws') (hl : Cond.fieldLink own index "SoiledTests$Suite" "modeNow" "I" ∈ GW) (hdg : decode cc pc = .ok (.putfield index, 3)) (kk : ∀ (H1 : Heap) (locs1 : List Loc), va_P D vwCl ws' H1 → va_D A0 ws' → va_S A0 H0 H1 locs1 → W p l e R s m args below meth c H1 locs1 cells slots Q (F0 m (pc + 3) ls rest)) : W p l e R s m args below meth c H locs cells slots Q (F0 m pc ls (.int v :: .ref b :: rest)) := by
  subst hU
  exact va_put (T := TX4) (N := 5) (ty := .int) hexec hb hts inX4 tyX4 tyX4_ok nmX4 hown hK.1 hP hD hS q0 he rfl 4 (Nat.le_of_ble_eq_true rfl) (hts _ hl) (fun _ h9 => h9) rfl (by decide +kernel) rfl rfl (Nat.le_of_ble_eq_true rfl) hdg kk
theorem gfX5_0 {f0 f1 : Value} (hexec : p.tables.exec = Jvm.exec) (hb : c.code = cc) (hts : ∀ w ∈ GW, w.before args s = true) (hown : s.vm.findClass own = some m.cls) (hK : KK D cI cS s) (hP : va_P D vwCl ws H) (q0 : Nat) (he : ws[q0]? = some (b, .inr (4, [f0, f1]))) (hl : Cond.fieldLink own index "SoiledTests$Text" "bytes" "[I" ∈ GW) (hdg : decode cc pc = .ok (.getfield index, 3)) (kk : W p l e R s m args below meth c H locs cells slots Q (F0 m (pc + 3) ls (f0 :: rest))) : W p l e R s m args below meth c H locs cells slots Q (F0 m pc ls (.ref b :: rest)) := va_get (T := TX5) (N := 2) hexec hb hts inX5 hown hK.1 hP q0 he rfl 0 (Nat.le_of_ble_eq_true rfl) (hts _ hl) (fun _ h9 => h9) rfl hdg kk
theorem gnX5_0 {f0 f1 : Value} (hexec : p.tables.exec = Jvm.exec) (hb : c.code = cc) (hts : ∀ w ∈ GW, w.before args s = true) (hown : s.vm.findClass own = some m.cls) (hK : KK D cI cS s) (hP : va_P D vwCl ws H) (q0 : Nat) (he : ws[q0]? = some (b, .inr (4, [f0, f1]))) (hl : Cond.fieldLinkNest own index "SoiledTests$Text" "bytes" "[I" host ∈ nW) (hdg : decode cc pc = .ok (.getfield index, 3)) (kk : W p l e R s m args below meth c H locs cells slots Q (F0 m (pc + 3) ls (f0 :: rest))) : W p l e R s m args below meth c H locs cells slots Q (F0 m pc ls (.ref b :: rest)) := va_getN (T := TX5) (N := 2) hexec hb hts inX5 hown hK.1 hP q0 he rfl 0 (Nat.le_of_ble_eq_true rfl) (va_Nw.use rfl (hK.2.1 _ hl)) (fun _ h9 => h9) rfl hdg kk
theorem gfX5_1 {f0 f1 : Value} (hexec : p.tables.exec = Jvm.exec) (hb : c.code = cc) (hts : ∀ w ∈ GW, w.before args s = true) (hown : s.vm.findClass own = some m.cls) (hK : KK D cI cS s) (hP : va_P D vwCl ws H) (q0 : Nat) (he : ws[q0]? = some (b, .inr (4, [f0, f1]))) (hl : Cond.fieldLink own index "SoiledTests$Text" "length" "I" ∈ GW) (hdg : decode cc pc = .ok (.getfield index, 3)) (kk : W p l e R s m args below meth c H locs cells slots Q (F0 m (pc + 3) ls (f1 :: rest))) : W p l e R s m args below meth c H locs cells slots Q (F0 m pc ls (.ref b :: rest)) := va_get (T := TX5) (N := 2) hexec hb hts inX5 hown hK.1 hP q0 he rfl 1 (Nat.le_of_ble_eq_true rfl) (hts _ hl) (fun _ h9 => h9) rfl hdg kk
theorem gnX5_1 {f0 f1 : Value} (hexec : p.tables.exec = Jvm.exec) (hb : c.code = cc) (hts : ∀ w ∈ GW, w.before args s = true) (hown : s.vm.findClass own = some m.cls) (hK : KK D cI cS s) (hP : va_P D vwCl ws H) (q0 : Nat) (he : ws[q0]? = some (b, .inr (4, [f0, f1]))) (hl : Cond.fieldLinkNest own index "SoiledTests$Text" "length" "I" host ∈ nW) (hdg : decode cc pc = .ok (.getfield index, 3)) (kk : W p l e R s m args below meth c H locs cells slots Q (F0 m (pc + 3) ls (f1 :: rest))) : W p l e R s m args below meth c H locs cells slots Q (F0 m pc ls (.ref b :: rest)) := va_getN (T := TX5) (N := 2) hexec hb hts inX5 hown hK.1 hP q0 he rfl 1 (Nat.le_of_ble_eq_true rfl) (va_Nw.use rfl (hK.2.1 _ hl)) (fun _ h9 => h9) rfl hdg kk
theorem pfX5_1 {f0 f1 : Value} {v : Int32} (hexec : p.tables.exec = Jvm.exec) (hb : c.code = cc) (hts : ∀ w ∈ GW, w.before args s = true) (hown : s.vm.findClass own = some m.cls) (hK : KK D cI cS s) (hP : va_P D vwCl ws H) (hD : va_D A0 ws) (hS : va_S A0 H0 H locs) (q0 : Nat) (he : ws[q0]? = some (b, .inr (4, [f0, f1]))) (hU : ws.set q0 (b, .inr (4, [f0, .int v])) = ws') (hl : Cond.fieldLink own index "SoiledTests$Text" "length" "I" ∈ GW) (hdg : decode cc pc = .ok (.putfield index, 3)) (kk : ∀ (H1 : Heap) (locs1 : List Loc), va_P D vwCl ws' H1 → va_D A0 ws' → va_S A0 H0 H1 locs1 → W p l e R s m args below meth c H1 locs1 cells slots Q (F0 m (pc + 3) ls rest)) : W p l e R s m args below meth c H locs cells slots Q (F0 m pc ls (.int v :: .ref b :: rest)) := by
  subst hU
  exact va_put (T := TX5) (N := 2) (ty := .int) hexec hb hts inX5 tyX5 tyX5_ok nmX5 hown hK.1 hP hD hS q0 he rfl 1 (Nat.le_of_ble_eq_true rfl) (hts _ hl) (fun _ h9 => h9) rfl (by decide +kernel) rfl rfl (Nat.le_of_ble_eq_true rfl) hdg kk
theorem gfX6_0 {f0 f1 f2 f3 f4 f5 f6 f7 : Value} (hexec : p.tables.exec = Jvm.exec) (hb : c.code = cc) (hts : ∀ w ∈ GW, w.before args s = true) (hown : s.vm.findClass own = some m.cls) (hK : KK D cI cS s) (hP : va_P D vwCl ws H) (q0 : Nat) (he : ws[q0]? = some (b, .inr (5, [f0, f1, f2, f3, f4, f5, f6, f7]))) (hl : Cond.fieldLink own index "SoiledTests" "suite" "LSoiledTests$Suite;" ∈ GW) (hdg : decode cc pc = .ok (.getfield index, 3)) (kk : W p l e R s m args below meth c H locs cells slots Q (F0 m (pc + 3) ls (f0 :: rest))) : W p l e R s m args below meth c H locs cells slots Q (F0 m pc ls (.ref b :: rest)) := va_get (T := TX6) (N := 8) hexec hb hts inX6 hown hK.1 hP q0 he rfl 0 (Nat.le_of_ble_eq_true rfl) (hts _ hl) (fun _ h9 => h9) rfl hdg kk
theorem gnX6_0 {f0 f1 f2 f3 f4 f5 f6 f7 : Value} (hexec : p.tables.exec = Jvm.exec) (hb : c.code = cc) (hts : ∀ w ∈ GW, w.before args s = true) (hown : s.vm.findClass own = some m.cls) (hK : KK D cI cS s) (hP : va_P D vwCl ws H) (q0 : Nat) (he : ws[q0]? = some (b, .inr (5, [f0, f1, f2, f3, f4, f5, f6, f7]))) (hl : Cond.fieldLinkNest own index "SoiledTests" "suite" "LSoiledTests$Suite;" host ∈ nW) (hdg : decode cc pc = .ok (.getfield index, 3)) (kk : W p l e R s m args below meth c H locs cells slots Q (F0 m (pc + 3) ls (f0 :: rest))) : W p l e R s m args below meth c H locs cells slots Q (F0 m pc ls (.ref b :: rest)) := va_getN (T := TX6) (N := 8) hexec hb hts inX6 hown hK.1 hP q0 he rfl 0 (Nat.le_of_ble_eq_true rfl) (va_Nw.use rfl (hK.2.1 _ hl)) (fun _ h9 => h9) rfl hdg kk
theorem gfX6_1 {f0 f1 f2 f3 f4 f5 f6 f7 : Value} (hexec : p.tables.exec = Jvm.exec) (hb : c.code = cc) (hts : ∀ w ∈ GW, w.before args s = true) (hown : s.vm.findClass own = some m.cls) (hK : KK D cI cS s) (hP : va_P D vwCl ws H) (q0 : Nat) (he : ws[q0]? = some (b, .inr (5, [f0, f1, f2, f3, f4, f5, f6, f7]))) (hl : Cond.fieldLink own index "SoiledTests" "past" "LSoiledTests$Past;" ∈ GW) (hdg : decode cc pc = .ok (.getfield index, 3)) (kk : W p l e R s m args below meth c H locs cells slots Q (F0 m (pc + 3) ls (f1 :: rest))) : W p l e R s m args below meth c H locs cells slots Q (F0 m pc ls (.ref b :: rest)) := va_get (T := TX6) (N := 8) hexec hb hts inX6 hown hK.1 hP q0 he rfl 1 (Nat.le_of_ble_eq_true rfl) (hts _ hl) (fun _ h9 => h9) rfl hdg kk
theorem gnX6_1 {f0 f1 f2 f3 f4 f5 f6 f7 : Value} (hexec : p.tables.exec = Jvm.exec) (hb : c.code = cc) (hts : ∀ w ∈ GW, w.before args s = true) (hown : s.vm.findClass own = some m.cls) (hK : KK D cI cS s) (hP : va_P D vwCl ws H) (q0 : Nat) (he : ws[q0]? = some (b, .inr (5, [f0, f1, f2, f3, f4, f5, f6, f7]))) (hl : Cond.fieldLinkNest own index "SoiledTests" "past" "LSoiledTests$Past;" host ∈ nW) (hdg : decode cc pc = .ok (.getfield index, 3)) (kk : W p l e R s m args below meth c H locs cells slots Q (F0 m (pc + 3) ls (f1 :: rest))) : W p l e R s m args below meth c H locs cells slots Q (F0 m pc ls (.ref b :: rest)) := va_getN (T := TX6) (N := 8) hexec hb hts inX6 hown hK.1 hP q0 he rfl 1 (Nat.le_of_ble_eq_true rfl) (va_Nw.use rfl (hK.2.1 _ hl)) (fun _ h9 => h9) rfl hdg kk
theorem gfX6_2 {f0 f1 f2 f3 f4 f5 f6 f7 : Value} (hexec : p.tables.exec = Jvm.exec) (hb : c.code = cc) (hts : ∀ w ∈ GW, w.before args s = true) (hown : s.vm.findClass own = some m.cls) (hK : KK D cI cS s) (hP : va_P D vwCl ws H) (q0 : Nat) (he : ws[q0]? = some (b, .inr (5, [f0, f1, f2, f3, f4, f5, f6, f7]))) (hl : Cond.fieldLink own index "SoiledTests" "text" "LSoiledTests$Text;" ∈ GW) (hdg : decode cc pc = .ok (.getfield index, 3)) (kk : W p l e R s m args below meth c H locs cells slots Q (F0 m (pc + 3) ls (f2 :: rest))) : W p l e R s m args below meth c H locs cells slots Q (F0 m pc ls (.ref b :: rest)) := va_get (T := TX6) (N := 8) hexec hb hts inX6 hown hK.1 hP q0 he rfl 2 (Nat.le_of_ble_eq_true rfl) (hts _ hl) (fun _ h9 => h9) rfl hdg kk
theorem gnX6_2 {f0 f1 f2 f3 f4 f5 f6 f7 : Value} (hexec : p.tables.exec = Jvm.exec) (hb : c.code = cc) (hts : ∀ w ∈ GW, w.before args s = true) (hown : s.vm.findClass own = some m.cls) (hK : KK D cI cS s) (hP : va_P D vwCl ws H) (q0 : Nat) (he : ws[q0]? = some (b, .inr (5, [f0, f1, f2, f3, f4, f5, f6, f7]))) (hl : Cond.fieldLinkNest own index "SoiledTests" "text" "LSoiledTests$Text;" host ∈ nW) (hdg : decode cc pc = .ok (.getfield index, 3)) (kk : W p l e R s m args below meth c H locs cells slots Q (F0 m (pc + 3) ls (f2 :: rest))) : W p l e R s m args below meth c H locs cells slots Q (F0 m pc ls (.ref b :: rest)) := va_getN (T := TX6) (N := 8) hexec hb hts inX6 hown hK.1 hP q0 he rfl 2 (Nat.le_of_ble_eq_true rfl) (va_Nw.use rfl (hK.2.1 _ hl)) (fun _ h9 => h9) rfl hdg kk
theorem gfX6_3 {f0 f1 f2 f3 f4 f5 f6 f7 : Value} (hexec : p.tables.exec = Jvm.exec) (hb : c.code = cc) (hts : ∀ w ∈ GW, w.before args s = true) (hown : s.vm.findClass own = some m.cls) (hK : KK D cI cS s) (hP : va_P D vwCl ws H) (q0 : Nat) (he : ws[q0]? = some (b, .inr (5, [f0, f1, f2, f3, f4, f5, f6, f7]))) (hl : Cond.fieldLink own index "SoiledTests" "orders" "LSoiledTests$Orders;" ∈ GW) (hdg : decode cc pc = .ok (.getfield index, 3)) (kk : W p l e R s m args below meth c H locs cells slots Q (F0 m (pc + 3) ls (f3 :: rest))) : W p l e R s m args below meth c H locs cells slots Q (F0 m pc ls (.ref b :: rest)) := va_get (T := TX6) (N := 8) hexec hb hts inX6 hown hK.1 hP q0 he rfl 3 (Nat.le_of_ble_eq_true rfl) (hts _ hl) (fun _ h9 => h9) rfl hdg kk
theorem gnX6_3 {f0 f1 f2 f3 f4 f5 f6 f7 : Value} (hexec : p.tables.exec = Jvm.exec) (hb : c.code = cc) (hts : ∀ w ∈ GW, w.before args s = true) (hown : s.vm.findClass own = some m.cls) (hK : KK D cI cS s) (hP : va_P D vwCl ws H) (q0 : Nat) (he : ws[q0]? = some (b, .inr (5, [f0, f1, f2, f3, f4, f5, f6, f7]))) (hl : Cond.fieldLinkNest own index "SoiledTests" "orders" "LSoiledTests$Orders;" host ∈ nW) (hdg : decode cc pc = .ok (.getfield index, 3)) (kk : W p l e R s m args below meth c H locs cells slots Q (F0 m (pc + 3) ls (f3 :: rest))) : W p l e R s m args below meth c H locs cells slots Q (F0 m pc ls (.ref b :: rest)) := va_getN (T := TX6) (N := 8) hexec hb hts inX6 hown hK.1 hP q0 he rfl 3 (Nat.le_of_ble_eq_true rfl) (va_Nw.use rfl (hK.2.1 _ hl)) (fun _ h9 => h9) rfl hdg kk
theorem gfX6_4 {f0 f1 f2 f3 f4 f5 f6 f7 : Value} (hexec : p.tables.exec = Jvm.exec) (hb : c.code = cc) (hts : ∀ w ∈ GW, w.before args s = true) (hown : s.vm.findClass own = some m.cls) (hK : KK D cI cS s) (hP : va_P D vwCl ws H) (q0 : Nat) (he : ws[q0]? = some (b, .inr (5, [f0, f1, f2, f3, f4, f5, f6, f7]))) (hl : Cond.fieldLink own index "SoiledTests" "spare" "LSoiledTests$Row;" ∈ GW) (hdg : decode cc pc = .ok (.getfield index, 3)) (kk : W p l e R s m args below meth c H locs cells slots Q (F0 m (pc + 3) ls (f4 :: rest))) : W p l e R s m args below meth c H locs cells slots Q (F0 m pc ls (.ref b :: rest)) := va_get (T := TX6) (N := 8) hexec hb hts inX6 hown hK.1 hP q0 he rfl 4 (Nat.le_of_ble_eq_true rfl) (hts _ hl) (fun _ h9 => h9) rfl hdg kk
theorem gnX6_4 {f0 f1 f2 f3 f4 f5 f6 f7 : Value} (hexec : p.tables.exec = Jvm.exec) (hb : c.code = cc) (hts : ∀ w ∈ GW, w.before args s = true) (hown : s.vm.findClass own = some m.cls) (hK : KK D cI cS s) (hP : va_P D vwCl ws H) (q0 : Nat) (he : ws[q0]? = some (b, .inr (5, [f0, f1, f2, f3, f4, f5, f6, f7]))) (hl : Cond.fieldLinkNest own index "SoiledTests" "spare" "LSoiledTests$Row;" host ∈ nW) (hdg : decode cc pc = .ok (.getfield index, 3)) (kk : W p l e R s m args below meth c H locs cells slots Q (F0 m (pc + 3) ls (f4 :: rest))) : W p l e R s m args below meth c H locs cells slots Q (F0 m pc ls (.ref b :: rest)) := va_getN (T := TX6) (N := 8) hexec hb hts inX6 hown hK.1 hP q0 he rfl 4 (Nat.le_of_ble_eq_true rfl) (va_Nw.use rfl (hK.2.1 _ hl)) (fun _ h9 => h9) rfl hdg kk
theorem gfX6_5 {f0 f1 f2 f3 f4 f5 f6 f7 : Value} (hexec : p.tables.exec = Jvm.exec) (hb : c.code = cc) (hts : ∀ w ∈ GW, w.before args s = true) (hown : s.vm.findClass own = some m.cls) (hK : KK D cI cS s) (hP : va_P D vwCl ws H) (q0 : Nat) (he : ws[q0]? = some (b, .inr (5, [f0, f1, f2, f3, f4, f5, f6, f7]))) (hl : Cond.fieldLink own index "SoiledTests" "timesBad" "I" ∈ GW) (hdg : decode cc pc = .ok (.getfield index, 3)) (kk : W p l e R s m args below meth c H locs cells slots Q (F0 m (pc + 3) ls (f5 :: rest))) : W p l e R s m args below meth c H locs cells slots Q (F0 m pc ls (.ref b :: rest)) := va_get (T := TX6) (N := 8) hexec hb hts inX6 hown hK.1 hP q0 he rfl 5 (Nat.le_of_ble_eq_true rfl) (hts _ hl) (fun _ h9 => h9) rfl hdg kk
theorem gnX6_5 {f0 f1 f2 f3 f4 f5 f6 f7 : Value} (hexec : p.tables.exec = Jvm.exec) (hb : c.code = cc) (hts : ∀ w ∈ GW, w.before args s = true) (hown : s.vm.findClass own = some m.cls) (hK : KK D cI cS s) (hP : va_P D vwCl ws H) (q0 : Nat) (he : ws[q0]? = some (b, .inr (5, [f0, f1, f2, f3, f4, f5, f6, f7]))) (hl : Cond.fieldLinkNest own index "SoiledTests" "timesBad" "I" host ∈ nW) (hdg : decode cc pc = .ok (.getfield index, 3)) (kk : W p l e R s m args below meth c H locs cells slots Q (F0 m (pc + 3) ls (f5 :: rest))) : W p l e R s m args below meth c H locs cells slots Q (F0 m pc ls (.ref b :: rest)) := va_getN (T := TX6) (N := 8) hexec hb hts inX6 hown hK.1 hP q0 he rfl 5 (Nat.le_of_ble_eq_true rfl) (va_Nw.use rfl (hK.2.1 _ hl)) (fun _ h9 => h9) rfl hdg kk
theorem pfX6_5 {f0 f1 f2 f3 f4 f5 f6 f7 : Value} {v : Int32} (hexec : p.tables.exec = Jvm.exec) (hb : c.code = cc) (hts : ∀ w ∈ GW, w.before args s = true) (hown : s.vm.findClass own = some m.cls) (hK : KK D cI cS s) (hP : va_P D vwCl ws H) (hD : va_D A0 ws) (hS : va_S A0 H0 H locs) (q0 : Nat) (he : ws[q0]? = some (b, .inr (5, [f0, f1, f2, f3, f4, f5, f6, f7]))) (hU : ws.set q0 (b, .inr (5, [f0, f1, f2, f3, f4, .int v, f6, f7])) = ws') (hl : Cond.fieldLink own index "SoiledTests" "timesBad" "I" ∈ GW) (hdg : decode cc pc = .ok (.putfield index, 3)) (kk : ∀ (H1 : Heap) (locs1 : List Loc), va_P D vwCl ws' H1 → va_D A0 ws' → va_S A0 H0 H1 locs1 → W p l e R s m args below meth c H1 locs1 cells slots Q (F0 m (pc + 3) ls rest)) : W p l e R s m args below meth c H locs cells slots Q (F0 m pc ls (.int v :: .ref b :: rest)) := by
  subst hU
  exact va_put (T := TX6) (N := 8) (ty := .int) hexec hb hts inX6 tyX6 tyX6_ok nmX6 hown hK.1 hP hD hS q0 he rfl 5 (Nat.le_of_ble_eq_true rfl) (hts _ hl) (fun _ h9 => h9) rfl (by decide +kernel) rfl rfl (Nat.le_of_ble_eq_true rfl) hdg kk
theorem gfX6_6 {f0 f1 f2 f3 f4 f5 f6 f7 : Value} (hexec : p.tables.exec = Jvm.exec) (hb : c.code = cc) (hts : ∀ w ∈ GW, w.before args s = true) (hown : s.vm.findClass own = some m.cls) (hK : KK D cI cS s) (hP : va_P D vwCl ws H) (q0 : Nat) (he : ws[q0]? = some (b, .inr (5, [f0, f1, f2, f3, f4, f5, f6, f7]))) (hl : Cond.fieldLink own index "SoiledTests" "timesNo" "I" ∈ GW) (hdg : decode cc pc = .ok (.getfield index, 3)) (kk : W p l e R s m args below meth c H locs cells slots Q (F0 m (pc + 3) ls (f6 :: rest))) : W p l e R s m args below meth c H locs cells slots Q (F0 m pc ls (.ref b :: rest)) := va_get (T := TX6) (N := 8) hexec hb hts inX6 hown hK.1 hP q0 he rfl 6 (Nat.le_of_ble_eq_true rfl) (hts _ hl) (fun _ h9 => h9) rfl hdg kk
theorem gnX6_6 {f0 f1 f2 f3 f4 f5 f6 f7 : Value} (hexec : p.tables.exec = Jvm.exec) (hb : c.code = cc) (hts : ∀ w ∈ GW, w.before args s = true) (hown : s.vm.findClass own = some m.cls) (hK : KK D cI cS s) (hP : va_P D vwCl ws H) (q0 : Nat) (he : ws[q0]? = some (b, .inr (5, [f0, f1, f2, f3, f4, f5, f6, f7]))) (hl : Cond.fieldLinkNest own index "SoiledTests" "timesNo" "I" host ∈ nW) (hdg : decode cc pc = .ok (.getfield index, 3)) (kk : W p l e R s m args below meth c H locs cells slots Q (F0 m (pc + 3) ls (f6 :: rest))) : W p l e R s m args below meth c H locs cells slots Q (F0 m pc ls (.ref b :: rest)) := va_getN (T := TX6) (N := 8) hexec hb hts inX6 hown hK.1 hP q0 he rfl 6 (Nat.le_of_ble_eq_true rfl) (va_Nw.use rfl (hK.2.1 _ hl)) (fun _ h9 => h9) rfl hdg kk
theorem pfX6_6 {f0 f1 f2 f3 f4 f5 f6 f7 : Value} {v : Int32} (hexec : p.tables.exec = Jvm.exec) (hb : c.code = cc) (hts : ∀ w ∈ GW, w.before args s = true) (hown : s.vm.findClass own = some m.cls) (hK : KK D cI cS s) (hP : va_P D vwCl ws H) (hD : va_D A0 ws) (hS : va_S A0 H0 H locs) (q0 : Nat) (he : ws[q0]? = some (b, .inr (5, [f0, f1, f2, f3, f4, f5, f6, f7]))) (hU : ws.set q0 (b, .inr (5, [f0, f1, f2, f3, f4, f5, .int v, f7])) = ws') (hl : Cond.fieldLink own index "SoiledTests" "timesNo" "I" ∈ GW) (hdg : decode cc pc = .ok (.putfield index, 3)) (kk : ∀ (H1 : Heap) (locs1 : List Loc), va_P D vwCl ws' H1 → va_D A0 ws' → va_S A0 H0 H1 locs1 → W p l e R s m args below meth c H1 locs1 cells slots Q (F0 m (pc + 3) ls rest)) : W p l e R s m args below meth c H locs cells slots Q (F0 m pc ls (.int v :: .ref b :: rest)) := by
  subst hU
  exact va_put (T := TX6) (N := 8) (ty := .int) hexec hb hts inX6 tyX6 tyX6_ok nmX6 hown hK.1 hP hD hS q0 he rfl 6 (Nat.le_of_ble_eq_true rfl) (hts _ hl) (fun _ h9 => h9) rfl (by decide +kernel) rfl rfl (Nat.le_of_ble_eq_true rfl) hdg kk
theorem gfX6_7 {f0 f1 f2 f3 f4 f5 f6 f7 : Value} (hexec : p.tables.exec = Jvm.exec) (hb : c.code = cc) (hts : ∀ w ∈ GW, w.before args s = true) (hown : s.vm.findClass own = some m.cls) (hK : KK D cI cS s) (hP : va_P D vwCl ws H) (q0 : Nat) (he : ws[q0]? = some (b, .inr (5, [f0, f1, f2, f3, f4, f5, f6, f7]))) (hl : Cond.fieldLink own index "SoiledTests" "timesFull" "I" ∈ GW) (hdg : decode cc pc = .ok (.getfield index, 3)) (kk : W p l e R s m args below meth c H locs cells slots Q (F0 m (pc + 3) ls (f7 :: rest))) : W p l e R s m args below meth c H locs cells slots Q (F0 m pc ls (.ref b :: rest)) := va_get (T := TX6) (N := 8) hexec hb hts inX6 hown hK.1 hP q0 he rfl 7 (Nat.le_of_ble_eq_true rfl) (hts _ hl) (fun _ h9 => h9) rfl hdg kk
theorem gnX6_7 {f0 f1 f2 f3 f4 f5 f6 f7 : Value} (hexec : p.tables.exec = Jvm.exec) (hb : c.code = cc) (hts : ∀ w ∈ GW, w.before args s = true) (hown : s.vm.findClass own = some m.cls) (hK : KK D cI cS s) (hP : va_P D vwCl ws H) (q0 : Nat) (he : ws[q0]? = some (b, .inr (5, [f0, f1, f2, f3, f4, f5, f6, f7]))) (hl : Cond.fieldLinkNest own index "SoiledTests" "timesFull" "I" host ∈ nW) (hdg : decode cc pc = .ok (.getfield index, 3)) (kk : W p l e R s m args below meth c H locs cells slots Q (F0 m (pc + 3) ls (f7 :: rest))) : W p l e R s m args below meth c H locs cells slots Q (F0 m pc ls (.ref b :: rest)) := va_getN (T := TX6) (N := 8) hexec hb hts inX6 hown hK.1 hP q0 he rfl 7 (Nat.le_of_ble_eq_true rfl) (va_Nw.use rfl (hK.2.1 _ hl)) (fun _ h9 => h9) rfl hdg kk
theorem pfX6_7 {f0 f1 f2 f3 f4 f5 f6 f7 : Value} {v : Int32} (hexec : p.tables.exec = Jvm.exec) (hb : c.code = cc) (hts : ∀ w ∈ GW, w.before args s = true) (hown : s.vm.findClass own = some m.cls) (hK : KK D cI cS s) (hP : va_P D vwCl ws H) (hD : va_D A0 ws) (hS : va_S A0 H0 H locs) (q0 : Nat) (he : ws[q0]? = some (b, .inr (5, [f0, f1, f2, f3, f4, f5, f6, f7]))) (hU : ws.set q0 (b, .inr (5, [f0, f1, f2, f3, f4, f5, f6, .int v])) = ws') (hl : Cond.fieldLink own index "SoiledTests" "timesFull" "I" ∈ GW) (hdg : decode cc pc = .ok (.putfield index, 3)) (kk : ∀ (H1 : Heap) (locs1 : List Loc), va_P D vwCl ws' H1 → va_D A0 ws' → va_S A0 H0 H1 locs1 → W p l e R s m args below meth c H1 locs1 cells slots Q (F0 m (pc + 3) ls rest)) : W p l e R s m args below meth c H locs cells slots Q (F0 m pc ls (.int v :: .ref b :: rest)) := by
  subst hU
  exact va_put (T := TX6) (N := 8) (ty := .int) hexec hb hts inX6 tyX6 tyX6_ok nmX6 hown hK.1 hP hD hS q0 he rfl 7 (Nat.le_of_ble_eq_true rfl) (hts _ hl) (fun _ h9 => h9) rfl (by decide +kernel) rfl rfl (Nat.le_of_ble_eq_true rfl) hdg kk
theorem gfX7_0 {f0 f1 f2 f3 f4 f5 f6 f7 f8 f9 f10 f11 f12 f13 f14 f15 : Value} (hexec : p.tables.exec = Jvm.exec) (hb : c.code = cc) (hts : ∀ w ∈ GW, w.before args s = true) (hown : s.vm.findClass own = some m.cls) (hK : KK D cI cS s) (hP : va_P D vwCl ws H) (q0 : Nat) (he : ws[q0]? = some (b, .inr (6, [f0, f1, f2, f3, f4, f5, f6, f7, f8, f9, f10, f11, f12, f13, f14, f15]))) (hl : Cond.fieldLink own index "SoiledTestsModel" "now" "[I" ∈ GW) (hdg : decode cc pc = .ok (.getfield index, 3)) (kk : W p l e R s m args below meth c H locs cells slots Q (F0 m (pc + 3) ls (f0 :: rest))) : W p l e R s m args below meth c H locs cells slots Q (F0 m pc ls (.ref b :: rest)) := va_get (T := TX7) (N := 16) hexec hb hts inX7 hown hK.1 hP q0 he rfl 0 (Nat.le_of_ble_eq_true rfl) (hts _ hl) (fun _ h9 => h9) rfl hdg kk
theorem gnX7_0 {f0 f1 f2 f3 f4 f5 f6 f7 f8 f9 f10 f11 f12 f13 f14 f15 : Value} (hexec : p.tables.exec = Jvm.exec) (hb : c.code = cc) (hts : ∀ w ∈ GW, w.before args s = true) (hown : s.vm.findClass own = some m.cls) (hK : KK D cI cS s) (hP : va_P D vwCl ws H) (q0 : Nat) (he : ws[q0]? = some (b, .inr (6, [f0, f1, f2, f3, f4, f5, f6, f7, f8, f9, f10, f11, f12, f13, f14, f15]))) (hl : Cond.fieldLinkNest own index "SoiledTestsModel" "now" "[I" host ∈ nW) (hdg : decode cc pc = .ok (.getfield index, 3)) (kk : W p l e R s m args below meth c H locs cells slots Q (F0 m (pc + 3) ls (f0 :: rest))) : W p l e R s m args below meth c H locs cells slots Q (F0 m pc ls (.ref b :: rest)) := va_getN (T := TX7) (N := 16) hexec hb hts inX7 hown hK.1 hP q0 he rfl 0 (Nat.le_of_ble_eq_true rfl) (va_Nw.use rfl (hK.2.1 _ hl)) (fun _ h9 => h9) rfl hdg kk
theorem gfX7_1 {f0 f1 f2 f3 f4 f5 f6 f7 f8 f9 f10 f11 f12 f13 f14 f15 : Value} (hexec : p.tables.exec = Jvm.exec) (hb : c.code = cc) (hts : ∀ w ∈ GW, w.before args s = true) (hown : s.vm.findClass own = some m.cls) (hK : KK D cI cS s) (hP : va_P D vwCl ws H) (q0 : Nat) (he : ws[q0]? = some (b, .inr (6, [f0, f1, f2, f3, f4, f5, f6, f7, f8, f9, f10, f11, f12, f13, f14, f15]))) (hl : Cond.fieldLink own index "SoiledTestsModel" "aside" "[I" ∈ GW) (hdg : decode cc pc = .ok (.getfield index, 3)) (kk : W p l e R s m args below meth c H locs cells slots Q (F0 m (pc + 3) ls (f1 :: rest))) : W p l e R s m args below meth c H locs cells slots Q (F0 m pc ls (.ref b :: rest)) := va_get (T := TX7) (N := 16) hexec hb hts inX7 hown hK.1 hP q0 he rfl 1 (Nat.le_of_ble_eq_true rfl) (hts _ hl) (fun _ h9 => h9) rfl hdg kk
theorem gnX7_1 {f0 f1 f2 f3 f4 f5 f6 f7 f8 f9 f10 f11 f12 f13 f14 f15 : Value} (hexec : p.tables.exec = Jvm.exec) (hb : c.code = cc) (hts : ∀ w ∈ GW, w.before args s = true) (hown : s.vm.findClass own = some m.cls) (hK : KK D cI cS s) (hP : va_P D vwCl ws H) (q0 : Nat) (he : ws[q0]? = some (b, .inr (6, [f0, f1, f2, f3, f4, f5, f6, f7, f8, f9, f10, f11, f12, f13, f14, f15]))) (hl : Cond.fieldLinkNest own index "SoiledTestsModel" "aside" "[I" host ∈ nW) (hdg : decode cc pc = .ok (.getfield index, 3)) (kk : W p l e R s m args below meth c H locs cells slots Q (F0 m (pc + 3) ls (f1 :: rest))) : W p l e R s m args below meth c H locs cells slots Q (F0 m pc ls (.ref b :: rest)) := va_getN (T := TX7) (N := 16) hexec hb hts inX7 hown hK.1 hP q0 he rfl 1 (Nat.le_of_ble_eq_true rfl) (va_Nw.use rfl (hK.2.1 _ hl)) (fun _ h9 => h9) rfl hdg kk
theorem gfX7_2 {f0 f1 f2 f3 f4 f5 f6 f7 f8 f9 f10 f11 f12 f13 f14 f15 : Value} (hexec : p.tables.exec = Jvm.exec) (hb : c.code = cc) (hts : ∀ w ∈ GW, w.before args s = true) (hown : s.vm.findClass own = some m.cls) (hK : KK D cI cS s) (hP : va_P D vwCl ws H) (q0 : Nat) (he : ws[q0]? = some (b, .inr (6, [f0, f1, f2, f3, f4, f5, f6, f7, f8, f9, f10, f11, f12, f13, f14, f15]))) (hl : Cond.fieldLink own index "SoiledTestsModel" "past" "[I" ∈ GW) (hdg : decode cc pc = .ok (.getfield index, 3)) (kk : W p l e R s m args below meth c H locs cells slots Q (F0 m (pc + 3) ls (f2 :: rest))) : W p l e R s m args below meth c H locs cells slots Q (F0 m pc ls (.ref b :: rest)) := va_get (T := TX7) (N := 16) hexec hb hts inX7 hown hK.1 hP q0 he rfl 2 (Nat.le_of_ble_eq_true rfl) (hts _ hl) (fun _ h9 => h9) rfl hdg kk
theorem gnX7_2 {f0 f1 f2 f3 f4 f5 f6 f7 f8 f9 f10 f11 f12 f13 f14 f15 : Value} (hexec : p.tables.exec = Jvm.exec) (hb : c.code = cc) (hts : ∀ w ∈ GW, w.before args s = true) (hown : s.vm.findClass own = some m.cls) (hK : KK D cI cS s) (hP : va_P D vwCl ws H) (q0 : Nat) (he : ws[q0]? = some (b, .inr (6, [f0, f1, f2, f3, f4, f5, f6, f7, f8, f9, f10, f11, f12, f13, f14, f15]))) (hl : Cond.fieldLinkNest own index "SoiledTestsModel" "past" "[I" host ∈ nW) (hdg : decode cc pc = .ok (.getfield index, 3)) (kk : W p l e R s m args below meth c H locs cells slots Q (F0 m (pc + 3) ls (f2 :: rest))) : W p l e R s m args below meth c H locs cells slots Q (F0 m pc ls (.ref b :: rest)) := va_getN (T := TX7) (N := 16) hexec hb hts inX7 hown hK.1 hP q0 he rfl 2 (Nat.le_of_ble_eq_true rfl) (va_Nw.use rfl (hK.2.1 _ hl)) (fun _ h9 => h9) rfl hdg kk
theorem gfX7_3 {f0 f1 f2 f3 f4 f5 f6 f7 f8 f9 f10 f11 f12 f13 f14 f15 : Value} (hexec : p.tables.exec = Jvm.exec) (hb : c.code = cc) (hts : ∀ w ∈ GW, w.before args s = true) (hown : s.vm.findClass own = some m.cls) (hK : KK D cI cS s) (hP : va_P D vwCl ws H) (q0 : Nat) (he : ws[q0]? = some (b, .inr (6, [f0, f1, f2, f3, f4, f5, f6, f7, f8, f9, f10, f11, f12, f13, f14, f15]))) (hl : Cond.fieldLink own index "SoiledTestsModel" "states" "I" ∈ GW) (hdg : decode cc pc = .ok (.getfield index, 3)) (kk : W p l e R s m args below meth c H locs cells slots Q (F0 m (pc + 3) ls (f3 :: rest))) : W p l e R s m args below meth c H locs cells slots Q (F0 m pc ls (.ref b :: rest)) := va_get (T := TX7) (N := 16) hexec hb hts inX7 hown hK.1 hP q0 he rfl 3 (Nat.le_of_ble_eq_true rfl) (hts _ hl) (fun _ h9 => h9) rfl hdg kk
theorem gnX7_3 {f0 f1 f2 f3 f4 f5 f6 f7 f8 f9 f10 f11 f12 f13 f14 f15 : Value} (hexec : p.tables.exec = Jvm.exec) (hb : c.code = cc) (hts : ∀ w ∈ GW, w.before args s = true) (hown : s.vm.findClass own = some m.cls) (hK : KK D cI cS s) (hP : va_P D vwCl ws H) (q0 : Nat) (he : ws[q0]? = some (b, .inr (6, [f0, f1, f2, f3, f4, f5, f6, f7, f8, f9, f10, f11, f12, f13, f14, f15]))) (hl : Cond.fieldLinkNest own index "SoiledTestsModel" "states" "I" host ∈ nW) (hdg : decode cc pc = .ok (.getfield index, 3)) (kk : W p l e R s m args below meth c H locs cells slots Q (F0 m (pc + 3) ls (f3 :: rest))) : W p l e R s m args below meth c H locs cells slots Q (F0 m pc ls (.ref b :: rest)) := va_getN (T := TX7) (N := 16) hexec hb hts inX7 hown hK.1 hP q0 he rfl 3 (Nat.le_of_ble_eq_true rfl) (va_Nw.use rfl (hK.2.1 _ hl)) (fun _ h9 => h9) rfl hdg kk
theorem pfX7_3 {f0 f1 f2 f3 f4 f5 f6 f7 f8 f9 f10 f11 f12 f13 f14 f15 : Value} {v : Int32} (hexec : p.tables.exec = Jvm.exec) (hb : c.code = cc) (hts : ∀ w ∈ GW, w.before args s = true) (hown : s.vm.findClass own = some m.cls) (hK : KK D cI cS s) (hP : va_P D vwCl ws H) (hD : va_D A0 ws) (hS : va_S A0 H0 H locs) (q0 : Nat) (he : ws[q0]? = some (b, .inr (6, [f0, f1, f2, f3, f4, f5, f6, f7, f8, f9, f10, f11, f12, f13, f14, f15]))) (hU : ws.set q0 (b, .inr (6, [f0, f1, f2, .int v, f4, f5, f6, f7, f8, f9, f10, f11, f12, f13, f14, f15])) = ws') (hl : Cond.fieldLink own index "SoiledTestsModel" "states" "I" ∈ GW) (hdg : decode cc pc = .ok (.putfield index, 3)) (kk : ∀ (H1 : Heap) (locs1 : List Loc), va_P D vwCl ws' H1 → va_D A0 ws' → va_S A0 H0 H1 locs1 → W p l e R s m args below meth c H1 locs1 cells slots Q (F0 m (pc + 3) ls rest)) : W p l e R s m args below meth c H locs cells slots Q (F0 m pc ls (.int v :: .ref b :: rest)) := by
  subst hU
  exact va_put (T := TX7) (N := 16) (ty := .int) hexec hb hts inX7 tyX7 tyX7_ok nmX7 hown hK.1 hP hD hS q0 he rfl 3 (Nat.le_of_ble_eq_true rfl) (hts _ hl) (fun _ h9 => h9) rfl (by decide +kernel) rfl rfl (Nat.le_of_ble_eq_true rfl) hdg kk
theorem gfX7_4 {f0 f1 f2 f3 f4 f5 f6 f7 f8 f9 f10 f11 f12 f13 f14 f15 : Value} (hexec : p.tables.exec = Jvm.exec) (hb : c.code = cc) (hts : ∀ w ∈ GW, w.before args s = true) (hown : s.vm.findClass own = some m.cls) (hK : KK D cI cS s) (hP : va_P D vwCl ws H) (q0 : Nat) (he : ws[q0]? = some (b, .inr (6, [f0, f1, f2, f3, f4, f5, f6, f7, f8, f9, f10, f11, f12, f13, f14, f15]))) (hl : Cond.fieldLink own index "SoiledTestsModel" "refusals" "[I" ∈ GW) (hdg : decode cc pc = .ok (.getfield index, 3)) (kk : W p l e R s m args below meth c H locs cells slots Q (F0 m (pc + 3) ls (f4 :: rest))) : W p l e R s m args below meth c H locs cells slots Q (F0 m pc ls (.ref b :: rest)) := va_get (T := TX7) (N := 16) hexec hb hts inX7 hown hK.1 hP q0 he rfl 4 (Nat.le_of_ble_eq_true rfl) (hts _ hl) (fun _ h9 => h9) rfl hdg kk
theorem gnX7_4 {f0 f1 f2 f3 f4 f5 f6 f7 f8 f9 f10 f11 f12 f13 f14 f15 : Value} (hexec : p.tables.exec = Jvm.exec) (hb : c.code = cc) (hts : ∀ w ∈ GW, w.before args s = true) (hown : s.vm.findClass own = some m.cls) (hK : KK D cI cS s) (hP : va_P D vwCl ws H) (q0 : Nat) (he : ws[q0]? = some (b, .inr (6, [f0, f1, f2, f3, f4, f5, f6, f7, f8, f9, f10, f11, f12, f13, f14, f15]))) (hl : Cond.fieldLinkNest own index "SoiledTestsModel" "refusals" "[I" host ∈ nW) (hdg : decode cc pc = .ok (.getfield index, 3)) (kk : W p l e R s m args below meth c H locs cells slots Q (F0 m (pc + 3) ls (f4 :: rest))) : W p l e R s m args below meth c H locs cells slots Q (F0 m pc ls (.ref b :: rest)) := va_getN (T := TX7) (N := 16) hexec hb hts inX7 hown hK.1 hP q0 he rfl 4 (Nat.le_of_ble_eq_true rfl) (va_Nw.use rfl (hK.2.1 _ hl)) (fun _ h9 => h9) rfl hdg kk
theorem gfX7_5 {f0 f1 f2 f3 f4 f5 f6 f7 f8 f9 f10 f11 f12 f13 f14 f15 : Value} (hexec : p.tables.exec = Jvm.exec) (hb : c.code = cc) (hts : ∀ w ∈ GW, w.before args s = true) (hown : s.vm.findClass own = some m.cls) (hK : KK D cI cS s) (hP : va_P D vwCl ws H) (q0 : Nat) (he : ws[q0]? = some (b, .inr (6, [f0, f1, f2, f3, f4, f5, f6, f7, f8, f9, f10, f11, f12, f13, f14, f15]))) (hl : Cond.fieldLink own index "SoiledTestsModel" "text" "[I" ∈ GW) (hdg : decode cc pc = .ok (.getfield index, 3)) (kk : W p l e R s m args below meth c H locs cells slots Q (F0 m (pc + 3) ls (f5 :: rest))) : W p l e R s m args below meth c H locs cells slots Q (F0 m pc ls (.ref b :: rest)) := va_get (T := TX7) (N := 16) hexec hb hts inX7 hown hK.1 hP q0 he rfl 5 (Nat.le_of_ble_eq_true rfl) (hts _ hl) (fun _ h9 => h9) rfl hdg kk
theorem gnX7_5 {f0 f1 f2 f3 f4 f5 f6 f7 f8 f9 f10 f11 f12 f13 f14 f15 : Value} (hexec : p.tables.exec = Jvm.exec) (hb : c.code = cc) (hts : ∀ w ∈ GW, w.before args s = true) (hown : s.vm.findClass own = some m.cls) (hK : KK D cI cS s) (hP : va_P D vwCl ws H) (q0 : Nat) (he : ws[q0]? = some (b, .inr (6, [f0, f1, f2, f3, f4, f5, f6, f7, f8, f9, f10, f11, f12, f13, f14, f15]))) (hl : Cond.fieldLinkNest own index "SoiledTestsModel" "text" "[I" host ∈ nW) (hdg : decode cc pc = .ok (.getfield index, 3)) (kk : W p l e R s m args below meth c H locs cells slots Q (F0 m (pc + 3) ls (f5 :: rest))) : W p l e R s m args below meth c H locs cells slots Q (F0 m pc ls (.ref b :: rest)) := va_getN (T := TX7) (N := 16) hexec hb hts inX7 hown hK.1 hP q0 he rfl 5 (Nat.le_of_ble_eq_true rfl) (va_Nw.use rfl (hK.2.1 _ hl)) (fun _ h9 => h9) rfl hdg kk
theorem gfX7_6 {f0 f1 f2 f3 f4 f5 f6 f7 f8 f9 f10 f11 f12 f13 f14 f15 : Value} (hexec : p.tables.exec = Jvm.exec) (hb : c.code = cc) (hts : ∀ w ∈ GW, w.before args s = true) (hown : s.vm.findClass own = some m.cls) (hK : KK D cI cS s) (hP : va_P D vwCl ws H) (q0 : Nat) (he : ws[q0]? = some (b, .inr (6, [f0, f1, f2, f3, f4, f5, f6, f7, f8, f9, f10, f11, f12, f13, f14, f15]))) (hl : Cond.fieldLink own index "SoiledTestsModel" "bytes" "I" ∈ GW) (hdg : decode cc pc = .ok (.getfield index, 3)) (kk : W p l e R s m args below meth c H locs cells slots Q (F0 m (pc + 3) ls (f6 :: rest))) : W p l e R s m args below meth c H locs cells slots Q (F0 m pc ls (.ref b :: rest)) := va_get (T := TX7) (N := 16) hexec hb hts inX7 hown hK.1 hP q0 he rfl 6 (Nat.le_of_ble_eq_true rfl) (hts _ hl) (fun _ h9 => h9) rfl hdg kk
theorem gnX7_6 {f0 f1 f2 f3 f4 f5 f6 f7 f8 f9 f10 f11 f12 f13 f14 f15 : Value} (hexec : p.tables.exec = Jvm.exec) (hb : c.code = cc) (hts : ∀ w ∈ GW, w.before args s = true) (hown : s.vm.findClass own = some m.cls) (hK : KK D cI cS s) (hP : va_P D vwCl ws H) (q0 : Nat) (he : ws[q0]? = some (b, .inr (6, [f0, f1, f2, f3, f4, f5, f6, f7, f8, f9, f10, f11, f12, f13, f14, f15]))) (hl : Cond.fieldLinkNest own index "SoiledTestsModel" "bytes" "I" host ∈ nW) (hdg : decode cc pc = .ok (.getfield index, 3)) (kk : W p l e R s m args below meth c H locs cells slots Q (F0 m (pc + 3) ls (f6 :: rest))) : W p l e R s m args below meth c H locs cells slots Q (F0 m pc ls (.ref b :: rest)) := va_getN (T := TX7) (N := 16) hexec hb hts inX7 hown hK.1 hP q0 he rfl 6 (Nat.le_of_ble_eq_true rfl) (va_Nw.use rfl (hK.2.1 _ hl)) (fun _ h9 => h9) rfl hdg kk
theorem pfX7_6 {f0 f1 f2 f3 f4 f5 f6 f7 f8 f9 f10 f11 f12 f13 f14 f15 : Value} {v : Int32} (hexec : p.tables.exec = Jvm.exec) (hb : c.code = cc) (hts : ∀ w ∈ GW, w.before args s = true) (hown : s.vm.findClass own = some m.cls) (hK : KK D cI cS s) (hP : va_P D vwCl ws H) (hD : va_D A0 ws) (hS : va_S A0 H0 H locs) (q0 : Nat) (he : ws[q0]? = some (b, .inr (6, [f0, f1, f2, f3, f4, f5, f6, f7, f8, f9, f10, f11, f12, f13, f14, f15]))) (hU : ws.set q0 (b, .inr (6, [f0, f1, f2, f3, f4, f5, .int v, f7, f8, f9, f10, f11, f12, f13, f14, f15])) = ws') (hl : Cond.fieldLink own index "SoiledTestsModel" "bytes" "I" ∈ GW) (hdg : decode cc pc = .ok (.putfield index, 3)) (kk : ∀ (H1 : Heap) (locs1 : List Loc), va_P D vwCl ws' H1 → va_D A0 ws' → va_S A0 H0 H1 locs1 → W p l e R s m args below meth c H1 locs1 cells slots Q (F0 m (pc + 3) ls rest)) : W p l e R s m args below meth c H locs cells slots Q (F0 m pc ls (.int v :: .ref b :: rest)) := by
  subst hU
  exact va_put (T := TX7) (N := 16) (ty := .int) hexec hb hts inX7 tyX7 tyX7_ok nmX7 hown hK.1 hP hD hS q0 he rfl 6 (Nat.le_of_ble_eq_true rfl) (hts _ hl) (fun _ h9 => h9) rfl (by decide +kernel) rfl rfl (Nat.le_of_ble_eq_true rfl) hdg kk
theorem gfX7_7 {f0 f1 f2 f3 f4 f5 f6 f7 f8 f9 f10 f11 f12 f13 f14 f15 : Value} (hexec : p.tables.exec = Jvm.exec) (hb : c.code = cc) (hts : ∀ w ∈ GW, w.before args s = true) (hown : s.vm.findClass own = some m.cls) (hK : KK D cI cS s) (hP : va_P D vwCl ws H) (q0 : Nat) (he : ws[q0]? = some (b, .inr (6, [f0, f1, f2, f3, f4, f5, f6, f7, f8, f9, f10, f11, f12, f13, f14, f15]))) (hl : Cond.fieldLink own index "SoiledTestsModel" "tried" "[I" ∈ GW) (hdg : decode cc pc = .ok (.getfield index, 3)) (kk : W p l e R s m args below meth c H locs cells slots Q (F0 m (pc + 3) ls (f7 :: rest))) : W p l e R s m args below meth c H locs cells slots Q (F0 m pc ls (.ref b :: rest)) := va_get (T := TX7) (N := 16) hexec hb hts inX7 hown hK.1 hP q0 he rfl 7 (Nat.le_of_ble_eq_true rfl) (hts _ hl) (fun _ h9 => h9) rfl hdg kk
theorem gnX7_7 {f0 f1 f2 f3 f4 f5 f6 f7 f8 f9 f10 f11 f12 f13 f14 f15 : Value} (hexec : p.tables.exec = Jvm.exec) (hb : c.code = cc) (hts : ∀ w ∈ GW, w.before args s = true) (hown : s.vm.findClass own = some m.cls) (hK : KK D cI cS s) (hP : va_P D vwCl ws H) (q0 : Nat) (he : ws[q0]? = some (b, .inr (6, [f0, f1, f2, f3, f4, f5, f6, f7, f8, f9, f10, f11, f12, f13, f14, f15]))) (hl : Cond.fieldLinkNest own index "SoiledTestsModel" "tried" "[I" host ∈ nW) (hdg : decode cc pc = .ok (.getfield index, 3)) (kk : W p l e R s m args below meth c H locs cells slots Q (F0 m (pc + 3) ls (f7 :: rest))) : W p l e R s m args below meth c H locs cells slots Q (F0 m pc ls (.ref b :: rest)) := va_getN (T := TX7) (N := 16) hexec hb hts inX7 hown hK.1 hP q0 he rfl 7 (Nat.le_of_ble_eq_true rfl) (va_Nw.use rfl (hK.2.1 _ hl)) (fun _ h9 => h9) rfl hdg kk
theorem gfX7_8 {f0 f1 f2 f3 f4 f5 f6 f7 f8 f9 f10 f11 f12 f13 f14 f15 : Value} (hexec : p.tables.exec = Jvm.exec) (hb : c.code = cc) (hts : ∀ w ∈ GW, w.before args s = true) (hown : s.vm.findClass own = some m.cls) (hK : KK D cI cS s) (hP : va_P D vwCl ws H) (q0 : Nat) (he : ws[q0]? = some (b, .inr (6, [f0, f1, f2, f3, f4, f5, f6, f7, f8, f9, f10, f11, f12, f13, f14, f15]))) (hl : Cond.fieldLink own index "SoiledTestsModel" "triedMany" "I" ∈ GW) (hdg : decode cc pc = .ok (.getfield index, 3)) (kk : W p l e R s m args below meth c H locs cells slots Q (F0 m (pc + 3) ls (f8 :: rest))) : W p l e R s m args below meth c H locs cells slots Q (F0 m pc ls (.ref b :: rest)) := va_get (T := TX7) (N := 16) hexec hb hts inX7 hown hK.1 hP q0 he rfl 8 (Nat.le_of_ble_eq_true rfl) (hts _ hl) (fun _ h9 => h9) rfl hdg kk
theorem gnX7_8 {f0 f1 f2 f3 f4 f5 f6 f7 f8 f9 f10 f11 f12 f13 f14 f15 : Value} (hexec : p.tables.exec = Jvm.exec) (hb : c.code = cc) (hts : ∀ w ∈ GW, w.before args s = true) (hown : s.vm.findClass own = some m.cls) (hK : KK D cI cS s) (hP : va_P D vwCl ws H) (q0 : Nat) (he : ws[q0]? = some (b, .inr (6, [f0, f1, f2, f3, f4, f5, f6, f7, f8, f9, f10, f11, f12, f13, f14, f15]))) (hl : Cond.fieldLinkNest own index "SoiledTestsModel" "triedMany" "I" host ∈ nW) (hdg : decode cc pc = .ok (.getfield index, 3)) (kk : W p l e R s m args below meth c H locs cells slots Q (F0 m (pc + 3) ls (f8 :: rest))) : W p l e R s m args below meth c H locs cells slots Q (F0 m pc ls (.ref b :: rest)) := va_getN (T := TX7) (N := 16) hexec hb hts inX7 hown hK.1 hP q0 he rfl 8 (Nat.le_of_ble_eq_true rfl) (va_Nw.use rfl (hK.2.1 _ hl)) (fun _ h9 => h9) rfl hdg kk
theorem pfX7_8 {f0 f1 f2 f3 f4 f5 f6 f7 f8 f9 f10 f11 f12 f13 f14 f15 : Value} {v : Int32} (hexec : p.tables.exec = Jvm.exec) (hb : c.code = cc) (hts : ∀ w ∈ GW, w.before args s = true) (hown : s.vm.findClass own = some m.cls) (hK : KK D cI cS s) (hP : va_P D vwCl ws H) (hD : va_D A0 ws) (hS : va_S A0 H0 H locs) (q0 : Nat) (he : ws[q0]? = some (b, .inr (6, [f0, f1, f2, f3, f4, f5, f6, f7, f8, f9, f10, f11, f12, f13, f14, f15]))) (hU : ws.set q0 (b, .inr (6, [f0, f1, f2, f3, f4, f5, f6, f7, .int v, f9, f10, f11, f12, f13, f14, f15])) = ws') (hl : Cond.fieldLink own index "SoiledTestsModel" "triedMany" "I" ∈ GW) (hdg : decode cc pc = .ok (.putfield index, 3)) (kk : ∀ (H1 : Heap) (locs1 : List Loc), va_P D vwCl ws' H1 → va_D A0 ws' → va_S A0 H0 H1 locs1 → W p l e R s m args below meth c H1 locs1 cells slots Q (F0 m (pc + 3) ls rest)) : W p l e R s m args below meth c H locs cells slots Q (F0 m pc ls (.int v :: .ref b :: rest)) := by
  subst hU
  exact va_put (T := TX7) (N := 16) (ty := .int) hexec hb hts inX7 tyX7 tyX7_ok nmX7 hown hK.1 hP hD hS q0 he rfl 8 (Nat.le_of_ble_eq_true rfl) (hts _ hl) (fun _ h9 => h9) rfl (by decide +kernel) rfl rfl (Nat.le_of_ble_eq_true rfl) hdg kk
theorem gfX7_9 {f0 f1 f2 f3 f4 f5 f6 f7 f8 f9 f10 f11 f12 f13 f14 f15 : Value} (hexec : p.tables.exec = Jvm.exec) (hb : c.code = cc) (hts : ∀ w ∈ GW, w.before args s = true) (hown : s.vm.findClass own = some m.cls) (hK : KK D cI cS s) (hP : va_P D vwCl ws H) (q0 : Nat) (he : ws[q0]? = some (b, .inr (6, [f0, f1, f2, f3, f4, f5, f6, f7, f8, f9, f10, f11, f12, f13, f14, f15]))) (hl : Cond.fieldLink own index "SoiledTestsModel" "shuffled" "[I" ∈ GW) (hdg : decode cc pc = .ok (.getfield index, 3)) (kk : W p l e R s m args below meth c H locs cells slots Q (F0 m (pc + 3) ls (f9 :: rest))) : W p l e R s m args below meth c H locs cells slots Q (F0 m pc ls (.ref b :: rest)) := va_get (T := TX7) (N := 16) hexec hb hts inX7 hown hK.1 hP q0 he rfl 9 (Nat.le_of_ble_eq_true rfl) (hts _ hl) (fun _ h9 => h9) rfl hdg kk
theorem gnX7_9 {f0 f1 f2 f3 f4 f5 f6 f7 f8 f9 f10 f11 f12 f13 f14 f15 : Value} (hexec : p.tables.exec = Jvm.exec) (hb : c.code = cc) (hts : ∀ w ∈ GW, w.before args s = true) (hown : s.vm.findClass own = some m.cls) (hK : KK D cI cS s) (hP : va_P D vwCl ws H) (q0 : Nat) (he : ws[q0]? = some (b, .inr (6, [f0, f1, f2, f3, f4, f5, f6, f7, f8, f9, f10, f11, f12, f13, f14, f15]))) (hl : Cond.fieldLinkNest own index "SoiledTestsModel" "shuffled" "[I" host ∈ nW) (hdg : decode cc pc = .ok (.getfield index, 3)) (kk : W p l e R s m args below meth c H locs cells slots Q (F0 m (pc + 3) ls (f9 :: rest))) : W p l e R s m args below meth c H locs cells slots Q (F0 m pc ls (.ref b :: rest)) := va_getN (T := TX7) (N := 16) hexec hb hts inX7 hown hK.1 hP q0 he rfl 9 (Nat.le_of_ble_eq_true rfl) (va_Nw.use rfl (hK.2.1 _ hl)) (fun _ h9 => h9) rfl hdg kk
theorem gfX7_10 {f0 f1 f2 f3 f4 f5 f6 f7 f8 f9 f10 f11 f12 f13 f14 f15 : Value} (hexec : p.tables.exec = Jvm.exec) (hb : c.code = cc) (hts : ∀ w ∈ GW, w.before args s = true) (hown : s.vm.findClass own = some m.cls) (hK : KK D cI cS s) (hP : va_P D vwCl ws H) (q0 : Nat) (he : ws[q0]? = some (b, .inr (6, [f0, f1, f2, f3, f4, f5, f6, f7, f8, f9, f10, f11, f12, f13, f14, f15]))) (hl : Cond.fieldLink own index "SoiledTestsModel" "letters" "[I" ∈ GW) (hdg : decode cc pc = .ok (.getfield index, 3)) (kk : W p l e R s m args below meth c H locs cells slots Q (F0 m (pc + 3) ls (f10 :: rest))) : W p l e R s m args below meth c H locs cells slots Q (F0 m pc ls (.ref b :: rest)) := va_get (T := TX7) (N := 16) hexec hb hts inX7 hown hK.1 hP q0 he rfl 10 (Nat.le_of_ble_eq_true rfl) (hts _ hl) (fun _ h9 => h9) rfl hdg kk
theorem gnX7_10 {f0 f1 f2 f3 f4 f5 f6 f7 f8 f9 f10 f11 f12 f13 f14 f15 : Value} (hexec : p.tables.exec = Jvm.exec) (hb : c.code = cc) (hts : ∀ w ∈ GW, w.before args s = true) (hown : s.vm.findClass own = some m.cls) (hK : KK D cI cS s) (hP : va_P D vwCl ws H) (q0 : Nat) (he : ws[q0]? = some (b, .inr (6, [f0, f1, f2, f3, f4, f5, f6, f7, f8, f9, f10, f11, f12, f13, f14, f15]))) (hl : Cond.fieldLinkNest own index "SoiledTestsModel" "letters" "[I" host ∈ nW) (hdg : decode cc pc = .ok (.getfield index, 3)) (kk : W p l e R s m args below meth c H locs cells slots Q (F0 m (pc + 3) ls (f10 :: rest))) : W p l e R s m args below meth c H locs cells slots Q (F0 m pc ls (.ref b :: rest)) := va_getN (T := TX7) (N := 16) hexec hb hts inX7 hown hK.1 hP q0 he rfl 10 (Nat.le_of_ble_eq_true rfl) (va_Nw.use rfl (hK.2.1 _ hl)) (fun _ h9 => h9) rfl hdg kk
theorem gfX7_11 {f0 f1 f2 f3 f4 f5 f6 f7 f8 f9 f10 f11 f12 f13 f14 f15 : Value} (hexec : p.tables.exec = Jvm.exec) (hb : c.code = cc) (hts : ∀ w ∈ GW, w.before args s = true) (hown : s.vm.findClass own = some m.cls) (hK : KK D cI cS s) (hP : va_P D vwCl ws H) (q0 : Nat) (he : ws[q0]? = some (b, .inr (6, [f0, f1, f2, f3, f4, f5, f6, f7, f8, f9, f10, f11, f12, f13, f14, f15]))) (hl : Cond.fieldLink own index "SoiledTestsModel" "numbers" "[I" ∈ GW) (hdg : decode cc pc = .ok (.getfield index, 3)) (kk : W p l e R s m args below meth c H locs cells slots Q (F0 m (pc + 3) ls (f11 :: rest))) : W p l e R s m args below meth c H locs cells slots Q (F0 m pc ls (.ref b :: rest)) := va_get (T := TX7) (N := 16) hexec hb hts inX7 hown hK.1 hP q0 he rfl 11 (Nat.le_of_ble_eq_true rfl) (hts _ hl) (fun _ h9 => h9) rfl hdg kk
theorem gnX7_11 {f0 f1 f2 f3 f4 f5 f6 f7 f8 f9 f10 f11 f12 f13 f14 f15 : Value} (hexec : p.tables.exec = Jvm.exec) (hb : c.code = cc) (hts : ∀ w ∈ GW, w.before args s = true) (hown : s.vm.findClass own = some m.cls) (hK : KK D cI cS s) (hP : va_P D vwCl ws H) (q0 : Nat) (he : ws[q0]? = some (b, .inr (6, [f0, f1, f2, f3, f4, f5, f6, f7, f8, f9, f10, f11, f12, f13, f14, f15]))) (hl : Cond.fieldLinkNest own index "SoiledTestsModel" "numbers" "[I" host ∈ nW) (hdg : decode cc pc = .ok (.getfield index, 3)) (kk : W p l e R s m args below meth c H locs cells slots Q (F0 m (pc + 3) ls (f11 :: rest))) : W p l e R s m args below meth c H locs cells slots Q (F0 m pc ls (.ref b :: rest)) := va_getN (T := TX7) (N := 16) hexec hb hts inX7 hown hK.1 hP q0 he rfl 11 (Nat.le_of_ble_eq_true rfl) (va_Nw.use rfl (hK.2.1 _ hl)) (fun _ h9 => h9) rfl hdg kk
theorem gfX7_12 {f0 f1 f2 f3 f4 f5 f6 f7 f8 f9 f10 f11 f12 f13 f14 f15 : Value} (hexec : p.tables.exec = Jvm.exec) (hb : c.code = cc) (hts : ∀ w ∈ GW, w.before args s = true) (hown : s.vm.findClass own = some m.cls) (hK : KK D cI cS s) (hP : va_P D vwCl ws H) (q0 : Nat) (he : ws[q0]? = some (b, .inr (6, [f0, f1, f2, f3, f4, f5, f6, f7, f8, f9, f10, f11, f12, f13, f14, f15]))) (hl : Cond.fieldLink own index "SoiledTestsModel" "orders" "I" ∈ GW) (hdg : decode cc pc = .ok (.getfield index, 3)) (kk : W p l e R s m args below meth c H locs cells slots Q (F0 m (pc + 3) ls (f12 :: rest))) : W p l e R s m args below meth c H locs cells slots Q (F0 m pc ls (.ref b :: rest)) := va_get (T := TX7) (N := 16) hexec hb hts inX7 hown hK.1 hP q0 he rfl 12 (Nat.le_of_ble_eq_true rfl) (hts _ hl) (fun _ h9 => h9) rfl hdg kk
theorem gnX7_12 {f0 f1 f2 f3 f4 f5 f6 f7 f8 f9 f10 f11 f12 f13 f14 f15 : Value} (hexec : p.tables.exec = Jvm.exec) (hb : c.code = cc) (hts : ∀ w ∈ GW, w.before args s = true) (hown : s.vm.findClass own = some m.cls) (hK : KK D cI cS s) (hP : va_P D vwCl ws H) (q0 : Nat) (he : ws[q0]? = some (b, .inr (6, [f0, f1, f2, f3, f4, f5, f6, f7, f8, f9, f10, f11, f12, f13, f14, f15]))) (hl : Cond.fieldLinkNest own index "SoiledTestsModel" "orders" "I" host ∈ nW) (hdg : decode cc pc = .ok (.getfield index, 3)) (kk : W p l e R s m args below meth c H locs cells slots Q (F0 m (pc + 3) ls (f12 :: rest))) : W p l e R s m args below meth c H locs cells slots Q (F0 m pc ls (.ref b :: rest)) := va_getN (T := TX7) (N := 16) hexec hb hts inX7 hown hK.1 hP q0 he rfl 12 (Nat.le_of_ble_eq_true rfl) (va_Nw.use rfl (hK.2.1 _ hl)) (fun _ h9 => h9) rfl hdg kk
theorem pfX7_12 {f0 f1 f2 f3 f4 f5 f6 f7 f8 f9 f10 f11 f12 f13 f14 f15 : Value} {v : Int32} (hexec : p.tables.exec = Jvm.exec) (hb : c.code = cc) (hts : ∀ w ∈ GW, w.before args s = true) (hown : s.vm.findClass own = some m.cls) (hK : KK D cI cS s) (hP : va_P D vwCl ws H) (hD : va_D A0 ws) (hS : va_S A0 H0 H locs) (q0 : Nat) (he : ws[q0]? = some (b, .inr (6, [f0, f1, f2, f3, f4, f5, f6, f7, f8, f9, f10, f11, f12, f13, f14, f15]))) (hU : ws.set q0 (b, .inr (6, [f0, f1, f2, f3, f4, f5, f6, f7, f8, f9, f10, f11, .int v, f13, f14, f15])) = ws') (hl : Cond.fieldLink own index "SoiledTestsModel" "orders" "I" ∈ GW) (hdg : decode cc pc = .ok (.putfield index, 3)) (kk : ∀ (H1 : Heap) (locs1 : List Loc), va_P D vwCl ws' H1 → va_D A0 ws' → va_S A0 H0 H1 locs1 → W p l e R s m args below meth c H1 locs1 cells slots Q (F0 m (pc + 3) ls rest)) : W p l e R s m args below meth c H locs cells slots Q (F0 m pc ls (.int v :: .ref b :: rest)) := by
  subst hU
  exact va_put (T := TX7) (N := 16) (ty := .int) hexec hb hts inX7 tyX7 tyX7_ok nmX7 hown hK.1 hP hD hS q0 he rfl 12 (Nat.le_of_ble_eq_true rfl) (hts _ hl) (fun _ h9 => h9) rfl (by decide +kernel) rfl rfl (Nat.le_of_ble_eq_true rfl) hdg kk
theorem gfX7_13 {f0 f1 f2 f3 f4 f5 f6 f7 f8 f9 f10 f11 f12 f13 f14 f15 : Value} (hexec : p.tables.exec = Jvm.exec) (hb : c.code = cc) (hts : ∀ w ∈ GW, w.before args s = true) (hown : s.vm.findClass own = some m.cls) (hK : KK D cI cS s) (hP : va_P D vwCl ws H) (q0 : Nat) (he : ws[q0]? = some (b, .inr (6, [f0, f1, f2, f3, f4, f5, f6, f7, f8, f9, f10, f11, f12, f13, f14, f15]))) (hl : Cond.fieldLink own index "SoiledTestsModel" "spot" "I" ∈ GW) (hdg : decode cc pc = .ok (.getfield index, 3)) (kk : W p l e R s m args below meth c H locs cells slots Q (F0 m (pc + 3) ls (f13 :: rest))) : W p l e R s m args below meth c H locs cells slots Q (F0 m pc ls (.ref b :: rest)) := va_get (T := TX7) (N := 16) hexec hb hts inX7 hown hK.1 hP q0 he rfl 13 (Nat.le_of_ble_eq_true rfl) (hts _ hl) (fun _ h9 => h9) rfl hdg kk
theorem gnX7_13 {f0 f1 f2 f3 f4 f5 f6 f7 f8 f9 f10 f11 f12 f13 f14 f15 : Value} (hexec : p.tables.exec = Jvm.exec) (hb : c.code = cc) (hts : ∀ w ∈ GW, w.before args s = true) (hown : s.vm.findClass own = some m.cls) (hK : KK D cI cS s) (hP : va_P D vwCl ws H) (q0 : Nat) (he : ws[q0]? = some (b, .inr (6, [f0, f1, f2, f3, f4, f5, f6, f7, f8, f9, f10, f11, f12, f13, f14, f15]))) (hl : Cond.fieldLinkNest own index "SoiledTestsModel" "spot" "I" host ∈ nW) (hdg : decode cc pc = .ok (.getfield index, 3)) (kk : W p l e R s m args below meth c H locs cells slots Q (F0 m (pc + 3) ls (f13 :: rest))) : W p l e R s m args below meth c H locs cells slots Q (F0 m pc ls (.ref b :: rest)) := va_getN (T := TX7) (N := 16) hexec hb hts inX7 hown hK.1 hP q0 he rfl 13 (Nat.le_of_ble_eq_true rfl) (va_Nw.use rfl (hK.2.1 _ hl)) (fun _ h9 => h9) rfl hdg kk
theorem pfX7_13 {f0 f1 f2 f3 f4 f5 f6 f7 f8 f9 f10 f11 f12 f13 f14 f15 : Value} {v : Int32} (hexec : p.tables.exec = Jvm.exec) (hb : c.code = cc) (hts : ∀ w ∈ GW, w.before args s = true) (hown : s.vm.findClass own = some m.cls) (hK : KK D cI cS s) (hP : va_P D vwCl ws H) (hD : va_D A0 ws) (hS : va_S A0 H0 H locs) (q0 : Nat) (he : ws[q0]? = some (b, .inr (6, [f0, f1, f2, f3, f4, f5, f6, f7, f8, f9, f10, f11, f12, f13, f14, f15]))) (hU : ws.set q0 (b, .inr (6, [f0, f1, f2, f3, f4, f5, f6, f7, f8, f9, f10, f11, f12, .int v, f14, f15])) = ws') (hl : Cond.fieldLink own index "SoiledTestsModel" "spot" "I" ∈ GW) (hdg : decode cc pc = .ok (.putfield index, 3)) (kk : ∀ (H1 : Heap) (locs1 : List Loc), va_P D vwCl ws' H1 → va_D A0 ws' → va_S A0 H0 H1 locs1 → W p l e R s m args below meth c H1 locs1 cells slots Q (F0 m (pc + 3) ls rest)) : W p l e R s m args below meth c H locs cells slots Q (F0 m pc ls (.int v :: .ref b :: rest)) := by
  subst hU
  exact va_put (T := TX7) (N := 16) (ty := .int) hexec hb hts inX7 tyX7 tyX7_ok nmX7 hown hK.1 hP hD hS q0 he rfl 13 (Nat.le_of_ble_eq_true rfl) (hts _ hl) (fun _ h9 => h9) rfl (by decide +kernel) rfl rfl (Nat.le_of_ble_eq_true rfl) hdg kk
theorem gfX7_14 {f0 f1 f2 f3 f4 f5 f6 f7 f8 f9 f10 f11 f12 f13 f14 f15 : Value} (hexec : p.tables.exec = Jvm.exec) (hb : c.code = cc) (hts : ∀ w ∈ GW, w.before args s = true) (hown : s.vm.findClass own = some m.cls) (hK : KK D cI cS s) (hP : va_P D vwCl ws H) (q0 : Nat) (he : ws[q0]? = some (b, .inr (6, [f0, f1, f2, f3, f4, f5, f6, f7, f8, f9, f10, f11, f12, f13, f14, f15]))) (hl : Cond.fieldLink own index "SoiledTestsModel" "wrongAt" "I" ∈ GW) (hdg : decode cc pc = .ok (.getfield index, 3)) (kk : W p l e R s m args below meth c H locs cells slots Q (F0 m (pc + 3) ls (f14 :: rest))) : W p l e R s m args below meth c H locs cells slots Q (F0 m pc ls (.ref b :: rest)) := va_get (T := TX7) (N := 16) hexec hb hts inX7 hown hK.1 hP q0 he rfl 14 (Nat.le_of_ble_eq_true rfl) (hts _ hl) (fun _ h9 => h9) rfl hdg kk
theorem gnX7_14 {f0 f1 f2 f3 f4 f5 f6 f7 f8 f9 f10 f11 f12 f13 f14 f15 : Value} (hexec : p.tables.exec = Jvm.exec) (hb : c.code = cc) (hts : ∀ w ∈ GW, w.before args s = true) (hown : s.vm.findClass own = some m.cls) (hK : KK D cI cS s) (hP : va_P D vwCl ws H) (q0 : Nat) (he : ws[q0]? = some (b, .inr (6, [f0, f1, f2, f3, f4, f5, f6, f7, f8, f9, f10, f11, f12, f13, f14, f15]))) (hl : Cond.fieldLinkNest own index "SoiledTestsModel" "wrongAt" "I" host ∈ nW) (hdg : decode cc pc = .ok (.getfield index, 3)) (kk : W p l e R s m args below meth c H locs cells slots Q (F0 m (pc + 3) ls (f14 :: rest))) : W p l e R s m args below meth c H locs cells slots Q (F0 m pc ls (.ref b :: rest)) := va_getN (T := TX7) (N := 16) hexec hb hts inX7 hown hK.1 hP q0 he rfl 14 (Nat.le_of_ble_eq_true rfl) (va_Nw.use rfl (hK.2.1 _ hl)) (fun _ h9 => h9) rfl hdg kk
theorem pfX7_14 {f0 f1 f2 f3 f4 f5 f6 f7 f8 f9 f10 f11 f12 f13 f14 f15 : Value} {v : Int32} (hexec : p.tables.exec = Jvm.exec) (hb : c.code = cc) (hts : ∀ w ∈ GW, w.before args s = true) (hown : s.vm.findClass own = some m.cls) (hK : KK D cI cS s) (hP : va_P D vwCl ws H) (hD : va_D A0 ws) (hS : va_S A0 H0 H locs) (q0 : Nat) (he : ws[q0]? = some (b, .inr (6, [f0, f1, f2, f3, f4, f5, f6, f7, f8, f9, f10, f11, f12, f13, f14, f15]))) (hU : ws.set q0 (b, .inr (6, [f0, f1, f2, f3, f4, f5, f6, f7, f8, f9, f10, f11, f12, f13, .int v, f15])) = ws') (hl : Cond.fieldLink own index "SoiledTestsModel" "wrongAt" "I" ∈ GW) (hdg : decode cc pc = .ok (.putfield index, 3)) (kk : ∀ (H1 : Heap) (locs1 : List Loc), va_P D vwCl ws' H1 → va_D A0 ws' → va_S A0 H0 H1 locs1 → W p l e R s m args below meth c H1 locs1 cells slots Q (F0 m (pc + 3) ls rest)) : W p l e R s m args below meth c H locs cells slots Q (F0 m pc ls (.int v :: .ref b :: rest)) := by
  subst hU
  exact va_put (T := TX7) (N := 16) (ty := .int) hexec hb hts inX7 tyX7 tyX7_ok nmX7 hown hK.1 hP hD hS q0 he rfl 14 (Nat.le_of_ble_eq_true rfl) (hts _ hl) (fun _ h9 => h9) rfl (by decide +kernel) rfl rfl (Nat.le_of_ble_eq_true rfl) hdg kk
theorem gfX7_15 {f0 f1 f2 f3 f4 f5 f6 f7 f8 f9 f10 f11 f12 f13 f14 f15 : Value} (hexec : p.tables.exec = Jvm.exec) (hb : c.code = cc) (hts : ∀ w ∈ GW, w.before args s = true) (hown : s.vm.findClass own = some m.cls) (hK : KK D cI cS s) (hP : va_P D vwCl ws H) (q0 : Nat) (he : ws[q0]? = some (b, .inr (6, [f0, f1, f2, f3, f4, f5, f6, f7, f8, f9, f10, f11, f12, f13, f14, f15]))) (hl : Cond.fieldLink own index "SoiledTestsModel" "hash" "J" ∈ GW) (hdg : decode cc pc = .ok (.getfield index, 3)) (kk : W p l e R s m args below meth c H locs cells slots Q (F0 m (pc + 3) ls (f15 :: rest))) : W p l e R s m args below meth c H locs cells slots Q (F0 m pc ls (.ref b :: rest)) := va_get (T := TX7) (N := 16) hexec hb hts inX7 hown hK.1 hP q0 he rfl 15 (Nat.le_of_ble_eq_true rfl) (hts _ hl) (fun _ h9 => h9) rfl hdg kk
theorem gnX7_15 {f0 f1 f2 f3 f4 f5 f6 f7 f8 f9 f10 f11 f12 f13 f14 f15 : Value} (hexec : p.tables.exec = Jvm.exec) (hb : c.code = cc) (hts : ∀ w ∈ GW, w.before args s = true) (hown : s.vm.findClass own = some m.cls) (hK : KK D cI cS s) (hP : va_P D vwCl ws H) (q0 : Nat) (he : ws[q0]? = some (b, .inr (6, [f0, f1, f2, f3, f4, f5, f6, f7, f8, f9, f10, f11, f12, f13, f14, f15]))) (hl : Cond.fieldLinkNest own index "SoiledTestsModel" "hash" "J" host ∈ nW) (hdg : decode cc pc = .ok (.getfield index, 3)) (kk : W p l e R s m args below meth c H locs cells slots Q (F0 m (pc + 3) ls (f15 :: rest))) : W p l e R s m args below meth c H locs cells slots Q (F0 m pc ls (.ref b :: rest)) := va_getN (T := TX7) (N := 16) hexec hb hts inX7 hown hK.1 hP q0 he rfl 15 (Nat.le_of_ble_eq_true rfl) (va_Nw.use rfl (hK.2.1 _ hl)) (fun _ h9 => h9) rfl hdg kk
theorem pfX7_15 {f0 f1 f2 f3 f4 f5 f6 f7 f8 f9 f10 f11 f12 f13 f14 f15 : Value} {v : Int64} (hexec : p.tables.exec = Jvm.exec) (hb : c.code = cc) (hts : ∀ w ∈ GW, w.before args s = true) (hown : s.vm.findClass own = some m.cls) (hK : KK D cI cS s) (hP : va_P D vwCl ws H) (hD : va_D A0 ws) (hS : va_S A0 H0 H locs) (q0 : Nat) (he : ws[q0]? = some (b, .inr (6, [f0, f1, f2, f3, f4, f5, f6, f7, f8, f9, f10, f11, f12, f13, f14, f15]))) (hU : ws.set q0 (b, .inr (6, [f0, f1, f2, f3, f4, f5, f6, f7, f8, f9, f10, f11, f12, f13, f14, .long v])) = ws') (hl : Cond.fieldLink own index "SoiledTestsModel" "hash" "J" ∈ GW) (hdg : decode cc pc = .ok (.putfield index, 3)) (kk : ∀ (H1 : Heap) (locs1 : List Loc), va_P D vwCl ws' H1 → va_D A0 ws' → va_S A0 H0 H1 locs1 → W p l e R s m args below meth c H1 locs1 cells slots Q (F0 m (pc + 3) ls rest)) : W p l e R s m args below meth c H locs cells slots Q (F0 m pc ls (.long v :: .ref b :: rest)) := by
  subst hU
  exact va_put (T := TX7) (N := 16) (ty := .long) hexec hb hts inX7 tyX7 tyX7_ok nmX7 hown hK.1 hP hD hS q0 he rfl 15 (Nat.le_of_ble_eq_true rfl) (hts _ hl) (fun _ h9 => h9) rfl (by decide +kernel) rfl rfl (Nat.le_of_ble_eq_true rfl) hdg kk
end FL
theorem ciX0_init : CYI yX0_init cX0_init 1 0 := ⟨wvX0_init, wiX0, wbX0_init, ⟨by decide +kernel, by decide +kernel, by decide +kernel⟩, rfl⟩
theorem cvX0_read : CYV RX0 yX0_read cX0_read 3 (some .int) 1 := ⟨⟨wvX0_read, weX0_read⟩, wiX0, wbX0_read, by decide +kernel, by decide +kernel, by decide +kernel⟩
theorem cvX0_takes : CYV RX0 yX0_takes cX0_takes 2 (some .boolean) 1 := ⟨⟨wvX0_takes, weX0_takes⟩, wiX0, wbX0_takes, by decide +kernel, by decide +kernel, by decide +kernel⟩
theorem cvX0_opensOrder : CYV RX0 yX0_opensOrder cX0_opensOrder 2 (some .boolean) 1 := ⟨⟨wvX0_opensOrder, weX0_opensOrder⟩, wiX0, wbX0_opensOrder, by decide +kernel, by decide +kernel, by decide +kernel⟩
theorem cvX0_endsOrder : CYV RX0 yX0_endsOrder cX0_endsOrder 1 (some .boolean) 0 := ⟨⟨wvX0_endsOrder, weX0_endsOrder⟩, wiX0, wbX0_endsOrder, by decide +kernel, by decide +kernel, by decide +kernel⟩
theorem cvX0_takesFigure : CYV RX0 yX0_takesFigure cX0_takesFigure 2 (some .boolean) 1 := ⟨⟨wvX0_takesFigure, weX0_takesFigure⟩, wiX0, wbX0_takesFigure, by decide +kernel, by decide +kernel, by decide +kernel⟩
theorem cvX0_setNumber : CYV RX0 yX0_setNumber cX0_setNumber 3 none 1 := ⟨⟨wvX0_setNumber, weX0_setNumber⟩, wiX0, wbX0_setNumber, by decide +kernel, by decide +kernel, by decide +kernel⟩
theorem csX0_numbersOf : CYS yX0_numbersOf cX0_numbersOf 1 (some .int) 1 := ⟨wsX0_numbersOf, wiX0, wbX0_numbersOf, by decide +kernel, by decide +kernel, by decide +kernel⟩
theorem cvX0_letter : CYV RX0 yX0_letter cX0_letter 2 (some .int) 1 := ⟨⟨wvX0_letter, weX0_letter⟩, wiX0, wbX0_letter, by decide +kernel, by decide +kernel, by decide +kernel⟩
theorem cvX0_number : CYV RX0 yX0_number cX0_number 4 (some .int) 2 := ⟨⟨wvX0_number, weX0_number⟩, wiX0, wbX0_number, by decide +kernel, by decide +kernel, by decide +kernel⟩
theorem ciX1_init : CYI yX1_init cX1_init 2 0 := ⟨wvX1_init, wiX1, wbX1_init, ⟨by decide +kernel, by decide +kernel, by decide +kernel⟩, rfl⟩
theorem cvX1_markedSlot : CYV RX1 yX1_markedSlot cX1_markedSlot 1 (some (.object "SoiledTests$Suite")) 0 := ⟨⟨wvX1_markedSlot, weX1_markedSlot⟩, wiX1, wbX1_markedSlot, by decide +kernel, by decide +kernel, by decide +kernel⟩
theorem cvX1_mark : CYV RX1 yX1_mark cX1_mark 3 none 1 := ⟨⟨wvX1_mark, weX1_mark⟩, wiX1, wbX1_mark, by decide +kernel, by decide +kernel, by decide +kernel⟩
theorem cvX1_recall : CYV RX1 yX1_recall cX1_recall 3 none 1 := ⟨⟨wvX1_recall, weX1_recall⟩, wiX1, wbX1_recall, by decide +kernel, by decide +kernel, by decide +kernel⟩
theorem cvX1_keep : CYV RX1 yX1_keep cX1_keep 1 none 0 := ⟨⟨wvX1_keep, weX1_keep⟩, wiX1, wbX1_keep, by decide +kernel, by decide +kernel, by decide +kernel⟩
theorem cvX1_stepBack : CYV RX1 yX1_stepBack cX1_stepBack 2 (some .int) 1 := ⟨⟨wvX1_stepBack, weX1_stepBack⟩, wiX1, wbX1_stepBack, by decide +kernel, by decide +kernel, by decide +kernel⟩
theorem csX2_least : CYS yX2_least cX2_least 9 (some .int) 3 := ⟨wsX2_least, wiX2, wbX2_least, by decide +kernel, by decide +kernel, by decide +kernel⟩
theorem csX2_fewest : CYS yX2_fewest cX2_fewest 6 (some .int) 3 := ⟨wsX2_fewest, wiX2, wbX2_fewest, by decide +kernel, by decide +kernel, by decide +kernel⟩
theorem csX2_halves : CYS yX2_halves cX2_halves 7 (some .int) 3 := ⟨wsX2_halves, wiX2, wbX2_halves, by decide +kernel, by decide +kernel, by decide +kernel⟩
theorem csX2_firstHalf : CYS yX2_firstHalf cX2_firstHalf 6 (some .int) 2 := ⟨wsX2_firstHalf, wiX2, wbX2_firstHalf, by decide +kernel, by decide +kernel, by decide +kernel⟩
theorem ciX3_init : CYI yX3_init cX3_init 1 0 := ⟨wvX3_init, wiX3, wbX3_init, ⟨by decide +kernel, by decide +kernel, by decide +kernel⟩, rfl⟩
theorem cvX3_nth : CYV RX3 yX3_nth cX3_nth 2 (some .int) 1 := ⟨⟨wvX3_nth, weX3_nth⟩, wiX3, wbX3_nth, by decide +kernel, by decide +kernel, by decide +kernel⟩
theorem cvX3_placeOf : CYV RX3 yX3_placeOf cX3_placeOf 3 (some .int) 1 := ⟨⟨wvX3_placeOf, weX3_placeOf⟩, wiX3, wbX3_placeOf, by decide +kernel, by decide +kernel, by decide +kernel⟩
theorem cvX3_setAhead : CYV RX3 yX3_setAhead cX3_setAhead 4 (some .int) 1 := ⟨⟨wvX3_setAhead, weX3_setAhead⟩, wiX3, wbX3_setAhead, by decide +kernel, by decide +kernel, by decide +kernel⟩
theorem cvX3_append : CYV RX3 yX3_append cX3_append 2 none 1 := ⟨⟨wvX3_append, weX3_append⟩, wiX3, wbX3_append, by decide +kernel, by decide +kernel, by decide +kernel⟩
theorem cvX3_makeEmpty : CYV RX3 yX3_makeEmpty cX3_makeEmpty 1 none 0 := ⟨⟨wvX3_makeEmpty, weX3_makeEmpty⟩, wiX3, wbX3_makeEmpty, by decide +kernel, by decide +kernel, by decide +kernel⟩
theorem cvX3_takeOut : CYV RX3 yX3_takeOut cX3_takeOut 5 none 1 := ⟨⟨wvX3_takeOut, weX3_takeOut⟩, wiX3, wbX3_takeOut, by decide +kernel, by decide +kernel, by decide +kernel⟩
theorem cvX3_layShuffled : CYV RX3 yX3_layShuffled cX3_layShuffled 6 none 2 := ⟨⟨wvX3_layShuffled, weX3_layShuffled⟩, wiX3, wbX3_layShuffled, by decide +kernel, by decide +kernel, by decide +kernel⟩
theorem cvX3_swap : CYV RX3 yX3_swap cX3_swap 4 none 2 := ⟨⟨wvX3_swap, weX3_swap⟩, wiX3, wbX3_swap, by decide +kernel, by decide +kernel, by decide +kernel⟩
theorem cvX3_copyFrom : CYV RX3 yX3_copyFrom cX3_copyFrom 2 none 1 := ⟨⟨wvX3_copyFrom, weX3_copyFrom⟩, wiX3, wbX3_copyFrom, by decide +kernel, by decide +kernel, by decide +kernel⟩
theorem ciX4_init : CYI yX4_init cX4_init 1 0 := ⟨wvX4_init, wiX4, wbX4_init, ⟨by decide +kernel, by decide +kernel, by decide +kernel⟩, rfl⟩
theorem cvX4_addTest : CYV RX4 yX4_addTest cX4_addTest 7 (some .int) 5 := ⟨⟨wvX4_addTest, weX4_addTest⟩, wiX4, wbX4_addTest, by decide +kernel, by decide +kernel, by decide +kernel⟩
theorem cvX4_cutLast : CYV RX4 yX4_cutLast cX4_cutLast 1 (some .int) 0 := ⟨⟨wvX4_cutLast, weX4_cutLast⟩, wiX4, wbX4_cutLast, by decide +kernel, by decide +kernel, by decide +kernel⟩
theorem cvX4_layTest : CYV RX4 yX4_layTest cX4_layTest 2 (some .int) 1 := ⟨⟨wvX4_layTest, weX4_layTest⟩, wiX4, wbX4_layTest, by decide +kernel, by decide +kernel, by decide +kernel⟩
theorem cvX4_wipeRow : CYV RX4 yX4_wipeRow cX4_wipeRow 2 (some .int) 0 := ⟨⟨wvX4_wipeRow, weX4_wipeRow⟩, wiX4, wbX4_wipeRow, by decide +kernel, by decide +kernel, by decide +kernel⟩
theorem cvX4_changeStart : CYV RX4 yX4_changeStart cX4_changeStart 3 (some .int) 1 := ⟨⟨wvX4_changeStart, weX4_changeStart⟩, wiX4, wbX4_changeStart, by decide +kernel, by decide +kernel, by decide +kernel⟩
theorem cvX4_changeMode : CYV RX4 yX4_changeMode cX4_changeMode 3 (some .int) 1 := ⟨⟨wvX4_changeMode, weX4_changeMode⟩, wiX4, wbX4_changeMode, by decide +kernel, by decide +kernel, by decide +kernel⟩
theorem cvX4_shuffleRow : CYV RX4 yX4_shuffleRow cX4_shuffleRow 2 (some .int) 1 := ⟨⟨wvX4_shuffleRow, weX4_shuffleRow⟩, wiX4, wbX4_shuffleRow, by decide +kernel, by decide +kernel, by decide +kernel⟩
theorem cvX4_trimAhead : CYV RX4 yX4_trimAhead cX4_trimAhead 4 (some .int) 1 := ⟨⟨wvX4_trimAhead, weX4_trimAhead⟩, wiX4, wbX4_trimAhead, by decide +kernel, by decide +kernel, by decide +kernel⟩
theorem cvX4_hasTest : CYV RX4 yX4_hasTest cX4_hasTest 2 (some .boolean) 1 := ⟨⟨wvX4_hasTest, weX4_hasTest⟩, wiX4, wbX4_hasTest, by decide +kernel, by decide +kernel, by decide +kernel⟩
theorem cvX4_mask : CYV RX4 yX4_mask cX4_mask 4 (some .int) 2 := ⟨⟨wvX4_mask, weX4_mask⟩, wiX4, wbX4_mask, by decide +kernel, by decide +kernel, by decide +kernel⟩
theorem cvX4_wrongCells : CYV RX4 yX4_wrongCells cX4_wrongCells 4 (some .int) 2 := ⟨⟨wvX4_wrongCells, weX4_wrongCells⟩, wiX4, wbX4_wrongCells, by decide +kernel, by decide +kernel, by decide +kernel⟩
theorem cvX4_passesOn : CYV RX4 yX4_passesOn cX4_passesOn 3 (some .boolean) 2 := ⟨⟨wvX4_passesOn, weX4_passesOn⟩, wiX4, wbX4_passesOn, by decide +kernel, by decide +kernel, by decide +kernel⟩
theorem cvX4_isFlippedOn : CYV RX4 yX4_isFlippedOn cX4_isFlippedOn 3 (some .boolean) 2 := ⟨⟨wvX4_isFlippedOn, weX4_isFlippedOn⟩, wiX4, wbX4_isFlippedOn, by decide +kernel, by decide +kernel, by decide +kernel⟩
theorem cvX4_cellsAfter : CYV RX4 yX4_cellsAfter cX4_cellsAfter 4 (some .int) 2 := ⟨⟨wvX4_cellsAfter, weX4_cellsAfter⟩, wiX4, wbX4_cellsAfter, by decide +kernel, by decide +kernel, by decide +kernel⟩
theorem cvX4_cellsBehind : CYV RX4 yX4_cellsBehind cX4_cellsBehind 5 (some .int) 1 := ⟨⟨wvX4_cellsBehind, weX4_cellsBehind⟩, wiX4, wbX4_cellsBehind, by decide +kernel, by decide +kernel, by decide +kernel⟩
theorem cvX4_isFlippedBehind : CYV RX4 yX4_isFlippedBehind cX4_isFlippedBehind 3 (some .boolean) 2 := ⟨⟨wvX4_isFlippedBehind, weX4_isFlippedBehind⟩, wiX4, wbX4_isFlippedBehind, by decide +kernel, by decide +kernel, by decide +kernel⟩
theorem cvX4_flippingAhead : CYV RX4 yX4_flippingAhead cX4_flippingAhead 4 (some .int) 1 := ⟨⟨wvX4_flippingAhead, weX4_flippingAhead⟩, wiX4, wbX4_flippingAhead, by decide +kernel, by decide +kernel, by decide +kernel⟩
theorem cvX4_passingIn : CYV RX4 yX4_passingIn cX4_passingIn 6 (some .int) 1 := ⟨⟨wvX4_passingIn, weX4_passingIn⟩, wiX4, wbX4_passingIn, by decide +kernel, by decide +kernel, by decide +kernel⟩
theorem cvX4_passingAlone : CYV RX4 yX4_passingAlone cX4_passingAlone 3 (some .int) 0 := ⟨⟨wvX4_passingAlone, weX4_passingAlone⟩, wiX4, wbX4_passingAlone, by decide +kernel, by decide +kernel, by decide +kernel⟩
theorem cvX4_flippedIn : CYV RX4 yX4_flippedIn cX4_flippedIn 2 (some .int) 1 := ⟨⟨wvX4_flippedIn, weX4_flippedIn⟩, wiX4, wbX4_flippedIn, by decide +kernel, by decide +kernel, by decide +kernel⟩
theorem cvX4_lastToChange : CYV RX4 yX4_lastToChange cX4_lastToChange 8 (some .int) 2 := ⟨⟨wvX4_lastToChange, weX4_lastToChange⟩, wiX4, wbX4_lastToChange, by decide +kernel, by decide +kernel, by decide +kernel⟩
theorem cvX4_doesSoil : CYV RX4 yX4_doesSoil cX4_doesSoil 3 (some .boolean) 2 := ⟨⟨wvX4_doesSoil, weX4_doesSoil⟩, wiX4, wbX4_doesSoil, by decide +kernel, by decide +kernel, by decide +kernel⟩
theorem cvX4_soilingPairs : CYV RX4 yX4_soilingPairs cX4_soilingPairs 4 (some .int) 0 := ⟨⟨wvX4_soilingPairs, weX4_soilingPairs⟩, wiX4, wbX4_soilingPairs, by decide +kernel, by decide +kernel, by decide +kernel⟩
theorem cvX4_cleaners : CYV RX4 yX4_cleaners cX4_cleaners 6 (some .int) 2 := ⟨⟨wvX4_cleaners, weX4_cleaners⟩, wiX4, wbX4_cleaners, by decide +kernel, by decide +kernel, by decide +kernel⟩
theorem cvX4_copyFrom : CYV RX4 yX4_copyFrom cX4_copyFrom 2 none 1 := ⟨⟨wvX4_copyFrom, weX4_copyFrom⟩, wiX4, wbX4_copyFrom, by decide +kernel, by decide +kernel, by decide +kernel⟩
theorem ciX5_init : CYI yX5_init cX5_init 1 0 := ⟨wvX5_init, wiX5, wbX5_init, ⟨by decide +kernel, by decide +kernel, by decide +kernel⟩, rfl⟩
theorem cvX5_isFull : CYV RX5 yX5_isFull cX5_isFull 1 (some .boolean) 0 := ⟨⟨wvX5_isFull, weX5_isFull⟩, wiX5, wbX5_isFull, by decide +kernel, by decide +kernel, by decide +kernel⟩
theorem cvX5_append : CYV RX5 yX5_append cX5_append 2 (some .int) 1 := ⟨⟨wvX5_append, weX5_append⟩, wiX5, wbX5_append, by decide +kernel, by decide +kernel, by decide +kernel⟩
theorem cvX5_makeEmpty : CYV RX5 yX5_makeEmpty cX5_makeEmpty 2 (some .int) 0 := ⟨⟨wvX5_makeEmpty, weX5_makeEmpty⟩, wiX5, wbX5_makeEmpty, by decide +kernel, by decide +kernel, by decide +kernel⟩
theorem cvX5_nth : CYV RX5 yX5_nth cX5_nth 2 (some .int) 1 := ⟨⟨wvX5_nth, weX5_nth⟩, wiX5, wbX5_nth, by decide +kernel, by decide +kernel, by decide +kernel⟩
theorem ciX6_init : CYI yX6_init cX6_init 1 0 := ⟨wvX6_init, wiX6, wbX6_init, ⟨by decide +kernel, by decide +kernel, by decide +kernel⟩, rfl⟩
theorem cvX6_test : CYV RX6 yX6_test cX6_test 6 (some .int) 5 := ⟨⟨wvX6_test, weX6_test⟩, wiX6, wbX6_test, by decide +kernel, by decide +kernel, by decide +kernel⟩
theorem cvX6_cuts : CYV RX6 yX6_cuts cX6_cuts 1 (some .int) 0 := ⟨⟨wvX6_cuts, weX6_cuts⟩, wiX6, wbX6_cuts, by decide +kernel, by decide +kernel, by decide +kernel⟩
theorem cvX6_lays : CYV RX6 yX6_lays cX6_lays 2 (some .int) 1 := ⟨⟨wvX6_lays, weX6_lays⟩, wiX6, wbX6_lays, by decide +kernel, by decide +kernel, by decide +kernel⟩
theorem cvX6_wipes : CYV RX6 yX6_wipes cX6_wipes 1 (some .int) 0 := ⟨⟨wvX6_wipes, weX6_wipes⟩, wiX6, wbX6_wipes, by decide +kernel, by decide +kernel, by decide +kernel⟩
theorem cvX6_start : CYV RX6 yX6_start cX6_start 2 (some .int) 1 := ⟨⟨wvX6_start, weX6_start⟩, wiX6, wbX6_start, by decide +kernel, by decide +kernel, by decide +kernel⟩
theorem cvX6_mode : CYV RX6 yX6_mode cX6_mode 2 (some .int) 1 := ⟨⟨wvX6_mode, weX6_mode⟩, wiX6, wbX6_mode, by decide +kernel, by decide +kernel, by decide +kernel⟩
theorem cvX6_shuffles : CYV RX6 yX6_shuffles cX6_shuffles 2 (some .int) 1 := ⟨⟨wvX6_shuffles, weX6_shuffles⟩, wiX6, wbX6_shuffles, by decide +kernel, by decide +kernel, by decide +kernel⟩
theorem cvX6_trims : CYV RX6 yX6_trims cX6_trims 2 (some .int) 1 := ⟨⟨wvX6_trims, weX6_trims⟩, wiX6, wbX6_trims, by decide +kernel, by decide +kernel, by decide +kernel⟩
theorem cvX6_of : CYV RX6 yX6_of cX6_of 3 (some .int) 2 := ⟨⟨wvX6_of, weX6_of⟩, wiX6, wbX6_of, by decide +kernel, by decide +kernel, by decide +kernel⟩
theorem cvX6_soils : CYV RX6 yX6_soils cX6_soils 3 (some .int) 2 := ⟨⟨wvX6_soils, weX6_soils⟩, wiX6, wbX6_soils, by decide +kernel, by decide +kernel, by decide +kernel⟩
theorem cvX6_cleans : CYV RX6 yX6_cleans cX6_cleans 3 (some .int) 2 := ⟨⟨wvX6_cleans, weX6_cleans⟩, wiX6, wbX6_cleans, by decide +kernel, by decide +kernel, by decide +kernel⟩
theorem cvX6_flips : CYV RX6 yX6_flips cX6_flips 2 (some .int) 1 := ⟨⟨wvX6_flips, weX6_flips⟩, wiX6, wbX6_flips, by decide +kernel, by decide +kernel, by decide +kernel⟩
theorem cvX6_seed : CYV RX6 yX6_seed cX6_seed 4 (some .int) 2 := ⟨⟨wvX6_seed, weX6_seed⟩, wiX6, wbX6_seed, by decide +kernel, by decide +kernel, by decide +kernel⟩
theorem cvX6_at : CYV RX6 yX6_at cX6_at 2 (some .int) 1 := ⟨⟨wvX6_at, weX6_at⟩, wiX6, wbX6_at, by decide +kernel, by decide +kernel, by decide +kernel⟩
theorem cvX6_inRow : CYV RX6 yX6_inRow cX6_inRow 5 (some .int) 2 := ⟨⟨wvX6_inRow, weX6_inRow⟩, wiX6, wbX6_inRow, by decide +kernel, by decide +kernel, by decide +kernel⟩
theorem cvX6_who : CYV RX6 yX6_who cX6_who 4 (some .int) 2 := ⟨⟨wvX6_who, weX6_who⟩, wiX6, wbX6_who, by decide +kernel, by decide +kernel, by decide +kernel⟩
theorem cvX6_left : CYV RX6 yX6_left cX6_left 4 (some .int) 2 := ⟨⟨wvX6_left, weX6_left⟩, wiX6, wbX6_left, by decide +kernel, by decide +kernel, by decide +kernel⟩
theorem cvX6_count : CYV RX6 yX6_count cX6_count 2 (some .int) 1 := ⟨⟨wvX6_count, weX6_count⟩, wiX6, wbX6_count, by decide +kernel, by decide +kernel, by decide +kernel⟩
theorem cvX6_type : CYV RX6 yX6_type cX6_type 2 (some .int) 1 := ⟨⟨wvX6_type, weX6_type⟩, wiX6, wbX6_type, by decide +kernel, by decide +kernel, by decide +kernel⟩
theorem cvX6_clear : CYV RX6 yX6_clear cX6_clear 1 (some .int) 0 := ⟨⟨wvX6_clear, weX6_clear⟩, wiX6, wbX6_clear, by decide +kernel, by decide +kernel, by decide +kernel⟩
theorem cvX6_does : CYV RX6 yX6_does cX6_does 3 (some .int) 0 := ⟨⟨wvX6_does, weX6_does⟩, wiX6, wbX6_does, by decide +kernel, by decide +kernel, by decide +kernel⟩
theorem cvX6_back : CYV RX6 yX6_back cX6_back 1 (some .int) 0 := ⟨⟨wvX6_back, weX6_back⟩, wiX6, wbX6_back, by decide +kernel, by decide +kernel, by decide +kernel⟩
theorem cvX6_told : CYV RX6 yX6_told cX6_told 2 (some .int) 1 := ⟨⟨wvX6_told, weX6_told⟩, wiX6, wbX6_told, by decide +kernel, by decide +kernel, by decide +kernel⟩
theorem cvX6_digest : CYV RX6 yX6_digest cX6_digest 6 (some .long) 0 := ⟨⟨wvX6_digest, weX6_digest⟩, wiX6, wbX6_digest, by decide +kernel, by decide +kernel, by decide +kernel⟩
theorem cvX6_refused : CYV RX6 yX6_refused cX6_refused 2 (some .int) 1 := ⟨⟨wvX6_refused, weX6_refused⟩, wiX6, wbX6_refused, by decide +kernel, by decide +kernel, by decide +kernel⟩
theorem cvX6_settled : CYV RX6 yX6_settled cX6_settled 2 (some .int) 1 := ⟨⟨wvX6_settled, weX6_settled⟩, wiX6, wbX6_settled, by decide +kernel, by decide +kernel, by decide +kernel⟩
theorem cvX6_carryOut : CYV RX6 yX6_carryOut cX6_carryOut 3 (some .int) 1 := ⟨⟨wvX6_carryOut, weX6_carryOut⟩, wiX6, wbX6_carryOut, by decide +kernel, by decide +kernel, by decide +kernel⟩
theorem cvX6_areTwoTests : CYV RX6 yX6_areTwoTests cX6_areTwoTests 3 (some .boolean) 2 := ⟨⟨wvX6_areTwoTests, weX6_areTwoTests⟩, wiX6, wbX6_areTwoTests, by decide +kernel, by decide +kernel, by decide +kernel⟩
theorem cvX6_flippedBySeed : CYV RX6 yX6_flippedBySeed cX6_flippedBySeed 2 (some .int) 1 := ⟨⟨wvX6_flippedBySeed, weX6_flippedBySeed⟩, wiX6, wbX6_flippedBySeed, by decide +kernel, by decide +kernel, by decide +kernel⟩
theorem csX6_isSeed : CYS yX6_isSeed cX6_isSeed 1 (some .boolean) 1 := ⟨wsX6_isSeed, wiX6, wbX6_isSeed, by decide +kernel, by decide +kernel, by decide +kernel⟩
theorem csX6_areCells : CYS yX6_areCells cX6_areCells 1 (some .boolean) 1 := ⟨wsX6_areCells, wiX6, wbX6_areCells, by decide +kernel, by decide +kernel, by decide +kernel⟩
theorem csX6_isIn : CYS yX6_isIn cX6_isIn 2 (some .boolean) 2 := ⟨wsX6_isIn, wiX6, wbX6_isIn, by decide +kernel, by decide +kernel, by decide +kernel⟩
theorem csX6_oneIf : CYS yX6_oneIf cX6_oneIf 1 (some .int) 1 := ⟨wsX6_oneIf, wiX6, wbX6_oneIf, by decide +kernel, by decide +kernel, by decide +kernel⟩
theorem ciX7_init : CYI yX7_init cX7_init 1 0 := ⟨wvX7_init, wiX7, wbX7_init, ⟨by decide +kernel, by decide +kernel, by decide +kernel⟩, rfl⟩
theorem csX7_in : CYS yX7_in cX7_in 3 (some .boolean) 3 := ⟨wsX7_in, wiX7, wbX7_in, by decide +kernel, by decide +kernel, by decide +kernel⟩
theorem csX7_has : CYS yX7_has cX7_has 2 (some .boolean) 2 := ⟨wsX7_has, wiX7, wbX7_has, by decide +kernel, by decide +kernel, by decide +kernel⟩
theorem csX7_ones : CYS yX7_ones cX7_ones 3 (some .int) 1 := ⟨wsX7_ones, wiX7, wbX7_ones, by decide +kernel, by decide +kernel, by decide +kernel⟩
theorem cvX7_refuses : CYV RX7 yX7_refuses cX7_refuses 2 (some .int) 1 := ⟨⟨wvX7_refuses, weX7_refuses⟩, wiX7, wbX7_refuses, by decide +kernel, by decide +kernel, by decide +kernel⟩
theorem cvX7_laysAside : CYV RX7 yX7_laysAside cX7_laysAside 2 none 0 := ⟨⟨wvX7_laysAside, weX7_laysAside⟩, wiX7, wbX7_laysAside, by decide +kernel, by decide +kernel, by decide +kernel⟩
theorem cvX7_takesBack : CYV RX7 yX7_takesBack cX7_takesBack 2 none 0 := ⟨⟨wvX7_takesBack, weX7_takesBack⟩, wiX7, wbX7_takesBack, by decide +kernel, by decide +kernel, by decide +kernel⟩
theorem cvX7_remembers : CYV RX7 yX7_remembers cX7_remembers 2 none 0 := ⟨⟨wvX7_remembers, weX7_remembers⟩, wiX7, wbX7_remembers, by decide +kernel, by decide +kernel, by decide +kernel⟩
theorem cvX7_finished : CYV RX7 yX7_finished cX7_finished 2 (some .int) 1 := ⟨⟨wvX7_finished, weX7_finished⟩, wiX7, wbX7_finished, by decide +kernel, by decide +kernel, by decide +kernel⟩
theorem cvX7_back : CYV RX7 yX7_back cX7_back 2 (some .int) 0 := ⟨⟨wvX7_back, weX7_back⟩, wiX7, wbX7_back, by decide +kernel, by decide +kernel, by decide +kernel⟩
theorem cvX7_isTest : CYV RX7 yX7_isTest cX7_isTest 2 (some .boolean) 1 := ⟨⟨wvX7_isTest, weX7_isTest⟩, wiX7, wbX7_isTest, by decide +kernel, by decide +kernel, by decide +kernel⟩
theorem cvX7_ofTest : CYV RX7 yX7_ofTest cX7_ofTest 3 (some .int) 2 := ⟨⟨wvX7_ofTest, weX7_ofTest⟩, wiX7, wbX7_ofTest, by decide +kernel, by decide +kernel, by decide +kernel⟩
theorem cvX7_passes : CYV RX7 yX7_passes cX7_passes 3 (some .boolean) 2 := ⟨⟨wvX7_passes, weX7_passes⟩, wiX7, wbX7_passes, by decide +kernel, by decide +kernel, by decide +kernel⟩
theorem cvX7_behind : CYV RX7 yX7_behind cX7_behind 4 (some .int) 2 := ⟨⟨wvX7_behind, weX7_behind⟩, wiX7, wbX7_behind, by decide +kernel, by decide +kernel, by decide +kernel⟩
theorem cvX7_isAlone : CYV RX7 yX7_isAlone cX7_isAlone 2 (some .boolean) 1 := ⟨⟨wvX7_isAlone, weX7_isAlone⟩, wiX7, wbX7_isAlone, by decide +kernel, by decide +kernel, by decide +kernel⟩
theorem cvX7_behindTried : CYV RX7 yX7_behindTried cX7_behindTried 3 (some .int) 0 := ⟨⟨wvX7_behindTried, weX7_behindTried⟩, wiX7, wbX7_behindTried, by decide +kernel, by decide +kernel, by decide +kernel⟩
theorem cvX7_isFlipped : CYV RX7 yX7_isFlipped cX7_isFlipped 2 (some .boolean) 1 := ⟨⟨wvX7_isFlipped, weX7_isFlipped⟩, wiX7, wbX7_isFlipped, by decide +kernel, by decide +kernel, by decide +kernel⟩
theorem cvX7_soilsFor : CYV RX7 yX7_soilsFor cX7_soilsFor 3 (some .boolean) 2 := ⟨⟨wvX7_soilsFor, weX7_soilsFor⟩, wiX7, wbX7_soilsFor, by decide +kernel, by decide +kernel, by decide +kernel⟩
theorem cvX7_cleansFor : CYV RX7 yX7_cleansFor cX7_cleansFor 4 (some .boolean) 3 := ⟨⟨wvX7_cleansFor, weX7_cleansFor⟩, wiX7, wbX7_cleansFor, by decide +kernel, by decide +kernel, by decide +kernel⟩
theorem cvX7_placeOf : CYV RX7 yX7_placeOf cX7_placeOf 3 (some .int) 1 := ⟨⟨wvX7_placeOf, weX7_placeOf⟩, wiX7, wbX7_placeOf, by decide +kernel, by decide +kernel, by decide +kernel⟩
theorem cvX7_tries : CYV RX7 yX7_tries cX7_tries 4 none 2 := ⟨⟨wvX7_tries, weX7_tries⟩, wiX7, wbX7_tries, by decide +kernel, by decide +kernel, by decide +kernel⟩
theorem cvX7_flipsIn : CYV RX7 yX7_flipsIn cX7_flipsIn 3 (some .boolean) 2 := ⟨⟨wvX7_flipsIn, weX7_flipsIn⟩, wiX7, wbX7_flipsIn, by decide +kernel, by decide +kernel, by decide +kernel⟩
theorem cvX7_ahead : CYV RX7 yX7_ahead cX7_ahead 4 (some .int) 1 := ⟨⟨wvX7_ahead, weX7_ahead⟩, wiX7, wbX7_ahead, by decide +kernel, by decide +kernel, by decide +kernel⟩
theorem cvX7_leastOf : CYV RX7 yX7_leastOf cX7_leastOf 6 (some .int) 1 := ⟨⟨wvX7_leastOf, weX7_leastOf⟩, wiX7, wbX7_leastOf, by decide +kernel, by decide +kernel, by decide +kernel⟩
theorem cvX7_fewestOf : CYV RX7 yX7_fewestOf cX7_fewestOf 5 (some .int) 1 := ⟨⟨wvX7_fewestOf, weX7_fewestOf⟩, wiX7, wbX7_fewestOf, by decide +kernel, by decide +kernel, by decide +kernel⟩
theorem cvX7_halvesOf : CYV RX7 yX7_halvesOf cX7_halvesOf 8 (some .int) 1 := ⟨⟨wvX7_halvesOf, weX7_halvesOf⟩, wiX7, wbX7_halvesOf, by decide +kernel, by decide +kernel, by decide +kernel⟩
theorem cvX7_isFlippedInRow : CYV RX7 yX7_isFlippedInRow cX7_isFlippedInRow 3 (some .boolean) 1 := ⟨⟨wvX7_isFlippedInRow, weX7_isFlippedInRow⟩, wiX7, wbX7_isFlippedInRow, by decide +kernel, by decide +kernel, by decide +kernel⟩
theorem cvX7_putTest : CYV RX7 yX7_putTest cX7_putTest 8 (some .int) 5 := ⟨⟨wvX7_putTest, weX7_putTest⟩, wiX7, wbX7_putTest, by decide +kernel, by decide +kernel, by decide +kernel⟩
theorem cvX7_takesOut : CYV RX7 yX7_takesOut cX7_takesOut 3 none 1 := ⟨⟨wvX7_takesOut, weX7_takesOut⟩, wiX7, wbX7_takesOut, by decide +kernel, by decide +kernel, by decide +kernel⟩
theorem cvX7_putCut : CYV RX7 yX7_putCut cX7_putCut 2 (some .int) 0 := ⟨⟨wvX7_putCut, weX7_putCut⟩, wiX7, wbX7_putCut, by decide +kernel, by decide +kernel, by decide +kernel⟩
theorem cvX7_putLaid : CYV RX7 yX7_putLaid cX7_putLaid 2 (some .int) 1 := ⟨⟨wvX7_putLaid, weX7_putLaid⟩, wiX7, wbX7_putLaid, by decide +kernel, by decide +kernel, by decide +kernel⟩
theorem cvX7_putWiped : CYV RX7 yX7_putWiped cX7_putWiped 2 (some .int) 0 := ⟨⟨wvX7_putWiped, weX7_putWiped⟩, wiX7, wbX7_putWiped, by decide +kernel, by decide +kernel, by decide +kernel⟩
theorem cvX7_change : CYV RX7 yX7_change cX7_change 5 (some .int) 3 := ⟨⟨wvX7_change, weX7_change⟩, wiX7, wbX7_change, by decide +kernel, by decide +kernel, by decide +kernel⟩
theorem cvX7_laysShuffled : CYV RX7 yX7_laysShuffled cX7_laysShuffled 7 none 1 := ⟨⟨wvX7_laysShuffled, weX7_laysShuffled⟩, wiX7, wbX7_laysShuffled, by decide +kernel, by decide +kernel, by decide +kernel⟩
theorem cvX7_putShuffled : CYV RX7 yX7_putShuffled cX7_putShuffled 3 (some .int) 1 := ⟨⟨wvX7_putShuffled, weX7_putShuffled⟩, wiX7, wbX7_putShuffled, by decide +kernel, by decide +kernel, by decide +kernel⟩
theorem cvX7_putTrimmed : CYV RX7 yX7_putTrimmed cX7_putTrimmed 6 (some .int) 1 := ⟨⟨wvX7_putTrimmed, weX7_putTrimmed⟩, wiX7, wbX7_putTrimmed, by decide +kernel, by decide +kernel, by decide +kernel⟩
theorem cvX7_test : CYV RX7 yX7_test cX7_test 6 (some .int) 5 := ⟨⟨wvX7_test, weX7_test⟩, wiX7, wbX7_test, by decide +kernel, by decide +kernel, by decide +kernel⟩
theorem cvX7_cuts : CYV RX7 yX7_cuts cX7_cuts 1 (some .int) 0 := ⟨⟨wvX7_cuts, weX7_cuts⟩, wiX7, wbX7_cuts, by decide +kernel, by decide +kernel, by decide +kernel⟩
theorem cvX7_lays : CYV RX7 yX7_lays cX7_lays 2 (some .int) 1 := ⟨⟨wvX7_lays, weX7_lays⟩, wiX7, wbX7_lays, by decide +kernel, by decide +kernel, by decide +kernel⟩
theorem cvX7_wipes : CYV RX7 yX7_wipes cX7_wipes 1 (some .int) 0 := ⟨⟨wvX7_wipes, weX7_wipes⟩, wiX7, wbX7_wipes, by decide +kernel, by decide +kernel, by decide +kernel⟩
theorem cvX7_start : CYV RX7 yX7_start cX7_start 2 (some .int) 1 := ⟨⟨wvX7_start, weX7_start⟩, wiX7, wbX7_start, by decide +kernel, by decide +kernel, by decide +kernel⟩
theorem cvX7_mode : CYV RX7 yX7_mode cX7_mode 2 (some .int) 1 := ⟨⟨wvX7_mode, weX7_mode⟩, wiX7, wbX7_mode, by decide +kernel, by decide +kernel, by decide +kernel⟩
theorem cvX7_shuffles : CYV RX7 yX7_shuffles cX7_shuffles 2 (some .int) 1 := ⟨⟨wvX7_shuffles, weX7_shuffles⟩, wiX7, wbX7_shuffles, by decide +kernel, by decide +kernel, by decide +kernel⟩
theorem cvX7_trims : CYV RX7 yX7_trims cX7_trims 2 (some .int) 1 := ⟨⟨wvX7_trims, weX7_trims⟩, wiX7, wbX7_trims, by decide +kernel, by decide +kernel, by decide +kernel⟩
theorem cvX7_testTold : CYV RX7 yX7_testTold cX7_testTold 3 (some .int) 2 := ⟨⟨wvX7_testTold, weX7_testTold⟩, wiX7, wbX7_testTold, by decide +kernel, by decide +kernel, by decide +kernel⟩
theorem cvX7_of : CYV RX7 yX7_of cX7_of 3 (some .int) 2 := ⟨⟨wvX7_of, weX7_of⟩, wiX7, wbX7_of, by decide +kernel, by decide +kernel, by decide +kernel⟩
theorem cvX7_areTwo : CYV RX7 yX7_areTwo cX7_areTwo 3 (some .boolean) 2 := ⟨⟨wvX7_areTwo, weX7_areTwo⟩, wiX7, wbX7_areTwo, by decide +kernel, by decide +kernel, by decide +kernel⟩
theorem cvX7_soils : CYV RX7 yX7_soils cX7_soils 3 (some .int) 2 := ⟨⟨wvX7_soils, weX7_soils⟩, wiX7, wbX7_soils, by decide +kernel, by decide +kernel, by decide +kernel⟩
theorem cvX7_cleans : CYV RX7 yX7_cleans cX7_cleans 5 (some .int) 2 := ⟨⟨wvX7_cleans, weX7_cleans⟩, wiX7, wbX7_cleans, by decide +kernel, by decide +kernel, by decide +kernel⟩
theorem cvX7_flipsBy : CYV RX7 yX7_flipsBy cX7_flipsBy 6 (some .int) 1 := ⟨⟨wvX7_flipsBy, weX7_flipsBy⟩, wiX7, wbX7_flipsBy, by decide +kernel, by decide +kernel, by decide +kernel⟩
theorem cvX7_flips : CYV RX7 yX7_flips cX7_flips 2 (some .int) 1 := ⟨⟨wvX7_flips, weX7_flips⟩, wiX7, wbX7_flips, by decide +kernel, by decide +kernel, by decide +kernel⟩
theorem cvX7_seed : CYV RX7 yX7_seed cX7_seed 4 (some .int) 2 := ⟨⟨wvX7_seed, weX7_seed⟩, wiX7, wbX7_seed, by decide +kernel, by decide +kernel, by decide +kernel⟩
theorem cvX7_at : CYV RX7 yX7_at cX7_at 2 (some .int) 1 := ⟨⟨wvX7_at, weX7_at⟩, wiX7, wbX7_at, by decide +kernel, by decide +kernel, by decide +kernel⟩
theorem cvX7_placeTold : CYV RX7 yX7_placeTold cX7_placeTold 5 (some .int) 2 := ⟨⟨wvX7_placeTold, weX7_placeTold⟩, wiX7, wbX7_placeTold, by decide +kernel, by decide +kernel, by decide +kernel⟩
theorem cvX7_inRow : CYV RX7 yX7_inRow cX7_inRow 4 (some .int) 2 := ⟨⟨wvX7_inRow, weX7_inRow⟩, wiX7, wbX7_inRow, by decide +kernel, by decide +kernel, by decide +kernel⟩
theorem cvX7_who : CYV RX7 yX7_who cX7_who 8 (some .int) 2 := ⟨⟨wvX7_who, weX7_who⟩, wiX7, wbX7_who, by decide +kernel, by decide +kernel, by decide +kernel⟩
theorem cvX7_left : CYV RX7 yX7_left cX7_left 4 (some .int) 2 := ⟨⟨wvX7_left, weX7_left⟩, wiX7, wbX7_left, by decide +kernel, by decide +kernel, by decide +kernel⟩
theorem cvX7_soilsAll : CYV RX7 yX7_soilsAll cX7_soilsAll 4 (some .int) 0 := ⟨⟨wvX7_soilsAll, weX7_soilsAll⟩, wiX7, wbX7_soilsAll, by decide +kernel, by decide +kernel, by decide +kernel⟩
theorem cvX7_countTold : CYV RX7 yX7_countTold cX7_countTold 5 (some .int) 1 := ⟨⟨wvX7_countTold, weX7_countTold⟩, wiX7, wbX7_countTold, by decide +kernel, by decide +kernel, by decide +kernel⟩
theorem cvX7_count : CYV RX7 yX7_count cX7_count 2 (some .int) 1 := ⟨⟨wvX7_count, weX7_count⟩, wiX7, wbX7_count, by decide +kernel, by decide +kernel, by decide +kernel⟩
theorem cvX7_type : CYV RX7 yX7_type cX7_type 2 (some .int) 1 := ⟨⟨wvX7_type, weX7_type⟩, wiX7, wbX7_type, by decide +kernel, by decide +kernel, by decide +kernel⟩
theorem cvX7_clear : CYV RX7 yX7_clear cX7_clear 2 (some .int) 0 := ⟨⟨wvX7_clear, weX7_clear⟩, wiX7, wbX7_clear, by decide +kernel, by decide +kernel, by decide +kernel⟩
theorem cvX7_isAt : CYV RX7 yX7_isAt cX7_isAt 3 (some .boolean) 2 := ⟨⟨wvX7_isAt, weX7_isAt⟩, wiX7, wbX7_isAt, by decide +kernel, by decide +kernel, by decide +kernel⟩
theorem cvX7_blanks : CYV RX7 yX7_blanks cX7_blanks 1 none 0 := ⟨⟨wvX7_blanks, weX7_blanks⟩, wiX7, wbX7_blanks, by decide +kernel, by decide +kernel, by decide +kernel⟩
theorem cvX7_fails : CYV RX7 yX7_fails cX7_fails 1 (some .boolean) 0 := ⟨⟨wvX7_fails, weX7_fails⟩, wiX7, wbX7_fails, by decide +kernel, by decide +kernel, by decide +kernel⟩
theorem csX7_manyOf : CYS yX7_manyOf cX7_manyOf 1 (some .int) 1 := ⟨wsX7_manyOf, wiX7, wbX7_manyOf, by decide +kernel, by decide +kernel, by decide +kernel⟩
theorem cvX7_takesNumber : CYV RX7 yX7_takesNumber cX7_takesNumber 4 (some .boolean) 1 := ⟨⟨wvX7_takesNumber, weX7_takesNumber⟩, wiX7, wbX7_takesNumber, by decide +kernel, by decide +kernel, by decide +kernel⟩
theorem cvX7_takesOrder : CYV RX7 yX7_takesOrder cX7_takesOrder 3 (some .boolean) 0 := ⟨⟨wvX7_takesOrder, weX7_takesOrder⟩, wiX7, wbX7_takesOrder, by decide +kernel, by decide +kernel, by decide +kernel⟩
theorem cvX7_isRead : CYV RX7 yX7_isRead cX7_isRead 1 (some .boolean) 0 := ⟨⟨wvX7_isRead, weX7_isRead⟩, wiX7, wbX7_isRead, by decide +kernel, by decide +kernel, by decide +kernel⟩
theorem cvX7_doneOne : CYV RX7 yX7_doneOne cX7_doneOne 4 (some .int) 1 := ⟨⟨wvX7_doneOne, weX7_doneOne⟩, wiX7, wbX7_doneOne, by decide +kernel, by decide +kernel, by decide +kernel⟩
theorem cvX7_does : CYV RX7 yX7_does cX7_does 2 (some .int) 0 := ⟨⟨wvX7_does, weX7_does⟩, wiX7, wbX7_does, by decide +kernel, by decide +kernel, by decide +kernel⟩
theorem cvX7_toldAt : CYV RX7 yX7_toldAt cX7_toldAt 2 (some .int) 1 := ⟨⟨wvX7_toldAt, weX7_toldAt⟩, wiX7, wbX7_toldAt, by decide +kernel, by decide +kernel, by decide +kernel⟩
theorem cvX7_told : CYV RX7 yX7_told cX7_told 2 (some .int) 1 := ⟨⟨wvX7_told, weX7_told⟩, wiX7, wbX7_told, by decide +kernel, by decide +kernel, by decide +kernel⟩
theorem cvX7_mix : CYV RX7 yX7_mix cX7_mix 3 none 1 := ⟨⟨wvX7_mix, weX7_mix⟩, wiX7, wbX7_mix, by decide +kernel, by decide +kernel, by decide +kernel⟩
theorem cvX7_digest : CYV RX7 yX7_digest cX7_digest 3 (some .long) 0 := ⟨⟨wvX7_digest, weX7_digest⟩, wiX7, wbX7_digest, by decide +kernel, by decide +kernel, by decide +kernel⟩
theorem csJ6_bitCount_0f7a4 : CYS yJ6_bitCount_0f7a4 cJ6_bitCount_0f7a4 1 (some .int) 1 := ⟨wsJ6_bitCount_0f7a4, wiJ6, wbJ6_bitCount_0f7a4, by decide +kernel, by decide +kernel, by decide +kernel⟩
end
section
/-! static leaves -/
def f_J6_bitCount_0f7a4 (x1 : Int32) : Option (Int32) := nm (x1 - (((x1.toUInt32 >>> ((1 : Int32).toUInt32 &&& Int32.toUInt32 31)).toInt32) &&& (1431655765 : Int32))) (fun y1 => nm ((y1 &&& (858993459 : Int32)) + (((y1.toUInt32 >>> ((2 : Int32).toUInt32 &&& Int32.toUInt32 31)).toInt32) &&& (858993459 : Int32))) (fun y2 => nm ((y2 + ((y2.toUInt32 >>> ((4 : Int32).toUInt32 &&& Int32.toUInt32 31)).toInt32)) &&& (252645135 : Int32)) (fun y3 => nm (y3 + ((y3.toUInt32 >>> ((8 : Int32).toUInt32 &&& Int32.toUInt32 31)).toInt32)) (fun y4 => nm (y4 + ((y4.toUInt32 >>> ((16 : Int32).toUInt32 &&& Int32.toUInt32 31)).toInt32)) (fun y5 => some ((y5 &&& (63 : Int32))))))))
set_option maxHeartbeats 4000000 in
set_option maxRecDepth 100000 in
theorem c_J6_bitCount_0f7a4 (l : Launch) (D : va_G) (cI cS : ClassId) (x1 : Int32) (r0 : Int32) (h : f_J6_bitCount_0f7a4 x1 = some r0) : roM l D cI cS yJ6_bitCount_0f7a4 cJ6_bitCount_0f7a4 1 (some .int) 0 0 [.int x1] [] (some (.int r0)) := by
  refine Met.ofW (cc := cJ6_bitCount_0f7a4) (maxL := 1) (ret := (some .int)) (by decide) rfl ?_
  intro p e s m args below meth c s₁ B hml hv
  obtain ⟨rfl, hP, hK⟩ := hv
  have hx := B.exec
  have hb := B.bytes
  have hr := B.returns
  have hts : ∀ w ∈ GW, w.before _ s = true := fun w hw => atoms_spec (ws := mws yJ6_bitCount_0f7a4 cJ6_bitCount_0f7a4 1 (some .int)) B.pre w (List.mem_cons_of_mem _ hw)
  have hown : s.vm.findClass RJ6 = some m.cls := findClass_of_methodNamed B.named
  have hlocks := B.notSynchronized
  have hl := lv_entry ([.int x1]) (n := 1) (Nat.le_of_ble_eq_true rfl)
  rw [lg_entry_eq]
  generalize (lg_sl ([.int x1]) ++ List.replicate (1 - (lg_sl ([.int x1])).length) Slot.unset).toArray = ls at hl ⊢
  have hl : lv_has ls 1 [(0, .int x1)] := hl
  have S : CallFix p m c cJ6_bitCount_0f7a4 1 s _ GW RJ6 := ⟨hx, hb, hml, hown, hts⟩
  unfold f_J6_bitCount_0f7a4 at h
  refine lv_iload_n hx hb dJ6_bitCount_0f7a4_0 rfl (lv_at hl 0 rfl) ?_
  refine lv_iload_n hx hb dJ6_bitCount_0f7a4_1 rfl (lv_at hl 0 rfl) ?_
  refine lv_iconst (v := (1 : Int32)) hx hb dJ6_bitCount_0f7a4_2 (by decide) ?_
  refine lv_iushr (v := ((x1.toUInt32 >>> ((1 : Int32).toUInt32 &&& Int32.toUInt32 31)).toInt32)) hx hb dJ6_bitCount_0f7a4_3 rfl ?_
  refine lv_ldcw (v := (1431655765 : Int32)) hx hb hown (hts _ wkJ6_265) dJ6_bitCount_0f7a4_4 ?_
  refine lv_iand hx hb dJ6_bitCount_0f7a4_7 ?_
  refine lv_isub hx hb dJ6_bitCount_0f7a4_8 ?_
  refine lv_topi (fun y1 ey1 => ?_)
  have h := nm_use h ey1
  refine lv_istore_n (lv' := [(0, .int y1)]) hx hb dJ6_bitCount_0f7a4_9 rfl hl (by decide) rfl (fun ls hl => ?_)
  refine lv_iload_n hx hb dJ6_bitCount_0f7a4_10 rfl (lv_at hl 0 rfl) ?_
  refine lv_ldcw (v := (858993459 : Int32)) hx hb hown (hts _ wkJ6_266) dJ6_bitCount_0f7a4_11 ?_
  refine lv_iand hx hb dJ6_bitCount_0f7a4_14 ?_
  refine lv_iload_n hx hb dJ6_bitCount_0f7a4_15 rfl (lv_at hl 0 rfl) ?_
  refine lv_iconst (v := (2 : Int32)) hx hb dJ6_bitCount_0f7a4_16 (by decide) ?_
  refine lv_iushr (v := ((y1.toUInt32 >>> ((2 : Int32).toUInt32 &&& Int32.toUInt32 31)).toInt32)) hx hb dJ6_bitCount_0f7a4_17 rfl ?_
  refine lv_ldcw (v := (858993459 : Int32)) hx hb hown (hts _ wkJ6_266) dJ6_bitCount_0f7a4_18 ?_
  refine lv_iand hx hb dJ6_bitCount_0f7a4_21 ?_
  refine lv_iadd hx hb dJ6_bitCount_0f7a4_22 ?_
  refine lv_topi (fun y2 ey2 => ?_)
  have h := nm_use h ey2
  refine lv_istore_n (lv' := [(0, .int y2)]) hx hb dJ6_bitCount_0f7a4_23 rfl hl (by decide) rfl (fun ls hl => ?_)
  refine lv_iload_n hx hb dJ6_bitCount_0f7a4_24 rfl (lv_at hl 0 rfl) ?_
  refine lv_iload_n hx hb dJ6_bitCount_0f7a4_25 rfl (lv_at hl 0 rfl) ?_
  refine lv_iconst (v := (4 : Int32)) hx hb dJ6_bitCount_0f7a4_26 (by decide) ?_
  refine lv_iushr (v := ((y2.toUInt32 >>> ((4 : Int32).toUInt32 &&& Int32.toUInt32 31)).toInt32)) hx hb dJ6_bitCount_0f7a4_27 rfl ?_
  refine lv_iadd hx hb dJ6_bitCount_0f7a4_28 ?_
  refine lv_ldcw (v := (252645135 : Int32)) hx hb hown (hts _ wkJ6_267) dJ6_bitCount_0f7a4_29 ?_
  refine lv_iand hx hb dJ6_bitCount_0f7a4_32 ?_
  refine lv_topi (fun y3 ey3 => ?_)
  have h := nm_use h ey3
  refine lv_istore_n (lv' := [(0, .int y3)]) hx hb dJ6_bitCount_0f7a4_33 rfl hl (by decide) rfl (fun ls hl => ?_)
  refine lv_iload_n hx hb dJ6_bitCount_0f7a4_34 rfl (lv_at hl 0 rfl) ?_
  refine lv_iload_n hx hb dJ6_bitCount_0f7a4_35 rfl (lv_at hl 0 rfl) ?_
  refine lv_bipush (v := (8 : Int32)) hx hb dJ6_bitCount_0f7a4_36 (by decide) ?_
  refine lv_iushr (v := ((y3.toUInt32 >>> ((8 : Int32).toUInt32 &&& Int32.toUInt32 31)).toInt32)) hx hb dJ6_bitCount_0f7a4_38 rfl ?_
  refine lv_iadd hx hb dJ6_bitCount_0f7a4_39 ?_
  refine lv_topi (fun y4 ey4 => ?_)
  have h := nm_use h ey4
  refine lv_istore_n (lv' := [(0, .int y4)]) hx hb dJ6_bitCount_0f7a4_40 rfl hl (by decide) rfl (fun ls hl => ?_)
  refine lv_iload_n hx hb dJ6_bitCount_0f7a4_41 rfl (lv_at hl 0 rfl) ?_
  refine lv_iload_n hx hb dJ6_bitCount_0f7a4_42 rfl (lv_at hl 0 rfl) ?_
  refine lv_bipush (v := (16 : Int32)) hx hb dJ6_bitCount_0f7a4_43 (by decide) ?_
  refine lv_iushr (v := ((y4.toUInt32 >>> ((16 : Int32).toUInt32 &&& Int32.toUInt32 31)).toInt32)) hx hb dJ6_bitCount_0f7a4_45 rfl ?_
  refine lv_iadd hx hb dJ6_bitCount_0f7a4_46 ?_
  refine lv_topi (fun y5 ey5 => ?_)
  have h := nm_use h ey5
  refine lv_istore_n (lv' := [(0, .int y5)]) hx hb dJ6_bitCount_0f7a4_47 rfl hl (by decide) rfl (fun ls hl => ?_)
  refine lv_iload_n hx hb dJ6_bitCount_0f7a4_48 rfl (lv_at hl 0 rfl) ?_
  refine lv_bipush (v := (63 : Int32)) hx hb dJ6_bitCount_0f7a4_49 (by decide) ?_
  refine lv_iand hx hb dJ6_bitCount_0f7a4_51 ?_
  exact W.iret hx hb hr (fun t ht _ => ⟨congrArg (fun z => Outcome.returned (some (Value.int z))) (Option.some.inj h), ht⟩) (fun q hq => by cases hq) dJ6_bitCount_0f7a4_52
def f_X6_isSeed (x1 : Int32) : Option (Bool) := (if x1 < (0 : Int32) then some (false) else (if (999999 : Int32) < x1 then some (false) else some (true)))
set_option maxHeartbeats 4000000 in
set_option maxRecDepth 100000 in
theorem c_X6_isSeed (l : Launch) (D : va_G) (cI cS : ClassId) (x1 : Int32) (r0 : Bool) (h : f_X6_isSeed x1 = some r0) : roM l D cI cS yX6_isSeed cX6_isSeed 1 (some .boolean) 0 0 [.int x1] [] (some (.int (b2i r0))) := by
  refine Met.ofW (cc := cX6_isSeed) (maxL := 1) (ret := (some .boolean)) (by decide) rfl ?_
  intro p e s m args below meth c s₁ B hml hv
  obtain ⟨rfl, hP, hK⟩ := hv
  have hx := B.exec
  have hb := B.bytes
  have hr := B.returns
  have hts : ∀ w ∈ GW, w.before _ s = true := fun w hw => atoms_spec (ws := mws yX6_isSeed cX6_isSeed 1 (some .boolean)) B.pre w (List.mem_cons_of_mem _ hw)
  have hown : s.vm.findClass RX6 = some m.cls := findClass_of_methodNamed B.named
  have hlocks := B.notSynchronized
  have hl := lv_entry ([.int x1]) (n := 1) (Nat.le_of_ble_eq_true rfl)
  rw [lg_entry_eq]
  generalize (lg_sl ([.int x1]) ++ List.replicate (1 - (lg_sl ([.int x1])).length) Slot.unset).toArray = ls at hl ⊢
  have hl : lv_has ls 1 [(0, .int x1)] := hl
  have S : CallFix p m c cX6_isSeed 1 s _ GW RX6 := ⟨hx, hb, hml, hown, hts⟩
  unfold f_X6_isSeed at h
  refine lv_iload_n hx hb dX6_isSeed_0 rfl (lv_at hl 0 rfl) ?_
  refine lv_if_lt (tgt := 14) hx hb dX6_isSeed_1 (by decide) (fun c1 => ?_) (fun c1 => ?_)
  · have h := it_t c1 h
    refine lv_iconst (v := (0 : Int32)) hx hb dX6_isSeed_14 (by decide) ?_
    exact W.zret hx hb hr rfl (fun t ht _ => ⟨congrArg (fun z => Outcome.returned (some (Value.int (b2i z)))) (Option.some.inj h), ht⟩) (fun q hq => by cases hq) dX6_isSeed_15
  · have h := it_f c1 h
    refine lv_iload_n hx hb dX6_isSeed_4 rfl (lv_at hl 0 rfl) ?_
    refine lv_ldc (v := (999999 : Int32)) hx hb hown (hts _ wkX6_116) dX6_isSeed_5 ?_
    refine lv_icmp_gt (tgt := 14) hx hb dX6_isSeed_7 (by decide) (fun c2 => ?_) (fun c2 => ?_)
    · have h := it_t c2 h
      refine lv_iconst (v := (0 : Int32)) hx hb dX6_isSeed_14 (by decide) ?_
      exact W.zret hx hb hr rfl (fun t ht _ => ⟨congrArg (fun z => Outcome.returned (some (Value.int (b2i z)))) (Option.some.inj h), ht⟩) (fun q hq => by cases hq) dX6_isSeed_15
    · have h := it_f c2 h
      refine lv_iconst (v := (1 : Int32)) hx hb dX6_isSeed_10 (by decide) ?_
      refine lv_goto (tgt := 15) hx hb dX6_isSeed_11 (by decide) ?_
      exact W.zret hx hb hr rfl (fun t ht _ => ⟨congrArg (fun z => Outcome.returned (some (Value.int (b2i z)))) (Option.some.inj h), ht⟩) (fun q hq => by cases hq) dX6_isSeed_15
def f_X6_areCells (x1 : Int32) : Option (Bool) := (if x1 < (0 : Int32) then some (false) else (if (63 : Int32) < x1 then some (false) else some (true)))
set_option maxHeartbeats 4000000 in
set_option maxRecDepth 100000 in
theorem c_X6_areCells (l : Launch) (D : va_G) (cI cS : ClassId) (x1 : Int32) (r0 : Bool) (h : f_X6_areCells x1 = some r0) : roM l D cI cS yX6_areCells cX6_areCells 1 (some .boolean) 0 0 [.int x1] [] (some (.int (b2i r0))) := by
  refine Met.ofW (cc := cX6_areCells) (maxL := 1) (ret := (some .boolean)) (by decide) rfl ?_
  intro p e s m args below meth c s₁ B hml hv
  obtain ⟨rfl, hP, hK⟩ := hv
  have hx := B.exec
  have hb := B.bytes
  have hr := B.returns
  have hts : ∀ w ∈ GW, w.before _ s = true := fun w hw => atoms_spec (ws := mws yX6_areCells cX6_areCells 1 (some .boolean)) B.pre w (List.mem_cons_of_mem _ hw)
  have hown : s.vm.findClass RX6 = some m.cls := findClass_of_methodNamed B.named
  have hlocks := B.notSynchronized
  have hl := lv_entry ([.int x1]) (n := 1) (Nat.le_of_ble_eq_true rfl)
  rw [lg_entry_eq]
  generalize (lg_sl ([.int x1]) ++ List.replicate (1 - (lg_sl ([.int x1])).length) Slot.unset).toArray = ls at hl ⊢
  have hl : lv_has ls 1 [(0, .int x1)] := hl
  have S : CallFix p m c cX6_areCells 1 s _ GW RX6 := ⟨hx, hb, hml, hown, hts⟩
  unfold f_X6_areCells at h
  refine lv_iload_n hx hb dX6_areCells_0 rfl (lv_at hl 0 rfl) ?_
  refine lv_if_lt (tgt := 14) hx hb dX6_areCells_1 (by decide) (fun c1 => ?_) (fun c1 => ?_)
  · have h := it_t c1 h
    refine lv_iconst (v := (0 : Int32)) hx hb dX6_areCells_14 (by decide) ?_
    exact W.zret hx hb hr rfl (fun t ht _ => ⟨congrArg (fun z => Outcome.returned (some (Value.int (b2i z)))) (Option.some.inj h), ht⟩) (fun q hq => by cases hq) dX6_areCells_15
  · have h := it_f c1 h
    refine lv_iload_n hx hb dX6_areCells_4 rfl (lv_at hl 0 rfl) ?_
    refine lv_bipush (v := (63 : Int32)) hx hb dX6_areCells_5 (by decide) ?_
    refine lv_icmp_gt (tgt := 14) hx hb dX6_areCells_7 (by decide) (fun c2 => ?_) (fun c2 => ?_)
    · have h := it_t c2 h
      refine lv_iconst (v := (0 : Int32)) hx hb dX6_areCells_14 (by decide) ?_
      exact W.zret hx hb hr rfl (fun t ht _ => ⟨congrArg (fun z => Outcome.returned (some (Value.int (b2i z)))) (Option.some.inj h), ht⟩) (fun q hq => by cases hq) dX6_areCells_15
    · have h := it_f c2 h
      refine lv_iconst (v := (1 : Int32)) hx hb dX6_areCells_10 (by decide) ?_
      refine lv_goto (tgt := 15) hx hb dX6_areCells_11 (by decide) ?_
      exact W.zret hx hb hr rfl (fun t ht _ => ⟨congrArg (fun z => Outcome.returned (some (Value.int (b2i z)))) (Option.some.inj h), ht⟩) (fun q hq => by cases hq) dX6_areCells_15
def f_X6_isIn (x1 : Int32) (x2 : Int32) : Option (Bool) := (if ((x2 >>> (x1 &&& (31 : Int32))) &&& (1 : Int32)) = (0 : Int32) then some (false) else some (true))
set_option maxHeartbeats 4000000 in
set_option maxRecDepth 100000 in
theorem c_X6_isIn (l : Launch) (D : va_G) (cI cS : ClassId) (x1 : Int32) (x2 : Int32) (r0 : Bool) (h : f_X6_isIn x1 x2 = some r0) : roM l D cI cS yX6_isIn cX6_isIn 2 (some .boolean) 0 0 [.int x1, .int x2] [] (some (.int (b2i r0))) := by
  refine Met.ofW (cc := cX6_isIn) (maxL := 2) (ret := (some .boolean)) (by decide) rfl ?_
  intro p e s m args below meth c s₁ B hml hv
  obtain ⟨rfl, hP, hK⟩ := hv
  have hx := B.exec
  have hb := B.bytes
  have hr := B.returns
  have hts : ∀ w ∈ GW, w.before _ s = true := fun w hw => atoms_spec (ws := mws yX6_isIn cX6_isIn 2 (some .boolean)) B.pre w (List.mem_cons_of_mem _ hw)
  have hown : s.vm.findClass RX6 = some m.cls := findClass_of_methodNamed B.named
  have hlocks := B.notSynchronized
  have hl := lv_entry ([.int x1, .int x2]) (n := 2) (Nat.le_of_ble_eq_true rfl)
  rw [lg_entry_eq]
  generalize (lg_sl ([.int x1, .int x2]) ++ List.replicate (2 - (lg_sl ([.int x1, .int x2])).length) Slot.unset).toArray = ls at hl ⊢
  have hl : lv_has ls 2 [(0, .int x1), (1, .int x2)] := hl
  have S : CallFix p m c cX6_isIn 2 s _ GW RX6 := ⟨hx, hb, hml, hown, hts⟩
  unfold f_X6_isIn at h
  refine lv_iload_n hx hb dX6_isIn_0 rfl (lv_at hl 1 rfl) ?_
  refine lv_iload_n hx hb dX6_isIn_1 rfl (lv_at hl 0 rfl) ?_
  refine lv_ishr hx hb dX6_isIn_2 ?_
  refine lv_iconst (v := (1 : Int32)) hx hb dX6_isIn_3 (by decide) ?_
  refine lv_iand hx hb dX6_isIn_4 ?_
  refine lv_if_eq (tgt := 12) hx hb dX6_isIn_5 (by decide) (fun c1 => ?_) (fun c1 => ?_)
  · have h := it_t c1 h
    refine lv_iconst (v := (0 : Int32)) hx hb dX6_isIn_12 (by decide) ?_
    exact W.zret hx hb hr rfl (fun t ht _ => ⟨congrArg (fun z => Outcome.returned (some (Value.int (b2i z)))) (Option.some.inj h), ht⟩) (fun q hq => by cases hq) dX6_isIn_13
  · have h := it_f c1 h
    refine lv_iconst (v := (1 : Int32)) hx hb dX6_isIn_8 (by decide) ?_
    refine lv_goto (tgt := 13) hx hb dX6_isIn_9 (by decide) ?_
    exact W.zret hx hb hr rfl (fun t ht _ => ⟨congrArg (fun z => Outcome.returned (some (Value.int (b2i z)))) (Option.some.inj h), ht⟩) (fun q hq => by cases hq) dX6_isIn_13
def f_X6_oneIf (x1 : Int32) : Option (Int32) := (if x1 = (0 : Int32) then some ((0 : Int32)) else some ((1 : Int32)))
set_option maxHeartbeats 4000000 in
set_option maxRecDepth 100000 in
theorem c_X6_oneIf (l : Launch) (D : va_G) (cI cS : ClassId) (x1 : Int32) (r0 : Int32) (h : f_X6_oneIf x1 = some r0) : roM l D cI cS yX6_oneIf cX6_oneIf 1 (some .int) 0 0 [.int x1] [] (some (.int r0)) := by
  refine Met.ofW (cc := cX6_oneIf) (maxL := 1) (ret := (some .int)) (by decide) rfl ?_
  intro p e s m args below meth c s₁ B hml hv
  obtain ⟨rfl, hP, hK⟩ := hv
  have hx := B.exec
  have hb := B.bytes
  have hr := B.returns
  have hts : ∀ w ∈ GW, w.before _ s = true := fun w hw => atoms_spec (ws := mws yX6_oneIf cX6_oneIf 1 (some .int)) B.pre w (List.mem_cons_of_mem _ hw)
  have hown : s.vm.findClass RX6 = some m.cls := findClass_of_methodNamed B.named
  have hlocks := B.notSynchronized
  have hl := lv_entry ([.int x1]) (n := 1) (Nat.le_of_ble_eq_true rfl)
  rw [lg_entry_eq]
  generalize (lg_sl ([.int x1]) ++ List.replicate (1 - (lg_sl ([.int x1])).length) Slot.unset).toArray = ls at hl ⊢
  have hl : lv_has ls 1 [(0, .int x1)] := hl
  have S : CallFix p m c cX6_oneIf 1 s _ GW RX6 := ⟨hx, hb, hml, hown, hts⟩
  unfold f_X6_oneIf at h
  refine lv_iload_n hx hb dX6_oneIf_0 rfl (lv_at hl 0 rfl) ?_
  refine lv_if_eq (tgt := 8) hx hb dX6_oneIf_1 (by decide) (fun c1 => ?_) (fun c1 => ?_)
  · have h := it_t c1 h
    refine lv_iconst (v := (0 : Int32)) hx hb dX6_oneIf_8 (by decide) ?_
    exact W.iret hx hb hr (fun t ht _ => ⟨congrArg (fun z => Outcome.returned (some (Value.int z))) (Option.some.inj h), ht⟩) (fun q hq => by cases hq) dX6_oneIf_9
  · have h := it_f c1 h
    refine lv_iconst (v := (1 : Int32)) hx hb dX6_oneIf_4 (by decide) ?_
    refine lv_goto (tgt := 9) hx hb dX6_oneIf_5 (by decide) ?_
    exact W.iret hx hb hr (fun t ht _ => ⟨congrArg (fun z => Outcome.returned (some (Value.int z))) (Option.some.inj h), ht⟩) (fun q hq => by cases hq) dX6_oneIf_9
end
section
/-! Row -/
def f_X3_nth (o_size : Int32) (o_tests : Ar) (x1 : Int32) : Option (Int32) := (if x1 < (0 : Int32) then some ((-1 : Int32)) else (if o_size ≤ x1 then some ((-1 : Int32)) else (if (8 : Int32) ≤ x1 then some ((-1 : Int32)) else rd o_tests 8 x1 (fun rv4 => some (rv4)))))
set_option maxHeartbeats 4000000 in
set_option maxRecDepth 100000 in
theorem c_X3_nth (l : Launch) (D : va_G) (cI cS : ClassId) (a_o : Nat) (a_o_tests : Nat) (o_size : Int32) (o_tests : Ar) (x1 : Int32) (r0 : Int32) (h : f_X3_nth o_size o_tests x1 = some r0) : roM l D cI cS yX3_nth cX3_nth 2 (some .int) 0 0 [.ref a_o, .int x1] [(a_o, .inr (2, [.ref a_o_tests, .int (o_size)])), (a_o_tests, .inl (cI, 8, .inl (o_tests)))] (some (.int r0)) := by
  refine Met.ofW (cc := cX3_nth) (maxL := 2) (ret := (some .int)) (by decide) rfl ?_
  intro p e s m args below meth c s₁ B hml hv
  obtain ⟨rfl, hP, hK⟩ := hv
  have hx := B.exec
  have hb := B.bytes
  have hr := B.returns
  have hts : ∀ w ∈ GW, w.before _ s = true := fun w hw => atoms_spec (ws := mws yX3_nth cX3_nth 2 (some .int)) B.pre w (List.mem_cons_of_mem _ hw)
  have hown : s.vm.findClass RX3 = some m.cls := findClass_of_methodNamed B.named
  have hlocks := B.notSynchronized
  have hl := lv_entry ([.ref a_o, .int x1]) (n := 2) (Nat.le_of_ble_eq_true rfl)
  rw [lg_entry_eq]
  generalize (lg_sl ([.ref a_o, .int x1]) ++ List.replicate (2 - (lg_sl ([.ref a_o, .int x1])).length) Slot.unset).toArray = ls at hl ⊢
  have hl : lv_has ls 2 [(0, .ref a_o), (1, .int x1)] := hl
  have S : CallFix p m c cX3_nth 2 s _ GW RX3 := ⟨hx, hb, hml, hown, hts⟩
  unfold f_X3_nth at h
  refine lv_iload_n hx hb dX3_nth_0 rfl (lv_at hl 1 rfl) ?_
  refine lv_if_lt (tgt := 30) hx hb dX3_nth_1 (by decide) (fun c1 => ?_) (fun c1 => ?_)
  · have h := it_t c1 h
    refine lv_iconst (v := (-1 : Int32)) hx hb dX3_nth_30 (by decide) ?_
    exact W.iret hx hb hr (fun t ht _ => ⟨congrArg (fun z => Outcome.returned (some (Value.int z))) (Option.some.inj h), ht⟩) (fun q hq => by cases hq) dX3_nth_31
  · have h := it_f c1 h
    refine lv_iload_n hx hb dX3_nth_4 rfl (lv_at hl 1 rfl) ?_
    refine lv_aload_n hx hb dX3_nth_5 rfl (lv_at hl 0 rfl) ?_
    refine gfX3_1 hx hb hts hown hK hP 0 rfl wfX3_15 dX3_nth_6 ?_
    refine lv_icmp_ge (tgt := 30) hx hb dX3_nth_9 (by decide) (fun c2 => ?_) (fun c2 => ?_)
    · have h := it_t c2 h
      refine lv_iconst (v := (-1 : Int32)) hx hb dX3_nth_30 (by decide) ?_
      exact W.iret hx hb hr (fun t ht _ => ⟨congrArg (fun z => Outcome.returned (some (Value.int z))) (Option.some.inj h), ht⟩) (fun q hq => by cases hq) dX3_nth_31
    · have h := it_f c2 h
      refine lv_iload_n hx hb dX3_nth_12 rfl (lv_at hl 1 rfl) ?_
      refine lv_aload_n hx hb dX3_nth_13 rfl (lv_at hl 0 rfl) ?_
      refine gfX3_0 hx hb hts hown hK hP 0 rfl wfX3_9 dX3_nth_14 ?_
      refine al_ (w := (8 : Int32)) hx hb hK hP 1 rfl rfl dX3_nth_17 ?_
      refine lv_icmp_ge (tgt := 30) hx hb dX3_nth_18 (by decide) (fun c3 => ?_) (fun c3 => ?_)
      · have h := it_t c3 h
        refine lv_iconst (v := (-1 : Int32)) hx hb dX3_nth_30 (by decide) ?_
        exact W.iret hx hb hr (fun t ht _ => ⟨congrArg (fun z => Outcome.returned (some (Value.int z))) (Option.some.inj h), ht⟩) (fun q hq => by cases hq) dX3_nth_31
      · have h := it_f c3 h
        refine lv_aload_n hx hb dX3_nth_21 rfl (lv_at hl 0 rfl) ?_
        refine gfX3_0 hx hb hts hown hK hP 0 rfl wfX3_9 dX3_nth_22 ?_
        refine lv_iload_n hx hb dX3_nth_25 rfl (lv_at hl 1 rfl) ?_
        obtain ⟨hi5, h⟩ := rd_use h
        refine ia_ hx hb hK hP 1 rfl hi5 dX3_nth_26 ?_
        refine lv_goto (tgt := 31) hx hb dX3_nth_27 (by decide) ?_
        exact W.iret hx hb hr (fun t ht _ => ⟨congrArg (fun z => Outcome.returned (some (Value.int z))) (Option.some.inj h), ht⟩) (fun q hq => by cases hq) dX3_nth_31
def b_X3_placeOf_2 (o_size : Int32) (o_tests : Ar) (x1 : Int32) : Nat → Int32 → Option (Int32)
  | 0, _ => none
  | n + 1, v2 => (if o_size ≤ v2 then some ((-1 : Int32)) else bd1 (f_X3_nth o_size o_tests v2) (fun r2 => (if r2 = x1 then some (v2) else nm (v2 + (1 : Int32)) (fun y5 => b_X3_placeOf_2 o_size o_tests x1 n y5))))
def f_X3_placeOf (o_size : Int32) (o_tests : Ar) (x1 : Int32) : Option (Int32) := b_X3_placeOf_2 o_size o_tests x1 FU (0 : Int32)
set_option maxHeartbeats 4000000 in
set_option maxRecDepth 100000 in
theorem c_X3_placeOf (l : Launch) (D : va_G) (cI cS : ClassId) (a_o : Nat) (a_o_tests : Nat) (o_size : Int32) (o_tests : Ar) (x1 : Int32) (r0 : Int32) (h : f_X3_placeOf o_size o_tests x1 = some r0) : roM l D cI cS yX3_placeOf cX3_placeOf 3 (some .int) 1 21 [.ref a_o, .int x1] [(a_o, .inr (2, [.ref a_o_tests, .int (o_size)])), (a_o_tests, .inl (cI, 8, .inl (o_tests)))] (some (.int r0)) := by
  refine Met.ofW (cc := cX3_placeOf) (maxL := 3) (ret := (some .int)) (by decide) rfl ?_
  intro p e s m args below meth c s₁ B hml hv
  obtain ⟨rfl, hP, hK⟩ := hv
  have hx := B.exec
  have hb := B.bytes
  have hr := B.returns
  have hts : ∀ w ∈ GW, w.before _ s = true := fun w hw => atoms_spec (ws := mws yX3_placeOf cX3_placeOf 3 (some .int)) B.pre w (List.mem_cons_of_mem _ hw)
  have hown : s.vm.findClass RX3 = some m.cls := findClass_of_methodNamed B.named
  have hlocks := B.notSynchronized
  have hl := lv_entry ([.ref a_o, .int x1]) (n := 3) (Nat.le_of_ble_eq_true rfl)
  rw [lg_entry_eq]
  generalize (lg_sl ([.ref a_o, .int x1]) ++ List.replicate (3 - (lg_sl ([.ref a_o, .int x1])).length) Slot.unset).toArray = ls at hl ⊢
  have hl : lv_has ls 3 [(0, .ref a_o), (1, .int x1)] := hl
  have S : CallFix p m c cX3_placeOf 3 s _ GW RX3 := ⟨hx, hb, hml, hown, hts⟩
  have L_2 : ∀ (n : Nat) (v2 : Int32), b_X3_placeOf_2 o_size o_tests x1 n v2 = some r0 → ∀ (ls : Array Slot), lv_has ls 3 [(0, .ref a_o), (1, .int x1), (2, .int v2)] → W p l e (headSpec (mws yX3_placeOf cX3_placeOf 3 (some .int)) { frames := 1, cells := 0, slots := 0, locals := 21 }).room s m [.ref a_o, .int x1].toArray below meth c s.heap [] 0 0 (MQ below (roQ (some (.int r0))) [.ref a_o, .int x1].toArray s 0 0 noF) (F0 m 2 ls []) := by
    intro n
    induction n with
    | zero =>
      intro v2 h
      exact nn_no h
    | succ n ih =>
      intro v2 h ls hl
      rw [b_X3_placeOf_2] at h
      refine lv_iload_n hx hb dX3_placeOf_2 rfl (lv_at hl 2 rfl) ?_
      refine lv_aload_n hx hb dX3_placeOf_3 rfl (lv_at hl 0 rfl) ?_
      refine gfX3_1 hx hb hts hown hK hP 0 rfl wfX3_15 dX3_placeOf_4 ?_
      refine lv_icmp_ge (tgt := 27) hx hb dX3_placeOf_7 (by decide) (fun c1 => ?_) (fun c1 => ?_)
      · have h := it_t c1 h
        refine lv_iconst (v := (-1 : Int32)) hx hb dX3_placeOf_27 (by decide) ?_
        exact W.iret hx hb hr (fun t ht _ => ⟨congrArg (fun z => Outcome.returned (some (Value.int z))) (Option.some.inj h), ht⟩) (fun q hq => by cases hq) dX3_placeOf_28
      · have h := it_f c1 h
        refine lv_aload_n hx hb dX3_placeOf_10 rfl (lv_at hl 0 rfl) ?_
        refine lv_iload_n hx hb dX3_placeOf_11 rfl (lv_at hl 2 rfl) ?_
        obtain ⟨r2, hc3, h⟩ := bd1_use h
        refine ro_V (As := [.int v2]) (rest := []) S (c_X3_nth l D cI cS a_o a_o_tests o_size o_tests v2 r2 hc3) (cwV1 hts cvX3_nth wmX3_19 rfl rfl ⟨(Nat.le_of_ble_eq_true rfl), (Nat.le_of_ble_eq_true rfl)⟩) hK hP [0, 1] rfl 0 rfl rfl rfl rfl hl.1 rfl (Nat.le_of_ble_eq_true rfl) dX3_placeOf_12 ⟨Nat.zero_le _, Nat.zero_le _⟩ rfl ?_
        refine lv_iload_n hx hb dX3_placeOf_15 rfl (lv_at hl 1 rfl) ?_
        refine lv_icmp_ne (tgt := 21) hx hb dX3_placeOf_16 (by decide) (fun c4 => ?_) (fun c4 => ?_)
        · have h := it_f c4 h
          obtain ⟨y5, ey5⟩ : ∃ z : Int32, z = v2 + (1 : Int32) := ⟨_, rfl⟩
          have h := nm_use h ey5
          refine lv_iinc (v := y5) (lv' := [(2, .int y5), (0, .ref a_o), (1, .int x1)]) hx hb dX3_placeOf_21 hl (k := 2) rfl (by rw [ey5]; rfl) (by decide) rfl (fun ls hl => ?_)
          refine lv_goto (tgt := 2) hx hb dX3_placeOf_24 (by decide) ?_
          exact ih _ h _ (lv_sub hl [1, 2, 0] rfl)
        · have h := it_t c4 h
          refine lv_iload_n hx hb dX3_placeOf_19 rfl (lv_at hl 2 rfl) ?_
          exact W.iret hx hb hr (fun t ht _ => ⟨congrArg (fun z => Outcome.returned (some (Value.int z))) (Option.some.inj h), ht⟩) (fun q hq => by cases hq) dX3_placeOf_20
  unfold f_X3_placeOf at h
  refine lv_iconst (v := (0 : Int32)) hx hb dX3_placeOf_0 (by decide) ?_
  refine lv_istore_n (lv' := [(2, .int (0 : Int32)), (0, .ref a_o), (1, .int x1)]) hx hb dX3_placeOf_1 rfl hl (by decide) rfl (fun ls hl => ?_)
  exact L_2 _ _ h _ (lv_sub hl [1, 2, 0] rfl)
def b_X3_setAhead_4 (o_size : Int32) (o_tests : Ar) (x1 : Int32) : Nat → Int32 → Int32 → Option (Int32)
  | 0, _, _ => none
  | n + 1, v2, v3 => (if x1 ≤ v3 then some (v2) else (if o_size ≤ v3 then some (v2) else bd1 (f_X3_nth o_size o_tests v3) (fun r3 => nm (v2 ||| ((1 : Int32) <<< (r3 &&& (31 : Int32)))) (fun y5 => nm (v3 + (1 : Int32)) (fun y6 => b_X3_setAhead_4 o_size o_tests x1 n y5 y6)))))
def f_X3_setAhead (o_size : Int32) (o_tests : Ar) (x1 : Int32) : Option (Int32) := b_X3_setAhead_4 o_size o_tests x1 FU (0 : Int32) (0 : Int32)
set_option maxHeartbeats 4000000 in
set_option maxRecDepth 100000 in
theorem c_X3_setAhead (l : Launch) (D : va_G) (cI cS : ClassId) (a_o : Nat) (a_o_tests : Nat) (o_size : Int32) (o_tests : Ar) (x1 : Int32) (r0 : Int32) (h : f_X3_setAhead o_size o_tests x1 = some r0) : roM l D cI cS yX3_setAhead cX3_setAhead 4 (some .int) 1 21 [.ref a_o, .int x1] [(a_o, .inr (2, [.ref a_o_tests, .int (o_size)])), (a_o_tests, .inl (cI, 8, .inl (o_tests)))] (some (.int r0)) := by
  refine Met.ofW (cc := cX3_setAhead) (maxL := 4) (ret := (some .int)) (by decide) rfl ?_
  intro p e s m args below meth c s₁ B hml hv
  obtain ⟨rfl, hP, hK⟩ := hv
  have hx := B.exec
  have hb := B.bytes
  have hr := B.returns
  have hts : ∀ w ∈ GW, w.before _ s = true := fun w hw => atoms_spec (ws := mws yX3_setAhead cX3_setAhead 4 (some .int)) B.pre w (List.mem_cons_of_mem _ hw)
  have hown : s.vm.findClass RX3 = some m.cls := findClass_of_methodNamed B.named
  have hlocks := B.notSynchronized
  have hl := lv_entry ([.ref a_o, .int x1]) (n := 4) (Nat.le_of_ble_eq_true rfl)
  rw [lg_entry_eq]
  generalize (lg_sl ([.ref a_o, .int x1]) ++ List.replicate (4 - (lg_sl ([.ref a_o, .int x1])).length) Slot.unset).toArray = ls at hl ⊢
  have hl : lv_has ls 4 [(0, .ref a_o), (1, .int x1)] := hl
  have S : CallFix p m c cX3_setAhead 4 s _ GW RX3 := ⟨hx, hb, hml, hown, hts⟩
  have L_4 : ∀ (n : Nat) (v2 : Int32) (v3 : Int32), b_X3_setAhead_4 o_size o_tests x1 n v2 v3 = some r0 → ∀ (ls : Array Slot), lv_has ls 4 [(0, .ref a_o), (1, .int x1), (2, .int v2), (3, .int v3)] → W p l e (headSpec (mws yX3_setAhead cX3_setAhead 4 (some .int)) { frames := 1, cells := 0, slots := 0, locals := 21 }).room s m [.ref a_o, .int x1].toArray below meth c s.heap [] 0 0 (MQ below (roQ (some (.int r0))) [.ref a_o, .int x1].toArray s 0 0 noF) (F0 m 4 ls []) := by
    intro n
    induction n with
    | zero =>
      intro v2 v3 h
      exact nn_no h
    | succ n ih =>
      intro v2 v3 h ls hl
      rw [b_X3_setAhead_4] at h
      refine lv_iload_n hx hb dX3_setAhead_4 rfl (lv_at hl 3 rfl) ?_
      refine lv_iload_n hx hb dX3_setAhead_5 rfl (lv_at hl 1 rfl) ?_
      refine lv_icmp_ge (tgt := 33) hx hb dX3_setAhead_6 (by decide) (fun c1 => ?_) (fun c1 => ?_)
      · have h := it_t c1 h
        refine lv_iload_n hx hb dX3_setAhead_33 rfl (lv_at hl 2 rfl) ?_
        exact W.iret hx hb hr (fun t ht _ => ⟨congrArg (fun z => Outcome.returned (some (Value.int z))) (Option.some.inj h), ht⟩) (fun q hq => by cases hq) dX3_setAhead_34
      · have h := it_f c1 h
        refine lv_iload_n hx hb dX3_setAhead_9 rfl (lv_at hl 3 rfl) ?_
        refine lv_aload_n hx hb dX3_setAhead_10 rfl (lv_at hl 0 rfl) ?_
        refine gfX3_1 hx hb hts hown hK hP 0 rfl wfX3_15 dX3_setAhead_11 ?_
        refine lv_icmp_ge (tgt := 33) hx hb dX3_setAhead_14 (by decide) (fun c2 => ?_) (fun c2 => ?_)
        · have h := it_t c2 h
          refine lv_iload_n hx hb dX3_setAhead_33 rfl (lv_at hl 2 rfl) ?_
          exact W.iret hx hb hr (fun t ht _ => ⟨congrArg (fun z => Outcome.returned (some (Value.int z))) (Option.some.inj h), ht⟩) (fun q hq => by cases hq) dX3_setAhead_34
        · have h := it_f c2 h
          refine lv_iload_n hx hb dX3_setAhead_17 rfl (lv_at hl 2 rfl) ?_
          refine lv_iconst (v := (1 : Int32)) hx hb dX3_setAhead_18 (by decide) ?_
          refine lv_aload_n hx hb dX3_setAhead_19 rfl (lv_at hl 0 rfl) ?_
          refine lv_iload_n hx hb dX3_setAhead_20 rfl (lv_at hl 3 rfl) ?_
          obtain ⟨r3, hc4, h⟩ := bd1_use h
          refine ro_V (As := [.int v3]) (rest := [.int (1 : Int32), .int v2]) S (c_X3_nth l D cI cS a_o a_o_tests o_size o_tests v3 r3 hc4) (cwV1 hts cvX3_nth wmX3_19 rfl rfl ⟨(Nat.le_of_ble_eq_true rfl), (Nat.le_of_ble_eq_true rfl)⟩) hK hP [0, 1] rfl 0 rfl rfl rfl rfl hl.1 rfl (Nat.le_of_ble_eq_true rfl) dX3_setAhead_21 ⟨Nat.zero_le _, Nat.zero_le _⟩ rfl ?_
          refine lv_ishl hx hb dX3_setAhead_24 ?_
          refine lv_ior hx hb dX3_setAhead_25 ?_
          refine lv_topi (fun y5 ey5 => ?_)
          have h := nm_use h ey5
          refine lv_istore_n (lv' := [(2, .int y5), (0, .ref a_o), (1, .int x1), (3, .int v3)]) hx hb dX3_setAhead_26 rfl hl (by decide) rfl (fun ls hl => ?_)
          obtain ⟨y6, ey6⟩ : ∃ z : Int32, z = v3 + (1 : Int32) := ⟨_, rfl⟩
          have h := nm_use h ey6
          refine lv_iinc (v := y6) (lv' := [(3, .int y6), (2, .int y5), (0, .ref a_o), (1, .int x1)]) hx hb dX3_setAhead_27 hl (k := 3) rfl (by rw [ey6]; rfl) (by decide) rfl (fun ls hl => ?_)
          refine lv_goto (tgt := 4) hx hb dX3_setAhead_30 (by decide) ?_
          exact ih _ _ h _ (lv_sub hl [2, 3, 1, 0] rfl)
  unfold f_X3_setAhead at h
  refine lv_iconst (v := (0 : Int32)) hx hb dX3_setAhead_0 (by decide) ?_
  refine lv_istore_n (lv' := [(2, .int (0 : Int32)), (0, .ref a_o), (1, .int x1)]) hx hb dX3_setAhead_1 rfl hl (by decide) rfl (fun ls hl => ?_)
  refine lv_iconst (v := (0 : Int32)) hx hb dX3_setAhead_2 (by decide) ?_
  refine lv_istore_n (lv' := [(3, .int (0 : Int32)), (2, .int (0 : Int32)), (0, .ref a_o), (1, .int x1)]) hx hb dX3_setAhead_3 rfl hl (by decide) rfl (fun ls hl => ?_)
  exact L_4 _ _ _ h _ (lv_sub hl [2, 3, 1, 0] rfl)
def f_X3_append (o_size : Int32) (o_tests : Ar) (x1 : Int32) : Option (Int32 × Ar) := (if o_size < (0 : Int32) then some (o_size, o_tests) else (if (8 : Int32) ≤ o_size then some (o_size, o_tests) else wr o_tests 8 o_size x1 (fun fv3 => nm (o_size + (1 : Int32)) (fun y5 => some (y5, fv3)))))
set_option maxHeartbeats 4000000 in
set_option maxRecDepth 100000 in
theorem c_X3_append (l : Launch) (D : va_G) (cI cS : ClassId) (a_o : Nat) (a_o_tests : Nat) (o_size : Int32) (o_tests : Ar) (x1 : Int32) (o_size' : Int32) (o_tests' : Ar) (h : f_X3_append o_size o_tests x1 = some (o_size', o_tests')) : wrM l D cI cS yX3_append cX3_append 2 none 0 0 [.ref a_o, .int x1] [(a_o, .inr (2, [.ref a_o_tests, .int (o_size)])), (a_o_tests, .inl (cI, 8, .inl (o_tests)))] [(a_o, .inr (2, [.ref a_o_tests, .int (o_size')])), (a_o_tests, .inl (cI, 8, .inl (o_tests')))] none := by
  refine Met.ofW (cc := cX3_append) (maxL := 2) (ret := none) (by decide) rfl ?_
  intro p e s m args below meth c s₁ B hml hv
  obtain ⟨rfl, hP, hK, hD0⟩ := hv
  have hx := B.exec
  have hb := B.bytes
  have hr := B.returns
  have hts : ∀ w ∈ GW, w.before _ s = true := fun w hw => atoms_spec (ws := mws yX3_append cX3_append 2 none) B.pre w (List.mem_cons_of_mem _ hw)
  have hown : s.vm.findClass RX3 = some m.cls := findClass_of_methodNamed B.named
  have hlocks := B.notSynchronized
  have hD := inW_self hD0
  generalize hAe : inW [(a_o, .inr (2, [.ref a_o_tests, .int (o_size)])), (a_o_tests, .inl (cI, 8, .inl (o_tests)))] = A at hD ⊢
  have hS : va_S A s.heap s.heap [] := va_S.rf
  have hl := lv_entry ([.ref a_o, .int x1]) (n := 2) (Nat.le_of_ble_eq_true rfl)
  rw [lg_entry_eq]
  generalize (lg_sl ([.ref a_o, .int x1]) ++ List.replicate (2 - (lg_sl ([.ref a_o, .int x1])).length) Slot.unset).toArray = ls at hl ⊢
  have hl : lv_has ls 2 [(0, .ref a_o), (1, .int x1)] := hl
  have S : CallFix p m c cX3_append 2 s _ GW RX3 := ⟨hx, hb, hml, hown, hts⟩
  unfold f_X3_append at h
  refine lv_aload_n hx hb dX3_append_0 rfl (lv_at hl 0 rfl) ?_
  refine gfX3_1 hx hb hts hown hK hP 0 rfl wfX3_15 dX3_append_1 ?_
  refine lv_if_lt (tgt := 39) hx hb dX3_append_4 (by decide) (fun c1 => ?_) (fun c1 => ?_)
  · have h := it_t c1 h
    cases h
    exact W.vret hx hb hr (fun t ht _ => ⟨rfl, by rw [ht]; exact hP, hS.F ht⟩) hS.2.2 dX3_append_39
  · have h := it_f c1 h
    refine lv_aload_n hx hb dX3_append_7 rfl (lv_at hl 0 rfl) ?_
    refine gfX3_1 hx hb hts hown hK hP 0 rfl wfX3_15 dX3_append_8 ?_
    refine lv_aload_n hx hb dX3_append_11 rfl (lv_at hl 0 rfl) ?_
    refine gfX3_0 hx hb hts hown hK hP 0 rfl wfX3_9 dX3_append_12 ?_
    refine al_ (w := (8 : Int32)) hx hb hK hP 1 rfl rfl dX3_append_15 ?_
    refine lv_icmp_ge (tgt := 39) hx hb dX3_append_16 (by decide) (fun c2 => ?_) (fun c2 => ?_)
    · have h := it_t c2 h
      cases h
      exact W.vret hx hb hr (fun t ht _ => ⟨rfl, by rw [ht]; exact hP, hS.F ht⟩) hS.2.2 dX3_append_39
    · have h := it_f c2 h
      refine lv_aload_n hx hb dX3_append_19 rfl (lv_at hl 0 rfl) ?_
      refine gfX3_0 hx hb hts hown hK hP 0 rfl wfX3_9 dX3_append_20 ?_
      refine lv_aload_n hx hb dX3_append_23 rfl (lv_at hl 0 rfl) ?_
      refine gfX3_1 hx hb hts hown hK hP 0 rfl wfX3_15 dX3_append_24 ?_
      refine lv_iload_n hx hb dX3_append_27 rfl (lv_at hl 1 rfl) ?_
      obtain ⟨hi4, h⟩ := wr_use h
      refine is_ (ws' := [(a_o, .inr (2, [.ref a_o_tests, .int (o_size)])), (a_o_tests, .inl (cI, 8, .inl ((upd o_tests o_size.toNatClampNeg x1))))]) hx hb hK hP hD hS 1 rfl rfl hi4 dX3_append_28 (fun H locs hP hD hS => ?_)
      refine lv_aload_n hx hb dX3_append_29 rfl (lv_at hl 0 rfl) ?_
      refine lv_dup hx hb dX3_append_30 rfl ?_
      refine gfX3_1 hx hb hts hown hK hP 0 rfl wfX3_15 dX3_append_31 ?_
      refine lv_iconst (v := (1 : Int32)) hx hb dX3_append_34 (by decide) ?_
      refine lv_iadd hx hb dX3_append_35 ?_
      refine lv_topi (fun y5 ey5 => ?_)
      have h := nm_use h ey5
      refine pfX3_1 (ws' := [(a_o, .inr (2, [.ref a_o_tests, .int (y5)])), (a_o_tests, .inl (cI, 8, .inl ((upd o_tests o_size.toNatClampNeg x1))))]) hx hb hts hown hK hP hD hS 0 rfl rfl wfX3_15 dX3_append_36 (fun H locs hP hD hS => ?_)
      cases h
      exact W.vret hx hb hr (fun t ht _ => ⟨rfl, by rw [ht]; exact hP, hS.F ht⟩) hS.2.2 dX3_append_39
def f_X3_makeEmpty (o_size : Int32) : Option (Int32) := some ((0 : Int32))
set_option maxHeartbeats 4000000 in
set_option maxRecDepth 100000 in
theorem c_X3_makeEmpty (l : Launch) (D : va_G) (cI cS : ClassId) (a_o : Nat) (a_o_tests : Nat) (o_size : Int32) (o_size' : Int32) (h : f_X3_makeEmpty o_size = some o_size') : wrM l D cI cS yX3_makeEmpty cX3_makeEmpty 1 none 0 0 [.ref a_o] [(a_o, .inr (2, [.ref a_o_tests, .int (o_size)]))] [(a_o, .inr (2, [.ref a_o_tests, .int (o_size')]))] none := by
  refine Met.ofW (cc := cX3_makeEmpty) (maxL := 1) (ret := none) (by decide) rfl ?_
  intro p e s m args below meth c s₁ B hml hv
  obtain ⟨rfl, hP, hK, hD0⟩ := hv
  have hx := B.exec
  have hb := B.bytes
  have hr := B.returns
  have hts : ∀ w ∈ GW, w.before _ s = true := fun w hw => atoms_spec (ws := mws yX3_makeEmpty cX3_makeEmpty 1 none) B.pre w (List.mem_cons_of_mem _ hw)
  have hown : s.vm.findClass RX3 = some m.cls := findClass_of_methodNamed B.named
  have hlocks := B.notSynchronized
  have hD := inW_self hD0
  generalize hAe : inW [(a_o, .inr (2, [.ref a_o_tests, .int (o_size)]))] = A at hD ⊢
  have hS : va_S A s.heap s.heap [] := va_S.rf
  have hl := lv_entry ([.ref a_o]) (n := 1) (Nat.le_of_ble_eq_true rfl)
  rw [lg_entry_eq]
  generalize (lg_sl ([.ref a_o]) ++ List.replicate (1 - (lg_sl ([.ref a_o])).length) Slot.unset).toArray = ls at hl ⊢
  have hl : lv_has ls 1 [(0, .ref a_o)] := hl
  have S : CallFix p m c cX3_makeEmpty 1 s _ GW RX3 := ⟨hx, hb, hml, hown, hts⟩
  unfold f_X3_makeEmpty at h
  refine lv_aload_n hx hb dX3_makeEmpty_0 rfl (lv_at hl 0 rfl) ?_
  refine lv_iconst (v := (0 : Int32)) hx hb dX3_makeEmpty_1 (by decide) ?_
  refine pfX3_1 (ws' := [(a_o, .inr (2, [.ref a_o_tests, .int ((0 : Int32))]))]) hx hb hts hown hK hP hD hS 0 rfl rfl wfX3_15 dX3_makeEmpty_2 (fun H locs hP hD hS => ?_)
  cases h
  exact W.vret hx hb hr (fun t ht _ => ⟨rfl, by rw [ht]; exact hP, hS.F ht⟩) hS.2.2 dX3_makeEmpty_5
def b_X3_takeOut_12 (x1 : Int32) : Nat → Int32 → Int32 → Int32 → Ar → Option (Int32 × Ar)
  | 0, _, _, _, _ => none
  | n + 1, v2, v3, o_size, o_tests => (if v2 ≤ v3 then some (o_size, o_tests) else (if (8 : Int32) ≤ v3 then some (o_size, o_tests) else rd o_tests 8 v3 (fun rv3 => bd1 (f_X6_isIn rv3 x1) (fun r5 => (if (b2i r5) = (0 : Int32) then bd2 (f_X3_append o_size o_tests rv3) (fun w9 w10 => nm (v3 + (1 : Int32)) (fun y12 => b_X3_takeOut_12 x1 n v2 y12 w9 w10)) else nm (v3 + (1 : Int32)) (fun y8 => b_X3_takeOut_12 x1 n v2 y8 o_size o_tests))))))
def f_X3_takeOut (o_size : Int32) (o_tests : Ar) (x1 : Int32) : Option (Int32 × Ar) := b_X3_takeOut_12 x1 FU o_size (0 : Int32) (0 : Int32) o_tests
set_option maxHeartbeats 4000000 in
set_option maxRecDepth 100000 in
theorem c_X3_takeOut (l : Launch) (D : va_G) (cI cS : ClassId) (a_o : Nat) (a_o_tests : Nat) (o_size : Int32) (o_tests : Ar) (x1 : Int32) (o_size' : Int32) (o_tests' : Ar) (h : f_X3_takeOut o_size o_tests x1 = some (o_size', o_tests')) : wrM l D cI cS yX3_takeOut cX3_takeOut 5 none 1 21 [.ref a_o, .int x1] [(a_o, .inr (2, [.ref a_o_tests, .int (o_size)])), (a_o_tests, .inl (cI, 8, .inl (o_tests)))] [(a_o, .inr (2, [.ref a_o_tests, .int (o_size')])), (a_o_tests, .inl (cI, 8, .inl (o_tests')))] none := by
  refine Met.ofW (cc := cX3_takeOut) (maxL := 5) (ret := none) (by decide) rfl ?_
  intro p e s m args below meth c s₁ B hml hv
  obtain ⟨rfl, hP, hK, hD0⟩ := hv
  have hx := B.exec
  have hb := B.bytes
  have hr := B.returns
  have hts : ∀ w ∈ GW, w.before _ s = true := fun w hw => atoms_spec (ws := mws yX3_takeOut cX3_takeOut 5 none) B.pre w (List.mem_cons_of_mem _ hw)
  have hown : s.vm.findClass RX3 = some m.cls := findClass_of_methodNamed B.named
  have hlocks := B.notSynchronized
  have hD := inW_self hD0
  generalize hAe : inW [(a_o, .inr (2, [.ref a_o_tests, .int (o_size)])), (a_o_tests, .inl (cI, 8, .inl (o_tests)))] = A at hD ⊢
  have hS : va_S A s.heap s.heap [] := va_S.rf
  have hl := lv_entry ([.ref a_o, .int x1]) (n := 5) (Nat.le_of_ble_eq_true rfl)
  rw [lg_entry_eq]
  generalize (lg_sl ([.ref a_o, .int x1]) ++ List.replicate (5 - (lg_sl ([.ref a_o, .int x1])).length) Slot.unset).toArray = ls at hl ⊢
  have hl : lv_has ls 5 [(0, .ref a_o), (1, .int x1)] := hl
  have S : CallFix p m c cX3_takeOut 5 s _ GW RX3 := ⟨hx, hb, hml, hown, hts⟩
  have L_12 : ∀ (n : Nat) (v2 : Int32) (v3 : Int32) (o_size : Int32) (o_tests : Ar), b_X3_takeOut_12 x1 n v2 v3 o_size o_tests = some (o_size', o_tests') → ∀ (H : Heap) (locs : List Loc), va_P D vwCl [(a_o, .inr (2, [.ref a_o_tests, .int (o_size)])), (a_o_tests, .inl (cI, 8, .inl (o_tests)))] H → va_D A [(a_o, .inr (2, [.ref a_o_tests, .int (o_size)])), (a_o_tests, .inl (cI, 8, .inl (o_tests)))] → va_S A s.heap H locs → ∀ (ls : Array Slot), lv_has ls 5 [(0, .ref a_o), (1, .int x1), (2, .int v2), (3, .int v3)] → W p l e (headSpec (mws yX3_takeOut cX3_takeOut 5 none) { frames := 1, cells := 0, slots := 0, locals := 21 }).room s m [.ref a_o, .int x1].toArray below meth c H locs 0 0 (MQ below (wrQ D A [(a_o, .inr (2, [.ref a_o_tests, .int (o_size')])), (a_o_tests, .inl (cI, 8, .inl (o_tests')))] none) [.ref a_o, .int x1].toArray s 0 0 A) (F0 m 12 ls []) := by
    intro n
    induction n with
    | zero =>
      intro v2 v3 o_size o_tests h
      exact nn_no h
    | succ n ih =>
      intro v2 v3 o_size o_tests h H locs hP hD hS ls hl
      rw [b_X3_takeOut_12] at h
      refine lv_iload_n hx hb dX3_takeOut_12 rfl (lv_at hl 3 rfl) ?_
      refine lv_iload_n hx hb dX3_takeOut_13 rfl (lv_at hl 2 rfl) ?_
      refine lv_icmp_ge (tgt := 55) hx hb dX3_takeOut_14 (by decide) (fun c1 => ?_) (fun c1 => ?_)
      · have h := it_t c1 h
        cases h
        exact W.vret hx hb hr (fun t ht _ => ⟨rfl, by rw [ht]; exact hP, hS.F ht⟩) hS.2.2 dX3_takeOut_55
      · have h := it_f c1 h
        refine lv_iload_n hx hb dX3_takeOut_17 rfl (lv_at hl 3 rfl) ?_
        refine lv_aload_n hx hb dX3_takeOut_18 rfl (lv_at hl 0 rfl) ?_
        refine gfX3_0 hx hb hts hown hK hP 0 rfl wfX3_9 dX3_takeOut_19 ?_
        refine al_ (w := (8 : Int32)) hx hb hK hP 1 rfl rfl dX3_takeOut_22 ?_
        refine lv_icmp_ge (tgt := 55) hx hb dX3_takeOut_23 (by decide) (fun c2 => ?_) (fun c2 => ?_)
        · have h := it_t c2 h
          cases h
          exact W.vret hx hb hr (fun t ht _ => ⟨rfl, by rw [ht]; exact hP, hS.F ht⟩) hS.2.2 dX3_takeOut_55
        · have h := it_f c2 h
          refine lv_aload_n hx hb dX3_takeOut_26 rfl (lv_at hl 0 rfl) ?_
          refine gfX3_0 hx hb hts hown hK hP 0 rfl wfX3_9 dX3_takeOut_27 ?_
          refine lv_iload_n hx hb dX3_takeOut_30 rfl (lv_at hl 3 rfl) ?_
          obtain ⟨hi4, h⟩ := rd_use h
          refine ia_ hx hb hK hP 1 rfl hi4 dX3_takeOut_31 ?_
          refine lv_istore (lv' := [(4, .int (o_tests v3.toNatClampNeg)), (0, .ref a_o), (1, .int x1), (2, .int v2), (3, .int v3)]) hx hb dX3_takeOut_32 hl (by decide) rfl (fun ls hl => ?_)
          refine lv_iload hx hb dX3_takeOut_34 (lv_at hl 0 rfl) ?_
          refine lv_iload_n hx hb dX3_takeOut_36 rfl (lv_at hl 2 rfl) ?_
          obtain ⟨r5, hc6, h⟩ := bd1_use h
          refine ro_SN (As := [.int (o_tests v3.toNatClampNeg), .int x1]) (rest := []) S (c_X6_isIn l D cI cS (o_tests v3.toNatClampNeg) x1 r5 hc6) (cwSN1 hts hK.2.1 csX6_isIn wnX3_23 rfl rfl ⟨(Nat.le_of_ble_eq_true rfl), (Nat.le_of_ble_eq_true rfl)⟩) hK hP [] rfl rfl hl.1 rfl (Nat.le_of_ble_eq_true rfl) dX3_takeOut_37 ⟨Nat.zero_le _, Nat.zero_le _⟩ rfl ?_
          refine lv_if_ne (tgt := 49) hx hb dX3_takeOut_40 (by decide) (fun c7 => ?_) (fun c7 => ?_)
          · have h := it_f c7 h
            obtain ⟨y8, ey8⟩ : ∃ z : Int32, z = v3 + (1 : Int32) := ⟨_, rfl⟩
            have h := nm_use h ey8
            refine lv_iinc (v := y8) (lv' := [(3, .int y8), (4, .int (o_tests v3.toNatClampNeg)), (0, .ref a_o), (1, .int x1), (2, .int v2)]) hx hb dX3_takeOut_49 hl (k := 4) rfl (by rw [ey8]; rfl) (by decide) rfl (fun ls hl => ?_)
            refine lv_goto (tgt := 12) hx hb dX3_takeOut_52 (by decide) ?_
            exact ih _ _ _ _ h _ _ hP hD hS _ (lv_sub hl [2, 3, 4, 0] rfl)
          · have h := it_t c7 h
            refine lv_aload_n hx hb dX3_takeOut_43 rfl (lv_at hl 1 rfl) ?_
            refine lv_iload hx hb dX3_takeOut_44 (lv_at hl 0 rfl) ?_
            obtain ⟨w9, w10, hc11, h⟩ := bd2_use h
            refine wr_V (As := [.int (o_tests v3.toNatClampNeg)]) (rest := []) (ws' := [(a_o, .inr (2, [.ref a_o_tests, .int (w9)])), (a_o_tests, .inl (cI, 8, .inl (w10)))]) S (c_X3_append l D cI cS a_o a_o_tests o_size o_tests (o_tests v3.toNatClampNeg) w9 w10 hc11) (cwV1 hts cvX3_append wmX3_27 rfl rfl ⟨(Nat.le_of_ble_eq_true rfl), (Nat.le_of_ble_eq_true rfl)⟩) hK hP hD hS [0, 1] rfl rfl [(true, 0), (true, 1)] rfl rfl rfl 0 rfl rfl rfl rfl hl.1 rfl (Nat.le_of_ble_eq_true rfl) dX3_takeOut_46 ⟨Nat.zero_le _, Nat.zero_le _⟩ rfl (fun H locs hP hD hS => ?_)
            obtain ⟨y12, ey12⟩ : ∃ z : Int32, z = v3 + (1 : Int32) := ⟨_, rfl⟩
            have h := nm_use h ey12
            refine lv_iinc (v := y12) (lv' := [(3, .int y12), (4, .int (o_tests v3.toNatClampNeg)), (0, .ref a_o), (1, .int x1), (2, .int v2)]) hx hb dX3_takeOut_49 hl (k := 4) rfl (by rw [ey12]; rfl) (by decide) rfl (fun ls hl => ?_)
            refine lv_goto (tgt := 12) hx hb dX3_takeOut_52 (by decide) ?_
            exact ih _ _ _ _ h _ _ hP hD hS _ (lv_sub hl [2, 3, 4, 0] rfl)
  unfold f_X3_takeOut at h
  refine lv_aload_n hx hb dX3_takeOut_0 rfl (lv_at hl 0 rfl) ?_
  refine gfX3_1 hx hb hts hown hK hP 0 rfl wfX3_15 dX3_takeOut_1 ?_
  refine lv_istore_n (lv' := [(2, .int o_size), (0, .ref a_o), (1, .int x1)]) hx hb dX3_takeOut_4 rfl hl (by decide) rfl (fun ls hl => ?_)
  refine lv_aload_n hx hb dX3_takeOut_5 rfl (lv_at hl 1 rfl) ?_
  refine lv_iconst (v := (0 : Int32)) hx hb dX3_takeOut_6 (by decide) ?_
  refine pfX3_1 (ws' := [(a_o, .inr (2, [.ref a_o_tests, .int ((0 : Int32))])), (a_o_tests, .inl (cI, 8, .inl (o_tests)))]) hx hb hts hown hK hP hD hS 0 rfl rfl wfX3_15 dX3_takeOut_7 (fun H locs hP hD hS => ?_)
  refine lv_iconst (v := (0 : Int32)) hx hb dX3_takeOut_10 (by decide) ?_
  refine lv_istore_n (lv' := [(3, .int (0 : Int32)), (2, .int o_size), (0, .ref a_o), (1, .int x1)]) hx hb dX3_takeOut_11 rfl hl (by decide) rfl (fun ls hl => ?_)
  exact L_12 _ _ _ _ _ h _ _ hP hD hS _ (lv_sub hl [2, 3, 1, 0] rfl)
def f_X3_swap (o_tests : Ar) (x1 : Int32) (x2 : Int32) : Option (Ar) := (if x1 < (0 : Int32) then some (o_tests) else (if (8 : Int32) ≤ x1 then some (o_tests) else (if x2 < (0 : Int32) then some (o_tests) else (if (8 : Int32) ≤ x2 then some (o_tests) else rd o_tests 8 x1 (fun rv5 => rd o_tests 8 x2 (fun rv7 => wr o_tests 8 x1 rv7 (fun fv9 => wr fv9 8 x2 rv5 (fun fv11 => some (fv11)))))))))
set_option maxHeartbeats 4000000 in
set_option maxRecDepth 100000 in
theorem c_X3_swap (l : Launch) (D : va_G) (cI cS : ClassId) (a_o : Nat) (a_o_tests : Nat) (o_size : Int32) (o_tests : Ar) (x1 : Int32) (x2 : Int32) (o_tests' : Ar) (h : f_X3_swap o_tests x1 x2 = some o_tests') : wrM l D cI cS yX3_swap cX3_swap 4 none 0 0 [.ref a_o, .int x1, .int x2] [(a_o, .inr (2, [.ref a_o_tests, .int (o_size)])), (a_o_tests, .inl (cI, 8, .inl (o_tests)))] [(a_o, .inr (2, [.ref a_o_tests, .int (o_size)])), (a_o_tests, .inl (cI, 8, .inl (o_tests')))] none := by
  refine Met.ofW (cc := cX3_swap) (maxL := 4) (ret := none) (by decide) rfl ?_
  intro p e s m args below meth c s₁ B hml hv
  obtain ⟨rfl, hP, hK, hD0⟩ := hv
  have hx := B.exec
  have hb := B.bytes
  have hr := B.returns
  have hts : ∀ w ∈ GW, w.before _ s = true := fun w hw => atoms_spec (ws := mws yX3_swap cX3_swap 4 none) B.pre w (List.mem_cons_of_mem _ hw)
  have hown : s.vm.findClass RX3 = some m.cls := findClass_of_methodNamed B.named
  have hlocks := B.notSynchronized
  have hD := inW_self hD0
  generalize hAe : inW [(a_o, .inr (2, [.ref a_o_tests, .int (o_size)])), (a_o_tests, .inl (cI, 8, .inl (o_tests)))] = A at hD ⊢
  have hS : va_S A s.heap s.heap [] := va_S.rf
  have hl := lv_entry ([.ref a_o, .int x1, .int x2]) (n := 4) (Nat.le_of_ble_eq_true rfl)
  rw [lg_entry_eq]
  generalize (lg_sl ([.ref a_o, .int x1, .int x2]) ++ List.replicate (4 - (lg_sl ([.ref a_o, .int x1, .int x2])).length) Slot.unset).toArray = ls at hl ⊢
  have hl : lv_has ls 4 [(0, .ref a_o), (1, .int x1), (2, .int x2)] := hl
  have S : CallFix p m c cX3_swap 4 s _ GW RX3 := ⟨hx, hb, hml, hown, hts⟩
  unfold f_X3_swap at h
  refine lv_iload_n hx hb dX3_swap_0 rfl (lv_at hl 1 rfl) ?_
  refine lv_if_lt (tgt := 52) hx hb dX3_swap_1 (by decide) (fun c1 => ?_) (fun c1 => ?_)
  · have h := it_t c1 h
    cases h
    exact W.vret hx hb hr (fun t ht _ => ⟨rfl, by rw [ht]; exact hP, hS.F ht⟩) hS.2.2 dX3_swap_52
  · have h := it_f c1 h
    refine lv_iload_n hx hb dX3_swap_4 rfl (lv_at hl 1 rfl) ?_
    refine lv_aload_n hx hb dX3_swap_5 rfl (lv_at hl 0 rfl) ?_
    refine gfX3_0 hx hb hts hown hK hP 0 rfl wfX3_9 dX3_swap_6 ?_
    refine al_ (w := (8 : Int32)) hx hb hK hP 1 rfl rfl dX3_swap_9 ?_
    refine lv_icmp_ge (tgt := 52) hx hb dX3_swap_10 (by decide) (fun c2 => ?_) (fun c2 => ?_)
    · have h := it_t c2 h
      cases h
      exact W.vret hx hb hr (fun t ht _ => ⟨rfl, by rw [ht]; exact hP, hS.F ht⟩) hS.2.2 dX3_swap_52
    · have h := it_f c2 h
      refine lv_iload_n hx hb dX3_swap_13 rfl (lv_at hl 2 rfl) ?_
      refine lv_if_lt (tgt := 52) hx hb dX3_swap_14 (by decide) (fun c3 => ?_) (fun c3 => ?_)
      · have h := it_t c3 h
        cases h
        exact W.vret hx hb hr (fun t ht _ => ⟨rfl, by rw [ht]; exact hP, hS.F ht⟩) hS.2.2 dX3_swap_52
      · have h := it_f c3 h
        refine lv_iload_n hx hb dX3_swap_17 rfl (lv_at hl 2 rfl) ?_
        refine lv_aload_n hx hb dX3_swap_18 rfl (lv_at hl 0 rfl) ?_
        refine gfX3_0 hx hb hts hown hK hP 0 rfl wfX3_9 dX3_swap_19 ?_
        refine al_ (w := (8 : Int32)) hx hb hK hP 1 rfl rfl dX3_swap_22 ?_
        refine lv_icmp_ge (tgt := 52) hx hb dX3_swap_23 (by decide) (fun c4 => ?_) (fun c4 => ?_)
        · have h := it_t c4 h
          cases h
          exact W.vret hx hb hr (fun t ht _ => ⟨rfl, by rw [ht]; exact hP, hS.F ht⟩) hS.2.2 dX3_swap_52
        · have h := it_f c4 h
          refine lv_aload_n hx hb dX3_swap_26 rfl (lv_at hl 0 rfl) ?_
          refine gfX3_0 hx hb hts hown hK hP 0 rfl wfX3_9 dX3_swap_27 ?_
          refine lv_iload_n hx hb dX3_swap_30 rfl (lv_at hl 1 rfl) ?_
          obtain ⟨hi6, h⟩ := rd_use h
          refine ia_ hx hb hK hP 1 rfl hi6 dX3_swap_31 ?_
          refine lv_istore_n (lv' := [(3, .int (o_tests x1.toNatClampNeg)), (0, .ref a_o), (1, .int x1), (2, .int x2)]) hx hb dX3_swap_32 rfl hl (by decide) rfl (fun ls hl => ?_)
          refine lv_aload_n hx hb dX3_swap_33 rfl (lv_at hl 1 rfl) ?_
          refine gfX3_0 hx hb hts hown hK hP 0 rfl wfX3_9 dX3_swap_34 ?_
          refine lv_iload_n hx hb dX3_swap_37 rfl (lv_at hl 2 rfl) ?_
          refine lv_aload_n hx hb dX3_swap_38 rfl (lv_at hl 1 rfl) ?_
          refine gfX3_0 hx hb hts hown hK hP 0 rfl wfX3_9 dX3_swap_39 ?_
          refine lv_iload_n hx hb dX3_swap_42 rfl (lv_at hl 3 rfl) ?_
          obtain ⟨hi8, h⟩ := rd_use h
          refine ia_ hx hb hK hP 1 rfl hi8 dX3_swap_43 ?_
          obtain ⟨hi10, h⟩ := wr_use h
          refine is_ (ws' := [(a_o, .inr (2, [.ref a_o_tests, .int (o_size)])), (a_o_tests, .inl (cI, 8, .inl ((upd o_tests x1.toNatClampNeg (o_tests x2.toNatClampNeg)))))]) hx hb hK hP hD hS 1 rfl rfl hi10 dX3_swap_44 (fun H locs hP hD hS => ?_)
          refine lv_aload_n hx hb dX3_swap_45 rfl (lv_at hl 1 rfl) ?_
          refine gfX3_0 hx hb hts hown hK hP 0 rfl wfX3_9 dX3_swap_46 ?_
          refine lv_iload_n hx hb dX3_swap_49 rfl (lv_at hl 3 rfl) ?_
          refine lv_iload_n hx hb dX3_swap_50 rfl (lv_at hl 0 rfl) ?_
          obtain ⟨hi12, h⟩ := wr_use h
          refine is_ (ws' := [(a_o, .inr (2, [.ref a_o_tests, .int (o_size)])), (a_o_tests, .inl (cI, 8, .inl ((upd (upd o_tests x1.toNatClampNeg (o_tests x2.toNatClampNeg)) x2.toNatClampNeg (o_tests x1.toNatClampNeg)))))]) hx hb hK hP hD hS 1 rfl rfl hi12 dX3_swap_51 (fun H locs hP hD hS => ?_)
          cases h
          exact W.vret hx hb hr (fun t ht _ => ⟨rfl, by rw [ht]; exact hP, hS.F ht⟩) hS.2.2 dX3_swap_52
def b_X3_layShuffled_33 : Nat → Int64 → Int32 → Int32 → Ar → Option (Int32 × Ar)
  | 0, _, _, _, _ => none
  | n + 1, v3, v5, o_size, o_tests => (if v5 < (1 : Int32) then some (o_size, o_tests) else nm (((v3 * (1103515245 : Int64)) + (12345 : Int64)) - ((v3 * (1103515245 : Int64)) + (12345 : Int64)) / (2147483648 : Int64) * (2147483648 : Int64)) (fun y2 => dvl ((v5 + (1 : Int32)).toInt64) (bd1 (f_X3_swap o_tests v5 (((y2 / (65536 : Int64)) - (y2 / (65536 : Int64)) / ((v5 + (1 : Int32)).toInt64) * ((v5 + (1 : Int32)).toInt64)).toInt32)) (fun w4 => nm (v5 + (-1 : Int32)) (fun y6 => b_X3_layShuffled_33  n y2 y6 o_size w4)))))
def b_X3_layShuffled_6 (x1 : Int32) (x2 : Int32) : Nat → Int32 → Int32 → Ar → Option (Int32 × Ar)
  | 0, _, _, _ => none
  | n + 1, v3, o_size, o_tests => (if x1 ≤ v3 then nm (x2.toInt64) (fun y8 => nm (o_size - (1 : Int32)) (fun y9 => b_X3_layShuffled_33  FU y8 y9 o_size o_tests)) else bd2 (f_X3_append o_size o_tests v3) (fun w10 w11 => nm (v3 + (1 : Int32)) (fun y13 => b_X3_layShuffled_6 x1 x2 n y13 w10 w11)))
def f_X3_layShuffled (o_size : Int32) (o_tests : Ar) (x1 : Int32) (x2 : Int32) : Option (Int32 × Ar) := bd1 (f_X3_makeEmpty o_size) (fun w14 => b_X3_layShuffled_6 x1 x2 FU (0 : Int32) w14 o_tests)
set_option maxHeartbeats 4000000 in
set_option maxRecDepth 100000 in
theorem c_X3_layShuffled (l : Launch) (D : va_G) (cI cS : ClassId) (a_o : Nat) (a_o_tests : Nat) (o_size : Int32) (o_tests : Ar) (x1 : Int32) (x2 : Int32) (o_size' : Int32) (o_tests' : Ar) (h : f_X3_layShuffled o_size o_tests x1 x2 = some (o_size', o_tests')) : wrM l D cI cS yX3_layShuffled cX3_layShuffled 6 none 1 23 [.ref a_o, .int x1, .int x2] [(a_o, .inr (2, [.ref a_o_tests, .int (o_size)])), (a_o_tests, .inl (cI, 8, .inl (o_tests)))] [(a_o, .inr (2, [.ref a_o_tests, .int (o_size')])), (a_o_tests, .inl (cI, 8, .inl (o_tests')))] none := by
  refine Met.ofW (cc := cX3_layShuffled) (maxL := 6) (ret := none) (by decide) rfl ?_
  intro p e s m args below meth c s₁ B hml hv
  obtain ⟨rfl, hP, hK, hD0⟩ := hv
  have hx := B.exec
  have hb := B.bytes
  have hr := B.returns
  have hts : ∀ w ∈ GW, w.before _ s = true := fun w hw => atoms_spec (ws := mws yX3_layShuffled cX3_layShuffled 6 none) B.pre w (List.mem_cons_of_mem _ hw)
  have hown : s.vm.findClass RX3 = some m.cls := findClass_of_methodNamed B.named
  have hlocks := B.notSynchronized
  have hD := inW_self hD0
  generalize hAe : inW [(a_o, .inr (2, [.ref a_o_tests, .int (o_size)])), (a_o_tests, .inl (cI, 8, .inl (o_tests)))] = A at hD ⊢
  have hS : va_S A s.heap s.heap [] := va_S.rf
  have hl := lv_entry ([.ref a_o, .int x1, .int x2]) (n := 6) (Nat.le_of_ble_eq_true rfl)
  rw [lg_entry_eq]
  generalize (lg_sl ([.ref a_o, .int x1, .int x2]) ++ List.replicate (6 - (lg_sl ([.ref a_o, .int x1, .int x2])).length) Slot.unset).toArray = ls at hl ⊢
  have hl : lv_has ls 6 [(0, .ref a_o), (1, .int x1), (2, .int x2)] := hl
  have S : CallFix p m c cX3_layShuffled 6 s _ GW RX3 := ⟨hx, hb, hml, hown, hts⟩
  have L_33 : ∀ (n : Nat) (v3 : Int64) (v5 : Int32) (o_size : Int32) (o_tests : Ar), b_X3_layShuffled_33  n v3 v5 o_size o_tests = some (o_size', o_tests') → ∀ (H : Heap) (locs : List Loc), va_P D vwCl [(a_o, .inr (2, [.ref a_o_tests, .int (o_size)])), (a_o_tests, .inl (cI, 8, .inl (o_tests)))] H → va_D A [(a_o, .inr (2, [.ref a_o_tests, .int (o_size)])), (a_o_tests, .inl (cI, 8, .inl (o_tests)))] → va_S A s.heap H locs → ∀ (ls : Array Slot), lv_has ls 6 [(0, .ref a_o), (3, .long v3), (5, .int v5)] → W p l e (headSpec (mws yX3_layShuffled cX3_layShuffled 6 none) { frames := 1, cells := 0, slots := 0, locals := 23 }).room s m [.ref a_o, .int x1, .int x2].toArray below meth c H locs 0 0 (MQ below (wrQ D A [(a_o, .inr (2, [.ref a_o_tests, .int (o_size')])), (a_o_tests, .inl (cI, 8, .inl (o_tests')))] none) [.ref a_o, .int x1, .int x2].toArray s 0 0 A) (F0 m 33 ls []) := by
    intro n
    induction n with
    | zero =>
      intro v3 v5 o_size o_tests h
      exact nn_no h
    | succ n ih =>
      intro v3 v5 o_size o_tests h H locs hP hD hS ls hl
      rw [b_X3_layShuffled_33] at h
      refine lv_iload hx hb dX3_layShuffled_33 (lv_at hl 2 rfl) ?_
      refine lv_iconst (v := (1 : Int32)) hx hb dX3_layShuffled_35 (by decide) ?_
      refine lv_icmp_lt (tgt := 77) hx hb dX3_layShuffled_36 (by decide) (fun c1 => ?_) (fun c1 => ?_)
      · have h := it_t c1 h
        cases h
        exact W.vret hx hb hr (fun t ht _ => ⟨rfl, by rw [ht]; exact hP, hS.F ht⟩) hS.2.2 dX3_layShuffled_77
      · have h := it_f c1 h
        refine lv_lload_n hx hb dX3_layShuffled_39 rfl (lv_at hl 1 rfl) ?_
        refine lv_ldc2 (v := (1103515245 : Int64)) hx hb hown (hts _ wkX3_34) dX3_layShuffled_40 ?_
        refine lv_lmul hx hb dX3_layShuffled_43 ?_
        refine lv_ldc2 (v := (12345 : Int64)) hx hb hown (hts _ wkX3_36) dX3_layShuffled_44 ?_
        refine lv_ladd hx hb dX3_layShuffled_47 ?_
        refine lv_ldc2 (v := (2147483648 : Int64)) hx hb hown (hts _ wkX3_38) dX3_layShuffled_48 ?_
        refine lv_lrem hx hb dX3_layShuffled_51 (by decide) ?_
        refine lv_topl (fun y2 ey2 => ?_)
        have h := nm_use h ey2
        refine lv_lstore_n (lv' := [(3, .long y2), (0, .ref a_o), (5, .int v5)]) hx hb dX3_layShuffled_52 rfl hl (by decide) rfl (fun ls hl => ?_)
        refine lv_aload_n hx hb dX3_layShuffled_53 rfl (lv_at hl 1 rfl) ?_
        refine lv_iload hx hb dX3_layShuffled_54 (lv_at hl 2 rfl) ?_
        refine lv_lload_n hx hb dX3_layShuffled_56 rfl (lv_at hl 0 rfl) ?_
        refine lv_ldc2 (v := (65536 : Int64)) hx hb hown (hts _ wkX3_40) dX3_layShuffled_57 ?_
        refine lv_ldiv hx hb dX3_layShuffled_60 (by decide) ?_
        refine lv_iload hx hb dX3_layShuffled_61 (lv_at hl 2 rfl) ?_
        refine lv_iconst (v := (1 : Int32)) hx hb dX3_layShuffled_63 (by decide) ?_
        refine lv_iadd hx hb dX3_layShuffled_64 ?_
        refine lv_i2l (v := ((v5 + (1 : Int32)).toInt64)) hx hb dX3_layShuffled_65 rfl ?_
        obtain ⟨hz3, h⟩ := dvl_use h
        refine lv_lrem hx hb dX3_layShuffled_66 hz3 ?_
        refine lv_l2i (v := (((y2 / (65536 : Int64)) - (y2 / (65536 : Int64)) / ((v5 + (1 : Int32)).toInt64) * ((v5 + (1 : Int32)).toInt64)).toInt32)) hx hb dX3_layShuffled_67 rfl ?_
        obtain ⟨w4, hc5, h⟩ := bd1_use h
        refine wr_V (As := [.int v5, .int (((y2 / (65536 : Int64)) - (y2 / (65536 : Int64)) / ((v5 + (1 : Int32)).toInt64) * ((v5 + (1 : Int32)).toInt64)).toInt32)]) (rest := []) (ws' := [(a_o, .inr (2, [.ref a_o_tests, .int (o_size)])), (a_o_tests, .inl (cI, 8, .inl (w4)))]) S (c_X3_swap l D cI cS a_o a_o_tests o_size o_tests v5 (((y2 / (65536 : Int64)) - (y2 / (65536 : Int64)) / ((v5 + (1 : Int32)).toInt64) * ((v5 + (1 : Int32)).toInt64)).toInt32) w4 hc5) (cwV1 hts cvX3_swap wmX3_42 rfl rfl ⟨(Nat.le_of_ble_eq_true rfl), (Nat.le_of_ble_eq_true rfl)⟩) hK hP hD hS [0, 1] rfl rfl [(true, 0), (true, 1)] rfl rfl rfl 0 rfl rfl rfl rfl hl.1 rfl (Nat.le_of_ble_eq_true rfl) dX3_layShuffled_68 ⟨Nat.zero_le _, Nat.zero_le _⟩ rfl (fun H locs hP hD hS => ?_)
        obtain ⟨y6, ey6⟩ : ∃ z : Int32, z = v5 + (-1 : Int32) := ⟨_, rfl⟩
        have h := nm_use h ey6
        refine lv_iinc (v := y6) (lv' := [(5, .int y6), (3, .long y2), (0, .ref a_o)]) hx hb dX3_layShuffled_71 hl (k := 2) rfl (by rw [ey6]; rfl) (by decide) rfl (fun ls hl => ?_)
        refine lv_goto (tgt := 33) hx hb dX3_layShuffled_74 (by decide) ?_
        exact ih _ _ _ _ h _ _ hP hD hS _ (lv_sub hl [2, 1, 0] rfl)
  have L_6 : ∀ (n : Nat) (v3 : Int32) (o_size : Int32) (o_tests : Ar), b_X3_layShuffled_6 x1 x2 n v3 o_size o_tests = some (o_size', o_tests') → ∀ (H : Heap) (locs : List Loc), va_P D vwCl [(a_o, .inr (2, [.ref a_o_tests, .int (o_size)])), (a_o_tests, .inl (cI, 8, .inl (o_tests)))] H → va_D A [(a_o, .inr (2, [.ref a_o_tests, .int (o_size)])), (a_o_tests, .inl (cI, 8, .inl (o_tests)))] → va_S A s.heap H locs → ∀ (ls : Array Slot), lv_has ls 6 [(0, .ref a_o), (1, .int x1), (2, .int x2), (3, .int v3)] → W p l e (headSpec (mws yX3_layShuffled cX3_layShuffled 6 none) { frames := 1, cells := 0, slots := 0, locals := 23 }).room s m [.ref a_o, .int x1, .int x2].toArray below meth c H locs 0 0 (MQ below (wrQ D A [(a_o, .inr (2, [.ref a_o_tests, .int (o_size')])), (a_o_tests, .inl (cI, 8, .inl (o_tests')))] none) [.ref a_o, .int x1, .int x2].toArray s 0 0 A) (F0 m 6 ls []) := by
    intro n
    induction n with
    | zero =>
      intro v3 o_size o_tests h
      exact nn_no h
    | succ n ih =>
      intro v3 o_size o_tests h H locs hP hD hS ls hl
      rw [b_X3_layShuffled_6] at h
      refine lv_iload_n hx hb dX3_layShuffled_6 rfl (lv_at hl 3 rfl) ?_
      refine lv_iload_n hx hb dX3_layShuffled_7 rfl (lv_at hl 1 rfl) ?_
      refine lv_icmp_ge (tgt := 22) hx hb dX3_layShuffled_8 (by decide) (fun c7 => ?_) (fun c7 => ?_)
      · have h := it_t c7 h
        refine lv_iload_n hx hb dX3_layShuffled_22 rfl (lv_at hl 2 rfl) ?_
        refine lv_i2l (v := (x2.toInt64)) hx hb dX3_layShuffled_23 rfl ?_
        refine lv_topl (fun y8 ey8 => ?_)
        have h := nm_use h ey8
        refine lv_lstore_n (lv' := [(3, .long y8), (0, .ref a_o), (1, .int x1), (2, .int x2)]) hx hb dX3_layShuffled_24 rfl hl (by decide) rfl (fun ls hl => ?_)
        refine lv_aload_n hx hb dX3_layShuffled_25 rfl (lv_at hl 1 rfl) ?_
        refine gfX3_1 hx hb hts hown hK hP 0 rfl wfX3_15 dX3_layShuffled_26 ?_
        refine lv_iconst (v := (1 : Int32)) hx hb dX3_layShuffled_29 (by decide) ?_
        refine lv_isub hx hb dX3_layShuffled_30 ?_
        refine lv_topi (fun y9 ey9 => ?_)
        have h := nm_use h ey9
        refine lv_istore (lv' := [(5, .int y9), (3, .long y8), (0, .ref a_o), (1, .int x1), (2, .int x2)]) hx hb dX3_layShuffled_31 hl (by decide) rfl (fun ls hl => ?_)
        exact L_33 _ _ _ _ _ h _ _ hP hD hS _ (lv_sub hl [2, 1, 0] rfl)
      · have h := it_f c7 h
        refine lv_aload_n hx hb dX3_layShuffled_11 rfl (lv_at hl 0 rfl) ?_
        refine lv_iload_n hx hb dX3_layShuffled_12 rfl (lv_at hl 3 rfl) ?_
        obtain ⟨w10, w11, hc12, h⟩ := bd2_use h
        refine wr_V (As := [.int v3]) (rest := []) (ws' := [(a_o, .inr (2, [.ref a_o_tests, .int (w10)])), (a_o_tests, .inl (cI, 8, .inl (w11)))]) S (c_X3_append l D cI cS a_o a_o_tests o_size o_tests v3 w10 w11 hc12) (cwV1 hts cvX3_append wmX3_27 rfl rfl ⟨(Nat.le_of_ble_eq_true rfl), (Nat.le_of_ble_eq_true rfl)⟩) hK hP hD hS [0, 1] rfl rfl [(true, 0), (true, 1)] rfl rfl rfl 0 rfl rfl rfl rfl hl.1 rfl (Nat.le_of_ble_eq_true rfl) dX3_layShuffled_13 ⟨Nat.zero_le _, Nat.zero_le _⟩ rfl (fun H locs hP hD hS => ?_)
        obtain ⟨y13, ey13⟩ : ∃ z : Int32, z = v3 + (1 : Int32) := ⟨_, rfl⟩
        have h := nm_use h ey13
        refine lv_iinc (v := y13) (lv' := [(3, .int y13), (0, .ref a_o), (1, .int x1), (2, .int x2)]) hx hb dX3_layShuffled_16 hl (k := 3) rfl (by rw [ey13]; rfl) (by decide) rfl (fun ls hl => ?_)
        refine lv_goto (tgt := 6) hx hb dX3_layShuffled_19 (by decide) ?_
        exact ih _ _ _ h _ _ hP hD hS _ (lv_sub hl [1, 2, 3, 0] rfl)
  unfold f_X3_layShuffled at h
  refine lv_aload_n hx hb dX3_layShuffled_0 rfl (lv_at hl 0 rfl) ?_
  obtain ⟨w14, hc15, h⟩ := bd1_use h
  refine wr_V (As := []) (rest := []) (ws' := [(a_o, .inr (2, [.ref a_o_tests, .int (w14)])), (a_o_tests, .inl (cI, 8, .inl (o_tests)))]) S (c_X3_makeEmpty l D cI cS a_o a_o_tests o_size w14 hc15) (cwV1 hts cvX3_makeEmpty wmX3_31 rfl rfl ⟨(Nat.le_of_ble_eq_true rfl), (Nat.le_of_ble_eq_true rfl)⟩) hK hP hD hS [0] rfl rfl [(true, 0), (false, 1)] rfl rfl rfl 0 rfl rfl rfl rfl hl.1 rfl (Nat.le_of_ble_eq_true rfl) dX3_layShuffled_1 ⟨Nat.zero_le _, Nat.zero_le _⟩ rfl (fun H locs hP hD hS => ?_)
  refine lv_iconst (v := (0 : Int32)) hx hb dX3_layShuffled_4 (by decide) ?_
  refine lv_istore_n (lv' := [(3, .int (0 : Int32)), (0, .ref a_o), (1, .int x1), (2, .int x2)]) hx hb dX3_layShuffled_5 rfl hl (by decide) rfl (fun ls hl => ?_)
  exact L_6 _ _ _ _ h _ _ hP hD hS _ (lv_sub hl [1, 2, 3, 0] rfl)
def f_X3_copyFrom (o_size : Int32) (o_tests : Ar) (p1_size : Int32) (p1_tests : Ar) : Option (Int32 × Ar) := nm (va_cpy p1_tests o_tests (0 : Int32).toNatClampNeg (0 : Int32).toNatClampNeg (8 : Int32).toNatClampNeg) (fun fv1 => some (p1_size, fv1))
set_option maxHeartbeats 4000000 in
set_option maxRecDepth 100000 in
theorem c_X3_copyFrom (l : Launch) (D : va_G) (cI cS : ClassId) (a_o : Nat) (a_o_tests : Nat) (a_p1 : Nat) (a_p1_tests : Nat) (o_size : Int32) (o_tests : Ar) (p1_size : Int32) (p1_tests : Ar) (o_size' : Int32) (o_tests' : Ar) (h : f_X3_copyFrom o_size o_tests p1_size p1_tests = some (o_size', o_tests')) : wrM l D cI cS yX3_copyFrom cX3_copyFrom 2 none 1 40 [.ref a_o, .ref a_p1] [(a_o, .inr (2, [.ref a_o_tests, .int (o_size)])), (a_o_tests, .inl (cI, 8, .inl (o_tests))), (a_p1, .inr (2, [.ref a_p1_tests, .int (p1_size)])), (a_p1_tests, .inl (cI, 8, .inl (p1_tests)))] [(a_o, .inr (2, [.ref a_o_tests, .int (o_size')])), (a_o_tests, .inl (cI, 8, .inl (o_tests'))), (a_p1, .inr (2, [.ref a_p1_tests, .int (p1_size)])), (a_p1_tests, .inl (cI, 8, .inl (p1_tests)))] none := by
  refine Met.ofW (cc := cX3_copyFrom) (maxL := 2) (ret := none) (by decide) rfl ?_
  intro p e s m args below meth c s₁ B hml hv
  obtain ⟨rfl, hP, hK, hD0⟩ := hv
  have hx := B.exec
  have hb := B.bytes
  have hr := B.returns
  have hts : ∀ w ∈ GW, w.before _ s = true := fun w hw => atoms_spec (ws := mws yX3_copyFrom cX3_copyFrom 2 none) B.pre w (List.mem_cons_of_mem _ hw)
  have hown : s.vm.findClass RX3 = some m.cls := findClass_of_methodNamed B.named
  have hlocks := B.notSynchronized
  have hD := inW_self hD0
  generalize hAe : inW [(a_o, .inr (2, [.ref a_o_tests, .int (o_size)])), (a_o_tests, .inl (cI, 8, .inl (o_tests))), (a_p1, .inr (2, [.ref a_p1_tests, .int (p1_size)])), (a_p1_tests, .inl (cI, 8, .inl (p1_tests)))] = A at hD ⊢
  have hS : va_S A s.heap s.heap [] := va_S.rf
  have hl := lv_entry ([.ref a_o, .ref a_p1]) (n := 2) (Nat.le_of_ble_eq_true rfl)
  rw [lg_entry_eq]
  generalize (lg_sl ([.ref a_o, .ref a_p1]) ++ List.replicate (2 - (lg_sl ([.ref a_o, .ref a_p1])).length) Slot.unset).toArray = ls at hl ⊢
  have hl : lv_has ls 2 [(0, .ref a_o), (1, .ref a_p1)] := hl
  have S : CallFix p m c cX3_copyFrom 2 s _ GW RX3 := ⟨hx, hb, hml, hown, hts⟩
  unfold f_X3_copyFrom at h
  refine lv_aload_n hx hb dX3_copyFrom_0 rfl (lv_at hl 1 rfl) ?_
  refine gfX3_0 hx hb hts hown hK hP 2 rfl wfX3_9 dX3_copyFrom_1 ?_
  refine lv_iconst (v := (0 : Int32)) hx hb dX3_copyFrom_4 (by decide) ?_
  refine lv_aload_n hx hb dX3_copyFrom_5 rfl (lv_at hl 0 rfl) ?_
  refine gfX3_0 hx hb hts hown hK hP 0 rfl wfX3_9 dX3_copyFrom_6 ?_
  refine lv_iconst (v := (0 : Int32)) hx hb dX3_copyFrom_9 (by decide) ?_
  refine lv_bipush (v := (8 : Int32)) hx hb dX3_copyFrom_10 (by decide) ?_
  have h := nm_use h rfl
  refine cp_ (ws' := [(a_o, .inr (2, [.ref a_o_tests, .int (o_size)])), (a_o_tests, .inl (cI, 8, .inl ((va_cpy p1_tests o_tests (0 : Int32).toNatClampNeg (0 : Int32).toNatClampNeg (8 : Int32).toNatClampNeg)))), (a_p1, .inr (2, [.ref a_p1_tests, .int (p1_size)])), (a_p1_tests, .inl (cI, 8, .inl (p1_tests)))]) hx hb (hml.trans hl.1.symm) hts hown wmX3_46 wiJ10 hK hP hD hS 3 1 rfl rfl (by decide) (by decide) (by decide) (by decide) (by decide) rfl (Nat.le_of_ble_eq_true rfl) (Nat.le_of_ble_eq_true rfl) dX3_copyFrom_12 (fun H locs hP hD hS => ?_)
  refine lv_aload_n hx hb dX3_copyFrom_15 rfl (lv_at hl 0 rfl) ?_
  refine lv_aload_n hx hb dX3_copyFrom_16 rfl (lv_at hl 1 rfl) ?_
  refine gfX3_1 hx hb hts hown hK hP 2 rfl wfX3_15 dX3_copyFrom_17 ?_
  refine pfX3_1 (ws' := [(a_o, .inr (2, [.ref a_o_tests, .int (p1_size)])), (a_o_tests, .inl (cI, 8, .inl ((va_cpy p1_tests o_tests (0 : Int32).toNatClampNeg (0 : Int32).toNatClampNeg (8 : Int32).toNatClampNeg)))), (a_p1, .inr (2, [.ref a_p1_tests, .int (p1_size)])), (a_p1_tests, .inl (cI, 8, .inl (p1_tests)))]) hx hb hts hown hK hP hD hS 0 rfl rfl wfX3_15 dX3_copyFrom_20 (fun H locs hP hD hS => ?_)
  cases h
  exact W.vret hx hb hr (fun t ht _ => ⟨rfl, by rw [ht]; exact hP, hS.F ht⟩) hS.2.2 dX3_copyFrom_23
end
