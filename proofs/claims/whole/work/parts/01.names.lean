-- ===== PART A: goes FIRST, ahead of the names: the tables' words, and 'selects' of the private methods out of them =====
/-- a private method of a class that the tables say can be made, by its rows of tables_1 -/
def lw_okq (q : MethodName × Nat) : Prop := (q.1.cls ≠ "java/lang/invoke/MethodHandle" ∧ q.1.cls ≠ "java/lang/invoke/VarHandle") ∧ Cond.instantiable q.1.cls q.2 ∈ tables_1 ∧ Cond.privateMethod q.1 ∈ tables_1 ∧ Cond.instanceMethod q.1 ∈ tables_1
theorem lw_p0 : lw_okq (⟨"AreaCrossings", "isArea", "(I)Z"⟩, 7) := ⟨⟨by decide +kernel, by decide +kernel⟩, List.mem_of_getElem? (i := 16) (by decide +kernel), List.mem_of_getElem? (i := 200) (by decide +kernel), List.mem_of_getElem? (i := 201) (by decide +kernel)⟩
theorem lw_p1 : lw_okq (⟨"AreaCrossings$Area", "beingMade", "()LAreaCrossings$Ring;"⟩, 4) := ⟨⟨by decide +kernel, by decide +kernel⟩, List.mem_of_getElem? (i := 31) (by decide +kernel), List.mem_of_getElem? (i := 208) (by decide +kernel), List.mem_of_getElem? (i := 209) (by decide +kernel)⟩
theorem lw_p2 : lw_okq (⟨"AreaCrossings$Ring", "foldsBackAt", "(III)Z"⟩, 3) := ⟨⟨by decide +kernel, by decide +kernel⟩, List.mem_of_getElem? (i := 38) (by decide +kernel), List.mem_of_getElem? (i := 220) (by decide +kernel), List.mem_of_getElem? (i := 221) (by decide +kernel)⟩
theorem lw_p3 : lw_okq (⟨"AreaCrossings$Ring", "sidesMeet", "(ILAreaCrossings$Ring;I)Z"⟩, 3) := ⟨⟨by decide +kernel, by decide +kernel⟩, List.mem_of_getElem? (i := 38) (by decide +kernel), List.mem_of_getElem? (i := 224) (by decide +kernel), List.mem_of_getElem? (i := 225) (by decide +kernel)⟩
theorem lw_p4 : lw_okq (⟨"AreaCrossings$Ring", "turn", "(IJJJ)J"⟩, 3) := ⟨⟨by decide +kernel, by decide +kernel⟩, List.mem_of_getElem? (i := 38) (by decide +kernel), List.mem_of_getElem? (i := 228) (by decide +kernel), List.mem_of_getElem? (i := 229) (by decide +kernel)⟩
theorem lw_p5 : lw_okq (⟨"AreaCrossings$Ring", "spans", "(IJJJ)Z"⟩, 3) := ⟨⟨by decide +kernel, by decide +kernel⟩, List.mem_of_getElem? (i := 38) (by decide +kernel), List.mem_of_getElem? (i := 235) (by decide +kernel), List.mem_of_getElem? (i := 236) (by decide +kernel)⟩
theorem lw_p6 : lw_okq (⟨"AreaCrossings$Area", "fitsAsHole", "(LAreaCrossings$Ring;)Z"⟩, 4) := ⟨⟨by decide +kernel, by decide +kernel⟩, List.mem_of_getElem? (i := 31) (by decide +kernel), List.mem_of_getElem? (i := 241) (by decide +kernel), List.mem_of_getElem? (i := 242) (by decide +kernel)⟩
theorem lw_p7 : lw_okq (⟨"AreaCrossings", "firstUntouchedArea", "()I"⟩, 7) := ⟨⟨by decide +kernel, by decide +kernel⟩, List.mem_of_getElem? (i := 16) (by decide +kernel), List.mem_of_getElem? (i := 322) (by decide +kernel), List.mem_of_getElem? (i := 323) (by decide +kernel)⟩
theorem lw_p8 : lw_okq (⟨"AreaCrossings", "isTrack", "(I)Z"⟩, 7) := ⟨⟨by decide +kernel, by decide +kernel⟩, List.mem_of_getElem? (i := 16) (by decide +kernel), List.mem_of_getElem? (i := 354) (by decide +kernel), List.mem_of_getElem? (i := 355) (by decide +kernel)⟩
theorem lw_p9 : lw_okq (⟨"AreaCrossings", "counts", "(IILAreaCrossings$Track;I)Z"⟩, 7) := ⟨⟨by decide +kernel, by decide +kernel⟩, List.mem_of_getElem? (i := 16) (by decide +kernel), List.mem_of_getElem? (i := 376) (by decide +kernel), List.mem_of_getElem? (i := 377) (by decide +kernel)⟩
theorem lw_p10 : lw_okq (⟨"AreaCrossings", "isThere", "(I)Z"⟩, 7) := ⟨⟨by decide +kernel, by decide +kernel⟩, List.mem_of_getElem? (i := 16) (by decide +kernel), List.mem_of_getElem? (i := 380) (by decide +kernel), List.mem_of_getElem? (i := 381) (by decide +kernel)⟩
theorem lw_p11 : lw_okq (⟨"AreaCrossings$Rules", "applies", "(IIJ)Z"⟩, 5) := ⟨⟨by decide +kernel, by decide +kernel⟩, List.mem_of_getElem? (i := 68) (by decide +kernel), List.mem_of_getElem? (i := 409) (by decide +kernel), List.mem_of_getElem? (i := 410) (by decide +kernel)⟩
theorem lw_p12 : lw_okq (⟨"AreaCrossings", "noteCrossings", "(IILAreaCrossings$Track;I)Z"⟩, 7) := ⟨⟨by decide +kernel, by decide +kernel⟩, List.mem_of_getElem? (i := 16) (by decide +kernel), List.mem_of_getElem? (i := 430) (by decide +kernel), List.mem_of_getElem? (i := 431) (by decide +kernel)⟩
theorem lw_p13 : lw_okq (⟨"AreaCrossings$Stretches", "cutPiece", "(LAreaCrossings$Area;LAreaCrossings$Track;I)V"⟩, 10) := ⟨⟨by decide +kernel, by decide +kernel⟩, List.mem_of_getElem? (i := 111) (by decide +kernel), List.mem_of_getElem? (i := 438) (by decide +kernel), List.mem_of_getElem? (i := 439) (by decide +kernel)⟩
theorem lw_p14 : lw_okq (⟨"AreaCrossings$Stretches", "addCut", "(JJ)V"⟩, 10) := ⟨⟨by decide +kernel, by decide +kernel⟩, List.mem_of_getElem? (i := 111) (by decide +kernel), List.mem_of_getElem? (i := 444) (by decide +kernel), List.mem_of_getElem? (i := 445) (by decide +kernel)⟩
theorem lw_p15 : lw_okq (⟨"AreaCrossings$Stretches", "cutAtSide", "(LAreaCrossings$Ring;I)V"⟩, 10) := ⟨⟨by decide +kernel, by decide +kernel⟩, List.mem_of_getElem? (i := 111) (by decide +kernel), List.mem_of_getElem? (i := 460) (by decide +kernel), List.mem_of_getElem? (i := 461) (by decide +kernel)⟩
def lw_privs_1 : List (MethodName × Nat) := [(⟨"AreaCrossings", "isArea", "(I)Z"⟩, 7), (⟨"AreaCrossings$Area", "beingMade", "()LAreaCrossings$Ring;"⟩, 4), (⟨"AreaCrossings$Ring", "foldsBackAt", "(III)Z"⟩, 3), (⟨"AreaCrossings$Ring", "sidesMeet", "(ILAreaCrossings$Ring;I)Z"⟩, 3), (⟨"AreaCrossings$Ring", "turn", "(IJJJ)J"⟩, 3), (⟨"AreaCrossings$Ring", "spans", "(IJJJ)Z"⟩, 3), (⟨"AreaCrossings$Area", "fitsAsHole", "(LAreaCrossings$Ring;)Z"⟩, 4), (⟨"AreaCrossings", "firstUntouchedArea", "()I"⟩, 7), (⟨"AreaCrossings", "isTrack", "(I)Z"⟩, 7), (⟨"AreaCrossings", "counts", "(IILAreaCrossings$Track;I)Z"⟩, 7), (⟨"AreaCrossings", "isThere", "(I)Z"⟩, 7), (⟨"AreaCrossings$Rules", "applies", "(IIJ)Z"⟩, 5), (⟨"AreaCrossings", "noteCrossings", "(IILAreaCrossings$Track;I)Z"⟩, 7), (⟨"AreaCrossings$Stretches", "cutPiece", "(LAreaCrossings$Area;LAreaCrossings$Track;I)V"⟩, 10), (⟨"AreaCrossings$Stretches", "addCut", "(JJ)V"⟩, 10), (⟨"AreaCrossings$Stretches", "cutAtSide", "(LAreaCrossings$Ring;I)V"⟩, 10)]
theorem lw_r1 : ∀ q ∈ lw_privs_1, lw_okq q := List.forall_mem_cons.mpr ⟨lw_p0, List.forall_mem_cons.mpr ⟨lw_p1, List.forall_mem_cons.mpr ⟨lw_p2, List.forall_mem_cons.mpr ⟨lw_p3, List.forall_mem_cons.mpr ⟨lw_p4, List.forall_mem_cons.mpr ⟨lw_p5, List.forall_mem_cons.mpr ⟨lw_p6, List.forall_mem_cons.mpr ⟨lw_p7, List.forall_mem_cons.mpr ⟨lw_p8, List.forall_mem_cons.mpr ⟨lw_p9, List.forall_mem_cons.mpr ⟨lw_p10, List.forall_mem_cons.mpr ⟨lw_p11, List.forall_mem_cons.mpr ⟨lw_p12, List.forall_mem_cons.mpr ⟨lw_p13, List.forall_mem_cons.mpr ⟨lw_p14, List.forall_mem_cons.mpr ⟨lw_p15, fun _ h => absurd h List.not_mem_nil⟩⟩⟩⟩⟩⟩⟩⟩⟩⟩⟩⟩⟩⟩⟩⟩
theorem lw_p16 : lw_okq (⟨"AreaCrossings$Stretches", "isIn", "(LAreaCrossings$Area;JJ)Z"⟩, 10) := ⟨⟨by decide +kernel, by decide +kernel⟩, List.mem_of_getElem? (i := 111) (by decide +kernel), List.mem_of_getElem? (i := 468) (by decide +kernel), List.mem_of_getElem? (i := 469) (by decide +kernel)⟩
theorem lw_p17 : lw_okq (⟨"AreaCrossings$Stretches", "middleOver", "(I)J"⟩, 10) := ⟨⟨by decide +kernel, by decide +kernel⟩, List.mem_of_getElem? (i := 111) (by decide +kernel), List.mem_of_getElem? (i := 473) (by decide +kernel), List.mem_of_getElem? (i := 474) (by decide +kernel)⟩
theorem lw_p18 : lw_okq (⟨"AreaCrossings$Stretches", "middleUnder", "(I)J"⟩, 10) := ⟨⟨by decide +kernel, by decide +kernel⟩, List.mem_of_getElem? (i := 111) (by decide +kernel), List.mem_of_getElem? (i := 477) (by decide +kernel), List.mem_of_getElem? (i := 478) (by decide +kernel)⟩
theorem lw_p19 : lw_okq (⟨"AreaCrossings", "thousandthsIn", "(LAreaCrossings$Area;LAreaCrossings$Track;I)J"⟩, 7) := ⟨⟨by decide +kernel, by decide +kernel⟩, List.mem_of_getElem? (i := 16) (by decide +kernel), List.mem_of_getElem? (i := 558) (by decide +kernel), List.mem_of_getElem? (i := 559) (by decide +kernel)⟩
theorem lw_p20 : lw_okq (⟨"AreaCrossings$Ring", "reaches", "([IJJ)Z"⟩, 3) := ⟨⟨by decide +kernel, by decide +kernel⟩, List.mem_of_getElem? (i := 38) (by decide +kernel), List.mem_of_getElem? (i := 601) (by decide +kernel), List.mem_of_getElem? (i := 602) (by decide +kernel)⟩
theorem lw_p21 : lw_okq (⟨"AreaCrossings$Ring", "isSideNear", "(IJJJ)Z"⟩, 3) := ⟨⟨by decide +kernel, by decide +kernel⟩, List.mem_of_getElem? (i := 38) (by decide +kernel), List.mem_of_getElem? (i := 626) (by decide +kernel), List.mem_of_getElem? (i := 627) (by decide +kernel)⟩
theorem lw_p22 : lw_okq (⟨"java/lang/Throwable", "fillInStackTrace", "(I)Ljava/lang/Throwable;"⟩, 6) := ⟨⟨by decide +kernel, by decide +kernel⟩, List.mem_of_getElem? (i := 704) (by decide +kernel), List.mem_of_getElem? (i := 702) (by decide +kernel), List.mem_of_getElem? (i := 703) (by decide +kernel)⟩
theorem lw_p23 : lw_okq (⟨"AreaCrossingsModel", "isArea", "(I)Z"⟩, 28) := ⟨⟨by decide +kernel, by decide +kernel⟩, List.mem_of_getElem? (i := 736) (by decide +kernel), List.mem_of_getElem? (i := 835) (by decide +kernel), List.mem_of_getElem? (i := 836) (by decide +kernel)⟩
theorem lw_p24 : lw_okq (⟨"AreaCrossingsModel", "isSimple", "(I)Z"⟩, 28) := ⟨⟨by decide +kernel, by decide +kernel⟩, List.mem_of_getElem? (i := 736) (by decide +kernel), List.mem_of_getElem? (i := 848) (by decide +kernel), List.mem_of_getElem? (i := 849) (by decide +kernel)⟩
theorem lw_p25 : lw_okq (⟨"AreaCrossingsModel", "at", "(II)I"⟩, 28) := ⟨⟨by decide +kernel, by decide +kernel⟩, List.mem_of_getElem? (i := 736) (by decide +kernel), List.mem_of_getElem? (i := 852) (by decide +kernel), List.mem_of_getElem? (i := 853) (by decide +kernel)⟩
theorem lw_p26 : lw_okq (⟨"AreaCrossingsModel", "doFold", "(III)Z"⟩, 28) := ⟨⟨by decide +kernel, by decide +kernel⟩, List.mem_of_getElem? (i := 736) (by decide +kernel), List.mem_of_getElem? (i := 856) (by decide +kernel), List.mem_of_getElem? (i := 857) (by decide +kernel)⟩
theorem lw_p27 : lw_okq (⟨"AreaCrossingsModel", "doMeet", "(IIII)Z"⟩, 28) := ⟨⟨by decide +kernel, by decide +kernel⟩, List.mem_of_getElem? (i := 736) (by decide +kernel), List.mem_of_getElem? (i := 860) (by decide +kernel), List.mem_of_getElem? (i := 861) (by decide +kernel)⟩
theorem lw_p28 : lw_okq (⟨"AreaCrossingsModel", "ringsMeet", "(II)Z"⟩, 28) := ⟨⟨by decide +kernel, by decide +kernel⟩, List.mem_of_getElem? (i := 736) (by decide +kernel), List.mem_of_getElem? (i := 879) (by decide +kernel), List.mem_of_getElem? (i := 880) (by decide +kernel)⟩
theorem lw_p29 : lw_okq (⟨"AreaCrossingsModel", "has", "(IJJJ)Z"⟩, 28) := ⟨⟨by decide +kernel, by decide +kernel⟩, List.mem_of_getElem? (i := 736) (by decide +kernel), List.mem_of_getElem? (i := 883) (by decide +kernel), List.mem_of_getElem? (i := 884) (by decide +kernel)⟩
theorem lw_p30 : lw_okq (⟨"AreaCrossingsModel", "where", "(IJJJ)I"⟩, 28) := ⟨⟨by decide +kernel, by decide +kernel⟩, List.mem_of_getElem? (i := 736) (by decide +kernel), List.mem_of_getElem? (i := 887) (by decide +kernel), List.mem_of_getElem? (i := 888) (by decide +kernel)⟩
theorem lw_p31 : lw_okq (⟨"AreaCrossingsModel", "isThere", "(I)Z"⟩, 28) := ⟨⟨by decide +kernel, by decide +kernel⟩, List.mem_of_getElem? (i := 736) (by decide +kernel), List.mem_of_getElem? (i := 895) (by decide +kernel), List.mem_of_getElem? (i := 896) (by decide +kernel)⟩
def lw_privs_2 : List (MethodName × Nat) := [(⟨"AreaCrossings$Stretches", "isIn", "(LAreaCrossings$Area;JJ)Z"⟩, 10), (⟨"AreaCrossings$Stretches", "middleOver", "(I)J"⟩, 10), (⟨"AreaCrossings$Stretches", "middleUnder", "(I)J"⟩, 10), (⟨"AreaCrossings", "thousandthsIn", "(LAreaCrossings$Area;LAreaCrossings$Track;I)J"⟩, 7), (⟨"AreaCrossings$Ring", "reaches", "([IJJ)Z"⟩, 3), (⟨"AreaCrossings$Ring", "isSideNear", "(IJJJ)Z"⟩, 3), (⟨"java/lang/Throwable", "fillInStackTrace", "(I)Ljava/lang/Throwable;"⟩, 6), (⟨"AreaCrossingsModel", "isArea", "(I)Z"⟩, 28), (⟨"AreaCrossingsModel", "isSimple", "(I)Z"⟩, 28), (⟨"AreaCrossingsModel", "at", "(II)I"⟩, 28), (⟨"AreaCrossingsModel", "doFold", "(III)Z"⟩, 28), (⟨"AreaCrossingsModel", "doMeet", "(IIII)Z"⟩, 28), (⟨"AreaCrossingsModel", "ringsMeet", "(II)Z"⟩, 28), (⟨"AreaCrossingsModel", "has", "(IJJJ)Z"⟩, 28), (⟨"AreaCrossingsModel", "where", "(IJJJ)I"⟩, 28), (⟨"AreaCrossingsModel", "isThere", "(I)Z"⟩, 28)]
theorem lw_r2 : ∀ q ∈ lw_privs_2, lw_okq q := List.forall_mem_cons.mpr ⟨lw_p16, List.forall_mem_cons.mpr ⟨lw_p17, List.forall_mem_cons.mpr ⟨lw_p18, List.forall_mem_cons.mpr ⟨lw_p19, List.forall_mem_cons.mpr ⟨lw_p20, List.forall_mem_cons.mpr ⟨lw_p21, List.forall_mem_cons.mpr ⟨lw_p22, List.forall_mem_cons.mpr ⟨lw_p23, List.forall_mem_cons.mpr ⟨lw_p24, List.forall_mem_cons.mpr ⟨lw_p25, List.forall_mem_cons.mpr ⟨lw_p26, List.forall_mem_cons.mpr ⟨lw_p27, List.forall_mem_cons.mpr ⟨lw_p28, List.forall_mem_cons.mpr ⟨lw_p29, List.forall_mem_cons.mpr ⟨lw_p30, List.forall_mem_cons.mpr ⟨lw_p31, fun _ h => absurd h List.not_mem_nil⟩⟩⟩⟩⟩⟩⟩⟩⟩⟩⟩⟩⟩⟩⟩⟩
theorem lw_p32 : lw_okq (⟨"AreaCrossingsModel", "rule", "(IIII)V"⟩, 28) := ⟨⟨by decide +kernel, by decide +kernel⟩, List.mem_of_getElem? (i := 736) (by decide +kernel), List.mem_of_getElem? (i := 905) (by decide +kernel), List.mem_of_getElem? (i := 906) (by decide +kernel)⟩
theorem lw_p33 : lw_okq (⟨"AreaCrossingsModel", "isBarred", "(IIJ)Z"⟩, 28) := ⟨⟨by decide +kernel, by decide +kernel⟩, List.mem_of_getElem? (i := 736) (by decide +kernel), List.mem_of_getElem? (i := 924) (by decide +kernel), List.mem_of_getElem? (i := 925) (by decide +kernel)⟩
theorem lw_p34 : lw_okq (⟨"AreaCrossingsModel", "isTrack", "(I)Z"⟩, 28) := ⟨⟨by decide +kernel, by decide +kernel⟩, List.mem_of_getElem? (i := 736) (by decide +kernel), List.mem_of_getElem? (i := 936) (by decide +kernel), List.mem_of_getElem? (i := 937) (by decide +kernel)⟩
theorem lw_p35 : lw_okq (⟨"AreaCrossingsModel", "counts", "(III)Z"⟩, 28) := ⟨⟨by decide +kernel, by decide +kernel⟩, List.mem_of_getElem? (i := 736) (by decide +kernel), List.mem_of_getElem? (i := 945) (by decide +kernel), List.mem_of_getElem? (i := 946) (by decide +kernel)⟩
theorem lw_p36 : lw_okq (⟨"AreaCrossingsModel", "isGap", "(I)Z"⟩, 28) := ⟨⟨by decide +kernel, by decide +kernel⟩, List.mem_of_getElem? (i := 736) (by decide +kernel), List.mem_of_getElem? (i := 949) (by decide +kernel), List.mem_of_getElem? (i := 950) (by decide +kernel)⟩
theorem lw_p37 : lw_okq (⟨"AreaCrossingsModel", "lasts", "(I)J"⟩, 28) := ⟨⟨by decide +kernel, by decide +kernel⟩, List.mem_of_getElem? (i := 736) (by decide +kernel), List.mem_of_getElem? (i := 953) (by decide +kernel), List.mem_of_getElem? (i := 954) (by decide +kernel)⟩
theorem lw_p38 : lw_okq (⟨"AreaCrossingsModel", "runPiece", "(IIII)V"⟩, 28) := ⟨⟨by decide +kernel, by decide +kernel⟩, List.mem_of_getElem? (i := 736) (by decide +kernel), List.mem_of_getElem? (i := 959) (by decide +kernel), List.mem_of_getElem? (i := 960) (by decide +kernel)⟩
theorem lw_p39 : lw_okq (⟨"AreaCrossingsModel", "stretch", "(II)V"⟩, 28) := ⟨⟨by decide +kernel, by decide +kernel⟩, List.mem_of_getElem? (i := 736) (by decide +kernel), List.mem_of_getElem? (i := 963) (by decide +kernel), List.mem_of_getElem? (i := 964) (by decide +kernel)⟩
theorem lw_p40 : lw_okq (⟨"AreaCrossingsModel", "cut", "(JJ)V"⟩, 28) := ⟨⟨by decide +kernel, by decide +kernel⟩, List.mem_of_getElem? (i := 736) (by decide +kernel), List.mem_of_getElem? (i := 967) (by decide +kernel), List.mem_of_getElem? (i := 968) (by decide +kernel)⟩
theorem lw_p41 : lw_okq (⟨"AreaCrossingsModel", "cutAt", "(III)V"⟩, 28) := ⟨⟨by decide +kernel, by decide +kernel⟩, List.mem_of_getElem? (i := 736) (by decide +kernel), List.mem_of_getElem? (i := 974) (by decide +kernel), List.mem_of_getElem? (i := 975) (by decide +kernel)⟩
theorem lw_p42 : lw_okq (⟨"AreaCrossingsModel", "hasAt", "(IIJJ)Z"⟩, 28) := ⟨⟨by decide +kernel, by decide +kernel⟩, List.mem_of_getElem? (i := 736) (by decide +kernel), List.mem_of_getElem? (i := 978) (by decide +kernel), List.mem_of_getElem? (i := 979) (by decide +kernel)⟩
theorem lw_p43 : lw_okq (⟨"AreaCrossingsModel", "add", "(IIII)V"⟩, 28) := ⟨⟨by decide +kernel, by decide +kernel⟩, List.mem_of_getElem? (i := 736) (by decide +kernel), List.mem_of_getElem? (i := 983) (by decide +kernel), List.mem_of_getElem? (i := 984) (by decide +kernel)⟩
theorem lw_p44 : lw_okq (⟨"AreaCrossingsModel", "within", "(II)J"⟩, 28) := ⟨⟨by decide +kernel, by decide +kernel⟩, List.mem_of_getElem? (i := 736) (by decide +kernel), List.mem_of_getElem? (i := 1002) (by decide +kernel), List.mem_of_getElem? (i := 1003) (by decide +kernel)⟩
theorem lw_p45 : lw_okq (⟨"AreaCrossingsModel", "isByArea", "(IJJJ)Z"⟩, 28) := ⟨⟨by decide +kernel, by decide +kernel⟩, List.mem_of_getElem? (i := 736) (by decide +kernel), List.mem_of_getElem? (i := 1016) (by decide +kernel), List.mem_of_getElem? (i := 1017) (by decide +kernel)⟩
theorem lw_p46 : lw_okq (⟨"AreaCrossingsModel", "isNear", "(IIJJJ)Z"⟩, 28) := ⟨⟨by decide +kernel, by decide +kernel⟩, List.mem_of_getElem? (i := 736) (by decide +kernel), List.mem_of_getElem? (i := 1020) (by decide +kernel), List.mem_of_getElem? (i := 1021) (by decide +kernel)⟩
def lw_privs_3 : List (MethodName × Nat) := [(⟨"AreaCrossingsModel", "rule", "(IIII)V"⟩, 28), (⟨"AreaCrossingsModel", "isBarred", "(IIJ)Z"⟩, 28), (⟨"AreaCrossingsModel", "isTrack", "(I)Z"⟩, 28), (⟨"AreaCrossingsModel", "counts", "(III)Z"⟩, 28), (⟨"AreaCrossingsModel", "isGap", "(I)Z"⟩, 28), (⟨"AreaCrossingsModel", "lasts", "(I)J"⟩, 28), (⟨"AreaCrossingsModel", "runPiece", "(IIII)V"⟩, 28), (⟨"AreaCrossingsModel", "stretch", "(II)V"⟩, 28), (⟨"AreaCrossingsModel", "cut", "(JJ)V"⟩, 28), (⟨"AreaCrossingsModel", "cutAt", "(III)V"⟩, 28), (⟨"AreaCrossingsModel", "hasAt", "(IIJJ)Z"⟩, 28), (⟨"AreaCrossingsModel", "add", "(IIII)V"⟩, 28), (⟨"AreaCrossingsModel", "within", "(II)J"⟩, 28), (⟨"AreaCrossingsModel", "isByArea", "(IJJJ)Z"⟩, 28), (⟨"AreaCrossingsModel", "isNear", "(IIJJJ)Z"⟩, 28)]
theorem lw_r3 : ∀ q ∈ lw_privs_3, lw_okq q := List.forall_mem_cons.mpr ⟨lw_p32, List.forall_mem_cons.mpr ⟨lw_p33, List.forall_mem_cons.mpr ⟨lw_p34, List.forall_mem_cons.mpr ⟨lw_p35, List.forall_mem_cons.mpr ⟨lw_p36, List.forall_mem_cons.mpr ⟨lw_p37, List.forall_mem_cons.mpr ⟨lw_p38, List.forall_mem_cons.mpr ⟨lw_p39, List.forall_mem_cons.mpr ⟨lw_p40, List.forall_mem_cons.mpr ⟨lw_p41, List.forall_mem_cons.mpr ⟨lw_p42, List.forall_mem_cons.mpr ⟨lw_p43, List.forall_mem_cons.mpr ⟨lw_p44, List.forall_mem_cons.mpr ⟨lw_p45, List.forall_mem_cons.mpr ⟨lw_p46, fun _ h => absurd h List.not_mem_nil⟩⟩⟩⟩⟩⟩⟩⟩⟩⟩⟩⟩⟩⟩⟩
def lw_privs : List (MethodName × Nat) := lw_privs_1 ++ (lw_privs_2 ++ (lw_privs_3))
def lw_tbl : List Cond := k2_sels lw_privs ++ tables_1
theorem lw_privs_ok : ∀ q ∈ lw_privs, lw_okq q := by
  show ∀ q ∈ lw_privs_1 ++ (lw_privs_2 ++ (lw_privs_3)), lw_okq q
  exact List.forall_mem_append.mpr ⟨lw_r1, List.forall_mem_append.mpr ⟨lw_r2, lw_r3⟩⟩
-- ===== end of PART A; then your names; then what follows =====
/-! ===== BEGIN words of one list among another's, by their places ===== -/
theorem goodIn_r {big : List Cond} (ws : List Cond) (ps : List Nat) (hp : ws = ps.filterMap (fun i => big[i]?)) (h : ws.all goodWord = true) : GoodIn big ws := by
  intro w hw
  have h1 := List.all_eq_true.mp h w hw
  rw [hp] at hw
  obtain ⟨i, -, hi⟩ := List.mem_filterMap.mp hw
  have hm : w ∈ big := by first | exact List.mem_of_getElem? hi | exact List.getElem?_mem hi
  exact ⟨hm, good_of_word h1⟩
theorem goodIn_app {big a b : List Cond} (ha : GoodIn big a) (hb : GoodIn big b) : GoodIn big (a ++ b) := fun w h => (List.mem_append.mp h).elim (ha w) (hb w)
theorem goodIn_ca {big a b : List Cond} {c : Cond} (ha : GoodIn big (c :: a)) (hb : GoodIn big b) : GoodIn big (c :: (a ++ b)) := fun w h => (List.mem_cons.mp h).elim (fun e => ha w (List.mem_cons.mpr (Or.inl e))) (fun h => (List.mem_append.mp h).elim (fun h => ha w (List.mem_cons.mpr (Or.inr h))) (hb w))
theorem goodIn_sub {big ws : List Cond} (hm : ∀ w ∈ ws, w ∈ big) (h : ws.all goodWord = true) : GoodIn big ws := fun w hw => ⟨hm w hw, good_of_word (List.all_eq_true.mp h w hw)⟩
/-! ===== END ===== -/

/-! ===== BEGIN printed: names, fields, word lists, decode rows ===== -/
def RX0 : String := "AreaCrossings$Area"
def TX0 : u_T := fun k => match k with
  | 0 => ("AreaCrossings$Area", "rings", "[LAreaCrossings$Ring;", true)
  | 1 => ("AreaCrossings$Area", "closed", "I", false)
  | 2 => ("AreaCrossings$Area", "making", "Z", false)
  | _ => ("AreaCrossings$Area", "fastFrom", "J", false)
def tyX0 : Nat → FieldType := fun k => match k with
  | 0 => .array (.object "AreaCrossings$Ring")
  | 1 => .int
  | 2 => .boolean
  | _ => .long
abbrev wsX00 : List Cond := u_ws RX0 TX0 4
theorem nmX0 : ∀ a, a < 4 → ∀ b, b < 4 → a ≠ b → (TX0 a).2.1 ≠ (TX0 b).2.1 := by decide +kernel
theorem tyX0_ok : ∀ k, k < 4 → parseFieldDescriptor (TX0 k).2.2.1 = some (tyX0 k) := by decide +kernel
abbrev cX0_init : ByteArray := prog_2_method_1_code
def yX0_init : MethodName := ⟨RX0, "<init>", "()V"⟩
abbrev cX0_isThere : ByteArray := prog_2_method_2_code
def yX0_isThere : MethodName := ⟨RX0, "isThere", "()Z"⟩
abbrev cX0_isUntouched : ByteArray := prog_2_method_3_code
def yX0_isUntouched : MethodName := ⟨RX0, "isUntouched", "()Z"⟩
abbrev cX0_outer : ByteArray := prog_2_method_4_code
def yX0_outer : MethodName := ⟨RX0, "outer", "()LAreaCrossings$Ring;"⟩
abbrev cX0_closedRings : ByteArray := prog_2_method_5_code
def yX0_closedRings : MethodName := ⟨RX0, "closedRings", "()I"⟩
abbrev cX0_ringOf : ByteArray := prog_2_method_6_code
def yX0_ringOf : MethodName := ⟨RX0, "ringOf", "(I)LAreaCrossings$Ring;"⟩
abbrev cX0_fastFrom : ByteArray := prog_2_method_7_code
def yX0_fastFrom : MethodName := ⟨RX0, "fastFrom", "()J"⟩
abbrev cX0_setFastFrom : ByteArray := prog_2_method_8_code
def yX0_setFastFrom : MethodName := ⟨RX0, "setFastFrom", "(J)V"⟩
abbrev cX0_addCorner : ByteArray := prog_2_method_9_code
def yX0_addCorner : MethodName := ⟨RX0, "addCorner", "(II)Z"⟩
abbrev cX0_beingMade : ByteArray := prog_2_method_10_code
def yX0_beingMade : MethodName := ⟨RX0, "beingMade", "()LAreaCrossings$Ring;"⟩
abbrev cX0_beginHole : ByteArray := prog_2_method_11_code
def yX0_beginHole : MethodName := ⟨RX0, "beginHole", "()Z"⟩
abbrev cX0_closeRing : ByteArray := prog_2_method_12_code
def yX0_closeRing : MethodName := ⟨RX0, "closeRing", "()Z"⟩
abbrev cX0_fitsAsHole : ByteArray := prog_2_method_13_code
def yX0_fitsAsHole : MethodName := ⟨RX0, "fitsAsHole", "(LAreaCrossings$Ring;)Z"⟩
abbrev cX0_becomeSquare : ByteArray := prog_2_method_14_code
def yX0_becomeSquare : MethodName := ⟨RX0, "becomeSquare", "(III)V"⟩
abbrev cX0_contains : ByteArray := prog_2_method_15_code
def yX0_contains : MethodName := ⟨RX0, "contains", "(JJJ)Z"⟩
abbrev cX0_isInOrNear : ByteArray := prog_2_method_16_code
def yX0_isInOrNear : MethodName := ⟨RX0, "isInOrNear", "(JJJ)Z"⟩
def RX1 : String := "AreaCrossings$Crossings"
def TX1 : u_T := fun k => match k with
  | 0 => ("AreaCrossings$Crossings", "pieces", "[I", true)
  | 1 => ("AreaCrossings$Crossings", "areas", "[I", true)
  | 2 => ("AreaCrossings$Crossings", "entering", "[Z", true)
  | 3 => ("AreaCrossings$Crossings", "overs", "[J", true)
  | 4 => ("AreaCrossings$Crossings", "unders", "[J", true)
  | _ => ("AreaCrossings$Crossings", "size", "I", false)
def tyX1 : Nat → FieldType := fun k => match k with
  | 0 => .array .int
  | 1 => .array .int
  | 2 => .array .boolean
  | 3 => .array .long
  | 4 => .array .long
  | _ => .int
abbrev wsX10 : List Cond := u_ws RX1 TX1 6
theorem nmX1 : ∀ a, a < 6 → ∀ b, b < 6 → a ≠ b → (TX1 a).2.1 ≠ (TX1 b).2.1 := by decide +kernel
theorem tyX1_ok : ∀ k, k < 6 → parseFieldDescriptor (TX1 k).2.2.1 = some (tyX1 k) := by decide +kernel
abbrev cX1_init : ByteArray := prog_3_method_1_code
def yX1_init : MethodName := ⟨RX1, "<init>", "()V"⟩
abbrev cX1_clear : ByteArray := prog_3_method_2_code
def yX1_clear : MethodName := ⟨RX1, "clear", "()V"⟩
abbrev cX1_size : ByteArray := prog_3_method_3_code
def yX1_size : MethodName := ⟨RX1, "size", "()I"⟩
abbrev cX1_has : ByteArray := prog_3_method_4_code
def yX1_has : MethodName := ⟨RX1, "has", "(I)Z"⟩
abbrev cX1_add : ByteArray := prog_3_method_5_code
def yX1_add : MethodName := ⟨RX1, "add", "(IIZJJ)Z"⟩
abbrev cX1_pieceOf : ByteArray := prog_3_method_6_code
def yX1_pieceOf : MethodName := ⟨RX1, "pieceOf", "(I)I"⟩
abbrev cX1_areaOf : ByteArray := prog_3_method_7_code
def yX1_areaOf : MethodName := ⟨RX1, "areaOf", "(I)I"⟩
abbrev cX1_isEntering : ByteArray := prog_3_method_8_code
def yX1_isEntering : MethodName := ⟨RX1, "isEntering", "(I)Z"⟩
abbrev cX1_overOf : ByteArray := prog_3_method_9_code
def yX1_overOf : MethodName := ⟨RX1, "overOf", "(I)J"⟩
abbrev cX1_underOf : ByteArray := prog_3_method_10_code
def yX1_underOf : MethodName := ⟨RX1, "underOf", "(I)J"⟩
def RX2 : String := "AreaCrossings$Ring"
def TX2 : u_T := fun k => match k with
  | 0 => ("AreaCrossings$Ring", "xs", "[I", true)
  | 1 => ("AreaCrossings$Ring", "ys", "[I", true)
  | _ => ("AreaCrossings$Ring", "size", "I", false)
def tyX2 : Nat → FieldType := fun k => match k with
  | 0 => .array .int
  | 1 => .array .int
  | _ => .int
abbrev wsX20 : List Cond := u_ws RX2 TX2 3
theorem nmX2 : ∀ a, a < 3 → ∀ b, b < 3 → a ≠ b → (TX2 a).2.1 ≠ (TX2 b).2.1 := by decide +kernel
theorem tyX2_ok : ∀ k, k < 3 → parseFieldDescriptor (TX2 k).2.2.1 = some (tyX2 k) := by decide +kernel
abbrev cX2_init : ByteArray := prog_4_method_1_code
def yX2_init : MethodName := ⟨RX2, "<init>", "()V"⟩
abbrev cX2_size : ByteArray := prog_4_method_2_code
def yX2_size : MethodName := ⟨RX2, "size", "()I"⟩
abbrev cX2_clear : ByteArray := prog_4_method_3_code
def yX2_clear : MethodName := ⟨RX2, "clear", "()V"⟩
abbrev cX2_add : ByteArray := prog_4_method_4_code
def yX2_add : MethodName := ⟨RX2, "add", "(II)Z"⟩
abbrev cX2_xOf : ByteArray := prog_4_method_5_code
def yX2_xOf : MethodName := ⟨RX2, "xOf", "(I)I"⟩
abbrev cX2_yOf : ByteArray := prog_4_method_6_code
def yX2_yOf : MethodName := ⟨RX2, "yOf", "(I)I"⟩
abbrev cX2_next : ByteArray := prog_4_method_7_code
def yX2_next : MethodName := ⟨RX2, "next", "(I)I"⟩
abbrev cX2_isSimple : ByteArray := prog_4_method_8_code
def yX2_isSimple : MethodName := ⟨RX2, "isSimple", "()Z"⟩
abbrev cX2_foldsBackAt : ByteArray := prog_4_method_9_code
def yX2_foldsBackAt : MethodName := ⟨RX2, "foldsBackAt", "(III)Z"⟩
abbrev cX2_meets : ByteArray := prog_4_method_10_code
def yX2_meets : MethodName := ⟨RX2, "meets", "(LAreaCrossings$Ring;)Z"⟩
abbrev cX2_sidesMeet : ByteArray := prog_4_method_11_code
def yX2_sidesMeet : MethodName := ⟨RX2, "sidesMeet", "(ILAreaCrossings$Ring;I)Z"⟩
abbrev cX2_areOpposite : ByteArray := prog_4_method_12_code
def yX2_areOpposite : MethodName := ⟨RX2, "areOpposite", "(JJ)Z"⟩
abbrev cX2_turn : ByteArray := prog_4_method_13_code
def yX2_turn : MethodName := ⟨RX2, "turn", "(IJJJ)J"⟩
abbrev cX2_spans : ByteArray := prog_4_method_14_code
def yX2_spans : MethodName := ⟨RX2, "spans", "(IJJJ)Z"⟩
abbrev cX2_locate : ByteArray := prog_4_method_15_code
def yX2_locate : MethodName := ⟨RX2, "locate", "(JJJ)I"⟩
abbrev cX2_holdsFirstCornerOf : ByteArray := prog_4_method_16_code
def yX2_holdsFirstCornerOf : MethodName := ⟨RX2, "holdsFirstCornerOf", "(LAreaCrossings$Ring;)Z"⟩
abbrev cX2_isNear : ByteArray := prog_4_method_17_code
def yX2_isNear : MethodName := ⟨RX2, "isNear", "(JJJ)Z"⟩
abbrev cX2_isSideNear : ByteArray := prog_4_method_18_code
def yX2_isSideNear : MethodName := ⟨RX2, "isSideNear", "(IJJJ)Z"⟩
abbrev cX2_reachesX : ByteArray := prog_4_method_19_code
def yX2_reachesX : MethodName := ⟨RX2, "reachesX", "(JJ)Z"⟩
abbrev cX2_reachesY : ByteArray := prog_4_method_20_code
def yX2_reachesY : MethodName := ⟨RX2, "reachesY", "(JJ)Z"⟩
abbrev cX2_reaches : ByteArray := prog_4_method_21_code
def yX2_reaches : MethodName := ⟨RX2, "reaches", "([IJJ)Z"⟩
def RX3 : String := "AreaCrossings$Rules"
def TX3 : u_T := fun k => match k with
  | 0 => ("AreaCrossings$Rules", "areaOf", "[I", true)
  | 1 => ("AreaCrossings$Rules", "gearOf", "[I", true)
  | 2 => ("AreaCrossings$Rules", "firstDayOf", "[I", true)
  | 3 => ("AreaCrossings$Rules", "lastDayOf", "[I", true)
  | _ => ("AreaCrossings$Rules", "size", "I", false)
def tyX3 : Nat → FieldType := fun k => match k with
  | 0 => .array .int
  | 1 => .array .int
  | 2 => .array .int
  | 3 => .array .int
  | _ => .int
abbrev wsX30 : List Cond := u_ws RX3 TX3 5
theorem nmX3 : ∀ a, a < 5 → ∀ b, b < 5 → a ≠ b → (TX3 a).2.1 ≠ (TX3 b).2.1 := by decide +kernel
theorem tyX3_ok : ∀ k, k < 5 → parseFieldDescriptor (TX3 k).2.2.1 = some (tyX3 k) := by decide +kernel
abbrev cX3_init : ByteArray := prog_5_method_1_code
def yX3_init : MethodName := ⟨RX3, "<init>", "()V"⟩
abbrev cX3_room : ByteArray := prog_5_method_2_code
def yX3_room : MethodName := ⟨RX3, "room", "()I"⟩
abbrev cX3_add : ByteArray := prog_5_method_3_code
def yX3_add : MethodName := ⟨RX3, "add", "(IIII)Z"⟩
abbrev cX3_bar : ByteArray := prog_5_method_4_code
def yX3_bar : MethodName := ⟨RX3, "bar", "(IIJ)Z"⟩
abbrev cX3_barAny : ByteArray := prog_5_method_5_code
def yX3_barAny : MethodName := ⟨RX3, "barAny", "(IJ)Z"⟩
abbrev cX3_applies : ByteArray := prog_5_method_6_code
def yX3_applies : MethodName := ⟨RX3, "applies", "(IIJ)Z"⟩
def RX4 : String := "AreaCrossings$Stretches"
def TX4 : u_T := fun k => match k with
  | 0 => ("AreaCrossings$Stretches", "overs", "[J", true)
  | 1 => ("AreaCrossings$Stretches", "unders", "[J", true)
  | 2 => ("AreaCrossings$Stretches", "cuts", "I", false)
  | 3 => ("AreaCrossings$Stretches", "begins", "[I", true)
  | 4 => ("AreaCrossings$Stretches", "ends", "[I", true)
  | 5 => ("AreaCrossings$Stretches", "size", "I", false)
  | 6 => ("AreaCrossings$Stretches", "fromX", "J", false)
  | 7 => ("AreaCrossings$Stretches", "fromY", "J", false)
  | 8 => ("AreaCrossings$Stretches", "alongX", "J", false)
  | _ => ("AreaCrossings$Stretches", "alongY", "J", false)
def tyX4 : Nat → FieldType := fun k => match k with
  | 0 => .array .long
  | 1 => .array .long
  | 2 => .int
  | 3 => .array .int
  | 4 => .array .int
  | 5 => .int
  | 6 => .long
  | 7 => .long
  | 8 => .long
  | _ => .long
abbrev wsX40 : List Cond := u_ws RX4 TX4 10
theorem nmX4 : ∀ a, a < 10 → ∀ b, b < 10 → a ≠ b → (TX4 a).2.1 ≠ (TX4 b).2.1 := by decide +kernel
theorem tyX4_ok : ∀ k, k < 10 → parseFieldDescriptor (TX4 k).2.2.1 = some (tyX4 k) := by decide +kernel
abbrev cX4_init : ByteArray := prog_6_method_1_code
def yX4_init : MethodName := ⟨RX4, "<init>", "()V"⟩
abbrev cX4_find : ByteArray := prog_6_method_2_code
def yX4_find : MethodName := ⟨RX4, "find", "(LAreaCrossings$Area;LAreaCrossings$Track;I)V"⟩
abbrev cX4_cutPiece : ByteArray := prog_6_method_3_code
def yX4_cutPiece : MethodName := ⟨RX4, "cutPiece", "(LAreaCrossings$Area;LAreaCrossings$Track;I)V"⟩
abbrev cX4_cutAtSide : ByteArray := prog_6_method_4_code
def yX4_cutAtSide : MethodName := ⟨RX4, "cutAtSide", "(LAreaCrossings$Ring;I)V"⟩
abbrev cX4_isShare : ByteArray := prog_6_method_5_code
def yX4_isShare : MethodName := ⟨RX4, "isShare", "(JJ)Z"⟩
abbrev cX4_addCut : ByteArray := prog_6_method_6_code
def yX4_addCut : MethodName := ⟨RX4, "addCut", "(JJ)V"⟩
abbrev cX4_greatestDivisor : ByteArray := prog_6_method_7_code
def yX4_greatestDivisor : MethodName := ⟨RX4, "greatestDivisor", "(JJ)J"⟩
abbrev cX4_middleOver : ByteArray := prog_6_method_8_code
def yX4_middleOver : MethodName := ⟨RX4, "middleOver", "(I)J"⟩
abbrev cX4_middleUnder : ByteArray := prog_6_method_9_code
def yX4_middleUnder : MethodName := ⟨RX4, "middleUnder", "(I)J"⟩
abbrev cX4_isIn : ByteArray := prog_6_method_10_code
def yX4_isIn : MethodName := ⟨RX4, "isIn", "(LAreaCrossings$Area;JJ)Z"⟩
abbrev cX4_size : ByteArray := prog_6_method_11_code
def yX4_size : MethodName := ⟨RX4, "size", "()I"⟩
abbrev cX4_beginOf : ByteArray := prog_6_method_12_code
def yX4_beginOf : MethodName := ⟨RX4, "beginOf", "(I)I"⟩
abbrev cX4_endOf : ByteArray := prog_6_method_13_code
def yX4_endOf : MethodName := ⟨RX4, "endOf", "(I)I"⟩
abbrev cX4_isPieceBegin : ByteArray := prog_6_method_14_code
def yX4_isPieceBegin : MethodName := ⟨RX4, "isPieceBegin", "(I)Z"⟩
abbrev cX4_isPieceEnd : ByteArray := prog_6_method_15_code
def yX4_isPieceEnd : MethodName := ⟨RX4, "isPieceEnd", "(I)Z"⟩
abbrev cX4_overOf : ByteArray := prog_6_method_16_code
def yX4_overOf : MethodName := ⟨RX4, "overOf", "(I)J"⟩
abbrev cX4_underOf : ByteArray := prog_6_method_17_code
def yX4_underOf : MethodName := ⟨RX4, "underOf", "(I)J"⟩
abbrev cX4_shareOf : ByteArray := prog_6_method_18_code
def yX4_shareOf : MethodName := ⟨RX4, "shareOf", "(IJ)J"⟩
def RX5 : String := "AreaCrossings$Track"
def TX5 : u_T := fun k => match k with
  | 0 => ("AreaCrossings$Track", "seconds", "[J", true)
  | 1 => ("AreaCrossings$Track", "xs", "[I", true)
  | 2 => ("AreaCrossings$Track", "ys", "[I", true)
  | _ => ("AreaCrossings$Track", "size", "I", false)
def tyX5 : Nat → FieldType := fun k => match k with
  | 0 => .array .long
  | 1 => .array .int
  | 2 => .array .int
  | _ => .int
abbrev wsX50 : List Cond := u_ws RX5 TX5 4
theorem nmX5 : ∀ a, a < 4 → ∀ b, b < 4 → a ≠ b → (TX5 a).2.1 ≠ (TX5 b).2.1 := by decide +kernel
theorem tyX5_ok : ∀ k, k < 4 → parseFieldDescriptor (TX5 k).2.2.1 = some (tyX5 k) := by decide +kernel
abbrev cX5_init : ByteArray := prog_7_method_1_code
def yX5_init : MethodName := ⟨RX5, "<init>", "()V"⟩
abbrev cX5_add : ByteArray := prog_7_method_2_code
def yX5_add : MethodName := ⟨RX5, "add", "(JII)Z"⟩
abbrev cX5_places : ByteArray := prog_7_method_3_code
def yX5_places : MethodName := ⟨RX5, "places", "()I"⟩
abbrev cX5_pieces : ByteArray := prog_7_method_4_code
def yX5_pieces : MethodName := ⟨RX5, "pieces", "()I"⟩
abbrev cX5_hasPiece : ByteArray := prog_7_method_5_code
def yX5_hasPiece : MethodName := ⟨RX5, "hasPiece", "(I)Z"⟩
abbrev cX5_xOf : ByteArray := prog_7_method_6_code
def yX5_xOf : MethodName := ⟨RX5, "xOf", "(I)I"⟩
abbrev cX5_yOf : ByteArray := prog_7_method_7_code
def yX5_yOf : MethodName := ⟨RX5, "yOf", "(I)I"⟩
abbrev cX5_secondsOf : ByteArray := prog_7_method_8_code
def yX5_secondsOf : MethodName := ⟨RX5, "secondsOf", "(I)J"⟩
abbrev cX5_hoursBegunOf : ByteArray := prog_7_method_9_code
def yX5_hoursBegunOf : MethodName := ⟨RX5, "hoursBegunOf", "(I)J"⟩
abbrev cX5_dayOf : ByteArray := prog_7_method_10_code
def yX5_dayOf : MethodName := ⟨RX5, "dayOf", "(I)J"⟩
abbrev cX5_isGap : ByteArray := prog_7_method_11_code
def yX5_isGap : MethodName := ⟨RX5, "isGap", "(I)Z"⟩
abbrev cX5_pieceOfGap : ByteArray := prog_7_method_12_code
def yX5_pieceOfGap : MethodName := ⟨RX5, "pieceOfGap", "(I)I"⟩
abbrev cX5_isFast : ByteArray := prog_7_method_13_code
def yX5_isFast : MethodName := ⟨RX5, "isFast", "(IJ)Z"⟩
def RX6 : String := "AreaCrossings"
def TX6 : u_T := fun k => match k with
  | 0 => ("AreaCrossings", "areas", "[LAreaCrossings$Area;", true)
  | 1 => ("AreaCrossings", "rules", "LAreaCrossings$Rules;", true)
  | 2 => ("AreaCrossings", "tracks", "[LAreaCrossings$Track;", true)
  | 3 => ("AreaCrossings", "trackCount", "I", false)
  | 4 => ("AreaCrossings", "stretches", "LAreaCrossings$Stretches;", true)
  | 5 => ("AreaCrossings", "last", "LAreaCrossings$Crossings;", false)
  | _ => ("AreaCrossings", "spare", "LAreaCrossings$Crossings;", false)
def tyX6 : Nat → FieldType := fun k => match k with
  | 0 => .array (.object "AreaCrossings$Area")
  | 1 => .object "AreaCrossings$Rules"
  | 2 => .array (.object "AreaCrossings$Track")
  | 3 => .int
  | 4 => .object "AreaCrossings$Stretches"
  | 5 => .object "AreaCrossings$Crossings"
  | _ => .object "AreaCrossings$Crossings"
abbrev wsX60 : List Cond := u_ws RX6 TX6 7
theorem nmX6 : ∀ a, a < 7 → ∀ b, b < 7 → a ≠ b → (TX6 a).2.1 ≠ (TX6 b).2.1 := by decide +kernel
theorem tyX6_ok : ∀ k, k < 7 → parseFieldDescriptor (TX6 k).2.2.1 = some (tyX6 k) := by decide +kernel
abbrev cX6_init : ByteArray := prog_1_method_1_code
def yX6_init : MethodName := ⟨RX6, "<init>", "(I)V"⟩
abbrev cX6_corner : ByteArray := prog_1_method_2_code
def yX6_corner : MethodName := ⟨RX6, "corner", "(IJJ)Z"⟩
abbrev cX6_ring : ByteArray := prog_1_method_3_code
def yX6_ring : MethodName := ⟨RX6, "ring", "(I)Z"⟩
abbrev cX6_hole : ByteArray := prog_1_method_4_code
def yX6_hole : MethodName := ⟨RX6, "hole", "(I)Z"⟩
abbrev cX6_bars : ByteArray := prog_1_method_5_code
def yX6_bars : MethodName := ⟨RX6, "bars", "(IIII)Z"⟩
abbrev cX6_speed : ByteArray := prog_1_method_6_code
def yX6_speed : MethodName := ⟨RX6, "speed", "(IJ)Z"⟩
abbrev cX6_report : ByteArray := prog_1_method_7_code
def yX6_report : MethodName := ⟨RX6, "report", "(JJJI)I"⟩
abbrev cX6_track : ByteArray := prog_1_method_8_code
def yX6_track : MethodName := ⟨RX6, "track", "()I"⟩
abbrev cX6_place : ByteArray := prog_1_method_9_code
def yX6_place : MethodName := ⟨RX6, "place", "(IJJJ)Z"⟩
abbrev cX6_run : ByteArray := prog_1_method_10_code
def yX6_run : MethodName := ⟨RX6, "run", "(II)I"⟩
abbrev cX6_entry : ByteArray := prog_1_method_11_code
def yX6_entry : MethodName := ⟨RX6, "entry", "(II)J"⟩
abbrev cX6_side : ByteArray := prog_1_method_12_code
def yX6_side : MethodName := ⟨RX6, "side", "(I)I"⟩
abbrev cX6_inside : ByteArray := prog_1_method_13_code
def yX6_inside : MethodName := ⟨RX6, "inside", "(III)J"⟩
abbrev cX6_maybe : ByteArray := prog_1_method_14_code
def yX6_maybe : MethodName := ⟨RX6, "maybe", "(II)Z"⟩
abbrev cX6_buffer : ByteArray := prog_1_method_15_code
def yX6_buffer : MethodName := ⟨RX6, "buffer", "(IJ)I"⟩
abbrev cX6_told : ByteArray := prog_1_method_16_code
def yX6_told : MethodName := ⟨RX6, "told", "(IJ)Z"⟩
abbrev cX6_overlap : ByteArray := prog_1_method_17_code
def yX6_overlap : MethodName := ⟨RX6, "overlap", "(II)I"⟩
abbrev cX6_cell : ByteArray := prog_1_method_18_code
def yX6_cell : MethodName := ⟨RX6, "cell", "(IIJ)I"⟩
abbrev cX6_isArea : ByteArray := prog_1_method_19_code
def yX6_isArea : MethodName := ⟨RX6, "isArea", "(I)Z"⟩
abbrev cX6_isThere : ByteArray := prog_1_method_20_code
def yX6_isThere : MethodName := ⟨RX6, "isThere", "(I)Z"⟩
abbrev cX6_isTrack : ByteArray := prog_1_method_21_code
def yX6_isTrack : MethodName := ⟨RX6, "isTrack", "(I)Z"⟩
abbrev cX6_isGear : ByteArray := prog_1_method_22_code
def yX6_isGear : MethodName := ⟨RX6, "isGear", "(I)Z"⟩
abbrev cX6_isPlace : ByteArray := prog_1_method_23_code
def yX6_isPlace : MethodName := ⟨RX6, "isPlace", "(JJ)Z"⟩
abbrev cX6_isCoordinate : ByteArray := prog_1_method_24_code
def yX6_isCoordinate : MethodName := ⟨RX6, "isCoordinate", "(J)Z"⟩
abbrev cX6_firstUntouchedArea : ByteArray := prog_1_method_25_code
def yX6_firstUntouchedArea : MethodName := ⟨RX6, "firstUntouchedArea", "()I"⟩
abbrev cX6_counts : ByteArray := prog_1_method_26_code
def yX6_counts : MethodName := ⟨RX6, "counts", "(IILAreaCrossings$Track;I)Z"⟩
abbrev cX6_noteCrossings : ByteArray := prog_1_method_27_code
def yX6_noteCrossings : MethodName := ⟨RX6, "noteCrossings", "(IILAreaCrossings$Track;I)Z"⟩
abbrev cX6_thousandthsIn : ByteArray := prog_1_method_28_code
def yX6_thousandthsIn : MethodName := ⟨RX6, "thousandthsIn", "(LAreaCrossings$Area;LAreaCrossings$Track;I)J"⟩
abbrev cX6_mayHaveBeenNear : ByteArray := prog_1_method_29_code
def yX6_mayHaveBeenNear : MethodName := ⟨RX6, "mayHaveBeenNear", "(LAreaCrossings$Area;LAreaCrossings$Track;I)Z"⟩
def RX7 : String := "AreaCrossingsModel"
def TX7 : u_T := fun k => match k with
  | 0 => ("AreaCrossingsModel", "code", "I", false)
  | 1 => ("AreaCrossingsModel", "areas", "I", false)
  | 2 => ("AreaCrossingsModel", "xs", "[J", true)
  | 3 => ("AreaCrossingsModel", "ys", "[J", true)
  | 4 => ("AreaCrossingsModel", "sizes", "[I", true)
  | 5 => ("AreaCrossingsModel", "closed", "[I", true)
  | 6 => ("AreaCrossingsModel", "making", "[Z", true)
  | 7 => ("AreaCrossingsModel", "speeds", "[J", true)
  | 8 => ("AreaCrossingsModel", "rules", "I", false)
  | 9 => ("AreaCrossingsModel", "ruleArea", "[I", true)
  | 10 => ("AreaCrossingsModel", "ruleGear", "[I", true)
  | 11 => ("AreaCrossingsModel", "ruleFrom", "[I", true)
  | 12 => ("AreaCrossingsModel", "ruleTo", "[I", true)
  | 13 => ("AreaCrossingsModel", "tracks", "I", false)
  | 14 => ("AreaCrossingsModel", "places", "[I", true)
  | 15 => ("AreaCrossingsModel", "seconds", "[J", true)
  | 16 => ("AreaCrossingsModel", "px", "[J", true)
  | 17 => ("AreaCrossingsModel", "py", "[J", true)
  | 18 => ("AreaCrossingsModel", "many", "I", false)
  | 19 => ("AreaCrossingsModel", "told", "[J", true)
  | 20 => ("AreaCrossingsModel", "drafts", "I", false)
  | 21 => ("AreaCrossingsModel", "draft", "[J", true)
  | 22 => ("AreaCrossingsModel", "cuts", "I", false)
  | 23 => ("AreaCrossingsModel", "up", "[J", true)
  | 24 => ("AreaCrossingsModel", "low", "[J", true)
  | 25 => ("AreaCrossingsModel", "stretches", "I", false)
  | 26 => ("AreaCrossingsModel", "begins", "[I", true)
  | _ => ("AreaCrossingsModel", "ends", "[I", true)
def tyX7 : Nat → FieldType := fun k => match k with
  | 0 => .int
  | 1 => .int
  | 2 => .array .long
  | 3 => .array .long
  | 4 => .array .int
  | 5 => .array .int
  | 6 => .array .boolean
  | 7 => .array .long
  | 8 => .int
  | 9 => .array .int
  | 10 => .array .int
  | 11 => .array .int
  | 12 => .array .int
  | 13 => .int
  | 14 => .array .int
  | 15 => .array .long
  | 16 => .array .long
  | 17 => .array .long
  | 18 => .int
  | 19 => .array .long
  | 20 => .int
  | 21 => .array .long
  | 22 => .int
  | 23 => .array .long
  | 24 => .array .long
  | 25 => .int
  | 26 => .array .int
  | _ => .array .int
abbrev wsX70 : List Cond := u_ws RX7 TX7 28
theorem nmX7 : ∀ a, a < 28 → ∀ b, b < 28 → a ≠ b → (TX7 a).2.1 ≠ (TX7 b).2.1 := by decide +kernel
theorem tyX7_ok : ∀ k, k < 28 → parseFieldDescriptor (TX7 k).2.2.1 = some (tyX7 k) := by decide +kernel
abbrev cX7_init : ByteArray := prog_9_method_1_code
def yX7_init : MethodName := ⟨RX7, "<init>", "(I)V"⟩
abbrev cX7_thrown : ByteArray := prog_9_method_2_code
def yX7_thrown : MethodName := ⟨RX7, "thrown", "()I"⟩
abbrev cX7_isIn : ByteArray := prog_9_method_3_code
def yX7_isIn : MethodName := ⟨RX7, "isIn", "(JJJ)Z"⟩
abbrev cX7_isArea : ByteArray := prog_9_method_4_code
def yX7_isArea : MethodName := ⟨RX7, "isArea", "(I)Z"⟩
abbrev cX7_isThere : ByteArray := prog_9_method_5_code
def yX7_isThere : MethodName := ⟨RX7, "isThere", "(I)Z"⟩
abbrev cX7_signOf : ByteArray := prog_9_method_6_code
def yX7_signOf : MethodName := ⟨RX7, "signOf", "(J)I"⟩
abbrev cX7_less : ByteArray := prog_9_method_7_code
def yX7_less : MethodName := ⟨RX7, "less", "(JJ)J"⟩
abbrev cX7_more : ByteArray := prog_9_method_8_code
def yX7_more : MethodName := ⟨RX7, "more", "(JJ)J"⟩
abbrev cX7_divisor : ByteArray := prog_9_method_9_code
def yX7_divisor : MethodName := ⟨RX7, "divisor", "(JJ)J"⟩
abbrev cX7_at : ByteArray := prog_9_method_10_code
def yX7_at : MethodName := ⟨RX7, "at", "(II)I"⟩
abbrev cX7_wayOf : ByteArray := prog_9_method_11_code
def yX7_wayOf : MethodName := ⟨RX7, "wayOf", "(JJJJJJ)I"⟩
abbrev cX7_isBetween : ByteArray := prog_9_method_12_code
def yX7_isBetween : MethodName := ⟨RX7, "isBetween", "(JJJJJJ)Z"⟩
abbrev cX7_doMeet : ByteArray := prog_9_method_13_code
def yX7_doMeet : MethodName := ⟨RX7, "doMeet", "(IIII)Z"⟩
abbrev cX7_doFold : ByteArray := prog_9_method_14_code
def yX7_doFold : MethodName := ⟨RX7, "doFold", "(III)Z"⟩
abbrev cX7_isSimple : ByteArray := prog_9_method_15_code
def yX7_isSimple : MethodName := ⟨RX7, "isSimple", "(I)Z"⟩
abbrev cX7_ringsMeet : ByteArray := prog_9_method_16_code
def yX7_ringsMeet : MethodName := ⟨RX7, "ringsMeet", "(II)Z"⟩
abbrev cX7_where : ByteArray := prog_9_method_17_code
def yX7_where : MethodName := ⟨RX7, "where", "(IJJJ)I"⟩
abbrev cX7_has : ByteArray := prog_9_method_18_code
def yX7_has : MethodName := ⟨RX7, "has", "(IJJJ)Z"⟩
abbrev cX7_corner : ByteArray := prog_9_method_19_code
def yX7_corner : MethodName := ⟨RX7, "corner", "(IJJ)Z"⟩
abbrev cX7_ring : ByteArray := prog_9_method_20_code
def yX7_ring : MethodName := ⟨RX7, "ring", "(I)Z"⟩
abbrev cX7_hole : ByteArray := prog_9_method_21_code
def yX7_hole : MethodName := ⟨RX7, "hole", "(I)Z"⟩
abbrev cX7_rule : ByteArray := prog_9_method_22_code
def yX7_rule : MethodName := ⟨RX7, "rule", "(IIII)V"⟩
abbrev cX7_bars : ByteArray := prog_9_method_23_code
def yX7_bars : MethodName := ⟨RX7, "bars", "(IIII)Z"⟩
abbrev cX7_speed : ByteArray := prog_9_method_24_code
def yX7_speed : MethodName := ⟨RX7, "speed", "(IJ)Z"⟩
abbrev cX7_report : ByteArray := prog_9_method_25_code
def yX7_report : MethodName := ⟨RX7, "report", "(JJJI)I"⟩
abbrev cX7_isBarred : ByteArray := prog_9_method_26_code
def yX7_isBarred : MethodName := ⟨RX7, "isBarred", "(IIJ)Z"⟩
abbrev cX7_told : ByteArray := prog_9_method_27_code
def yX7_told : MethodName := ⟨RX7, "told", "(IJ)Z"⟩
abbrev cX7_track : ByteArray := prog_9_method_28_code
def yX7_track : MethodName := ⟨RX7, "track", "()I"⟩
abbrev cX7_isTrack : ByteArray := prog_9_method_29_code
def yX7_isTrack : MethodName := ⟨RX7, "isTrack", "(I)Z"⟩
abbrev cX7_place : ByteArray := prog_9_method_30_code
def yX7_place : MethodName := ⟨RX7, "place", "(IJJJ)Z"⟩
abbrev cX7_lasts : ByteArray := prog_9_method_31_code
def yX7_lasts : MethodName := ⟨RX7, "lasts", "(I)J"⟩
abbrev cX7_isGap : ByteArray := prog_9_method_32_code
def yX7_isGap : MethodName := ⟨RX7, "isGap", "(I)Z"⟩
abbrev cX7_counts : ByteArray := prog_9_method_33_code
def yX7_counts : MethodName := ⟨RX7, "counts", "(III)Z"⟩
abbrev cX7_cut : ByteArray := prog_9_method_34_code
def yX7_cut : MethodName := ⟨RX7, "cut", "(JJ)V"⟩
abbrev cX7_cutAt : ByteArray := prog_9_method_35_code
def yX7_cutAt : MethodName := ⟨RX7, "cutAt", "(III)V"⟩
abbrev cX7_hasAt : ByteArray := prog_9_method_36_code
def yX7_hasAt : MethodName := ⟨RX7, "hasAt", "(IIJJ)Z"⟩
abbrev cX7_stretch : ByteArray := prog_9_method_37_code
def yX7_stretch : MethodName := ⟨RX7, "stretch", "(II)V"⟩
abbrev cX7_add : ByteArray := prog_9_method_38_code
def yX7_add : MethodName := ⟨RX7, "add", "(IIII)V"⟩
abbrev cX7_runPiece : ByteArray := prog_9_method_39_code
def yX7_runPiece : MethodName := ⟨RX7, "runPiece", "(IIII)V"⟩
abbrev cX7_run : ByteArray := prog_9_method_40_code
def yX7_run : MethodName := ⟨RX7, "run", "(II)I"⟩
abbrev cX7_entry : ByteArray := prog_9_method_41_code
def yX7_entry : MethodName := ⟨RX7, "entry", "(II)J"⟩
abbrev cX7_side : ByteArray := prog_9_method_42_code
def yX7_side : MethodName := ⟨RX7, "side", "(I)I"⟩
abbrev cX7_within : ByteArray := prog_9_method_43_code
def yX7_within : MethodName := ⟨RX7, "within", "(II)J"⟩
abbrev cX7_inside : ByteArray := prog_9_method_44_code
def yX7_inside : MethodName := ⟨RX7, "inside", "(III)J"⟩
abbrev cX7_maybe : ByteArray := prog_9_method_45_code
def yX7_maybe : MethodName := ⟨RX7, "maybe", "(II)Z"⟩
abbrev cX7_isNear : ByteArray := prog_9_method_46_code
def yX7_isNear : MethodName := ⟨RX7, "isNear", "(IIJJJ)Z"⟩
abbrev cX7_isByArea : ByteArray := prog_9_method_47_code
def yX7_isByArea : MethodName := ⟨RX7, "isByArea", "(IJJJ)Z"⟩
abbrev cX7_buffer : ByteArray := prog_9_method_48_code
def yX7_buffer : MethodName := ⟨RX7, "buffer", "(IJ)I"⟩
abbrev cX7_overlap : ByteArray := prog_9_method_49_code
def yX7_overlap : MethodName := ⟨RX7, "overlap", "(II)I"⟩
abbrev cX7_cell : ByteArray := prog_9_method_50_code
def yX7_cell : MethodName := ⟨RX7, "cell", "(IIJ)I"⟩
def RJx00060 : String := "java/lang/ArrayIndexOutOfBoundsException"
def TJx00060 : u_T := fun k => match k with
  | 0 => ("java/lang/Throwable", "cause", "Ljava/lang/Throwable;", false)
  | 1 => ("java/lang/Throwable", "stackTrace", "[Ljava/lang/StackTraceElement;", false)
  | 2 => ("java/lang/Throwable", "suppressedExceptions", "Ljava/util/List;", false)
  | 3 => ("java/lang/Throwable", "detailMessage", "Ljava/lang/String;", false)
  | 4 => ("java/lang/Throwable", "backtrace", "Ljava/lang/Object;", false)
  | _ => ("java/lang/Throwable", "depth", "I", false)
def tyJx00060 : Nat → FieldType := fun k => match k with
  | 0 => .object "java/lang/Throwable"
  | 1 => .array (.object "java/lang/StackTraceElement")
  | 2 => .object "java/util/List"
  | 3 => .object "java/lang/String"
  | 4 => .object "java/lang/Object"
  | _ => .int
abbrev wsJx000600 : List Cond := u_ws RJx00060 TJx00060 6
theorem nmJx00060 : ∀ a, a < 6 → ∀ b, b < 6 → a ≠ b → (TJx00060 a).2.1 ≠ (TJx00060 b).2.1 := by decide +kernel
theorem tyJx00060_ok : ∀ k, k < 6 → parseFieldDescriptor (TJx00060 k).2.2.1 = some (tyJx00060 k) := by decide +kernel
abbrev cJx00060_init_da8c8 : ByteArray := prog_10_method_1_code
def yJx00060_init_da8c8 : MethodName := ⟨RJx00060, "<init>", "()V"⟩
def RJ9 : String := "java/lang/Math"
def TJ9 : u_T := fun k => match k with
  | _ => ("", "", "", false)
def tyJ9 : Nat → FieldType := fun k => match k with
  | _ => .int
abbrev wsJ90 : List Cond := u_ws RJ9 TJ9 0
theorem nmJ9 : ∀ a, a < 0 → ∀ b, b < 0 → a ≠ b → (TJ9 a).2.1 ≠ (TJ9 b).2.1 := by decide +kernel
theorem tyJ9_ok : ∀ k, k < 0 → parseFieldDescriptor (TJ9 k).2.2.1 = some (tyJ9 k) := by decide +kernel
abbrev cJ9_max_7cf53 : ByteArray := prog_13_method_65_code
def yJ9_max_7cf53 : MethodName := ⟨RJ9, "max", "(II)I"⟩
abbrev cJ9_max_f86c9 : ByteArray := prog_13_method_66_code
def yJ9_max_f86c9 : MethodName := ⟨RJ9, "max", "(JJ)J"⟩
abbrev cJ9_min_7cf53 : ByteArray := prog_13_method_69_code
def yJ9_min_7cf53 : MethodName := ⟨RJ9, "min", "(II)I"⟩
abbrev cJ9_min_f86c9 : ByteArray := prog_13_method_70_code
def yJ9_min_f86c9 : MethodName := ⟨RJ9, "min", "(JJ)J"⟩
def RL : String := "AreaCrossingsLaw"
abbrev cL_cell : ByteArray := method_2_code
def yL_cell : MethodName := ⟨RL, "cell", "([II)I"⟩
abbrev cL_corner : ByteArray := method_3_code
def yL_corner : MethodName := ⟨RL, "corner", "(LAreaCrossings;IJJ[J)I"⟩
abbrev cL_law : ByteArray := code
def yL_law : MethodName := ⟨RL, "law", "([I)Z"⟩
theorem inX0 : ∀ w ∈ wsX00, w ∈ lw_tbl := by decide +kernel
theorem inX1 : ∀ w ∈ wsX10, w ∈ lw_tbl := by decide +kernel
theorem inX2 : ∀ w ∈ wsX20, w ∈ lw_tbl := by decide +kernel
theorem inX3 : ∀ w ∈ wsX30, w ∈ lw_tbl := by decide +kernel
theorem inX4 : ∀ w ∈ wsX40, w ∈ lw_tbl := by decide +kernel
theorem inX5 : ∀ w ∈ wsX50, w ∈ lw_tbl := by decide +kernel
theorem inX6 : ∀ w ∈ wsX60, w ∈ lw_tbl := by decide +kernel
theorem inX7 : ∀ w ∈ wsX70, w ∈ lw_tbl := by decide +kernel
theorem inJx00060 : ∀ w ∈ wsJx000600, w ∈ lw_tbl := by decide +kernel
theorem inJ9 : ∀ w ∈ wsJ90, w ∈ lw_tbl := by decide +kernel
abbrev vwCl : List vw_C := [(RJx00060, TJx00060, 6), (RX0, TX0, 4), (RX1, TX1, 6), (RX2, TX2, 3), (RX3, TX3, 5), (RX4, TX4, 10), (RX5, TX5, 4), (RX6, TX6, 7), (RX7, TX7, 28)]
