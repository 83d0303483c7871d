section
-- ===== PART A: goes FIRST, ahead of the names: the tables' words, and 'selects' of the private methods out of them =====
/-- a private method of a class that the tables say can be made, by its rows of tables_1 -/
def lw_okq (q : MethodName × Nat) : Prop := (q.1.cls ≠ "java/lang/invoke/MethodHandle" ∧ q.1.cls ≠ "java/lang/invoke/VarHandle") ∧ Cond.instantiable q.1.cls q.2 ∈ tables_1 ∧ Cond.privateMethod q.1 ∈ tables_1 ∧ Cond.instanceMethod q.1 ∈ tables_1
theorem lw_p0 : lw_okq (⟨"AreaCrossings", "isArea", "(I)Z"⟩, 7) := ⟨⟨by decide +kernel, by decide +kernel⟩, List.mem_of_getElem? (i := 16) (by decide +kernel), List.mem_of_getElem? (i := 200) (by decide +kernel), List.mem_of_getElem? (i := 201) (by decide +kernel)⟩
theorem lw_p1 : lw_okq (⟨"AreaCrossings$Area", "beingMade", "()LAreaCrossings$Ring;"⟩, 4) := ⟨⟨by decide +kernel, by decide +kernel⟩, List.mem_of_getElem? (i := 31) (by decide +kernel), List.mem_of_getElem? (i := 208) (by decide +kernel), List.mem_of_getElem? (i := 209) (by decide +kernel)⟩
theorem lw_p2 : lw_okq (⟨"AreaCrossings$Ring", "foldsBackAt", "(III)Z"⟩, 3) := ⟨⟨by decide +kernel, by decide +kernel⟩, List.mem_of_getElem? (i := 38) (by decide +kernel), List.mem_of_getElem? (i := 220) (by decide +kernel), List.mem_of_getElem? (i := 221) (by decide +kernel)⟩
theorem lw_p3 : lw_okq (⟨"AreaCrossings$Ring", "sidesMeet", "(ILAreaCrossings$Ring;I)Z"⟩, 3) := ⟨⟨by decide +kernel, by decide +kernel⟩, List.mem_of_getElem? (i := 38) (by decide +kernel), List.mem_of_getElem? (i := 224) (by decide +kernel), List.mem_of_getElem? (i := 225) (by decide +kernel)⟩
theorem lw_p4 : lw_okq (⟨"AreaCrossings$Ring", "turn", "(IJJJ)J"⟩, 3) := ⟨⟨by decide +kernel, by decide +kernel⟩, List.mem_of_getElem? (i := 38) (by decide +kernel), List.mem_of_getElem? (i := 228) (by decide +kernel), List.mem_of_getElem? (i := 229) (by decide +kernel)⟩
theorem lw_p5 : lw_okq (⟨"AreaCrossings$Ring", "spans", "(IJJJ)Z"⟩, 3) := ⟨⟨by decide +kernel, by decide +kernel⟩, List.mem_of_getElem? (i := 38) (by decide +kernel), List.mem_of_getElem? (i := 235) (by decide +kernel), List.mem_of_getElem? (i := 236) (by decide +kernel)⟩
theorem lw_p6 : lw_okq (⟨"AreaCrossings$Area", "fitsAsHole", "(LAreaCrossings$Ring;)Z"⟩, 4) := ⟨⟨by decide +kernel, by decide +kernel⟩, List.mem_of_getElem? (i := 31) (by decide +kernel), List.mem_of_getElem? (i := 241) (by decide +kernel), List.mem_of_getElem? (i := 242) (by decide +kernel)⟩
theorem lw_p7 : lw_okq (⟨"AreaCrossings", "firstUntouchedArea", "()I"⟩, 7) := ⟨⟨by decide +kernel, by decide +kernel⟩, List.mem_of_getElem? (i := 16) (by decide +kernel), List.mem_of_getElem? (i := 322) (by decide +kernel), List.mem_of_getElem? (i := 323) (by decide +kernel)⟩
theorem lw_p8 : lw_okq (⟨"AreaCrossings", "isTrack", "(I)Z"⟩, 7) := ⟨⟨by decide +kernel, by decide +kernel⟩, List.mem_of_getElem? (i := 16) (by decide +kernel), List.mem_of_getElem? (i := 354) (by decide +kernel), List.mem_of_getElem? (i := 355) (by decide +kernel)⟩
theorem lw_p9 : lw_okq (⟨"AreaCrossings", "counts", "(IILAreaCrossings$Track;I)Z"⟩, 7) := ⟨⟨by decide +kernel, by decide +kernel⟩, List.mem_of_getElem? (i := 16) (by decide +kernel), List.mem_of_getElem? (i := 376) (by decide +kernel), List.mem_of_getElem? (i := 377) (by decide +kernel)⟩
theorem lw_p10 : lw_okq (⟨"AreaCrossings", "isThere", "(I)Z"⟩, 7) := ⟨⟨by decide +kernel, by decide +kernel⟩, List.mem_of_getElem? (i := 16) (by decide +kernel), List.mem_of_getElem? (i := 380) (by decide +kernel), List.mem_of_getElem? (i := 381) (by decide +kernel)⟩
theorem lw_p11 : lw_okq (⟨"AreaCrossings$Rules", "applies", "(IIJ)Z"⟩, 5) := ⟨⟨by decide +kernel, by decide +kernel⟩, List.mem_of_getElem? (i := 68) (by decide +kernel), List.mem_of_getElem? (i := 409) (by decide +kernel), List.mem_of_getElem? (i := 410) (by decide +kernel)⟩
theorem lw_p12 : lw_okq (⟨"AreaCrossings", "noteCrossings", "(IILAreaCrossings$Track;I)Z"⟩, 7) := ⟨⟨by decide +kernel, by decide +kernel⟩, List.mem_of_getElem? (i := 16) (by decide +kernel), List.mem_of_getElem? (i := 430) (by decide +kernel), List.mem_of_getElem? (i := 431) (by decide +kernel)⟩
theorem lw_p13 : lw_okq (⟨"AreaCrossings$Stretches", "cutPiece", "(LAreaCrossings$Area;LAreaCrossings$Track;I)V"⟩, 10) := ⟨⟨by decide +kernel, by decide +kernel⟩, List.mem_of_getElem? (i := 111) (by decide +kernel), List.mem_of_getElem? (i := 438) (by decide +kernel), List.mem_of_getElem? (i := 439) (by decide +kernel)⟩
theorem lw_p14 : lw_okq (⟨"AreaCrossings$Stretches", "addCut", "(JJ)V"⟩, 10) := ⟨⟨by decide +kernel, by decide +kernel⟩, List.mem_of_getElem? (i := 111) (by decide +kernel), List.mem_of_getElem? (i := 444) (by decide +kernel), List.mem_of_getElem? (i := 445) (by decide +kernel)⟩
theorem lw_p15 : lw_okq (⟨"AreaCrossings$Stretches", "cutAtSide", "(LAreaCrossings$Ring;I)V"⟩, 10) := ⟨⟨by decide +kernel, by decide +kernel⟩, List.mem_of_getElem? (i := 111) (by decide +kernel), List.mem_of_getElem? (i := 460) (by decide +kernel), List.mem_of_getElem? (i := 461) (by decide +kernel)⟩
def lw_privs_1 : List (MethodName × Nat) := [(⟨"AreaCrossings", "isArea", "(I)Z"⟩, 7), (⟨"AreaCrossings$Area", "beingMade", "()LAreaCrossings$Ring;"⟩, 4), (⟨"AreaCrossings$Ring", "foldsBackAt", "(III)Z"⟩, 3), (⟨"AreaCrossings$Ring", "sidesMeet", "(ILAreaCrossings$Ring;I)Z"⟩, 3), (⟨"AreaCrossings$Ring", "turn", "(IJJJ)J"⟩, 3), (⟨"AreaCrossings$Ring", "spans", "(IJJJ)Z"⟩, 3), (⟨"AreaCrossings$Area", "fitsAsHole", "(LAreaCrossings$Ring;)Z"⟩, 4), (⟨"AreaCrossings", "firstUntouchedArea", "()I"⟩, 7), (⟨"AreaCrossings", "isTrack", "(I)Z"⟩, 7), (⟨"AreaCrossings", "counts", "(IILAreaCrossings$Track;I)Z"⟩, 7), (⟨"AreaCrossings", "isThere", "(I)Z"⟩, 7), (⟨"AreaCrossings$Rules", "applies", "(IIJ)Z"⟩, 5), (⟨"AreaCrossings", "noteCrossings", "(IILAreaCrossings$Track;I)Z"⟩, 7), (⟨"AreaCrossings$Stretches", "cutPiece", "(LAreaCrossings$Area;LAreaCrossings$Track;I)V"⟩, 10), (⟨"AreaCrossings$Stretches", "addCut", "(JJ)V"⟩, 10), (⟨"AreaCrossings$Stretches", "cutAtSide", "(LAreaCrossings$Ring;I)V"⟩, 10)]
theorem lw_r1 : ∀ q ∈ lw_privs_1, lw_okq q := List.forall_mem_cons.mpr ⟨lw_p0, List.forall_mem_cons.mpr ⟨lw_p1, List.forall_mem_cons.mpr ⟨lw_p2, List.forall_mem_cons.mpr ⟨lw_p3, List.forall_mem_cons.mpr ⟨lw_p4, List.forall_mem_cons.mpr ⟨lw_p5, List.forall_mem_cons.mpr ⟨lw_p6, List.forall_mem_cons.mpr ⟨lw_p7, List.forall_mem_cons.mpr ⟨lw_p8, List.forall_mem_cons.mpr ⟨lw_p9, List.forall_mem_cons.mpr ⟨lw_p10, List.forall_mem_cons.mpr ⟨lw_p11, List.forall_mem_cons.mpr ⟨lw_p12, List.forall_mem_cons.mpr ⟨lw_p13, List.forall_mem_cons.mpr ⟨lw_p14, List.forall_mem_cons.mpr ⟨lw_p15, fun _ h => absurd h List.not_mem_nil⟩⟩⟩⟩⟩⟩⟩⟩⟩⟩⟩⟩⟩⟩⟩⟩
theorem lw_p16 : lw_okq (⟨"AreaCrossings$Stretches", "isIn", "(LAreaCrossings$Area;JJ)Z"⟩, 10) := ⟨⟨by decide +kernel, by decide +kernel⟩, List.mem_of_getElem? (i := 111) (by decide +kernel), List.mem_of_getElem? (i := 468) (by decide +kernel), List.mem_of_getElem? (i := 469) (by decide +kernel)⟩
theorem lw_p17 : lw_okq (⟨"AreaCrossings$Stretches", "middleOver", "(I)J"⟩, 10) := ⟨⟨by decide +kernel, by decide +kernel⟩, List.mem_of_getElem? (i := 111) (by decide +kernel), List.mem_of_getElem? (i := 473) (by decide +kernel), List.mem_of_getElem? (i := 474) (by decide +kernel)⟩
theorem lw_p18 : lw_okq (⟨"AreaCrossings$Stretches", "middleUnder", "(I)J"⟩, 10) := ⟨⟨by decide +kernel, by decide +kernel⟩, List.mem_of_getElem? (i := 111) (by decide +kernel), List.mem_of_getElem? (i := 477) (by decide +kernel), List.mem_of_getElem? (i := 478) (by decide +kernel)⟩
theorem lw_p19 : lw_okq (⟨"AreaCrossings", "thousandthsIn", "(LAreaCrossings$Area;LAreaCrossings$Track;I)J"⟩, 7) := ⟨⟨by decide +kernel, by decide +kernel⟩, List.mem_of_getElem? (i := 16) (by decide +kernel), List.mem_of_getElem? (i := 558) (by decide +kernel), List.mem_of_getElem? (i := 559) (by decide +kernel)⟩
theorem lw_p20 : lw_okq (⟨"AreaCrossings$Ring", "reaches", "([IJJ)Z"⟩, 3) := ⟨⟨by decide +kernel, by decide +kernel⟩, List.mem_of_getElem? (i := 38) (by decide +kernel), List.mem_of_getElem? (i := 601) (by decide +kernel), List.mem_of_getElem? (i := 602) (by decide +kernel)⟩
theorem lw_p21 : lw_okq (⟨"AreaCrossings$Ring", "isSideNear", "(IJJJ)Z"⟩, 3) := ⟨⟨by decide +kernel, by decide +kernel⟩, List.mem_of_getElem? (i := 38) (by decide +kernel), List.mem_of_getElem? (i := 626) (by decide +kernel), List.mem_of_getElem? (i := 627) (by decide +kernel)⟩
theorem lw_p22 : lw_okq (⟨"java/lang/Throwable", "fillInStackTrace", "(I)Ljava/lang/Throwable;"⟩, 6) := ⟨⟨by decide +kernel, by decide +kernel⟩, List.mem_of_getElem? (i := 704) (by decide +kernel), List.mem_of_getElem? (i := 702) (by decide +kernel), List.mem_of_getElem? (i := 703) (by decide +kernel)⟩
theorem lw_p23 : lw_okq (⟨"AreaCrossingsModel", "isArea", "(I)Z"⟩, 28) := ⟨⟨by decide +kernel, by decide +kernel⟩, List.mem_of_getElem? (i := 736) (by decide +kernel), List.mem_of_getElem? (i := 835) (by decide +kernel), List.mem_of_getElem? (i := 836) (by decide +kernel)⟩
theorem lw_p24 : lw_okq (⟨"AreaCrossingsModel", "isSimple", "(I)Z"⟩, 28) := ⟨⟨by decide +kernel, by decide +kernel⟩, List.mem_of_getElem? (i := 736) (by decide +kernel), List.mem_of_getElem? (i := 848) (by decide +kernel), List.mem_of_getElem? (i := 849) (by decide +kernel)⟩
theorem lw_p25 : lw_okq (⟨"AreaCrossingsModel", "at", "(II)I"⟩, 28) := ⟨⟨by decide +kernel, by decide +kernel⟩, List.mem_of_getElem? (i := 736) (by decide +kernel), List.mem_of_getElem? (i := 852) (by decide +kernel), List.mem_of_getElem? (i := 853) (by decide +kernel)⟩
theorem lw_p26 : lw_okq (⟨"AreaCrossingsModel", "doFold", "(III)Z"⟩, 28) := ⟨⟨by decide +kernel, by decide +kernel⟩, List.mem_of_getElem? (i := 736) (by decide +kernel), List.mem_of_getElem? (i := 856) (by decide +kernel), List.mem_of_getElem? (i := 857) (by decide +kernel)⟩
theorem lw_p27 : lw_okq (⟨"AreaCrossingsModel", "doMeet", "(IIII)Z"⟩, 28) := ⟨⟨by decide +kernel, by decide +kernel⟩, List.mem_of_getElem? (i := 736) (by decide +kernel), List.mem_of_getElem? (i := 860) (by decide +kernel), List.mem_of_getElem? (i := 861) (by decide +kernel)⟩
theorem lw_p28 : lw_okq (⟨"AreaCrossingsModel", "ringsMeet", "(II)Z"⟩, 28) := ⟨⟨by decide +kernel, by decide +kernel⟩, List.mem_of_getElem? (i := 736) (by decide +kernel), List.mem_of_getElem? (i := 879) (by decide +kernel), List.mem_of_getElem? (i := 880) (by decide +kernel)⟩
theorem lw_p29 : lw_okq (⟨"AreaCrossingsModel", "has", "(IJJJ)Z"⟩, 28) := ⟨⟨by decide +kernel, by decide +kernel⟩, List.mem_of_getElem? (i := 736) (by decide +kernel), List.mem_of_getElem? (i := 883) (by decide +kernel), List.mem_of_getElem? (i := 884) (by decide +kernel)⟩
theorem lw_p30 : lw_okq (⟨"AreaCrossingsModel", "where", "(IJJJ)I"⟩, 28) := ⟨⟨by decide +kernel, by decide +kernel⟩, List.mem_of_getElem? (i := 736) (by decide +kernel), List.mem_of_getElem? (i := 887) (by decide +kernel), List.mem_of_getElem? (i := 888) (by decide +kernel)⟩
theorem lw_p31 : lw_okq (⟨"AreaCrossingsModel", "isThere", "(I)Z"⟩, 28) := ⟨⟨by decide +kernel, by decide +kernel⟩, List.mem_of_getElem? (i := 736) (by decide +kernel), List.mem_of_getElem? (i := 895) (by decide +kernel), List.mem_of_getElem? (i := 896) (by decide +kernel)⟩
def lw_privs_2 : List (MethodName × Nat) := [(⟨"AreaCrossings$Stretches", "isIn", "(LAreaCrossings$Area;JJ)Z"⟩, 10), (⟨"AreaCrossings$Stretches", "middleOver", "(I)J"⟩, 10), (⟨"AreaCrossings$Stretches", "middleUnder", "(I)J"⟩, 10), (⟨"AreaCrossings", "thousandthsIn", "(LAreaCrossings$Area;LAreaCrossings$Track;I)J"⟩, 7), (⟨"AreaCrossings$Ring", "reaches", "([IJJ)Z"⟩, 3), (⟨"AreaCrossings$Ring", "isSideNear", "(IJJJ)Z"⟩, 3), (⟨"java/lang/Throwable", "fillInStackTrace", "(I)Ljava/lang/Throwable;"⟩, 6), (⟨"AreaCrossingsModel", "isArea", "(I)Z"⟩, 28), (⟨"AreaCrossingsModel", "isSimple", "(I)Z"⟩, 28), (⟨"AreaCrossingsModel", "at", "(II)I"⟩, 28), (⟨"AreaCrossingsModel", "doFold", "(III)Z"⟩, 28), (⟨"AreaCrossingsModel", "doMeet", "(IIII)Z"⟩, 28), (⟨"AreaCrossingsModel", "ringsMeet", "(II)Z"⟩, 28), (⟨"AreaCrossingsModel", "has", "(IJJJ)Z"⟩, 28), (⟨"AreaCrossingsModel", "where", "(IJJJ)I"⟩, 28), (⟨"AreaCrossingsModel", "isThere", "(I)Z"⟩, 28)]
theorem lw_r2 : ∀ q ∈ lw_privs_2, lw_okq q := List.forall_mem_cons.mpr ⟨lw_p16, List.forall_mem_cons.mpr ⟨lw_p17, List.forall_mem_cons.mpr ⟨lw_p18, List.forall_mem_cons.mpr ⟨lw_p19, List.forall_mem_cons.mpr ⟨lw_p20, List.forall_mem_cons.mpr ⟨lw_p21, List.forall_mem_cons.mpr ⟨lw_p22, List.forall_mem_cons.mpr ⟨lw_p23, List.forall_mem_cons.mpr ⟨lw_p24, List.forall_mem_cons.mpr ⟨lw_p25, List.forall_mem_cons.mpr ⟨lw_p26, List.forall_mem_cons.mpr ⟨lw_p27, List.forall_mem_cons.mpr ⟨lw_p28, List.forall_mem_cons.mpr ⟨lw_p29, List.forall_mem_cons.mpr ⟨lw_p30, List.forall_mem_cons.mpr ⟨lw_p31, fun _ h => absurd h List.not_mem_nil⟩⟩⟩⟩⟩⟩⟩⟩⟩⟩⟩⟩⟩⟩⟩⟩
theorem lw_p32 : lw_okq (⟨"AreaCrossingsModel", "rule", "(IIII)V"⟩, 28) := ⟨⟨by decide +kernel, by decide +kernel⟩, List.mem_of_getElem? (i := 736) (by decide +kernel), List.mem_of_getElem? (i := 905) (by decide +kernel), List.mem_of_getElem? (i := 906) (by decide +kernel)⟩
theorem lw_p33 : lw_okq (⟨"AreaCrossingsModel", "isBarred", "(IIJ)Z"⟩, 28) := ⟨⟨by decide +kernel, by decide +kernel⟩, List.mem_of_getElem? (i := 736) (by decide +kernel), List.mem_of_getElem? (i := 924) (by decide +kernel), List.mem_of_getElem? (i := 925) (by decide +kernel)⟩
theorem lw_p34 : lw_okq (⟨"AreaCrossingsModel", "isTrack", "(I)Z"⟩, 28) := ⟨⟨by decide +kernel, by decide +kernel⟩, List.mem_of_getElem? (i := 736) (by decide +kernel), List.mem_of_getElem? (i := 936) (by decide +kernel), List.mem_of_getElem? (i := 937) (by decide +kernel)⟩
theorem lw_p35 : lw_okq (⟨"AreaCrossingsModel", "counts", "(III)Z"⟩, 28) := ⟨⟨by decide +kernel, by decide +kernel⟩, List.mem_of_getElem? (i := 736) (by decide +kernel), List.mem_of_getElem? (i := 945) (by decide +kernel), List.mem_of_getElem? (i := 946) (by decide +kernel)⟩
theorem lw_p36 : lw_okq (⟨"AreaCrossingsModel", "isGap", "(I)Z"⟩, 28) := ⟨⟨by decide +kernel, by decide +kernel⟩, List.mem_of_getElem? (i := 736) (by decide +kernel), List.mem_of_getElem? (i := 949) (by decide +kernel), List.mem_of_getElem? (i := 950) (by decide +kernel)⟩
theorem lw_p37 : lw_okq (⟨"AreaCrossingsModel", "lasts", "(I)J"⟩, 28) := ⟨⟨by decide +kernel, by decide +kernel⟩, List.mem_of_getElem? (i := 736) (by decide +kernel), List.mem_of_getElem? (i := 953) (by decide +kernel), List.mem_of_getElem? (i := 954) (by decide +kernel)⟩
theorem lw_p38 : lw_okq (⟨"AreaCrossingsModel", "runPiece", "(IIII)V"⟩, 28) := ⟨⟨by decide +kernel, by decide +kernel⟩, List.mem_of_getElem? (i := 736) (by decide +kernel), List.mem_of_getElem? (i := 959) (by decide +kernel), List.mem_of_getElem? (i := 960) (by decide +kernel)⟩
theorem lw_p39 : lw_okq (⟨"AreaCrossingsModel", "stretch", "(II)V"⟩, 28) := ⟨⟨by decide +kernel, by decide +kernel⟩, List.mem_of_getElem? (i := 736) (by decide +kernel), List.mem_of_getElem? (i := 963) (by decide +kernel), List.mem_of_getElem? (i := 964) (by decide +kernel)⟩
theorem lw_p40 : lw_okq (⟨"AreaCrossingsModel", "cut", "(JJ)V"⟩, 28) := ⟨⟨by decide +kernel, by decide +kernel⟩, List.mem_of_getElem? (i := 736) (by decide +kernel), List.mem_of_getElem? (i := 967) (by decide +kernel), List.mem_of_getElem? (i := 968) (by decide +kernel)⟩
theorem lw_p41 : lw_okq (⟨"AreaCrossingsModel", "cutAt", "(III)V"⟩, 28) := ⟨⟨by decide +kernel, by decide +kernel⟩, List.mem_of_getElem? (i := 736) (by decide +kernel), List.mem_of_getElem? (i := 974) (by decide +kernel), List.mem_of_getElem? (i := 975) (by decide +kernel)⟩
theorem lw_p42 : lw_okq (⟨"AreaCrossingsModel", "hasAt", "(IIJJ)Z"⟩, 28) := ⟨⟨by decide +kernel, by decide +kernel⟩, List.mem_of_getElem? (i := 736) (by decide +kernel), List.mem_of_getElem? (i := 978) (by decide +kernel), List.mem_of_getElem? (i := 979) (by decide +kernel)⟩
theorem lw_p43 : lw_okq (⟨"AreaCrossingsModel", "add", "(IIII)V"⟩, 28) := ⟨⟨by decide +kernel, by decide +kernel⟩, List.mem_of_getElem? (i := 736) (by decide +kernel), List.mem_of_getElem? (i := 983) (by decide +kernel), List.mem_of_getElem? (i := 984) (by decide +kernel)⟩
theorem lw_p44 : lw_okq (⟨"AreaCrossingsModel", "within", "(II)J"⟩, 28) := ⟨⟨by decide +kernel, by decide +kernel⟩, List.mem_of_getElem? (i := 736) (by decide +kernel), List.mem_of_getElem? (i := 1002) (by decide +kernel), List.mem_of_getElem? (i := 1003) (by decide +kernel)⟩
theorem lw_p45 : lw_okq (⟨"AreaCrossingsModel", "isByArea", "(IJJJ)Z"⟩, 28) := ⟨⟨by decide +kernel, by decide +kernel⟩, List.mem_of_getElem? (i := 736) (by decide +kernel), List.mem_of_getElem? (i := 1016) (by decide +kernel), List.mem_of_getElem? (i := 1017) (by decide +kernel)⟩
theorem lw_p46 : lw_okq (⟨"AreaCrossingsModel", "isNear", "(IIJJJ)Z"⟩, 28) := ⟨⟨by decide +kernel, by decide +kernel⟩, List.mem_of_getElem? (i := 736) (by decide +kernel), List.mem_of_getElem? (i := 1020) (by decide +kernel), List.mem_of_getElem? (i := 1021) (by decide +kernel)⟩
def lw_privs_3 : List (MethodName × Nat) := [(⟨"AreaCrossingsModel", "rule", "(IIII)V"⟩, 28), (⟨"AreaCrossingsModel", "isBarred", "(IIJ)Z"⟩, 28), (⟨"AreaCrossingsModel", "isTrack", "(I)Z"⟩, 28), (⟨"AreaCrossingsModel", "counts", "(III)Z"⟩, 28), (⟨"AreaCrossingsModel", "isGap", "(I)Z"⟩, 28), (⟨"AreaCrossingsModel", "lasts", "(I)J"⟩, 28), (⟨"AreaCrossingsModel", "runPiece", "(IIII)V"⟩, 28), (⟨"AreaCrossingsModel", "stretch", "(II)V"⟩, 28), (⟨"AreaCrossingsModel", "cut", "(JJ)V"⟩, 28), (⟨"AreaCrossingsModel", "cutAt", "(III)V"⟩, 28), (⟨"AreaCrossingsModel", "hasAt", "(IIJJ)Z"⟩, 28), (⟨"AreaCrossingsModel", "add", "(IIII)V"⟩, 28), (⟨"AreaCrossingsModel", "within", "(II)J"⟩, 28), (⟨"AreaCrossingsModel", "isByArea", "(IJJJ)Z"⟩, 28), (⟨"AreaCrossingsModel", "isNear", "(IIJJJ)Z"⟩, 28)]
theorem lw_r3 : ∀ q ∈ lw_privs_3, lw_okq q := List.forall_mem_cons.mpr ⟨lw_p32, List.forall_mem_cons.mpr ⟨lw_p33, List.forall_mem_cons.mpr ⟨lw_p34, List.forall_mem_cons.mpr ⟨lw_p35, List.forall_mem_cons.mpr ⟨lw_p36, List.forall_mem_cons.mpr ⟨lw_p37, List.forall_mem_cons.mpr ⟨lw_p38, List.forall_mem_cons.mpr ⟨lw_p39, List.forall_mem_cons.mpr ⟨lw_p40, List.forall_mem_cons.mpr ⟨lw_p41, List.forall_mem_cons.mpr ⟨lw_p42, List.forall_mem_cons.mpr ⟨lw_p43, List.forall_mem_cons.mpr ⟨lw_p44, List.forall_mem_cons.mpr ⟨lw_p45, List.forall_mem_cons.mpr ⟨lw_p46, fun _ h => absurd h List.not_mem_nil⟩⟩⟩⟩⟩⟩⟩⟩⟩⟩⟩⟩⟩⟩⟩
def lw_privs : List (MethodName × Nat) := lw_privs_1 ++ (lw_privs_2 ++ (lw_privs_3))
def lw_tbl : List Cond := k2_sels lw_privs ++ tables_1
theorem lw_privs_ok : ∀ q ∈ lw_privs, lw_okq q := by
  show ∀ q ∈ lw_privs_1 ++ (lw_privs_2 ++ (lw_privs_3)), lw_okq q
  exact List.forall_mem_append.mpr ⟨lw_r1, List.forall_mem_append.mpr ⟨lw_r2, lw_r3⟩⟩
-- ===== end of PART A; then your names; then what follows =====
/-! ===== BEGIN words of one list among another's, by their places ===== -/
theorem goodIn_r {big : List Cond} (ws : List Cond) (ps : List Nat) (hp : ws = ps.filterMap (fun i => big[i]?)) (h : ws.all goodWord = true) : GoodIn big ws := by
  intro w hw
  have h1 := List.all_eq_true.mp h w hw
  rw [hp] at hw
  obtain ⟨i, -, hi⟩ := List.mem_filterMap.mp hw
  have hm : w ∈ big := by first | exact List.mem_of_getElem? hi | exact List.getElem?_mem hi
  exact ⟨hm, good_of_word h1⟩
theorem goodIn_app {big a b : List Cond} (ha : GoodIn big a) (hb : GoodIn big b) : GoodIn big (a ++ b) := fun w h => (List.mem_append.mp h).elim (ha w) (hb w)
theorem goodIn_ca {big a b : List Cond} {c : Cond} (ha : GoodIn big (c :: a)) (hb : GoodIn big b) : GoodIn big (c :: (a ++ b)) := fun w h => (List.mem_cons.mp h).elim (fun e => ha w (List.mem_cons.mpr (Or.inl e))) (fun h => (List.mem_append.mp h).elim (fun h => ha w (List.mem_cons.mpr (Or.inr h))) (hb w))
theorem goodIn_sub {big ws : List Cond} (hm : ∀ w ∈ ws, w ∈ big) (h : ws.all goodWord = true) : GoodIn big ws := fun w hw => ⟨hm w hw, good_of_word (List.all_eq_true.mp h w hw)⟩
/-! ===== END ===== -/

/-! ===== BEGIN printed: names, fields, word lists, decode rows ===== -/
def RX0 : String := "AreaCrossings$Area"
def TX0 : u_T := fun k => match k with
  | 0 => ("AreaCrossings$Area", "rings", "[LAreaCrossings$Ring;", true)
  | 1 => ("AreaCrossings$Area", "closed", "I", false)
  | 2 => ("AreaCrossings$Area", "making", "Z", false)
  | _ => ("AreaCrossings$Area", "fastFrom", "J", false)
def tyX0 : Nat → FieldType := fun k => match k with
  | 0 => .array (.object "AreaCrossings$Ring")
  | 1 => .int
  | 2 => .boolean
  | _ => .long
abbrev wsX00 : List Cond := u_ws RX0 TX0 4
theorem nmX0 : ∀ a, a < 4 → ∀ b, b < 4 → a ≠ b → (TX0 a).2.1 ≠ (TX0 b).2.1 := by decide +kernel
theorem tyX0_ok : ∀ k, k < 4 → parseFieldDescriptor (TX0 k).2.2.1 = some (tyX0 k) := by decide +kernel
abbrev cX0_init : ByteArray := prog_2_method_1_code
def yX0_init : MethodName := ⟨RX0, "<init>", "()V"⟩
abbrev cX0_isThere : ByteArray := prog_2_method_2_code
def yX0_isThere : MethodName := ⟨RX0, "isThere", "()Z"⟩
abbrev cX0_isUntouched : ByteArray := prog_2_method_3_code
def yX0_isUntouched : MethodName := ⟨RX0, "isUntouched", "()Z"⟩
abbrev cX0_outer : ByteArray := prog_2_method_4_code
def yX0_outer : MethodName := ⟨RX0, "outer", "()LAreaCrossings$Ring;"⟩
abbrev cX0_closedRings : ByteArray := prog_2_method_5_code
def yX0_closedRings : MethodName := ⟨RX0, "closedRings", "()I"⟩
abbrev cX0_ringOf : ByteArray := prog_2_method_6_code
def yX0_ringOf : MethodName := ⟨RX0, "ringOf", "(I)LAreaCrossings$Ring;"⟩
abbrev cX0_fastFrom : ByteArray := prog_2_method_7_code
def yX0_fastFrom : MethodName := ⟨RX0, "fastFrom", "()J"⟩
abbrev cX0_setFastFrom : ByteArray := prog_2_method_8_code
def yX0_setFastFrom : MethodName := ⟨RX0, "setFastFrom", "(J)V"⟩
abbrev cX0_addCorner : ByteArray := prog_2_method_9_code
def yX0_addCorner : MethodName := ⟨RX0, "addCorner", "(II)Z"⟩
abbrev cX0_beingMade : ByteArray := prog_2_method_10_code
def yX0_beingMade : MethodName := ⟨RX0, "beingMade", "()LAreaCrossings$Ring;"⟩
abbrev cX0_beginHole : ByteArray := prog_2_method_11_code
def yX0_beginHole : MethodName := ⟨RX0, "beginHole", "()Z"⟩
abbrev cX0_closeRing : ByteArray := prog_2_method_12_code
def yX0_closeRing : MethodName := ⟨RX0, "closeRing", "()Z"⟩
abbrev cX0_fitsAsHole : ByteArray := prog_2_method_13_code
def yX0_fitsAsHole : MethodName := ⟨RX0, "fitsAsHole", "(LAreaCrossings$Ring;)Z"⟩
abbrev cX0_becomeSquare : ByteArray := prog_2_method_14_code
def yX0_becomeSquare : MethodName := ⟨RX0, "becomeSquare", "(III)V"⟩
abbrev cX0_contains : ByteArray := prog_2_method_15_code
def yX0_contains : MethodName := ⟨RX0, "contains", "(JJJ)Z"⟩
abbrev cX0_isInOrNear : ByteArray := prog_2_method_16_code
def yX0_isInOrNear : MethodName := ⟨RX0, "isInOrNear", "(JJJ)Z"⟩
def RX1 : String := "AreaCrossings$Crossings"
def TX1 : u_T := fun k => match k with
  | 0 => ("AreaCrossings$Crossings", "pieces", "[I", true)
  | 1 => ("AreaCrossings$Crossings", "areas", "[I", true)
  | 2 => ("AreaCrossings$Crossings", "entering", "[Z", true)
  | 3 => ("AreaCrossings$Crossings", "overs", "[J", true)
  | 4 => ("AreaCrossings$Crossings", "unders", "[J", true)
  | _ => ("AreaCrossings$Crossings", "size", "I", false)
def tyX1 : Nat → FieldType := fun k => match k with
  | 0 => .array .int
  | 1 => .array .int
  | 2 => .array .boolean
  | 3 => .array .long
  | 4 => .array .long
  | _ => .int
abbrev wsX10 : List Cond := u_ws RX1 TX1 6
theorem nmX1 : ∀ a, a < 6 → ∀ b, b < 6 → a ≠ b → (TX1 a).2.1 ≠ (TX1 b).2.1 := by decide +kernel
theorem tyX1_ok : ∀ k, k < 6 → parseFieldDescriptor (TX1 k).2.2.1 = some (tyX1 k) := by decide +kernel
abbrev cX1_init : ByteArray := prog_3_method_1_code
def yX1_init : MethodName := ⟨RX1, "<init>", "()V"⟩
abbrev cX1_clear : ByteArray := prog_3_method_2_code
def yX1_clear : MethodName := ⟨RX1, "clear", "()V"⟩
abbrev cX1_size : ByteArray := prog_3_method_3_code
def yX1_size : MethodName := ⟨RX1, "size", "()I"⟩
abbrev cX1_has : ByteArray := prog_3_method_4_code
def yX1_has : MethodName := ⟨RX1, "has", "(I)Z"⟩
abbrev cX1_add : ByteArray := prog_3_method_5_code
def yX1_add : MethodName := ⟨RX1, "add", "(IIZJJ)Z"⟩
abbrev cX1_pieceOf : ByteArray := prog_3_method_6_code
def yX1_pieceOf : MethodName := ⟨RX1, "pieceOf", "(I)I"⟩
abbrev cX1_areaOf : ByteArray := prog_3_method_7_code
def yX1_areaOf : MethodName := ⟨RX1, "areaOf", "(I)I"⟩
abbrev cX1_isEntering : ByteArray := prog_3_method_8_code
def yX1_isEntering : MethodName := ⟨RX1, "isEntering", "(I)Z"⟩
abbrev cX1_overOf : ByteArray := prog_3_method_9_code
def yX1_overOf : MethodName := ⟨RX1, "overOf", "(I)J"⟩
abbrev cX1_underOf : ByteArray := prog_3_method_10_code
def yX1_underOf : MethodName := ⟨RX1, "underOf", "(I)J"⟩
def RX2 : String := "AreaCrossings$Ring"
def TX2 : u_T := fun k => match k with
  | 0 => ("AreaCrossings$Ring", "xs", "[I", true)
  | 1 => ("AreaCrossings$Ring", "ys", "[I", true)
  | _ => ("AreaCrossings$Ring", "size", "I", false)
def tyX2 : Nat → FieldType := fun k => match k with
  | 0 => .array .int
  | 1 => .array .int
  | _ => .int
abbrev wsX20 : List Cond := u_ws RX2 TX2 3
theorem nmX2 : ∀ a, a < 3 → ∀ b, b < 3 → a ≠ b → (TX2 a).2.1 ≠ (TX2 b).2.1 := by decide +kernel
theorem tyX2_ok : ∀ k, k < 3 → parseFieldDescriptor (TX2 k).2.2.1 = some (tyX2 k) := by decide +kernel
abbrev cX2_init : ByteArray := prog_4_method_1_code
def yX2_init : MethodName := ⟨RX2, "<init>", "()V"⟩
abbrev cX2_size : ByteArray := prog_4_method_2_code
def yX2_size : MethodName := ⟨RX2, "size", "()I"⟩
abbrev cX2_clear : ByteArray := prog_4_method_3_code
def yX2_clear : MethodName := ⟨RX2, "clear", "()V"⟩
abbrev cX2_add : ByteArray := prog_4_method_4_code
def yX2_add : MethodName := ⟨RX2, "add", "(II)Z"⟩
abbrev cX2_xOf : ByteArray := prog_4_method_5_code
def yX2_xOf : MethodName := ⟨RX2, "xOf", "(I)I"⟩
abbrev cX2_yOf : ByteArray := prog_4_method_6_code
def yX2_yOf : MethodName := ⟨RX2, "yOf", "(I)I"⟩
abbrev cX2_next : ByteArray := prog_4_method_7_code
def yX2_next : MethodName := ⟨RX2, "next", "(I)I"⟩
abbrev cX2_isSimple : ByteArray := prog_4_method_8_code
def yX2_isSimple : MethodName := ⟨RX2, "isSimple", "()Z"⟩
abbrev cX2_foldsBackAt : ByteArray := prog_4_method_9_code
def yX2_foldsBackAt : MethodName := ⟨RX2, "foldsBackAt", "(III)Z"⟩
abbrev cX2_meets : ByteArray := prog_4_method_10_code
def yX2_meets : MethodName := ⟨RX2, "meets", "(LAreaCrossings$Ring;)Z"⟩
abbrev cX2_sidesMeet : ByteArray := prog_4_method_11_code
def yX2_sidesMeet : MethodName := ⟨RX2, "sidesMeet", "(ILAreaCrossings$Ring;I)Z"⟩
abbrev cX2_areOpposite : ByteArray := prog_4_method_12_code
def yX2_areOpposite : MethodName := ⟨RX2, "areOpposite", "(JJ)Z"⟩
abbrev cX2_turn : ByteArray := prog_4_method_13_code
def yX2_turn : MethodName := ⟨RX2, "turn", "(IJJJ)J"⟩
abbrev cX2_spans : ByteArray := prog_4_method_14_code
def yX2_spans : MethodName := ⟨RX2, "spans", "(IJJJ)Z"⟩
abbrev cX2_locate : ByteArray := prog_4_method_15_code
def yX2_locate : MethodName := ⟨RX2, "locate", "(JJJ)I"⟩
abbrev cX2_holdsFirstCornerOf : ByteArray := prog_4_method_16_code
def yX2_holdsFirstCornerOf : MethodName := ⟨RX2, "holdsFirstCornerOf", "(LAreaCrossings$Ring;)Z"⟩
abbrev cX2_isNear : ByteArray := prog_4_method_17_code
def yX2_isNear : MethodName := ⟨RX2, "isNear", "(JJJ)Z"⟩
abbrev cX2_isSideNear : ByteArray := prog_4_method_18_code
def yX2_isSideNear : MethodName := ⟨RX2, "isSideNear", "(IJJJ)Z"⟩
abbrev cX2_reachesX : ByteArray := prog_4_method_19_code
def yX2_reachesX : MethodName := ⟨RX2, "reachesX", "(JJ)Z"⟩
abbrev cX2_reachesY : ByteArray := prog_4_method_20_code
def yX2_reachesY : MethodName := ⟨RX2, "reachesY", "(JJ)Z"⟩
abbrev cX2_reaches : ByteArray := prog_4_method_21_code
def yX2_reaches : MethodName := ⟨RX2, "reaches", "([IJJ)Z"⟩
def RX3 : String := "AreaCrossings$Rules"
def TX3 : u_T := fun k => match k with
  | 0 => ("AreaCrossings$Rules", "areaOf", "[I", true)
  | 1 => ("AreaCrossings$Rules", "gearOf", "[I", true)
  | 2 => ("AreaCrossings$Rules", "firstDayOf", "[I", true)
  | 3 => ("AreaCrossings$Rules", "lastDayOf", "[I", true)
  | _ => ("AreaCrossings$Rules", "size", "I", false)
def tyX3 : Nat → FieldType := fun k => match k with
  | 0 => .array .int
  | 1 => .array .int
  | 2 => .array .int
  | 3 => .array .int
  | _ => .int
abbrev wsX30 : List Cond := u_ws RX3 TX3 5
theorem nmX3 : ∀ a, a < 5 → ∀ b, b < 5 → a ≠ b → (TX3 a).2.1 ≠ (TX3 b).2.1 := by decide +kernel
theorem tyX3_ok : ∀ k, k < 5 → parseFieldDescriptor (TX3 k).2.2.1 = some (tyX3 k) := by decide +kernel
abbrev cX3_init : ByteArray := prog_5_method_1_code
def yX3_init : MethodName := ⟨RX3, "<init>", "()V"⟩
abbrev cX3_room : ByteArray := prog_5_method_2_code
def yX3_room : MethodName := ⟨RX3, "room", "()I"⟩
abbrev cX3_add : ByteArray := prog_5_method_3_code
def yX3_add : MethodName := ⟨RX3, "add", "(IIII)Z"⟩
abbrev cX3_bar : ByteArray := prog_5_method_4_code
def yX3_bar : MethodName := ⟨RX3, "bar", "(IIJ)Z"⟩
abbrev cX3_barAny : ByteArray := prog_5_method_5_code
def yX3_barAny : MethodName := ⟨RX3, "barAny", "(IJ)Z"⟩
abbrev cX3_applies : ByteArray := prog_5_method_6_code
def yX3_applies : MethodName := ⟨RX3, "applies", "(IIJ)Z"⟩
def RX4 : String := "AreaCrossings$Stretches"
def TX4 : u_T := fun k => match k with
  | 0 => ("AreaCrossings$Stretches", "overs", "[J", true)
  | 1 => ("AreaCrossings$Stretches", "unders", "[J", true)
  | 2 => ("AreaCrossings$Stretches", "cuts", "I", false)
  | 3 => ("AreaCrossings$Stretches", "begins", "[I", true)
  | 4 => ("AreaCrossings$Stretches", "ends", "[I", true)
  | 5 => ("AreaCrossings$Stretches", "size", "I", false)
  | 6 => ("AreaCrossings$Stretches", "fromX", "J", false)
  | 7 => ("AreaCrossings$Stretches", "fromY", "J", false)
  | 8 => ("AreaCrossings$Stretches", "alongX", "J", false)
  | _ => ("AreaCrossings$Stretches", "alongY", "J", false)
def tyX4 : Nat → FieldType := fun k => match k with
  | 0 => .array .long
  | 1 => .array .long
  | 2 => .int
  | 3 => .array .int
  | 4 => .array .int
  | 5 => .int
  | 6 => .long
  | 7 => .long
  | 8 => .long
  | _ => .long
abbrev wsX40 : List Cond := u_ws RX4 TX4 10
theorem nmX4 : ∀ a, a < 10 → ∀ b, b < 10 → a ≠ b → (TX4 a).2.1 ≠ (TX4 b).2.1 := by decide +kernel
theorem tyX4_ok : ∀ k, k < 10 → parseFieldDescriptor (TX4 k).2.2.1 = some (tyX4 k) := by decide +kernel
abbrev cX4_init : ByteArray := prog_6_method_1_code
def yX4_init : MethodName := ⟨RX4, "<init>", "()V"⟩
abbrev cX4_find : ByteArray := prog_6_method_2_code
def yX4_find : MethodName := ⟨RX4, "find", "(LAreaCrossings$Area;LAreaCrossings$Track;I)V"⟩
abbrev cX4_cutPiece : ByteArray := prog_6_method_3_code
def yX4_cutPiece : MethodName := ⟨RX4, "cutPiece", "(LAreaCrossings$Area;LAreaCrossings$Track;I)V"⟩
abbrev cX4_cutAtSide : ByteArray := prog_6_method_4_code
def yX4_cutAtSide : MethodName := ⟨RX4, "cutAtSide", "(LAreaCrossings$Ring;I)V"⟩
abbrev cX4_isShare : ByteArray := prog_6_method_5_code
def yX4_isShare : MethodName := ⟨RX4, "isShare", "(JJ)Z"⟩
abbrev cX4_addCut : ByteArray := prog_6_method_6_code
def yX4_addCut : MethodName := ⟨RX4, "addCut", "(JJ)V"⟩
abbrev cX4_greatestDivisor : ByteArray := prog_6_method_7_code
def yX4_greatestDivisor : MethodName := ⟨RX4, "greatestDivisor", "(JJ)J"⟩
abbrev cX4_middleOver : ByteArray := prog_6_method_8_code
def yX4_middleOver : MethodName := ⟨RX4, "middleOver", "(I)J"⟩
abbrev cX4_middleUnder : ByteArray := prog_6_method_9_code
def yX4_middleUnder : MethodName := ⟨RX4, "middleUnder", "(I)J"⟩
abbrev cX4_isIn : ByteArray := prog_6_method_10_code
def yX4_isIn : MethodName := ⟨RX4, "isIn", "(LAreaCrossings$Area;JJ)Z"⟩
abbrev cX4_size : ByteArray := prog_6_method_11_code
def yX4_size : MethodName := ⟨RX4, "size", "()I"⟩
abbrev cX4_beginOf : ByteArray := prog_6_method_12_code
def yX4_beginOf : MethodName := ⟨RX4, "beginOf", "(I)I"⟩
abbrev cX4_endOf : ByteArray := prog_6_method_13_code
def yX4_endOf : MethodName := ⟨RX4, "endOf", "(I)I"⟩
abbrev cX4_isPieceBegin : ByteArray := prog_6_method_14_code
def yX4_isPieceBegin : MethodName := ⟨RX4, "isPieceBegin", "(I)Z"⟩
abbrev cX4_isPieceEnd : ByteArray := prog_6_method_15_code
def yX4_isPieceEnd : MethodName := ⟨RX4, "isPieceEnd", "(I)Z"⟩
abbrev cX4_overOf : ByteArray := prog_6_method_16_code
def yX4_overOf : MethodName := ⟨RX4, "overOf", "(I)J"⟩
abbrev cX4_underOf : ByteArray := prog_6_method_17_code
def yX4_underOf : MethodName := ⟨RX4, "underOf", "(I)J"⟩
abbrev cX4_shareOf : ByteArray := prog_6_method_18_code
def yX4_shareOf : MethodName := ⟨RX4, "shareOf", "(IJ)J"⟩
def RX5 : String := "AreaCrossings$Track"
def TX5 : u_T := fun k => match k with
  | 0 => ("AreaCrossings$Track", "seconds", "[J", true)
  | 1 => ("AreaCrossings$Track", "xs", "[I", true)
  | 2 => ("AreaCrossings$Track", "ys", "[I", true)
  | _ => ("AreaCrossings$Track", "size", "I", false)
def tyX5 : Nat → FieldType := fun k => match k with
  | 0 => .array .long
  | 1 => .array .int
  | 2 => .array .int
  | _ => .int
abbrev wsX50 : List Cond := u_ws RX5 TX5 4
theorem nmX5 : ∀ a, a < 4 → ∀ b, b < 4 → a ≠ b → (TX5 a).2.1 ≠ (TX5 b).2.1 := by decide +kernel
theorem tyX5_ok : ∀ k, k < 4 → parseFieldDescriptor (TX5 k).2.2.1 = some (tyX5 k) := by decide +kernel
abbrev cX5_init : ByteArray := prog_7_method_1_code
def yX5_init : MethodName := ⟨RX5, "<init>", "()V"⟩
abbrev cX5_add : ByteArray := prog_7_method_2_code
def yX5_add : MethodName := ⟨RX5, "add", "(JII)Z"⟩
abbrev cX5_places : ByteArray := prog_7_method_3_code
def yX5_places : MethodName := ⟨RX5, "places", "()I"⟩
abbrev cX5_pieces : ByteArray := prog_7_method_4_code
def yX5_pieces : MethodName := ⟨RX5, "pieces", "()I"⟩
abbrev cX5_hasPiece : ByteArray := prog_7_method_5_code
def yX5_hasPiece : MethodName := ⟨RX5, "hasPiece", "(I)Z"⟩
abbrev cX5_xOf : ByteArray := prog_7_method_6_code
def yX5_xOf : MethodName := ⟨RX5, "xOf", "(I)I"⟩
abbrev cX5_yOf : ByteArray := prog_7_method_7_code
def yX5_yOf : MethodName := ⟨RX5, "yOf", "(I)I"⟩
abbrev cX5_secondsOf : ByteArray := prog_7_method_8_code
def yX5_secondsOf : MethodName := ⟨RX5, "secondsOf", "(I)J"⟩
abbrev cX5_hoursBegunOf : ByteArray := prog_7_method_9_code
def yX5_hoursBegunOf : MethodName := ⟨RX5, "hoursBegunOf", "(I)J"⟩
abbrev cX5_dayOf : ByteArray := prog_7_method_10_code
def yX5_dayOf : MethodName := ⟨RX5, "dayOf", "(I)J"⟩
abbrev cX5_isGap : ByteArray := prog_7_method_11_code
def yX5_isGap : MethodName := ⟨RX5, "isGap", "(I)Z"⟩
abbrev cX5_pieceOfGap : ByteArray := prog_7_method_12_code
def yX5_pieceOfGap : MethodName := ⟨RX5, "pieceOfGap", "(I)I"⟩
abbrev cX5_isFast : ByteArray := prog_7_method_13_code
def yX5_isFast : MethodName := ⟨RX5, "isFast", "(IJ)Z"⟩
def RX6 : String := "AreaCrossings"
def TX6 : u_T := fun k => match k with
  | 0 => ("AreaCrossings", "areas", "[LAreaCrossings$Area;", true)
  | 1 => ("AreaCrossings", "rules", "LAreaCrossings$Rules;", true)
  | 2 => ("AreaCrossings", "tracks", "[LAreaCrossings$Track;", true)
  | 3 => ("AreaCrossings", "trackCount", "I", false)
  | 4 => ("AreaCrossings", "stretches", "LAreaCrossings$Stretches;", true)
  | 5 => ("AreaCrossings", "last", "LAreaCrossings$Crossings;", false)
  | _ => ("AreaCrossings", "spare", "LAreaCrossings$Crossings;", false)
def tyX6 : Nat → FieldType := fun k => match k with
  | 0 => .array (.object "AreaCrossings$Area")
  | 1 => .object "AreaCrossings$Rules"
  | 2 => .array (.object "AreaCrossings$Track")
  | 3 => .int
  | 4 => .object "AreaCrossings$Stretches"
  | 5 => .object "AreaCrossings$Crossings"
  | _ => .object "AreaCrossings$Crossings"
abbrev wsX60 : List Cond := u_ws RX6 TX6 7
theorem nmX6 : ∀ a, a < 7 → ∀ b, b < 7 → a ≠ b → (TX6 a).2.1 ≠ (TX6 b).2.1 := by decide +kernel
theorem tyX6_ok : ∀ k, k < 7 → parseFieldDescriptor (TX6 k).2.2.1 = some (tyX6 k) := by decide +kernel
abbrev cX6_init : ByteArray := prog_1_method_1_code
def yX6_init : MethodName := ⟨RX6, "<init>", "(I)V"⟩
abbrev cX6_corner : ByteArray := prog_1_method_2_code
def yX6_corner : MethodName := ⟨RX6, "corner", "(IJJ)Z"⟩
abbrev cX6_ring : ByteArray := prog_1_method_3_code
def yX6_ring : MethodName := ⟨RX6, "ring", "(I)Z"⟩
abbrev cX6_hole : ByteArray := prog_1_method_4_code
def yX6_hole : MethodName := ⟨RX6, "hole", "(I)Z"⟩
abbrev cX6_bars : ByteArray := prog_1_method_5_code
def yX6_bars : MethodName := ⟨RX6, "bars", "(IIII)Z"⟩
abbrev cX6_speed : ByteArray := prog_1_method_6_code
def yX6_speed : MethodName := ⟨RX6, "speed", "(IJ)Z"⟩
abbrev cX6_report : ByteArray := prog_1_method_7_code
def yX6_report : MethodName := ⟨RX6, "report", "(JJJI)I"⟩
abbrev cX6_track : ByteArray := prog_1_method_8_code
def yX6_track : MethodName := ⟨RX6, "track", "()I"⟩
abbrev cX6_place : ByteArray := prog_1_method_9_code
def yX6_place : MethodName := ⟨RX6, "place", "(IJJJ)Z"⟩
abbrev cX6_run : ByteArray := prog_1_method_10_code
def yX6_run : MethodName := ⟨RX6, "run", "(II)I"⟩
abbrev cX6_entry : ByteArray := prog_1_method_11_code
def yX6_entry : MethodName := ⟨RX6, "entry", "(II)J"⟩
abbrev cX6_side : ByteArray := prog_1_method_12_code
def yX6_side : MethodName := ⟨RX6, "side", "(I)I"⟩
abbrev cX6_inside : ByteArray := prog_1_method_13_code
def yX6_inside : MethodName := ⟨RX6, "inside", "(III)J"⟩
abbrev cX6_maybe : ByteArray := prog_1_method_14_code
def yX6_maybe : MethodName := ⟨RX6, "maybe", "(II)Z"⟩
abbrev cX6_buffer : ByteArray := prog_1_method_15_code
def yX6_buffer : MethodName := ⟨RX6, "buffer", "(IJ)I"⟩
abbrev cX6_told : ByteArray := prog_1_method_16_code
def yX6_told : MethodName := ⟨RX6, "told", "(IJ)Z"⟩
abbrev cX6_overlap : ByteArray := prog_1_method_17_code
def yX6_overlap : MethodName := ⟨RX6, "overlap", "(II)I"⟩
abbrev cX6_cell : ByteArray := prog_1_method_18_code
def yX6_cell : MethodName := ⟨RX6, "cell", "(IIJ)I"⟩
abbrev cX6_isArea : ByteArray := prog_1_method_19_code
def yX6_isArea : MethodName := ⟨RX6, "isArea", "(I)Z"⟩
abbrev cX6_isThere : ByteArray := prog_1_method_20_code
def yX6_isThere : MethodName := ⟨RX6, "isThere", "(I)Z"⟩
abbrev cX6_isTrack : ByteArray := prog_1_method_21_code
def yX6_isTrack : MethodName := ⟨RX6, "isTrack", "(I)Z"⟩
abbrev cX6_isGear : ByteArray := prog_1_method_22_code
def yX6_isGear : MethodName := ⟨RX6, "isGear", "(I)Z"⟩
abbrev cX6_isPlace : ByteArray := prog_1_method_23_code
def yX6_isPlace : MethodName := ⟨RX6, "isPlace", "(JJ)Z"⟩
abbrev cX6_isCoordinate : ByteArray := prog_1_method_24_code
def yX6_isCoordinate : MethodName := ⟨RX6, "isCoordinate", "(J)Z"⟩
abbrev cX6_firstUntouchedArea : ByteArray := prog_1_method_25_code
def yX6_firstUntouchedArea : MethodName := ⟨RX6, "firstUntouchedArea", "()I"⟩
abbrev cX6_counts : ByteArray := prog_1_method_26_code
def yX6_counts : MethodName := ⟨RX6, "counts", "(IILAreaCrossings$Track;I)Z"⟩
abbrev cX6_noteCrossings : ByteArray := prog_1_method_27_code
def yX6_noteCrossings : MethodName := ⟨RX6, "noteCrossings", "(IILAreaCrossings$Track;I)Z"⟩
abbrev cX6_thousandthsIn : ByteArray := prog_1_method_28_code
def yX6_thousandthsIn : MethodName := ⟨RX6, "thousandthsIn", "(LAreaCrossings$Area;LAreaCrossings$Track;I)J"⟩
abbrev cX6_mayHaveBeenNear : ByteArray := prog_1_method_29_code
def yX6_mayHaveBeenNear : MethodName := ⟨RX6, "mayHaveBeenNear", "(LAreaCrossings$Area;LAreaCrossings$Track;I)Z"⟩
def RX7 : String := "AreaCrossingsModel"
def TX7 : u_T := fun k => match k with
  | 0 => ("AreaCrossingsModel", "code", "I", false)
  | 1 => ("AreaCrossingsModel", "areas", "I", false)
  | 2 => ("AreaCrossingsModel", "xs", "[J", true)
  | 3 => ("AreaCrossingsModel", "ys", "[J", true)
  | 4 => ("AreaCrossingsModel", "sizes", "[I", true)
  | 5 => ("AreaCrossingsModel", "closed", "[I", true)
  | 6 => ("AreaCrossingsModel", "making", "[Z", true)
  | 7 => ("AreaCrossingsModel", "speeds", "[J", true)
  | 8 => ("AreaCrossingsModel", "rules", "I", false)
  | 9 => ("AreaCrossingsModel", "ruleArea", "[I", true)
  | 10 => ("AreaCrossingsModel", "ruleGear", "[I", true)
  | 11 => ("AreaCrossingsModel", "ruleFrom", "[I", true)
  | 12 => ("AreaCrossingsModel", "ruleTo", "[I", true)
  | 13 => ("AreaCrossingsModel", "tracks", "I", false)
  | 14 => ("AreaCrossingsModel", "places", "[I", true)
  | 15 => ("AreaCrossingsModel", "seconds", "[J", true)
  | 16 => ("AreaCrossingsModel", "px", "[J", true)
  | 17 => ("AreaCrossingsModel", "py", "[J", true)
  | 18 => ("AreaCrossingsModel", "many", "I", false)
  | 19 => ("AreaCrossingsModel", "told", "[J", true)
  | 20 => ("AreaCrossingsModel", "drafts", "I", false)
  | 21 => ("AreaCrossingsModel", "draft", "[J", true)
  | 22 => ("AreaCrossingsModel", "cuts", "I", false)
  | 23 => ("AreaCrossingsModel", "up", "[J", true)
  | 24 => ("AreaCrossingsModel", "low", "[J", true)
  | 25 => ("AreaCrossingsModel", "stretches", "I", false)
  | 26 => ("AreaCrossingsModel", "begins", "[I", true)
  | _ => ("AreaCrossingsModel", "ends", "[I", true)
def tyX7 : Nat → FieldType := fun k => match k with
  | 0 => .int
  | 1 => .int
  | 2 => .array .long
  | 3 => .array .long
  | 4 => .array .int
  | 5 => .array .int
  | 6 => .array .boolean
  | 7 => .array .long
  | 8 => .int
  | 9 => .array .int
  | 10 => .array .int
  | 11 => .array .int
  | 12 => .array .int
  | 13 => .int
  | 14 => .array .int
  | 15 => .array .long
  | 16 => .array .long
  | 17 => .array .long
  | 18 => .int
  | 19 => .array .long
  | 20 => .int
  | 21 => .array .long
  | 22 => .int
  | 23 => .array .long
  | 24 => .array .long
  | 25 => .int
  | 26 => .array .int
  | _ => .array .int
abbrev wsX70 : List Cond := u_ws RX7 TX7 28
theorem nmX7 : ∀ a, a < 28 → ∀ b, b < 28 → a ≠ b → (TX7 a).2.1 ≠ (TX7 b).2.1 := by decide +kernel
theorem tyX7_ok : ∀ k, k < 28 → parseFieldDescriptor (TX7 k).2.2.1 = some (tyX7 k) := by decide +kernel
abbrev cX7_init : ByteArray := prog_9_method_1_code
def yX7_init : MethodName := ⟨RX7, "<init>", "(I)V"⟩
abbrev cX7_thrown : ByteArray := prog_9_method_2_code
def yX7_thrown : MethodName := ⟨RX7, "thrown", "()I"⟩
abbrev cX7_isIn : ByteArray := prog_9_method_3_code
def yX7_isIn : MethodName := ⟨RX7, "isIn", "(JJJ)Z"⟩
abbrev cX7_isArea : ByteArray := prog_9_method_4_code
def yX7_isArea : MethodName := ⟨RX7, "isArea", "(I)Z"⟩
abbrev cX7_isThere : ByteArray := prog_9_method_5_code
def yX7_isThere : MethodName := ⟨RX7, "isThere", "(I)Z"⟩
abbrev cX7_signOf : ByteArray := prog_9_method_6_code
def yX7_signOf : MethodName := ⟨RX7, "signOf", "(J)I"⟩
abbrev cX7_less : ByteArray := prog_9_method_7_code
def yX7_less : MethodName := ⟨RX7, "less", "(JJ)J"⟩
abbrev cX7_more : ByteArray := prog_9_method_8_code
def yX7_more : MethodName := ⟨RX7, "more", "(JJ)J"⟩
abbrev cX7_divisor : ByteArray := prog_9_method_9_code
def yX7_divisor : MethodName := ⟨RX7, "divisor", "(JJ)J"⟩
abbrev cX7_at : ByteArray := prog_9_method_10_code
def yX7_at : MethodName := ⟨RX7, "at", "(II)I"⟩
abbrev cX7_wayOf : ByteArray := prog_9_method_11_code
def yX7_wayOf : MethodName := ⟨RX7, "wayOf", "(JJJJJJ)I"⟩
abbrev cX7_isBetween : ByteArray := prog_9_method_12_code
def yX7_isBetween : MethodName := ⟨RX7, "isBetween", "(JJJJJJ)Z"⟩
abbrev cX7_doMeet : ByteArray := prog_9_method_13_code
def yX7_doMeet : MethodName := ⟨RX7, "doMeet", "(IIII)Z"⟩
abbrev cX7_doFold : ByteArray := prog_9_method_14_code
def yX7_doFold : MethodName := ⟨RX7, "doFold", "(III)Z"⟩
abbrev cX7_isSimple : ByteArray := prog_9_method_15_code
def yX7_isSimple : MethodName := ⟨RX7, "isSimple", "(I)Z"⟩
abbrev cX7_ringsMeet : ByteArray := prog_9_method_16_code
def yX7_ringsMeet : MethodName := ⟨RX7, "ringsMeet", "(II)Z"⟩
abbrev cX7_where : ByteArray := prog_9_method_17_code
def yX7_where : MethodName := ⟨RX7, "where", "(IJJJ)I"⟩
abbrev cX7_has : ByteArray := prog_9_method_18_code
def yX7_has : MethodName := ⟨RX7, "has", "(IJJJ)Z"⟩
abbrev cX7_corner : ByteArray := prog_9_method_19_code
def yX7_corner : MethodName := ⟨RX7, "corner", "(IJJ)Z"⟩
abbrev cX7_ring : ByteArray := prog_9_method_20_code
def yX7_ring : MethodName := ⟨RX7, "ring", "(I)Z"⟩
abbrev cX7_hole : ByteArray := prog_9_method_21_code
def yX7_hole : MethodName := ⟨RX7, "hole", "(I)Z"⟩
abbrev cX7_rule : ByteArray := prog_9_method_22_code
def yX7_rule : MethodName := ⟨RX7, "rule", "(IIII)V"⟩
abbrev cX7_bars : ByteArray := prog_9_method_23_code
def yX7_bars : MethodName := ⟨RX7, "bars", "(IIII)Z"⟩
abbrev cX7_speed : ByteArray := prog_9_method_24_code
def yX7_speed : MethodName := ⟨RX7, "speed", "(IJ)Z"⟩
abbrev cX7_report : ByteArray := prog_9_method_25_code
def yX7_report : MethodName := ⟨RX7, "report", "(JJJI)I"⟩
abbrev cX7_isBarred : ByteArray := prog_9_method_26_code
def yX7_isBarred : MethodName := ⟨RX7, "isBarred", "(IIJ)Z"⟩
abbrev cX7_told : ByteArray := prog_9_method_27_code
def yX7_told : MethodName := ⟨RX7, "told", "(IJ)Z"⟩
abbrev cX7_track : ByteArray := prog_9_method_28_code
def yX7_track : MethodName := ⟨RX7, "track", "()I"⟩
abbrev cX7_isTrack : ByteArray := prog_9_method_29_code
def yX7_isTrack : MethodName := ⟨RX7, "isTrack", "(I)Z"⟩
abbrev cX7_place : ByteArray := prog_9_method_30_code
def yX7_place : MethodName := ⟨RX7, "place", "(IJJJ)Z"⟩
abbrev cX7_lasts : ByteArray := prog_9_method_31_code
def yX7_lasts : MethodName := ⟨RX7, "lasts", "(I)J"⟩
abbrev cX7_isGap : ByteArray := prog_9_method_32_code
def yX7_isGap : MethodName := ⟨RX7, "isGap", "(I)Z"⟩
abbrev cX7_counts : ByteArray := prog_9_method_33_code
def yX7_counts : MethodName := ⟨RX7, "counts", "(III)Z"⟩
abbrev cX7_cut : ByteArray := prog_9_method_34_code
def yX7_cut : MethodName := ⟨RX7, "cut", "(JJ)V"⟩
abbrev cX7_cutAt : ByteArray := prog_9_method_35_code
def yX7_cutAt : MethodName := ⟨RX7, "cutAt", "(III)V"⟩
abbrev cX7_hasAt : ByteArray := prog_9_method_36_code
def yX7_hasAt : MethodName := ⟨RX7, "hasAt", "(IIJJ)Z"⟩
abbrev cX7_stretch : ByteArray := prog_9_method_37_code
def yX7_stretch : MethodName := ⟨RX7, "stretch", "(II)V"⟩
abbrev cX7_add : ByteArray := prog_9_method_38_code
def yX7_add : MethodName := ⟨RX7, "add", "(IIII)V"⟩
abbrev cX7_runPiece : ByteArray := prog_9_method_39_code
def yX7_runPiece : MethodName := ⟨RX7, "runPiece", "(IIII)V"⟩
abbrev cX7_run : ByteArray := prog_9_method_40_code
def yX7_run : MethodName := ⟨RX7, "run", "(II)I"⟩
abbrev cX7_entry : ByteArray := prog_9_method_41_code
def yX7_entry : MethodName := ⟨RX7, "entry", "(II)J"⟩
abbrev cX7_side : ByteArray := prog_9_method_42_code
def yX7_side : MethodName := ⟨RX7, "side", "(I)I"⟩
abbrev cX7_within : ByteArray := prog_9_method_43_code
def yX7_within : MethodName := ⟨RX7, "within", "(II)J"⟩
abbrev cX7_inside : ByteArray := prog_9_method_44_code
def yX7_inside : MethodName := ⟨RX7, "inside", "(III)J"⟩
abbrev cX7_maybe : ByteArray := prog_9_method_45_code
def yX7_maybe : MethodName := ⟨RX7, "maybe", "(II)Z"⟩
abbrev cX7_isNear : ByteArray := prog_9_method_46_code
def yX7_isNear : MethodName := ⟨RX7, "isNear", "(IIJJJ)Z"⟩
abbrev cX7_isByArea : ByteArray := prog_9_method_47_code
def yX7_isByArea : MethodName := ⟨RX7, "isByArea", "(IJJJ)Z"⟩
abbrev cX7_buffer : ByteArray := prog_9_method_48_code
def yX7_buffer : MethodName := ⟨RX7, "buffer", "(IJ)I"⟩
abbrev cX7_overlap : ByteArray := prog_9_method_49_code
def yX7_overlap : MethodName := ⟨RX7, "overlap", "(II)I"⟩
abbrev cX7_cell : ByteArray := prog_9_method_50_code
def yX7_cell : MethodName := ⟨RX7, "cell", "(IIJ)I"⟩
def RJx00060 : String := "java/lang/ArrayIndexOutOfBoundsException"
def TJx00060 : u_T := fun k => match k with
  | 0 => ("java/lang/Throwable", "cause", "Ljava/lang/Throwable;", false)
  | 1 => ("java/lang/Throwable", "stackTrace", "[Ljava/lang/StackTraceElement;", false)
  | 2 => ("java/lang/Throwable", "suppressedExceptions", "Ljava/util/List;", false)
  | 3 => ("java/lang/Throwable", "detailMessage", "Ljava/lang/String;", false)
  | 4 => ("java/lang/Throwable", "backtrace", "Ljava/lang/Object;", false)
  | _ => ("java/lang/Throwable", "depth", "I", false)
def tyJx00060 : Nat → FieldType := fun k => match k with
  | 0 => .object "java/lang/Throwable"
  | 1 => .array (.object "java/lang/StackTraceElement")
  | 2 => .object "java/util/List"
  | 3 => .object "java/lang/String"
  | 4 => .object "java/lang/Object"
  | _ => .int
abbrev wsJx000600 : List Cond := u_ws RJx00060 TJx00060 6
theorem nmJx00060 : ∀ a, a < 6 → ∀ b, b < 6 → a ≠ b → (TJx00060 a).2.1 ≠ (TJx00060 b).2.1 := by decide +kernel
theorem tyJx00060_ok : ∀ k, k < 6 → parseFieldDescriptor (TJx00060 k).2.2.1 = some (tyJx00060 k) := by decide +kernel
abbrev cJx00060_init_da8c8 : ByteArray := prog_10_method_1_code
def yJx00060_init_da8c8 : MethodName := ⟨RJx00060, "<init>", "()V"⟩
def RJ9 : String := "java/lang/Math"
def TJ9 : u_T := fun k => match k with
  | _ => ("", "", "", false)
def tyJ9 : Nat → FieldType := fun k => match k with
  | _ => .int
abbrev wsJ90 : List Cond := u_ws RJ9 TJ9 0
theorem nmJ9 : ∀ a, a < 0 → ∀ b, b < 0 → a ≠ b → (TJ9 a).2.1 ≠ (TJ9 b).2.1 := by decide +kernel
theorem tyJ9_ok : ∀ k, k < 0 → parseFieldDescriptor (TJ9 k).2.2.1 = some (tyJ9 k) := by decide +kernel
abbrev cJ9_max_7cf53 : ByteArray := prog_13_method_65_code
def yJ9_max_7cf53 : MethodName := ⟨RJ9, "max", "(II)I"⟩
abbrev cJ9_max_f86c9 : ByteArray := prog_13_method_66_code
def yJ9_max_f86c9 : MethodName := ⟨RJ9, "max", "(JJ)J"⟩
abbrev cJ9_min_7cf53 : ByteArray := prog_13_method_69_code
def yJ9_min_7cf53 : MethodName := ⟨RJ9, "min", "(II)I"⟩
abbrev cJ9_min_f86c9 : ByteArray := prog_13_method_70_code
def yJ9_min_f86c9 : MethodName := ⟨RJ9, "min", "(JJ)J"⟩
def RL : String := "AreaCrossingsLaw"
abbrev cL_cell : ByteArray := method_2_code
def yL_cell : MethodName := ⟨RL, "cell", "([II)I"⟩
abbrev cL_corner : ByteArray := method_3_code
def yL_corner : MethodName := ⟨RL, "corner", "(LAreaCrossings;IJJ[J)I"⟩
abbrev cL_law : ByteArray := code
def yL_law : MethodName := ⟨RL, "law", "([I)Z"⟩
theorem inX0 : ∀ w ∈ wsX00, w ∈ lw_tbl := by decide +kernel
theorem inX1 : ∀ w ∈ wsX10, w ∈ lw_tbl := by decide +kernel
theorem inX2 : ∀ w ∈ wsX20, w ∈ lw_tbl := by decide +kernel
theorem inX3 : ∀ w ∈ wsX30, w ∈ lw_tbl := by decide +kernel
theorem inX4 : ∀ w ∈ wsX40, w ∈ lw_tbl := by decide +kernel
theorem inX5 : ∀ w ∈ wsX50, w ∈ lw_tbl := by decide +kernel
theorem inX6 : ∀ w ∈ wsX60, w ∈ lw_tbl := by decide +kernel
theorem inX7 : ∀ w ∈ wsX70, w ∈ lw_tbl := by decide +kernel
theorem inJx00060 : ∀ w ∈ wsJx000600, w ∈ lw_tbl := by decide +kernel
theorem inJ9 : ∀ w ∈ wsJ90, w ∈ lw_tbl := by decide +kernel
abbrev vwCl : List vw_C := [(RJx00060, TJx00060, 6), (RX0, TX0, 4), (RX1, TX1, 6), (RX2, TX2, 3), (RX3, TX3, 5), (RX4, TX4, 10), (RX5, TX5, 4), (RX6, TX6, 7), (RX7, TX7, 28)]
end
section
theorem dX0_init_0 : decode cX0_init 0 = .ok (.aload_n 0, 1) := by decide +kernel
theorem dX0_init_1 : decode cX0_init 1 = .ok (.invokespecial 1, 3) := by decide +kernel
theorem dX0_init_4 : decode cX0_init 4 = .ok (.aload_n 0, 1) := by decide +kernel
theorem dX0_init_5 : decode cX0_init 5 = .ok (.iconst 4, 1) := by decide +kernel
theorem dX0_init_6 : decode cX0_init 6 = .ok (.anewarray 9, 3) := by decide +kernel
theorem dX0_init_9 : decode cX0_init 9 = .ok (.putfield 11, 3) := by decide +kernel
theorem dX0_init_12 : decode cX0_init 12 = .ok (.aload_n 0, 1) := by decide +kernel
theorem dX0_init_13 : decode cX0_init 13 = .ok (.iconst 0, 1) := by decide +kernel
theorem dX0_init_14 : decode cX0_init 14 = .ok (.putfield 15, 3) := by decide +kernel
theorem dX0_init_17 : decode cX0_init 17 = .ok (.aload_n 0, 1) := by decide +kernel
theorem dX0_init_18 : decode cX0_init 18 = .ok (.iconst 1, 1) := by decide +kernel
theorem dX0_init_19 : decode cX0_init 19 = .ok (.putfield 19, 3) := by decide +kernel
theorem dX0_init_22 : decode cX0_init 22 = .ok (.aload_n 0, 1) := by decide +kernel
theorem dX0_init_23 : decode cX0_init 23 = .ok (.lconst 0, 1) := by decide +kernel
theorem dX0_init_24 : decode cX0_init 24 = .ok (.putfield 23, 3) := by decide +kernel
theorem dX0_init_27 : decode cX0_init 27 = .ok (.iconst 0, 1) := by decide +kernel
theorem dX0_init_28 : decode cX0_init 28 = .ok (.istore_n 1, 1) := by decide +kernel
theorem dX0_init_29 : decode cX0_init 29 = .ok (.iload_n 1, 1) := by decide +kernel
theorem dX0_init_30 : decode cX0_init 30 = .ok (.iconst 4, 1) := by decide +kernel
theorem dX0_init_31 : decode cX0_init 31 = .ok (.if_icmp .ge 22, 3) := by decide +kernel
theorem dX0_init_34 : decode cX0_init 34 = .ok (.aload_n 0, 1) := by decide +kernel
theorem dX0_init_35 : decode cX0_init 35 = .ok (.getfield 11, 3) := by decide +kernel
theorem dX0_init_38 : decode cX0_init 38 = .ok (.iload_n 1, 1) := by decide +kernel
theorem dX0_init_39 : decode cX0_init 39 = .ok (.new 9, 3) := by decide +kernel
theorem dX0_init_42 : decode cX0_init 42 = .ok (.dup, 1) := by decide +kernel
theorem dX0_init_43 : decode cX0_init 43 = .ok (.invokespecial 27, 3) := by decide +kernel
theorem dX0_init_46 : decode cX0_init 46 = .ok (.aastore, 1) := by decide +kernel
theorem dX0_init_47 : decode cX0_init 47 = .ok (.iinc 1 1, 3) := by decide +kernel
theorem dX0_init_50 : decode cX0_init 50 = .ok (.goto (-21), 3) := by decide +kernel
theorem dX0_init_53 : decode cX0_init 53 = .ok (.return_, 1) := by decide +kernel
theorem dX0_isThere_0 : decode cX0_isThere 0 = .ok (.aload_n 0, 1) := by decide +kernel
theorem dX0_isThere_1 : decode cX0_isThere 1 = .ok (.getfield 15, 3) := by decide +kernel
theorem dX0_isThere_4 : decode cX0_isThere 4 = .ok (.ifCond .le 7, 3) := by decide +kernel
theorem dX0_isThere_7 : decode cX0_isThere 7 = .ok (.iconst 1, 1) := by decide +kernel
theorem dX0_isThere_8 : decode cX0_isThere 8 = .ok (.goto 4, 3) := by decide +kernel
theorem dX0_isThere_11 : decode cX0_isThere 11 = .ok (.iconst 0, 1) := by decide +kernel
theorem dX0_isThere_12 : decode cX0_isThere 12 = .ok (.ireturn, 1) := by decide +kernel
theorem dX0_isUntouched_0 : decode cX0_isUntouched 0 = .ok (.aload_n 0, 1) := by decide +kernel
theorem dX0_isUntouched_1 : decode cX0_isUntouched 1 = .ok (.getfield 15, 3) := by decide +kernel
theorem dX0_isUntouched_4 : decode cX0_isUntouched 4 = .ok (.ifCond .ne 17, 3) := by decide +kernel
theorem dX0_isUntouched_7 : decode cX0_isUntouched 7 = .ok (.aload_n 0, 1) := by decide +kernel
theorem dX0_isUntouched_8 : decode cX0_isUntouched 8 = .ok (.invokevirtual 28, 3) := by decide +kernel
theorem dX0_isUntouched_11 : decode cX0_isUntouched 11 = .ok (.invokevirtual 32, 3) := by decide +kernel
theorem dX0_isUntouched_14 : decode cX0_isUntouched 14 = .ok (.ifCond .ne 7, 3) := by decide +kernel
theorem dX0_isUntouched_17 : decode cX0_isUntouched 17 = .ok (.iconst 1, 1) := by decide +kernel
theorem dX0_isUntouched_18 : decode cX0_isUntouched 18 = .ok (.goto 4, 3) := by decide +kernel
theorem dX0_isUntouched_21 : decode cX0_isUntouched 21 = .ok (.iconst 0, 1) := by decide +kernel
theorem dX0_isUntouched_22 : decode cX0_isUntouched 22 = .ok (.ireturn, 1) := by decide +kernel
theorem dX0_outer_0 : decode cX0_outer 0 = .ok (.aload_n 0, 1) := by decide +kernel
theorem dX0_outer_1 : decode cX0_outer 1 = .ok (.getfield 11, 3) := by decide +kernel
theorem dX0_outer_4 : decode cX0_outer 4 = .ok (.iconst 0, 1) := by decide +kernel
theorem dX0_outer_5 : decode cX0_outer 5 = .ok (.aaload, 1) := by decide +kernel
theorem dX0_outer_6 : decode cX0_outer 6 = .ok (.areturn, 1) := by decide +kernel
theorem dX0_closedRings_0 : decode cX0_closedRings 0 = .ok (.aload_n 0, 1) := by decide +kernel
theorem dX0_closedRings_1 : decode cX0_closedRings 1 = .ok (.getfield 15, 3) := by decide +kernel
theorem dX0_closedRings_4 : decode cX0_closedRings 4 = .ok (.ireturn, 1) := by decide +kernel
theorem dX0_ringOf_0 : decode cX0_ringOf 0 = .ok (.iload_n 1, 1) := by decide +kernel
theorem dX0_ringOf_1 : decode cX0_ringOf 1 = .ok (.ifCond .le 25, 3) := by decide +kernel
theorem dX0_ringOf_4 : decode cX0_ringOf 4 = .ok (.iload_n 1, 1) := by decide +kernel
theorem dX0_ringOf_5 : decode cX0_ringOf 5 = .ok (.aload_n 0, 1) := by decide +kernel
theorem dX0_ringOf_6 : decode cX0_ringOf 6 = .ok (.getfield 15, 3) := by decide +kernel
theorem dX0_ringOf_9 : decode cX0_ringOf 9 = .ok (.if_icmp .ge 17, 3) := by decide +kernel
theorem dX0_ringOf_12 : decode cX0_ringOf 12 = .ok (.iload_n 1, 1) := by decide +kernel
theorem dX0_ringOf_13 : decode cX0_ringOf 13 = .ok (.iconst 4, 1) := by decide +kernel
theorem dX0_ringOf_14 : decode cX0_ringOf 14 = .ok (.if_icmp .ge 12, 3) := by decide +kernel
theorem dX0_ringOf_17 : decode cX0_ringOf 17 = .ok (.aload_n 0, 1) := by decide +kernel
theorem dX0_ringOf_18 : decode cX0_ringOf 18 = .ok (.getfield 11, 3) := by decide +kernel
theorem dX0_ringOf_21 : decode cX0_ringOf 21 = .ok (.iload_n 1, 1) := by decide +kernel
theorem dX0_ringOf_22 : decode cX0_ringOf 22 = .ok (.aaload, 1) := by decide +kernel
theorem dX0_ringOf_23 : decode cX0_ringOf 23 = .ok (.goto 9, 3) := by decide +kernel
theorem dX0_ringOf_26 : decode cX0_ringOf 26 = .ok (.aload_n 0, 1) := by decide +kernel
theorem dX0_ringOf_27 : decode cX0_ringOf 27 = .ok (.getfield 11, 3) := by decide +kernel
theorem dX0_ringOf_30 : decode cX0_ringOf 30 = .ok (.iconst 0, 1) := by decide +kernel
theorem dX0_ringOf_31 : decode cX0_ringOf 31 = .ok (.aaload, 1) := by decide +kernel
theorem dX0_ringOf_32 : decode cX0_ringOf 32 = .ok (.areturn, 1) := by decide +kernel
theorem dX0_fastFrom_0 : decode cX0_fastFrom 0 = .ok (.aload_n 0, 1) := by decide +kernel
theorem dX0_fastFrom_1 : decode cX0_fastFrom 1 = .ok (.getfield 23, 3) := by decide +kernel
theorem dX0_fastFrom_4 : decode cX0_fastFrom 4 = .ok (.lreturn, 1) := by decide +kernel
theorem dX0_setFastFrom_0 : decode cX0_setFastFrom 0 = .ok (.aload_n 0, 1) := by decide +kernel
theorem dX0_setFastFrom_1 : decode cX0_setFastFrom 1 = .ok (.lload_n 1, 1) := by decide +kernel
theorem dX0_setFastFrom_2 : decode cX0_setFastFrom 2 = .ok (.putfield 23, 3) := by decide +kernel
theorem dX0_setFastFrom_5 : decode cX0_setFastFrom 5 = .ok (.return_, 1) := by decide +kernel
theorem dX0_addCorner_0 : decode cX0_addCorner 0 = .ok (.aload_n 0, 1) := by decide +kernel
theorem dX0_addCorner_1 : decode cX0_addCorner 1 = .ok (.invokevirtual 36, 3) := by decide +kernel
theorem dX0_addCorner_4 : decode cX0_addCorner 4 = .ok (.astore_n 3, 1) := by decide +kernel
theorem dX0_addCorner_5 : decode cX0_addCorner 5 = .ok (.aload_n 3, 1) := by decide +kernel
theorem dX0_addCorner_6 : decode cX0_addCorner 6 = .ok (.ifnull 16, 3) := by decide +kernel
theorem dX0_addCorner_9 : decode cX0_addCorner 9 = .ok (.aload_n 3, 1) := by decide +kernel
theorem dX0_addCorner_10 : decode cX0_addCorner 10 = .ok (.iload_n 1, 1) := by decide +kernel
theorem dX0_addCorner_11 : decode cX0_addCorner 11 = .ok (.iload_n 2, 1) := by decide +kernel
theorem dX0_addCorner_12 : decode cX0_addCorner 12 = .ok (.invokevirtual 39, 3) := by decide +kernel
theorem dX0_addCorner_15 : decode cX0_addCorner 15 = .ok (.ifCond .eq 7, 3) := by decide +kernel
theorem dX0_addCorner_18 : decode cX0_addCorner 18 = .ok (.iconst 1, 1) := by decide +kernel
theorem dX0_addCorner_19 : decode cX0_addCorner 19 = .ok (.goto 4, 3) := by decide +kernel
theorem dX0_addCorner_22 : decode cX0_addCorner 22 = .ok (.iconst 0, 1) := by decide +kernel
theorem dX0_addCorner_23 : decode cX0_addCorner 23 = .ok (.ireturn, 1) := by decide +kernel
theorem dX0_beingMade_0 : decode cX0_beingMade 0 = .ok (.aload_n 0, 1) := by decide +kernel
theorem dX0_beingMade_1 : decode cX0_beingMade 1 = .ok (.getfield 19, 3) := by decide +kernel
theorem dX0_beingMade_4 : decode cX0_beingMade 4 = .ok (.ifCond .eq 30, 3) := by decide +kernel
theorem dX0_beingMade_7 : decode cX0_beingMade 7 = .ok (.aload_n 0, 1) := by decide +kernel
theorem dX0_beingMade_8 : decode cX0_beingMade 8 = .ok (.getfield 15, 3) := by decide +kernel
theorem dX0_beingMade_11 : decode cX0_beingMade 11 = .ok (.ifCond .lt 23, 3) := by decide +kernel
theorem dX0_beingMade_14 : decode cX0_beingMade 14 = .ok (.aload_n 0, 1) := by decide +kernel
theorem dX0_beingMade_15 : decode cX0_beingMade 15 = .ok (.getfield 15, 3) := by decide +kernel
theorem dX0_beingMade_18 : decode cX0_beingMade 18 = .ok (.iconst 4, 1) := by decide +kernel
theorem dX0_beingMade_19 : decode cX0_beingMade 19 = .ok (.if_icmp .ge 15, 3) := by decide +kernel
theorem dX0_beingMade_22 : decode cX0_beingMade 22 = .ok (.aload_n 0, 1) := by decide +kernel
theorem dX0_beingMade_23 : decode cX0_beingMade 23 = .ok (.getfield 11, 3) := by decide +kernel
theorem dX0_beingMade_26 : decode cX0_beingMade 26 = .ok (.aload_n 0, 1) := by decide +kernel
theorem dX0_beingMade_27 : decode cX0_beingMade 27 = .ok (.getfield 15, 3) := by decide +kernel
theorem dX0_beingMade_30 : decode cX0_beingMade 30 = .ok (.aaload, 1) := by decide +kernel
theorem dX0_beingMade_31 : decode cX0_beingMade 31 = .ok (.goto 4, 3) := by decide +kernel
theorem dX0_beingMade_34 : decode cX0_beingMade 34 = .ok (.aconst_null, 1) := by decide +kernel
theorem dX0_beingMade_35 : decode cX0_beingMade 35 = .ok (.areturn, 1) := by decide +kernel
theorem dX0_beginHole_0 : decode cX0_beginHole 0 = .ok (.aload_n 0, 1) := by decide +kernel
theorem dX0_beginHole_1 : decode cX0_beginHole 1 = .ok (.getfield 19, 3) := by decide +kernel
theorem dX0_beginHole_4 : decode cX0_beginHole 4 = .ok (.ifCond .ne 19, 3) := by decide +kernel
theorem dX0_beginHole_7 : decode cX0_beginHole 7 = .ok (.aload_n 0, 1) := by decide +kernel
theorem dX0_beginHole_8 : decode cX0_beginHole 8 = .ok (.getfield 15, 3) := by decide +kernel
theorem dX0_beginHole_11 : decode cX0_beginHole 11 = .ok (.iconst 1, 1) := by decide +kernel
theorem dX0_beginHole_12 : decode cX0_beginHole 12 = .ok (.if_icmp .lt 11, 3) := by decide +kernel
theorem dX0_beginHole_15 : decode cX0_beginHole 15 = .ok (.aload_n 0, 1) := by decide +kernel
theorem dX0_beginHole_16 : decode cX0_beginHole 16 = .ok (.getfield 15, 3) := by decide +kernel
theorem dX0_beginHole_19 : decode cX0_beginHole 19 = .ok (.iconst 4, 1) := by decide +kernel
theorem dX0_beginHole_20 : decode cX0_beginHole 20 = .ok (.if_icmp .lt 5, 3) := by decide +kernel
theorem dX0_beginHole_23 : decode cX0_beginHole 23 = .ok (.iconst 0, 1) := by decide +kernel
theorem dX0_beginHole_24 : decode cX0_beginHole 24 = .ok (.ireturn, 1) := by decide +kernel
theorem dX0_beginHole_25 : decode cX0_beginHole 25 = .ok (.aload_n 0, 1) := by decide +kernel
theorem dX0_beginHole_26 : decode cX0_beginHole 26 = .ok (.getfield 11, 3) := by decide +kernel
theorem dX0_beginHole_29 : decode cX0_beginHole 29 = .ok (.aload_n 0, 1) := by decide +kernel
theorem dX0_beginHole_30 : decode cX0_beginHole 30 = .ok (.getfield 15, 3) := by decide +kernel
theorem dX0_beginHole_33 : decode cX0_beginHole 33 = .ok (.aaload, 1) := by decide +kernel
theorem dX0_beginHole_34 : decode cX0_beginHole 34 = .ok (.invokevirtual 43, 3) := by decide +kernel
theorem dX0_beginHole_37 : decode cX0_beginHole 37 = .ok (.aload_n 0, 1) := by decide +kernel
theorem dX0_beginHole_38 : decode cX0_beginHole 38 = .ok (.iconst 1, 1) := by decide +kernel
theorem dX0_beginHole_39 : decode cX0_beginHole 39 = .ok (.putfield 19, 3) := by decide +kernel
theorem dX0_beginHole_42 : decode cX0_beginHole 42 = .ok (.iconst 1, 1) := by decide +kernel
theorem dX0_beginHole_43 : decode cX0_beginHole 43 = .ok (.ireturn, 1) := by decide +kernel
theorem dX0_closeRing_0 : decode cX0_closeRing 0 = .ok (.aload_n 0, 1) := by decide +kernel
theorem dX0_closeRing_1 : decode cX0_closeRing 1 = .ok (.invokevirtual 36, 3) := by decide +kernel
theorem dX0_closeRing_4 : decode cX0_closeRing 4 = .ok (.astore_n 1, 1) := by decide +kernel
theorem dX0_closeRing_5 : decode cX0_closeRing 5 = .ok (.aload_n 1, 1) := by decide +kernel
theorem dX0_closeRing_6 : decode cX0_closeRing 6 = .ok (.ifnonnull 5, 3) := by decide +kernel
theorem dX0_closeRing_9 : decode cX0_closeRing 9 = .ok (.iconst 0, 1) := by decide +kernel
theorem dX0_closeRing_10 : decode cX0_closeRing 10 = .ok (.ireturn, 1) := by decide +kernel
theorem dX0_closeRing_11 : decode cX0_closeRing 11 = .ok (.aload_n 1, 1) := by decide +kernel
theorem dX0_closeRing_12 : decode cX0_closeRing 12 = .ok (.invokevirtual 46, 3) := by decide +kernel
theorem dX0_closeRing_15 : decode cX0_closeRing 15 = .ok (.ifCond .eq 35, 3) := by decide +kernel
theorem dX0_closeRing_18 : decode cX0_closeRing 18 = .ok (.aload_n 0, 1) := by decide +kernel
theorem dX0_closeRing_19 : decode cX0_closeRing 19 = .ok (.getfield 15, 3) := by decide +kernel
theorem dX0_closeRing_22 : decode cX0_closeRing 22 = .ok (.ifCond .eq 11, 3) := by decide +kernel
theorem dX0_closeRing_25 : decode cX0_closeRing 25 = .ok (.aload_n 0, 1) := by decide +kernel
theorem dX0_closeRing_26 : decode cX0_closeRing 26 = .ok (.aload_n 1, 1) := by decide +kernel
theorem dX0_closeRing_27 : decode cX0_closeRing 27 = .ok (.invokevirtual 50, 3) := by decide +kernel
theorem dX0_closeRing_30 : decode cX0_closeRing 30 = .ok (.ifCond .eq 20, 3) := by decide +kernel
theorem dX0_closeRing_33 : decode cX0_closeRing 33 = .ok (.aload_n 0, 1) := by decide +kernel
theorem dX0_closeRing_34 : decode cX0_closeRing 34 = .ok (.dup, 1) := by decide +kernel
theorem dX0_closeRing_35 : decode cX0_closeRing 35 = .ok (.getfield 15, 3) := by decide +kernel
theorem dX0_closeRing_38 : decode cX0_closeRing 38 = .ok (.iconst 1, 1) := by decide +kernel
theorem dX0_closeRing_39 : decode cX0_closeRing 39 = .ok (.iadd, 1) := by decide +kernel
theorem dX0_closeRing_40 : decode cX0_closeRing 40 = .ok (.putfield 15, 3) := by decide +kernel
theorem dX0_closeRing_43 : decode cX0_closeRing 43 = .ok (.aload_n 0, 1) := by decide +kernel
theorem dX0_closeRing_44 : decode cX0_closeRing 44 = .ok (.iconst 0, 1) := by decide +kernel
theorem dX0_closeRing_45 : decode cX0_closeRing 45 = .ok (.putfield 19, 3) := by decide +kernel
theorem dX0_closeRing_48 : decode cX0_closeRing 48 = .ok (.iconst 1, 1) := by decide +kernel
theorem dX0_closeRing_49 : decode cX0_closeRing 49 = .ok (.ireturn, 1) := by decide +kernel
theorem dX0_closeRing_50 : decode cX0_closeRing 50 = .ok (.aload_n 1, 1) := by decide +kernel
theorem dX0_closeRing_51 : decode cX0_closeRing 51 = .ok (.invokevirtual 43, 3) := by decide +kernel
theorem dX0_closeRing_54 : decode cX0_closeRing 54 = .ok (.aload_n 0, 1) := by decide +kernel
theorem dX0_closeRing_55 : decode cX0_closeRing 55 = .ok (.aload_n 0, 1) := by decide +kernel
theorem dX0_closeRing_56 : decode cX0_closeRing 56 = .ok (.getfield 15, 3) := by decide +kernel
theorem dX0_closeRing_59 : decode cX0_closeRing 59 = .ok (.ifCond .ne 7, 3) := by decide +kernel
theorem dX0_closeRing_62 : decode cX0_closeRing 62 = .ok (.iconst 1, 1) := by decide +kernel
theorem dX0_closeRing_63 : decode cX0_closeRing 63 = .ok (.goto 4, 3) := by decide +kernel
theorem dX0_closeRing_66 : decode cX0_closeRing 66 = .ok (.iconst 0, 1) := by decide +kernel
theorem dX0_closeRing_67 : decode cX0_closeRing 67 = .ok (.putfield 19, 3) := by decide +kernel
theorem dX0_closeRing_70 : decode cX0_closeRing 70 = .ok (.iconst 0, 1) := by decide +kernel
theorem dX0_closeRing_71 : decode cX0_closeRing 71 = .ok (.ireturn, 1) := by decide +kernel
theorem dX0_fitsAsHole_0 : decode cX0_fitsAsHole 0 = .ok (.iconst 0, 1) := by decide +kernel
theorem dX0_fitsAsHole_1 : decode cX0_fitsAsHole 1 = .ok (.istore_n 2, 1) := by decide +kernel
theorem dX0_fitsAsHole_2 : decode cX0_fitsAsHole 2 = .ok (.iload_n 2, 1) := by decide +kernel
theorem dX0_fitsAsHole_3 : decode cX0_fitsAsHole 3 = .ok (.aload_n 0, 1) := by decide +kernel
theorem dX0_fitsAsHole_4 : decode cX0_fitsAsHole 4 = .ok (.getfield 15, 3) := by decide +kernel
theorem dX0_fitsAsHole_7 : decode cX0_fitsAsHole 7 = .ok (.if_icmp .ge 23, 3) := by decide +kernel
theorem dX0_fitsAsHole_10 : decode cX0_fitsAsHole 10 = .ok (.aload_n 1, 1) := by decide +kernel
theorem dX0_fitsAsHole_11 : decode cX0_fitsAsHole 11 = .ok (.aload_n 0, 1) := by decide +kernel
theorem dX0_fitsAsHole_12 : decode cX0_fitsAsHole 12 = .ok (.iload_n 2, 1) := by decide +kernel
theorem dX0_fitsAsHole_13 : decode cX0_fitsAsHole 13 = .ok (.invokevirtual 54, 3) := by decide +kernel
theorem dX0_fitsAsHole_16 : decode cX0_fitsAsHole 16 = .ok (.invokevirtual 58, 3) := by decide +kernel
theorem dX0_fitsAsHole_19 : decode cX0_fitsAsHole 19 = .ok (.ifCond .eq 5, 3) := by decide +kernel
theorem dX0_fitsAsHole_22 : decode cX0_fitsAsHole 22 = .ok (.iconst 0, 1) := by decide +kernel
theorem dX0_fitsAsHole_23 : decode cX0_fitsAsHole 23 = .ok (.ireturn, 1) := by decide +kernel
theorem dX0_fitsAsHole_24 : decode cX0_fitsAsHole 24 = .ok (.iinc 2 1, 3) := by decide +kernel
theorem dX0_fitsAsHole_27 : decode cX0_fitsAsHole 27 = .ok (.goto (-25), 3) := by decide +kernel
theorem dX0_fitsAsHole_30 : decode cX0_fitsAsHole 30 = .ok (.aload_n 0, 1) := by decide +kernel
theorem dX0_fitsAsHole_31 : decode cX0_fitsAsHole 31 = .ok (.aload_n 1, 1) := by decide +kernel
theorem dX0_fitsAsHole_32 : decode cX0_fitsAsHole 32 = .ok (.iconst 0, 1) := by decide +kernel
theorem dX0_fitsAsHole_33 : decode cX0_fitsAsHole 33 = .ok (.invokevirtual 61, 3) := by decide +kernel
theorem dX0_fitsAsHole_36 : decode cX0_fitsAsHole 36 = .ok (.i2l, 1) := by decide +kernel
theorem dX0_fitsAsHole_37 : decode cX0_fitsAsHole 37 = .ok (.aload_n 1, 1) := by decide +kernel
theorem dX0_fitsAsHole_38 : decode cX0_fitsAsHole 38 = .ok (.iconst 0, 1) := by decide +kernel
theorem dX0_fitsAsHole_39 : decode cX0_fitsAsHole 39 = .ok (.invokevirtual 65, 3) := by decide +kernel
theorem dX0_fitsAsHole_42 : decode cX0_fitsAsHole 42 = .ok (.i2l, 1) := by decide +kernel
theorem dX0_fitsAsHole_43 : decode cX0_fitsAsHole 43 = .ok (.lconst 1, 1) := by decide +kernel
theorem dX0_fitsAsHole_44 : decode cX0_fitsAsHole 44 = .ok (.invokevirtual 68, 3) := by decide +kernel
theorem dX0_fitsAsHole_47 : decode cX0_fitsAsHole 47 = .ok (.ireturn, 1) := by decide +kernel
theorem dX0_becomeSquare_0 : decode cX0_becomeSquare 0 = .ok (.aload_n 0, 1) := by decide +kernel
theorem dX0_becomeSquare_1 : decode cX0_becomeSquare 1 = .ok (.invokevirtual 28, 3) := by decide +kernel
theorem dX0_becomeSquare_4 : decode cX0_becomeSquare 4 = .ok (.astore 4, 2) := by decide +kernel
theorem dX0_becomeSquare_6 : decode cX0_becomeSquare 6 = .ok (.aload 4, 2) := by decide +kernel
theorem dX0_becomeSquare_8 : decode cX0_becomeSquare 8 = .ok (.invokevirtual 43, 3) := by decide +kernel
theorem dX0_becomeSquare_11 : decode cX0_becomeSquare 11 = .ok (.aload 4, 2) := by decide +kernel
theorem dX0_becomeSquare_13 : decode cX0_becomeSquare 13 = .ok (.iload_n 1, 1) := by decide +kernel
theorem dX0_becomeSquare_14 : decode cX0_becomeSquare 14 = .ok (.iload_n 3, 1) := by decide +kernel
theorem dX0_becomeSquare_15 : decode cX0_becomeSquare 15 = .ok (.isub, 1) := by decide +kernel
theorem dX0_becomeSquare_16 : decode cX0_becomeSquare 16 = .ok (.iload_n 2, 1) := by decide +kernel
theorem dX0_becomeSquare_17 : decode cX0_becomeSquare 17 = .ok (.iload_n 3, 1) := by decide +kernel
theorem dX0_becomeSquare_18 : decode cX0_becomeSquare 18 = .ok (.isub, 1) := by decide +kernel
theorem dX0_becomeSquare_19 : decode cX0_becomeSquare 19 = .ok (.invokevirtual 39, 3) := by decide +kernel
theorem dX0_becomeSquare_22 : decode cX0_becomeSquare 22 = .ok (.pop, 1) := by decide +kernel
theorem dX0_becomeSquare_23 : decode cX0_becomeSquare 23 = .ok (.aload 4, 2) := by decide +kernel
theorem dX0_becomeSquare_25 : decode cX0_becomeSquare 25 = .ok (.iload_n 1, 1) := by decide +kernel
theorem dX0_becomeSquare_26 : decode cX0_becomeSquare 26 = .ok (.iload_n 3, 1) := by decide +kernel
theorem dX0_becomeSquare_27 : decode cX0_becomeSquare 27 = .ok (.iadd, 1) := by decide +kernel
theorem dX0_becomeSquare_28 : decode cX0_becomeSquare 28 = .ok (.iload_n 2, 1) := by decide +kernel
theorem dX0_becomeSquare_29 : decode cX0_becomeSquare 29 = .ok (.iload_n 3, 1) := by decide +kernel
theorem dX0_becomeSquare_30 : decode cX0_becomeSquare 30 = .ok (.isub, 1) := by decide +kernel
theorem dX0_becomeSquare_31 : decode cX0_becomeSquare 31 = .ok (.invokevirtual 39, 3) := by decide +kernel
theorem dX0_becomeSquare_34 : decode cX0_becomeSquare 34 = .ok (.pop, 1) := by decide +kernel
theorem dX0_becomeSquare_35 : decode cX0_becomeSquare 35 = .ok (.aload 4, 2) := by decide +kernel
theorem dX0_becomeSquare_37 : decode cX0_becomeSquare 37 = .ok (.iload_n 1, 1) := by decide +kernel
theorem dX0_becomeSquare_38 : decode cX0_becomeSquare 38 = .ok (.iload_n 3, 1) := by decide +kernel
theorem dX0_becomeSquare_39 : decode cX0_becomeSquare 39 = .ok (.iadd, 1) := by decide +kernel
theorem dX0_becomeSquare_40 : decode cX0_becomeSquare 40 = .ok (.iload_n 2, 1) := by decide +kernel
theorem dX0_becomeSquare_41 : decode cX0_becomeSquare 41 = .ok (.iload_n 3, 1) := by decide +kernel
theorem dX0_becomeSquare_42 : decode cX0_becomeSquare 42 = .ok (.iadd, 1) := by decide +kernel
theorem dX0_becomeSquare_43 : decode cX0_becomeSquare 43 = .ok (.invokevirtual 39, 3) := by decide +kernel
theorem dX0_becomeSquare_46 : decode cX0_becomeSquare 46 = .ok (.pop, 1) := by decide +kernel
theorem dX0_becomeSquare_47 : decode cX0_becomeSquare 47 = .ok (.aload 4, 2) := by decide +kernel
theorem dX0_becomeSquare_49 : decode cX0_becomeSquare 49 = .ok (.iload_n 1, 1) := by decide +kernel
theorem dX0_becomeSquare_50 : decode cX0_becomeSquare 50 = .ok (.iload_n 3, 1) := by decide +kernel
theorem dX0_becomeSquare_51 : decode cX0_becomeSquare 51 = .ok (.isub, 1) := by decide +kernel
theorem dX0_becomeSquare_52 : decode cX0_becomeSquare 52 = .ok (.iload_n 2, 1) := by decide +kernel
theorem dX0_becomeSquare_53 : decode cX0_becomeSquare 53 = .ok (.iload_n 3, 1) := by decide +kernel
theorem dX0_becomeSquare_54 : decode cX0_becomeSquare 54 = .ok (.iadd, 1) := by decide +kernel
theorem dX0_becomeSquare_55 : decode cX0_becomeSquare 55 = .ok (.invokevirtual 39, 3) := by decide +kernel
theorem dX0_becomeSquare_58 : decode cX0_becomeSquare 58 = .ok (.pop, 1) := by decide +kernel
theorem dX0_becomeSquare_59 : decode cX0_becomeSquare 59 = .ok (.aload_n 0, 1) := by decide +kernel
theorem dX0_becomeSquare_60 : decode cX0_becomeSquare 60 = .ok (.iconst 1, 1) := by decide +kernel
theorem dX0_becomeSquare_61 : decode cX0_becomeSquare 61 = .ok (.putfield 15, 3) := by decide +kernel
theorem dX0_becomeSquare_64 : decode cX0_becomeSquare 64 = .ok (.aload_n 0, 1) := by decide +kernel
theorem dX0_becomeSquare_65 : decode cX0_becomeSquare 65 = .ok (.iconst 0, 1) := by decide +kernel
theorem dX0_becomeSquare_66 : decode cX0_becomeSquare 66 = .ok (.putfield 19, 3) := by decide +kernel
theorem dX0_becomeSquare_69 : decode cX0_becomeSquare 69 = .ok (.return_, 1) := by decide +kernel
theorem dX0_contains_0 : decode cX0_contains 0 = .ok (.aload_n 0, 1) := by decide +kernel
theorem dX0_contains_1 : decode cX0_contains 1 = .ok (.invokevirtual 72, 3) := by decide +kernel
theorem dX0_contains_4 : decode cX0_contains 4 = .ok (.ifCond .eq 18, 3) := by decide +kernel
theorem dX0_contains_7 : decode cX0_contains 7 = .ok (.aload_n 0, 1) := by decide +kernel
theorem dX0_contains_8 : decode cX0_contains 8 = .ok (.invokevirtual 28, 3) := by decide +kernel
theorem dX0_contains_11 : decode cX0_contains 11 = .ok (.lload_n 1, 1) := by decide +kernel
theorem dX0_contains_12 : decode cX0_contains 12 = .ok (.lload_n 3, 1) := by decide +kernel
theorem dX0_contains_13 : decode cX0_contains 13 = .ok (.lload 5, 2) := by decide +kernel
theorem dX0_contains_15 : decode cX0_contains 15 = .ok (.invokevirtual 75, 3) := by decide +kernel
theorem dX0_contains_18 : decode cX0_contains 18 = .ok (.iconst (-1), 1) := by decide +kernel
theorem dX0_contains_19 : decode cX0_contains 19 = .ok (.if_icmp .ne 5, 3) := by decide +kernel
theorem dX0_contains_22 : decode cX0_contains 22 = .ok (.iconst 0, 1) := by decide +kernel
theorem dX0_contains_23 : decode cX0_contains 23 = .ok (.ireturn, 1) := by decide +kernel
theorem dX0_contains_24 : decode cX0_contains 24 = .ok (.iconst 1, 1) := by decide +kernel
theorem dX0_contains_25 : decode cX0_contains 25 = .ok (.istore 7, 2) := by decide +kernel
theorem dX0_contains_27 : decode cX0_contains 27 = .ok (.iload 7, 2) := by decide +kernel
theorem dX0_contains_29 : decode cX0_contains 29 = .ok (.aload_n 0, 1) := by decide +kernel
theorem dX0_contains_30 : decode cX0_contains 30 = .ok (.getfield 15, 3) := by decide +kernel
theorem dX0_contains_33 : decode cX0_contains 33 = .ok (.if_icmp .ge 28, 3) := by decide +kernel
theorem dX0_contains_36 : decode cX0_contains 36 = .ok (.aload_n 0, 1) := by decide +kernel
theorem dX0_contains_37 : decode cX0_contains 37 = .ok (.iload 7, 2) := by decide +kernel
theorem dX0_contains_39 : decode cX0_contains 39 = .ok (.invokevirtual 54, 3) := by decide +kernel
theorem dX0_contains_42 : decode cX0_contains 42 = .ok (.lload_n 1, 1) := by decide +kernel
theorem dX0_contains_43 : decode cX0_contains 43 = .ok (.lload_n 3, 1) := by decide +kernel
theorem dX0_contains_44 : decode cX0_contains 44 = .ok (.lload 5, 2) := by decide +kernel
theorem dX0_contains_46 : decode cX0_contains 46 = .ok (.invokevirtual 75, 3) := by decide +kernel
theorem dX0_contains_49 : decode cX0_contains 49 = .ok (.iconst 1, 1) := by decide +kernel
theorem dX0_contains_50 : decode cX0_contains 50 = .ok (.if_icmp .ne 5, 3) := by decide +kernel
theorem dX0_contains_53 : decode cX0_contains 53 = .ok (.iconst 0, 1) := by decide +kernel
theorem dX0_contains_54 : decode cX0_contains 54 = .ok (.ireturn, 1) := by decide +kernel
theorem dX0_contains_55 : decode cX0_contains 55 = .ok (.iinc 7 1, 3) := by decide +kernel
theorem dX0_contains_58 : decode cX0_contains 58 = .ok (.goto (-31), 3) := by decide +kernel
theorem dX0_contains_61 : decode cX0_contains 61 = .ok (.iconst 1, 1) := by decide +kernel
theorem dX0_contains_62 : decode cX0_contains 62 = .ok (.ireturn, 1) := by decide +kernel
theorem dX0_isInOrNear_0 : decode cX0_isInOrNear 0 = .ok (.iconst 0, 1) := by decide +kernel
theorem dX0_isInOrNear_1 : decode cX0_isInOrNear 1 = .ok (.istore 7, 2) := by decide +kernel
theorem dX0_isInOrNear_3 : decode cX0_isInOrNear 3 = .ok (.iload 7, 2) := by decide +kernel
theorem dX0_isInOrNear_5 : decode cX0_isInOrNear 5 = .ok (.aload_n 0, 1) := by decide +kernel
theorem dX0_isInOrNear_6 : decode cX0_isInOrNear 6 = .ok (.getfield 15, 3) := by decide +kernel
theorem dX0_isInOrNear_9 : decode cX0_isInOrNear 9 = .ok (.if_icmp .ge 27, 3) := by decide +kernel
theorem dX0_isInOrNear_12 : decode cX0_isInOrNear 12 = .ok (.aload_n 0, 1) := by decide +kernel
theorem dX0_isInOrNear_13 : decode cX0_isInOrNear 13 = .ok (.iload 7, 2) := by decide +kernel
theorem dX0_isInOrNear_15 : decode cX0_isInOrNear 15 = .ok (.invokevirtual 54, 3) := by decide +kernel
theorem dX0_isInOrNear_18 : decode cX0_isInOrNear 18 = .ok (.lload_n 1, 1) := by decide +kernel
theorem dX0_isInOrNear_19 : decode cX0_isInOrNear 19 = .ok (.lload_n 3, 1) := by decide +kernel
theorem dX0_isInOrNear_20 : decode cX0_isInOrNear 20 = .ok (.lload 5, 2) := by decide +kernel
theorem dX0_isInOrNear_22 : decode cX0_isInOrNear 22 = .ok (.invokevirtual 79, 3) := by decide +kernel
theorem dX0_isInOrNear_25 : decode cX0_isInOrNear 25 = .ok (.ifCond .eq 5, 3) := by decide +kernel
theorem dX0_isInOrNear_28 : decode cX0_isInOrNear 28 = .ok (.iconst 1, 1) := by decide +kernel
theorem dX0_isInOrNear_29 : decode cX0_isInOrNear 29 = .ok (.ireturn, 1) := by decide +kernel
theorem dX0_isInOrNear_30 : decode cX0_isInOrNear 30 = .ok (.iinc 7 1, 3) := by decide +kernel
theorem dX0_isInOrNear_33 : decode cX0_isInOrNear 33 = .ok (.goto (-30), 3) := by decide +kernel
theorem dX0_isInOrNear_36 : decode cX0_isInOrNear 36 = .ok (.aload_n 0, 1) := by decide +kernel
theorem dX0_isInOrNear_37 : decode cX0_isInOrNear 37 = .ok (.lload_n 1, 1) := by decide +kernel
theorem dX0_isInOrNear_38 : decode cX0_isInOrNear 38 = .ok (.lload_n 3, 1) := by decide +kernel
theorem dX0_isInOrNear_39 : decode cX0_isInOrNear 39 = .ok (.lconst 1, 1) := by decide +kernel
theorem dX0_isInOrNear_40 : decode cX0_isInOrNear 40 = .ok (.invokevirtual 68, 3) := by decide +kernel
theorem dX0_isInOrNear_43 : decode cX0_isInOrNear 43 = .ok (.ireturn, 1) := by decide +kernel
theorem dX1_init_0 : decode cX1_init 0 = .ok (.aload_n 0, 1) := by decide +kernel
theorem dX1_init_1 : decode cX1_init 1 = .ok (.invokespecial 1, 3) := by decide +kernel
theorem dX1_init_4 : decode cX1_init 4 = .ok (.aload_n 0, 1) := by decide +kernel
theorem dX1_init_5 : decode cX1_init 5 = .ok (.sipush 300, 3) := by decide +kernel
theorem dX1_init_8 : decode cX1_init 8 = .ok (.newarray .int, 2) := by decide +kernel
theorem dX1_init_10 : decode cX1_init 10 = .ok (.putfield 9, 3) := by decide +kernel
theorem dX1_init_13 : decode cX1_init 13 = .ok (.aload_n 0, 1) := by decide +kernel
theorem dX1_init_14 : decode cX1_init 14 = .ok (.sipush 300, 3) := by decide +kernel
theorem dX1_init_17 : decode cX1_init 17 = .ok (.newarray .int, 2) := by decide +kernel
theorem dX1_init_19 : decode cX1_init 19 = .ok (.putfield 13, 3) := by decide +kernel
theorem dX1_init_22 : decode cX1_init 22 = .ok (.aload_n 0, 1) := by decide +kernel
theorem dX1_init_23 : decode cX1_init 23 = .ok (.sipush 300, 3) := by decide +kernel
theorem dX1_init_26 : decode cX1_init 26 = .ok (.newarray .boolean, 2) := by decide +kernel
theorem dX1_init_28 : decode cX1_init 28 = .ok (.putfield 16, 3) := by decide +kernel
theorem dX1_init_31 : decode cX1_init 31 = .ok (.aload_n 0, 1) := by decide +kernel
theorem dX1_init_32 : decode cX1_init 32 = .ok (.sipush 300, 3) := by decide +kernel
theorem dX1_init_35 : decode cX1_init 35 = .ok (.newarray .long, 2) := by decide +kernel
theorem dX1_init_37 : decode cX1_init 37 = .ok (.putfield 20, 3) := by decide +kernel
theorem dX1_init_40 : decode cX1_init 40 = .ok (.aload_n 0, 1) := by decide +kernel
theorem dX1_init_41 : decode cX1_init 41 = .ok (.sipush 300, 3) := by decide +kernel
theorem dX1_init_44 : decode cX1_init 44 = .ok (.newarray .long, 2) := by decide +kernel
theorem dX1_init_46 : decode cX1_init 46 = .ok (.putfield 24, 3) := by decide +kernel
theorem dX1_init_49 : decode cX1_init 49 = .ok (.aload_n 0, 1) := by decide +kernel
theorem dX1_init_50 : decode cX1_init 50 = .ok (.iconst 0, 1) := by decide +kernel
theorem dX1_init_51 : decode cX1_init 51 = .ok (.putfield 27, 3) := by decide +kernel
theorem dX1_init_54 : decode cX1_init 54 = .ok (.return_, 1) := by decide +kernel
theorem dX1_clear_0 : decode cX1_clear 0 = .ok (.aload_n 0, 1) := by decide +kernel
theorem dX1_clear_1 : decode cX1_clear 1 = .ok (.iconst 0, 1) := by decide +kernel
theorem dX1_clear_2 : decode cX1_clear 2 = .ok (.putfield 27, 3) := by decide +kernel
theorem dX1_clear_5 : decode cX1_clear 5 = .ok (.return_, 1) := by decide +kernel
theorem dX1_size_0 : decode cX1_size 0 = .ok (.aload_n 0, 1) := by decide +kernel
theorem dX1_size_1 : decode cX1_size 1 = .ok (.getfield 27, 3) := by decide +kernel
theorem dX1_size_4 : decode cX1_size 4 = .ok (.ireturn, 1) := by decide +kernel
theorem dX1_has_0 : decode cX1_has 0 = .ok (.iload_n 1, 1) := by decide +kernel
theorem dX1_has_1 : decode cX1_has 1 = .ok (.ifCond .lt 15, 3) := by decide +kernel
theorem dX1_has_4 : decode cX1_has 4 = .ok (.iload_n 1, 1) := by decide +kernel
theorem dX1_has_5 : decode cX1_has 5 = .ok (.aload_n 0, 1) := by decide +kernel
theorem dX1_has_6 : decode cX1_has 6 = .ok (.getfield 27, 3) := by decide +kernel
theorem dX1_has_9 : decode cX1_has 9 = .ok (.if_icmp .ge 7, 3) := by decide +kernel
theorem dX1_has_12 : decode cX1_has 12 = .ok (.iconst 1, 1) := by decide +kernel
theorem dX1_has_13 : decode cX1_has 13 = .ok (.goto 4, 3) := by decide +kernel
theorem dX1_has_16 : decode cX1_has 16 = .ok (.iconst 0, 1) := by decide +kernel
theorem dX1_has_17 : decode cX1_has 17 = .ok (.ireturn, 1) := by decide +kernel
theorem dX1_add_0 : decode cX1_add 0 = .ok (.aload_n 0, 1) := by decide +kernel
theorem dX1_add_1 : decode cX1_add 1 = .ok (.getfield 27, 3) := by decide +kernel
theorem dX1_add_4 : decode cX1_add 4 = .ok (.sipush 300, 3) := by decide +kernel
theorem dX1_add_7 : decode cX1_add 7 = .ok (.if_icmp .lt 5, 3) := by decide +kernel
theorem dX1_add_10 : decode cX1_add 10 = .ok (.iconst 0, 1) := by decide +kernel
theorem dX1_add_11 : decode cX1_add 11 = .ok (.ireturn, 1) := by decide +kernel
theorem dX1_add_12 : decode cX1_add 12 = .ok (.aload_n 0, 1) := by decide +kernel
theorem dX1_add_13 : decode cX1_add 13 = .ok (.getfield 9, 3) := by decide +kernel
theorem dX1_add_16 : decode cX1_add 16 = .ok (.aload_n 0, 1) := by decide +kernel
theorem dX1_add_17 : decode cX1_add 17 = .ok (.getfield 27, 3) := by decide +kernel
theorem dX1_add_20 : decode cX1_add 20 = .ok (.iload_n 1, 1) := by decide +kernel
theorem dX1_add_21 : decode cX1_add 21 = .ok (.iastore, 1) := by decide +kernel
theorem dX1_add_22 : decode cX1_add 22 = .ok (.aload_n 0, 1) := by decide +kernel
theorem dX1_add_23 : decode cX1_add 23 = .ok (.getfield 13, 3) := by decide +kernel
theorem dX1_add_26 : decode cX1_add 26 = .ok (.aload_n 0, 1) := by decide +kernel
theorem dX1_add_27 : decode cX1_add 27 = .ok (.getfield 27, 3) := by decide +kernel
theorem dX1_add_30 : decode cX1_add 30 = .ok (.iload_n 2, 1) := by decide +kernel
theorem dX1_add_31 : decode cX1_add 31 = .ok (.iastore, 1) := by decide +kernel
theorem dX1_add_32 : decode cX1_add 32 = .ok (.aload_n 0, 1) := by decide +kernel
theorem dX1_add_33 : decode cX1_add 33 = .ok (.getfield 16, 3) := by decide +kernel
theorem dX1_add_36 : decode cX1_add 36 = .ok (.aload_n 0, 1) := by decide +kernel
theorem dX1_add_37 : decode cX1_add 37 = .ok (.getfield 27, 3) := by decide +kernel
theorem dX1_add_40 : decode cX1_add 40 = .ok (.iload_n 3, 1) := by decide +kernel
theorem dX1_add_41 : decode cX1_add 41 = .ok (.bastore, 1) := by decide +kernel
theorem dX1_add_42 : decode cX1_add 42 = .ok (.aload_n 0, 1) := by decide +kernel
theorem dX1_add_43 : decode cX1_add 43 = .ok (.getfield 20, 3) := by decide +kernel
theorem dX1_add_46 : decode cX1_add 46 = .ok (.aload_n 0, 1) := by decide +kernel
theorem dX1_add_47 : decode cX1_add 47 = .ok (.getfield 27, 3) := by decide +kernel
theorem dX1_add_50 : decode cX1_add 50 = .ok (.lload 4, 2) := by decide +kernel
theorem dX1_add_52 : decode cX1_add 52 = .ok (.lastore, 1) := by decide +kernel
theorem dX1_add_53 : decode cX1_add 53 = .ok (.aload_n 0, 1) := by decide +kernel
theorem dX1_add_54 : decode cX1_add 54 = .ok (.getfield 24, 3) := by decide +kernel
theorem dX1_add_57 : decode cX1_add 57 = .ok (.aload_n 0, 1) := by decide +kernel
theorem dX1_add_58 : decode cX1_add 58 = .ok (.getfield 27, 3) := by decide +kernel
theorem dX1_add_61 : decode cX1_add 61 = .ok (.lload 6, 2) := by decide +kernel
theorem dX1_add_63 : decode cX1_add 63 = .ok (.lastore, 1) := by decide +kernel
theorem dX1_add_64 : decode cX1_add 64 = .ok (.aload_n 0, 1) := by decide +kernel
theorem dX1_add_65 : decode cX1_add 65 = .ok (.dup, 1) := by decide +kernel
theorem dX1_add_66 : decode cX1_add 66 = .ok (.getfield 27, 3) := by decide +kernel
theorem dX1_add_69 : decode cX1_add 69 = .ok (.iconst 1, 1) := by decide +kernel
theorem dX1_add_70 : decode cX1_add 70 = .ok (.iadd, 1) := by decide +kernel
theorem dX1_add_71 : decode cX1_add 71 = .ok (.putfield 27, 3) := by decide +kernel
theorem dX1_add_74 : decode cX1_add 74 = .ok (.iconst 1, 1) := by decide +kernel
theorem dX1_add_75 : decode cX1_add 75 = .ok (.ireturn, 1) := by decide +kernel
theorem dX1_pieceOf_0 : decode cX1_pieceOf 0 = .ok (.aload_n 0, 1) := by decide +kernel
theorem dX1_pieceOf_1 : decode cX1_pieceOf 1 = .ok (.iload_n 1, 1) := by decide +kernel
theorem dX1_pieceOf_2 : decode cX1_pieceOf 2 = .ok (.invokevirtual 31, 3) := by decide +kernel
theorem dX1_pieceOf_5 : decode cX1_pieceOf 5 = .ok (.ifCond .eq 12, 3) := by decide +kernel
theorem dX1_pieceOf_8 : decode cX1_pieceOf 8 = .ok (.aload_n 0, 1) := by decide +kernel
theorem dX1_pieceOf_9 : decode cX1_pieceOf 9 = .ok (.getfield 9, 3) := by decide +kernel
theorem dX1_pieceOf_12 : decode cX1_pieceOf 12 = .ok (.iload_n 1, 1) := by decide +kernel
theorem dX1_pieceOf_13 : decode cX1_pieceOf 13 = .ok (.iaload, 1) := by decide +kernel
theorem dX1_pieceOf_14 : decode cX1_pieceOf 14 = .ok (.goto 4, 3) := by decide +kernel
theorem dX1_pieceOf_17 : decode cX1_pieceOf 17 = .ok (.iconst (-1), 1) := by decide +kernel
theorem dX1_pieceOf_18 : decode cX1_pieceOf 18 = .ok (.ireturn, 1) := by decide +kernel
theorem dX1_areaOf_0 : decode cX1_areaOf 0 = .ok (.aload_n 0, 1) := by decide +kernel
theorem dX1_areaOf_1 : decode cX1_areaOf 1 = .ok (.iload_n 1, 1) := by decide +kernel
theorem dX1_areaOf_2 : decode cX1_areaOf 2 = .ok (.invokevirtual 31, 3) := by decide +kernel
theorem dX1_areaOf_5 : decode cX1_areaOf 5 = .ok (.ifCond .eq 12, 3) := by decide +kernel
theorem dX1_areaOf_8 : decode cX1_areaOf 8 = .ok (.aload_n 0, 1) := by decide +kernel
theorem dX1_areaOf_9 : decode cX1_areaOf 9 = .ok (.getfield 13, 3) := by decide +kernel
theorem dX1_areaOf_12 : decode cX1_areaOf 12 = .ok (.iload_n 1, 1) := by decide +kernel
theorem dX1_areaOf_13 : decode cX1_areaOf 13 = .ok (.iaload, 1) := by decide +kernel
theorem dX1_areaOf_14 : decode cX1_areaOf 14 = .ok (.goto 4, 3) := by decide +kernel
theorem dX1_areaOf_17 : decode cX1_areaOf 17 = .ok (.iconst (-1), 1) := by decide +kernel
theorem dX1_areaOf_18 : decode cX1_areaOf 18 = .ok (.ireturn, 1) := by decide +kernel
theorem dX1_isEntering_0 : decode cX1_isEntering 0 = .ok (.aload_n 0, 1) := by decide +kernel
theorem dX1_isEntering_1 : decode cX1_isEntering 1 = .ok (.iload_n 1, 1) := by decide +kernel
theorem dX1_isEntering_2 : decode cX1_isEntering 2 = .ok (.invokevirtual 31, 3) := by decide +kernel
theorem dX1_isEntering_5 : decode cX1_isEntering 5 = .ok (.ifCond .eq 16, 3) := by decide +kernel
theorem dX1_isEntering_8 : decode cX1_isEntering 8 = .ok (.aload_n 0, 1) := by decide +kernel
theorem dX1_isEntering_9 : decode cX1_isEntering 9 = .ok (.getfield 16, 3) := by decide +kernel
theorem dX1_isEntering_12 : decode cX1_isEntering 12 = .ok (.iload_n 1, 1) := by decide +kernel
theorem dX1_isEntering_13 : decode cX1_isEntering 13 = .ok (.baload, 1) := by decide +kernel
theorem dX1_isEntering_14 : decode cX1_isEntering 14 = .ok (.ifCond .eq 7, 3) := by decide +kernel
theorem dX1_isEntering_17 : decode cX1_isEntering 17 = .ok (.iconst 1, 1) := by decide +kernel
theorem dX1_isEntering_18 : decode cX1_isEntering 18 = .ok (.goto 4, 3) := by decide +kernel
theorem dX1_isEntering_21 : decode cX1_isEntering 21 = .ok (.iconst 0, 1) := by decide +kernel
theorem dX1_isEntering_22 : decode cX1_isEntering 22 = .ok (.ireturn, 1) := by decide +kernel
theorem dX1_overOf_0 : decode cX1_overOf 0 = .ok (.aload_n 0, 1) := by decide +kernel
theorem dX1_overOf_1 : decode cX1_overOf 1 = .ok (.iload_n 1, 1) := by decide +kernel
theorem dX1_overOf_2 : decode cX1_overOf 2 = .ok (.invokevirtual 31, 3) := by decide +kernel
theorem dX1_overOf_5 : decode cX1_overOf 5 = .ok (.ifCond .eq 12, 3) := by decide +kernel
theorem dX1_overOf_8 : decode cX1_overOf 8 = .ok (.aload_n 0, 1) := by decide +kernel
theorem dX1_overOf_9 : decode cX1_overOf 9 = .ok (.getfield 20, 3) := by decide +kernel
theorem dX1_overOf_12 : decode cX1_overOf 12 = .ok (.iload_n 1, 1) := by decide +kernel
theorem dX1_overOf_13 : decode cX1_overOf 13 = .ok (.laload, 1) := by decide +kernel
theorem dX1_overOf_14 : decode cX1_overOf 14 = .ok (.goto 6, 3) := by decide +kernel
theorem dX1_overOf_17 : decode cX1_overOf 17 = .ok (.ldc2_w 35, 3) := by decide +kernel
theorem dX1_overOf_20 : decode cX1_overOf 20 = .ok (.lreturn, 1) := by decide +kernel
theorem dX1_underOf_0 : decode cX1_underOf 0 = .ok (.aload_n 0, 1) := by decide +kernel
theorem dX1_underOf_1 : decode cX1_underOf 1 = .ok (.iload_n 1, 1) := by decide +kernel
theorem dX1_underOf_2 : decode cX1_underOf 2 = .ok (.invokevirtual 31, 3) := by decide +kernel
theorem dX1_underOf_5 : decode cX1_underOf 5 = .ok (.ifCond .eq 12, 3) := by decide +kernel
theorem dX1_underOf_8 : decode cX1_underOf 8 = .ok (.aload_n 0, 1) := by decide +kernel
theorem dX1_underOf_9 : decode cX1_underOf 9 = .ok (.getfield 24, 3) := by decide +kernel
theorem dX1_underOf_12 : decode cX1_underOf 12 = .ok (.iload_n 1, 1) := by decide +kernel
theorem dX1_underOf_13 : decode cX1_underOf 13 = .ok (.laload, 1) := by decide +kernel
theorem dX1_underOf_14 : decode cX1_underOf 14 = .ok (.goto 6, 3) := by decide +kernel
theorem dX1_underOf_17 : decode cX1_underOf 17 = .ok (.ldc2_w 35, 3) := by decide +kernel
theorem dX1_underOf_20 : decode cX1_underOf 20 = .ok (.lreturn, 1) := by decide +kernel
theorem dX2_init_0 : decode cX2_init 0 = .ok (.aload_n 0, 1) := by decide +kernel
theorem dX2_init_1 : decode cX2_init 1 = .ok (.invokespecial 1, 3) := by decide +kernel
theorem dX2_init_4 : decode cX2_init 4 = .ok (.aload_n 0, 1) := by decide +kernel
theorem dX2_init_5 : decode cX2_init 5 = .ok (.bipush 12, 2) := by decide +kernel
theorem dX2_init_7 : decode cX2_init 7 = .ok (.newarray .int, 2) := by decide +kernel
theorem dX2_init_9 : decode cX2_init 9 = .ok (.putfield 9, 3) := by decide +kernel
theorem dX2_init_12 : decode cX2_init 12 = .ok (.aload_n 0, 1) := by decide +kernel
theorem dX2_init_13 : decode cX2_init 13 = .ok (.bipush 12, 2) := by decide +kernel
theorem dX2_init_15 : decode cX2_init 15 = .ok (.newarray .int, 2) := by decide +kernel
theorem dX2_init_17 : decode cX2_init 17 = .ok (.putfield 13, 3) := by decide +kernel
theorem dX2_init_20 : decode cX2_init 20 = .ok (.aload_n 0, 1) := by decide +kernel
theorem dX2_init_21 : decode cX2_init 21 = .ok (.iconst 0, 1) := by decide +kernel
theorem dX2_init_22 : decode cX2_init 22 = .ok (.putfield 16, 3) := by decide +kernel
theorem dX2_init_25 : decode cX2_init 25 = .ok (.return_, 1) := by decide +kernel
theorem dX2_size_0 : decode cX2_size 0 = .ok (.aload_n 0, 1) := by decide +kernel
theorem dX2_size_1 : decode cX2_size 1 = .ok (.getfield 16, 3) := by decide +kernel
theorem dX2_size_4 : decode cX2_size 4 = .ok (.ireturn, 1) := by decide +kernel
theorem dX2_clear_0 : decode cX2_clear 0 = .ok (.aload_n 0, 1) := by decide +kernel
theorem dX2_clear_1 : decode cX2_clear 1 = .ok (.iconst 0, 1) := by decide +kernel
theorem dX2_clear_2 : decode cX2_clear 2 = .ok (.putfield 16, 3) := by decide +kernel
theorem dX2_clear_5 : decode cX2_clear 5 = .ok (.return_, 1) := by decide +kernel
theorem dX2_add_0 : decode cX2_add 0 = .ok (.aload_n 0, 1) := by decide +kernel
theorem dX2_add_1 : decode cX2_add 1 = .ok (.getfield 16, 3) := by decide +kernel
theorem dX2_add_4 : decode cX2_add 4 = .ok (.bipush 12, 2) := by decide +kernel
theorem dX2_add_6 : decode cX2_add 6 = .ok (.if_icmp .lt 5, 3) := by decide +kernel
theorem dX2_add_9 : decode cX2_add 9 = .ok (.iconst 0, 1) := by decide +kernel
theorem dX2_add_10 : decode cX2_add 10 = .ok (.ireturn, 1) := by decide +kernel
theorem dX2_add_11 : decode cX2_add 11 = .ok (.aload_n 0, 1) := by decide +kernel
theorem dX2_add_12 : decode cX2_add 12 = .ok (.getfield 9, 3) := by decide +kernel
theorem dX2_add_15 : decode cX2_add 15 = .ok (.aload_n 0, 1) := by decide +kernel
theorem dX2_add_16 : decode cX2_add 16 = .ok (.getfield 16, 3) := by decide +kernel
theorem dX2_add_19 : decode cX2_add 19 = .ok (.iload_n 1, 1) := by decide +kernel
theorem dX2_add_20 : decode cX2_add 20 = .ok (.iastore, 1) := by decide +kernel
theorem dX2_add_21 : decode cX2_add 21 = .ok (.aload_n 0, 1) := by decide +kernel
theorem dX2_add_22 : decode cX2_add 22 = .ok (.getfield 13, 3) := by decide +kernel
theorem dX2_add_25 : decode cX2_add 25 = .ok (.aload_n 0, 1) := by decide +kernel
theorem dX2_add_26 : decode cX2_add 26 = .ok (.getfield 16, 3) := by decide +kernel
theorem dX2_add_29 : decode cX2_add 29 = .ok (.iload_n 2, 1) := by decide +kernel
theorem dX2_add_30 : decode cX2_add 30 = .ok (.iastore, 1) := by decide +kernel
theorem dX2_add_31 : decode cX2_add 31 = .ok (.aload_n 0, 1) := by decide +kernel
theorem dX2_add_32 : decode cX2_add 32 = .ok (.dup, 1) := by decide +kernel
theorem dX2_add_33 : decode cX2_add 33 = .ok (.getfield 16, 3) := by decide +kernel
theorem dX2_add_36 : decode cX2_add 36 = .ok (.iconst 1, 1) := by decide +kernel
theorem dX2_add_37 : decode cX2_add 37 = .ok (.iadd, 1) := by decide +kernel
theorem dX2_add_38 : decode cX2_add 38 = .ok (.putfield 16, 3) := by decide +kernel
theorem dX2_add_41 : decode cX2_add 41 = .ok (.iconst 1, 1) := by decide +kernel
theorem dX2_add_42 : decode cX2_add 42 = .ok (.ireturn, 1) := by decide +kernel
theorem dX2_xOf_0 : decode cX2_xOf 0 = .ok (.iload_n 1, 1) := by decide +kernel
theorem dX2_xOf_1 : decode cX2_xOf 1 = .ok (.ifCond .lt 20, 3) := by decide +kernel
theorem dX2_xOf_4 : decode cX2_xOf 4 = .ok (.iload_n 1, 1) := by decide +kernel
theorem dX2_xOf_5 : decode cX2_xOf 5 = .ok (.aload_n 0, 1) := by decide +kernel
theorem dX2_xOf_6 : decode cX2_xOf 6 = .ok (.getfield 16, 3) := by decide +kernel
theorem dX2_xOf_9 : decode cX2_xOf 9 = .ok (.if_icmp .ge 12, 3) := by decide +kernel
theorem dX2_xOf_12 : decode cX2_xOf 12 = .ok (.aload_n 0, 1) := by decide +kernel
theorem dX2_xOf_13 : decode cX2_xOf 13 = .ok (.getfield 9, 3) := by decide +kernel
theorem dX2_xOf_16 : decode cX2_xOf 16 = .ok (.iload_n 1, 1) := by decide +kernel
theorem dX2_xOf_17 : decode cX2_xOf 17 = .ok (.iaload, 1) := by decide +kernel
theorem dX2_xOf_18 : decode cX2_xOf 18 = .ok (.goto 4, 3) := by decide +kernel
theorem dX2_xOf_21 : decode cX2_xOf 21 = .ok (.iconst 0, 1) := by decide +kernel
theorem dX2_xOf_22 : decode cX2_xOf 22 = .ok (.ireturn, 1) := by decide +kernel
theorem dX2_yOf_0 : decode cX2_yOf 0 = .ok (.iload_n 1, 1) := by decide +kernel
theorem dX2_yOf_1 : decode cX2_yOf 1 = .ok (.ifCond .lt 20, 3) := by decide +kernel
theorem dX2_yOf_4 : decode cX2_yOf 4 = .ok (.iload_n 1, 1) := by decide +kernel
theorem dX2_yOf_5 : decode cX2_yOf 5 = .ok (.aload_n 0, 1) := by decide +kernel
theorem dX2_yOf_6 : decode cX2_yOf 6 = .ok (.getfield 16, 3) := by decide +kernel
theorem dX2_yOf_9 : decode cX2_yOf 9 = .ok (.if_icmp .ge 12, 3) := by decide +kernel
theorem dX2_yOf_12 : decode cX2_yOf 12 = .ok (.aload_n 0, 1) := by decide +kernel
theorem dX2_yOf_13 : decode cX2_yOf 13 = .ok (.getfield 13, 3) := by decide +kernel
theorem dX2_yOf_16 : decode cX2_yOf 16 = .ok (.iload_n 1, 1) := by decide +kernel
theorem dX2_yOf_17 : decode cX2_yOf 17 = .ok (.iaload, 1) := by decide +kernel
theorem dX2_yOf_18 : decode cX2_yOf 18 = .ok (.goto 4, 3) := by decide +kernel
theorem dX2_yOf_21 : decode cX2_yOf 21 = .ok (.iconst 0, 1) := by decide +kernel
theorem dX2_yOf_22 : decode cX2_yOf 22 = .ok (.ireturn, 1) := by decide +kernel
theorem dX2_next_0 : decode cX2_next 0 = .ok (.iload_n 1, 1) := by decide +kernel
theorem dX2_next_1 : decode cX2_next 1 = .ok (.iconst 1, 1) := by decide +kernel
theorem dX2_next_2 : decode cX2_next 2 = .ok (.iadd, 1) := by decide +kernel
theorem dX2_next_3 : decode cX2_next 3 = .ok (.aload_n 0, 1) := by decide +kernel
theorem dX2_next_4 : decode cX2_next 4 = .ok (.getfield 16, 3) := by decide +kernel
theorem dX2_next_7 : decode cX2_next 7 = .ok (.if_icmp .ge 9, 3) := by decide +kernel
theorem dX2_next_10 : decode cX2_next 10 = .ok (.iload_n 1, 1) := by decide +kernel
theorem dX2_next_11 : decode cX2_next 11 = .ok (.iconst 1, 1) := by decide +kernel
theorem dX2_next_12 : decode cX2_next 12 = .ok (.iadd, 1) := by decide +kernel
theorem dX2_next_13 : decode cX2_next 13 = .ok (.goto 4, 3) := by decide +kernel
theorem dX2_next_16 : decode cX2_next 16 = .ok (.iconst 0, 1) := by decide +kernel
theorem dX2_next_17 : decode cX2_next 17 = .ok (.ireturn, 1) := by decide +kernel
theorem dX2_isSimple_0 : decode cX2_isSimple 0 = .ok (.aload_n 0, 1) := by decide +kernel
theorem dX2_isSimple_1 : decode cX2_isSimple 1 = .ok (.getfield 16, 3) := by decide +kernel
theorem dX2_isSimple_4 : decode cX2_isSimple 4 = .ok (.iconst 3, 1) := by decide +kernel
theorem dX2_isSimple_5 : decode cX2_isSimple 5 = .ok (.if_icmp .ge 5, 3) := by decide +kernel
theorem dX2_isSimple_8 : decode cX2_isSimple 8 = .ok (.iconst 0, 1) := by decide +kernel
theorem dX2_isSimple_9 : decode cX2_isSimple 9 = .ok (.ireturn, 1) := by decide +kernel
theorem dX2_isSimple_10 : decode cX2_isSimple 10 = .ok (.iconst 0, 1) := by decide +kernel
theorem dX2_isSimple_11 : decode cX2_isSimple 11 = .ok (.istore_n 1, 1) := by decide +kernel
theorem dX2_isSimple_12 : decode cX2_isSimple 12 = .ok (.iload_n 1, 1) := by decide +kernel
theorem dX2_isSimple_13 : decode cX2_isSimple 13 = .ok (.aload_n 0, 1) := by decide +kernel
theorem dX2_isSimple_14 : decode cX2_isSimple 14 = .ok (.getfield 16, 3) := by decide +kernel
theorem dX2_isSimple_17 : decode cX2_isSimple 17 = .ok (.if_icmp .ge 123, 3) := by decide +kernel
theorem dX2_isSimple_20 : decode cX2_isSimple 20 = .ok (.aload_n 0, 1) := by decide +kernel
theorem dX2_isSimple_21 : decode cX2_isSimple 21 = .ok (.aload_n 0, 1) := by decide +kernel
theorem dX2_isSimple_22 : decode cX2_isSimple 22 = .ok (.iload_n 1, 1) := by decide +kernel
theorem dX2_isSimple_23 : decode cX2_isSimple 23 = .ok (.invokevirtual 20, 3) := by decide +kernel
theorem dX2_isSimple_26 : decode cX2_isSimple 26 = .ok (.iload_n 1, 1) := by decide +kernel
theorem dX2_isSimple_27 : decode cX2_isSimple 27 = .ok (.aload_n 0, 1) := by decide +kernel
theorem dX2_isSimple_28 : decode cX2_isSimple 28 = .ok (.aload_n 0, 1) := by decide +kernel
theorem dX2_isSimple_29 : decode cX2_isSimple 29 = .ok (.iload_n 1, 1) := by decide +kernel
theorem dX2_isSimple_30 : decode cX2_isSimple 30 = .ok (.invokevirtual 20, 3) := by decide +kernel
theorem dX2_isSimple_33 : decode cX2_isSimple 33 = .ok (.invokevirtual 20, 3) := by decide +kernel
theorem dX2_isSimple_36 : decode cX2_isSimple 36 = .ok (.invokevirtual 24, 3) := by decide +kernel
theorem dX2_isSimple_39 : decode cX2_isSimple 39 = .ok (.ifCond .eq 5, 3) := by decide +kernel
theorem dX2_isSimple_42 : decode cX2_isSimple 42 = .ok (.iconst 0, 1) := by decide +kernel
theorem dX2_isSimple_43 : decode cX2_isSimple 43 = .ok (.ireturn, 1) := by decide +kernel
theorem dX2_isSimple_44 : decode cX2_isSimple 44 = .ok (.iload_n 1, 1) := by decide +kernel
theorem dX2_isSimple_45 : decode cX2_isSimple 45 = .ok (.iconst 1, 1) := by decide +kernel
theorem dX2_isSimple_46 : decode cX2_isSimple 46 = .ok (.iadd, 1) := by decide +kernel
theorem dX2_isSimple_47 : decode cX2_isSimple 47 = .ok (.istore_n 2, 1) := by decide +kernel
theorem dX2_isSimple_48 : decode cX2_isSimple 48 = .ok (.iload_n 2, 1) := by decide +kernel
theorem dX2_isSimple_49 : decode cX2_isSimple 49 = .ok (.aload_n 0, 1) := by decide +kernel
theorem dX2_isSimple_50 : decode cX2_isSimple 50 = .ok (.getfield 16, 3) := by decide +kernel
theorem dX2_isSimple_53 : decode cX2_isSimple 53 = .ok (.if_icmp .ge 81, 3) := by decide +kernel
theorem dX2_isSimple_56 : decode cX2_isSimple 56 = .ok (.aload_n 0, 1) := by decide +kernel
theorem dX2_isSimple_57 : decode cX2_isSimple 57 = .ok (.getfield 9, 3) := by decide +kernel
theorem dX2_isSimple_60 : decode cX2_isSimple 60 = .ok (.iload_n 1, 1) := by decide +kernel
theorem dX2_isSimple_61 : decode cX2_isSimple 61 = .ok (.iaload, 1) := by decide +kernel
theorem dX2_isSimple_62 : decode cX2_isSimple 62 = .ok (.aload_n 0, 1) := by decide +kernel
theorem dX2_isSimple_63 : decode cX2_isSimple 63 = .ok (.getfield 9, 3) := by decide +kernel
theorem dX2_isSimple_66 : decode cX2_isSimple 66 = .ok (.iload_n 2, 1) := by decide +kernel
theorem dX2_isSimple_67 : decode cX2_isSimple 67 = .ok (.iaload, 1) := by decide +kernel
theorem dX2_isSimple_68 : decode cX2_isSimple 68 = .ok (.if_icmp .ne 20, 3) := by decide +kernel
theorem dX2_isSimple_71 : decode cX2_isSimple 71 = .ok (.aload_n 0, 1) := by decide +kernel
theorem dX2_isSimple_72 : decode cX2_isSimple 72 = .ok (.getfield 13, 3) := by decide +kernel
theorem dX2_isSimple_75 : decode cX2_isSimple 75 = .ok (.iload_n 1, 1) := by decide +kernel
theorem dX2_isSimple_76 : decode cX2_isSimple 76 = .ok (.iaload, 1) := by decide +kernel
theorem dX2_isSimple_77 : decode cX2_isSimple 77 = .ok (.aload_n 0, 1) := by decide +kernel
theorem dX2_isSimple_78 : decode cX2_isSimple 78 = .ok (.getfield 13, 3) := by decide +kernel
theorem dX2_isSimple_81 : decode cX2_isSimple 81 = .ok (.iload_n 2, 1) := by decide +kernel
theorem dX2_isSimple_82 : decode cX2_isSimple 82 = .ok (.iaload, 1) := by decide +kernel
theorem dX2_isSimple_83 : decode cX2_isSimple 83 = .ok (.if_icmp .ne 5, 3) := by decide +kernel
theorem dX2_isSimple_86 : decode cX2_isSimple 86 = .ok (.iconst 0, 1) := by decide +kernel
theorem dX2_isSimple_87 : decode cX2_isSimple 87 = .ok (.ireturn, 1) := by decide +kernel
theorem dX2_isSimple_88 : decode cX2_isSimple 88 = .ok (.aload_n 0, 1) := by decide +kernel
theorem dX2_isSimple_89 : decode cX2_isSimple 89 = .ok (.iload_n 1, 1) := by decide +kernel
theorem dX2_isSimple_90 : decode cX2_isSimple 90 = .ok (.invokevirtual 20, 3) := by decide +kernel
theorem dX2_isSimple_93 : decode cX2_isSimple 93 = .ok (.iload_n 2, 1) := by decide +kernel
theorem dX2_isSimple_94 : decode cX2_isSimple 94 = .ok (.if_icmp .eq 12, 3) := by decide +kernel
theorem dX2_isSimple_97 : decode cX2_isSimple 97 = .ok (.aload_n 0, 1) := by decide +kernel
theorem dX2_isSimple_98 : decode cX2_isSimple 98 = .ok (.iload_n 2, 1) := by decide +kernel
theorem dX2_isSimple_99 : decode cX2_isSimple 99 = .ok (.invokevirtual 20, 3) := by decide +kernel
theorem dX2_isSimple_102 : decode cX2_isSimple 102 = .ok (.iload_n 1, 1) := by decide +kernel
theorem dX2_isSimple_103 : decode cX2_isSimple 103 = .ok (.if_icmp .ne 7, 3) := by decide +kernel
theorem dX2_isSimple_106 : decode cX2_isSimple 106 = .ok (.iconst 1, 1) := by decide +kernel
theorem dX2_isSimple_107 : decode cX2_isSimple 107 = .ok (.goto 4, 3) := by decide +kernel
theorem dX2_isSimple_110 : decode cX2_isSimple 110 = .ok (.iconst 0, 1) := by decide +kernel
theorem dX2_isSimple_111 : decode cX2_isSimple 111 = .ok (.istore_n 3, 1) := by decide +kernel
theorem dX2_isSimple_112 : decode cX2_isSimple 112 = .ok (.iload_n 3, 1) := by decide +kernel
theorem dX2_isSimple_113 : decode cX2_isSimple 113 = .ok (.ifCond .ne 15, 3) := by decide +kernel
theorem dX2_isSimple_116 : decode cX2_isSimple 116 = .ok (.aload_n 0, 1) := by decide +kernel
theorem dX2_isSimple_117 : decode cX2_isSimple 117 = .ok (.iload_n 1, 1) := by decide +kernel
theorem dX2_isSimple_118 : decode cX2_isSimple 118 = .ok (.aload_n 0, 1) := by decide +kernel
theorem dX2_isSimple_119 : decode cX2_isSimple 119 = .ok (.iload_n 2, 1) := by decide +kernel
theorem dX2_isSimple_120 : decode cX2_isSimple 120 = .ok (.invokevirtual 28, 3) := by decide +kernel
theorem dX2_isSimple_123 : decode cX2_isSimple 123 = .ok (.ifCond .eq 5, 3) := by decide +kernel
theorem dX2_isSimple_126 : decode cX2_isSimple 126 = .ok (.iconst 0, 1) := by decide +kernel
theorem dX2_isSimple_127 : decode cX2_isSimple 127 = .ok (.ireturn, 1) := by decide +kernel
theorem dX2_isSimple_128 : decode cX2_isSimple 128 = .ok (.iinc 2 1, 3) := by decide +kernel
theorem dX2_isSimple_131 : decode cX2_isSimple 131 = .ok (.goto (-83), 3) := by decide +kernel
theorem dX2_isSimple_134 : decode cX2_isSimple 134 = .ok (.iinc 1 1, 3) := by decide +kernel
theorem dX2_isSimple_137 : decode cX2_isSimple 137 = .ok (.goto (-125), 3) := by decide +kernel
theorem dX2_isSimple_140 : decode cX2_isSimple 140 = .ok (.iconst 1, 1) := by decide +kernel
theorem dX2_isSimple_141 : decode cX2_isSimple 141 = .ok (.ireturn, 1) := by decide +kernel
theorem dX2_foldsBackAt_0 : decode cX2_foldsBackAt 0 = .ok (.aload_n 0, 1) := by decide +kernel
theorem dX2_foldsBackAt_1 : decode cX2_foldsBackAt 1 = .ok (.getfield 9, 3) := by decide +kernel
theorem dX2_foldsBackAt_4 : decode cX2_foldsBackAt 4 = .ok (.iload_n 2, 1) := by decide +kernel
theorem dX2_foldsBackAt_5 : decode cX2_foldsBackAt 5 = .ok (.iaload, 1) := by decide +kernel
theorem dX2_foldsBackAt_6 : decode cX2_foldsBackAt 6 = .ok (.aload_n 0, 1) := by decide +kernel
theorem dX2_foldsBackAt_7 : decode cX2_foldsBackAt 7 = .ok (.getfield 9, 3) := by decide +kernel
theorem dX2_foldsBackAt_10 : decode cX2_foldsBackAt 10 = .ok (.iload_n 1, 1) := by decide +kernel
theorem dX2_foldsBackAt_11 : decode cX2_foldsBackAt 11 = .ok (.iaload, 1) := by decide +kernel
theorem dX2_foldsBackAt_12 : decode cX2_foldsBackAt 12 = .ok (.isub, 1) := by decide +kernel
theorem dX2_foldsBackAt_13 : decode cX2_foldsBackAt 13 = .ok (.istore 4, 2) := by decide +kernel
theorem dX2_foldsBackAt_15 : decode cX2_foldsBackAt 15 = .ok (.aload_n 0, 1) := by decide +kernel
theorem dX2_foldsBackAt_16 : decode cX2_foldsBackAt 16 = .ok (.getfield 13, 3) := by decide +kernel
theorem dX2_foldsBackAt_19 : decode cX2_foldsBackAt 19 = .ok (.iload_n 2, 1) := by decide +kernel
theorem dX2_foldsBackAt_20 : decode cX2_foldsBackAt 20 = .ok (.iaload, 1) := by decide +kernel
theorem dX2_foldsBackAt_21 : decode cX2_foldsBackAt 21 = .ok (.aload_n 0, 1) := by decide +kernel
theorem dX2_foldsBackAt_22 : decode cX2_foldsBackAt 22 = .ok (.getfield 13, 3) := by decide +kernel
theorem dX2_foldsBackAt_25 : decode cX2_foldsBackAt 25 = .ok (.iload_n 1, 1) := by decide +kernel
theorem dX2_foldsBackAt_26 : decode cX2_foldsBackAt 26 = .ok (.iaload, 1) := by decide +kernel
theorem dX2_foldsBackAt_27 : decode cX2_foldsBackAt 27 = .ok (.isub, 1) := by decide +kernel
theorem dX2_foldsBackAt_28 : decode cX2_foldsBackAt 28 = .ok (.istore 5, 2) := by decide +kernel
theorem dX2_foldsBackAt_30 : decode cX2_foldsBackAt 30 = .ok (.aload_n 0, 1) := by decide +kernel
theorem dX2_foldsBackAt_31 : decode cX2_foldsBackAt 31 = .ok (.getfield 9, 3) := by decide +kernel
theorem dX2_foldsBackAt_34 : decode cX2_foldsBackAt 34 = .ok (.iload_n 3, 1) := by decide +kernel
theorem dX2_foldsBackAt_35 : decode cX2_foldsBackAt 35 = .ok (.iaload, 1) := by decide +kernel
theorem dX2_foldsBackAt_36 : decode cX2_foldsBackAt 36 = .ok (.aload_n 0, 1) := by decide +kernel
theorem dX2_foldsBackAt_37 : decode cX2_foldsBackAt 37 = .ok (.getfield 9, 3) := by decide +kernel
theorem dX2_foldsBackAt_40 : decode cX2_foldsBackAt 40 = .ok (.iload_n 1, 1) := by decide +kernel
theorem dX2_foldsBackAt_41 : decode cX2_foldsBackAt 41 = .ok (.iaload, 1) := by decide +kernel
theorem dX2_foldsBackAt_42 : decode cX2_foldsBackAt 42 = .ok (.isub, 1) := by decide +kernel
theorem dX2_foldsBackAt_43 : decode cX2_foldsBackAt 43 = .ok (.istore 6, 2) := by decide +kernel
theorem dX2_foldsBackAt_45 : decode cX2_foldsBackAt 45 = .ok (.aload_n 0, 1) := by decide +kernel
theorem dX2_foldsBackAt_46 : decode cX2_foldsBackAt 46 = .ok (.getfield 13, 3) := by decide +kernel
theorem dX2_foldsBackAt_49 : decode cX2_foldsBackAt 49 = .ok (.iload_n 3, 1) := by decide +kernel
theorem dX2_foldsBackAt_50 : decode cX2_foldsBackAt 50 = .ok (.iaload, 1) := by decide +kernel
theorem dX2_foldsBackAt_51 : decode cX2_foldsBackAt 51 = .ok (.aload_n 0, 1) := by decide +kernel
theorem dX2_foldsBackAt_52 : decode cX2_foldsBackAt 52 = .ok (.getfield 13, 3) := by decide +kernel
theorem dX2_foldsBackAt_55 : decode cX2_foldsBackAt 55 = .ok (.iload_n 1, 1) := by decide +kernel
theorem dX2_foldsBackAt_56 : decode cX2_foldsBackAt 56 = .ok (.iaload, 1) := by decide +kernel
theorem dX2_foldsBackAt_57 : decode cX2_foldsBackAt 57 = .ok (.isub, 1) := by decide +kernel
theorem dX2_foldsBackAt_58 : decode cX2_foldsBackAt 58 = .ok (.istore 7, 2) := by decide +kernel
theorem dX2_foldsBackAt_60 : decode cX2_foldsBackAt 60 = .ok (.iload 4, 2) := by decide +kernel
theorem dX2_foldsBackAt_62 : decode cX2_foldsBackAt 62 = .ok (.iload 7, 2) := by decide +kernel
theorem dX2_foldsBackAt_64 : decode cX2_foldsBackAt 64 = .ok (.imul, 1) := by decide +kernel
theorem dX2_foldsBackAt_65 : decode cX2_foldsBackAt 65 = .ok (.iload 5, 2) := by decide +kernel
theorem dX2_foldsBackAt_67 : decode cX2_foldsBackAt 67 = .ok (.iload 6, 2) := by decide +kernel
theorem dX2_foldsBackAt_69 : decode cX2_foldsBackAt 69 = .ok (.imul, 1) := by decide +kernel
theorem dX2_foldsBackAt_70 : decode cX2_foldsBackAt 70 = .ok (.if_icmp .ne 21, 3) := by decide +kernel
theorem dX2_foldsBackAt_73 : decode cX2_foldsBackAt 73 = .ok (.iload 4, 2) := by decide +kernel
theorem dX2_foldsBackAt_75 : decode cX2_foldsBackAt 75 = .ok (.iload 6, 2) := by decide +kernel
theorem dX2_foldsBackAt_77 : decode cX2_foldsBackAt 77 = .ok (.imul, 1) := by decide +kernel
theorem dX2_foldsBackAt_78 : decode cX2_foldsBackAt 78 = .ok (.iload 5, 2) := by decide +kernel
theorem dX2_foldsBackAt_80 : decode cX2_foldsBackAt 80 = .ok (.iload 7, 2) := by decide +kernel
theorem dX2_foldsBackAt_82 : decode cX2_foldsBackAt 82 = .ok (.imul, 1) := by decide +kernel
theorem dX2_foldsBackAt_83 : decode cX2_foldsBackAt 83 = .ok (.iadd, 1) := by decide +kernel
theorem dX2_foldsBackAt_84 : decode cX2_foldsBackAt 84 = .ok (.ifCond .le 7, 3) := by decide +kernel
theorem dX2_foldsBackAt_87 : decode cX2_foldsBackAt 87 = .ok (.iconst 1, 1) := by decide +kernel
theorem dX2_foldsBackAt_88 : decode cX2_foldsBackAt 88 = .ok (.goto 4, 3) := by decide +kernel
theorem dX2_foldsBackAt_91 : decode cX2_foldsBackAt 91 = .ok (.iconst 0, 1) := by decide +kernel
theorem dX2_foldsBackAt_92 : decode cX2_foldsBackAt 92 = .ok (.ireturn, 1) := by decide +kernel
theorem dX2_meets_0 : decode cX2_meets 0 = .ok (.iconst 0, 1) := by decide +kernel
theorem dX2_meets_1 : decode cX2_meets 1 = .ok (.istore_n 2, 1) := by decide +kernel
theorem dX2_meets_2 : decode cX2_meets 2 = .ok (.iload_n 2, 1) := by decide +kernel
theorem dX2_meets_3 : decode cX2_meets 3 = .ok (.aload_n 0, 1) := by decide +kernel
theorem dX2_meets_4 : decode cX2_meets 4 = .ok (.getfield 16, 3) := by decide +kernel
theorem dX2_meets_7 : decode cX2_meets 7 = .ok (.if_icmp .ge 37, 3) := by decide +kernel
theorem dX2_meets_10 : decode cX2_meets 10 = .ok (.iconst 0, 1) := by decide +kernel
theorem dX2_meets_11 : decode cX2_meets 11 = .ok (.istore_n 3, 1) := by decide +kernel
theorem dX2_meets_12 : decode cX2_meets 12 = .ok (.iload_n 3, 1) := by decide +kernel
theorem dX2_meets_13 : decode cX2_meets 13 = .ok (.aload_n 1, 1) := by decide +kernel
theorem dX2_meets_14 : decode cX2_meets 14 = .ok (.getfield 16, 3) := by decide +kernel
theorem dX2_meets_17 : decode cX2_meets 17 = .ok (.if_icmp .ge 21, 3) := by decide +kernel
theorem dX2_meets_20 : decode cX2_meets 20 = .ok (.aload_n 0, 1) := by decide +kernel
theorem dX2_meets_21 : decode cX2_meets 21 = .ok (.iload_n 2, 1) := by decide +kernel
theorem dX2_meets_22 : decode cX2_meets 22 = .ok (.aload_n 1, 1) := by decide +kernel
theorem dX2_meets_23 : decode cX2_meets 23 = .ok (.iload_n 3, 1) := by decide +kernel
theorem dX2_meets_24 : decode cX2_meets 24 = .ok (.invokevirtual 28, 3) := by decide +kernel
theorem dX2_meets_27 : decode cX2_meets 27 = .ok (.ifCond .eq 5, 3) := by decide +kernel
theorem dX2_meets_30 : decode cX2_meets 30 = .ok (.iconst 1, 1) := by decide +kernel
theorem dX2_meets_31 : decode cX2_meets 31 = .ok (.ireturn, 1) := by decide +kernel
theorem dX2_meets_32 : decode cX2_meets 32 = .ok (.iinc 3 1, 3) := by decide +kernel
theorem dX2_meets_35 : decode cX2_meets 35 = .ok (.goto (-23), 3) := by decide +kernel
theorem dX2_meets_38 : decode cX2_meets 38 = .ok (.iinc 2 1, 3) := by decide +kernel
theorem dX2_meets_41 : decode cX2_meets 41 = .ok (.goto (-39), 3) := by decide +kernel
theorem dX2_meets_44 : decode cX2_meets 44 = .ok (.iconst 0, 1) := by decide +kernel
theorem dX2_meets_45 : decode cX2_meets 45 = .ok (.ireturn, 1) := by decide +kernel
theorem dX2_sidesMeet_0 : decode cX2_sidesMeet 0 = .ok (.aload_n 0, 1) := by decide +kernel
theorem dX2_sidesMeet_1 : decode cX2_sidesMeet 1 = .ok (.iload_n 1, 1) := by decide +kernel
theorem dX2_sidesMeet_2 : decode cX2_sidesMeet 2 = .ok (.invokevirtual 20, 3) := by decide +kernel
theorem dX2_sidesMeet_5 : decode cX2_sidesMeet 5 = .ok (.istore 4, 2) := by decide +kernel
theorem dX2_sidesMeet_7 : decode cX2_sidesMeet 7 = .ok (.aload_n 2, 1) := by decide +kernel
theorem dX2_sidesMeet_8 : decode cX2_sidesMeet 8 = .ok (.iload_n 3, 1) := by decide +kernel
theorem dX2_sidesMeet_9 : decode cX2_sidesMeet 9 = .ok (.invokevirtual 20, 3) := by decide +kernel
theorem dX2_sidesMeet_12 : decode cX2_sidesMeet 12 = .ok (.istore 5, 2) := by decide +kernel
theorem dX2_sidesMeet_14 : decode cX2_sidesMeet 14 = .ok (.aload_n 0, 1) := by decide +kernel
theorem dX2_sidesMeet_15 : decode cX2_sidesMeet 15 = .ok (.iload_n 1, 1) := by decide +kernel
theorem dX2_sidesMeet_16 : decode cX2_sidesMeet 16 = .ok (.aload_n 2, 1) := by decide +kernel
theorem dX2_sidesMeet_17 : decode cX2_sidesMeet 17 = .ok (.getfield 9, 3) := by decide +kernel
theorem dX2_sidesMeet_20 : decode cX2_sidesMeet 20 = .ok (.iload_n 3, 1) := by decide +kernel
theorem dX2_sidesMeet_21 : decode cX2_sidesMeet 21 = .ok (.iaload, 1) := by decide +kernel
theorem dX2_sidesMeet_22 : decode cX2_sidesMeet 22 = .ok (.i2l, 1) := by decide +kernel
theorem dX2_sidesMeet_23 : decode cX2_sidesMeet 23 = .ok (.aload_n 2, 1) := by decide +kernel
theorem dX2_sidesMeet_24 : decode cX2_sidesMeet 24 = .ok (.getfield 13, 3) := by decide +kernel
theorem dX2_sidesMeet_27 : decode cX2_sidesMeet 27 = .ok (.iload_n 3, 1) := by decide +kernel
theorem dX2_sidesMeet_28 : decode cX2_sidesMeet 28 = .ok (.iaload, 1) := by decide +kernel
theorem dX2_sidesMeet_29 : decode cX2_sidesMeet 29 = .ok (.i2l, 1) := by decide +kernel
theorem dX2_sidesMeet_30 : decode cX2_sidesMeet 30 = .ok (.lconst 1, 1) := by decide +kernel
theorem dX2_sidesMeet_31 : decode cX2_sidesMeet 31 = .ok (.invokevirtual 32, 3) := by decide +kernel
theorem dX2_sidesMeet_34 : decode cX2_sidesMeet 34 = .ok (.lstore 6, 2) := by decide +kernel
theorem dX2_sidesMeet_36 : decode cX2_sidesMeet 36 = .ok (.aload_n 0, 1) := by decide +kernel
theorem dX2_sidesMeet_37 : decode cX2_sidesMeet 37 = .ok (.iload_n 1, 1) := by decide +kernel
theorem dX2_sidesMeet_38 : decode cX2_sidesMeet 38 = .ok (.aload_n 2, 1) := by decide +kernel
theorem dX2_sidesMeet_39 : decode cX2_sidesMeet 39 = .ok (.getfield 9, 3) := by decide +kernel
theorem dX2_sidesMeet_42 : decode cX2_sidesMeet 42 = .ok (.iload 5, 2) := by decide +kernel
theorem dX2_sidesMeet_44 : decode cX2_sidesMeet 44 = .ok (.iaload, 1) := by decide +kernel
theorem dX2_sidesMeet_45 : decode cX2_sidesMeet 45 = .ok (.i2l, 1) := by decide +kernel
theorem dX2_sidesMeet_46 : decode cX2_sidesMeet 46 = .ok (.aload_n 2, 1) := by decide +kernel
theorem dX2_sidesMeet_47 : decode cX2_sidesMeet 47 = .ok (.getfield 13, 3) := by decide +kernel
theorem dX2_sidesMeet_50 : decode cX2_sidesMeet 50 = .ok (.iload 5, 2) := by decide +kernel
theorem dX2_sidesMeet_52 : decode cX2_sidesMeet 52 = .ok (.iaload, 1) := by decide +kernel
theorem dX2_sidesMeet_53 : decode cX2_sidesMeet 53 = .ok (.i2l, 1) := by decide +kernel
theorem dX2_sidesMeet_54 : decode cX2_sidesMeet 54 = .ok (.lconst 1, 1) := by decide +kernel
theorem dX2_sidesMeet_55 : decode cX2_sidesMeet 55 = .ok (.invokevirtual 32, 3) := by decide +kernel
theorem dX2_sidesMeet_58 : decode cX2_sidesMeet 58 = .ok (.lstore 8, 2) := by decide +kernel
theorem dX2_sidesMeet_60 : decode cX2_sidesMeet 60 = .ok (.aload_n 2, 1) := by decide +kernel
theorem dX2_sidesMeet_61 : decode cX2_sidesMeet 61 = .ok (.iload_n 3, 1) := by decide +kernel
theorem dX2_sidesMeet_62 : decode cX2_sidesMeet 62 = .ok (.aload_n 0, 1) := by decide +kernel
theorem dX2_sidesMeet_63 : decode cX2_sidesMeet 63 = .ok (.getfield 9, 3) := by decide +kernel
theorem dX2_sidesMeet_66 : decode cX2_sidesMeet 66 = .ok (.iload_n 1, 1) := by decide +kernel
theorem dX2_sidesMeet_67 : decode cX2_sidesMeet 67 = .ok (.iaload, 1) := by decide +kernel
theorem dX2_sidesMeet_68 : decode cX2_sidesMeet 68 = .ok (.i2l, 1) := by decide +kernel
theorem dX2_sidesMeet_69 : decode cX2_sidesMeet 69 = .ok (.aload_n 0, 1) := by decide +kernel
theorem dX2_sidesMeet_70 : decode cX2_sidesMeet 70 = .ok (.getfield 13, 3) := by decide +kernel
theorem dX2_sidesMeet_73 : decode cX2_sidesMeet 73 = .ok (.iload_n 1, 1) := by decide +kernel
theorem dX2_sidesMeet_74 : decode cX2_sidesMeet 74 = .ok (.iaload, 1) := by decide +kernel
theorem dX2_sidesMeet_75 : decode cX2_sidesMeet 75 = .ok (.i2l, 1) := by decide +kernel
theorem dX2_sidesMeet_76 : decode cX2_sidesMeet 76 = .ok (.lconst 1, 1) := by decide +kernel
theorem dX2_sidesMeet_77 : decode cX2_sidesMeet 77 = .ok (.invokevirtual 32, 3) := by decide +kernel
theorem dX2_sidesMeet_80 : decode cX2_sidesMeet 80 = .ok (.lstore 10, 2) := by decide +kernel
theorem dX2_sidesMeet_82 : decode cX2_sidesMeet 82 = .ok (.aload_n 2, 1) := by decide +kernel
theorem dX2_sidesMeet_83 : decode cX2_sidesMeet 83 = .ok (.iload_n 3, 1) := by decide +kernel
theorem dX2_sidesMeet_84 : decode cX2_sidesMeet 84 = .ok (.aload_n 0, 1) := by decide +kernel
theorem dX2_sidesMeet_85 : decode cX2_sidesMeet 85 = .ok (.getfield 9, 3) := by decide +kernel
theorem dX2_sidesMeet_88 : decode cX2_sidesMeet 88 = .ok (.iload 4, 2) := by decide +kernel
theorem dX2_sidesMeet_90 : decode cX2_sidesMeet 90 = .ok (.iaload, 1) := by decide +kernel
theorem dX2_sidesMeet_91 : decode cX2_sidesMeet 91 = .ok (.i2l, 1) := by decide +kernel
theorem dX2_sidesMeet_92 : decode cX2_sidesMeet 92 = .ok (.aload_n 0, 1) := by decide +kernel
theorem dX2_sidesMeet_93 : decode cX2_sidesMeet 93 = .ok (.getfield 13, 3) := by decide +kernel
theorem dX2_sidesMeet_96 : decode cX2_sidesMeet 96 = .ok (.iload 4, 2) := by decide +kernel
theorem dX2_sidesMeet_98 : decode cX2_sidesMeet 98 = .ok (.iaload, 1) := by decide +kernel
theorem dX2_sidesMeet_99 : decode cX2_sidesMeet 99 = .ok (.i2l, 1) := by decide +kernel
theorem dX2_sidesMeet_100 : decode cX2_sidesMeet 100 = .ok (.lconst 1, 1) := by decide +kernel
theorem dX2_sidesMeet_101 : decode cX2_sidesMeet 101 = .ok (.invokevirtual 32, 3) := by decide +kernel
theorem dX2_sidesMeet_104 : decode cX2_sidesMeet 104 = .ok (.lstore 12, 2) := by decide +kernel
theorem dX2_sidesMeet_106 : decode cX2_sidesMeet 106 = .ok (.lload 6, 2) := by decide +kernel
theorem dX2_sidesMeet_108 : decode cX2_sidesMeet 108 = .ok (.lload 8, 2) := by decide +kernel
theorem dX2_sidesMeet_110 : decode cX2_sidesMeet 110 = .ok (.invokestatic 36, 3) := by decide +kernel
theorem dX2_sidesMeet_113 : decode cX2_sidesMeet 113 = .ok (.ifCond .eq 15, 3) := by decide +kernel
theorem dX2_sidesMeet_116 : decode cX2_sidesMeet 116 = .ok (.lload 10, 2) := by decide +kernel
theorem dX2_sidesMeet_118 : decode cX2_sidesMeet 118 = .ok (.lload 12, 2) := by decide +kernel
theorem dX2_sidesMeet_120 : decode cX2_sidesMeet 120 = .ok (.invokestatic 36, 3) := by decide +kernel
theorem dX2_sidesMeet_123 : decode cX2_sidesMeet 123 = .ok (.ifCond .eq 5, 3) := by decide +kernel
theorem dX2_sidesMeet_126 : decode cX2_sidesMeet 126 = .ok (.iconst 1, 1) := by decide +kernel
theorem dX2_sidesMeet_127 : decode cX2_sidesMeet 127 = .ok (.ireturn, 1) := by decide +kernel
theorem dX2_sidesMeet_128 : decode cX2_sidesMeet 128 = .ok (.lload 6, 2) := by decide +kernel
theorem dX2_sidesMeet_130 : decode cX2_sidesMeet 130 = .ok (.lconst 0, 1) := by decide +kernel
theorem dX2_sidesMeet_131 : decode cX2_sidesMeet 131 = .ok (.lcmp, 1) := by decide +kernel
theorem dX2_sidesMeet_132 : decode cX2_sidesMeet 132 = .ok (.ifCond .ne 26, 3) := by decide +kernel
theorem dX2_sidesMeet_135 : decode cX2_sidesMeet 135 = .ok (.aload_n 0, 1) := by decide +kernel
theorem dX2_sidesMeet_136 : decode cX2_sidesMeet 136 = .ok (.iload_n 1, 1) := by decide +kernel
theorem dX2_sidesMeet_137 : decode cX2_sidesMeet 137 = .ok (.aload_n 2, 1) := by decide +kernel
theorem dX2_sidesMeet_138 : decode cX2_sidesMeet 138 = .ok (.getfield 9, 3) := by decide +kernel
theorem dX2_sidesMeet_141 : decode cX2_sidesMeet 141 = .ok (.iload_n 3, 1) := by decide +kernel
theorem dX2_sidesMeet_142 : decode cX2_sidesMeet 142 = .ok (.iaload, 1) := by decide +kernel
theorem dX2_sidesMeet_143 : decode cX2_sidesMeet 143 = .ok (.i2l, 1) := by decide +kernel
theorem dX2_sidesMeet_144 : decode cX2_sidesMeet 144 = .ok (.aload_n 2, 1) := by decide +kernel
theorem dX2_sidesMeet_145 : decode cX2_sidesMeet 145 = .ok (.getfield 13, 3) := by decide +kernel
theorem dX2_sidesMeet_148 : decode cX2_sidesMeet 148 = .ok (.iload_n 3, 1) := by decide +kernel
theorem dX2_sidesMeet_149 : decode cX2_sidesMeet 149 = .ok (.iaload, 1) := by decide +kernel
theorem dX2_sidesMeet_150 : decode cX2_sidesMeet 150 = .ok (.i2l, 1) := by decide +kernel
theorem dX2_sidesMeet_151 : decode cX2_sidesMeet 151 = .ok (.lconst 1, 1) := by decide +kernel
theorem dX2_sidesMeet_152 : decode cX2_sidesMeet 152 = .ok (.invokevirtual 40, 3) := by decide +kernel
theorem dX2_sidesMeet_155 : decode cX2_sidesMeet 155 = .ok (.ifCond .ne 97, 3) := by decide +kernel
theorem dX2_sidesMeet_158 : decode cX2_sidesMeet 158 = .ok (.lload 8, 2) := by decide +kernel
theorem dX2_sidesMeet_160 : decode cX2_sidesMeet 160 = .ok (.lconst 0, 1) := by decide +kernel
theorem dX2_sidesMeet_161 : decode cX2_sidesMeet 161 = .ok (.lcmp, 1) := by decide +kernel
theorem dX2_sidesMeet_162 : decode cX2_sidesMeet 162 = .ok (.ifCond .ne 28, 3) := by decide +kernel
theorem dX2_sidesMeet_165 : decode cX2_sidesMeet 165 = .ok (.aload_n 0, 1) := by decide +kernel
theorem dX2_sidesMeet_166 : decode cX2_sidesMeet 166 = .ok (.iload_n 1, 1) := by decide +kernel
theorem dX2_sidesMeet_167 : decode cX2_sidesMeet 167 = .ok (.aload_n 2, 1) := by decide +kernel
theorem dX2_sidesMeet_168 : decode cX2_sidesMeet 168 = .ok (.getfield 9, 3) := by decide +kernel
theorem dX2_sidesMeet_171 : decode cX2_sidesMeet 171 = .ok (.iload 5, 2) := by decide +kernel
theorem dX2_sidesMeet_173 : decode cX2_sidesMeet 173 = .ok (.iaload, 1) := by decide +kernel
theorem dX2_sidesMeet_174 : decode cX2_sidesMeet 174 = .ok (.i2l, 1) := by decide +kernel
theorem dX2_sidesMeet_175 : decode cX2_sidesMeet 175 = .ok (.aload_n 2, 1) := by decide +kernel
theorem dX2_sidesMeet_176 : decode cX2_sidesMeet 176 = .ok (.getfield 13, 3) := by decide +kernel
theorem dX2_sidesMeet_179 : decode cX2_sidesMeet 179 = .ok (.iload 5, 2) := by decide +kernel
theorem dX2_sidesMeet_181 : decode cX2_sidesMeet 181 = .ok (.iaload, 1) := by decide +kernel
theorem dX2_sidesMeet_182 : decode cX2_sidesMeet 182 = .ok (.i2l, 1) := by decide +kernel
theorem dX2_sidesMeet_183 : decode cX2_sidesMeet 183 = .ok (.lconst 1, 1) := by decide +kernel
theorem dX2_sidesMeet_184 : decode cX2_sidesMeet 184 = .ok (.invokevirtual 40, 3) := by decide +kernel
theorem dX2_sidesMeet_187 : decode cX2_sidesMeet 187 = .ok (.ifCond .ne 65, 3) := by decide +kernel
theorem dX2_sidesMeet_190 : decode cX2_sidesMeet 190 = .ok (.lload 10, 2) := by decide +kernel
theorem dX2_sidesMeet_192 : decode cX2_sidesMeet 192 = .ok (.lconst 0, 1) := by decide +kernel
theorem dX2_sidesMeet_193 : decode cX2_sidesMeet 193 = .ok (.lcmp, 1) := by decide +kernel
theorem dX2_sidesMeet_194 : decode cX2_sidesMeet 194 = .ok (.ifCond .ne 26, 3) := by decide +kernel
theorem dX2_sidesMeet_197 : decode cX2_sidesMeet 197 = .ok (.aload_n 2, 1) := by decide +kernel
theorem dX2_sidesMeet_198 : decode cX2_sidesMeet 198 = .ok (.iload_n 3, 1) := by decide +kernel
theorem dX2_sidesMeet_199 : decode cX2_sidesMeet 199 = .ok (.aload_n 0, 1) := by decide +kernel
theorem dX2_sidesMeet_200 : decode cX2_sidesMeet 200 = .ok (.getfield 9, 3) := by decide +kernel
theorem dX2_sidesMeet_203 : decode cX2_sidesMeet 203 = .ok (.iload_n 1, 1) := by decide +kernel
theorem dX2_sidesMeet_204 : decode cX2_sidesMeet 204 = .ok (.iaload, 1) := by decide +kernel
theorem dX2_sidesMeet_205 : decode cX2_sidesMeet 205 = .ok (.i2l, 1) := by decide +kernel
theorem dX2_sidesMeet_206 : decode cX2_sidesMeet 206 = .ok (.aload_n 0, 1) := by decide +kernel
theorem dX2_sidesMeet_207 : decode cX2_sidesMeet 207 = .ok (.getfield 13, 3) := by decide +kernel
theorem dX2_sidesMeet_210 : decode cX2_sidesMeet 210 = .ok (.iload_n 1, 1) := by decide +kernel
theorem dX2_sidesMeet_211 : decode cX2_sidesMeet 211 = .ok (.iaload, 1) := by decide +kernel
theorem dX2_sidesMeet_212 : decode cX2_sidesMeet 212 = .ok (.i2l, 1) := by decide +kernel
theorem dX2_sidesMeet_213 : decode cX2_sidesMeet 213 = .ok (.lconst 1, 1) := by decide +kernel
theorem dX2_sidesMeet_214 : decode cX2_sidesMeet 214 = .ok (.invokevirtual 40, 3) := by decide +kernel
theorem dX2_sidesMeet_217 : decode cX2_sidesMeet 217 = .ok (.ifCond .ne 35, 3) := by decide +kernel
theorem dX2_sidesMeet_220 : decode cX2_sidesMeet 220 = .ok (.lload 12, 2) := by decide +kernel
theorem dX2_sidesMeet_222 : decode cX2_sidesMeet 222 = .ok (.lconst 0, 1) := by decide +kernel
theorem dX2_sidesMeet_223 : decode cX2_sidesMeet 223 = .ok (.lcmp, 1) := by decide +kernel
theorem dX2_sidesMeet_224 : decode cX2_sidesMeet 224 = .ok (.ifCond .ne 32, 3) := by decide +kernel
theorem dX2_sidesMeet_227 : decode cX2_sidesMeet 227 = .ok (.aload_n 2, 1) := by decide +kernel
theorem dX2_sidesMeet_228 : decode cX2_sidesMeet 228 = .ok (.iload_n 3, 1) := by decide +kernel
theorem dX2_sidesMeet_229 : decode cX2_sidesMeet 229 = .ok (.aload_n 0, 1) := by decide +kernel
theorem dX2_sidesMeet_230 : decode cX2_sidesMeet 230 = .ok (.getfield 9, 3) := by decide +kernel
theorem dX2_sidesMeet_233 : decode cX2_sidesMeet 233 = .ok (.iload 4, 2) := by decide +kernel
theorem dX2_sidesMeet_235 : decode cX2_sidesMeet 235 = .ok (.iaload, 1) := by decide +kernel
theorem dX2_sidesMeet_236 : decode cX2_sidesMeet 236 = .ok (.i2l, 1) := by decide +kernel
theorem dX2_sidesMeet_237 : decode cX2_sidesMeet 237 = .ok (.aload_n 0, 1) := by decide +kernel
theorem dX2_sidesMeet_238 : decode cX2_sidesMeet 238 = .ok (.getfield 13, 3) := by decide +kernel
theorem dX2_sidesMeet_241 : decode cX2_sidesMeet 241 = .ok (.iload 4, 2) := by decide +kernel
theorem dX2_sidesMeet_243 : decode cX2_sidesMeet 243 = .ok (.iaload, 1) := by decide +kernel
theorem dX2_sidesMeet_244 : decode cX2_sidesMeet 244 = .ok (.i2l, 1) := by decide +kernel
theorem dX2_sidesMeet_245 : decode cX2_sidesMeet 245 = .ok (.lconst 1, 1) := by decide +kernel
theorem dX2_sidesMeet_246 : decode cX2_sidesMeet 246 = .ok (.invokevirtual 40, 3) := by decide +kernel
theorem dX2_sidesMeet_249 : decode cX2_sidesMeet 249 = .ok (.ifCond .eq 7, 3) := by decide +kernel
theorem dX2_sidesMeet_252 : decode cX2_sidesMeet 252 = .ok (.iconst 1, 1) := by decide +kernel
theorem dX2_sidesMeet_253 : decode cX2_sidesMeet 253 = .ok (.goto 4, 3) := by decide +kernel
theorem dX2_sidesMeet_256 : decode cX2_sidesMeet 256 = .ok (.iconst 0, 1) := by decide +kernel
theorem dX2_sidesMeet_257 : decode cX2_sidesMeet 257 = .ok (.ireturn, 1) := by decide +kernel
theorem dX2_areOpposite_0 : decode cX2_areOpposite 0 = .ok (.lload_n 0, 1) := by decide +kernel
theorem dX2_areOpposite_1 : decode cX2_areOpposite 1 = .ok (.lconst 0, 1) := by decide +kernel
theorem dX2_areOpposite_2 : decode cX2_areOpposite 2 = .ok (.lcmp, 1) := by decide +kernel
theorem dX2_areOpposite_3 : decode cX2_areOpposite 3 = .ok (.ifCond .ge 9, 3) := by decide +kernel
theorem dX2_areOpposite_6 : decode cX2_areOpposite 6 = .ok (.lload_n 2, 1) := by decide +kernel
theorem dX2_areOpposite_7 : decode cX2_areOpposite 7 = .ok (.lconst 0, 1) := by decide +kernel
theorem dX2_areOpposite_8 : decode cX2_areOpposite 8 = .ok (.lcmp, 1) := by decide +kernel
theorem dX2_areOpposite_9 : decode cX2_areOpposite 9 = .ok (.ifCond .gt 15, 3) := by decide +kernel
theorem dX2_areOpposite_12 : decode cX2_areOpposite 12 = .ok (.lload_n 0, 1) := by decide +kernel
theorem dX2_areOpposite_13 : decode cX2_areOpposite 13 = .ok (.lconst 0, 1) := by decide +kernel
theorem dX2_areOpposite_14 : decode cX2_areOpposite 14 = .ok (.lcmp, 1) := by decide +kernel
theorem dX2_areOpposite_15 : decode cX2_areOpposite 15 = .ok (.ifCond .le 13, 3) := by decide +kernel
theorem dX2_areOpposite_18 : decode cX2_areOpposite 18 = .ok (.lload_n 2, 1) := by decide +kernel
theorem dX2_areOpposite_19 : decode cX2_areOpposite 19 = .ok (.lconst 0, 1) := by decide +kernel
theorem dX2_areOpposite_20 : decode cX2_areOpposite 20 = .ok (.lcmp, 1) := by decide +kernel
theorem dX2_areOpposite_21 : decode cX2_areOpposite 21 = .ok (.ifCond .ge 7, 3) := by decide +kernel
theorem dX2_areOpposite_24 : decode cX2_areOpposite 24 = .ok (.iconst 1, 1) := by decide +kernel
theorem dX2_areOpposite_25 : decode cX2_areOpposite 25 = .ok (.goto 4, 3) := by decide +kernel
theorem dX2_areOpposite_28 : decode cX2_areOpposite 28 = .ok (.iconst 0, 1) := by decide +kernel
theorem dX2_areOpposite_29 : decode cX2_areOpposite 29 = .ok (.ireturn, 1) := by decide +kernel
theorem dX2_turn_0 : decode cX2_turn 0 = .ok (.aload_n 0, 1) := by decide +kernel
theorem dX2_turn_1 : decode cX2_turn 1 = .ok (.iload_n 1, 1) := by decide +kernel
theorem dX2_turn_2 : decode cX2_turn 2 = .ok (.invokevirtual 20, 3) := by decide +kernel
theorem dX2_turn_5 : decode cX2_turn 5 = .ok (.istore 8, 2) := by decide +kernel
theorem dX2_turn_7 : decode cX2_turn 7 = .ok (.aload_n 0, 1) := by decide +kernel
theorem dX2_turn_8 : decode cX2_turn 8 = .ok (.getfield 9, 3) := by decide +kernel
theorem dX2_turn_11 : decode cX2_turn 11 = .ok (.iload 8, 2) := by decide +kernel
theorem dX2_turn_13 : decode cX2_turn 13 = .ok (.iaload, 1) := by decide +kernel
theorem dX2_turn_14 : decode cX2_turn 14 = .ok (.aload_n 0, 1) := by decide +kernel
theorem dX2_turn_15 : decode cX2_turn 15 = .ok (.getfield 9, 3) := by decide +kernel
theorem dX2_turn_18 : decode cX2_turn 18 = .ok (.iload_n 1, 1) := by decide +kernel
theorem dX2_turn_19 : decode cX2_turn 19 = .ok (.iaload, 1) := by decide +kernel
theorem dX2_turn_20 : decode cX2_turn 20 = .ok (.isub, 1) := by decide +kernel
theorem dX2_turn_21 : decode cX2_turn 21 = .ok (.i2l, 1) := by decide +kernel
theorem dX2_turn_22 : decode cX2_turn 22 = .ok (.lstore 9, 2) := by decide +kernel
theorem dX2_turn_24 : decode cX2_turn 24 = .ok (.aload_n 0, 1) := by decide +kernel
theorem dX2_turn_25 : decode cX2_turn 25 = .ok (.getfield 13, 3) := by decide +kernel
theorem dX2_turn_28 : decode cX2_turn 28 = .ok (.iload 8, 2) := by decide +kernel
theorem dX2_turn_30 : decode cX2_turn 30 = .ok (.iaload, 1) := by decide +kernel
theorem dX2_turn_31 : decode cX2_turn 31 = .ok (.aload_n 0, 1) := by decide +kernel
theorem dX2_turn_32 : decode cX2_turn 32 = .ok (.getfield 13, 3) := by decide +kernel
theorem dX2_turn_35 : decode cX2_turn 35 = .ok (.iload_n 1, 1) := by decide +kernel
theorem dX2_turn_36 : decode cX2_turn 36 = .ok (.iaload, 1) := by decide +kernel
theorem dX2_turn_37 : decode cX2_turn 37 = .ok (.isub, 1) := by decide +kernel
theorem dX2_turn_38 : decode cX2_turn 38 = .ok (.i2l, 1) := by decide +kernel
theorem dX2_turn_39 : decode cX2_turn 39 = .ok (.lstore 11, 2) := by decide +kernel
theorem dX2_turn_41 : decode cX2_turn 41 = .ok (.lload 9, 2) := by decide +kernel
theorem dX2_turn_43 : decode cX2_turn 43 = .ok (.lload 4, 2) := by decide +kernel
theorem dX2_turn_45 : decode cX2_turn 45 = .ok (.aload_n 0, 1) := by decide +kernel
theorem dX2_turn_46 : decode cX2_turn 46 = .ok (.getfield 13, 3) := by decide +kernel
theorem dX2_turn_49 : decode cX2_turn 49 = .ok (.iload_n 1, 1) := by decide +kernel
theorem dX2_turn_50 : decode cX2_turn 50 = .ok (.iaload, 1) := by decide +kernel
theorem dX2_turn_51 : decode cX2_turn 51 = .ok (.i2l, 1) := by decide +kernel
theorem dX2_turn_52 : decode cX2_turn 52 = .ok (.lload 6, 2) := by decide +kernel
theorem dX2_turn_54 : decode cX2_turn 54 = .ok (.lmul, 1) := by decide +kernel
theorem dX2_turn_55 : decode cX2_turn 55 = .ok (.lsub, 1) := by decide +kernel
theorem dX2_turn_56 : decode cX2_turn 56 = .ok (.lmul, 1) := by decide +kernel
theorem dX2_turn_57 : decode cX2_turn 57 = .ok (.lload 11, 2) := by decide +kernel
theorem dX2_turn_59 : decode cX2_turn 59 = .ok (.lload_n 2, 1) := by decide +kernel
theorem dX2_turn_60 : decode cX2_turn 60 = .ok (.aload_n 0, 1) := by decide +kernel
theorem dX2_turn_61 : decode cX2_turn 61 = .ok (.getfield 9, 3) := by decide +kernel
theorem dX2_turn_64 : decode cX2_turn 64 = .ok (.iload_n 1, 1) := by decide +kernel
theorem dX2_turn_65 : decode cX2_turn 65 = .ok (.iaload, 1) := by decide +kernel
theorem dX2_turn_66 : decode cX2_turn 66 = .ok (.i2l, 1) := by decide +kernel
theorem dX2_turn_67 : decode cX2_turn 67 = .ok (.lload 6, 2) := by decide +kernel
theorem dX2_turn_69 : decode cX2_turn 69 = .ok (.lmul, 1) := by decide +kernel
theorem dX2_turn_70 : decode cX2_turn 70 = .ok (.lsub, 1) := by decide +kernel
theorem dX2_turn_71 : decode cX2_turn 71 = .ok (.lmul, 1) := by decide +kernel
theorem dX2_turn_72 : decode cX2_turn 72 = .ok (.lsub, 1) := by decide +kernel
theorem dX2_turn_73 : decode cX2_turn 73 = .ok (.lreturn, 1) := by decide +kernel
theorem dX2_spans_0 : decode cX2_spans 0 = .ok (.aload_n 0, 1) := by decide +kernel
theorem dX2_spans_1 : decode cX2_spans 1 = .ok (.iload_n 1, 1) := by decide +kernel
theorem dX2_spans_2 : decode cX2_spans 2 = .ok (.invokevirtual 20, 3) := by decide +kernel
theorem dX2_spans_5 : decode cX2_spans 5 = .ok (.istore 8, 2) := by decide +kernel
theorem dX2_spans_7 : decode cX2_spans 7 = .ok (.lload_n 2, 1) := by decide +kernel
theorem dX2_spans_8 : decode cX2_spans 8 = .ok (.aload_n 0, 1) := by decide +kernel
theorem dX2_spans_9 : decode cX2_spans 9 = .ok (.getfield 9, 3) := by decide +kernel
theorem dX2_spans_12 : decode cX2_spans 12 = .ok (.iload_n 1, 1) := by decide +kernel
theorem dX2_spans_13 : decode cX2_spans 13 = .ok (.iaload, 1) := by decide +kernel
theorem dX2_spans_14 : decode cX2_spans 14 = .ok (.aload_n 0, 1) := by decide +kernel
theorem dX2_spans_15 : decode cX2_spans 15 = .ok (.getfield 9, 3) := by decide +kernel
theorem dX2_spans_18 : decode cX2_spans 18 = .ok (.iload 8, 2) := by decide +kernel
theorem dX2_spans_20 : decode cX2_spans 20 = .ok (.iaload, 1) := by decide +kernel
theorem dX2_spans_21 : decode cX2_spans 21 = .ok (.invokestatic 44, 3) := by decide +kernel
theorem dX2_spans_24 : decode cX2_spans 24 = .ok (.i2l, 1) := by decide +kernel
theorem dX2_spans_25 : decode cX2_spans 25 = .ok (.lload 6, 2) := by decide +kernel
theorem dX2_spans_27 : decode cX2_spans 27 = .ok (.lmul, 1) := by decide +kernel
theorem dX2_spans_28 : decode cX2_spans 28 = .ok (.lcmp, 1) := by decide +kernel
theorem dX2_spans_29 : decode cX2_spans 29 = .ok (.ifCond .lt 84, 3) := by decide +kernel
theorem dX2_spans_32 : decode cX2_spans 32 = .ok (.lload_n 2, 1) := by decide +kernel
theorem dX2_spans_33 : decode cX2_spans 33 = .ok (.aload_n 0, 1) := by decide +kernel
theorem dX2_spans_34 : decode cX2_spans 34 = .ok (.getfield 9, 3) := by decide +kernel
theorem dX2_spans_37 : decode cX2_spans 37 = .ok (.iload_n 1, 1) := by decide +kernel
theorem dX2_spans_38 : decode cX2_spans 38 = .ok (.iaload, 1) := by decide +kernel
theorem dX2_spans_39 : decode cX2_spans 39 = .ok (.aload_n 0, 1) := by decide +kernel
theorem dX2_spans_40 : decode cX2_spans 40 = .ok (.getfield 9, 3) := by decide +kernel
theorem dX2_spans_43 : decode cX2_spans 43 = .ok (.iload 8, 2) := by decide +kernel
theorem dX2_spans_45 : decode cX2_spans 45 = .ok (.iaload, 1) := by decide +kernel
theorem dX2_spans_46 : decode cX2_spans 46 = .ok (.invokestatic 50, 3) := by decide +kernel
theorem dX2_spans_49 : decode cX2_spans 49 = .ok (.i2l, 1) := by decide +kernel
theorem dX2_spans_50 : decode cX2_spans 50 = .ok (.lload 6, 2) := by decide +kernel
theorem dX2_spans_52 : decode cX2_spans 52 = .ok (.lmul, 1) := by decide +kernel
theorem dX2_spans_53 : decode cX2_spans 53 = .ok (.lcmp, 1) := by decide +kernel
theorem dX2_spans_54 : decode cX2_spans 54 = .ok (.ifCond .gt 59, 3) := by decide +kernel
theorem dX2_spans_57 : decode cX2_spans 57 = .ok (.lload 4, 2) := by decide +kernel
theorem dX2_spans_59 : decode cX2_spans 59 = .ok (.aload_n 0, 1) := by decide +kernel
theorem dX2_spans_60 : decode cX2_spans 60 = .ok (.getfield 13, 3) := by decide +kernel
theorem dX2_spans_63 : decode cX2_spans 63 = .ok (.iload_n 1, 1) := by decide +kernel
theorem dX2_spans_64 : decode cX2_spans 64 = .ok (.iaload, 1) := by decide +kernel
theorem dX2_spans_65 : decode cX2_spans 65 = .ok (.aload_n 0, 1) := by decide +kernel
theorem dX2_spans_66 : decode cX2_spans 66 = .ok (.getfield 13, 3) := by decide +kernel
theorem dX2_spans_69 : decode cX2_spans 69 = .ok (.iload 8, 2) := by decide +kernel
theorem dX2_spans_71 : decode cX2_spans 71 = .ok (.iaload, 1) := by decide +kernel
theorem dX2_spans_72 : decode cX2_spans 72 = .ok (.invokestatic 44, 3) := by decide +kernel
theorem dX2_spans_75 : decode cX2_spans 75 = .ok (.i2l, 1) := by decide +kernel
theorem dX2_spans_76 : decode cX2_spans 76 = .ok (.lload 6, 2) := by decide +kernel
theorem dX2_spans_78 : decode cX2_spans 78 = .ok (.lmul, 1) := by decide +kernel
theorem dX2_spans_79 : decode cX2_spans 79 = .ok (.lcmp, 1) := by decide +kernel
theorem dX2_spans_80 : decode cX2_spans 80 = .ok (.ifCond .lt 33, 3) := by decide +kernel
theorem dX2_spans_83 : decode cX2_spans 83 = .ok (.lload 4, 2) := by decide +kernel
theorem dX2_spans_85 : decode cX2_spans 85 = .ok (.aload_n 0, 1) := by decide +kernel
theorem dX2_spans_86 : decode cX2_spans 86 = .ok (.getfield 13, 3) := by decide +kernel
theorem dX2_spans_89 : decode cX2_spans 89 = .ok (.iload_n 1, 1) := by decide +kernel
theorem dX2_spans_90 : decode cX2_spans 90 = .ok (.iaload, 1) := by decide +kernel
theorem dX2_spans_91 : decode cX2_spans 91 = .ok (.aload_n 0, 1) := by decide +kernel
theorem dX2_spans_92 : decode cX2_spans 92 = .ok (.getfield 13, 3) := by decide +kernel
theorem dX2_spans_95 : decode cX2_spans 95 = .ok (.iload 8, 2) := by decide +kernel
theorem dX2_spans_97 : decode cX2_spans 97 = .ok (.iaload, 1) := by decide +kernel
theorem dX2_spans_98 : decode cX2_spans 98 = .ok (.invokestatic 50, 3) := by decide +kernel
theorem dX2_spans_101 : decode cX2_spans 101 = .ok (.i2l, 1) := by decide +kernel
theorem dX2_spans_102 : decode cX2_spans 102 = .ok (.lload 6, 2) := by decide +kernel
theorem dX2_spans_104 : decode cX2_spans 104 = .ok (.lmul, 1) := by decide +kernel
theorem dX2_spans_105 : decode cX2_spans 105 = .ok (.lcmp, 1) := by decide +kernel
theorem dX2_spans_106 : decode cX2_spans 106 = .ok (.ifCond .gt 7, 3) := by decide +kernel
theorem dX2_spans_109 : decode cX2_spans 109 = .ok (.iconst 1, 1) := by decide +kernel
theorem dX2_spans_110 : decode cX2_spans 110 = .ok (.goto 4, 3) := by decide +kernel
theorem dX2_spans_113 : decode cX2_spans 113 = .ok (.iconst 0, 1) := by decide +kernel
theorem dX2_spans_114 : decode cX2_spans 114 = .ok (.ireturn, 1) := by decide +kernel
theorem dX2_locate_0 : decode cX2_locate 0 = .ok (.iconst 0, 1) := by decide +kernel
theorem dX2_locate_1 : decode cX2_locate 1 = .ok (.istore 7, 2) := by decide +kernel
theorem dX2_locate_3 : decode cX2_locate 3 = .ok (.iconst 0, 1) := by decide +kernel
theorem dX2_locate_4 : decode cX2_locate 4 = .ok (.istore 8, 2) := by decide +kernel
theorem dX2_locate_6 : decode cX2_locate 6 = .ok (.iload 8, 2) := by decide +kernel
theorem dX2_locate_8 : decode cX2_locate 8 = .ok (.aload_n 0, 1) := by decide +kernel
theorem dX2_locate_9 : decode cX2_locate 9 = .ok (.getfield 16, 3) := by decide +kernel
theorem dX2_locate_12 : decode cX2_locate 12 = .ok (.if_icmp .ge 129, 3) := by decide +kernel
theorem dX2_locate_15 : decode cX2_locate 15 = .ok (.aload_n 0, 1) := by decide +kernel
theorem dX2_locate_16 : decode cX2_locate 16 = .ok (.iload 8, 2) := by decide +kernel
theorem dX2_locate_18 : decode cX2_locate 18 = .ok (.lload_n 1, 1) := by decide +kernel
theorem dX2_locate_19 : decode cX2_locate 19 = .ok (.lload_n 3, 1) := by decide +kernel
theorem dX2_locate_20 : decode cX2_locate 20 = .ok (.lload 5, 2) := by decide +kernel
theorem dX2_locate_22 : decode cX2_locate 22 = .ok (.invokevirtual 32, 3) := by decide +kernel
theorem dX2_locate_25 : decode cX2_locate 25 = .ok (.lstore 9, 2) := by decide +kernel
theorem dX2_locate_27 : decode cX2_locate 27 = .ok (.lload 9, 2) := by decide +kernel
theorem dX2_locate_29 : decode cX2_locate 29 = .ok (.lconst 0, 1) := by decide +kernel
theorem dX2_locate_30 : decode cX2_locate 30 = .ok (.lcmp, 1) := by decide +kernel
theorem dX2_locate_31 : decode cX2_locate 31 = .ok (.ifCond .ne 18, 3) := by decide +kernel
theorem dX2_locate_34 : decode cX2_locate 34 = .ok (.aload_n 0, 1) := by decide +kernel
theorem dX2_locate_35 : decode cX2_locate 35 = .ok (.iload 8, 2) := by decide +kernel
theorem dX2_locate_37 : decode cX2_locate 37 = .ok (.lload_n 1, 1) := by decide +kernel
theorem dX2_locate_38 : decode cX2_locate 38 = .ok (.lload_n 3, 1) := by decide +kernel
theorem dX2_locate_39 : decode cX2_locate 39 = .ok (.lload 5, 2) := by decide +kernel
theorem dX2_locate_41 : decode cX2_locate 41 = .ok (.invokevirtual 40, 3) := by decide +kernel
theorem dX2_locate_44 : decode cX2_locate 44 = .ok (.ifCond .eq 5, 3) := by decide +kernel
theorem dX2_locate_47 : decode cX2_locate 47 = .ok (.iconst 0, 1) := by decide +kernel
theorem dX2_locate_48 : decode cX2_locate 48 = .ok (.ireturn, 1) := by decide +kernel
theorem dX2_locate_49 : decode cX2_locate 49 = .ok (.aload_n 0, 1) := by decide +kernel
theorem dX2_locate_50 : decode cX2_locate 50 = .ok (.getfield 13, 3) := by decide +kernel
theorem dX2_locate_53 : decode cX2_locate 53 = .ok (.iload 8, 2) := by decide +kernel
theorem dX2_locate_55 : decode cX2_locate 55 = .ok (.iaload, 1) := by decide +kernel
theorem dX2_locate_56 : decode cX2_locate 56 = .ok (.i2l, 1) := by decide +kernel
theorem dX2_locate_57 : decode cX2_locate 57 = .ok (.lload 5, 2) := by decide +kernel
theorem dX2_locate_59 : decode cX2_locate 59 = .ok (.lmul, 1) := by decide +kernel
theorem dX2_locate_60 : decode cX2_locate 60 = .ok (.lload_n 3, 1) := by decide +kernel
theorem dX2_locate_61 : decode cX2_locate 61 = .ok (.lcmp, 1) := by decide +kernel
theorem dX2_locate_62 : decode cX2_locate 62 = .ok (.ifCond .le 7, 3) := by decide +kernel
theorem dX2_locate_65 : decode cX2_locate 65 = .ok (.iconst 1, 1) := by decide +kernel
theorem dX2_locate_66 : decode cX2_locate 66 = .ok (.goto 4, 3) := by decide +kernel
theorem dX2_locate_69 : decode cX2_locate 69 = .ok (.iconst 0, 1) := by decide +kernel
theorem dX2_locate_70 : decode cX2_locate 70 = .ok (.istore 11, 2) := by decide +kernel
theorem dX2_locate_72 : decode cX2_locate 72 = .ok (.aload_n 0, 1) := by decide +kernel
theorem dX2_locate_73 : decode cX2_locate 73 = .ok (.getfield 13, 3) := by decide +kernel
theorem dX2_locate_76 : decode cX2_locate 76 = .ok (.aload_n 0, 1) := by decide +kernel
theorem dX2_locate_77 : decode cX2_locate 77 = .ok (.iload 8, 2) := by decide +kernel
theorem dX2_locate_79 : decode cX2_locate 79 = .ok (.invokevirtual 20, 3) := by decide +kernel
theorem dX2_locate_82 : decode cX2_locate 82 = .ok (.iaload, 1) := by decide +kernel
theorem dX2_locate_83 : decode cX2_locate 83 = .ok (.i2l, 1) := by decide +kernel
theorem dX2_locate_84 : decode cX2_locate 84 = .ok (.lload 5, 2) := by decide +kernel
theorem dX2_locate_86 : decode cX2_locate 86 = .ok (.lmul, 1) := by decide +kernel
theorem dX2_locate_87 : decode cX2_locate 87 = .ok (.lload_n 3, 1) := by decide +kernel
theorem dX2_locate_88 : decode cX2_locate 88 = .ok (.lcmp, 1) := by decide +kernel
theorem dX2_locate_89 : decode cX2_locate 89 = .ok (.ifCond .le 7, 3) := by decide +kernel
theorem dX2_locate_92 : decode cX2_locate 92 = .ok (.iconst 1, 1) := by decide +kernel
theorem dX2_locate_93 : decode cX2_locate 93 = .ok (.goto 4, 3) := by decide +kernel
theorem dX2_locate_96 : decode cX2_locate 96 = .ok (.iconst 0, 1) := by decide +kernel
theorem dX2_locate_97 : decode cX2_locate 97 = .ok (.istore 12, 2) := by decide +kernel
theorem dX2_locate_99 : decode cX2_locate 99 = .ok (.iload 11, 2) := by decide +kernel
theorem dX2_locate_101 : decode cX2_locate 101 = .ok (.iload 12, 2) := by decide +kernel
theorem dX2_locate_103 : decode cX2_locate 103 = .ok (.if_icmp .eq 32, 3) := by decide +kernel
theorem dX2_locate_106 : decode cX2_locate 106 = .ok (.lload 9, 2) := by decide +kernel
theorem dX2_locate_108 : decode cX2_locate 108 = .ok (.lconst 0, 1) := by decide +kernel
theorem dX2_locate_109 : decode cX2_locate 109 = .ok (.lcmp, 1) := by decide +kernel
theorem dX2_locate_110 : decode cX2_locate 110 = .ok (.ifCond .le 7, 3) := by decide +kernel
theorem dX2_locate_113 : decode cX2_locate 113 = .ok (.iconst 1, 1) := by decide +kernel
theorem dX2_locate_114 : decode cX2_locate 114 = .ok (.goto 4, 3) := by decide +kernel
theorem dX2_locate_117 : decode cX2_locate 117 = .ok (.iconst 0, 1) := by decide +kernel
theorem dX2_locate_118 : decode cX2_locate 118 = .ok (.iload 12, 2) := by decide +kernel
theorem dX2_locate_120 : decode cX2_locate 120 = .ok (.if_icmp .ne 15, 3) := by decide +kernel
theorem dX2_locate_123 : decode cX2_locate 123 = .ok (.iload 7, 2) := by decide +kernel
theorem dX2_locate_125 : decode cX2_locate 125 = .ok (.ifCond .ne 7, 3) := by decide +kernel
theorem dX2_locate_128 : decode cX2_locate 128 = .ok (.iconst 1, 1) := by decide +kernel
theorem dX2_locate_129 : decode cX2_locate 129 = .ok (.goto 4, 3) := by decide +kernel
theorem dX2_locate_132 : decode cX2_locate 132 = .ok (.iconst 0, 1) := by decide +kernel
theorem dX2_locate_133 : decode cX2_locate 133 = .ok (.istore 7, 2) := by decide +kernel
theorem dX2_locate_135 : decode cX2_locate 135 = .ok (.iinc 8 1, 3) := by decide +kernel
theorem dX2_locate_138 : decode cX2_locate 138 = .ok (.goto (-132), 3) := by decide +kernel
theorem dX2_locate_141 : decode cX2_locate 141 = .ok (.iload 7, 2) := by decide +kernel
theorem dX2_locate_143 : decode cX2_locate 143 = .ok (.ifCond .eq 7, 3) := by decide +kernel
theorem dX2_locate_146 : decode cX2_locate 146 = .ok (.iconst 1, 1) := by decide +kernel
theorem dX2_locate_147 : decode cX2_locate 147 = .ok (.goto 4, 3) := by decide +kernel
theorem dX2_locate_150 : decode cX2_locate 150 = .ok (.iconst (-1), 1) := by decide +kernel
theorem dX2_locate_151 : decode cX2_locate 151 = .ok (.ireturn, 1) := by decide +kernel
theorem dX2_holdsFirstCornerOf_0 : decode cX2_holdsFirstCornerOf 0 = .ok (.aload_n 0, 1) := by decide +kernel
theorem dX2_holdsFirstCornerOf_1 : decode cX2_holdsFirstCornerOf 1 = .ok (.aload_n 1, 1) := by decide +kernel
theorem dX2_holdsFirstCornerOf_2 : decode cX2_holdsFirstCornerOf 2 = .ok (.iconst 0, 1) := by decide +kernel
theorem dX2_holdsFirstCornerOf_3 : decode cX2_holdsFirstCornerOf 3 = .ok (.invokevirtual 53, 3) := by decide +kernel
theorem dX2_holdsFirstCornerOf_6 : decode cX2_holdsFirstCornerOf 6 = .ok (.i2l, 1) := by decide +kernel
theorem dX2_holdsFirstCornerOf_7 : decode cX2_holdsFirstCornerOf 7 = .ok (.aload_n 1, 1) := by decide +kernel
theorem dX2_holdsFirstCornerOf_8 : decode cX2_holdsFirstCornerOf 8 = .ok (.iconst 0, 1) := by decide +kernel
theorem dX2_holdsFirstCornerOf_9 : decode cX2_holdsFirstCornerOf 9 = .ok (.invokevirtual 56, 3) := by decide +kernel
theorem dX2_holdsFirstCornerOf_12 : decode cX2_holdsFirstCornerOf 12 = .ok (.i2l, 1) := by decide +kernel
theorem dX2_holdsFirstCornerOf_13 : decode cX2_holdsFirstCornerOf 13 = .ok (.lconst 1, 1) := by decide +kernel
theorem dX2_holdsFirstCornerOf_14 : decode cX2_holdsFirstCornerOf 14 = .ok (.invokevirtual 59, 3) := by decide +kernel
theorem dX2_holdsFirstCornerOf_17 : decode cX2_holdsFirstCornerOf 17 = .ok (.iconst 1, 1) := by decide +kernel
theorem dX2_holdsFirstCornerOf_18 : decode cX2_holdsFirstCornerOf 18 = .ok (.if_icmp .ne 7, 3) := by decide +kernel
theorem dX2_holdsFirstCornerOf_21 : decode cX2_holdsFirstCornerOf 21 = .ok (.iconst 1, 1) := by decide +kernel
theorem dX2_holdsFirstCornerOf_22 : decode cX2_holdsFirstCornerOf 22 = .ok (.goto 4, 3) := by decide +kernel
theorem dX2_holdsFirstCornerOf_25 : decode cX2_holdsFirstCornerOf 25 = .ok (.iconst 0, 1) := by decide +kernel
theorem dX2_holdsFirstCornerOf_26 : decode cX2_holdsFirstCornerOf 26 = .ok (.ireturn, 1) := by decide +kernel
theorem dX2_isNear_0 : decode cX2_isNear 0 = .ok (.iconst 0, 1) := by decide +kernel
theorem dX2_isNear_1 : decode cX2_isNear 1 = .ok (.istore 7, 2) := by decide +kernel
theorem dX2_isNear_3 : decode cX2_isNear 3 = .ok (.iload 7, 2) := by decide +kernel
theorem dX2_isNear_5 : decode cX2_isNear 5 = .ok (.aload_n 0, 1) := by decide +kernel
theorem dX2_isNear_6 : decode cX2_isNear 6 = .ok (.getfield 16, 3) := by decide +kernel
theorem dX2_isNear_9 : decode cX2_isNear 9 = .ok (.if_icmp .ge 24, 3) := by decide +kernel
theorem dX2_isNear_12 : decode cX2_isNear 12 = .ok (.aload_n 0, 1) := by decide +kernel
theorem dX2_isNear_13 : decode cX2_isNear 13 = .ok (.iload 7, 2) := by decide +kernel
theorem dX2_isNear_15 : decode cX2_isNear 15 = .ok (.lload_n 1, 1) := by decide +kernel
theorem dX2_isNear_16 : decode cX2_isNear 16 = .ok (.lload_n 3, 1) := by decide +kernel
theorem dX2_isNear_17 : decode cX2_isNear 17 = .ok (.lload 5, 2) := by decide +kernel
theorem dX2_isNear_19 : decode cX2_isNear 19 = .ok (.invokevirtual 63, 3) := by decide +kernel
theorem dX2_isNear_22 : decode cX2_isNear 22 = .ok (.ifCond .eq 5, 3) := by decide +kernel
theorem dX2_isNear_25 : decode cX2_isNear 25 = .ok (.iconst 1, 1) := by decide +kernel
theorem dX2_isNear_26 : decode cX2_isNear 26 = .ok (.ireturn, 1) := by decide +kernel
theorem dX2_isNear_27 : decode cX2_isNear 27 = .ok (.iinc 7 1, 3) := by decide +kernel
theorem dX2_isNear_30 : decode cX2_isNear 30 = .ok (.goto (-27), 3) := by decide +kernel
theorem dX2_isNear_33 : decode cX2_isNear 33 = .ok (.iconst 0, 1) := by decide +kernel
theorem dX2_isNear_34 : decode cX2_isNear 34 = .ok (.ireturn, 1) := by decide +kernel
theorem dX2_isSideNear_0 : decode cX2_isSideNear 0 = .ok (.aload_n 0, 1) := by decide +kernel
theorem dX2_isSideNear_1 : decode cX2_isSideNear 1 = .ok (.iload_n 1, 1) := by decide +kernel
theorem dX2_isSideNear_2 : decode cX2_isSideNear 2 = .ok (.invokevirtual 20, 3) := by decide +kernel
theorem dX2_isSideNear_5 : decode cX2_isSideNear 5 = .ok (.istore 8, 2) := by decide +kernel
theorem dX2_isSideNear_7 : decode cX2_isSideNear 7 = .ok (.aload_n 0, 1) := by decide +kernel
theorem dX2_isSideNear_8 : decode cX2_isSideNear 8 = .ok (.getfield 9, 3) := by decide +kernel
theorem dX2_isSideNear_11 : decode cX2_isSideNear 11 = .ok (.iload 8, 2) := by decide +kernel
theorem dX2_isSideNear_13 : decode cX2_isSideNear 13 = .ok (.iaload, 1) := by decide +kernel
theorem dX2_isSideNear_14 : decode cX2_isSideNear 14 = .ok (.aload_n 0, 1) := by decide +kernel
theorem dX2_isSideNear_15 : decode cX2_isSideNear 15 = .ok (.getfield 9, 3) := by decide +kernel
theorem dX2_isSideNear_18 : decode cX2_isSideNear 18 = .ok (.iload_n 1, 1) := by decide +kernel
theorem dX2_isSideNear_19 : decode cX2_isSideNear 19 = .ok (.iaload, 1) := by decide +kernel
theorem dX2_isSideNear_20 : decode cX2_isSideNear 20 = .ok (.isub, 1) := by decide +kernel
theorem dX2_isSideNear_21 : decode cX2_isSideNear 21 = .ok (.i2l, 1) := by decide +kernel
theorem dX2_isSideNear_22 : decode cX2_isSideNear 22 = .ok (.lstore 9, 2) := by decide +kernel
theorem dX2_isSideNear_24 : decode cX2_isSideNear 24 = .ok (.aload_n 0, 1) := by decide +kernel
theorem dX2_isSideNear_25 : decode cX2_isSideNear 25 = .ok (.getfield 13, 3) := by decide +kernel
theorem dX2_isSideNear_28 : decode cX2_isSideNear 28 = .ok (.iload 8, 2) := by decide +kernel
theorem dX2_isSideNear_30 : decode cX2_isSideNear 30 = .ok (.iaload, 1) := by decide +kernel
theorem dX2_isSideNear_31 : decode cX2_isSideNear 31 = .ok (.aload_n 0, 1) := by decide +kernel
theorem dX2_isSideNear_32 : decode cX2_isSideNear 32 = .ok (.getfield 13, 3) := by decide +kernel
theorem dX2_isSideNear_35 : decode cX2_isSideNear 35 = .ok (.iload_n 1, 1) := by decide +kernel
theorem dX2_isSideNear_36 : decode cX2_isSideNear 36 = .ok (.iaload, 1) := by decide +kernel
theorem dX2_isSideNear_37 : decode cX2_isSideNear 37 = .ok (.isub, 1) := by decide +kernel
theorem dX2_isSideNear_38 : decode cX2_isSideNear 38 = .ok (.i2l, 1) := by decide +kernel
theorem dX2_isSideNear_39 : decode cX2_isSideNear 39 = .ok (.lstore 11, 2) := by decide +kernel
theorem dX2_isSideNear_41 : decode cX2_isSideNear 41 = .ok (.lload_n 2, 1) := by decide +kernel
theorem dX2_isSideNear_42 : decode cX2_isSideNear 42 = .ok (.aload_n 0, 1) := by decide +kernel
theorem dX2_isSideNear_43 : decode cX2_isSideNear 43 = .ok (.getfield 9, 3) := by decide +kernel
theorem dX2_isSideNear_46 : decode cX2_isSideNear 46 = .ok (.iload_n 1, 1) := by decide +kernel
theorem dX2_isSideNear_47 : decode cX2_isSideNear 47 = .ok (.iaload, 1) := by decide +kernel
theorem dX2_isSideNear_48 : decode cX2_isSideNear 48 = .ok (.i2l, 1) := by decide +kernel
theorem dX2_isSideNear_49 : decode cX2_isSideNear 49 = .ok (.lsub, 1) := by decide +kernel
theorem dX2_isSideNear_50 : decode cX2_isSideNear 50 = .ok (.lstore 13, 2) := by decide +kernel
theorem dX2_isSideNear_52 : decode cX2_isSideNear 52 = .ok (.lload 4, 2) := by decide +kernel
theorem dX2_isSideNear_54 : decode cX2_isSideNear 54 = .ok (.aload_n 0, 1) := by decide +kernel
theorem dX2_isSideNear_55 : decode cX2_isSideNear 55 = .ok (.getfield 13, 3) := by decide +kernel
theorem dX2_isSideNear_58 : decode cX2_isSideNear 58 = .ok (.iload_n 1, 1) := by decide +kernel
theorem dX2_isSideNear_59 : decode cX2_isSideNear 59 = .ok (.iaload, 1) := by decide +kernel
theorem dX2_isSideNear_60 : decode cX2_isSideNear 60 = .ok (.i2l, 1) := by decide +kernel
theorem dX2_isSideNear_61 : decode cX2_isSideNear 61 = .ok (.lsub, 1) := by decide +kernel
theorem dX2_isSideNear_62 : decode cX2_isSideNear 62 = .ok (.lstore 15, 2) := by decide +kernel
theorem dX2_isSideNear_64 : decode cX2_isSideNear 64 = .ok (.lload 9, 2) := by decide +kernel
theorem dX2_isSideNear_66 : decode cX2_isSideNear 66 = .ok (.lload 9, 2) := by decide +kernel
theorem dX2_isSideNear_68 : decode cX2_isSideNear 68 = .ok (.lmul, 1) := by decide +kernel
theorem dX2_isSideNear_69 : decode cX2_isSideNear 69 = .ok (.lload 11, 2) := by decide +kernel
theorem dX2_isSideNear_71 : decode cX2_isSideNear 71 = .ok (.lload 11, 2) := by decide +kernel
theorem dX2_isSideNear_73 : decode cX2_isSideNear 73 = .ok (.lmul, 1) := by decide +kernel
theorem dX2_isSideNear_74 : decode cX2_isSideNear 74 = .ok (.ladd, 1) := by decide +kernel
theorem dX2_isSideNear_75 : decode cX2_isSideNear 75 = .ok (.lstore 17, 2) := by decide +kernel
theorem dX2_isSideNear_77 : decode cX2_isSideNear 77 = .ok (.lload 13, 2) := by decide +kernel
theorem dX2_isSideNear_79 : decode cX2_isSideNear 79 = .ok (.lload 9, 2) := by decide +kernel
theorem dX2_isSideNear_81 : decode cX2_isSideNear 81 = .ok (.lmul, 1) := by decide +kernel
theorem dX2_isSideNear_82 : decode cX2_isSideNear 82 = .ok (.lload 15, 2) := by decide +kernel
theorem dX2_isSideNear_84 : decode cX2_isSideNear 84 = .ok (.lload 11, 2) := by decide +kernel
theorem dX2_isSideNear_86 : decode cX2_isSideNear 86 = .ok (.lmul, 1) := by decide +kernel
theorem dX2_isSideNear_87 : decode cX2_isSideNear 87 = .ok (.ladd, 1) := by decide +kernel
theorem dX2_isSideNear_88 : decode cX2_isSideNear 88 = .ok (.lstore 19, 2) := by decide +kernel
theorem dX2_isSideNear_90 : decode cX2_isSideNear 90 = .ok (.lload 19, 2) := by decide +kernel
theorem dX2_isSideNear_92 : decode cX2_isSideNear 92 = .ok (.lconst 0, 1) := by decide +kernel
theorem dX2_isSideNear_93 : decode cX2_isSideNear 93 = .ok (.lcmp, 1) := by decide +kernel
theorem dX2_isSideNear_94 : decode cX2_isSideNear 94 = .ok (.ifCond .gt 29, 3) := by decide +kernel
theorem dX2_isSideNear_97 : decode cX2_isSideNear 97 = .ok (.lload 13, 2) := by decide +kernel
theorem dX2_isSideNear_99 : decode cX2_isSideNear 99 = .ok (.lload 13, 2) := by decide +kernel
theorem dX2_isSideNear_101 : decode cX2_isSideNear 101 = .ok (.lmul, 1) := by decide +kernel
theorem dX2_isSideNear_102 : decode cX2_isSideNear 102 = .ok (.lload 15, 2) := by decide +kernel
theorem dX2_isSideNear_104 : decode cX2_isSideNear 104 = .ok (.lload 15, 2) := by decide +kernel
theorem dX2_isSideNear_106 : decode cX2_isSideNear 106 = .ok (.lmul, 1) := by decide +kernel
theorem dX2_isSideNear_107 : decode cX2_isSideNear 107 = .ok (.ladd, 1) := by decide +kernel
theorem dX2_isSideNear_108 : decode cX2_isSideNear 108 = .ok (.lload 6, 2) := by decide +kernel
theorem dX2_isSideNear_110 : decode cX2_isSideNear 110 = .ok (.lload 6, 2) := by decide +kernel
theorem dX2_isSideNear_112 : decode cX2_isSideNear 112 = .ok (.lmul, 1) := by decide +kernel
theorem dX2_isSideNear_113 : decode cX2_isSideNear 113 = .ok (.lcmp, 1) := by decide +kernel
theorem dX2_isSideNear_114 : decode cX2_isSideNear 114 = .ok (.ifCond .gt 7, 3) := by decide +kernel
theorem dX2_isSideNear_117 : decode cX2_isSideNear 117 = .ok (.iconst 1, 1) := by decide +kernel
theorem dX2_isSideNear_118 : decode cX2_isSideNear 118 = .ok (.goto 4, 3) := by decide +kernel
theorem dX2_isSideNear_121 : decode cX2_isSideNear 121 = .ok (.iconst 0, 1) := by decide +kernel
theorem dX2_isSideNear_122 : decode cX2_isSideNear 122 = .ok (.ireturn, 1) := by decide +kernel
theorem dX2_isSideNear_123 : decode cX2_isSideNear 123 = .ok (.lload 19, 2) := by decide +kernel
theorem dX2_isSideNear_125 : decode cX2_isSideNear 125 = .ok (.lload 17, 2) := by decide +kernel
theorem dX2_isSideNear_127 : decode cX2_isSideNear 127 = .ok (.lcmp, 1) := by decide +kernel
theorem dX2_isSideNear_128 : decode cX2_isSideNear 128 = .ok (.ifCond .lt 54, 3) := by decide +kernel
theorem dX2_isSideNear_131 : decode cX2_isSideNear 131 = .ok (.lload_n 2, 1) := by decide +kernel
theorem dX2_isSideNear_132 : decode cX2_isSideNear 132 = .ok (.aload_n 0, 1) := by decide +kernel
theorem dX2_isSideNear_133 : decode cX2_isSideNear 133 = .ok (.getfield 9, 3) := by decide +kernel
theorem dX2_isSideNear_136 : decode cX2_isSideNear 136 = .ok (.iload 8, 2) := by decide +kernel
theorem dX2_isSideNear_138 : decode cX2_isSideNear 138 = .ok (.iaload, 1) := by decide +kernel
theorem dX2_isSideNear_139 : decode cX2_isSideNear 139 = .ok (.i2l, 1) := by decide +kernel
theorem dX2_isSideNear_140 : decode cX2_isSideNear 140 = .ok (.lsub, 1) := by decide +kernel
theorem dX2_isSideNear_141 : decode cX2_isSideNear 141 = .ok (.lstore 21, 2) := by decide +kernel
theorem dX2_isSideNear_143 : decode cX2_isSideNear 143 = .ok (.lload 4, 2) := by decide +kernel
theorem dX2_isSideNear_145 : decode cX2_isSideNear 145 = .ok (.aload_n 0, 1) := by decide +kernel
theorem dX2_isSideNear_146 : decode cX2_isSideNear 146 = .ok (.getfield 13, 3) := by decide +kernel
theorem dX2_isSideNear_149 : decode cX2_isSideNear 149 = .ok (.iload 8, 2) := by decide +kernel
theorem dX2_isSideNear_151 : decode cX2_isSideNear 151 = .ok (.iaload, 1) := by decide +kernel
theorem dX2_isSideNear_152 : decode cX2_isSideNear 152 = .ok (.i2l, 1) := by decide +kernel
theorem dX2_isSideNear_153 : decode cX2_isSideNear 153 = .ok (.lsub, 1) := by decide +kernel
theorem dX2_isSideNear_154 : decode cX2_isSideNear 154 = .ok (.lstore 23, 2) := by decide +kernel
theorem dX2_isSideNear_156 : decode cX2_isSideNear 156 = .ok (.lload 21, 2) := by decide +kernel
theorem dX2_isSideNear_158 : decode cX2_isSideNear 158 = .ok (.lload 21, 2) := by decide +kernel
theorem dX2_isSideNear_160 : decode cX2_isSideNear 160 = .ok (.lmul, 1) := by decide +kernel
theorem dX2_isSideNear_161 : decode cX2_isSideNear 161 = .ok (.lload 23, 2) := by decide +kernel
theorem dX2_isSideNear_163 : decode cX2_isSideNear 163 = .ok (.lload 23, 2) := by decide +kernel
theorem dX2_isSideNear_165 : decode cX2_isSideNear 165 = .ok (.lmul, 1) := by decide +kernel
theorem dX2_isSideNear_166 : decode cX2_isSideNear 166 = .ok (.ladd, 1) := by decide +kernel
theorem dX2_isSideNear_167 : decode cX2_isSideNear 167 = .ok (.lload 6, 2) := by decide +kernel
theorem dX2_isSideNear_169 : decode cX2_isSideNear 169 = .ok (.lload 6, 2) := by decide +kernel
theorem dX2_isSideNear_171 : decode cX2_isSideNear 171 = .ok (.lmul, 1) := by decide +kernel
theorem dX2_isSideNear_172 : decode cX2_isSideNear 172 = .ok (.lcmp, 1) := by decide +kernel
theorem dX2_isSideNear_173 : decode cX2_isSideNear 173 = .ok (.ifCond .gt 7, 3) := by decide +kernel
theorem dX2_isSideNear_176 : decode cX2_isSideNear 176 = .ok (.iconst 1, 1) := by decide +kernel
theorem dX2_isSideNear_177 : decode cX2_isSideNear 177 = .ok (.goto 4, 3) := by decide +kernel
theorem dX2_isSideNear_180 : decode cX2_isSideNear 180 = .ok (.iconst 0, 1) := by decide +kernel
theorem dX2_isSideNear_181 : decode cX2_isSideNear 181 = .ok (.ireturn, 1) := by decide +kernel
theorem dX2_isSideNear_182 : decode cX2_isSideNear 182 = .ok (.aload_n 0, 1) := by decide +kernel
theorem dX2_isSideNear_183 : decode cX2_isSideNear 183 = .ok (.iload_n 1, 1) := by decide +kernel
theorem dX2_isSideNear_184 : decode cX2_isSideNear 184 = .ok (.lload_n 2, 1) := by decide +kernel
theorem dX2_isSideNear_185 : decode cX2_isSideNear 185 = .ok (.lload 4, 2) := by decide +kernel
theorem dX2_isSideNear_187 : decode cX2_isSideNear 187 = .ok (.lconst 1, 1) := by decide +kernel
theorem dX2_isSideNear_188 : decode cX2_isSideNear 188 = .ok (.invokevirtual 32, 3) := by decide +kernel
theorem dX2_isSideNear_191 : decode cX2_isSideNear 191 = .ok (.lstore 21, 2) := by decide +kernel
theorem dX2_isSideNear_193 : decode cX2_isSideNear 193 = .ok (.lload 21, 2) := by decide +kernel
theorem dX2_isSideNear_195 : decode cX2_isSideNear 195 = .ok (.lload 21, 2) := by decide +kernel
theorem dX2_isSideNear_197 : decode cX2_isSideNear 197 = .ok (.lmul, 1) := by decide +kernel
theorem dX2_isSideNear_198 : decode cX2_isSideNear 198 = .ok (.lload 6, 2) := by decide +kernel
theorem dX2_isSideNear_200 : decode cX2_isSideNear 200 = .ok (.lload 6, 2) := by decide +kernel
theorem dX2_isSideNear_202 : decode cX2_isSideNear 202 = .ok (.lmul, 1) := by decide +kernel
theorem dX2_isSideNear_203 : decode cX2_isSideNear 203 = .ok (.lload 17, 2) := by decide +kernel
theorem dX2_isSideNear_205 : decode cX2_isSideNear 205 = .ok (.lmul, 1) := by decide +kernel
theorem dX2_isSideNear_206 : decode cX2_isSideNear 206 = .ok (.lcmp, 1) := by decide +kernel
theorem dX2_isSideNear_207 : decode cX2_isSideNear 207 = .ok (.ifCond .gt 7, 3) := by decide +kernel
theorem dX2_isSideNear_210 : decode cX2_isSideNear 210 = .ok (.iconst 1, 1) := by decide +kernel
theorem dX2_isSideNear_211 : decode cX2_isSideNear 211 = .ok (.goto 4, 3) := by decide +kernel
theorem dX2_isSideNear_214 : decode cX2_isSideNear 214 = .ok (.iconst 0, 1) := by decide +kernel
theorem dX2_isSideNear_215 : decode cX2_isSideNear 215 = .ok (.ireturn, 1) := by decide +kernel
theorem dX2_reachesX_0 : decode cX2_reachesX 0 = .ok (.aload_n 0, 1) := by decide +kernel
theorem dX2_reachesX_1 : decode cX2_reachesX 1 = .ok (.aload_n 0, 1) := by decide +kernel
theorem dX2_reachesX_2 : decode cX2_reachesX 2 = .ok (.getfield 9, 3) := by decide +kernel
theorem dX2_reachesX_5 : decode cX2_reachesX 5 = .ok (.lload_n 1, 1) := by decide +kernel
theorem dX2_reachesX_6 : decode cX2_reachesX 6 = .ok (.lload_n 3, 1) := by decide +kernel
theorem dX2_reachesX_7 : decode cX2_reachesX 7 = .ok (.invokevirtual 66, 3) := by decide +kernel
theorem dX2_reachesX_10 : decode cX2_reachesX 10 = .ok (.ireturn, 1) := by decide +kernel
theorem dX2_reachesY_0 : decode cX2_reachesY 0 = .ok (.aload_n 0, 1) := by decide +kernel
theorem dX2_reachesY_1 : decode cX2_reachesY 1 = .ok (.aload_n 0, 1) := by decide +kernel
theorem dX2_reachesY_2 : decode cX2_reachesY 2 = .ok (.getfield 13, 3) := by decide +kernel
theorem dX2_reachesY_5 : decode cX2_reachesY 5 = .ok (.lload_n 1, 1) := by decide +kernel
theorem dX2_reachesY_6 : decode cX2_reachesY 6 = .ok (.lload_n 3, 1) := by decide +kernel
theorem dX2_reachesY_7 : decode cX2_reachesY 7 = .ok (.invokevirtual 66, 3) := by decide +kernel
theorem dX2_reachesY_10 : decode cX2_reachesY 10 = .ok (.ireturn, 1) := by decide +kernel
theorem dX2_reaches_0 : decode cX2_reaches 0 = .ok (.iconst 0, 1) := by decide +kernel
theorem dX2_reaches_1 : decode cX2_reaches 1 = .ok (.istore 6, 2) := by decide +kernel
theorem dX2_reaches_3 : decode cX2_reaches 3 = .ok (.iconst 0, 1) := by decide +kernel
theorem dX2_reaches_4 : decode cX2_reaches 4 = .ok (.istore 7, 2) := by decide +kernel
theorem dX2_reaches_6 : decode cX2_reaches 6 = .ok (.iconst 0, 1) := by decide +kernel
theorem dX2_reaches_7 : decode cX2_reaches 7 = .ok (.istore 8, 2) := by decide +kernel
theorem dX2_reaches_9 : decode cX2_reaches 9 = .ok (.iload 8, 2) := by decide +kernel
theorem dX2_reaches_11 : decode cX2_reaches 11 = .ok (.aload_n 0, 1) := by decide +kernel
theorem dX2_reaches_12 : decode cX2_reaches 12 = .ok (.getfield 16, 3) := by decide +kernel
theorem dX2_reaches_15 : decode cX2_reaches 15 = .ok (.if_icmp .ge 61, 3) := by decide +kernel
theorem dX2_reaches_18 : decode cX2_reaches 18 = .ok (.iload 8, 2) := by decide +kernel
theorem dX2_reaches_20 : decode cX2_reaches 20 = .ok (.aload_n 1, 1) := by decide +kernel
theorem dX2_reaches_21 : decode cX2_reaches 21 = .ok (.arraylength, 1) := by decide +kernel
theorem dX2_reaches_22 : decode cX2_reaches 22 = .ok (.if_icmp .ge 54, 3) := by decide +kernel
theorem dX2_reaches_25 : decode cX2_reaches 25 = .ok (.iload 6, 2) := by decide +kernel
theorem dX2_reaches_27 : decode cX2_reaches 27 = .ok (.ifCond .ne 14, 3) := by decide +kernel
theorem dX2_reaches_30 : decode cX2_reaches 30 = .ok (.aload_n 1, 1) := by decide +kernel
theorem dX2_reaches_31 : decode cX2_reaches 31 = .ok (.iload 8, 2) := by decide +kernel
theorem dX2_reaches_33 : decode cX2_reaches 33 = .ok (.iaload, 1) := by decide +kernel
theorem dX2_reaches_34 : decode cX2_reaches 34 = .ok (.i2l, 1) := by decide +kernel
theorem dX2_reaches_35 : decode cX2_reaches 35 = .ok (.lload 4, 2) := by decide +kernel
theorem dX2_reaches_37 : decode cX2_reaches 37 = .ok (.lcmp, 1) := by decide +kernel
theorem dX2_reaches_38 : decode cX2_reaches 38 = .ok (.ifCond .gt 7, 3) := by decide +kernel
theorem dX2_reaches_41 : decode cX2_reaches 41 = .ok (.iconst 1, 1) := by decide +kernel
theorem dX2_reaches_42 : decode cX2_reaches 42 = .ok (.goto 4, 3) := by decide +kernel
theorem dX2_reaches_45 : decode cX2_reaches 45 = .ok (.iconst 0, 1) := by decide +kernel
theorem dX2_reaches_46 : decode cX2_reaches 46 = .ok (.istore 6, 2) := by decide +kernel
theorem dX2_reaches_48 : decode cX2_reaches 48 = .ok (.iload 7, 2) := by decide +kernel
theorem dX2_reaches_50 : decode cX2_reaches 50 = .ok (.ifCond .ne 13, 3) := by decide +kernel
theorem dX2_reaches_53 : decode cX2_reaches 53 = .ok (.aload_n 1, 1) := by decide +kernel
theorem dX2_reaches_54 : decode cX2_reaches 54 = .ok (.iload 8, 2) := by decide +kernel
theorem dX2_reaches_56 : decode cX2_reaches 56 = .ok (.iaload, 1) := by decide +kernel
theorem dX2_reaches_57 : decode cX2_reaches 57 = .ok (.i2l, 1) := by decide +kernel
theorem dX2_reaches_58 : decode cX2_reaches 58 = .ok (.lload_n 2, 1) := by decide +kernel
theorem dX2_reaches_59 : decode cX2_reaches 59 = .ok (.lcmp, 1) := by decide +kernel
theorem dX2_reaches_60 : decode cX2_reaches 60 = .ok (.ifCond .lt 7, 3) := by decide +kernel
theorem dX2_reaches_63 : decode cX2_reaches 63 = .ok (.iconst 1, 1) := by decide +kernel
theorem dX2_reaches_64 : decode cX2_reaches 64 = .ok (.goto 4, 3) := by decide +kernel
theorem dX2_reaches_67 : decode cX2_reaches 67 = .ok (.iconst 0, 1) := by decide +kernel
theorem dX2_reaches_68 : decode cX2_reaches 68 = .ok (.istore 7, 2) := by decide +kernel
theorem dX2_reaches_70 : decode cX2_reaches 70 = .ok (.iinc 8 1, 3) := by decide +kernel
theorem dX2_reaches_73 : decode cX2_reaches 73 = .ok (.goto (-64), 3) := by decide +kernel
theorem dX2_reaches_76 : decode cX2_reaches 76 = .ok (.iload 6, 2) := by decide +kernel
theorem dX2_reaches_78 : decode cX2_reaches 78 = .ok (.ifCond .eq 12, 3) := by decide +kernel
theorem dX2_reaches_81 : decode cX2_reaches 81 = .ok (.iload 7, 2) := by decide +kernel
theorem dX2_reaches_83 : decode cX2_reaches 83 = .ok (.ifCond .eq 7, 3) := by decide +kernel
theorem dX2_reaches_86 : decode cX2_reaches 86 = .ok (.iconst 1, 1) := by decide +kernel
theorem dX2_reaches_87 : decode cX2_reaches 87 = .ok (.goto 4, 3) := by decide +kernel
theorem dX2_reaches_90 : decode cX2_reaches 90 = .ok (.iconst 0, 1) := by decide +kernel
theorem dX2_reaches_91 : decode cX2_reaches 91 = .ok (.ireturn, 1) := by decide +kernel
theorem dX3_init_0 : decode cX3_init 0 = .ok (.aload_n 0, 1) := by decide +kernel
theorem dX3_init_1 : decode cX3_init 1 = .ok (.invokespecial 1, 3) := by decide +kernel
theorem dX3_init_4 : decode cX3_init 4 = .ok (.aload_n 0, 1) := by decide +kernel
theorem dX3_init_5 : decode cX3_init 5 = .ok (.bipush 40, 2) := by decide +kernel
theorem dX3_init_7 : decode cX3_init 7 = .ok (.newarray .int, 2) := by decide +kernel
theorem dX3_init_9 : decode cX3_init 9 = .ok (.putfield 9, 3) := by decide +kernel
theorem dX3_init_12 : decode cX3_init 12 = .ok (.aload_n 0, 1) := by decide +kernel
theorem dX3_init_13 : decode cX3_init 13 = .ok (.bipush 40, 2) := by decide +kernel
theorem dX3_init_15 : decode cX3_init 15 = .ok (.newarray .int, 2) := by decide +kernel
theorem dX3_init_17 : decode cX3_init 17 = .ok (.putfield 13, 3) := by decide +kernel
theorem dX3_init_20 : decode cX3_init 20 = .ok (.aload_n 0, 1) := by decide +kernel
theorem dX3_init_21 : decode cX3_init 21 = .ok (.bipush 40, 2) := by decide +kernel
theorem dX3_init_23 : decode cX3_init 23 = .ok (.newarray .int, 2) := by decide +kernel
theorem dX3_init_25 : decode cX3_init 25 = .ok (.putfield 16, 3) := by decide +kernel
theorem dX3_init_28 : decode cX3_init 28 = .ok (.aload_n 0, 1) := by decide +kernel
theorem dX3_init_29 : decode cX3_init 29 = .ok (.bipush 40, 2) := by decide +kernel
theorem dX3_init_31 : decode cX3_init 31 = .ok (.newarray .int, 2) := by decide +kernel
theorem dX3_init_33 : decode cX3_init 33 = .ok (.putfield 19, 3) := by decide +kernel
theorem dX3_init_36 : decode cX3_init 36 = .ok (.aload_n 0, 1) := by decide +kernel
theorem dX3_init_37 : decode cX3_init 37 = .ok (.iconst 0, 1) := by decide +kernel
theorem dX3_init_38 : decode cX3_init 38 = .ok (.putfield 22, 3) := by decide +kernel
theorem dX3_init_41 : decode cX3_init 41 = .ok (.return_, 1) := by decide +kernel
theorem dX3_room_0 : decode cX3_room 0 = .ok (.bipush 40, 2) := by decide +kernel
theorem dX3_room_2 : decode cX3_room 2 = .ok (.aload_n 0, 1) := by decide +kernel
theorem dX3_room_3 : decode cX3_room 3 = .ok (.getfield 22, 3) := by decide +kernel
theorem dX3_room_6 : decode cX3_room 6 = .ok (.isub, 1) := by decide +kernel
theorem dX3_room_7 : decode cX3_room 7 = .ok (.ireturn, 1) := by decide +kernel
theorem dX3_add_0 : decode cX3_add 0 = .ok (.aload_n 0, 1) := by decide +kernel
theorem dX3_add_1 : decode cX3_add 1 = .ok (.getfield 22, 3) := by decide +kernel
theorem dX3_add_4 : decode cX3_add 4 = .ok (.bipush 40, 2) := by decide +kernel
theorem dX3_add_6 : decode cX3_add 6 = .ok (.if_icmp .lt 5, 3) := by decide +kernel
theorem dX3_add_9 : decode cX3_add 9 = .ok (.iconst 0, 1) := by decide +kernel
theorem dX3_add_10 : decode cX3_add 10 = .ok (.ireturn, 1) := by decide +kernel
theorem dX3_add_11 : decode cX3_add 11 = .ok (.aload_n 0, 1) := by decide +kernel
theorem dX3_add_12 : decode cX3_add 12 = .ok (.getfield 9, 3) := by decide +kernel
theorem dX3_add_15 : decode cX3_add 15 = .ok (.aload_n 0, 1) := by decide +kernel
theorem dX3_add_16 : decode cX3_add 16 = .ok (.getfield 22, 3) := by decide +kernel
theorem dX3_add_19 : decode cX3_add 19 = .ok (.iload_n 1, 1) := by decide +kernel
theorem dX3_add_20 : decode cX3_add 20 = .ok (.iastore, 1) := by decide +kernel
theorem dX3_add_21 : decode cX3_add 21 = .ok (.aload_n 0, 1) := by decide +kernel
theorem dX3_add_22 : decode cX3_add 22 = .ok (.getfield 13, 3) := by decide +kernel
theorem dX3_add_25 : decode cX3_add 25 = .ok (.aload_n 0, 1) := by decide +kernel
theorem dX3_add_26 : decode cX3_add 26 = .ok (.getfield 22, 3) := by decide +kernel
theorem dX3_add_29 : decode cX3_add 29 = .ok (.iload_n 2, 1) := by decide +kernel
theorem dX3_add_30 : decode cX3_add 30 = .ok (.iastore, 1) := by decide +kernel
theorem dX3_add_31 : decode cX3_add 31 = .ok (.aload_n 0, 1) := by decide +kernel
theorem dX3_add_32 : decode cX3_add 32 = .ok (.getfield 16, 3) := by decide +kernel
theorem dX3_add_35 : decode cX3_add 35 = .ok (.aload_n 0, 1) := by decide +kernel
theorem dX3_add_36 : decode cX3_add 36 = .ok (.getfield 22, 3) := by decide +kernel
theorem dX3_add_39 : decode cX3_add 39 = .ok (.iload_n 3, 1) := by decide +kernel
theorem dX3_add_40 : decode cX3_add 40 = .ok (.iastore, 1) := by decide +kernel
theorem dX3_add_41 : decode cX3_add 41 = .ok (.aload_n 0, 1) := by decide +kernel
theorem dX3_add_42 : decode cX3_add 42 = .ok (.getfield 19, 3) := by decide +kernel
theorem dX3_add_45 : decode cX3_add 45 = .ok (.aload_n 0, 1) := by decide +kernel
theorem dX3_add_46 : decode cX3_add 46 = .ok (.getfield 22, 3) := by decide +kernel
theorem dX3_add_49 : decode cX3_add 49 = .ok (.iload 4, 2) := by decide +kernel
theorem dX3_add_51 : decode cX3_add 51 = .ok (.iastore, 1) := by decide +kernel
theorem dX3_add_52 : decode cX3_add 52 = .ok (.aload_n 0, 1) := by decide +kernel
theorem dX3_add_53 : decode cX3_add 53 = .ok (.dup, 1) := by decide +kernel
theorem dX3_add_54 : decode cX3_add 54 = .ok (.getfield 22, 3) := by decide +kernel
theorem dX3_add_57 : decode cX3_add 57 = .ok (.iconst 1, 1) := by decide +kernel
theorem dX3_add_58 : decode cX3_add 58 = .ok (.iadd, 1) := by decide +kernel
theorem dX3_add_59 : decode cX3_add 59 = .ok (.putfield 22, 3) := by decide +kernel
theorem dX3_add_62 : decode cX3_add 62 = .ok (.iconst 1, 1) := by decide +kernel
theorem dX3_add_63 : decode cX3_add 63 = .ok (.ireturn, 1) := by decide +kernel
theorem dX3_bar_0 : decode cX3_bar 0 = .ok (.iconst 0, 1) := by decide +kernel
theorem dX3_bar_1 : decode cX3_bar 1 = .ok (.istore 5, 2) := by decide +kernel
theorem dX3_bar_3 : decode cX3_bar 3 = .ok (.iload 5, 2) := by decide +kernel
theorem dX3_bar_5 : decode cX3_bar 5 = .ok (.aload_n 0, 1) := by decide +kernel
theorem dX3_bar_6 : decode cX3_bar 6 = .ok (.getfield 22, 3) := by decide +kernel
theorem dX3_bar_9 : decode cX3_bar 9 = .ok (.if_icmp .ge 33, 3) := by decide +kernel
theorem dX3_bar_12 : decode cX3_bar 12 = .ok (.aload_n 0, 1) := by decide +kernel
theorem dX3_bar_13 : decode cX3_bar 13 = .ok (.getfield 13, 3) := by decide +kernel
theorem dX3_bar_16 : decode cX3_bar 16 = .ok (.iload 5, 2) := by decide +kernel
theorem dX3_bar_18 : decode cX3_bar 18 = .ok (.iaload, 1) := by decide +kernel
theorem dX3_bar_19 : decode cX3_bar 19 = .ok (.iload_n 2, 1) := by decide +kernel
theorem dX3_bar_20 : decode cX3_bar 20 = .ok (.if_icmp .ne 16, 3) := by decide +kernel
theorem dX3_bar_23 : decode cX3_bar 23 = .ok (.aload_n 0, 1) := by decide +kernel
theorem dX3_bar_24 : decode cX3_bar 24 = .ok (.iload 5, 2) := by decide +kernel
theorem dX3_bar_26 : decode cX3_bar 26 = .ok (.iload_n 1, 1) := by decide +kernel
theorem dX3_bar_27 : decode cX3_bar 27 = .ok (.lload_n 3, 1) := by decide +kernel
theorem dX3_bar_28 : decode cX3_bar 28 = .ok (.invokevirtual 26, 3) := by decide +kernel
theorem dX3_bar_31 : decode cX3_bar 31 = .ok (.ifCond .eq 5, 3) := by decide +kernel
theorem dX3_bar_34 : decode cX3_bar 34 = .ok (.iconst 1, 1) := by decide +kernel
theorem dX3_bar_35 : decode cX3_bar 35 = .ok (.ireturn, 1) := by decide +kernel
theorem dX3_bar_36 : decode cX3_bar 36 = .ok (.iinc 5 1, 3) := by decide +kernel
theorem dX3_bar_39 : decode cX3_bar 39 = .ok (.goto (-36), 3) := by decide +kernel
theorem dX3_bar_42 : decode cX3_bar 42 = .ok (.iconst 0, 1) := by decide +kernel
theorem dX3_bar_43 : decode cX3_bar 43 = .ok (.ireturn, 1) := by decide +kernel
theorem dX3_barAny_0 : decode cX3_barAny 0 = .ok (.iconst 0, 1) := by decide +kernel
theorem dX3_barAny_1 : decode cX3_barAny 1 = .ok (.istore 4, 2) := by decide +kernel
theorem dX3_barAny_3 : decode cX3_barAny 3 = .ok (.iload 4, 2) := by decide +kernel
theorem dX3_barAny_5 : decode cX3_barAny 5 = .ok (.aload_n 0, 1) := by decide +kernel
theorem dX3_barAny_6 : decode cX3_barAny 6 = .ok (.getfield 22, 3) := by decide +kernel
theorem dX3_barAny_9 : decode cX3_barAny 9 = .ok (.if_icmp .ge 22, 3) := by decide +kernel
theorem dX3_barAny_12 : decode cX3_barAny 12 = .ok (.aload_n 0, 1) := by decide +kernel
theorem dX3_barAny_13 : decode cX3_barAny 13 = .ok (.iload 4, 2) := by decide +kernel
theorem dX3_barAny_15 : decode cX3_barAny 15 = .ok (.iload_n 1, 1) := by decide +kernel
theorem dX3_barAny_16 : decode cX3_barAny 16 = .ok (.lload_n 2, 1) := by decide +kernel
theorem dX3_barAny_17 : decode cX3_barAny 17 = .ok (.invokevirtual 26, 3) := by decide +kernel
theorem dX3_barAny_20 : decode cX3_barAny 20 = .ok (.ifCond .eq 5, 3) := by decide +kernel
theorem dX3_barAny_23 : decode cX3_barAny 23 = .ok (.iconst 1, 1) := by decide +kernel
theorem dX3_barAny_24 : decode cX3_barAny 24 = .ok (.ireturn, 1) := by decide +kernel
theorem dX3_barAny_25 : decode cX3_barAny 25 = .ok (.iinc 4 1, 3) := by decide +kernel
theorem dX3_barAny_28 : decode cX3_barAny 28 = .ok (.goto (-25), 3) := by decide +kernel
theorem dX3_barAny_31 : decode cX3_barAny 31 = .ok (.iconst 0, 1) := by decide +kernel
theorem dX3_barAny_32 : decode cX3_barAny 32 = .ok (.ireturn, 1) := by decide +kernel
theorem dX3_applies_0 : decode cX3_applies 0 = .ok (.aload_n 0, 1) := by decide +kernel
theorem dX3_applies_1 : decode cX3_applies 1 = .ok (.getfield 9, 3) := by decide +kernel
theorem dX3_applies_4 : decode cX3_applies 4 = .ok (.iload_n 1, 1) := by decide +kernel
theorem dX3_applies_5 : decode cX3_applies 5 = .ok (.iaload, 1) := by decide +kernel
theorem dX3_applies_6 : decode cX3_applies 6 = .ok (.iload_n 2, 1) := by decide +kernel
theorem dX3_applies_7 : decode cX3_applies 7 = .ok (.if_icmp .ne 31, 3) := by decide +kernel
theorem dX3_applies_10 : decode cX3_applies 10 = .ok (.aload_n 0, 1) := by decide +kernel
theorem dX3_applies_11 : decode cX3_applies 11 = .ok (.getfield 16, 3) := by decide +kernel
theorem dX3_applies_14 : decode cX3_applies 14 = .ok (.iload_n 1, 1) := by decide +kernel
theorem dX3_applies_15 : decode cX3_applies 15 = .ok (.iaload, 1) := by decide +kernel
theorem dX3_applies_16 : decode cX3_applies 16 = .ok (.i2l, 1) := by decide +kernel
theorem dX3_applies_17 : decode cX3_applies 17 = .ok (.lload_n 3, 1) := by decide +kernel
theorem dX3_applies_18 : decode cX3_applies 18 = .ok (.lcmp, 1) := by decide +kernel
theorem dX3_applies_19 : decode cX3_applies 19 = .ok (.ifCond .gt 19, 3) := by decide +kernel
theorem dX3_applies_22 : decode cX3_applies 22 = .ok (.lload_n 3, 1) := by decide +kernel
theorem dX3_applies_23 : decode cX3_applies 23 = .ok (.aload_n 0, 1) := by decide +kernel
theorem dX3_applies_24 : decode cX3_applies 24 = .ok (.getfield 19, 3) := by decide +kernel
theorem dX3_applies_27 : decode cX3_applies 27 = .ok (.iload_n 1, 1) := by decide +kernel
theorem dX3_applies_28 : decode cX3_applies 28 = .ok (.iaload, 1) := by decide +kernel
theorem dX3_applies_29 : decode cX3_applies 29 = .ok (.i2l, 1) := by decide +kernel
theorem dX3_applies_30 : decode cX3_applies 30 = .ok (.lcmp, 1) := by decide +kernel
theorem dX3_applies_31 : decode cX3_applies 31 = .ok (.ifCond .gt 7, 3) := by decide +kernel
theorem dX3_applies_34 : decode cX3_applies 34 = .ok (.iconst 1, 1) := by decide +kernel
theorem dX3_applies_35 : decode cX3_applies 35 = .ok (.goto 4, 3) := by decide +kernel
theorem dX3_applies_38 : decode cX3_applies 38 = .ok (.iconst 0, 1) := by decide +kernel
theorem dX3_applies_39 : decode cX3_applies 39 = .ok (.ireturn, 1) := by decide +kernel
theorem dX4_init_0 : decode cX4_init 0 = .ok (.aload_n 0, 1) := by decide +kernel
theorem dX4_init_1 : decode cX4_init 1 = .ok (.invokespecial 5, 3) := by decide +kernel
theorem dX4_init_4 : decode cX4_init 4 = .ok (.aload_n 0, 1) := by decide +kernel
theorem dX4_init_5 : decode cX4_init 5 = .ok (.bipush 50, 2) := by decide +kernel
theorem dX4_init_7 : decode cX4_init 7 = .ok (.newarray .long, 2) := by decide +kernel
theorem dX4_init_9 : decode cX4_init 9 = .ok (.putfield 13, 3) := by decide +kernel
theorem dX4_init_12 : decode cX4_init 12 = .ok (.aload_n 0, 1) := by decide +kernel
theorem dX4_init_13 : decode cX4_init 13 = .ok (.bipush 50, 2) := by decide +kernel
theorem dX4_init_15 : decode cX4_init 15 = .ok (.newarray .long, 2) := by decide +kernel
theorem dX4_init_17 : decode cX4_init 17 = .ok (.putfield 17, 3) := by decide +kernel
theorem dX4_init_20 : decode cX4_init 20 = .ok (.aload_n 0, 1) := by decide +kernel
theorem dX4_init_21 : decode cX4_init 21 = .ok (.iconst 0, 1) := by decide +kernel
theorem dX4_init_22 : decode cX4_init 22 = .ok (.putfield 20, 3) := by decide +kernel
theorem dX4_init_25 : decode cX4_init 25 = .ok (.aload_n 0, 1) := by decide +kernel
theorem dX4_init_26 : decode cX4_init 26 = .ok (.bipush 50, 2) := by decide +kernel
theorem dX4_init_28 : decode cX4_init 28 = .ok (.newarray .int, 2) := by decide +kernel
theorem dX4_init_30 : decode cX4_init 30 = .ok (.putfield 24, 3) := by decide +kernel
theorem dX4_init_33 : decode cX4_init 33 = .ok (.aload_n 0, 1) := by decide +kernel
theorem dX4_init_34 : decode cX4_init 34 = .ok (.bipush 50, 2) := by decide +kernel
theorem dX4_init_36 : decode cX4_init 36 = .ok (.newarray .int, 2) := by decide +kernel
theorem dX4_init_38 : decode cX4_init 38 = .ok (.putfield 28, 3) := by decide +kernel
theorem dX4_init_41 : decode cX4_init 41 = .ok (.aload_n 0, 1) := by decide +kernel
theorem dX4_init_42 : decode cX4_init 42 = .ok (.iconst 0, 1) := by decide +kernel
theorem dX4_init_43 : decode cX4_init 43 = .ok (.putfield 31, 3) := by decide +kernel
theorem dX4_init_46 : decode cX4_init 46 = .ok (.aload_n 0, 1) := by decide +kernel
theorem dX4_init_47 : decode cX4_init 47 = .ok (.lconst 0, 1) := by decide +kernel
theorem dX4_init_48 : decode cX4_init 48 = .ok (.putfield 34, 3) := by decide +kernel
theorem dX4_init_51 : decode cX4_init 51 = .ok (.aload_n 0, 1) := by decide +kernel
theorem dX4_init_52 : decode cX4_init 52 = .ok (.lconst 0, 1) := by decide +kernel
theorem dX4_init_53 : decode cX4_init 53 = .ok (.putfield 38, 3) := by decide +kernel
theorem dX4_init_56 : decode cX4_init 56 = .ok (.aload_n 0, 1) := by decide +kernel
theorem dX4_init_57 : decode cX4_init 57 = .ok (.lconst 0, 1) := by decide +kernel
theorem dX4_init_58 : decode cX4_init 58 = .ok (.putfield 41, 3) := by decide +kernel
theorem dX4_init_61 : decode cX4_init 61 = .ok (.aload_n 0, 1) := by decide +kernel
theorem dX4_init_62 : decode cX4_init 62 = .ok (.lconst 0, 1) := by decide +kernel
theorem dX4_init_63 : decode cX4_init 63 = .ok (.putfield 44, 3) := by decide +kernel
theorem dX4_init_66 : decode cX4_init 66 = .ok (.return_, 1) := by decide +kernel
theorem dX4_find_0 : decode cX4_find 0 = .ok (.aload_n 0, 1) := by decide +kernel
theorem dX4_find_1 : decode cX4_find 1 = .ok (.aload_n 1, 1) := by decide +kernel
theorem dX4_find_2 : decode cX4_find 2 = .ok (.aload_n 2, 1) := by decide +kernel
theorem dX4_find_3 : decode cX4_find 3 = .ok (.iload_n 3, 1) := by decide +kernel
theorem dX4_find_4 : decode cX4_find 4 = .ok (.invokevirtual 47, 3) := by decide +kernel
theorem dX4_find_7 : decode cX4_find 7 = .ok (.aload_n 0, 1) := by decide +kernel
theorem dX4_find_8 : decode cX4_find 8 = .ok (.iconst 0, 1) := by decide +kernel
theorem dX4_find_9 : decode cX4_find 9 = .ok (.putfield 31, 3) := by decide +kernel
theorem dX4_find_12 : decode cX4_find 12 = .ok (.iconst 0, 1) := by decide +kernel
theorem dX4_find_13 : decode cX4_find 13 = .ok (.istore 4, 2) := by decide +kernel
theorem dX4_find_15 : decode cX4_find 15 = .ok (.iconst 0, 1) := by decide +kernel
theorem dX4_find_16 : decode cX4_find 16 = .ok (.istore 5, 2) := by decide +kernel
theorem dX4_find_18 : decode cX4_find 18 = .ok (.iload 5, 2) := by decide +kernel
theorem dX4_find_20 : decode cX4_find 20 = .ok (.aload_n 0, 1) := by decide +kernel
theorem dX4_find_21 : decode cX4_find 21 = .ok (.getfield 20, 3) := by decide +kernel
theorem dX4_find_24 : decode cX4_find 24 = .ok (.if_icmp .ge 127, 3) := by decide +kernel
theorem dX4_find_27 : decode cX4_find 27 = .ok (.iload 4, 2) := by decide +kernel
theorem dX4_find_29 : decode cX4_find 29 = .ok (.ifCond .ne 39, 3) := by decide +kernel
theorem dX4_find_32 : decode cX4_find 32 = .ok (.aload_n 0, 1) := by decide +kernel
theorem dX4_find_33 : decode cX4_find 33 = .ok (.aload_n 1, 1) := by decide +kernel
theorem dX4_find_34 : decode cX4_find 34 = .ok (.aload_n 0, 1) := by decide +kernel
theorem dX4_find_35 : decode cX4_find 35 = .ok (.getfield 13, 3) := by decide +kernel
theorem dX4_find_38 : decode cX4_find 38 = .ok (.iload 5, 2) := by decide +kernel
theorem dX4_find_40 : decode cX4_find 40 = .ok (.laload, 1) := by decide +kernel
theorem dX4_find_41 : decode cX4_find 41 = .ok (.aload_n 0, 1) := by decide +kernel
theorem dX4_find_42 : decode cX4_find 42 = .ok (.getfield 17, 3) := by decide +kernel
theorem dX4_find_45 : decode cX4_find 45 = .ok (.iload 5, 2) := by decide +kernel
theorem dX4_find_47 : decode cX4_find 47 = .ok (.laload, 1) := by decide +kernel
theorem dX4_find_48 : decode cX4_find 48 = .ok (.invokevirtual 51, 3) := by decide +kernel
theorem dX4_find_51 : decode cX4_find 51 = .ok (.ifCond .eq 17, 3) := by decide +kernel
theorem dX4_find_54 : decode cX4_find 54 = .ok (.aload_n 0, 1) := by decide +kernel
theorem dX4_find_55 : decode cX4_find 55 = .ok (.getfield 24, 3) := by decide +kernel
theorem dX4_find_58 : decode cX4_find 58 = .ok (.aload_n 0, 1) := by decide +kernel
theorem dX4_find_59 : decode cX4_find 59 = .ok (.getfield 31, 3) := by decide +kernel
theorem dX4_find_62 : decode cX4_find 62 = .ok (.iload 5, 2) := by decide +kernel
theorem dX4_find_64 : decode cX4_find 64 = .ok (.iastore, 1) := by decide +kernel
theorem dX4_find_65 : decode cX4_find 65 = .ok (.iconst 1, 1) := by decide +kernel
theorem dX4_find_66 : decode cX4_find 66 = .ok (.istore 4, 2) := by decide +kernel
theorem dX4_find_68 : decode cX4_find 68 = .ok (.iload 4, 2) := by decide +kernel
theorem dX4_find_70 : decode cX4_find 70 = .ok (.ifCond .eq 38, 3) := by decide +kernel
theorem dX4_find_73 : decode cX4_find 73 = .ok (.iload 5, 2) := by decide +kernel
theorem dX4_find_75 : decode cX4_find 75 = .ok (.iconst 1, 1) := by decide +kernel
theorem dX4_find_76 : decode cX4_find 76 = .ok (.iadd, 1) := by decide +kernel
theorem dX4_find_77 : decode cX4_find 77 = .ok (.aload_n 0, 1) := by decide +kernel
theorem dX4_find_78 : decode cX4_find 78 = .ok (.getfield 20, 3) := by decide +kernel
theorem dX4_find_81 : decode cX4_find 81 = .ok (.if_icmp .ge 27, 3) := by decide +kernel
theorem dX4_find_84 : decode cX4_find 84 = .ok (.aload_n 0, 1) := by decide +kernel
theorem dX4_find_85 : decode cX4_find 85 = .ok (.aload_n 1, 1) := by decide +kernel
theorem dX4_find_86 : decode cX4_find 86 = .ok (.aload_n 0, 1) := by decide +kernel
theorem dX4_find_87 : decode cX4_find 87 = .ok (.iload 5, 2) := by decide +kernel
theorem dX4_find_89 : decode cX4_find 89 = .ok (.invokevirtual 55, 3) := by decide +kernel
theorem dX4_find_92 : decode cX4_find 92 = .ok (.aload_n 0, 1) := by decide +kernel
theorem dX4_find_93 : decode cX4_find 93 = .ok (.iload 5, 2) := by decide +kernel
theorem dX4_find_95 : decode cX4_find 95 = .ok (.invokevirtual 59, 3) := by decide +kernel
theorem dX4_find_98 : decode cX4_find 98 = .ok (.invokevirtual 51, 3) := by decide +kernel
theorem dX4_find_101 : decode cX4_find 101 = .ok (.ifCond .eq 7, 3) := by decide +kernel
theorem dX4_find_104 : decode cX4_find 104 = .ok (.iconst 1, 1) := by decide +kernel
theorem dX4_find_105 : decode cX4_find 105 = .ok (.goto 4, 3) := by decide +kernel
theorem dX4_find_108 : decode cX4_find 108 = .ok (.iconst 0, 1) := by decide +kernel
theorem dX4_find_109 : decode cX4_find 109 = .ok (.istore 6, 2) := by decide +kernel
theorem dX4_find_111 : decode cX4_find 111 = .ok (.iload 4, 2) := by decide +kernel
theorem dX4_find_113 : decode cX4_find 113 = .ok (.ifCond .eq 32, 3) := by decide +kernel
theorem dX4_find_116 : decode cX4_find 116 = .ok (.iload 6, 2) := by decide +kernel
theorem dX4_find_118 : decode cX4_find 118 = .ok (.ifCond .ne 27, 3) := by decide +kernel
theorem dX4_find_121 : decode cX4_find 121 = .ok (.aload_n 0, 1) := by decide +kernel
theorem dX4_find_122 : decode cX4_find 122 = .ok (.getfield 28, 3) := by decide +kernel
theorem dX4_find_125 : decode cX4_find 125 = .ok (.aload_n 0, 1) := by decide +kernel
theorem dX4_find_126 : decode cX4_find 126 = .ok (.getfield 31, 3) := by decide +kernel
theorem dX4_find_129 : decode cX4_find 129 = .ok (.iload 5, 2) := by decide +kernel
theorem dX4_find_131 : decode cX4_find 131 = .ok (.iastore, 1) := by decide +kernel
theorem dX4_find_132 : decode cX4_find 132 = .ok (.aload_n 0, 1) := by decide +kernel
theorem dX4_find_133 : decode cX4_find 133 = .ok (.dup, 1) := by decide +kernel
theorem dX4_find_134 : decode cX4_find 134 = .ok (.getfield 31, 3) := by decide +kernel
theorem dX4_find_137 : decode cX4_find 137 = .ok (.iconst 1, 1) := by decide +kernel
theorem dX4_find_138 : decode cX4_find 138 = .ok (.iadd, 1) := by decide +kernel
theorem dX4_find_139 : decode cX4_find 139 = .ok (.putfield 31, 3) := by decide +kernel
theorem dX4_find_142 : decode cX4_find 142 = .ok (.iconst 0, 1) := by decide +kernel
theorem dX4_find_143 : decode cX4_find 143 = .ok (.istore 4, 2) := by decide +kernel
theorem dX4_find_145 : decode cX4_find 145 = .ok (.iinc 5 1, 3) := by decide +kernel
theorem dX4_find_148 : decode cX4_find 148 = .ok (.goto (-130), 3) := by decide +kernel
theorem dX4_find_151 : decode cX4_find 151 = .ok (.return_, 1) := by decide +kernel
theorem dX4_cutPiece_0 : decode cX4_cutPiece 0 = .ok (.aload_n 0, 1) := by decide +kernel
theorem dX4_cutPiece_1 : decode cX4_cutPiece 1 = .ok (.aload_n 2, 1) := by decide +kernel
theorem dX4_cutPiece_2 : decode cX4_cutPiece 2 = .ok (.iload_n 3, 1) := by decide +kernel
theorem dX4_cutPiece_3 : decode cX4_cutPiece 3 = .ok (.invokevirtual 62, 3) := by decide +kernel
theorem dX4_cutPiece_6 : decode cX4_cutPiece 6 = .ok (.i2l, 1) := by decide +kernel
theorem dX4_cutPiece_7 : decode cX4_cutPiece 7 = .ok (.putfield 34, 3) := by decide +kernel
theorem dX4_cutPiece_10 : decode cX4_cutPiece 10 = .ok (.aload_n 0, 1) := by decide +kernel
theorem dX4_cutPiece_11 : decode cX4_cutPiece 11 = .ok (.aload_n 2, 1) := by decide +kernel
theorem dX4_cutPiece_12 : decode cX4_cutPiece 12 = .ok (.iload_n 3, 1) := by decide +kernel
theorem dX4_cutPiece_13 : decode cX4_cutPiece 13 = .ok (.invokevirtual 68, 3) := by decide +kernel
theorem dX4_cutPiece_16 : decode cX4_cutPiece 16 = .ok (.i2l, 1) := by decide +kernel
theorem dX4_cutPiece_17 : decode cX4_cutPiece 17 = .ok (.putfield 38, 3) := by decide +kernel
theorem dX4_cutPiece_20 : decode cX4_cutPiece 20 = .ok (.aload_n 0, 1) := by decide +kernel
theorem dX4_cutPiece_21 : decode cX4_cutPiece 21 = .ok (.aload_n 2, 1) := by decide +kernel
theorem dX4_cutPiece_22 : decode cX4_cutPiece 22 = .ok (.iload_n 3, 1) := by decide +kernel
theorem dX4_cutPiece_23 : decode cX4_cutPiece 23 = .ok (.iconst 1, 1) := by decide +kernel
theorem dX4_cutPiece_24 : decode cX4_cutPiece 24 = .ok (.iadd, 1) := by decide +kernel
theorem dX4_cutPiece_25 : decode cX4_cutPiece 25 = .ok (.invokevirtual 62, 3) := by decide +kernel
theorem dX4_cutPiece_28 : decode cX4_cutPiece 28 = .ok (.i2l, 1) := by decide +kernel
theorem dX4_cutPiece_29 : decode cX4_cutPiece 29 = .ok (.aload_n 0, 1) := by decide +kernel
theorem dX4_cutPiece_30 : decode cX4_cutPiece 30 = .ok (.getfield 34, 3) := by decide +kernel
theorem dX4_cutPiece_33 : decode cX4_cutPiece 33 = .ok (.lsub, 1) := by decide +kernel
theorem dX4_cutPiece_34 : decode cX4_cutPiece 34 = .ok (.putfield 41, 3) := by decide +kernel
theorem dX4_cutPiece_37 : decode cX4_cutPiece 37 = .ok (.aload_n 0, 1) := by decide +kernel
theorem dX4_cutPiece_38 : decode cX4_cutPiece 38 = .ok (.aload_n 2, 1) := by decide +kernel
theorem dX4_cutPiece_39 : decode cX4_cutPiece 39 = .ok (.iload_n 3, 1) := by decide +kernel
theorem dX4_cutPiece_40 : decode cX4_cutPiece 40 = .ok (.iconst 1, 1) := by decide +kernel
theorem dX4_cutPiece_41 : decode cX4_cutPiece 41 = .ok (.iadd, 1) := by decide +kernel
theorem dX4_cutPiece_42 : decode cX4_cutPiece 42 = .ok (.invokevirtual 68, 3) := by decide +kernel
theorem dX4_cutPiece_45 : decode cX4_cutPiece 45 = .ok (.i2l, 1) := by decide +kernel
theorem dX4_cutPiece_46 : decode cX4_cutPiece 46 = .ok (.aload_n 0, 1) := by decide +kernel
theorem dX4_cutPiece_47 : decode cX4_cutPiece 47 = .ok (.getfield 38, 3) := by decide +kernel
theorem dX4_cutPiece_50 : decode cX4_cutPiece 50 = .ok (.lsub, 1) := by decide +kernel
theorem dX4_cutPiece_51 : decode cX4_cutPiece 51 = .ok (.putfield 44, 3) := by decide +kernel
theorem dX4_cutPiece_54 : decode cX4_cutPiece 54 = .ok (.aload_n 0, 1) := by decide +kernel
theorem dX4_cutPiece_55 : decode cX4_cutPiece 55 = .ok (.iconst 0, 1) := by decide +kernel
theorem dX4_cutPiece_56 : decode cX4_cutPiece 56 = .ok (.putfield 20, 3) := by decide +kernel
theorem dX4_cutPiece_59 : decode cX4_cutPiece 59 = .ok (.aload_n 0, 1) := by decide +kernel
theorem dX4_cutPiece_60 : decode cX4_cutPiece 60 = .ok (.lconst 0, 1) := by decide +kernel
theorem dX4_cutPiece_61 : decode cX4_cutPiece 61 = .ok (.lconst 1, 1) := by decide +kernel
theorem dX4_cutPiece_62 : decode cX4_cutPiece 62 = .ok (.invokevirtual 71, 3) := by decide +kernel
theorem dX4_cutPiece_65 : decode cX4_cutPiece 65 = .ok (.aload_n 0, 1) := by decide +kernel
theorem dX4_cutPiece_66 : decode cX4_cutPiece 66 = .ok (.lconst 1, 1) := by decide +kernel
theorem dX4_cutPiece_67 : decode cX4_cutPiece 67 = .ok (.lconst 1, 1) := by decide +kernel
theorem dX4_cutPiece_68 : decode cX4_cutPiece 68 = .ok (.invokevirtual 71, 3) := by decide +kernel
theorem dX4_cutPiece_71 : decode cX4_cutPiece 71 = .ok (.iconst 0, 1) := by decide +kernel
theorem dX4_cutPiece_72 : decode cX4_cutPiece 72 = .ok (.istore 4, 2) := by decide +kernel
theorem dX4_cutPiece_74 : decode cX4_cutPiece 74 = .ok (.iload 4, 2) := by decide +kernel
theorem dX4_cutPiece_76 : decode cX4_cutPiece 76 = .ok (.aload_n 1, 1) := by decide +kernel
theorem dX4_cutPiece_77 : decode cX4_cutPiece 77 = .ok (.invokevirtual 75, 3) := by decide +kernel
theorem dX4_cutPiece_80 : decode cX4_cutPiece 80 = .ok (.if_icmp .ge 44, 3) := by decide +kernel
theorem dX4_cutPiece_83 : decode cX4_cutPiece 83 = .ok (.aload_n 1, 1) := by decide +kernel
theorem dX4_cutPiece_84 : decode cX4_cutPiece 84 = .ok (.iload 4, 2) := by decide +kernel
theorem dX4_cutPiece_86 : decode cX4_cutPiece 86 = .ok (.invokevirtual 79, 3) := by decide +kernel
theorem dX4_cutPiece_89 : decode cX4_cutPiece 89 = .ok (.astore 5, 2) := by decide +kernel
theorem dX4_cutPiece_91 : decode cX4_cutPiece 91 = .ok (.iconst 0, 1) := by decide +kernel
theorem dX4_cutPiece_92 : decode cX4_cutPiece 92 = .ok (.istore 6, 2) := by decide +kernel
theorem dX4_cutPiece_94 : decode cX4_cutPiece 94 = .ok (.iload 6, 2) := by decide +kernel
theorem dX4_cutPiece_96 : decode cX4_cutPiece 96 = .ok (.aload 5, 2) := by decide +kernel
theorem dX4_cutPiece_98 : decode cX4_cutPiece 98 = .ok (.invokevirtual 83, 3) := by decide +kernel
theorem dX4_cutPiece_101 : decode cX4_cutPiece 101 = .ok (.if_icmp .ge 17, 3) := by decide +kernel
theorem dX4_cutPiece_104 : decode cX4_cutPiece 104 = .ok (.aload_n 0, 1) := by decide +kernel
theorem dX4_cutPiece_105 : decode cX4_cutPiece 105 = .ok (.aload 5, 2) := by decide +kernel
theorem dX4_cutPiece_107 : decode cX4_cutPiece 107 = .ok (.iload 6, 2) := by decide +kernel
theorem dX4_cutPiece_109 : decode cX4_cutPiece 109 = .ok (.invokevirtual 85, 3) := by decide +kernel
theorem dX4_cutPiece_112 : decode cX4_cutPiece 112 = .ok (.iinc 6 1, 3) := by decide +kernel
theorem dX4_cutPiece_115 : decode cX4_cutPiece 115 = .ok (.goto (-21), 3) := by decide +kernel
theorem dX4_cutPiece_118 : decode cX4_cutPiece 118 = .ok (.iinc 4 1, 3) := by decide +kernel
theorem dX4_cutPiece_121 : decode cX4_cutPiece 121 = .ok (.goto (-47), 3) := by decide +kernel
theorem dX4_cutPiece_124 : decode cX4_cutPiece 124 = .ok (.return_, 1) := by decide +kernel
theorem dX4_cutAtSide_0 : decode cX4_cutAtSide 0 = .ok (.aload_n 1, 1) := by decide +kernel
theorem dX4_cutAtSide_1 : decode cX4_cutAtSide 1 = .ok (.iload_n 2, 1) := by decide +kernel
theorem dX4_cutAtSide_2 : decode cX4_cutAtSide 2 = .ok (.invokevirtual 89, 3) := by decide +kernel
theorem dX4_cutAtSide_5 : decode cX4_cutAtSide 5 = .ok (.istore_n 3, 1) := by decide +kernel
theorem dX4_cutAtSide_6 : decode cX4_cutAtSide 6 = .ok (.aload_n 1, 1) := by decide +kernel
theorem dX4_cutAtSide_7 : decode cX4_cutAtSide 7 = .ok (.iload_n 3, 1) := by decide +kernel
theorem dX4_cutAtSide_8 : decode cX4_cutAtSide 8 = .ok (.invokevirtual 92, 3) := by decide +kernel
theorem dX4_cutAtSide_11 : decode cX4_cutAtSide 11 = .ok (.aload_n 1, 1) := by decide +kernel
theorem dX4_cutAtSide_12 : decode cX4_cutAtSide 12 = .ok (.iload_n 2, 1) := by decide +kernel
theorem dX4_cutAtSide_13 : decode cX4_cutAtSide 13 = .ok (.invokevirtual 92, 3) := by decide +kernel
theorem dX4_cutAtSide_16 : decode cX4_cutAtSide 16 = .ok (.isub, 1) := by decide +kernel
theorem dX4_cutAtSide_17 : decode cX4_cutAtSide 17 = .ok (.i2l, 1) := by decide +kernel
theorem dX4_cutAtSide_18 : decode cX4_cutAtSide 18 = .ok (.lstore 4, 2) := by decide +kernel
theorem dX4_cutAtSide_20 : decode cX4_cutAtSide 20 = .ok (.aload_n 1, 1) := by decide +kernel
theorem dX4_cutAtSide_21 : decode cX4_cutAtSide 21 = .ok (.iload_n 3, 1) := by decide +kernel
theorem dX4_cutAtSide_22 : decode cX4_cutAtSide 22 = .ok (.invokevirtual 93, 3) := by decide +kernel
theorem dX4_cutAtSide_25 : decode cX4_cutAtSide 25 = .ok (.aload_n 1, 1) := by decide +kernel
theorem dX4_cutAtSide_26 : decode cX4_cutAtSide 26 = .ok (.iload_n 2, 1) := by decide +kernel
theorem dX4_cutAtSide_27 : decode cX4_cutAtSide 27 = .ok (.invokevirtual 93, 3) := by decide +kernel
theorem dX4_cutAtSide_30 : decode cX4_cutAtSide 30 = .ok (.isub, 1) := by decide +kernel
theorem dX4_cutAtSide_31 : decode cX4_cutAtSide 31 = .ok (.i2l, 1) := by decide +kernel
theorem dX4_cutAtSide_32 : decode cX4_cutAtSide 32 = .ok (.lstore 6, 2) := by decide +kernel
theorem dX4_cutAtSide_34 : decode cX4_cutAtSide 34 = .ok (.aload_n 1, 1) := by decide +kernel
theorem dX4_cutAtSide_35 : decode cX4_cutAtSide 35 = .ok (.iload_n 2, 1) := by decide +kernel
theorem dX4_cutAtSide_36 : decode cX4_cutAtSide 36 = .ok (.invokevirtual 92, 3) := by decide +kernel
theorem dX4_cutAtSide_39 : decode cX4_cutAtSide 39 = .ok (.i2l, 1) := by decide +kernel
theorem dX4_cutAtSide_40 : decode cX4_cutAtSide 40 = .ok (.aload_n 0, 1) := by decide +kernel
theorem dX4_cutAtSide_41 : decode cX4_cutAtSide 41 = .ok (.getfield 34, 3) := by decide +kernel
theorem dX4_cutAtSide_44 : decode cX4_cutAtSide 44 = .ok (.lsub, 1) := by decide +kernel
theorem dX4_cutAtSide_45 : decode cX4_cutAtSide 45 = .ok (.lstore 8, 2) := by decide +kernel
theorem dX4_cutAtSide_47 : decode cX4_cutAtSide 47 = .ok (.aload_n 1, 1) := by decide +kernel
theorem dX4_cutAtSide_48 : decode cX4_cutAtSide 48 = .ok (.iload_n 2, 1) := by decide +kernel
theorem dX4_cutAtSide_49 : decode cX4_cutAtSide 49 = .ok (.invokevirtual 93, 3) := by decide +kernel
theorem dX4_cutAtSide_52 : decode cX4_cutAtSide 52 = .ok (.i2l, 1) := by decide +kernel
theorem dX4_cutAtSide_53 : decode cX4_cutAtSide 53 = .ok (.aload_n 0, 1) := by decide +kernel
theorem dX4_cutAtSide_54 : decode cX4_cutAtSide 54 = .ok (.getfield 38, 3) := by decide +kernel
theorem dX4_cutAtSide_57 : decode cX4_cutAtSide 57 = .ok (.lsub, 1) := by decide +kernel
theorem dX4_cutAtSide_58 : decode cX4_cutAtSide 58 = .ok (.lstore 10, 2) := by decide +kernel
theorem dX4_cutAtSide_60 : decode cX4_cutAtSide 60 = .ok (.aload_n 0, 1) := by decide +kernel
theorem dX4_cutAtSide_61 : decode cX4_cutAtSide 61 = .ok (.getfield 41, 3) := by decide +kernel
theorem dX4_cutAtSide_64 : decode cX4_cutAtSide 64 = .ok (.lload 6, 2) := by decide +kernel
theorem dX4_cutAtSide_66 : decode cX4_cutAtSide 66 = .ok (.lmul, 1) := by decide +kernel
theorem dX4_cutAtSide_67 : decode cX4_cutAtSide 67 = .ok (.aload_n 0, 1) := by decide +kernel
theorem dX4_cutAtSide_68 : decode cX4_cutAtSide 68 = .ok (.getfield 44, 3) := by decide +kernel
theorem dX4_cutAtSide_71 : decode cX4_cutAtSide 71 = .ok (.lload 4, 2) := by decide +kernel
theorem dX4_cutAtSide_73 : decode cX4_cutAtSide 73 = .ok (.lmul, 1) := by decide +kernel
theorem dX4_cutAtSide_74 : decode cX4_cutAtSide 74 = .ok (.lsub, 1) := by decide +kernel
theorem dX4_cutAtSide_75 : decode cX4_cutAtSide 75 = .ok (.lstore 12, 2) := by decide +kernel
theorem dX4_cutAtSide_77 : decode cX4_cutAtSide 77 = .ok (.lload 8, 2) := by decide +kernel
theorem dX4_cutAtSide_79 : decode cX4_cutAtSide 79 = .ok (.lload 6, 2) := by decide +kernel
theorem dX4_cutAtSide_81 : decode cX4_cutAtSide 81 = .ok (.lmul, 1) := by decide +kernel
theorem dX4_cutAtSide_82 : decode cX4_cutAtSide 82 = .ok (.lload 10, 2) := by decide +kernel
theorem dX4_cutAtSide_84 : decode cX4_cutAtSide 84 = .ok (.lload 4, 2) := by decide +kernel
theorem dX4_cutAtSide_86 : decode cX4_cutAtSide 86 = .ok (.lmul, 1) := by decide +kernel
theorem dX4_cutAtSide_87 : decode cX4_cutAtSide 87 = .ok (.lsub, 1) := by decide +kernel
theorem dX4_cutAtSide_88 : decode cX4_cutAtSide 88 = .ok (.lstore 14, 2) := by decide +kernel
theorem dX4_cutAtSide_90 : decode cX4_cutAtSide 90 = .ok (.lload 8, 2) := by decide +kernel
theorem dX4_cutAtSide_92 : decode cX4_cutAtSide 92 = .ok (.aload_n 0, 1) := by decide +kernel
theorem dX4_cutAtSide_93 : decode cX4_cutAtSide 93 = .ok (.getfield 44, 3) := by decide +kernel
theorem dX4_cutAtSide_96 : decode cX4_cutAtSide 96 = .ok (.lmul, 1) := by decide +kernel
theorem dX4_cutAtSide_97 : decode cX4_cutAtSide 97 = .ok (.lload 10, 2) := by decide +kernel
theorem dX4_cutAtSide_99 : decode cX4_cutAtSide 99 = .ok (.aload_n 0, 1) := by decide +kernel
theorem dX4_cutAtSide_100 : decode cX4_cutAtSide 100 = .ok (.getfield 41, 3) := by decide +kernel
theorem dX4_cutAtSide_103 : decode cX4_cutAtSide 103 = .ok (.lmul, 1) := by decide +kernel
theorem dX4_cutAtSide_104 : decode cX4_cutAtSide 104 = .ok (.lsub, 1) := by decide +kernel
theorem dX4_cutAtSide_105 : decode cX4_cutAtSide 105 = .ok (.lstore 16, 2) := by decide +kernel
theorem dX4_cutAtSide_107 : decode cX4_cutAtSide 107 = .ok (.lload 12, 2) := by decide +kernel
theorem dX4_cutAtSide_109 : decode cX4_cutAtSide 109 = .ok (.lconst 0, 1) := by decide +kernel
theorem dX4_cutAtSide_110 : decode cX4_cutAtSide 110 = .ok (.lcmp, 1) := by decide +kernel
theorem dX4_cutAtSide_111 : decode cX4_cutAtSide 111 = .ok (.ifCond .ge 9, 3) := by decide +kernel
theorem dX4_cutAtSide_114 : decode cX4_cutAtSide 114 = .ok (.ldc2_w 94, 3) := by decide +kernel
theorem dX4_cutAtSide_117 : decode cX4_cutAtSide 117 = .ok (.goto 4, 3) := by decide +kernel
theorem dX4_cutAtSide_120 : decode cX4_cutAtSide 120 = .ok (.lconst 1, 1) := by decide +kernel
theorem dX4_cutAtSide_121 : decode cX4_cutAtSide 121 = .ok (.lstore 18, 2) := by decide +kernel
theorem dX4_cutAtSide_123 : decode cX4_cutAtSide 123 = .ok (.lload 16, 2) := by decide +kernel
theorem dX4_cutAtSide_125 : decode cX4_cutAtSide 125 = .ok (.lload 18, 2) := by decide +kernel
theorem dX4_cutAtSide_127 : decode cX4_cutAtSide 127 = .ok (.lmul, 1) := by decide +kernel
theorem dX4_cutAtSide_128 : decode cX4_cutAtSide 128 = .ok (.lload 12, 2) := by decide +kernel
theorem dX4_cutAtSide_130 : decode cX4_cutAtSide 130 = .ok (.lload 18, 2) := by decide +kernel
theorem dX4_cutAtSide_132 : decode cX4_cutAtSide 132 = .ok (.lmul, 1) := by decide +kernel
theorem dX4_cutAtSide_133 : decode cX4_cutAtSide 133 = .ok (.invokestatic 96, 3) := by decide +kernel
theorem dX4_cutAtSide_136 : decode cX4_cutAtSide 136 = .ok (.ifCond .eq 17, 3) := by decide +kernel
theorem dX4_cutAtSide_139 : decode cX4_cutAtSide 139 = .ok (.aload_n 0, 1) := by decide +kernel
theorem dX4_cutAtSide_140 : decode cX4_cutAtSide 140 = .ok (.lload 14, 2) := by decide +kernel
theorem dX4_cutAtSide_142 : decode cX4_cutAtSide 142 = .ok (.lload 18, 2) := by decide +kernel
theorem dX4_cutAtSide_144 : decode cX4_cutAtSide 144 = .ok (.lmul, 1) := by decide +kernel
theorem dX4_cutAtSide_145 : decode cX4_cutAtSide 145 = .ok (.lload 12, 2) := by decide +kernel
theorem dX4_cutAtSide_147 : decode cX4_cutAtSide 147 = .ok (.lload 18, 2) := by decide +kernel
theorem dX4_cutAtSide_149 : decode cX4_cutAtSide 149 = .ok (.lmul, 1) := by decide +kernel
theorem dX4_cutAtSide_150 : decode cX4_cutAtSide 150 = .ok (.invokevirtual 71, 3) := by decide +kernel
theorem dX4_cutAtSide_153 : decode cX4_cutAtSide 153 = .ok (.return_, 1) := by decide +kernel
theorem dX4_isShare_0 : decode cX4_isShare 0 = .ok (.lload_n 2, 1) := by decide +kernel
theorem dX4_isShare_1 : decode cX4_isShare 1 = .ok (.lconst 0, 1) := by decide +kernel
theorem dX4_isShare_2 : decode cX4_isShare 2 = .ok (.lcmp, 1) := by decide +kernel
theorem dX4_isShare_3 : decode cX4_isShare 3 = .ok (.ifCond .le 19, 3) := by decide +kernel
theorem dX4_isShare_6 : decode cX4_isShare 6 = .ok (.lload_n 0, 1) := by decide +kernel
theorem dX4_isShare_7 : decode cX4_isShare 7 = .ok (.lconst 0, 1) := by decide +kernel
theorem dX4_isShare_8 : decode cX4_isShare 8 = .ok (.lcmp, 1) := by decide +kernel
theorem dX4_isShare_9 : decode cX4_isShare 9 = .ok (.ifCond .lt 13, 3) := by decide +kernel
theorem dX4_isShare_12 : decode cX4_isShare 12 = .ok (.lload_n 0, 1) := by decide +kernel
theorem dX4_isShare_13 : decode cX4_isShare 13 = .ok (.lload_n 2, 1) := by decide +kernel
theorem dX4_isShare_14 : decode cX4_isShare 14 = .ok (.lcmp, 1) := by decide +kernel
theorem dX4_isShare_15 : decode cX4_isShare 15 = .ok (.ifCond .gt 7, 3) := by decide +kernel
theorem dX4_isShare_18 : decode cX4_isShare 18 = .ok (.iconst 1, 1) := by decide +kernel
theorem dX4_isShare_19 : decode cX4_isShare 19 = .ok (.goto 4, 3) := by decide +kernel
theorem dX4_isShare_22 : decode cX4_isShare 22 = .ok (.iconst 0, 1) := by decide +kernel
theorem dX4_isShare_23 : decode cX4_isShare 23 = .ok (.ireturn, 1) := by decide +kernel
theorem dX4_addCut_0 : decode cX4_addCut 0 = .ok (.lload_n 1, 1) := by decide +kernel
theorem dX4_addCut_1 : decode cX4_addCut 1 = .ok (.lload_n 3, 1) := by decide +kernel
theorem dX4_addCut_2 : decode cX4_addCut 2 = .ok (.invokestatic 96, 3) := by decide +kernel
theorem dX4_addCut_5 : decode cX4_addCut 5 = .ok (.ifCond .eq 12, 3) := by decide +kernel
theorem dX4_addCut_8 : decode cX4_addCut 8 = .ok (.aload_n 0, 1) := by decide +kernel
theorem dX4_addCut_9 : decode cX4_addCut 9 = .ok (.getfield 20, 3) := by decide +kernel
theorem dX4_addCut_12 : decode cX4_addCut 12 = .ok (.bipush 50, 2) := by decide +kernel
theorem dX4_addCut_14 : decode cX4_addCut 14 = .ok (.if_icmp .lt 4, 3) := by decide +kernel
theorem dX4_addCut_17 : decode cX4_addCut 17 = .ok (.return_, 1) := by decide +kernel
theorem dX4_addCut_18 : decode cX4_addCut 18 = .ok (.aload_n 0, 1) := by decide +kernel
theorem dX4_addCut_19 : decode cX4_addCut 19 = .ok (.getfield 20, 3) := by decide +kernel
theorem dX4_addCut_22 : decode cX4_addCut 22 = .ok (.istore 5, 2) := by decide +kernel
theorem dX4_addCut_24 : decode cX4_addCut 24 = .ok (.aload_n 0, 1) := by decide +kernel
theorem dX4_addCut_25 : decode cX4_addCut 25 = .ok (.getfield 20, 3) := by decide +kernel
theorem dX4_addCut_28 : decode cX4_addCut 28 = .ok (.iconst 1, 1) := by decide +kernel
theorem dX4_addCut_29 : decode cX4_addCut 29 = .ok (.isub, 1) := by decide +kernel
theorem dX4_addCut_30 : decode cX4_addCut 30 = .ok (.istore 6, 2) := by decide +kernel
theorem dX4_addCut_32 : decode cX4_addCut 32 = .ok (.iload 6, 2) := by decide +kernel
theorem dX4_addCut_34 : decode cX4_addCut 34 = .ok (.ifCond .lt 35, 3) := by decide +kernel
theorem dX4_addCut_37 : decode cX4_addCut 37 = .ok (.lload_n 1, 1) := by decide +kernel
theorem dX4_addCut_38 : decode cX4_addCut 38 = .ok (.aload_n 0, 1) := by decide +kernel
theorem dX4_addCut_39 : decode cX4_addCut 39 = .ok (.getfield 17, 3) := by decide +kernel
theorem dX4_addCut_42 : decode cX4_addCut 42 = .ok (.iload 6, 2) := by decide +kernel
theorem dX4_addCut_44 : decode cX4_addCut 44 = .ok (.laload, 1) := by decide +kernel
theorem dX4_addCut_45 : decode cX4_addCut 45 = .ok (.lmul, 1) := by decide +kernel
theorem dX4_addCut_46 : decode cX4_addCut 46 = .ok (.aload_n 0, 1) := by decide +kernel
theorem dX4_addCut_47 : decode cX4_addCut 47 = .ok (.getfield 13, 3) := by decide +kernel
theorem dX4_addCut_50 : decode cX4_addCut 50 = .ok (.iload 6, 2) := by decide +kernel
theorem dX4_addCut_52 : decode cX4_addCut 52 = .ok (.laload, 1) := by decide +kernel
theorem dX4_addCut_53 : decode cX4_addCut 53 = .ok (.lload_n 3, 1) := by decide +kernel
theorem dX4_addCut_54 : decode cX4_addCut 54 = .ok (.lmul, 1) := by decide +kernel
theorem dX4_addCut_55 : decode cX4_addCut 55 = .ok (.lcmp, 1) := by decide +kernel
theorem dX4_addCut_56 : decode cX4_addCut 56 = .ok (.ifCond .gt 13, 3) := by decide +kernel
theorem dX4_addCut_59 : decode cX4_addCut 59 = .ok (.iload 6, 2) := by decide +kernel
theorem dX4_addCut_61 : decode cX4_addCut 61 = .ok (.istore 5, 2) := by decide +kernel
theorem dX4_addCut_63 : decode cX4_addCut 63 = .ok (.iinc 6 (-1), 3) := by decide +kernel
theorem dX4_addCut_66 : decode cX4_addCut 66 = .ok (.goto (-34), 3) := by decide +kernel
theorem dX4_addCut_69 : decode cX4_addCut 69 = .ok (.iload 5, 2) := by decide +kernel
theorem dX4_addCut_71 : decode cX4_addCut 71 = .ok (.aload_n 0, 1) := by decide +kernel
theorem dX4_addCut_72 : decode cX4_addCut 72 = .ok (.getfield 20, 3) := by decide +kernel
theorem dX4_addCut_75 : decode cX4_addCut 75 = .ok (.if_icmp .ge 26, 3) := by decide +kernel
theorem dX4_addCut_78 : decode cX4_addCut 78 = .ok (.lload_n 1, 1) := by decide +kernel
theorem dX4_addCut_79 : decode cX4_addCut 79 = .ok (.aload_n 0, 1) := by decide +kernel
theorem dX4_addCut_80 : decode cX4_addCut 80 = .ok (.getfield 17, 3) := by decide +kernel
theorem dX4_addCut_83 : decode cX4_addCut 83 = .ok (.iload 5, 2) := by decide +kernel
theorem dX4_addCut_85 : decode cX4_addCut 85 = .ok (.laload, 1) := by decide +kernel
theorem dX4_addCut_86 : decode cX4_addCut 86 = .ok (.lmul, 1) := by decide +kernel
theorem dX4_addCut_87 : decode cX4_addCut 87 = .ok (.aload_n 0, 1) := by decide +kernel
theorem dX4_addCut_88 : decode cX4_addCut 88 = .ok (.getfield 13, 3) := by decide +kernel
theorem dX4_addCut_91 : decode cX4_addCut 91 = .ok (.iload 5, 2) := by decide +kernel
theorem dX4_addCut_93 : decode cX4_addCut 93 = .ok (.laload, 1) := by decide +kernel
theorem dX4_addCut_94 : decode cX4_addCut 94 = .ok (.lload_n 3, 1) := by decide +kernel
theorem dX4_addCut_95 : decode cX4_addCut 95 = .ok (.lmul, 1) := by decide +kernel
theorem dX4_addCut_96 : decode cX4_addCut 96 = .ok (.lcmp, 1) := by decide +kernel
theorem dX4_addCut_97 : decode cX4_addCut 97 = .ok (.ifCond .ne 4, 3) := by decide +kernel
theorem dX4_addCut_100 : decode cX4_addCut 100 = .ok (.return_, 1) := by decide +kernel
theorem dX4_addCut_101 : decode cX4_addCut 101 = .ok (.aload_n 0, 1) := by decide +kernel
theorem dX4_addCut_102 : decode cX4_addCut 102 = .ok (.getfield 20, 3) := by decide +kernel
theorem dX4_addCut_105 : decode cX4_addCut 105 = .ok (.istore 6, 2) := by decide +kernel
theorem dX4_addCut_107 : decode cX4_addCut 107 = .ok (.iload 6, 2) := by decide +kernel
theorem dX4_addCut_109 : decode cX4_addCut 109 = .ok (.iload 5, 2) := by decide +kernel
theorem dX4_addCut_111 : decode cX4_addCut 111 = .ok (.if_icmp .le 41, 3) := by decide +kernel
theorem dX4_addCut_114 : decode cX4_addCut 114 = .ok (.aload_n 0, 1) := by decide +kernel
theorem dX4_addCut_115 : decode cX4_addCut 115 = .ok (.getfield 13, 3) := by decide +kernel
theorem dX4_addCut_118 : decode cX4_addCut 118 = .ok (.iload 6, 2) := by decide +kernel
theorem dX4_addCut_120 : decode cX4_addCut 120 = .ok (.aload_n 0, 1) := by decide +kernel
theorem dX4_addCut_121 : decode cX4_addCut 121 = .ok (.getfield 13, 3) := by decide +kernel
theorem dX4_addCut_124 : decode cX4_addCut 124 = .ok (.iload 6, 2) := by decide +kernel
theorem dX4_addCut_126 : decode cX4_addCut 126 = .ok (.iconst 1, 1) := by decide +kernel
theorem dX4_addCut_127 : decode cX4_addCut 127 = .ok (.isub, 1) := by decide +kernel
theorem dX4_addCut_128 : decode cX4_addCut 128 = .ok (.laload, 1) := by decide +kernel
theorem dX4_addCut_129 : decode cX4_addCut 129 = .ok (.lastore, 1) := by decide +kernel
theorem dX4_addCut_130 : decode cX4_addCut 130 = .ok (.aload_n 0, 1) := by decide +kernel
theorem dX4_addCut_131 : decode cX4_addCut 131 = .ok (.getfield 17, 3) := by decide +kernel
theorem dX4_addCut_134 : decode cX4_addCut 134 = .ok (.iload 6, 2) := by decide +kernel
theorem dX4_addCut_136 : decode cX4_addCut 136 = .ok (.aload_n 0, 1) := by decide +kernel
theorem dX4_addCut_137 : decode cX4_addCut 137 = .ok (.getfield 17, 3) := by decide +kernel
theorem dX4_addCut_140 : decode cX4_addCut 140 = .ok (.iload 6, 2) := by decide +kernel
theorem dX4_addCut_142 : decode cX4_addCut 142 = .ok (.iconst 1, 1) := by decide +kernel
theorem dX4_addCut_143 : decode cX4_addCut 143 = .ok (.isub, 1) := by decide +kernel
theorem dX4_addCut_144 : decode cX4_addCut 144 = .ok (.laload, 1) := by decide +kernel
theorem dX4_addCut_145 : decode cX4_addCut 145 = .ok (.lastore, 1) := by decide +kernel
theorem dX4_addCut_146 : decode cX4_addCut 146 = .ok (.iinc 6 (-1), 3) := by decide +kernel
theorem dX4_addCut_149 : decode cX4_addCut 149 = .ok (.goto (-42), 3) := by decide +kernel
theorem dX4_addCut_152 : decode cX4_addCut 152 = .ok (.lload_n 1, 1) := by decide +kernel
theorem dX4_addCut_153 : decode cX4_addCut 153 = .ok (.lload_n 3, 1) := by decide +kernel
theorem dX4_addCut_154 : decode cX4_addCut 154 = .ok (.invokestatic 100, 3) := by decide +kernel
theorem dX4_addCut_157 : decode cX4_addCut 157 = .ok (.lstore 6, 2) := by decide +kernel
theorem dX4_addCut_159 : decode cX4_addCut 159 = .ok (.aload_n 0, 1) := by decide +kernel
theorem dX4_addCut_160 : decode cX4_addCut 160 = .ok (.getfield 13, 3) := by decide +kernel
theorem dX4_addCut_163 : decode cX4_addCut 163 = .ok (.iload 5, 2) := by decide +kernel
theorem dX4_addCut_165 : decode cX4_addCut 165 = .ok (.lload 6, 2) := by decide +kernel
theorem dX4_addCut_167 : decode cX4_addCut 167 = .ok (.lconst 0, 1) := by decide +kernel
theorem dX4_addCut_168 : decode cX4_addCut 168 = .ok (.lcmp, 1) := by decide +kernel
theorem dX4_addCut_169 : decode cX4_addCut 169 = .ok (.ifCond .le 10, 3) := by decide +kernel
theorem dX4_addCut_172 : decode cX4_addCut 172 = .ok (.lload_n 1, 1) := by decide +kernel
theorem dX4_addCut_173 : decode cX4_addCut 173 = .ok (.lload 6, 2) := by decide +kernel
theorem dX4_addCut_175 : decode cX4_addCut 175 = .ok (.ldiv, 1) := by decide +kernel
theorem dX4_addCut_176 : decode cX4_addCut 176 = .ok (.goto 4, 3) := by decide +kernel
theorem dX4_addCut_179 : decode cX4_addCut 179 = .ok (.lload_n 1, 1) := by decide +kernel
theorem dX4_addCut_180 : decode cX4_addCut 180 = .ok (.lastore, 1) := by decide +kernel
theorem dX4_addCut_181 : decode cX4_addCut 181 = .ok (.aload_n 0, 1) := by decide +kernel
theorem dX4_addCut_182 : decode cX4_addCut 182 = .ok (.getfield 17, 3) := by decide +kernel
theorem dX4_addCut_185 : decode cX4_addCut 185 = .ok (.iload 5, 2) := by decide +kernel
theorem dX4_addCut_187 : decode cX4_addCut 187 = .ok (.lload 6, 2) := by decide +kernel
theorem dX4_addCut_189 : decode cX4_addCut 189 = .ok (.lconst 0, 1) := by decide +kernel
theorem dX4_addCut_190 : decode cX4_addCut 190 = .ok (.lcmp, 1) := by decide +kernel
theorem dX4_addCut_191 : decode cX4_addCut 191 = .ok (.ifCond .le 10, 3) := by decide +kernel
theorem dX4_addCut_194 : decode cX4_addCut 194 = .ok (.lload_n 3, 1) := by decide +kernel
theorem dX4_addCut_195 : decode cX4_addCut 195 = .ok (.lload 6, 2) := by decide +kernel
theorem dX4_addCut_197 : decode cX4_addCut 197 = .ok (.ldiv, 1) := by decide +kernel
theorem dX4_addCut_198 : decode cX4_addCut 198 = .ok (.goto 4, 3) := by decide +kernel
theorem dX4_addCut_201 : decode cX4_addCut 201 = .ok (.lload_n 3, 1) := by decide +kernel
theorem dX4_addCut_202 : decode cX4_addCut 202 = .ok (.lastore, 1) := by decide +kernel
theorem dX4_addCut_203 : decode cX4_addCut 203 = .ok (.aload_n 0, 1) := by decide +kernel
theorem dX4_addCut_204 : decode cX4_addCut 204 = .ok (.dup, 1) := by decide +kernel
theorem dX4_addCut_205 : decode cX4_addCut 205 = .ok (.getfield 20, 3) := by decide +kernel
theorem dX4_addCut_208 : decode cX4_addCut 208 = .ok (.iconst 1, 1) := by decide +kernel
theorem dX4_addCut_209 : decode cX4_addCut 209 = .ok (.iadd, 1) := by decide +kernel
theorem dX4_addCut_210 : decode cX4_addCut 210 = .ok (.putfield 20, 3) := by decide +kernel
theorem dX4_addCut_213 : decode cX4_addCut 213 = .ok (.return_, 1) := by decide +kernel
theorem dX4_greatestDivisor_0 : decode cX4_greatestDivisor 0 = .ok (.lload_n 2, 1) := by decide +kernel
theorem dX4_greatestDivisor_1 : decode cX4_greatestDivisor 1 = .ok (.lstore 4, 2) := by decide +kernel
theorem dX4_greatestDivisor_3 : decode cX4_greatestDivisor 3 = .ok (.lload_n 0, 1) := by decide +kernel
theorem dX4_greatestDivisor_4 : decode cX4_greatestDivisor 4 = .ok (.lstore 6, 2) := by decide +kernel
theorem dX4_greatestDivisor_6 : decode cX4_greatestDivisor 6 = .ok (.iconst 0, 1) := by decide +kernel
theorem dX4_greatestDivisor_7 : decode cX4_greatestDivisor 7 = .ok (.istore 8, 2) := by decide +kernel
theorem dX4_greatestDivisor_9 : decode cX4_greatestDivisor 9 = .ok (.iload 8, 2) := by decide +kernel
theorem dX4_greatestDivisor_11 : decode cX4_greatestDivisor 11 = .ok (.bipush 100, 2) := by decide +kernel
theorem dX4_greatestDivisor_13 : decode cX4_greatestDivisor 13 = .ok (.if_icmp .ge 31, 3) := by decide +kernel
theorem dX4_greatestDivisor_16 : decode cX4_greatestDivisor 16 = .ok (.lload 6, 2) := by decide +kernel
theorem dX4_greatestDivisor_18 : decode cX4_greatestDivisor 18 = .ok (.lconst 0, 1) := by decide +kernel
theorem dX4_greatestDivisor_19 : decode cX4_greatestDivisor 19 = .ok (.lcmp, 1) := by decide +kernel
theorem dX4_greatestDivisor_20 : decode cX4_greatestDivisor 20 = .ok (.ifCond .eq 24, 3) := by decide +kernel
theorem dX4_greatestDivisor_23 : decode cX4_greatestDivisor 23 = .ok (.lload 4, 2) := by decide +kernel
theorem dX4_greatestDivisor_25 : decode cX4_greatestDivisor 25 = .ok (.lload 6, 2) := by decide +kernel
theorem dX4_greatestDivisor_27 : decode cX4_greatestDivisor 27 = .ok (.lrem, 1) := by decide +kernel
theorem dX4_greatestDivisor_28 : decode cX4_greatestDivisor 28 = .ok (.lstore 9, 2) := by decide +kernel
theorem dX4_greatestDivisor_30 : decode cX4_greatestDivisor 30 = .ok (.lload 6, 2) := by decide +kernel
theorem dX4_greatestDivisor_32 : decode cX4_greatestDivisor 32 = .ok (.lstore 4, 2) := by decide +kernel
theorem dX4_greatestDivisor_34 : decode cX4_greatestDivisor 34 = .ok (.lload 9, 2) := by decide +kernel
theorem dX4_greatestDivisor_36 : decode cX4_greatestDivisor 36 = .ok (.lstore 6, 2) := by decide +kernel
theorem dX4_greatestDivisor_38 : decode cX4_greatestDivisor 38 = .ok (.iinc 8 1, 3) := by decide +kernel
theorem dX4_greatestDivisor_41 : decode cX4_greatestDivisor 41 = .ok (.goto (-32), 3) := by decide +kernel
theorem dX4_greatestDivisor_44 : decode cX4_greatestDivisor 44 = .ok (.lload 4, 2) := by decide +kernel
theorem dX4_greatestDivisor_46 : decode cX4_greatestDivisor 46 = .ok (.lreturn, 1) := by decide +kernel
theorem dX4_middleOver_0 : decode cX4_middleOver 0 = .ok (.aload_n 0, 1) := by decide +kernel
theorem dX4_middleOver_1 : decode cX4_middleOver 1 = .ok (.getfield 13, 3) := by decide +kernel
theorem dX4_middleOver_4 : decode cX4_middleOver 4 = .ok (.iload_n 1, 1) := by decide +kernel
theorem dX4_middleOver_5 : decode cX4_middleOver 5 = .ok (.laload, 1) := by decide +kernel
theorem dX4_middleOver_6 : decode cX4_middleOver 6 = .ok (.aload_n 0, 1) := by decide +kernel
theorem dX4_middleOver_7 : decode cX4_middleOver 7 = .ok (.getfield 17, 3) := by decide +kernel
theorem dX4_middleOver_10 : decode cX4_middleOver 10 = .ok (.iload_n 1, 1) := by decide +kernel
theorem dX4_middleOver_11 : decode cX4_middleOver 11 = .ok (.iconst 1, 1) := by decide +kernel
theorem dX4_middleOver_12 : decode cX4_middleOver 12 = .ok (.iadd, 1) := by decide +kernel
theorem dX4_middleOver_13 : decode cX4_middleOver 13 = .ok (.laload, 1) := by decide +kernel
theorem dX4_middleOver_14 : decode cX4_middleOver 14 = .ok (.lmul, 1) := by decide +kernel
theorem dX4_middleOver_15 : decode cX4_middleOver 15 = .ok (.aload_n 0, 1) := by decide +kernel
theorem dX4_middleOver_16 : decode cX4_middleOver 16 = .ok (.getfield 13, 3) := by decide +kernel
theorem dX4_middleOver_19 : decode cX4_middleOver 19 = .ok (.iload_n 1, 1) := by decide +kernel
theorem dX4_middleOver_20 : decode cX4_middleOver 20 = .ok (.iconst 1, 1) := by decide +kernel
theorem dX4_middleOver_21 : decode cX4_middleOver 21 = .ok (.iadd, 1) := by decide +kernel
theorem dX4_middleOver_22 : decode cX4_middleOver 22 = .ok (.laload, 1) := by decide +kernel
theorem dX4_middleOver_23 : decode cX4_middleOver 23 = .ok (.aload_n 0, 1) := by decide +kernel
theorem dX4_middleOver_24 : decode cX4_middleOver 24 = .ok (.getfield 17, 3) := by decide +kernel
theorem dX4_middleOver_27 : decode cX4_middleOver 27 = .ok (.iload_n 1, 1) := by decide +kernel
theorem dX4_middleOver_28 : decode cX4_middleOver 28 = .ok (.laload, 1) := by decide +kernel
theorem dX4_middleOver_29 : decode cX4_middleOver 29 = .ok (.lmul, 1) := by decide +kernel
theorem dX4_middleOver_30 : decode cX4_middleOver 30 = .ok (.ladd, 1) := by decide +kernel
theorem dX4_middleOver_31 : decode cX4_middleOver 31 = .ok (.lreturn, 1) := by decide +kernel
theorem dX4_middleUnder_0 : decode cX4_middleUnder 0 = .ok (.ldc2_w 104, 3) := by decide +kernel
theorem dX4_middleUnder_3 : decode cX4_middleUnder 3 = .ok (.aload_n 0, 1) := by decide +kernel
theorem dX4_middleUnder_4 : decode cX4_middleUnder 4 = .ok (.getfield 17, 3) := by decide +kernel
theorem dX4_middleUnder_7 : decode cX4_middleUnder 7 = .ok (.iload_n 1, 1) := by decide +kernel
theorem dX4_middleUnder_8 : decode cX4_middleUnder 8 = .ok (.laload, 1) := by decide +kernel
theorem dX4_middleUnder_9 : decode cX4_middleUnder 9 = .ok (.lmul, 1) := by decide +kernel
theorem dX4_middleUnder_10 : decode cX4_middleUnder 10 = .ok (.aload_n 0, 1) := by decide +kernel
theorem dX4_middleUnder_11 : decode cX4_middleUnder 11 = .ok (.getfield 17, 3) := by decide +kernel
theorem dX4_middleUnder_14 : decode cX4_middleUnder 14 = .ok (.iload_n 1, 1) := by decide +kernel
theorem dX4_middleUnder_15 : decode cX4_middleUnder 15 = .ok (.iconst 1, 1) := by decide +kernel
theorem dX4_middleUnder_16 : decode cX4_middleUnder 16 = .ok (.iadd, 1) := by decide +kernel
theorem dX4_middleUnder_17 : decode cX4_middleUnder 17 = .ok (.laload, 1) := by decide +kernel
theorem dX4_middleUnder_18 : decode cX4_middleUnder 18 = .ok (.lmul, 1) := by decide +kernel
theorem dX4_middleUnder_19 : decode cX4_middleUnder 19 = .ok (.lreturn, 1) := by decide +kernel
theorem dX4_isIn_0 : decode cX4_isIn 0 = .ok (.aload_n 1, 1) := by decide +kernel
theorem dX4_isIn_1 : decode cX4_isIn 1 = .ok (.aload_n 0, 1) := by decide +kernel
theorem dX4_isIn_2 : decode cX4_isIn 2 = .ok (.getfield 34, 3) := by decide +kernel
theorem dX4_isIn_5 : decode cX4_isIn 5 = .ok (.lload 4, 2) := by decide +kernel
theorem dX4_isIn_7 : decode cX4_isIn 7 = .ok (.lmul, 1) := by decide +kernel
theorem dX4_isIn_8 : decode cX4_isIn 8 = .ok (.aload_n 0, 1) := by decide +kernel
theorem dX4_isIn_9 : decode cX4_isIn 9 = .ok (.getfield 41, 3) := by decide +kernel
theorem dX4_isIn_12 : decode cX4_isIn 12 = .ok (.lload_n 2, 1) := by decide +kernel
theorem dX4_isIn_13 : decode cX4_isIn 13 = .ok (.lmul, 1) := by decide +kernel
theorem dX4_isIn_14 : decode cX4_isIn 14 = .ok (.ladd, 1) := by decide +kernel
theorem dX4_isIn_15 : decode cX4_isIn 15 = .ok (.aload_n 0, 1) := by decide +kernel
theorem dX4_isIn_16 : decode cX4_isIn 16 = .ok (.getfield 38, 3) := by decide +kernel
theorem dX4_isIn_19 : decode cX4_isIn 19 = .ok (.lload 4, 2) := by decide +kernel
theorem dX4_isIn_21 : decode cX4_isIn 21 = .ok (.lmul, 1) := by decide +kernel
theorem dX4_isIn_22 : decode cX4_isIn 22 = .ok (.aload_n 0, 1) := by decide +kernel
theorem dX4_isIn_23 : decode cX4_isIn 23 = .ok (.getfield 44, 3) := by decide +kernel
theorem dX4_isIn_26 : decode cX4_isIn 26 = .ok (.lload_n 2, 1) := by decide +kernel
theorem dX4_isIn_27 : decode cX4_isIn 27 = .ok (.lmul, 1) := by decide +kernel
theorem dX4_isIn_28 : decode cX4_isIn 28 = .ok (.ladd, 1) := by decide +kernel
theorem dX4_isIn_29 : decode cX4_isIn 29 = .ok (.lload 4, 2) := by decide +kernel
theorem dX4_isIn_31 : decode cX4_isIn 31 = .ok (.invokevirtual 106, 3) := by decide +kernel
theorem dX4_isIn_34 : decode cX4_isIn 34 = .ok (.ireturn, 1) := by decide +kernel
theorem dX4_size_0 : decode cX4_size 0 = .ok (.aload_n 0, 1) := by decide +kernel
theorem dX4_size_1 : decode cX4_size 1 = .ok (.getfield 31, 3) := by decide +kernel
theorem dX4_size_4 : decode cX4_size 4 = .ok (.ireturn, 1) := by decide +kernel
theorem dX4_beginOf_0 : decode cX4_beginOf 0 = .ok (.iload_n 1, 1) := by decide +kernel
theorem dX4_beginOf_1 : decode cX4_beginOf 1 = .ok (.ifCond .lt 20, 3) := by decide +kernel
theorem dX4_beginOf_4 : decode cX4_beginOf 4 = .ok (.iload_n 1, 1) := by decide +kernel
theorem dX4_beginOf_5 : decode cX4_beginOf 5 = .ok (.aload_n 0, 1) := by decide +kernel
theorem dX4_beginOf_6 : decode cX4_beginOf 6 = .ok (.getfield 31, 3) := by decide +kernel
theorem dX4_beginOf_9 : decode cX4_beginOf 9 = .ok (.if_icmp .ge 12, 3) := by decide +kernel
theorem dX4_beginOf_12 : decode cX4_beginOf 12 = .ok (.aload_n 0, 1) := by decide +kernel
theorem dX4_beginOf_13 : decode cX4_beginOf 13 = .ok (.getfield 24, 3) := by decide +kernel
theorem dX4_beginOf_16 : decode cX4_beginOf 16 = .ok (.iload_n 1, 1) := by decide +kernel
theorem dX4_beginOf_17 : decode cX4_beginOf 17 = .ok (.iaload, 1) := by decide +kernel
theorem dX4_beginOf_18 : decode cX4_beginOf 18 = .ok (.goto 4, 3) := by decide +kernel
theorem dX4_beginOf_21 : decode cX4_beginOf 21 = .ok (.iconst 0, 1) := by decide +kernel
theorem dX4_beginOf_22 : decode cX4_beginOf 22 = .ok (.ireturn, 1) := by decide +kernel
theorem dX4_endOf_0 : decode cX4_endOf 0 = .ok (.iload_n 1, 1) := by decide +kernel
theorem dX4_endOf_1 : decode cX4_endOf 1 = .ok (.ifCond .lt 20, 3) := by decide +kernel
theorem dX4_endOf_4 : decode cX4_endOf 4 = .ok (.iload_n 1, 1) := by decide +kernel
theorem dX4_endOf_5 : decode cX4_endOf 5 = .ok (.aload_n 0, 1) := by decide +kernel
theorem dX4_endOf_6 : decode cX4_endOf 6 = .ok (.getfield 31, 3) := by decide +kernel
theorem dX4_endOf_9 : decode cX4_endOf 9 = .ok (.if_icmp .ge 12, 3) := by decide +kernel
theorem dX4_endOf_12 : decode cX4_endOf 12 = .ok (.aload_n 0, 1) := by decide +kernel
theorem dX4_endOf_13 : decode cX4_endOf 13 = .ok (.getfield 28, 3) := by decide +kernel
theorem dX4_endOf_16 : decode cX4_endOf 16 = .ok (.iload_n 1, 1) := by decide +kernel
theorem dX4_endOf_17 : decode cX4_endOf 17 = .ok (.iaload, 1) := by decide +kernel
theorem dX4_endOf_18 : decode cX4_endOf 18 = .ok (.goto 4, 3) := by decide +kernel
theorem dX4_endOf_21 : decode cX4_endOf 21 = .ok (.iconst 0, 1) := by decide +kernel
theorem dX4_endOf_22 : decode cX4_endOf 22 = .ok (.ireturn, 1) := by decide +kernel
theorem dX4_isPieceBegin_0 : decode cX4_isPieceBegin 0 = .ok (.iload_n 1, 1) := by decide +kernel
theorem dX4_isPieceBegin_1 : decode cX4_isPieceBegin 1 = .ok (.ifCond .ne 7, 3) := by decide +kernel
theorem dX4_isPieceBegin_4 : decode cX4_isPieceBegin 4 = .ok (.iconst 1, 1) := by decide +kernel
theorem dX4_isPieceBegin_5 : decode cX4_isPieceBegin 5 = .ok (.goto 4, 3) := by decide +kernel
theorem dX4_isPieceBegin_8 : decode cX4_isPieceBegin 8 = .ok (.iconst 0, 1) := by decide +kernel
theorem dX4_isPieceBegin_9 : decode cX4_isPieceBegin 9 = .ok (.ireturn, 1) := by decide +kernel
theorem dX4_isPieceEnd_0 : decode cX4_isPieceEnd 0 = .ok (.iload_n 1, 1) := by decide +kernel
theorem dX4_isPieceEnd_1 : decode cX4_isPieceEnd 1 = .ok (.aload_n 0, 1) := by decide +kernel
theorem dX4_isPieceEnd_2 : decode cX4_isPieceEnd 2 = .ok (.getfield 20, 3) := by decide +kernel
theorem dX4_isPieceEnd_5 : decode cX4_isPieceEnd 5 = .ok (.iconst 1, 1) := by decide +kernel
theorem dX4_isPieceEnd_6 : decode cX4_isPieceEnd 6 = .ok (.isub, 1) := by decide +kernel
theorem dX4_isPieceEnd_7 : decode cX4_isPieceEnd 7 = .ok (.if_icmp .ne 7, 3) := by decide +kernel
theorem dX4_isPieceEnd_10 : decode cX4_isPieceEnd 10 = .ok (.iconst 1, 1) := by decide +kernel
theorem dX4_isPieceEnd_11 : decode cX4_isPieceEnd 11 = .ok (.goto 4, 3) := by decide +kernel
theorem dX4_isPieceEnd_14 : decode cX4_isPieceEnd 14 = .ok (.iconst 0, 1) := by decide +kernel
theorem dX4_isPieceEnd_15 : decode cX4_isPieceEnd 15 = .ok (.ireturn, 1) := by decide +kernel
theorem dX4_overOf_0 : decode cX4_overOf 0 = .ok (.iload_n 1, 1) := by decide +kernel
theorem dX4_overOf_1 : decode cX4_overOf 1 = .ok (.ifCond .lt 20, 3) := by decide +kernel
theorem dX4_overOf_4 : decode cX4_overOf 4 = .ok (.iload_n 1, 1) := by decide +kernel
theorem dX4_overOf_5 : decode cX4_overOf 5 = .ok (.aload_n 0, 1) := by decide +kernel
theorem dX4_overOf_6 : decode cX4_overOf 6 = .ok (.getfield 20, 3) := by decide +kernel
theorem dX4_overOf_9 : decode cX4_overOf 9 = .ok (.if_icmp .ge 12, 3) := by decide +kernel
theorem dX4_overOf_12 : decode cX4_overOf 12 = .ok (.aload_n 0, 1) := by decide +kernel
theorem dX4_overOf_13 : decode cX4_overOf 13 = .ok (.getfield 13, 3) := by decide +kernel
theorem dX4_overOf_16 : decode cX4_overOf 16 = .ok (.iload_n 1, 1) := by decide +kernel
theorem dX4_overOf_17 : decode cX4_overOf 17 = .ok (.laload, 1) := by decide +kernel
theorem dX4_overOf_18 : decode cX4_overOf 18 = .ok (.goto 4, 3) := by decide +kernel
theorem dX4_overOf_21 : decode cX4_overOf 21 = .ok (.lconst 0, 1) := by decide +kernel
theorem dX4_overOf_22 : decode cX4_overOf 22 = .ok (.lreturn, 1) := by decide +kernel
theorem dX4_underOf_0 : decode cX4_underOf 0 = .ok (.iload_n 1, 1) := by decide +kernel
theorem dX4_underOf_1 : decode cX4_underOf 1 = .ok (.ifCond .lt 20, 3) := by decide +kernel
theorem dX4_underOf_4 : decode cX4_underOf 4 = .ok (.iload_n 1, 1) := by decide +kernel
theorem dX4_underOf_5 : decode cX4_underOf 5 = .ok (.aload_n 0, 1) := by decide +kernel
theorem dX4_underOf_6 : decode cX4_underOf 6 = .ok (.getfield 20, 3) := by decide +kernel
theorem dX4_underOf_9 : decode cX4_underOf 9 = .ok (.if_icmp .ge 12, 3) := by decide +kernel
theorem dX4_underOf_12 : decode cX4_underOf 12 = .ok (.aload_n 0, 1) := by decide +kernel
theorem dX4_underOf_13 : decode cX4_underOf 13 = .ok (.getfield 17, 3) := by decide +kernel
theorem dX4_underOf_16 : decode cX4_underOf 16 = .ok (.iload_n 1, 1) := by decide +kernel
theorem dX4_underOf_17 : decode cX4_underOf 17 = .ok (.laload, 1) := by decide +kernel
theorem dX4_underOf_18 : decode cX4_underOf 18 = .ok (.goto 4, 3) := by decide +kernel
theorem dX4_underOf_21 : decode cX4_underOf 21 = .ok (.lconst 1, 1) := by decide +kernel
theorem dX4_underOf_22 : decode cX4_underOf 22 = .ok (.lreturn, 1) := by decide +kernel
theorem dX4_shareOf_0 : decode cX4_shareOf 0 = .ok (.aload_n 0, 1) := by decide +kernel
theorem dX4_shareOf_1 : decode cX4_shareOf 1 = .ok (.iload_n 1, 1) := by decide +kernel
theorem dX4_shareOf_2 : decode cX4_shareOf 2 = .ok (.invokevirtual 110, 3) := by decide +kernel
theorem dX4_shareOf_5 : decode cX4_shareOf 5 = .ok (.istore 4, 2) := by decide +kernel
theorem dX4_shareOf_7 : decode cX4_shareOf 7 = .ok (.aload_n 0, 1) := by decide +kernel
theorem dX4_shareOf_8 : decode cX4_shareOf 8 = .ok (.iload_n 1, 1) := by decide +kernel
theorem dX4_shareOf_9 : decode cX4_shareOf 9 = .ok (.invokevirtual 113, 3) := by decide +kernel
theorem dX4_shareOf_12 : decode cX4_shareOf 12 = .ok (.istore 5, 2) := by decide +kernel
theorem dX4_shareOf_14 : decode cX4_shareOf 14 = .ok (.aload_n 0, 1) := by decide +kernel
theorem dX4_shareOf_15 : decode cX4_shareOf 15 = .ok (.iload 4, 2) := by decide +kernel
theorem dX4_shareOf_17 : decode cX4_shareOf 17 = .ok (.invokevirtual 116, 3) := by decide +kernel
theorem dX4_shareOf_20 : decode cX4_shareOf 20 = .ok (.aload_n 0, 1) := by decide +kernel
theorem dX4_shareOf_21 : decode cX4_shareOf 21 = .ok (.iload 5, 2) := by decide +kernel
theorem dX4_shareOf_23 : decode cX4_shareOf 23 = .ok (.invokevirtual 116, 3) := by decide +kernel
theorem dX4_shareOf_26 : decode cX4_shareOf 26 = .ok (.lmul, 1) := by decide +kernel
theorem dX4_shareOf_27 : decode cX4_shareOf 27 = .ok (.lstore 6, 2) := by decide +kernel
theorem dX4_shareOf_29 : decode cX4_shareOf 29 = .ok (.aload_n 0, 1) := by decide +kernel
theorem dX4_shareOf_30 : decode cX4_shareOf 30 = .ok (.iload 5, 2) := by decide +kernel
theorem dX4_shareOf_32 : decode cX4_shareOf 32 = .ok (.invokevirtual 119, 3) := by decide +kernel
theorem dX4_shareOf_35 : decode cX4_shareOf 35 = .ok (.aload_n 0, 1) := by decide +kernel
theorem dX4_shareOf_36 : decode cX4_shareOf 36 = .ok (.iload 4, 2) := by decide +kernel
theorem dX4_shareOf_38 : decode cX4_shareOf 38 = .ok (.invokevirtual 116, 3) := by decide +kernel
theorem dX4_shareOf_41 : decode cX4_shareOf 41 = .ok (.lmul, 1) := by decide +kernel
theorem dX4_shareOf_42 : decode cX4_shareOf 42 = .ok (.aload_n 0, 1) := by decide +kernel
theorem dX4_shareOf_43 : decode cX4_shareOf 43 = .ok (.iload 4, 2) := by decide +kernel
theorem dX4_shareOf_45 : decode cX4_shareOf 45 = .ok (.invokevirtual 119, 3) := by decide +kernel
theorem dX4_shareOf_48 : decode cX4_shareOf 48 = .ok (.aload_n 0, 1) := by decide +kernel
theorem dX4_shareOf_49 : decode cX4_shareOf 49 = .ok (.iload 5, 2) := by decide +kernel
theorem dX4_shareOf_51 : decode cX4_shareOf 51 = .ok (.invokevirtual 116, 3) := by decide +kernel
theorem dX4_shareOf_54 : decode cX4_shareOf 54 = .ok (.lmul, 1) := by decide +kernel
theorem dX4_shareOf_55 : decode cX4_shareOf 55 = .ok (.lsub, 1) := by decide +kernel
theorem dX4_shareOf_56 : decode cX4_shareOf 56 = .ok (.lstore 8, 2) := by decide +kernel
theorem dX4_shareOf_58 : decode cX4_shareOf 58 = .ok (.lload 6, 2) := by decide +kernel
theorem dX4_shareOf_60 : decode cX4_shareOf 60 = .ok (.lconst 0, 1) := by decide +kernel
theorem dX4_shareOf_61 : decode cX4_shareOf 61 = .ok (.lcmp, 1) := by decide +kernel
theorem dX4_shareOf_62 : decode cX4_shareOf 62 = .ok (.ifCond .le 13, 3) := by decide +kernel
theorem dX4_shareOf_65 : decode cX4_shareOf 65 = .ok (.lload 8, 2) := by decide +kernel
theorem dX4_shareOf_67 : decode cX4_shareOf 67 = .ok (.lload_n 2, 1) := by decide +kernel
theorem dX4_shareOf_68 : decode cX4_shareOf 68 = .ok (.lmul, 1) := by decide +kernel
theorem dX4_shareOf_69 : decode cX4_shareOf 69 = .ok (.lload 6, 2) := by decide +kernel
theorem dX4_shareOf_71 : decode cX4_shareOf 71 = .ok (.ldiv, 1) := by decide +kernel
theorem dX4_shareOf_72 : decode cX4_shareOf 72 = .ok (.goto 4, 3) := by decide +kernel
theorem dX4_shareOf_75 : decode cX4_shareOf 75 = .ok (.lconst 0, 1) := by decide +kernel
theorem dX4_shareOf_76 : decode cX4_shareOf 76 = .ok (.lreturn, 1) := by decide +kernel
theorem dX5_init_0 : decode cX5_init 0 = .ok (.aload_n 0, 1) := by decide +kernel
theorem dX5_init_1 : decode cX5_init 1 = .ok (.invokespecial 1, 3) := by decide +kernel
theorem dX5_init_4 : decode cX5_init 4 = .ok (.aload_n 0, 1) := by decide +kernel
theorem dX5_init_5 : decode cX5_init 5 = .ok (.bipush 30, 2) := by decide +kernel
theorem dX5_init_7 : decode cX5_init 7 = .ok (.newarray .long, 2) := by decide +kernel
theorem dX5_init_9 : decode cX5_init 9 = .ok (.putfield 9, 3) := by decide +kernel
theorem dX5_init_12 : decode cX5_init 12 = .ok (.aload_n 0, 1) := by decide +kernel
theorem dX5_init_13 : decode cX5_init 13 = .ok (.bipush 30, 2) := by decide +kernel
theorem dX5_init_15 : decode cX5_init 15 = .ok (.newarray .int, 2) := by decide +kernel
theorem dX5_init_17 : decode cX5_init 17 = .ok (.putfield 13, 3) := by decide +kernel
theorem dX5_init_20 : decode cX5_init 20 = .ok (.aload_n 0, 1) := by decide +kernel
theorem dX5_init_21 : decode cX5_init 21 = .ok (.bipush 30, 2) := by decide +kernel
theorem dX5_init_23 : decode cX5_init 23 = .ok (.newarray .int, 2) := by decide +kernel
theorem dX5_init_25 : decode cX5_init 25 = .ok (.putfield 17, 3) := by decide +kernel
theorem dX5_init_28 : decode cX5_init 28 = .ok (.aload_n 0, 1) := by decide +kernel
theorem dX5_init_29 : decode cX5_init 29 = .ok (.iconst 0, 1) := by decide +kernel
theorem dX5_init_30 : decode cX5_init 30 = .ok (.putfield 20, 3) := by decide +kernel
theorem dX5_init_33 : decode cX5_init 33 = .ok (.return_, 1) := by decide +kernel
theorem dX5_add_0 : decode cX5_add 0 = .ok (.aload_n 0, 1) := by decide +kernel
theorem dX5_add_1 : decode cX5_add 1 = .ok (.getfield 20, 3) := by decide +kernel
theorem dX5_add_4 : decode cX5_add 4 = .ok (.bipush 30, 2) := by decide +kernel
theorem dX5_add_6 : decode cX5_add 6 = .ok (.if_icmp .ge 17, 3) := by decide +kernel
theorem dX5_add_9 : decode cX5_add 9 = .ok (.lload_n 1, 1) := by decide +kernel
theorem dX5_add_10 : decode cX5_add 10 = .ok (.lconst 0, 1) := by decide +kernel
theorem dX5_add_11 : decode cX5_add 11 = .ok (.lcmp, 1) := by decide +kernel
theorem dX5_add_12 : decode cX5_add 12 = .ok (.ifCond .lt 11, 3) := by decide +kernel
theorem dX5_add_15 : decode cX5_add 15 = .ok (.lload_n 1, 1) := by decide +kernel
theorem dX5_add_16 : decode cX5_add 16 = .ok (.ldc2_w 24, 3) := by decide +kernel
theorem dX5_add_19 : decode cX5_add 19 = .ok (.lcmp, 1) := by decide +kernel
theorem dX5_add_20 : decode cX5_add 20 = .ok (.ifCond .le 5, 3) := by decide +kernel
theorem dX5_add_23 : decode cX5_add 23 = .ok (.iconst 0, 1) := by decide +kernel
theorem dX5_add_24 : decode cX5_add 24 = .ok (.ireturn, 1) := by decide +kernel
theorem dX5_add_25 : decode cX5_add 25 = .ok (.aload_n 0, 1) := by decide +kernel
theorem dX5_add_26 : decode cX5_add 26 = .ok (.getfield 20, 3) := by decide +kernel
theorem dX5_add_29 : decode cX5_add 29 = .ok (.ifCond .le 21, 3) := by decide +kernel
theorem dX5_add_32 : decode cX5_add 32 = .ok (.lload_n 1, 1) := by decide +kernel
theorem dX5_add_33 : decode cX5_add 33 = .ok (.aload_n 0, 1) := by decide +kernel
theorem dX5_add_34 : decode cX5_add 34 = .ok (.getfield 9, 3) := by decide +kernel
theorem dX5_add_37 : decode cX5_add 37 = .ok (.aload_n 0, 1) := by decide +kernel
theorem dX5_add_38 : decode cX5_add 38 = .ok (.getfield 20, 3) := by decide +kernel
theorem dX5_add_41 : decode cX5_add 41 = .ok (.iconst 1, 1) := by decide +kernel
theorem dX5_add_42 : decode cX5_add 42 = .ok (.isub, 1) := by decide +kernel
theorem dX5_add_43 : decode cX5_add 43 = .ok (.laload, 1) := by decide +kernel
theorem dX5_add_44 : decode cX5_add 44 = .ok (.lcmp, 1) := by decide +kernel
theorem dX5_add_45 : decode cX5_add 45 = .ok (.ifCond .gt 5, 3) := by decide +kernel
theorem dX5_add_48 : decode cX5_add 48 = .ok (.iconst 0, 1) := by decide +kernel
theorem dX5_add_49 : decode cX5_add 49 = .ok (.ireturn, 1) := by decide +kernel
theorem dX5_add_50 : decode cX5_add 50 = .ok (.aload_n 0, 1) := by decide +kernel
theorem dX5_add_51 : decode cX5_add 51 = .ok (.getfield 9, 3) := by decide +kernel
theorem dX5_add_54 : decode cX5_add 54 = .ok (.aload_n 0, 1) := by decide +kernel
theorem dX5_add_55 : decode cX5_add 55 = .ok (.getfield 20, 3) := by decide +kernel
theorem dX5_add_58 : decode cX5_add 58 = .ok (.lload_n 1, 1) := by decide +kernel
theorem dX5_add_59 : decode cX5_add 59 = .ok (.lastore, 1) := by decide +kernel
theorem dX5_add_60 : decode cX5_add 60 = .ok (.aload_n 0, 1) := by decide +kernel
theorem dX5_add_61 : decode cX5_add 61 = .ok (.getfield 13, 3) := by decide +kernel
theorem dX5_add_64 : decode cX5_add 64 = .ok (.aload_n 0, 1) := by decide +kernel
theorem dX5_add_65 : decode cX5_add 65 = .ok (.getfield 20, 3) := by decide +kernel
theorem dX5_add_68 : decode cX5_add 68 = .ok (.iload_n 3, 1) := by decide +kernel
theorem dX5_add_69 : decode cX5_add 69 = .ok (.iastore, 1) := by decide +kernel
theorem dX5_add_70 : decode cX5_add 70 = .ok (.aload_n 0, 1) := by decide +kernel
theorem dX5_add_71 : decode cX5_add 71 = .ok (.getfield 17, 3) := by decide +kernel
theorem dX5_add_74 : decode cX5_add 74 = .ok (.aload_n 0, 1) := by decide +kernel
theorem dX5_add_75 : decode cX5_add 75 = .ok (.getfield 20, 3) := by decide +kernel
theorem dX5_add_78 : decode cX5_add 78 = .ok (.iload 4, 2) := by decide +kernel
theorem dX5_add_80 : decode cX5_add 80 = .ok (.iastore, 1) := by decide +kernel
theorem dX5_add_81 : decode cX5_add 81 = .ok (.aload_n 0, 1) := by decide +kernel
theorem dX5_add_82 : decode cX5_add 82 = .ok (.dup, 1) := by decide +kernel
theorem dX5_add_83 : decode cX5_add 83 = .ok (.getfield 20, 3) := by decide +kernel
theorem dX5_add_86 : decode cX5_add 86 = .ok (.iconst 1, 1) := by decide +kernel
theorem dX5_add_87 : decode cX5_add 87 = .ok (.iadd, 1) := by decide +kernel
theorem dX5_add_88 : decode cX5_add 88 = .ok (.putfield 20, 3) := by decide +kernel
theorem dX5_add_91 : decode cX5_add 91 = .ok (.iconst 1, 1) := by decide +kernel
theorem dX5_add_92 : decode cX5_add 92 = .ok (.ireturn, 1) := by decide +kernel
theorem dX5_places_0 : decode cX5_places 0 = .ok (.aload_n 0, 1) := by decide +kernel
theorem dX5_places_1 : decode cX5_places 1 = .ok (.getfield 20, 3) := by decide +kernel
theorem dX5_places_4 : decode cX5_places 4 = .ok (.ireturn, 1) := by decide +kernel
theorem dX5_pieces_0 : decode cX5_pieces 0 = .ok (.iconst 0, 1) := by decide +kernel
theorem dX5_pieces_1 : decode cX5_pieces 1 = .ok (.aload_n 0, 1) := by decide +kernel
theorem dX5_pieces_2 : decode cX5_pieces 2 = .ok (.getfield 20, 3) := by decide +kernel
theorem dX5_pieces_5 : decode cX5_pieces 5 = .ok (.iconst 1, 1) := by decide +kernel
theorem dX5_pieces_6 : decode cX5_pieces 6 = .ok (.isub, 1) := by decide +kernel
theorem dX5_pieces_7 : decode cX5_pieces 7 = .ok (.invokestatic 26, 3) := by decide +kernel
theorem dX5_pieces_10 : decode cX5_pieces 10 = .ok (.ireturn, 1) := by decide +kernel
theorem dX5_hasPiece_0 : decode cX5_hasPiece 0 = .ok (.iload_n 1, 1) := by decide +kernel
theorem dX5_hasPiece_1 : decode cX5_hasPiece 1 = .ok (.ifCond .lt 17, 3) := by decide +kernel
theorem dX5_hasPiece_4 : decode cX5_hasPiece 4 = .ok (.iload_n 1, 1) := by decide +kernel
theorem dX5_hasPiece_5 : decode cX5_hasPiece 5 = .ok (.aload_n 0, 1) := by decide +kernel
theorem dX5_hasPiece_6 : decode cX5_hasPiece 6 = .ok (.getfield 20, 3) := by decide +kernel
theorem dX5_hasPiece_9 : decode cX5_hasPiece 9 = .ok (.iconst 1, 1) := by decide +kernel
theorem dX5_hasPiece_10 : decode cX5_hasPiece 10 = .ok (.isub, 1) := by decide +kernel
theorem dX5_hasPiece_11 : decode cX5_hasPiece 11 = .ok (.if_icmp .ge 7, 3) := by decide +kernel
theorem dX5_hasPiece_14 : decode cX5_hasPiece 14 = .ok (.iconst 1, 1) := by decide +kernel
theorem dX5_hasPiece_15 : decode cX5_hasPiece 15 = .ok (.goto 4, 3) := by decide +kernel
theorem dX5_hasPiece_18 : decode cX5_hasPiece 18 = .ok (.iconst 0, 1) := by decide +kernel
theorem dX5_hasPiece_19 : decode cX5_hasPiece 19 = .ok (.ireturn, 1) := by decide +kernel
theorem dX5_xOf_0 : decode cX5_xOf 0 = .ok (.iload_n 1, 1) := by decide +kernel
theorem dX5_xOf_1 : decode cX5_xOf 1 = .ok (.ifCond .lt 20, 3) := by decide +kernel
theorem dX5_xOf_4 : decode cX5_xOf 4 = .ok (.iload_n 1, 1) := by decide +kernel
theorem dX5_xOf_5 : decode cX5_xOf 5 = .ok (.aload_n 0, 1) := by decide +kernel
theorem dX5_xOf_6 : decode cX5_xOf 6 = .ok (.getfield 20, 3) := by decide +kernel
theorem dX5_xOf_9 : decode cX5_xOf 9 = .ok (.if_icmp .ge 12, 3) := by decide +kernel
theorem dX5_xOf_12 : decode cX5_xOf 12 = .ok (.aload_n 0, 1) := by decide +kernel
theorem dX5_xOf_13 : decode cX5_xOf 13 = .ok (.getfield 13, 3) := by decide +kernel
theorem dX5_xOf_16 : decode cX5_xOf 16 = .ok (.iload_n 1, 1) := by decide +kernel
theorem dX5_xOf_17 : decode cX5_xOf 17 = .ok (.iaload, 1) := by decide +kernel
theorem dX5_xOf_18 : decode cX5_xOf 18 = .ok (.goto 4, 3) := by decide +kernel
theorem dX5_xOf_21 : decode cX5_xOf 21 = .ok (.iconst 0, 1) := by decide +kernel
theorem dX5_xOf_22 : decode cX5_xOf 22 = .ok (.ireturn, 1) := by decide +kernel
theorem dX5_yOf_0 : decode cX5_yOf 0 = .ok (.iload_n 1, 1) := by decide +kernel
theorem dX5_yOf_1 : decode cX5_yOf 1 = .ok (.ifCond .lt 20, 3) := by decide +kernel
theorem dX5_yOf_4 : decode cX5_yOf 4 = .ok (.iload_n 1, 1) := by decide +kernel
theorem dX5_yOf_5 : decode cX5_yOf 5 = .ok (.aload_n 0, 1) := by decide +kernel
theorem dX5_yOf_6 : decode cX5_yOf 6 = .ok (.getfield 20, 3) := by decide +kernel
theorem dX5_yOf_9 : decode cX5_yOf 9 = .ok (.if_icmp .ge 12, 3) := by decide +kernel
theorem dX5_yOf_12 : decode cX5_yOf 12 = .ok (.aload_n 0, 1) := by decide +kernel
theorem dX5_yOf_13 : decode cX5_yOf 13 = .ok (.getfield 17, 3) := by decide +kernel
theorem dX5_yOf_16 : decode cX5_yOf 16 = .ok (.iload_n 1, 1) := by decide +kernel
theorem dX5_yOf_17 : decode cX5_yOf 17 = .ok (.iaload, 1) := by decide +kernel
theorem dX5_yOf_18 : decode cX5_yOf 18 = .ok (.goto 4, 3) := by decide +kernel
theorem dX5_yOf_21 : decode cX5_yOf 21 = .ok (.iconst 0, 1) := by decide +kernel
theorem dX5_yOf_22 : decode cX5_yOf 22 = .ok (.ireturn, 1) := by decide +kernel
theorem dX5_secondsOf_0 : decode cX5_secondsOf 0 = .ok (.aload_n 0, 1) := by decide +kernel
theorem dX5_secondsOf_1 : decode cX5_secondsOf 1 = .ok (.iload_n 1, 1) := by decide +kernel
theorem dX5_secondsOf_2 : decode cX5_secondsOf 2 = .ok (.invokevirtual 32, 3) := by decide +kernel
theorem dX5_secondsOf_5 : decode cX5_secondsOf 5 = .ok (.ifCond .eq 21, 3) := by decide +kernel
theorem dX5_secondsOf_8 : decode cX5_secondsOf 8 = .ok (.aload_n 0, 1) := by decide +kernel
theorem dX5_secondsOf_9 : decode cX5_secondsOf 9 = .ok (.getfield 9, 3) := by decide +kernel
theorem dX5_secondsOf_12 : decode cX5_secondsOf 12 = .ok (.iload_n 1, 1) := by decide +kernel
theorem dX5_secondsOf_13 : decode cX5_secondsOf 13 = .ok (.iconst 1, 1) := by decide +kernel
theorem dX5_secondsOf_14 : decode cX5_secondsOf 14 = .ok (.iadd, 1) := by decide +kernel
theorem dX5_secondsOf_15 : decode cX5_secondsOf 15 = .ok (.laload, 1) := by decide +kernel
theorem dX5_secondsOf_16 : decode cX5_secondsOf 16 = .ok (.aload_n 0, 1) := by decide +kernel
theorem dX5_secondsOf_17 : decode cX5_secondsOf 17 = .ok (.getfield 9, 3) := by decide +kernel
theorem dX5_secondsOf_20 : decode cX5_secondsOf 20 = .ok (.iload_n 1, 1) := by decide +kernel
theorem dX5_secondsOf_21 : decode cX5_secondsOf 21 = .ok (.laload, 1) := by decide +kernel
theorem dX5_secondsOf_22 : decode cX5_secondsOf 22 = .ok (.lsub, 1) := by decide +kernel
theorem dX5_secondsOf_23 : decode cX5_secondsOf 23 = .ok (.goto 4, 3) := by decide +kernel
theorem dX5_secondsOf_26 : decode cX5_secondsOf 26 = .ok (.lconst 0, 1) := by decide +kernel
theorem dX5_secondsOf_27 : decode cX5_secondsOf 27 = .ok (.lreturn, 1) := by decide +kernel
theorem dX5_hoursBegunOf_0 : decode cX5_hoursBegunOf 0 = .ok (.aload_n 0, 1) := by decide +kernel
theorem dX5_hoursBegunOf_1 : decode cX5_hoursBegunOf 1 = .ok (.iload_n 1, 1) := by decide +kernel
theorem dX5_hoursBegunOf_2 : decode cX5_hoursBegunOf 2 = .ok (.invokevirtual 36, 3) := by decide +kernel
theorem dX5_hoursBegunOf_5 : decode cX5_hoursBegunOf 5 = .ok (.ldc2_w 40, 3) := by decide +kernel
theorem dX5_hoursBegunOf_8 : decode cX5_hoursBegunOf 8 = .ok (.ladd, 1) := by decide +kernel
theorem dX5_hoursBegunOf_9 : decode cX5_hoursBegunOf 9 = .ok (.lconst 1, 1) := by decide +kernel
theorem dX5_hoursBegunOf_10 : decode cX5_hoursBegunOf 10 = .ok (.lsub, 1) := by decide +kernel
theorem dX5_hoursBegunOf_11 : decode cX5_hoursBegunOf 11 = .ok (.ldc2_w 40, 3) := by decide +kernel
theorem dX5_hoursBegunOf_14 : decode cX5_hoursBegunOf 14 = .ok (.ldiv, 1) := by decide +kernel
theorem dX5_hoursBegunOf_15 : decode cX5_hoursBegunOf 15 = .ok (.lreturn, 1) := by decide +kernel
theorem dX5_dayOf_0 : decode cX5_dayOf 0 = .ok (.aload_n 0, 1) := by decide +kernel
theorem dX5_dayOf_1 : decode cX5_dayOf 1 = .ok (.iload_n 1, 1) := by decide +kernel
theorem dX5_dayOf_2 : decode cX5_dayOf 2 = .ok (.invokevirtual 32, 3) := by decide +kernel
theorem dX5_dayOf_5 : decode cX5_dayOf 5 = .ok (.ifCond .eq 16, 3) := by decide +kernel
theorem dX5_dayOf_8 : decode cX5_dayOf 8 = .ok (.aload_n 0, 1) := by decide +kernel
theorem dX5_dayOf_9 : decode cX5_dayOf 9 = .ok (.getfield 9, 3) := by decide +kernel
theorem dX5_dayOf_12 : decode cX5_dayOf 12 = .ok (.iload_n 1, 1) := by decide +kernel
theorem dX5_dayOf_13 : decode cX5_dayOf 13 = .ok (.laload, 1) := by decide +kernel
theorem dX5_dayOf_14 : decode cX5_dayOf 14 = .ok (.ldc2_w 42, 3) := by decide +kernel
theorem dX5_dayOf_17 : decode cX5_dayOf 17 = .ok (.ldiv, 1) := by decide +kernel
theorem dX5_dayOf_18 : decode cX5_dayOf 18 = .ok (.goto 6, 3) := by decide +kernel
theorem dX5_dayOf_21 : decode cX5_dayOf 21 = .ok (.ldc2_w 44, 3) := by decide +kernel
theorem dX5_dayOf_24 : decode cX5_dayOf 24 = .ok (.lreturn, 1) := by decide +kernel
theorem dX5_isGap_0 : decode cX5_isGap 0 = .ok (.aload_n 0, 1) := by decide +kernel
theorem dX5_isGap_1 : decode cX5_isGap 1 = .ok (.iload_n 1, 1) := by decide +kernel
theorem dX5_isGap_2 : decode cX5_isGap 2 = .ok (.invokevirtual 36, 3) := by decide +kernel
theorem dX5_isGap_5 : decode cX5_isGap 5 = .ok (.ldc2_w 40, 3) := by decide +kernel
theorem dX5_isGap_8 : decode cX5_isGap 8 = .ok (.lcmp, 1) := by decide +kernel
theorem dX5_isGap_9 : decode cX5_isGap 9 = .ok (.ifCond .le 7, 3) := by decide +kernel
theorem dX5_isGap_12 : decode cX5_isGap 12 = .ok (.iconst 1, 1) := by decide +kernel
theorem dX5_isGap_13 : decode cX5_isGap 13 = .ok (.goto 4, 3) := by decide +kernel
theorem dX5_isGap_16 : decode cX5_isGap 16 = .ok (.iconst 0, 1) := by decide +kernel
theorem dX5_isGap_17 : decode cX5_isGap 17 = .ok (.ireturn, 1) := by decide +kernel
theorem dX5_pieceOfGap_0 : decode cX5_pieceOfGap 0 = .ok (.iconst 0, 1) := by decide +kernel
theorem dX5_pieceOfGap_1 : decode cX5_pieceOfGap 1 = .ok (.istore_n 2, 1) := by decide +kernel
theorem dX5_pieceOfGap_2 : decode cX5_pieceOfGap 2 = .ok (.iconst 0, 1) := by decide +kernel
theorem dX5_pieceOfGap_3 : decode cX5_pieceOfGap 3 = .ok (.istore_n 3, 1) := by decide +kernel
theorem dX5_pieceOfGap_4 : decode cX5_pieceOfGap 4 = .ok (.iload_n 3, 1) := by decide +kernel
theorem dX5_pieceOfGap_5 : decode cX5_pieceOfGap 5 = .ok (.aload_n 0, 1) := by decide +kernel
theorem dX5_pieceOfGap_6 : decode cX5_pieceOfGap 6 = .ok (.invokevirtual 46, 3) := by decide +kernel
theorem dX5_pieceOfGap_9 : decode cX5_pieceOfGap 9 = .ok (.if_icmp .ge 27, 3) := by decide +kernel
theorem dX5_pieceOfGap_12 : decode cX5_pieceOfGap 12 = .ok (.aload_n 0, 1) := by decide +kernel
theorem dX5_pieceOfGap_13 : decode cX5_pieceOfGap 13 = .ok (.iload_n 3, 1) := by decide +kernel
theorem dX5_pieceOfGap_14 : decode cX5_pieceOfGap 14 = .ok (.invokevirtual 50, 3) := by decide +kernel
theorem dX5_pieceOfGap_17 : decode cX5_pieceOfGap 17 = .ok (.ifCond .eq 13, 3) := by decide +kernel
theorem dX5_pieceOfGap_20 : decode cX5_pieceOfGap 20 = .ok (.iload_n 2, 1) := by decide +kernel
theorem dX5_pieceOfGap_21 : decode cX5_pieceOfGap 21 = .ok (.iload_n 1, 1) := by decide +kernel
theorem dX5_pieceOfGap_22 : decode cX5_pieceOfGap 22 = .ok (.if_icmp .ne 5, 3) := by decide +kernel
theorem dX5_pieceOfGap_25 : decode cX5_pieceOfGap 25 = .ok (.iload_n 3, 1) := by decide +kernel
theorem dX5_pieceOfGap_26 : decode cX5_pieceOfGap 26 = .ok (.ireturn, 1) := by decide +kernel
theorem dX5_pieceOfGap_27 : decode cX5_pieceOfGap 27 = .ok (.iinc 2 1, 3) := by decide +kernel
theorem dX5_pieceOfGap_30 : decode cX5_pieceOfGap 30 = .ok (.iinc 3 1, 3) := by decide +kernel
theorem dX5_pieceOfGap_33 : decode cX5_pieceOfGap 33 = .ok (.goto (-29), 3) := by decide +kernel
theorem dX5_pieceOfGap_36 : decode cX5_pieceOfGap 36 = .ok (.iconst (-1), 1) := by decide +kernel
theorem dX5_pieceOfGap_37 : decode cX5_pieceOfGap 37 = .ok (.ireturn, 1) := by decide +kernel
theorem dX5_isFast_0 : decode cX5_isFast 0 = .ok (.lload_n 2, 1) := by decide +kernel
theorem dX5_isFast_1 : decode cX5_isFast 1 = .ok (.lconst 0, 1) := by decide +kernel
theorem dX5_isFast_2 : decode cX5_isFast 2 = .ok (.lcmp, 1) := by decide +kernel
theorem dX5_isFast_3 : decode cX5_isFast 3 = .ok (.ifCond .le 11, 3) := by decide +kernel
theorem dX5_isFast_6 : decode cX5_isFast 6 = .ok (.aload_n 0, 1) := by decide +kernel
theorem dX5_isFast_7 : decode cX5_isFast 7 = .ok (.iload_n 1, 1) := by decide +kernel
theorem dX5_isFast_8 : decode cX5_isFast 8 = .ok (.invokevirtual 50, 3) := by decide +kernel
theorem dX5_isFast_11 : decode cX5_isFast 11 = .ok (.ifCond .eq 5, 3) := by decide +kernel
theorem dX5_isFast_14 : decode cX5_isFast 14 = .ok (.iconst 0, 1) := by decide +kernel
theorem dX5_isFast_15 : decode cX5_isFast 15 = .ok (.ireturn, 1) := by decide +kernel
theorem dX5_isFast_16 : decode cX5_isFast 16 = .ok (.aload_n 0, 1) := by decide +kernel
theorem dX5_isFast_17 : decode cX5_isFast 17 = .ok (.iload_n 1, 1) := by decide +kernel
theorem dX5_isFast_18 : decode cX5_isFast 18 = .ok (.iconst 1, 1) := by decide +kernel
theorem dX5_isFast_19 : decode cX5_isFast 19 = .ok (.iadd, 1) := by decide +kernel
theorem dX5_isFast_20 : decode cX5_isFast 20 = .ok (.invokevirtual 53, 3) := by decide +kernel
theorem dX5_isFast_23 : decode cX5_isFast 23 = .ok (.aload_n 0, 1) := by decide +kernel
theorem dX5_isFast_24 : decode cX5_isFast 24 = .ok (.iload_n 1, 1) := by decide +kernel
theorem dX5_isFast_25 : decode cX5_isFast 25 = .ok (.invokevirtual 53, 3) := by decide +kernel
theorem dX5_isFast_28 : decode cX5_isFast 28 = .ok (.isub, 1) := by decide +kernel
theorem dX5_isFast_29 : decode cX5_isFast 29 = .ok (.i2l, 1) := by decide +kernel
theorem dX5_isFast_30 : decode cX5_isFast 30 = .ok (.lstore 4, 2) := by decide +kernel
theorem dX5_isFast_32 : decode cX5_isFast 32 = .ok (.aload_n 0, 1) := by decide +kernel
theorem dX5_isFast_33 : decode cX5_isFast 33 = .ok (.iload_n 1, 1) := by decide +kernel
theorem dX5_isFast_34 : decode cX5_isFast 34 = .ok (.iconst 1, 1) := by decide +kernel
theorem dX5_isFast_35 : decode cX5_isFast 35 = .ok (.iadd, 1) := by decide +kernel
theorem dX5_isFast_36 : decode cX5_isFast 36 = .ok (.invokevirtual 57, 3) := by decide +kernel
theorem dX5_isFast_39 : decode cX5_isFast 39 = .ok (.aload_n 0, 1) := by decide +kernel
theorem dX5_isFast_40 : decode cX5_isFast 40 = .ok (.iload_n 1, 1) := by decide +kernel
theorem dX5_isFast_41 : decode cX5_isFast 41 = .ok (.invokevirtual 57, 3) := by decide +kernel
theorem dX5_isFast_44 : decode cX5_isFast 44 = .ok (.isub, 1) := by decide +kernel
theorem dX5_isFast_45 : decode cX5_isFast 45 = .ok (.i2l, 1) := by decide +kernel
theorem dX5_isFast_46 : decode cX5_isFast 46 = .ok (.lstore 6, 2) := by decide +kernel
theorem dX5_isFast_48 : decode cX5_isFast 48 = .ok (.lload 4, 2) := by decide +kernel
theorem dX5_isFast_50 : decode cX5_isFast 50 = .ok (.lload 4, 2) := by decide +kernel
theorem dX5_isFast_52 : decode cX5_isFast 52 = .ok (.lmul, 1) := by decide +kernel
theorem dX5_isFast_53 : decode cX5_isFast 53 = .ok (.lload 6, 2) := by decide +kernel
theorem dX5_isFast_55 : decode cX5_isFast 55 = .ok (.lload 6, 2) := by decide +kernel
theorem dX5_isFast_57 : decode cX5_isFast 57 = .ok (.lmul, 1) := by decide +kernel
theorem dX5_isFast_58 : decode cX5_isFast 58 = .ok (.ladd, 1) := by decide +kernel
theorem dX5_isFast_59 : decode cX5_isFast 59 = .ok (.lstore 8, 2) := by decide +kernel
theorem dX5_isFast_61 : decode cX5_isFast 61 = .ok (.lload_n 2, 1) := by decide +kernel
theorem dX5_isFast_62 : decode cX5_isFast 62 = .ok (.aload_n 0, 1) := by decide +kernel
theorem dX5_isFast_63 : decode cX5_isFast 63 = .ok (.iload_n 1, 1) := by decide +kernel
theorem dX5_isFast_64 : decode cX5_isFast 64 = .ok (.invokevirtual 36, 3) := by decide +kernel
theorem dX5_isFast_67 : decode cX5_isFast 67 = .ok (.lmul, 1) := by decide +kernel
theorem dX5_isFast_68 : decode cX5_isFast 68 = .ok (.lstore 10, 2) := by decide +kernel
theorem dX5_isFast_70 : decode cX5_isFast 70 = .ok (.lload 8, 2) := by decide +kernel
theorem dX5_isFast_72 : decode cX5_isFast 72 = .ok (.ldc2_w 40, 3) := by decide +kernel
theorem dX5_isFast_75 : decode cX5_isFast 75 = .ok (.lmul, 1) := by decide +kernel
theorem dX5_isFast_76 : decode cX5_isFast 76 = .ok (.ldc2_w 40, 3) := by decide +kernel
theorem dX5_isFast_79 : decode cX5_isFast 79 = .ok (.lmul, 1) := by decide +kernel
theorem dX5_isFast_80 : decode cX5_isFast 80 = .ok (.lload 10, 2) := by decide +kernel
theorem dX5_isFast_82 : decode cX5_isFast 82 = .ok (.lload 10, 2) := by decide +kernel
theorem dX5_isFast_84 : decode cX5_isFast 84 = .ok (.lmul, 1) := by decide +kernel
theorem dX5_isFast_85 : decode cX5_isFast 85 = .ok (.lcmp, 1) := by decide +kernel
theorem dX5_isFast_86 : decode cX5_isFast 86 = .ok (.ifCond .lt 7, 3) := by decide +kernel
theorem dX5_isFast_89 : decode cX5_isFast 89 = .ok (.iconst 1, 1) := by decide +kernel
theorem dX5_isFast_90 : decode cX5_isFast 90 = .ok (.goto 4, 3) := by decide +kernel
theorem dX5_isFast_93 : decode cX5_isFast 93 = .ok (.iconst 0, 1) := by decide +kernel
theorem dX5_isFast_94 : decode cX5_isFast 94 = .ok (.ireturn, 1) := by decide +kernel
theorem dX6_init_0 : decode cX6_init 0 = .ok (.aload_n 0, 1) := by decide +kernel
theorem dX6_init_1 : decode cX6_init 1 = .ok (.invokespecial 1, 3) := by decide +kernel
theorem dX6_init_4 : decode cX6_init 4 = .ok (.aload_n 0, 1) := by decide +kernel
theorem dX6_init_5 : decode cX6_init 5 = .ok (.iconst 1, 1) := by decide +kernel
theorem dX6_init_6 : decode cX6_init 6 = .ok (.bipush 12, 2) := by decide +kernel
theorem dX6_init_8 : decode cX6_init 8 = .ok (.iload_n 1, 1) := by decide +kernel
theorem dX6_init_9 : decode cX6_init 9 = .ok (.invokestatic 9, 3) := by decide +kernel
theorem dX6_init_12 : decode cX6_init 12 = .ok (.invokestatic 15, 3) := by decide +kernel
theorem dX6_init_15 : decode cX6_init 15 = .ok (.anewarray 18, 3) := by decide +kernel
theorem dX6_init_18 : decode cX6_init 18 = .ok (.putfield 20, 3) := by decide +kernel
theorem dX6_init_21 : decode cX6_init 21 = .ok (.iconst 0, 1) := by decide +kernel
theorem dX6_init_22 : decode cX6_init 22 = .ok (.istore_n 2, 1) := by decide +kernel
theorem dX6_init_23 : decode cX6_init 23 = .ok (.iload_n 2, 1) := by decide +kernel
theorem dX6_init_24 : decode cX6_init 24 = .ok (.aload_n 0, 1) := by decide +kernel
theorem dX6_init_25 : decode cX6_init 25 = .ok (.getfield 20, 3) := by decide +kernel
theorem dX6_init_28 : decode cX6_init 28 = .ok (.arraylength, 1) := by decide +kernel
theorem dX6_init_29 : decode cX6_init 29 = .ok (.if_icmp .ge 22, 3) := by decide +kernel
theorem dX6_init_32 : decode cX6_init 32 = .ok (.aload_n 0, 1) := by decide +kernel
theorem dX6_init_33 : decode cX6_init 33 = .ok (.getfield 20, 3) := by decide +kernel
theorem dX6_init_36 : decode cX6_init 36 = .ok (.iload_n 2, 1) := by decide +kernel
theorem dX6_init_37 : decode cX6_init 37 = .ok (.new 18, 3) := by decide +kernel
theorem dX6_init_40 : decode cX6_init 40 = .ok (.dup, 1) := by decide +kernel
theorem dX6_init_41 : decode cX6_init 41 = .ok (.invokespecial 24, 3) := by decide +kernel
theorem dX6_init_44 : decode cX6_init 44 = .ok (.aastore, 1) := by decide +kernel
theorem dX6_init_45 : decode cX6_init 45 = .ok (.iinc 2 1, 3) := by decide +kernel
theorem dX6_init_48 : decode cX6_init 48 = .ok (.goto (-25), 3) := by decide +kernel
theorem dX6_init_51 : decode cX6_init 51 = .ok (.aload_n 0, 1) := by decide +kernel
theorem dX6_init_52 : decode cX6_init 52 = .ok (.new 25, 3) := by decide +kernel
theorem dX6_init_55 : decode cX6_init 55 = .ok (.dup, 1) := by decide +kernel
theorem dX6_init_56 : decode cX6_init 56 = .ok (.invokespecial 27, 3) := by decide +kernel
theorem dX6_init_59 : decode cX6_init 59 = .ok (.putfield 28, 3) := by decide +kernel
theorem dX6_init_62 : decode cX6_init 62 = .ok (.aload_n 0, 1) := by decide +kernel
theorem dX6_init_63 : decode cX6_init 63 = .ok (.bipush 6, 2) := by decide +kernel
theorem dX6_init_65 : decode cX6_init 65 = .ok (.anewarray 32, 3) := by decide +kernel
theorem dX6_init_68 : decode cX6_init 68 = .ok (.putfield 34, 3) := by decide +kernel
theorem dX6_init_71 : decode cX6_init 71 = .ok (.iconst 0, 1) := by decide +kernel
theorem dX6_init_72 : decode cX6_init 72 = .ok (.istore_n 2, 1) := by decide +kernel
theorem dX6_init_73 : decode cX6_init 73 = .ok (.iload_n 2, 1) := by decide +kernel
theorem dX6_init_74 : decode cX6_init 74 = .ok (.aload_n 0, 1) := by decide +kernel
theorem dX6_init_75 : decode cX6_init 75 = .ok (.getfield 34, 3) := by decide +kernel
theorem dX6_init_78 : decode cX6_init 78 = .ok (.arraylength, 1) := by decide +kernel
theorem dX6_init_79 : decode cX6_init 79 = .ok (.if_icmp .ge 22, 3) := by decide +kernel
theorem dX6_init_82 : decode cX6_init 82 = .ok (.aload_n 0, 1) := by decide +kernel
theorem dX6_init_83 : decode cX6_init 83 = .ok (.getfield 34, 3) := by decide +kernel
theorem dX6_init_86 : decode cX6_init 86 = .ok (.iload_n 2, 1) := by decide +kernel
theorem dX6_init_87 : decode cX6_init 87 = .ok (.new 32, 3) := by decide +kernel
theorem dX6_init_90 : decode cX6_init 90 = .ok (.dup, 1) := by decide +kernel
theorem dX6_init_91 : decode cX6_init 91 = .ok (.invokespecial 38, 3) := by decide +kernel
theorem dX6_init_94 : decode cX6_init 94 = .ok (.aastore, 1) := by decide +kernel
theorem dX6_init_95 : decode cX6_init 95 = .ok (.iinc 2 1, 3) := by decide +kernel
theorem dX6_init_98 : decode cX6_init 98 = .ok (.goto (-25), 3) := by decide +kernel
theorem dX6_init_101 : decode cX6_init 101 = .ok (.aload_n 0, 1) := by decide +kernel
theorem dX6_init_102 : decode cX6_init 102 = .ok (.iconst 0, 1) := by decide +kernel
theorem dX6_init_103 : decode cX6_init 103 = .ok (.putfield 39, 3) := by decide +kernel
theorem dX6_init_106 : decode cX6_init 106 = .ok (.aload_n 0, 1) := by decide +kernel
theorem dX6_init_107 : decode cX6_init 107 = .ok (.new 43, 3) := by decide +kernel
theorem dX6_init_110 : decode cX6_init 110 = .ok (.dup, 1) := by decide +kernel
theorem dX6_init_111 : decode cX6_init 111 = .ok (.invokespecial 45, 3) := by decide +kernel
theorem dX6_init_114 : decode cX6_init 114 = .ok (.putfield 46, 3) := by decide +kernel
theorem dX6_init_117 : decode cX6_init 117 = .ok (.aload_n 0, 1) := by decide +kernel
theorem dX6_init_118 : decode cX6_init 118 = .ok (.new 50, 3) := by decide +kernel
theorem dX6_init_121 : decode cX6_init 121 = .ok (.dup, 1) := by decide +kernel
theorem dX6_init_122 : decode cX6_init 122 = .ok (.invokespecial 52, 3) := by decide +kernel
theorem dX6_init_125 : decode cX6_init 125 = .ok (.putfield 53, 3) := by decide +kernel
theorem dX6_init_128 : decode cX6_init 128 = .ok (.aload_n 0, 1) := by decide +kernel
theorem dX6_init_129 : decode cX6_init 129 = .ok (.new 50, 3) := by decide +kernel
theorem dX6_init_132 : decode cX6_init 132 = .ok (.dup, 1) := by decide +kernel
theorem dX6_init_133 : decode cX6_init 133 = .ok (.invokespecial 52, 3) := by decide +kernel
theorem dX6_init_136 : decode cX6_init 136 = .ok (.putfield 57, 3) := by decide +kernel
theorem dX6_init_139 : decode cX6_init 139 = .ok (.return_, 1) := by decide +kernel
theorem dX6_corner_0 : decode cX6_corner 0 = .ok (.aload_n 0, 1) := by decide +kernel
theorem dX6_corner_1 : decode cX6_corner 1 = .ok (.iload_n 1, 1) := by decide +kernel
theorem dX6_corner_2 : decode cX6_corner 2 = .ok (.invokevirtual 60, 3) := by decide +kernel
theorem dX6_corner_5 : decode cX6_corner 5 = .ok (.ifCond .ne 11, 3) := by decide +kernel
theorem dX6_corner_8 : decode cX6_corner 8 = .ok (.new 64, 3) := by decide +kernel
theorem dX6_corner_11 : decode cX6_corner 11 = .ok (.dup, 1) := by decide +kernel
theorem dX6_corner_12 : decode cX6_corner 12 = .ok (.invokespecial 66, 3) := by decide +kernel
theorem dX6_corner_15 : decode cX6_corner 15 = .ok (.athrow, 1) := by decide +kernel
theorem dX6_corner_16 : decode cX6_corner 16 = .ok (.lload_n 2, 1) := by decide +kernel
theorem dX6_corner_17 : decode cX6_corner 17 = .ok (.lload 4, 2) := by decide +kernel
theorem dX6_corner_19 : decode cX6_corner 19 = .ok (.invokestatic 67, 3) := by decide +kernel
theorem dX6_corner_22 : decode cX6_corner 22 = .ok (.ifCond .eq 24, 3) := by decide +kernel
theorem dX6_corner_25 : decode cX6_corner 25 = .ok (.aload_n 0, 1) := by decide +kernel
theorem dX6_corner_26 : decode cX6_corner 26 = .ok (.getfield 20, 3) := by decide +kernel
theorem dX6_corner_29 : decode cX6_corner 29 = .ok (.iload_n 1, 1) := by decide +kernel
theorem dX6_corner_30 : decode cX6_corner 30 = .ok (.aaload, 1) := by decide +kernel
theorem dX6_corner_31 : decode cX6_corner 31 = .ok (.lload_n 2, 1) := by decide +kernel
theorem dX6_corner_32 : decode cX6_corner 32 = .ok (.l2i, 1) := by decide +kernel
theorem dX6_corner_33 : decode cX6_corner 33 = .ok (.lload 4, 2) := by decide +kernel
theorem dX6_corner_35 : decode cX6_corner 35 = .ok (.l2i, 1) := by decide +kernel
theorem dX6_corner_36 : decode cX6_corner 36 = .ok (.invokevirtual 71, 3) := by decide +kernel
theorem dX6_corner_39 : decode cX6_corner 39 = .ok (.ifCond .eq 7, 3) := by decide +kernel
theorem dX6_corner_42 : decode cX6_corner 42 = .ok (.iconst 1, 1) := by decide +kernel
theorem dX6_corner_43 : decode cX6_corner 43 = .ok (.goto 4, 3) := by decide +kernel
theorem dX6_corner_46 : decode cX6_corner 46 = .ok (.iconst 0, 1) := by decide +kernel
theorem dX6_corner_47 : decode cX6_corner 47 = .ok (.ireturn, 1) := by decide +kernel
theorem dX6_ring_0 : decode cX6_ring 0 = .ok (.aload_n 0, 1) := by decide +kernel
theorem dX6_ring_1 : decode cX6_ring 1 = .ok (.iload_n 1, 1) := by decide +kernel
theorem dX6_ring_2 : decode cX6_ring 2 = .ok (.invokevirtual 60, 3) := by decide +kernel
theorem dX6_ring_5 : decode cX6_ring 5 = .ok (.ifCond .eq 19, 3) := by decide +kernel
theorem dX6_ring_8 : decode cX6_ring 8 = .ok (.aload_n 0, 1) := by decide +kernel
theorem dX6_ring_9 : decode cX6_ring 9 = .ok (.getfield 20, 3) := by decide +kernel
theorem dX6_ring_12 : decode cX6_ring 12 = .ok (.iload_n 1, 1) := by decide +kernel
theorem dX6_ring_13 : decode cX6_ring 13 = .ok (.aaload, 1) := by decide +kernel
theorem dX6_ring_14 : decode cX6_ring 14 = .ok (.invokevirtual 75, 3) := by decide +kernel
theorem dX6_ring_17 : decode cX6_ring 17 = .ok (.ifCond .eq 7, 3) := by decide +kernel
theorem dX6_ring_20 : decode cX6_ring 20 = .ok (.iconst 1, 1) := by decide +kernel
theorem dX6_ring_21 : decode cX6_ring 21 = .ok (.goto 4, 3) := by decide +kernel
theorem dX6_ring_24 : decode cX6_ring 24 = .ok (.iconst 0, 1) := by decide +kernel
theorem dX6_ring_25 : decode cX6_ring 25 = .ok (.ireturn, 1) := by decide +kernel
theorem dX6_hole_0 : decode cX6_hole 0 = .ok (.aload_n 0, 1) := by decide +kernel
theorem dX6_hole_1 : decode cX6_hole 1 = .ok (.iload_n 1, 1) := by decide +kernel
theorem dX6_hole_2 : decode cX6_hole 2 = .ok (.invokevirtual 60, 3) := by decide +kernel
theorem dX6_hole_5 : decode cX6_hole 5 = .ok (.ifCond .eq 19, 3) := by decide +kernel
theorem dX6_hole_8 : decode cX6_hole 8 = .ok (.aload_n 0, 1) := by decide +kernel
theorem dX6_hole_9 : decode cX6_hole 9 = .ok (.getfield 20, 3) := by decide +kernel
theorem dX6_hole_12 : decode cX6_hole 12 = .ok (.iload_n 1, 1) := by decide +kernel
theorem dX6_hole_13 : decode cX6_hole 13 = .ok (.aaload, 1) := by decide +kernel
theorem dX6_hole_14 : decode cX6_hole 14 = .ok (.invokevirtual 79, 3) := by decide +kernel
theorem dX6_hole_17 : decode cX6_hole 17 = .ok (.ifCond .eq 7, 3) := by decide +kernel
theorem dX6_hole_20 : decode cX6_hole 20 = .ok (.iconst 1, 1) := by decide +kernel
theorem dX6_hole_21 : decode cX6_hole 21 = .ok (.goto 4, 3) := by decide +kernel
theorem dX6_hole_24 : decode cX6_hole 24 = .ok (.iconst 0, 1) := by decide +kernel
theorem dX6_hole_25 : decode cX6_hole 25 = .ok (.ireturn, 1) := by decide +kernel
theorem dX6_bars_0 : decode cX6_bars 0 = .ok (.aload_n 0, 1) := by decide +kernel
theorem dX6_bars_1 : decode cX6_bars 1 = .ok (.iload_n 1, 1) := by decide +kernel
theorem dX6_bars_2 : decode cX6_bars 2 = .ok (.invokevirtual 60, 3) := by decide +kernel
theorem dX6_bars_5 : decode cX6_bars 5 = .ok (.ifCond .eq 10, 3) := by decide +kernel
theorem dX6_bars_8 : decode cX6_bars 8 = .ok (.iload_n 2, 1) := by decide +kernel
theorem dX6_bars_9 : decode cX6_bars 9 = .ok (.invokestatic 82, 3) := by decide +kernel
theorem dX6_bars_12 : decode cX6_bars 12 = .ok (.ifCond .ne 5, 3) := by decide +kernel
theorem dX6_bars_15 : decode cX6_bars 15 = .ok (.iconst 0, 1) := by decide +kernel
theorem dX6_bars_16 : decode cX6_bars 16 = .ok (.ireturn, 1) := by decide +kernel
theorem dX6_bars_17 : decode cX6_bars 17 = .ok (.iload_n 3, 1) := by decide +kernel
theorem dX6_bars_18 : decode cX6_bars 18 = .ok (.ifCond .lt 17, 3) := by decide +kernel
theorem dX6_bars_21 : decode cX6_bars 21 = .ok (.iload 4, 2) := by decide +kernel
theorem dX6_bars_23 : decode cX6_bars 23 = .ok (.sipush 400, 3) := by decide +kernel
theorem dX6_bars_26 : decode cX6_bars 26 = .ok (.if_icmp .gt 9, 3) := by decide +kernel
theorem dX6_bars_29 : decode cX6_bars 29 = .ok (.iload_n 3, 1) := by decide +kernel
theorem dX6_bars_30 : decode cX6_bars 30 = .ok (.iload 4, 2) := by decide +kernel
theorem dX6_bars_32 : decode cX6_bars 32 = .ok (.if_icmp .le 5, 3) := by decide +kernel
theorem dX6_bars_35 : decode cX6_bars 35 = .ok (.iconst 0, 1) := by decide +kernel
theorem dX6_bars_36 : decode cX6_bars 36 = .ok (.ireturn, 1) := by decide +kernel
theorem dX6_bars_37 : decode cX6_bars 37 = .ok (.aload_n 0, 1) := by decide +kernel
theorem dX6_bars_38 : decode cX6_bars 38 = .ok (.getfield 28, 3) := by decide +kernel
theorem dX6_bars_41 : decode cX6_bars 41 = .ok (.iload_n 1, 1) := by decide +kernel
theorem dX6_bars_42 : decode cX6_bars 42 = .ok (.iload_n 2, 1) := by decide +kernel
theorem dX6_bars_43 : decode cX6_bars 43 = .ok (.iload_n 3, 1) := by decide +kernel
theorem dX6_bars_44 : decode cX6_bars 44 = .ok (.iload 4, 2) := by decide +kernel
theorem dX6_bars_46 : decode cX6_bars 46 = .ok (.invokevirtual 85, 3) := by decide +kernel
theorem dX6_bars_49 : decode cX6_bars 49 = .ok (.ireturn, 1) := by decide +kernel
theorem dX6_speed_0 : decode cX6_speed 0 = .ok (.aload_n 0, 1) := by decide +kernel
theorem dX6_speed_1 : decode cX6_speed 1 = .ok (.iload_n 1, 1) := by decide +kernel
theorem dX6_speed_2 : decode cX6_speed 2 = .ok (.invokevirtual 60, 3) := by decide +kernel
theorem dX6_speed_5 : decode cX6_speed 5 = .ok (.ifCond .eq 17, 3) := by decide +kernel
theorem dX6_speed_8 : decode cX6_speed 8 = .ok (.lload_n 2, 1) := by decide +kernel
theorem dX6_speed_9 : decode cX6_speed 9 = .ok (.lconst 0, 1) := by decide +kernel
theorem dX6_speed_10 : decode cX6_speed 10 = .ok (.lcmp, 1) := by decide +kernel
theorem dX6_speed_11 : decode cX6_speed 11 = .ok (.ifCond .lt 11, 3) := by decide +kernel
theorem dX6_speed_14 : decode cX6_speed 14 = .ok (.lload_n 2, 1) := by decide +kernel
theorem dX6_speed_15 : decode cX6_speed 15 = .ok (.ldc2_w 89, 3) := by decide +kernel
theorem dX6_speed_18 : decode cX6_speed 18 = .ok (.lcmp, 1) := by decide +kernel
theorem dX6_speed_19 : decode cX6_speed 19 = .ok (.ifCond .le 5, 3) := by decide +kernel
theorem dX6_speed_22 : decode cX6_speed 22 = .ok (.iconst 0, 1) := by decide +kernel
theorem dX6_speed_23 : decode cX6_speed 23 = .ok (.ireturn, 1) := by decide +kernel
theorem dX6_speed_24 : decode cX6_speed 24 = .ok (.aload_n 0, 1) := by decide +kernel
theorem dX6_speed_25 : decode cX6_speed 25 = .ok (.getfield 20, 3) := by decide +kernel
theorem dX6_speed_28 : decode cX6_speed 28 = .ok (.iload_n 1, 1) := by decide +kernel
theorem dX6_speed_29 : decode cX6_speed 29 = .ok (.aaload, 1) := by decide +kernel
theorem dX6_speed_30 : decode cX6_speed 30 = .ok (.lload_n 2, 1) := by decide +kernel
theorem dX6_speed_31 : decode cX6_speed 31 = .ok (.invokevirtual 91, 3) := by decide +kernel
theorem dX6_speed_34 : decode cX6_speed 34 = .ok (.iconst 1, 1) := by decide +kernel
theorem dX6_speed_35 : decode cX6_speed 35 = .ok (.ireturn, 1) := by decide +kernel
theorem dX6_report_0 : decode cX6_report 0 = .ok (.lload_n 1, 1) := by decide +kernel
theorem dX6_report_1 : decode cX6_report 1 = .ok (.lload_n 3, 1) := by decide +kernel
theorem dX6_report_2 : decode cX6_report 2 = .ok (.invokestatic 67, 3) := by decide +kernel
theorem dX6_report_5 : decode cX6_report 5 = .ok (.ifCond .eq 19, 3) := by decide +kernel
theorem dX6_report_8 : decode cX6_report 8 = .ok (.lload 5, 2) := by decide +kernel
theorem dX6_report_10 : decode cX6_report 10 = .ok (.lconst 0, 1) := by decide +kernel
theorem dX6_report_11 : decode cX6_report 11 = .ok (.lcmp, 1) := by decide +kernel
theorem dX6_report_12 : decode cX6_report 12 = .ok (.ifCond .lt 12, 3) := by decide +kernel
theorem dX6_report_15 : decode cX6_report 15 = .ok (.lload 5, 2) := by decide +kernel
theorem dX6_report_17 : decode cX6_report 17 = .ok (.ldc2_w 95, 3) := by decide +kernel
theorem dX6_report_20 : decode cX6_report 20 = .ok (.lcmp, 1) := by decide +kernel
theorem dX6_report_21 : decode cX6_report 21 = .ok (.ifCond .le 5, 3) := by decide +kernel
theorem dX6_report_24 : decode cX6_report 24 = .ok (.iconst (-1), 1) := by decide +kernel
theorem dX6_report_25 : decode cX6_report 25 = .ok (.ireturn, 1) := by decide +kernel
theorem dX6_report_26 : decode cX6_report 26 = .ok (.iload 7, 2) := by decide +kernel
theorem dX6_report_28 : decode cX6_report 28 = .ok (.iconst 1, 1) := by decide +kernel
theorem dX6_report_29 : decode cX6_report 29 = .ok (.if_icmp .lt 10, 3) := by decide +kernel
theorem dX6_report_32 : decode cX6_report 32 = .ok (.iload 7, 2) := by decide +kernel
theorem dX6_report_34 : decode cX6_report 34 = .ok (.bipush 20, 2) := by decide +kernel
theorem dX6_report_36 : decode cX6_report 36 = .ok (.if_icmp .le 5, 3) := by decide +kernel
theorem dX6_report_39 : decode cX6_report 39 = .ok (.iconst (-1), 1) := by decide +kernel
theorem dX6_report_40 : decode cX6_report 40 = .ok (.ireturn, 1) := by decide +kernel
theorem dX6_report_41 : decode cX6_report 41 = .ok (.lload_n 1, 1) := by decide +kernel
theorem dX6_report_42 : decode cX6_report 42 = .ok (.iload 7, 2) := by decide +kernel
theorem dX6_report_44 : decode cX6_report 44 = .ok (.i2l, 1) := by decide +kernel
theorem dX6_report_45 : decode cX6_report 45 = .ok (.lsub, 1) := by decide +kernel
theorem dX6_report_46 : decode cX6_report 46 = .ok (.lload_n 3, 1) := by decide +kernel
theorem dX6_report_47 : decode cX6_report 47 = .ok (.iload 7, 2) := by decide +kernel
theorem dX6_report_49 : decode cX6_report 49 = .ok (.i2l, 1) := by decide +kernel
theorem dX6_report_50 : decode cX6_report 50 = .ok (.lsub, 1) := by decide +kernel
theorem dX6_report_51 : decode cX6_report 51 = .ok (.invokestatic 67, 3) := by decide +kernel
theorem dX6_report_54 : decode cX6_report 54 = .ok (.ifCond .eq 19, 3) := by decide +kernel
theorem dX6_report_57 : decode cX6_report 57 = .ok (.lload_n 1, 1) := by decide +kernel
theorem dX6_report_58 : decode cX6_report 58 = .ok (.iload 7, 2) := by decide +kernel
theorem dX6_report_60 : decode cX6_report 60 = .ok (.i2l, 1) := by decide +kernel
theorem dX6_report_61 : decode cX6_report 61 = .ok (.ladd, 1) := by decide +kernel
theorem dX6_report_62 : decode cX6_report 62 = .ok (.lload_n 3, 1) := by decide +kernel
theorem dX6_report_63 : decode cX6_report 63 = .ok (.iload 7, 2) := by decide +kernel
theorem dX6_report_65 : decode cX6_report 65 = .ok (.i2l, 1) := by decide +kernel
theorem dX6_report_66 : decode cX6_report 66 = .ok (.ladd, 1) := by decide +kernel
theorem dX6_report_67 : decode cX6_report 67 = .ok (.invokestatic 67, 3) := by decide +kernel
theorem dX6_report_70 : decode cX6_report 70 = .ok (.ifCond .ne 5, 3) := by decide +kernel
theorem dX6_report_73 : decode cX6_report 73 = .ok (.iconst (-1), 1) := by decide +kernel
theorem dX6_report_74 : decode cX6_report 74 = .ok (.ireturn, 1) := by decide +kernel
theorem dX6_report_75 : decode cX6_report 75 = .ok (.aload_n 0, 1) := by decide +kernel
theorem dX6_report_76 : decode cX6_report 76 = .ok (.invokevirtual 97, 3) := by decide +kernel
theorem dX6_report_79 : decode cX6_report 79 = .ok (.istore 8, 2) := by decide +kernel
theorem dX6_report_81 : decode cX6_report 81 = .ok (.iload 8, 2) := by decide +kernel
theorem dX6_report_83 : decode cX6_report 83 = .ok (.ifCond .lt 15, 3) := by decide +kernel
theorem dX6_report_86 : decode cX6_report 86 = .ok (.aload_n 0, 1) := by decide +kernel
theorem dX6_report_87 : decode cX6_report 87 = .ok (.getfield 28, 3) := by decide +kernel
theorem dX6_report_90 : decode cX6_report 90 = .ok (.invokevirtual 101, 3) := by decide +kernel
theorem dX6_report_93 : decode cX6_report 93 = .ok (.bipush 8, 2) := by decide +kernel
theorem dX6_report_95 : decode cX6_report 95 = .ok (.if_icmp .ge 6, 3) := by decide +kernel
theorem dX6_report_98 : decode cX6_report 98 = .ok (.bipush (-4), 2) := by decide +kernel
theorem dX6_report_100 : decode cX6_report 100 = .ok (.ireturn, 1) := by decide +kernel
theorem dX6_report_101 : decode cX6_report 101 = .ok (.aload_n 0, 1) := by decide +kernel
theorem dX6_report_102 : decode cX6_report 102 = .ok (.getfield 20, 3) := by decide +kernel
theorem dX6_report_105 : decode cX6_report 105 = .ok (.iload 8, 2) := by decide +kernel
theorem dX6_report_107 : decode cX6_report 107 = .ok (.aaload, 1) := by decide +kernel
theorem dX6_report_108 : decode cX6_report 108 = .ok (.lload_n 1, 1) := by decide +kernel
theorem dX6_report_109 : decode cX6_report 109 = .ok (.l2i, 1) := by decide +kernel
theorem dX6_report_110 : decode cX6_report 110 = .ok (.lload_n 3, 1) := by decide +kernel
theorem dX6_report_111 : decode cX6_report 111 = .ok (.l2i, 1) := by decide +kernel
theorem dX6_report_112 : decode cX6_report 112 = .ok (.iload 7, 2) := by decide +kernel
theorem dX6_report_114 : decode cX6_report 114 = .ok (.invokevirtual 104, 3) := by decide +kernel
theorem dX6_report_117 : decode cX6_report 117 = .ok (.iconst 0, 1) := by decide +kernel
theorem dX6_report_118 : decode cX6_report 118 = .ok (.istore 9, 2) := by decide +kernel
theorem dX6_report_120 : decode cX6_report 120 = .ok (.iload 9, 2) := by decide +kernel
theorem dX6_report_122 : decode cX6_report 122 = .ok (.bipush 8, 2) := by decide +kernel
theorem dX6_report_124 : decode cX6_report 124 = .ok (.if_icmp .ge 29, 3) := by decide +kernel
theorem dX6_report_127 : decode cX6_report 127 = .ok (.aload_n 0, 1) := by decide +kernel
theorem dX6_report_128 : decode cX6_report 128 = .ok (.getfield 28, 3) := by decide +kernel
theorem dX6_report_131 : decode cX6_report 131 = .ok (.iload 8, 2) := by decide +kernel
theorem dX6_report_133 : decode cX6_report 133 = .ok (.iload 9, 2) := by decide +kernel
theorem dX6_report_135 : decode cX6_report 135 = .ok (.lload 5, 2) := by decide +kernel
theorem dX6_report_137 : decode cX6_report 137 = .ok (.l2i, 1) := by decide +kernel
theorem dX6_report_138 : decode cX6_report 138 = .ok (.lload 5, 2) := by decide +kernel
theorem dX6_report_140 : decode cX6_report 140 = .ok (.l2i, 1) := by decide +kernel
theorem dX6_report_141 : decode cX6_report 141 = .ok (.iconst 2, 1) := by decide +kernel
theorem dX6_report_142 : decode cX6_report 142 = .ok (.iadd, 1) := by decide +kernel
theorem dX6_report_143 : decode cX6_report 143 = .ok (.invokevirtual 85, 3) := by decide +kernel
theorem dX6_report_146 : decode cX6_report 146 = .ok (.pop, 1) := by decide +kernel
theorem dX6_report_147 : decode cX6_report 147 = .ok (.iinc 9 1, 3) := by decide +kernel
theorem dX6_report_150 : decode cX6_report 150 = .ok (.goto (-30), 3) := by decide +kernel
theorem dX6_report_153 : decode cX6_report 153 = .ok (.iload 8, 2) := by decide +kernel
theorem dX6_report_155 : decode cX6_report 155 = .ok (.ireturn, 1) := by decide +kernel
theorem dX6_track_0 : decode cX6_track 0 = .ok (.aload_n 0, 1) := by decide +kernel
theorem dX6_track_1 : decode cX6_track 1 = .ok (.getfield 39, 3) := by decide +kernel
theorem dX6_track_4 : decode cX6_track 4 = .ok (.aload_n 0, 1) := by decide +kernel
theorem dX6_track_5 : decode cX6_track 5 = .ok (.getfield 34, 3) := by decide +kernel
theorem dX6_track_8 : decode cX6_track 8 = .ok (.arraylength, 1) := by decide +kernel
theorem dX6_track_9 : decode cX6_track 9 = .ok (.if_icmp .lt 6, 3) := by decide +kernel
theorem dX6_track_12 : decode cX6_track 12 = .ok (.bipush (-4), 2) := by decide +kernel
theorem dX6_track_14 : decode cX6_track 14 = .ok (.ireturn, 1) := by decide +kernel
theorem dX6_track_15 : decode cX6_track 15 = .ok (.aload_n 0, 1) := by decide +kernel
theorem dX6_track_16 : decode cX6_track 16 = .ok (.dup, 1) := by decide +kernel
theorem dX6_track_17 : decode cX6_track 17 = .ok (.getfield 39, 3) := by decide +kernel
theorem dX6_track_20 : decode cX6_track 20 = .ok (.dup_x1, 1) := by decide +kernel
theorem dX6_track_21 : decode cX6_track 21 = .ok (.iconst 1, 1) := by decide +kernel
theorem dX6_track_22 : decode cX6_track 22 = .ok (.iadd, 1) := by decide +kernel
theorem dX6_track_23 : decode cX6_track 23 = .ok (.putfield 39, 3) := by decide +kernel
theorem dX6_track_26 : decode cX6_track 26 = .ok (.ireturn, 1) := by decide +kernel
theorem dX6_place_0 : decode cX6_place 0 = .ok (.aload_n 0, 1) := by decide +kernel
theorem dX6_place_1 : decode cX6_place 1 = .ok (.iload_n 1, 1) := by decide +kernel
theorem dX6_place_2 : decode cX6_place 2 = .ok (.invokevirtual 108, 3) := by decide +kernel
theorem dX6_place_5 : decode cX6_place 5 = .ok (.ifCond .eq 36, 3) := by decide +kernel
theorem dX6_place_8 : decode cX6_place 8 = .ok (.lload 4, 2) := by decide +kernel
theorem dX6_place_10 : decode cX6_place 10 = .ok (.lload 6, 2) := by decide +kernel
theorem dX6_place_12 : decode cX6_place 12 = .ok (.invokestatic 67, 3) := by decide +kernel
theorem dX6_place_15 : decode cX6_place 15 = .ok (.ifCond .eq 26, 3) := by decide +kernel
theorem dX6_place_18 : decode cX6_place 18 = .ok (.aload_n 0, 1) := by decide +kernel
theorem dX6_place_19 : decode cX6_place 19 = .ok (.getfield 34, 3) := by decide +kernel
theorem dX6_place_22 : decode cX6_place 22 = .ok (.iload_n 1, 1) := by decide +kernel
theorem dX6_place_23 : decode cX6_place 23 = .ok (.aaload, 1) := by decide +kernel
theorem dX6_place_24 : decode cX6_place 24 = .ok (.lload_n 2, 1) := by decide +kernel
theorem dX6_place_25 : decode cX6_place 25 = .ok (.lload 4, 2) := by decide +kernel
theorem dX6_place_27 : decode cX6_place 27 = .ok (.l2i, 1) := by decide +kernel
theorem dX6_place_28 : decode cX6_place 28 = .ok (.lload 6, 2) := by decide +kernel
theorem dX6_place_30 : decode cX6_place 30 = .ok (.l2i, 1) := by decide +kernel
theorem dX6_place_31 : decode cX6_place 31 = .ok (.invokevirtual 111, 3) := by decide +kernel
theorem dX6_place_34 : decode cX6_place 34 = .ok (.ifCond .eq 7, 3) := by decide +kernel
theorem dX6_place_37 : decode cX6_place 37 = .ok (.iconst 1, 1) := by decide +kernel
theorem dX6_place_38 : decode cX6_place 38 = .ok (.goto 4, 3) := by decide +kernel
theorem dX6_place_41 : decode cX6_place 41 = .ok (.iconst 0, 1) := by decide +kernel
theorem dX6_place_42 : decode cX6_place 42 = .ok (.ireturn, 1) := by decide +kernel
theorem dX6_run_0 : decode cX6_run 0 = .ok (.aload_n 0, 1) := by decide +kernel
theorem dX6_run_1 : decode cX6_run 1 = .ok (.iload_n 1, 1) := by decide +kernel
theorem dX6_run_2 : decode cX6_run 2 = .ok (.invokevirtual 108, 3) := by decide +kernel
theorem dX6_run_5 : decode cX6_run 5 = .ok (.ifCond .ne 5, 3) := by decide +kernel
theorem dX6_run_8 : decode cX6_run 8 = .ok (.iconst (-1), 1) := by decide +kernel
theorem dX6_run_9 : decode cX6_run 9 = .ok (.ireturn, 1) := by decide +kernel
theorem dX6_run_10 : decode cX6_run 10 = .ok (.iload_n 2, 1) := by decide +kernel
theorem dX6_run_11 : decode cX6_run 11 = .ok (.invokestatic 82, 3) := by decide +kernel
theorem dX6_run_14 : decode cX6_run 14 = .ok (.ifCond .ne 6, 3) := by decide +kernel
theorem dX6_run_17 : decode cX6_run 17 = .ok (.bipush (-2), 2) := by decide +kernel
theorem dX6_run_19 : decode cX6_run 19 = .ok (.ireturn, 1) := by decide +kernel
theorem dX6_run_20 : decode cX6_run 20 = .ok (.aload_n 0, 1) := by decide +kernel
theorem dX6_run_21 : decode cX6_run 21 = .ok (.getfield 57, 3) := by decide +kernel
theorem dX6_run_24 : decode cX6_run 24 = .ok (.invokevirtual 114, 3) := by decide +kernel
theorem dX6_run_27 : decode cX6_run 27 = .ok (.aload_n 0, 1) := by decide +kernel
theorem dX6_run_28 : decode cX6_run 28 = .ok (.getfield 34, 3) := by decide +kernel
theorem dX6_run_31 : decode cX6_run 31 = .ok (.iload_n 1, 1) := by decide +kernel
theorem dX6_run_32 : decode cX6_run 32 = .ok (.aaload, 1) := by decide +kernel
theorem dX6_run_33 : decode cX6_run 33 = .ok (.astore_n 3, 1) := by decide +kernel
theorem dX6_run_34 : decode cX6_run 34 = .ok (.iconst 0, 1) := by decide +kernel
theorem dX6_run_35 : decode cX6_run 35 = .ok (.istore 4, 2) := by decide +kernel
theorem dX6_run_37 : decode cX6_run 37 = .ok (.iload 4, 2) := by decide +kernel
theorem dX6_run_39 : decode cX6_run 39 = .ok (.aload_n 3, 1) := by decide +kernel
theorem dX6_run_40 : decode cX6_run 40 = .ok (.invokevirtual 117, 3) := by decide +kernel
theorem dX6_run_43 : decode cX6_run 43 = .ok (.if_icmp .ge 57, 3) := by decide +kernel
theorem dX6_run_46 : decode cX6_run 46 = .ok (.iconst 0, 1) := by decide +kernel
theorem dX6_run_47 : decode cX6_run 47 = .ok (.istore 5, 2) := by decide +kernel
theorem dX6_run_49 : decode cX6_run 49 = .ok (.iload 5, 2) := by decide +kernel
theorem dX6_run_51 : decode cX6_run 51 = .ok (.aload_n 0, 1) := by decide +kernel
theorem dX6_run_52 : decode cX6_run 52 = .ok (.getfield 20, 3) := by decide +kernel
theorem dX6_run_55 : decode cX6_run 55 = .ok (.arraylength, 1) := by decide +kernel
theorem dX6_run_56 : decode cX6_run 56 = .ok (.if_icmp .ge 38, 3) := by decide +kernel
theorem dX6_run_59 : decode cX6_run 59 = .ok (.aload_n 0, 1) := by decide +kernel
theorem dX6_run_60 : decode cX6_run 60 = .ok (.iload 5, 2) := by decide +kernel
theorem dX6_run_62 : decode cX6_run 62 = .ok (.iload_n 2, 1) := by decide +kernel
theorem dX6_run_63 : decode cX6_run 63 = .ok (.aload_n 3, 1) := by decide +kernel
theorem dX6_run_64 : decode cX6_run 64 = .ok (.iload 4, 2) := by decide +kernel
theorem dX6_run_66 : decode cX6_run 66 = .ok (.invokevirtual 120, 3) := by decide +kernel
theorem dX6_run_69 : decode cX6_run 69 = .ok (.ifCond .eq 19, 3) := by decide +kernel
theorem dX6_run_72 : decode cX6_run 72 = .ok (.aload_n 0, 1) := by decide +kernel
theorem dX6_run_73 : decode cX6_run 73 = .ok (.iload 5, 2) := by decide +kernel
theorem dX6_run_75 : decode cX6_run 75 = .ok (.iload_n 2, 1) := by decide +kernel
theorem dX6_run_76 : decode cX6_run 76 = .ok (.aload_n 3, 1) := by decide +kernel
theorem dX6_run_77 : decode cX6_run 77 = .ok (.iload 4, 2) := by decide +kernel
theorem dX6_run_79 : decode cX6_run 79 = .ok (.invokevirtual 124, 3) := by decide +kernel
theorem dX6_run_82 : decode cX6_run 82 = .ok (.ifCond .ne 6, 3) := by decide +kernel
theorem dX6_run_85 : decode cX6_run 85 = .ok (.bipush (-4), 2) := by decide +kernel
theorem dX6_run_87 : decode cX6_run 87 = .ok (.ireturn, 1) := by decide +kernel
theorem dX6_run_88 : decode cX6_run 88 = .ok (.iinc 5 1, 3) := by decide +kernel
theorem dX6_run_91 : decode cX6_run 91 = .ok (.goto (-42), 3) := by decide +kernel
theorem dX6_run_94 : decode cX6_run 94 = .ok (.iinc 4 1, 3) := by decide +kernel
theorem dX6_run_97 : decode cX6_run 97 = .ok (.goto (-60), 3) := by decide +kernel
theorem dX6_run_100 : decode cX6_run 100 = .ok (.aload_n 0, 1) := by decide +kernel
theorem dX6_run_101 : decode cX6_run 101 = .ok (.getfield 57, 3) := by decide +kernel
theorem dX6_run_104 : decode cX6_run 104 = .ok (.astore 4, 2) := by decide +kernel
theorem dX6_run_106 : decode cX6_run 106 = .ok (.aload_n 0, 1) := by decide +kernel
theorem dX6_run_107 : decode cX6_run 107 = .ok (.aload_n 0, 1) := by decide +kernel
theorem dX6_run_108 : decode cX6_run 108 = .ok (.getfield 53, 3) := by decide +kernel
theorem dX6_run_111 : decode cX6_run 111 = .ok (.putfield 57, 3) := by decide +kernel
theorem dX6_run_114 : decode cX6_run 114 = .ok (.aload_n 0, 1) := by decide +kernel
theorem dX6_run_115 : decode cX6_run 115 = .ok (.aload 4, 2) := by decide +kernel
theorem dX6_run_117 : decode cX6_run 117 = .ok (.putfield 53, 3) := by decide +kernel
theorem dX6_run_120 : decode cX6_run 120 = .ok (.aload_n 0, 1) := by decide +kernel
theorem dX6_run_121 : decode cX6_run 121 = .ok (.getfield 53, 3) := by decide +kernel
theorem dX6_run_124 : decode cX6_run 124 = .ok (.invokevirtual 127, 3) := by decide +kernel
theorem dX6_run_127 : decode cX6_run 127 = .ok (.ireturn, 1) := by decide +kernel
theorem dX6_entry_0 : decode cX6_entry 0 = .ok (.aload_n 0, 1) := by decide +kernel
theorem dX6_entry_1 : decode cX6_entry 1 = .ok (.getfield 53, 3) := by decide +kernel
theorem dX6_entry_4 : decode cX6_entry 4 = .ok (.iload_n 1, 1) := by decide +kernel
theorem dX6_entry_5 : decode cX6_entry 5 = .ok (.invokevirtual 130, 3) := by decide +kernel
theorem dX6_entry_8 : decode cX6_entry 8 = .ok (.ifCond .ne 7, 3) := by decide +kernel
theorem dX6_entry_11 : decode cX6_entry 11 = .ok (.ldc2_w 133, 3) := by decide +kernel
theorem dX6_entry_14 : decode cX6_entry 14 = .ok (.lreturn, 1) := by decide +kernel
theorem dX6_entry_15 : decode cX6_entry 15 = .ok (.iload_n 2, 1) := by decide +kernel
theorem dX6_entry_16 : decode cX6_entry 16 = .ok (.tableswitch 70 0 3 #[32, 42, 51, 60], 32) := by decide +kernel
theorem dX6_entry_48 : decode cX6_entry 48 = .ok (.aload_n 0, 1) := by decide +kernel
theorem dX6_entry_49 : decode cX6_entry 49 = .ok (.getfield 53, 3) := by decide +kernel
theorem dX6_entry_52 : decode cX6_entry 52 = .ok (.iload_n 1, 1) := by decide +kernel
theorem dX6_entry_53 : decode cX6_entry 53 = .ok (.invokevirtual 135, 3) := by decide +kernel
theorem dX6_entry_56 : decode cX6_entry 56 = .ok (.i2l, 1) := by decide +kernel
theorem dX6_entry_57 : decode cX6_entry 57 = .ok (.lreturn, 1) := by decide +kernel
theorem dX6_entry_58 : decode cX6_entry 58 = .ok (.aload_n 0, 1) := by decide +kernel
theorem dX6_entry_59 : decode cX6_entry 59 = .ok (.getfield 53, 3) := by decide +kernel
theorem dX6_entry_62 : decode cX6_entry 62 = .ok (.iload_n 1, 1) := by decide +kernel
theorem dX6_entry_63 : decode cX6_entry 63 = .ok (.invokevirtual 139, 3) := by decide +kernel
theorem dX6_entry_66 : decode cX6_entry 66 = .ok (.lreturn, 1) := by decide +kernel
theorem dX6_entry_67 : decode cX6_entry 67 = .ok (.aload_n 0, 1) := by decide +kernel
theorem dX6_entry_68 : decode cX6_entry 68 = .ok (.getfield 53, 3) := by decide +kernel
theorem dX6_entry_71 : decode cX6_entry 71 = .ok (.iload_n 1, 1) := by decide +kernel
theorem dX6_entry_72 : decode cX6_entry 72 = .ok (.invokevirtual 143, 3) := by decide +kernel
theorem dX6_entry_75 : decode cX6_entry 75 = .ok (.lreturn, 1) := by decide +kernel
theorem dX6_entry_76 : decode cX6_entry 76 = .ok (.aload_n 0, 1) := by decide +kernel
theorem dX6_entry_77 : decode cX6_entry 77 = .ok (.getfield 53, 3) := by decide +kernel
theorem dX6_entry_80 : decode cX6_entry 80 = .ok (.iload_n 1, 1) := by decide +kernel
theorem dX6_entry_81 : decode cX6_entry 81 = .ok (.invokevirtual 146, 3) := by decide +kernel
theorem dX6_entry_84 : decode cX6_entry 84 = .ok (.i2l, 1) := by decide +kernel
theorem dX6_entry_85 : decode cX6_entry 85 = .ok (.lreturn, 1) := by decide +kernel
theorem dX6_entry_86 : decode cX6_entry 86 = .ok (.ldc2_w 149, 3) := by decide +kernel
theorem dX6_entry_89 : decode cX6_entry 89 = .ok (.lreturn, 1) := by decide +kernel
theorem dX6_side_0 : decode cX6_side 0 = .ok (.aload_n 0, 1) := by decide +kernel
theorem dX6_side_1 : decode cX6_side 1 = .ok (.getfield 53, 3) := by decide +kernel
theorem dX6_side_4 : decode cX6_side 4 = .ok (.iload_n 1, 1) := by decide +kernel
theorem dX6_side_5 : decode cX6_side 5 = .ok (.invokevirtual 130, 3) := by decide +kernel
theorem dX6_side_8 : decode cX6_side 8 = .ok (.ifCond .ne 5, 3) := by decide +kernel
theorem dX6_side_11 : decode cX6_side 11 = .ok (.iconst (-1), 1) := by decide +kernel
theorem dX6_side_12 : decode cX6_side 12 = .ok (.ireturn, 1) := by decide +kernel
theorem dX6_side_13 : decode cX6_side 13 = .ok (.aload_n 0, 1) := by decide +kernel
theorem dX6_side_14 : decode cX6_side 14 = .ok (.getfield 53, 3) := by decide +kernel
theorem dX6_side_17 : decode cX6_side 17 = .ok (.iload_n 1, 1) := by decide +kernel
theorem dX6_side_18 : decode cX6_side 18 = .ok (.invokevirtual 151, 3) := by decide +kernel
theorem dX6_side_21 : decode cX6_side 21 = .ok (.ifCond .eq 7, 3) := by decide +kernel
theorem dX6_side_24 : decode cX6_side 24 = .ok (.iconst 1, 1) := by decide +kernel
theorem dX6_side_25 : decode cX6_side 25 = .ok (.goto 4, 3) := by decide +kernel
theorem dX6_side_28 : decode cX6_side 28 = .ok (.iconst 0, 1) := by decide +kernel
theorem dX6_side_29 : decode cX6_side 29 = .ok (.ireturn, 1) := by decide +kernel
theorem dX6_inside_0 : decode cX6_inside 0 = .ok (.aload_n 0, 1) := by decide +kernel
theorem dX6_inside_1 : decode cX6_inside 1 = .ok (.iload_n 1, 1) := by decide +kernel
theorem dX6_inside_2 : decode cX6_inside 2 = .ok (.invokevirtual 154, 3) := by decide +kernel
theorem dX6_inside_5 : decode cX6_inside 5 = .ok (.ifCond .eq 11, 3) := by decide +kernel
theorem dX6_inside_8 : decode cX6_inside 8 = .ok (.aload_n 0, 1) := by decide +kernel
theorem dX6_inside_9 : decode cX6_inside 9 = .ok (.iload_n 2, 1) := by decide +kernel
theorem dX6_inside_10 : decode cX6_inside 10 = .ok (.invokevirtual 108, 3) := by decide +kernel
theorem dX6_inside_13 : decode cX6_inside 13 = .ok (.ifCond .ne 7, 3) := by decide +kernel
theorem dX6_inside_16 : decode cX6_inside 16 = .ok (.ldc2_w 133, 3) := by decide +kernel
theorem dX6_inside_19 : decode cX6_inside 19 = .ok (.lreturn, 1) := by decide +kernel
theorem dX6_inside_20 : decode cX6_inside 20 = .ok (.aload_n 0, 1) := by decide +kernel
theorem dX6_inside_21 : decode cX6_inside 21 = .ok (.getfield 34, 3) := by decide +kernel
theorem dX6_inside_24 : decode cX6_inside 24 = .ok (.iload_n 2, 1) := by decide +kernel
theorem dX6_inside_25 : decode cX6_inside 25 = .ok (.aaload, 1) := by decide +kernel
theorem dX6_inside_26 : decode cX6_inside 26 = .ok (.astore 4, 2) := by decide +kernel
theorem dX6_inside_28 : decode cX6_inside 28 = .ok (.iload_n 3, 1) := by decide +kernel
theorem dX6_inside_29 : decode cX6_inside 29 = .ok (.ifCond .lt 26, 3) := by decide +kernel
theorem dX6_inside_32 : decode cX6_inside 32 = .ok (.iload_n 3, 1) := by decide +kernel
theorem dX6_inside_33 : decode cX6_inside 33 = .ok (.aload 4, 2) := by decide +kernel
theorem dX6_inside_35 : decode cX6_inside 35 = .ok (.invokevirtual 117, 3) := by decide +kernel
theorem dX6_inside_38 : decode cX6_inside 38 = .ok (.if_icmp .ge 17, 3) := by decide +kernel
theorem dX6_inside_41 : decode cX6_inside 41 = .ok (.aload_n 0, 1) := by decide +kernel
theorem dX6_inside_42 : decode cX6_inside 42 = .ok (.aload_n 0, 1) := by decide +kernel
theorem dX6_inside_43 : decode cX6_inside 43 = .ok (.getfield 20, 3) := by decide +kernel
theorem dX6_inside_46 : decode cX6_inside 46 = .ok (.iload_n 1, 1) := by decide +kernel
theorem dX6_inside_47 : decode cX6_inside 47 = .ok (.aaload, 1) := by decide +kernel
theorem dX6_inside_48 : decode cX6_inside 48 = .ok (.aload 4, 2) := by decide +kernel
theorem dX6_inside_50 : decode cX6_inside 50 = .ok (.iload_n 3, 1) := by decide +kernel
theorem dX6_inside_51 : decode cX6_inside 51 = .ok (.invokevirtual 157, 3) := by decide +kernel
theorem dX6_inside_54 : decode cX6_inside 54 = .ok (.lreturn, 1) := by decide +kernel
theorem dX6_inside_55 : decode cX6_inside 55 = .ok (.iload_n 3, 1) := by decide +kernel
theorem dX6_inside_56 : decode cX6_inside 56 = .ok (.iconst (-1), 1) := by decide +kernel
theorem dX6_inside_57 : decode cX6_inside 57 = .ok (.if_icmp .eq 7, 3) := by decide +kernel
theorem dX6_inside_60 : decode cX6_inside 60 = .ok (.ldc2_w 133, 3) := by decide +kernel
theorem dX6_inside_63 : decode cX6_inside 63 = .ok (.lreturn, 1) := by decide +kernel
theorem dX6_inside_64 : decode cX6_inside 64 = .ok (.lconst 0, 1) := by decide +kernel
theorem dX6_inside_65 : decode cX6_inside 65 = .ok (.lstore 5, 2) := by decide +kernel
theorem dX6_inside_67 : decode cX6_inside 67 = .ok (.iconst 0, 1) := by decide +kernel
theorem dX6_inside_68 : decode cX6_inside 68 = .ok (.istore 7, 2) := by decide +kernel
theorem dX6_inside_70 : decode cX6_inside 70 = .ok (.iload 7, 2) := by decide +kernel
theorem dX6_inside_72 : decode cX6_inside 72 = .ok (.aload 4, 2) := by decide +kernel
theorem dX6_inside_74 : decode cX6_inside 74 = .ok (.invokevirtual 117, 3) := by decide +kernel
theorem dX6_inside_77 : decode cX6_inside 77 = .ok (.if_icmp .ge 28, 3) := by decide +kernel
theorem dX6_inside_80 : decode cX6_inside 80 = .ok (.lload 5, 2) := by decide +kernel
theorem dX6_inside_82 : decode cX6_inside 82 = .ok (.aload_n 0, 1) := by decide +kernel
theorem dX6_inside_83 : decode cX6_inside 83 = .ok (.aload_n 0, 1) := by decide +kernel
theorem dX6_inside_84 : decode cX6_inside 84 = .ok (.getfield 20, 3) := by decide +kernel
theorem dX6_inside_87 : decode cX6_inside 87 = .ok (.iload_n 1, 1) := by decide +kernel
theorem dX6_inside_88 : decode cX6_inside 88 = .ok (.aaload, 1) := by decide +kernel
theorem dX6_inside_89 : decode cX6_inside 89 = .ok (.aload 4, 2) := by decide +kernel
theorem dX6_inside_91 : decode cX6_inside 91 = .ok (.iload 7, 2) := by decide +kernel
theorem dX6_inside_93 : decode cX6_inside 93 = .ok (.invokevirtual 157, 3) := by decide +kernel
theorem dX6_inside_96 : decode cX6_inside 96 = .ok (.ladd, 1) := by decide +kernel
theorem dX6_inside_97 : decode cX6_inside 97 = .ok (.lstore 5, 2) := by decide +kernel
theorem dX6_inside_99 : decode cX6_inside 99 = .ok (.iinc 7 1, 3) := by decide +kernel
theorem dX6_inside_102 : decode cX6_inside 102 = .ok (.goto (-32), 3) := by decide +kernel
theorem dX6_inside_105 : decode cX6_inside 105 = .ok (.lload 5, 2) := by decide +kernel
theorem dX6_inside_107 : decode cX6_inside 107 = .ok (.lreturn, 1) := by decide +kernel
theorem dX6_maybe_0 : decode cX6_maybe 0 = .ok (.aload_n 0, 1) := by decide +kernel
theorem dX6_maybe_1 : decode cX6_maybe 1 = .ok (.iload_n 1, 1) := by decide +kernel
theorem dX6_maybe_2 : decode cX6_maybe 2 = .ok (.invokevirtual 108, 3) := by decide +kernel
theorem dX6_maybe_5 : decode cX6_maybe 5 = .ok (.ifCond .ne 5, 3) := by decide +kernel
theorem dX6_maybe_8 : decode cX6_maybe 8 = .ok (.iconst 0, 1) := by decide +kernel
theorem dX6_maybe_9 : decode cX6_maybe 9 = .ok (.ireturn, 1) := by decide +kernel
theorem dX6_maybe_10 : decode cX6_maybe 10 = .ok (.aload_n 0, 1) := by decide +kernel
theorem dX6_maybe_11 : decode cX6_maybe 11 = .ok (.getfield 34, 3) := by decide +kernel
theorem dX6_maybe_14 : decode cX6_maybe 14 = .ok (.iload_n 1, 1) := by decide +kernel
theorem dX6_maybe_15 : decode cX6_maybe 15 = .ok (.aaload, 1) := by decide +kernel
theorem dX6_maybe_16 : decode cX6_maybe 16 = .ok (.iload_n 2, 1) := by decide +kernel
theorem dX6_maybe_17 : decode cX6_maybe 17 = .ok (.invokevirtual 161, 3) := by decide +kernel
theorem dX6_maybe_20 : decode cX6_maybe 20 = .ok (.istore_n 3, 1) := by decide +kernel
theorem dX6_maybe_21 : decode cX6_maybe 21 = .ok (.iload_n 3, 1) := by decide +kernel
theorem dX6_maybe_22 : decode cX6_maybe 22 = .ok (.ifCond .ge 5, 3) := by decide +kernel
theorem dX6_maybe_25 : decode cX6_maybe 25 = .ok (.iconst 0, 1) := by decide +kernel
theorem dX6_maybe_26 : decode cX6_maybe 26 = .ok (.ireturn, 1) := by decide +kernel
theorem dX6_maybe_27 : decode cX6_maybe 27 = .ok (.iconst 0, 1) := by decide +kernel
theorem dX6_maybe_28 : decode cX6_maybe 28 = .ok (.istore 4, 2) := by decide +kernel
theorem dX6_maybe_30 : decode cX6_maybe 30 = .ok (.iload 4, 2) := by decide +kernel
theorem dX6_maybe_32 : decode cX6_maybe 32 = .ok (.aload_n 0, 1) := by decide +kernel
theorem dX6_maybe_33 : decode cX6_maybe 33 = .ok (.getfield 20, 3) := by decide +kernel
theorem dX6_maybe_36 : decode cX6_maybe 36 = .ok (.arraylength, 1) := by decide +kernel
theorem dX6_maybe_37 : decode cX6_maybe 37 = .ok (.if_icmp .ge 40, 3) := by decide +kernel
theorem dX6_maybe_40 : decode cX6_maybe 40 = .ok (.aload_n 0, 1) := by decide +kernel
theorem dX6_maybe_41 : decode cX6_maybe 41 = .ok (.iload 4, 2) := by decide +kernel
theorem dX6_maybe_43 : decode cX6_maybe 43 = .ok (.invokevirtual 154, 3) := by decide +kernel
theorem dX6_maybe_46 : decode cX6_maybe 46 = .ok (.ifCond .eq 25, 3) := by decide +kernel
theorem dX6_maybe_49 : decode cX6_maybe 49 = .ok (.aload_n 0, 1) := by decide +kernel
theorem dX6_maybe_50 : decode cX6_maybe 50 = .ok (.getfield 20, 3) := by decide +kernel
theorem dX6_maybe_53 : decode cX6_maybe 53 = .ok (.iload 4, 2) := by decide +kernel
theorem dX6_maybe_55 : decode cX6_maybe 55 = .ok (.aaload, 1) := by decide +kernel
theorem dX6_maybe_56 : decode cX6_maybe 56 = .ok (.aload_n 0, 1) := by decide +kernel
theorem dX6_maybe_57 : decode cX6_maybe 57 = .ok (.getfield 34, 3) := by decide +kernel
theorem dX6_maybe_60 : decode cX6_maybe 60 = .ok (.iload_n 1, 1) := by decide +kernel
theorem dX6_maybe_61 : decode cX6_maybe 61 = .ok (.aaload, 1) := by decide +kernel
theorem dX6_maybe_62 : decode cX6_maybe 62 = .ok (.iload_n 3, 1) := by decide +kernel
theorem dX6_maybe_63 : decode cX6_maybe 63 = .ok (.invokestatic 164, 3) := by decide +kernel
theorem dX6_maybe_66 : decode cX6_maybe 66 = .ok (.ifCond .eq 5, 3) := by decide +kernel
theorem dX6_maybe_69 : decode cX6_maybe 69 = .ok (.iconst 1, 1) := by decide +kernel
theorem dX6_maybe_70 : decode cX6_maybe 70 = .ok (.ireturn, 1) := by decide +kernel
theorem dX6_maybe_71 : decode cX6_maybe 71 = .ok (.iinc 4 1, 3) := by decide +kernel
theorem dX6_maybe_74 : decode cX6_maybe 74 = .ok (.goto (-44), 3) := by decide +kernel
theorem dX6_maybe_77 : decode cX6_maybe 77 = .ok (.iconst 0, 1) := by decide +kernel
theorem dX6_maybe_78 : decode cX6_maybe 78 = .ok (.ireturn, 1) := by decide +kernel
theorem dX6_buffer_0 : decode cX6_buffer 0 = .ok (.aload_n 0, 1) := by decide +kernel
theorem dX6_buffer_1 : decode cX6_buffer 1 = .ok (.iload_n 1, 1) := by decide +kernel
theorem dX6_buffer_2 : decode cX6_buffer 2 = .ok (.invokevirtual 154, 3) := by decide +kernel
theorem dX6_buffer_5 : decode cX6_buffer 5 = .ok (.ifCond .ne 5, 3) := by decide +kernel
theorem dX6_buffer_8 : decode cX6_buffer 8 = .ok (.iconst (-1), 1) := by decide +kernel
theorem dX6_buffer_9 : decode cX6_buffer 9 = .ok (.ireturn, 1) := by decide +kernel
theorem dX6_buffer_10 : decode cX6_buffer 10 = .ok (.lload_n 2, 1) := by decide +kernel
theorem dX6_buffer_11 : decode cX6_buffer 11 = .ok (.lconst 0, 1) := by decide +kernel
theorem dX6_buffer_12 : decode cX6_buffer 12 = .ok (.lcmp, 1) := by decide +kernel
theorem dX6_buffer_13 : decode cX6_buffer 13 = .ok (.ifCond .lt 11, 3) := by decide +kernel
theorem dX6_buffer_16 : decode cX6_buffer 16 = .ok (.lload_n 2, 1) := by decide +kernel
theorem dX6_buffer_17 : decode cX6_buffer 17 = .ok (.ldc2_w 168, 3) := by decide +kernel
theorem dX6_buffer_20 : decode cX6_buffer 20 = .ok (.lcmp, 1) := by decide +kernel
theorem dX6_buffer_21 : decode cX6_buffer 21 = .ok (.ifCond .le 6, 3) := by decide +kernel
theorem dX6_buffer_24 : decode cX6_buffer 24 = .ok (.bipush (-2), 2) := by decide +kernel
theorem dX6_buffer_26 : decode cX6_buffer 26 = .ok (.ireturn, 1) := by decide +kernel
theorem dX6_buffer_27 : decode cX6_buffer 27 = .ok (.iconst 0, 1) := by decide +kernel
theorem dX6_buffer_28 : decode cX6_buffer 28 = .ok (.istore 4, 2) := by decide +kernel
theorem dX6_buffer_30 : decode cX6_buffer 30 = .ok (.iconst 0, 1) := by decide +kernel
theorem dX6_buffer_31 : decode cX6_buffer 31 = .ok (.istore 5, 2) := by decide +kernel
theorem dX6_buffer_33 : decode cX6_buffer 33 = .ok (.iload 5, 2) := by decide +kernel
theorem dX6_buffer_35 : decode cX6_buffer 35 = .ok (.aload_n 0, 1) := by decide +kernel
theorem dX6_buffer_36 : decode cX6_buffer 36 = .ok (.getfield 39, 3) := by decide +kernel
theorem dX6_buffer_39 : decode cX6_buffer 39 = .ok (.if_icmp .ge 79, 3) := by decide +kernel
theorem dX6_buffer_42 : decode cX6_buffer 42 = .ok (.iload 5, 2) := by decide +kernel
theorem dX6_buffer_44 : decode cX6_buffer 44 = .ok (.aload_n 0, 1) := by decide +kernel
theorem dX6_buffer_45 : decode cX6_buffer 45 = .ok (.getfield 34, 3) := by decide +kernel
theorem dX6_buffer_48 : decode cX6_buffer 48 = .ok (.arraylength, 1) := by decide +kernel
theorem dX6_buffer_49 : decode cX6_buffer 49 = .ok (.if_icmp .ge 69, 3) := by decide +kernel
theorem dX6_buffer_52 : decode cX6_buffer 52 = .ok (.aload_n 0, 1) := by decide +kernel
theorem dX6_buffer_53 : decode cX6_buffer 53 = .ok (.getfield 34, 3) := by decide +kernel
theorem dX6_buffer_56 : decode cX6_buffer 56 = .ok (.iload 5, 2) := by decide +kernel
theorem dX6_buffer_58 : decode cX6_buffer 58 = .ok (.aaload, 1) := by decide +kernel
theorem dX6_buffer_59 : decode cX6_buffer 59 = .ok (.astore 6, 2) := by decide +kernel
theorem dX6_buffer_61 : decode cX6_buffer 61 = .ok (.iconst 0, 1) := by decide +kernel
theorem dX6_buffer_62 : decode cX6_buffer 62 = .ok (.istore 7, 2) := by decide +kernel
theorem dX6_buffer_64 : decode cX6_buffer 64 = .ok (.iload 7, 2) := by decide +kernel
theorem dX6_buffer_66 : decode cX6_buffer 66 = .ok (.aload 6, 2) := by decide +kernel
theorem dX6_buffer_68 : decode cX6_buffer 68 = .ok (.invokevirtual 170, 3) := by decide +kernel
theorem dX6_buffer_71 : decode cX6_buffer 71 = .ok (.if_icmp .ge 41, 3) := by decide +kernel
theorem dX6_buffer_74 : decode cX6_buffer 74 = .ok (.aload_n 0, 1) := by decide +kernel
theorem dX6_buffer_75 : decode cX6_buffer 75 = .ok (.getfield 20, 3) := by decide +kernel
theorem dX6_buffer_78 : decode cX6_buffer 78 = .ok (.iload_n 1, 1) := by decide +kernel
theorem dX6_buffer_79 : decode cX6_buffer 79 = .ok (.aaload, 1) := by decide +kernel
theorem dX6_buffer_80 : decode cX6_buffer 80 = .ok (.aload 6, 2) := by decide +kernel
theorem dX6_buffer_82 : decode cX6_buffer 82 = .ok (.iload 7, 2) := by decide +kernel
theorem dX6_buffer_84 : decode cX6_buffer 84 = .ok (.invokevirtual 173, 3) := by decide +kernel
theorem dX6_buffer_87 : decode cX6_buffer 87 = .ok (.i2l, 1) := by decide +kernel
theorem dX6_buffer_88 : decode cX6_buffer 88 = .ok (.aload 6, 2) := by decide +kernel
theorem dX6_buffer_90 : decode cX6_buffer 90 = .ok (.iload 7, 2) := by decide +kernel
theorem dX6_buffer_92 : decode cX6_buffer 92 = .ok (.invokevirtual 176, 3) := by decide +kernel
theorem dX6_buffer_95 : decode cX6_buffer 95 = .ok (.i2l, 1) := by decide +kernel
theorem dX6_buffer_96 : decode cX6_buffer 96 = .ok (.lload_n 2, 1) := by decide +kernel
theorem dX6_buffer_97 : decode cX6_buffer 97 = .ok (.invokevirtual 179, 3) := by decide +kernel
theorem dX6_buffer_100 : decode cX6_buffer 100 = .ok (.ifCond .eq 6, 3) := by decide +kernel
theorem dX6_buffer_103 : decode cX6_buffer 103 = .ok (.iinc 4 1, 3) := by decide +kernel
theorem dX6_buffer_106 : decode cX6_buffer 106 = .ok (.iinc 7 1, 3) := by decide +kernel
theorem dX6_buffer_109 : decode cX6_buffer 109 = .ok (.goto (-45), 3) := by decide +kernel
theorem dX6_buffer_112 : decode cX6_buffer 112 = .ok (.iinc 5 1, 3) := by decide +kernel
theorem dX6_buffer_115 : decode cX6_buffer 115 = .ok (.goto (-82), 3) := by decide +kernel
theorem dX6_buffer_118 : decode cX6_buffer 118 = .ok (.iload 4, 2) := by decide +kernel
theorem dX6_buffer_120 : decode cX6_buffer 120 = .ok (.ireturn, 1) := by decide +kernel
theorem dX6_told_0 : decode cX6_told 0 = .ok (.aload_n 0, 1) := by decide +kernel
theorem dX6_told_1 : decode cX6_told 1 = .ok (.iload_n 1, 1) := by decide +kernel
theorem dX6_told_2 : decode cX6_told 2 = .ok (.invokevirtual 154, 3) := by decide +kernel
theorem dX6_told_5 : decode cX6_told 5 = .ok (.ifCond .eq 19, 3) := by decide +kernel
theorem dX6_told_8 : decode cX6_told 8 = .ok (.aload_n 0, 1) := by decide +kernel
theorem dX6_told_9 : decode cX6_told 9 = .ok (.getfield 28, 3) := by decide +kernel
theorem dX6_told_12 : decode cX6_told 12 = .ok (.iload_n 1, 1) := by decide +kernel
theorem dX6_told_13 : decode cX6_told 13 = .ok (.lload_n 2, 1) := by decide +kernel
theorem dX6_told_14 : decode cX6_told 14 = .ok (.invokevirtual 183, 3) := by decide +kernel
theorem dX6_told_17 : decode cX6_told 17 = .ok (.ifCond .eq 7, 3) := by decide +kernel
theorem dX6_told_20 : decode cX6_told 20 = .ok (.iconst 1, 1) := by decide +kernel
theorem dX6_told_21 : decode cX6_told 21 = .ok (.goto 4, 3) := by decide +kernel
theorem dX6_told_24 : decode cX6_told 24 = .ok (.iconst 0, 1) := by decide +kernel
theorem dX6_told_25 : decode cX6_told 25 = .ok (.ireturn, 1) := by decide +kernel
theorem dX6_overlap_0 : decode cX6_overlap 0 = .ok (.aload_n 0, 1) := by decide +kernel
theorem dX6_overlap_1 : decode cX6_overlap 1 = .ok (.iload_n 1, 1) := by decide +kernel
theorem dX6_overlap_2 : decode cX6_overlap 2 = .ok (.invokevirtual 154, 3) := by decide +kernel
theorem dX6_overlap_5 : decode cX6_overlap 5 = .ok (.ifCond .eq 16, 3) := by decide +kernel
theorem dX6_overlap_8 : decode cX6_overlap 8 = .ok (.aload_n 0, 1) := by decide +kernel
theorem dX6_overlap_9 : decode cX6_overlap 9 = .ok (.iload_n 2, 1) := by decide +kernel
theorem dX6_overlap_10 : decode cX6_overlap 10 = .ok (.invokevirtual 154, 3) := by decide +kernel
theorem dX6_overlap_13 : decode cX6_overlap 13 = .ok (.ifCond .eq 8, 3) := by decide +kernel
theorem dX6_overlap_16 : decode cX6_overlap 16 = .ok (.iload_n 1, 1) := by decide +kernel
theorem dX6_overlap_17 : decode cX6_overlap 17 = .ok (.iload_n 2, 1) := by decide +kernel
theorem dX6_overlap_18 : decode cX6_overlap 18 = .ok (.if_icmp .ne 5, 3) := by decide +kernel
theorem dX6_overlap_21 : decode cX6_overlap 21 = .ok (.iconst (-1), 1) := by decide +kernel
theorem dX6_overlap_22 : decode cX6_overlap 22 = .ok (.ireturn, 1) := by decide +kernel
theorem dX6_overlap_23 : decode cX6_overlap 23 = .ok (.aload_n 0, 1) := by decide +kernel
theorem dX6_overlap_24 : decode cX6_overlap 24 = .ok (.getfield 20, 3) := by decide +kernel
theorem dX6_overlap_27 : decode cX6_overlap 27 = .ok (.iload_n 1, 1) := by decide +kernel
theorem dX6_overlap_28 : decode cX6_overlap 28 = .ok (.aaload, 1) := by decide +kernel
theorem dX6_overlap_29 : decode cX6_overlap 29 = .ok (.invokevirtual 187, 3) := by decide +kernel
theorem dX6_overlap_32 : decode cX6_overlap 32 = .ok (.astore_n 3, 1) := by decide +kernel
theorem dX6_overlap_33 : decode cX6_overlap 33 = .ok (.aload_n 0, 1) := by decide +kernel
theorem dX6_overlap_34 : decode cX6_overlap 34 = .ok (.getfield 20, 3) := by decide +kernel
theorem dX6_overlap_37 : decode cX6_overlap 37 = .ok (.iload_n 2, 1) := by decide +kernel
theorem dX6_overlap_38 : decode cX6_overlap 38 = .ok (.aaload, 1) := by decide +kernel
theorem dX6_overlap_39 : decode cX6_overlap 39 = .ok (.invokevirtual 187, 3) := by decide +kernel
theorem dX6_overlap_42 : decode cX6_overlap 42 = .ok (.astore 4, 2) := by decide +kernel
theorem dX6_overlap_44 : decode cX6_overlap 44 = .ok (.aload_n 3, 1) := by decide +kernel
theorem dX6_overlap_45 : decode cX6_overlap 45 = .ok (.aload 4, 2) := by decide +kernel
theorem dX6_overlap_47 : decode cX6_overlap 47 = .ok (.invokevirtual 191, 3) := by decide +kernel
theorem dX6_overlap_50 : decode cX6_overlap 50 = .ok (.ifCond .eq 5, 3) := by decide +kernel
theorem dX6_overlap_53 : decode cX6_overlap 53 = .ok (.iconst 1, 1) := by decide +kernel
theorem dX6_overlap_54 : decode cX6_overlap 54 = .ok (.ireturn, 1) := by decide +kernel
theorem dX6_overlap_55 : decode cX6_overlap 55 = .ok (.aload 4, 2) := by decide +kernel
theorem dX6_overlap_57 : decode cX6_overlap 57 = .ok (.aload_n 3, 1) := by decide +kernel
theorem dX6_overlap_58 : decode cX6_overlap 58 = .ok (.invokevirtual 197, 3) := by decide +kernel
theorem dX6_overlap_61 : decode cX6_overlap 61 = .ok (.ifCond .eq 5, 3) := by decide +kernel
theorem dX6_overlap_64 : decode cX6_overlap 64 = .ok (.iconst 2, 1) := by decide +kernel
theorem dX6_overlap_65 : decode cX6_overlap 65 = .ok (.ireturn, 1) := by decide +kernel
theorem dX6_overlap_66 : decode cX6_overlap 66 = .ok (.aload_n 3, 1) := by decide +kernel
theorem dX6_overlap_67 : decode cX6_overlap 67 = .ok (.aload 4, 2) := by decide +kernel
theorem dX6_overlap_69 : decode cX6_overlap 69 = .ok (.invokevirtual 197, 3) := by decide +kernel
theorem dX6_overlap_72 : decode cX6_overlap 72 = .ok (.ifCond .eq 7, 3) := by decide +kernel
theorem dX6_overlap_75 : decode cX6_overlap 75 = .ok (.iconst 3, 1) := by decide +kernel
theorem dX6_overlap_76 : decode cX6_overlap 76 = .ok (.goto 4, 3) := by decide +kernel
theorem dX6_overlap_79 : decode cX6_overlap 79 = .ok (.iconst 0, 1) := by decide +kernel
theorem dX6_overlap_80 : decode cX6_overlap 80 = .ok (.ireturn, 1) := by decide +kernel
theorem dX6_cell_0 : decode cX6_cell 0 = .ok (.iload_n 1, 1) := by decide +kernel
theorem dX6_cell_1 : decode cX6_cell 1 = .ok (.i2l, 1) := by decide +kernel
theorem dX6_cell_2 : decode cX6_cell 2 = .ok (.iload_n 2, 1) := by decide +kernel
theorem dX6_cell_3 : decode cX6_cell 3 = .ok (.i2l, 1) := by decide +kernel
theorem dX6_cell_4 : decode cX6_cell 4 = .ok (.invokestatic 67, 3) := by decide +kernel
theorem dX6_cell_7 : decode cX6_cell 7 = .ok (.ifCond .ne 5, 3) := by decide +kernel
theorem dX6_cell_10 : decode cX6_cell 10 = .ok (.iconst 0, 1) := by decide +kernel
theorem dX6_cell_11 : decode cX6_cell 11 = .ok (.ireturn, 1) := by decide +kernel
theorem dX6_cell_12 : decode cX6_cell 12 = .ok (.iconst 0, 1) := by decide +kernel
theorem dX6_cell_13 : decode cX6_cell 13 = .ok (.istore 5, 2) := by decide +kernel
theorem dX6_cell_15 : decode cX6_cell 15 = .ok (.iconst 0, 1) := by decide +kernel
theorem dX6_cell_16 : decode cX6_cell 16 = .ok (.istore 6, 2) := by decide +kernel
theorem dX6_cell_18 : decode cX6_cell 18 = .ok (.iload 6, 2) := by decide +kernel
theorem dX6_cell_20 : decode cX6_cell 20 = .ok (.aload_n 0, 1) := by decide +kernel
theorem dX6_cell_21 : decode cX6_cell 21 = .ok (.getfield 20, 3) := by decide +kernel
theorem dX6_cell_24 : decode cX6_cell 24 = .ok (.arraylength, 1) := by decide +kernel
theorem dX6_cell_25 : decode cX6_cell 25 = .ok (.if_icmp .ge 52, 3) := by decide +kernel
theorem dX6_cell_28 : decode cX6_cell 28 = .ok (.aload_n 0, 1) := by decide +kernel
theorem dX6_cell_29 : decode cX6_cell 29 = .ok (.iload 6, 2) := by decide +kernel
theorem dX6_cell_31 : decode cX6_cell 31 = .ok (.invokevirtual 154, 3) := by decide +kernel
theorem dX6_cell_34 : decode cX6_cell 34 = .ok (.ifCond .eq 37, 3) := by decide +kernel
theorem dX6_cell_37 : decode cX6_cell 37 = .ok (.aload_n 0, 1) := by decide +kernel
theorem dX6_cell_38 : decode cX6_cell 38 = .ok (.getfield 28, 3) := by decide +kernel
theorem dX6_cell_41 : decode cX6_cell 41 = .ok (.iload 6, 2) := by decide +kernel
theorem dX6_cell_43 : decode cX6_cell 43 = .ok (.lload_n 3, 1) := by decide +kernel
theorem dX6_cell_44 : decode cX6_cell 44 = .ok (.invokevirtual 183, 3) := by decide +kernel
theorem dX6_cell_47 : decode cX6_cell 47 = .ok (.ifCond .eq 24, 3) := by decide +kernel
theorem dX6_cell_50 : decode cX6_cell 50 = .ok (.aload_n 0, 1) := by decide +kernel
theorem dX6_cell_51 : decode cX6_cell 51 = .ok (.getfield 20, 3) := by decide +kernel
theorem dX6_cell_54 : decode cX6_cell 54 = .ok (.iload 6, 2) := by decide +kernel
theorem dX6_cell_56 : decode cX6_cell 56 = .ok (.aaload, 1) := by decide +kernel
theorem dX6_cell_57 : decode cX6_cell 57 = .ok (.iload_n 1, 1) := by decide +kernel
theorem dX6_cell_58 : decode cX6_cell 58 = .ok (.i2l, 1) := by decide +kernel
theorem dX6_cell_59 : decode cX6_cell 59 = .ok (.iload_n 2, 1) := by decide +kernel
theorem dX6_cell_60 : decode cX6_cell 60 = .ok (.i2l, 1) := by decide +kernel
theorem dX6_cell_61 : decode cX6_cell 61 = .ok (.lconst 1, 1) := by decide +kernel
theorem dX6_cell_62 : decode cX6_cell 62 = .ok (.invokevirtual 200, 3) := by decide +kernel
theorem dX6_cell_65 : decode cX6_cell 65 = .ok (.ifCond .eq 6, 3) := by decide +kernel
theorem dX6_cell_68 : decode cX6_cell 68 = .ok (.iinc 5 1, 3) := by decide +kernel
theorem dX6_cell_71 : decode cX6_cell 71 = .ok (.iinc 6 1, 3) := by decide +kernel
theorem dX6_cell_74 : decode cX6_cell 74 = .ok (.goto (-56), 3) := by decide +kernel
theorem dX6_cell_77 : decode cX6_cell 77 = .ok (.iload 5, 2) := by decide +kernel
theorem dX6_cell_79 : decode cX6_cell 79 = .ok (.ireturn, 1) := by decide +kernel
theorem dX6_isArea_0 : decode cX6_isArea 0 = .ok (.iload_n 1, 1) := by decide +kernel
theorem dX6_isArea_1 : decode cX6_isArea 1 = .ok (.ifCond .lt 16, 3) := by decide +kernel
theorem dX6_isArea_4 : decode cX6_isArea 4 = .ok (.iload_n 1, 1) := by decide +kernel
theorem dX6_isArea_5 : decode cX6_isArea 5 = .ok (.aload_n 0, 1) := by decide +kernel
theorem dX6_isArea_6 : decode cX6_isArea 6 = .ok (.getfield 20, 3) := by decide +kernel
theorem dX6_isArea_9 : decode cX6_isArea 9 = .ok (.arraylength, 1) := by decide +kernel
theorem dX6_isArea_10 : decode cX6_isArea 10 = .ok (.if_icmp .ge 7, 3) := by decide +kernel
theorem dX6_isArea_13 : decode cX6_isArea 13 = .ok (.iconst 1, 1) := by decide +kernel
theorem dX6_isArea_14 : decode cX6_isArea 14 = .ok (.goto 4, 3) := by decide +kernel
theorem dX6_isArea_17 : decode cX6_isArea 17 = .ok (.iconst 0, 1) := by decide +kernel
theorem dX6_isArea_18 : decode cX6_isArea 18 = .ok (.ireturn, 1) := by decide +kernel
theorem dX6_isThere_0 : decode cX6_isThere 0 = .ok (.aload_n 0, 1) := by decide +kernel
theorem dX6_isThere_1 : decode cX6_isThere 1 = .ok (.iload_n 1, 1) := by decide +kernel
theorem dX6_isThere_2 : decode cX6_isThere 2 = .ok (.invokevirtual 60, 3) := by decide +kernel
theorem dX6_isThere_5 : decode cX6_isThere 5 = .ok (.ifCond .eq 19, 3) := by decide +kernel
theorem dX6_isThere_8 : decode cX6_isThere 8 = .ok (.aload_n 0, 1) := by decide +kernel
theorem dX6_isThere_9 : decode cX6_isThere 9 = .ok (.getfield 20, 3) := by decide +kernel
theorem dX6_isThere_12 : decode cX6_isThere 12 = .ok (.iload_n 1, 1) := by decide +kernel
theorem dX6_isThere_13 : decode cX6_isThere 13 = .ok (.aaload, 1) := by decide +kernel
theorem dX6_isThere_14 : decode cX6_isThere 14 = .ok (.invokevirtual 203, 3) := by decide +kernel
theorem dX6_isThere_17 : decode cX6_isThere 17 = .ok (.ifCond .eq 7, 3) := by decide +kernel
theorem dX6_isThere_20 : decode cX6_isThere 20 = .ok (.iconst 1, 1) := by decide +kernel
theorem dX6_isThere_21 : decode cX6_isThere 21 = .ok (.goto 4, 3) := by decide +kernel
theorem dX6_isThere_24 : decode cX6_isThere 24 = .ok (.iconst 0, 1) := by decide +kernel
theorem dX6_isThere_25 : decode cX6_isThere 25 = .ok (.ireturn, 1) := by decide +kernel
theorem dX6_isTrack_0 : decode cX6_isTrack 0 = .ok (.iload_n 1, 1) := by decide +kernel
theorem dX6_isTrack_1 : decode cX6_isTrack 1 = .ok (.ifCond .lt 24, 3) := by decide +kernel
theorem dX6_isTrack_4 : decode cX6_isTrack 4 = .ok (.iload_n 1, 1) := by decide +kernel
theorem dX6_isTrack_5 : decode cX6_isTrack 5 = .ok (.aload_n 0, 1) := by decide +kernel
theorem dX6_isTrack_6 : decode cX6_isTrack 6 = .ok (.getfield 39, 3) := by decide +kernel
theorem dX6_isTrack_9 : decode cX6_isTrack 9 = .ok (.if_icmp .ge 16, 3) := by decide +kernel
theorem dX6_isTrack_12 : decode cX6_isTrack 12 = .ok (.iload_n 1, 1) := by decide +kernel
theorem dX6_isTrack_13 : decode cX6_isTrack 13 = .ok (.aload_n 0, 1) := by decide +kernel
theorem dX6_isTrack_14 : decode cX6_isTrack 14 = .ok (.getfield 34, 3) := by decide +kernel
theorem dX6_isTrack_17 : decode cX6_isTrack 17 = .ok (.arraylength, 1) := by decide +kernel
theorem dX6_isTrack_18 : decode cX6_isTrack 18 = .ok (.if_icmp .ge 7, 3) := by decide +kernel
theorem dX6_isTrack_21 : decode cX6_isTrack 21 = .ok (.iconst 1, 1) := by decide +kernel
theorem dX6_isTrack_22 : decode cX6_isTrack 22 = .ok (.goto 4, 3) := by decide +kernel
theorem dX6_isTrack_25 : decode cX6_isTrack 25 = .ok (.iconst 0, 1) := by decide +kernel
theorem dX6_isTrack_26 : decode cX6_isTrack 26 = .ok (.ireturn, 1) := by decide +kernel
theorem dX6_isGear_0 : decode cX6_isGear 0 = .ok (.iload_n 0, 1) := by decide +kernel
theorem dX6_isGear_1 : decode cX6_isGear 1 = .ok (.ifCond .lt 13, 3) := by decide +kernel
theorem dX6_isGear_4 : decode cX6_isGear 4 = .ok (.iload_n 0, 1) := by decide +kernel
theorem dX6_isGear_5 : decode cX6_isGear 5 = .ok (.bipush 8, 2) := by decide +kernel
theorem dX6_isGear_7 : decode cX6_isGear 7 = .ok (.if_icmp .ge 7, 3) := by decide +kernel
theorem dX6_isGear_10 : decode cX6_isGear 10 = .ok (.iconst 1, 1) := by decide +kernel
theorem dX6_isGear_11 : decode cX6_isGear 11 = .ok (.goto 4, 3) := by decide +kernel
theorem dX6_isGear_14 : decode cX6_isGear 14 = .ok (.iconst 0, 1) := by decide +kernel
theorem dX6_isGear_15 : decode cX6_isGear 15 = .ok (.ireturn, 1) := by decide +kernel
theorem dX6_isPlace_0 : decode cX6_isPlace 0 = .ok (.lload_n 0, 1) := by decide +kernel
theorem dX6_isPlace_1 : decode cX6_isPlace 1 = .ok (.invokestatic 205, 3) := by decide +kernel
theorem dX6_isPlace_4 : decode cX6_isPlace 4 = .ok (.ifCond .eq 14, 3) := by decide +kernel
theorem dX6_isPlace_7 : decode cX6_isPlace 7 = .ok (.lload_n 2, 1) := by decide +kernel
theorem dX6_isPlace_8 : decode cX6_isPlace 8 = .ok (.invokestatic 205, 3) := by decide +kernel
theorem dX6_isPlace_11 : decode cX6_isPlace 11 = .ok (.ifCond .eq 7, 3) := by decide +kernel
theorem dX6_isPlace_14 : decode cX6_isPlace 14 = .ok (.iconst 1, 1) := by decide +kernel
theorem dX6_isPlace_15 : decode cX6_isPlace 15 = .ok (.goto 4, 3) := by decide +kernel
theorem dX6_isPlace_18 : decode cX6_isPlace 18 = .ok (.iconst 0, 1) := by decide +kernel
theorem dX6_isPlace_19 : decode cX6_isPlace 19 = .ok (.ireturn, 1) := by decide +kernel
theorem dX6_isCoordinate_0 : decode cX6_isCoordinate 0 = .ok (.lload_n 0, 1) := by decide +kernel
theorem dX6_isCoordinate_1 : decode cX6_isCoordinate 1 = .ok (.ldc2_w 209, 3) := by decide +kernel
theorem dX6_isCoordinate_4 : decode cX6_isCoordinate 4 = .ok (.lcmp, 1) := by decide +kernel
theorem dX6_isCoordinate_5 : decode cX6_isCoordinate 5 = .ok (.ifCond .lt 15, 3) := by decide +kernel
theorem dX6_isCoordinate_8 : decode cX6_isCoordinate 8 = .ok (.lload_n 0, 1) := by decide +kernel
theorem dX6_isCoordinate_9 : decode cX6_isCoordinate 9 = .ok (.ldc2_w 211, 3) := by decide +kernel
theorem dX6_isCoordinate_12 : decode cX6_isCoordinate 12 = .ok (.lcmp, 1) := by decide +kernel
theorem dX6_isCoordinate_13 : decode cX6_isCoordinate 13 = .ok (.ifCond .gt 7, 3) := by decide +kernel
theorem dX6_isCoordinate_16 : decode cX6_isCoordinate 16 = .ok (.iconst 1, 1) := by decide +kernel
theorem dX6_isCoordinate_17 : decode cX6_isCoordinate 17 = .ok (.goto 4, 3) := by decide +kernel
theorem dX6_isCoordinate_20 : decode cX6_isCoordinate 20 = .ok (.iconst 0, 1) := by decide +kernel
theorem dX6_isCoordinate_21 : decode cX6_isCoordinate 21 = .ok (.ireturn, 1) := by decide +kernel
theorem dX6_firstUntouchedArea_0 : decode cX6_firstUntouchedArea 0 = .ok (.iconst 0, 1) := by decide +kernel
theorem dX6_firstUntouchedArea_1 : decode cX6_firstUntouchedArea 1 = .ok (.istore_n 1, 1) := by decide +kernel
theorem dX6_firstUntouchedArea_2 : decode cX6_firstUntouchedArea 2 = .ok (.iload_n 1, 1) := by decide +kernel
theorem dX6_firstUntouchedArea_3 : decode cX6_firstUntouchedArea 3 = .ok (.aload_n 0, 1) := by decide +kernel
theorem dX6_firstUntouchedArea_4 : decode cX6_firstUntouchedArea 4 = .ok (.getfield 20, 3) := by decide +kernel
theorem dX6_firstUntouchedArea_7 : decode cX6_firstUntouchedArea 7 = .ok (.arraylength, 1) := by decide +kernel
theorem dX6_firstUntouchedArea_8 : decode cX6_firstUntouchedArea 8 = .ok (.if_icmp .ge 23, 3) := by decide +kernel
theorem dX6_firstUntouchedArea_11 : decode cX6_firstUntouchedArea 11 = .ok (.aload_n 0, 1) := by decide +kernel
theorem dX6_firstUntouchedArea_12 : decode cX6_firstUntouchedArea 12 = .ok (.getfield 20, 3) := by decide +kernel
theorem dX6_firstUntouchedArea_15 : decode cX6_firstUntouchedArea 15 = .ok (.iload_n 1, 1) := by decide +kernel
theorem dX6_firstUntouchedArea_16 : decode cX6_firstUntouchedArea 16 = .ok (.aaload, 1) := by decide +kernel
theorem dX6_firstUntouchedArea_17 : decode cX6_firstUntouchedArea 17 = .ok (.invokevirtual 213, 3) := by decide +kernel
theorem dX6_firstUntouchedArea_20 : decode cX6_firstUntouchedArea 20 = .ok (.ifCond .eq 5, 3) := by decide +kernel
theorem dX6_firstUntouchedArea_23 : decode cX6_firstUntouchedArea 23 = .ok (.iload_n 1, 1) := by decide +kernel
theorem dX6_firstUntouchedArea_24 : decode cX6_firstUntouchedArea 24 = .ok (.ireturn, 1) := by decide +kernel
theorem dX6_firstUntouchedArea_25 : decode cX6_firstUntouchedArea 25 = .ok (.iinc 1 1, 3) := by decide +kernel
theorem dX6_firstUntouchedArea_28 : decode cX6_firstUntouchedArea 28 = .ok (.goto (-26), 3) := by decide +kernel
theorem dX6_firstUntouchedArea_31 : decode cX6_firstUntouchedArea 31 = .ok (.iconst (-1), 1) := by decide +kernel
theorem dX6_firstUntouchedArea_32 : decode cX6_firstUntouchedArea 32 = .ok (.ireturn, 1) := by decide +kernel
theorem dX6_counts_0 : decode cX6_counts 0 = .ok (.aload_n 0, 1) := by decide +kernel
theorem dX6_counts_1 : decode cX6_counts 1 = .ok (.iload_n 1, 1) := by decide +kernel
theorem dX6_counts_2 : decode cX6_counts 2 = .ok (.invokevirtual 154, 3) := by decide +kernel
theorem dX6_counts_5 : decode cX6_counts 5 = .ok (.ifCond .eq 21, 3) := by decide +kernel
theorem dX6_counts_8 : decode cX6_counts 8 = .ok (.aload_n 3, 1) := by decide +kernel
theorem dX6_counts_9 : decode cX6_counts 9 = .ok (.iload 4, 2) := by decide +kernel
theorem dX6_counts_11 : decode cX6_counts 11 = .ok (.invokevirtual 216, 3) := by decide +kernel
theorem dX6_counts_14 : decode cX6_counts 14 = .ok (.ifCond .eq 12, 3) := by decide +kernel
theorem dX6_counts_17 : decode cX6_counts 17 = .ok (.aload_n 3, 1) := by decide +kernel
theorem dX6_counts_18 : decode cX6_counts 18 = .ok (.iload 4, 2) := by decide +kernel
theorem dX6_counts_20 : decode cX6_counts 20 = .ok (.invokevirtual 219, 3) := by decide +kernel
theorem dX6_counts_23 : decode cX6_counts 23 = .ok (.ifCond .eq 5, 3) := by decide +kernel
theorem dX6_counts_26 : decode cX6_counts 26 = .ok (.iconst 0, 1) := by decide +kernel
theorem dX6_counts_27 : decode cX6_counts 27 = .ok (.ireturn, 1) := by decide +kernel
theorem dX6_counts_28 : decode cX6_counts 28 = .ok (.aload_n 0, 1) := by decide +kernel
theorem dX6_counts_29 : decode cX6_counts 29 = .ok (.getfield 28, 3) := by decide +kernel
theorem dX6_counts_32 : decode cX6_counts 32 = .ok (.iload_n 1, 1) := by decide +kernel
theorem dX6_counts_33 : decode cX6_counts 33 = .ok (.iload_n 2, 1) := by decide +kernel
theorem dX6_counts_34 : decode cX6_counts 34 = .ok (.aload_n 3, 1) := by decide +kernel
theorem dX6_counts_35 : decode cX6_counts 35 = .ok (.iload 4, 2) := by decide +kernel
theorem dX6_counts_37 : decode cX6_counts 37 = .ok (.invokevirtual 222, 3) := by decide +kernel
theorem dX6_counts_40 : decode cX6_counts 40 = .ok (.invokevirtual 225, 3) := by decide +kernel
theorem dX6_counts_43 : decode cX6_counts 43 = .ok (.ifCond .eq 25, 3) := by decide +kernel
theorem dX6_counts_46 : decode cX6_counts 46 = .ok (.aload_n 3, 1) := by decide +kernel
theorem dX6_counts_47 : decode cX6_counts 47 = .ok (.iload 4, 2) := by decide +kernel
theorem dX6_counts_49 : decode cX6_counts 49 = .ok (.aload_n 0, 1) := by decide +kernel
theorem dX6_counts_50 : decode cX6_counts 50 = .ok (.getfield 20, 3) := by decide +kernel
theorem dX6_counts_53 : decode cX6_counts 53 = .ok (.iload_n 1, 1) := by decide +kernel
theorem dX6_counts_54 : decode cX6_counts 54 = .ok (.aaload, 1) := by decide +kernel
theorem dX6_counts_55 : decode cX6_counts 55 = .ok (.invokevirtual 229, 3) := by decide +kernel
theorem dX6_counts_58 : decode cX6_counts 58 = .ok (.invokevirtual 233, 3) := by decide +kernel
theorem dX6_counts_61 : decode cX6_counts 61 = .ok (.ifCond .ne 7, 3) := by decide +kernel
theorem dX6_counts_64 : decode cX6_counts 64 = .ok (.iconst 1, 1) := by decide +kernel
theorem dX6_counts_65 : decode cX6_counts 65 = .ok (.goto 4, 3) := by decide +kernel
theorem dX6_counts_68 : decode cX6_counts 68 = .ok (.iconst 0, 1) := by decide +kernel
theorem dX6_counts_69 : decode cX6_counts 69 = .ok (.ireturn, 1) := by decide +kernel
theorem dX6_noteCrossings_0 : decode cX6_noteCrossings 0 = .ok (.aload_n 0, 1) := by decide +kernel
theorem dX6_noteCrossings_1 : decode cX6_noteCrossings 1 = .ok (.iload_n 1, 1) := by decide +kernel
theorem dX6_noteCrossings_2 : decode cX6_noteCrossings 2 = .ok (.iload_n 2, 1) := by decide +kernel
theorem dX6_noteCrossings_3 : decode cX6_noteCrossings 3 = .ok (.aload_n 3, 1) := by decide +kernel
theorem dX6_noteCrossings_4 : decode cX6_noteCrossings 4 = .ok (.iload 4, 2) := by decide +kernel
theorem dX6_noteCrossings_6 : decode cX6_noteCrossings 6 = .ok (.iconst 1, 1) := by decide +kernel
theorem dX6_noteCrossings_7 : decode cX6_noteCrossings 7 = .ok (.isub, 1) := by decide +kernel
theorem dX6_noteCrossings_8 : decode cX6_noteCrossings 8 = .ok (.invokevirtual 120, 3) := by decide +kernel
theorem dX6_noteCrossings_11 : decode cX6_noteCrossings 11 = .ok (.istore 5, 2) := by decide +kernel
theorem dX6_noteCrossings_13 : decode cX6_noteCrossings 13 = .ok (.aload_n 0, 1) := by decide +kernel
theorem dX6_noteCrossings_14 : decode cX6_noteCrossings 14 = .ok (.getfield 46, 3) := by decide +kernel
theorem dX6_noteCrossings_17 : decode cX6_noteCrossings 17 = .ok (.aload_n 0, 1) := by decide +kernel
theorem dX6_noteCrossings_18 : decode cX6_noteCrossings 18 = .ok (.getfield 20, 3) := by decide +kernel
theorem dX6_noteCrossings_21 : decode cX6_noteCrossings 21 = .ok (.iload_n 1, 1) := by decide +kernel
theorem dX6_noteCrossings_22 : decode cX6_noteCrossings 22 = .ok (.aaload, 1) := by decide +kernel
theorem dX6_noteCrossings_23 : decode cX6_noteCrossings 23 = .ok (.aload_n 3, 1) := by decide +kernel
theorem dX6_noteCrossings_24 : decode cX6_noteCrossings 24 = .ok (.iload 4, 2) := by decide +kernel
theorem dX6_noteCrossings_26 : decode cX6_noteCrossings 26 = .ok (.invokevirtual 236, 3) := by decide +kernel
theorem dX6_noteCrossings_29 : decode cX6_noteCrossings 29 = .ok (.iconst 0, 1) := by decide +kernel
theorem dX6_noteCrossings_30 : decode cX6_noteCrossings 30 = .ok (.istore 6, 2) := by decide +kernel
theorem dX6_noteCrossings_32 : decode cX6_noteCrossings 32 = .ok (.iload 6, 2) := by decide +kernel
theorem dX6_noteCrossings_34 : decode cX6_noteCrossings 34 = .ok (.aload_n 0, 1) := by decide +kernel
theorem dX6_noteCrossings_35 : decode cX6_noteCrossings 35 = .ok (.getfield 46, 3) := by decide +kernel
theorem dX6_noteCrossings_38 : decode cX6_noteCrossings 38 = .ok (.invokevirtual 240, 3) := by decide +kernel
theorem dX6_noteCrossings_41 : decode cX6_noteCrossings 41 = .ok (.if_icmp .ge 152, 3) := by decide +kernel
theorem dX6_noteCrossings_44 : decode cX6_noteCrossings 44 = .ok (.aload_n 0, 1) := by decide +kernel
theorem dX6_noteCrossings_45 : decode cX6_noteCrossings 45 = .ok (.getfield 46, 3) := by decide +kernel
theorem dX6_noteCrossings_48 : decode cX6_noteCrossings 48 = .ok (.iload 6, 2) := by decide +kernel
theorem dX6_noteCrossings_50 : decode cX6_noteCrossings 50 = .ok (.invokevirtual 241, 3) := by decide +kernel
theorem dX6_noteCrossings_53 : decode cX6_noteCrossings 53 = .ok (.istore 7, 2) := by decide +kernel
theorem dX6_noteCrossings_55 : decode cX6_noteCrossings 55 = .ok (.aload_n 0, 1) := by decide +kernel
theorem dX6_noteCrossings_56 : decode cX6_noteCrossings 56 = .ok (.getfield 46, 3) := by decide +kernel
theorem dX6_noteCrossings_59 : decode cX6_noteCrossings 59 = .ok (.iload 6, 2) := by decide +kernel
theorem dX6_noteCrossings_61 : decode cX6_noteCrossings 61 = .ok (.invokevirtual 244, 3) := by decide +kernel
theorem dX6_noteCrossings_64 : decode cX6_noteCrossings 64 = .ok (.istore 8, 2) := by decide +kernel
theorem dX6_noteCrossings_66 : decode cX6_noteCrossings 66 = .ok (.iload 5, 2) := by decide +kernel
theorem dX6_noteCrossings_68 : decode cX6_noteCrossings 68 = .ok (.ifCond .eq 15, 3) := by decide +kernel
theorem dX6_noteCrossings_71 : decode cX6_noteCrossings 71 = .ok (.aload_n 0, 1) := by decide +kernel
theorem dX6_noteCrossings_72 : decode cX6_noteCrossings 72 = .ok (.getfield 46, 3) := by decide +kernel
theorem dX6_noteCrossings_75 : decode cX6_noteCrossings 75 = .ok (.iload 7, 2) := by decide +kernel
theorem dX6_noteCrossings_77 : decode cX6_noteCrossings 77 = .ok (.invokevirtual 247, 3) := by decide +kernel
theorem dX6_noteCrossings_80 : decode cX6_noteCrossings 80 = .ok (.ifCond .ne 7, 3) := by decide +kernel
theorem dX6_noteCrossings_83 : decode cX6_noteCrossings 83 = .ok (.iconst 1, 1) := by decide +kernel
theorem dX6_noteCrossings_84 : decode cX6_noteCrossings 84 = .ok (.goto 4, 3) := by decide +kernel
theorem dX6_noteCrossings_87 : decode cX6_noteCrossings 87 = .ok (.iconst 0, 1) := by decide +kernel
theorem dX6_noteCrossings_88 : decode cX6_noteCrossings 88 = .ok (.istore 9, 2) := by decide +kernel
theorem dX6_noteCrossings_90 : decode cX6_noteCrossings 90 = .ok (.iload 9, 2) := by decide +kernel
theorem dX6_noteCrossings_92 : decode cX6_noteCrossings 92 = .ok (.ifCond .eq 37, 3) := by decide +kernel
theorem dX6_noteCrossings_95 : decode cX6_noteCrossings 95 = .ok (.aload_n 0, 1) := by decide +kernel
theorem dX6_noteCrossings_96 : decode cX6_noteCrossings 96 = .ok (.getfield 57, 3) := by decide +kernel
theorem dX6_noteCrossings_99 : decode cX6_noteCrossings 99 = .ok (.iload 4, 2) := by decide +kernel
theorem dX6_noteCrossings_101 : decode cX6_noteCrossings 101 = .ok (.iload_n 1, 1) := by decide +kernel
theorem dX6_noteCrossings_102 : decode cX6_noteCrossings 102 = .ok (.iconst 1, 1) := by decide +kernel
theorem dX6_noteCrossings_103 : decode cX6_noteCrossings 103 = .ok (.aload_n 0, 1) := by decide +kernel
theorem dX6_noteCrossings_104 : decode cX6_noteCrossings 104 = .ok (.getfield 46, 3) := by decide +kernel
theorem dX6_noteCrossings_107 : decode cX6_noteCrossings 107 = .ok (.iload 7, 2) := by decide +kernel
theorem dX6_noteCrossings_109 : decode cX6_noteCrossings 109 = .ok (.invokevirtual 250, 3) := by decide +kernel
theorem dX6_noteCrossings_112 : decode cX6_noteCrossings 112 = .ok (.aload_n 0, 1) := by decide +kernel
theorem dX6_noteCrossings_113 : decode cX6_noteCrossings 113 = .ok (.getfield 46, 3) := by decide +kernel
theorem dX6_noteCrossings_116 : decode cX6_noteCrossings 116 = .ok (.iload 7, 2) := by decide +kernel
theorem dX6_noteCrossings_118 : decode cX6_noteCrossings 118 = .ok (.invokevirtual 251, 3) := by decide +kernel
theorem dX6_noteCrossings_121 : decode cX6_noteCrossings 121 = .ok (.invokevirtual 252, 3) := by decide +kernel
theorem dX6_noteCrossings_124 : decode cX6_noteCrossings 124 = .ok (.ifCond .ne 5, 3) := by decide +kernel
theorem dX6_noteCrossings_127 : decode cX6_noteCrossings 127 = .ok (.iconst 0, 1) := by decide +kernel
theorem dX6_noteCrossings_128 : decode cX6_noteCrossings 128 = .ok (.ireturn, 1) := by decide +kernel
theorem dX6_noteCrossings_129 : decode cX6_noteCrossings 129 = .ok (.aload_n 0, 1) := by decide +kernel
theorem dX6_noteCrossings_130 : decode cX6_noteCrossings 130 = .ok (.getfield 46, 3) := by decide +kernel
theorem dX6_noteCrossings_133 : decode cX6_noteCrossings 133 = .ok (.iload 8, 2) := by decide +kernel
theorem dX6_noteCrossings_135 : decode cX6_noteCrossings 135 = .ok (.invokevirtual 255, 3) := by decide +kernel
theorem dX6_noteCrossings_138 : decode cX6_noteCrossings 138 = .ok (.ifCond .ne 7, 3) := by decide +kernel
theorem dX6_noteCrossings_141 : decode cX6_noteCrossings 141 = .ok (.iconst 1, 1) := by decide +kernel
theorem dX6_noteCrossings_142 : decode cX6_noteCrossings 142 = .ok (.goto 4, 3) := by decide +kernel
theorem dX6_noteCrossings_145 : decode cX6_noteCrossings 145 = .ok (.iconst 0, 1) := by decide +kernel
theorem dX6_noteCrossings_146 : decode cX6_noteCrossings 146 = .ok (.istore 10, 2) := by decide +kernel
theorem dX6_noteCrossings_148 : decode cX6_noteCrossings 148 = .ok (.iload 10, 2) := by decide +kernel
theorem dX6_noteCrossings_150 : decode cX6_noteCrossings 150 = .ok (.ifCond .eq 37, 3) := by decide +kernel
theorem dX6_noteCrossings_153 : decode cX6_noteCrossings 153 = .ok (.aload_n 0, 1) := by decide +kernel
theorem dX6_noteCrossings_154 : decode cX6_noteCrossings 154 = .ok (.getfield 57, 3) := by decide +kernel
theorem dX6_noteCrossings_157 : decode cX6_noteCrossings 157 = .ok (.iload 4, 2) := by decide +kernel
theorem dX6_noteCrossings_159 : decode cX6_noteCrossings 159 = .ok (.iload_n 1, 1) := by decide +kernel
theorem dX6_noteCrossings_160 : decode cX6_noteCrossings 160 = .ok (.iconst 0, 1) := by decide +kernel
theorem dX6_noteCrossings_161 : decode cX6_noteCrossings 161 = .ok (.aload_n 0, 1) := by decide +kernel
theorem dX6_noteCrossings_162 : decode cX6_noteCrossings 162 = .ok (.getfield 46, 3) := by decide +kernel
theorem dX6_noteCrossings_165 : decode cX6_noteCrossings 165 = .ok (.iload 8, 2) := by decide +kernel
theorem dX6_noteCrossings_167 : decode cX6_noteCrossings 167 = .ok (.invokevirtual 250, 3) := by decide +kernel
theorem dX6_noteCrossings_170 : decode cX6_noteCrossings 170 = .ok (.aload_n 0, 1) := by decide +kernel
theorem dX6_noteCrossings_171 : decode cX6_noteCrossings 171 = .ok (.getfield 46, 3) := by decide +kernel
theorem dX6_noteCrossings_174 : decode cX6_noteCrossings 174 = .ok (.iload 8, 2) := by decide +kernel
theorem dX6_noteCrossings_176 : decode cX6_noteCrossings 176 = .ok (.invokevirtual 251, 3) := by decide +kernel
theorem dX6_noteCrossings_179 : decode cX6_noteCrossings 179 = .ok (.invokevirtual 252, 3) := by decide +kernel
theorem dX6_noteCrossings_182 : decode cX6_noteCrossings 182 = .ok (.ifCond .ne 5, 3) := by decide +kernel
theorem dX6_noteCrossings_185 : decode cX6_noteCrossings 185 = .ok (.iconst 0, 1) := by decide +kernel
theorem dX6_noteCrossings_186 : decode cX6_noteCrossings 186 = .ok (.ireturn, 1) := by decide +kernel
theorem dX6_noteCrossings_187 : decode cX6_noteCrossings 187 = .ok (.iinc 6 1, 3) := by decide +kernel
theorem dX6_noteCrossings_190 : decode cX6_noteCrossings 190 = .ok (.goto (-158), 3) := by decide +kernel
theorem dX6_noteCrossings_193 : decode cX6_noteCrossings 193 = .ok (.iconst 1, 1) := by decide +kernel
theorem dX6_noteCrossings_194 : decode cX6_noteCrossings 194 = .ok (.ireturn, 1) := by decide +kernel
theorem dX6_thousandthsIn_0 : decode cX6_thousandthsIn 0 = .ok (.aload_n 2, 1) := by decide +kernel
theorem dX6_thousandthsIn_1 : decode cX6_thousandthsIn 1 = .ok (.iload_n 3, 1) := by decide +kernel
theorem dX6_thousandthsIn_2 : decode cX6_thousandthsIn 2 = .ok (.invokevirtual 219, 3) := by decide +kernel
theorem dX6_thousandthsIn_5 : decode cX6_thousandthsIn 5 = .ok (.ifCond .eq 5, 3) := by decide +kernel
theorem dX6_thousandthsIn_8 : decode cX6_thousandthsIn 8 = .ok (.lconst 0, 1) := by decide +kernel
theorem dX6_thousandthsIn_9 : decode cX6_thousandthsIn 9 = .ok (.lreturn, 1) := by decide +kernel
theorem dX6_thousandthsIn_10 : decode cX6_thousandthsIn 10 = .ok (.aload_n 0, 1) := by decide +kernel
theorem dX6_thousandthsIn_11 : decode cX6_thousandthsIn 11 = .ok (.getfield 46, 3) := by decide +kernel
theorem dX6_thousandthsIn_14 : decode cX6_thousandthsIn 14 = .ok (.aload_n 1, 1) := by decide +kernel
theorem dX6_thousandthsIn_15 : decode cX6_thousandthsIn 15 = .ok (.aload_n 2, 1) := by decide +kernel
theorem dX6_thousandthsIn_16 : decode cX6_thousandthsIn 16 = .ok (.iload_n 3, 1) := by decide +kernel
theorem dX6_thousandthsIn_17 : decode cX6_thousandthsIn 17 = .ok (.invokevirtual 236, 3) := by decide +kernel
theorem dX6_thousandthsIn_20 : decode cX6_thousandthsIn 20 = .ok (.lconst 0, 1) := by decide +kernel
theorem dX6_thousandthsIn_21 : decode cX6_thousandthsIn 21 = .ok (.lstore 4, 2) := by decide +kernel
theorem dX6_thousandthsIn_23 : decode cX6_thousandthsIn 23 = .ok (.iconst 0, 1) := by decide +kernel
theorem dX6_thousandthsIn_24 : decode cX6_thousandthsIn 24 = .ok (.istore 6, 2) := by decide +kernel
theorem dX6_thousandthsIn_26 : decode cX6_thousandthsIn 26 = .ok (.iload 6, 2) := by decide +kernel
theorem dX6_thousandthsIn_28 : decode cX6_thousandthsIn 28 = .ok (.aload_n 0, 1) := by decide +kernel
theorem dX6_thousandthsIn_29 : decode cX6_thousandthsIn 29 = .ok (.getfield 46, 3) := by decide +kernel
theorem dX6_thousandthsIn_32 : decode cX6_thousandthsIn 32 = .ok (.invokevirtual 240, 3) := by decide +kernel
theorem dX6_thousandthsIn_35 : decode cX6_thousandthsIn 35 = .ok (.if_icmp .ge 32, 3) := by decide +kernel
theorem dX6_thousandthsIn_38 : decode cX6_thousandthsIn 38 = .ok (.lload 4, 2) := by decide +kernel
theorem dX6_thousandthsIn_40 : decode cX6_thousandthsIn 40 = .ok (.aload_n 0, 1) := by decide +kernel
theorem dX6_thousandthsIn_41 : decode cX6_thousandthsIn 41 = .ok (.getfield 46, 3) := by decide +kernel
theorem dX6_thousandthsIn_44 : decode cX6_thousandthsIn 44 = .ok (.iload 6, 2) := by decide +kernel
theorem dX6_thousandthsIn_46 : decode cX6_thousandthsIn 46 = .ok (.aload_n 2, 1) := by decide +kernel
theorem dX6_thousandthsIn_47 : decode cX6_thousandthsIn 47 = .ok (.iload_n 3, 1) := by decide +kernel
theorem dX6_thousandthsIn_48 : decode cX6_thousandthsIn 48 = .ok (.invokevirtual 258, 3) := by decide +kernel
theorem dX6_thousandthsIn_51 : decode cX6_thousandthsIn 51 = .ok (.ldc2_w 261, 3) := by decide +kernel
theorem dX6_thousandthsIn_54 : decode cX6_thousandthsIn 54 = .ok (.lmul, 1) := by decide +kernel
theorem dX6_thousandthsIn_55 : decode cX6_thousandthsIn 55 = .ok (.invokevirtual 263, 3) := by decide +kernel
theorem dX6_thousandthsIn_58 : decode cX6_thousandthsIn 58 = .ok (.ladd, 1) := by decide +kernel
theorem dX6_thousandthsIn_59 : decode cX6_thousandthsIn 59 = .ok (.lstore 4, 2) := by decide +kernel
theorem dX6_thousandthsIn_61 : decode cX6_thousandthsIn 61 = .ok (.iinc 6 1, 3) := by decide +kernel
theorem dX6_thousandthsIn_64 : decode cX6_thousandthsIn 64 = .ok (.goto (-38), 3) := by decide +kernel
theorem dX6_thousandthsIn_67 : decode cX6_thousandthsIn 67 = .ok (.lload 4, 2) := by decide +kernel
theorem dX6_thousandthsIn_69 : decode cX6_thousandthsIn 69 = .ok (.lreturn, 1) := by decide +kernel
theorem dX6_mayHaveBeenNear_0 : decode cX6_mayHaveBeenNear 0 = .ok (.aload_n 1, 1) := by decide +kernel
theorem dX6_mayHaveBeenNear_1 : decode cX6_mayHaveBeenNear 1 = .ok (.iload_n 2, 1) := by decide +kernel
theorem dX6_mayHaveBeenNear_2 : decode cX6_mayHaveBeenNear 2 = .ok (.invokevirtual 267, 3) := by decide +kernel
theorem dX6_mayHaveBeenNear_5 : decode cX6_mayHaveBeenNear 5 = .ok (.lstore_n 3, 1) := by decide +kernel
theorem dX6_mayHaveBeenNear_6 : decode cX6_mayHaveBeenNear 6 = .ok (.aload_n 1, 1) := by decide +kernel
theorem dX6_mayHaveBeenNear_7 : decode cX6_mayHaveBeenNear 7 = .ok (.iload_n 2, 1) := by decide +kernel
theorem dX6_mayHaveBeenNear_8 : decode cX6_mayHaveBeenNear 8 = .ok (.invokevirtual 173, 3) := by decide +kernel
theorem dX6_mayHaveBeenNear_11 : decode cX6_mayHaveBeenNear 11 = .ok (.i2l, 1) := by decide +kernel
theorem dX6_mayHaveBeenNear_12 : decode cX6_mayHaveBeenNear 12 = .ok (.lstore 5, 2) := by decide +kernel
theorem dX6_mayHaveBeenNear_14 : decode cX6_mayHaveBeenNear 14 = .ok (.aload_n 1, 1) := by decide +kernel
theorem dX6_mayHaveBeenNear_15 : decode cX6_mayHaveBeenNear 15 = .ok (.iload_n 2, 1) := by decide +kernel
theorem dX6_mayHaveBeenNear_16 : decode cX6_mayHaveBeenNear 16 = .ok (.invokevirtual 176, 3) := by decide +kernel
theorem dX6_mayHaveBeenNear_19 : decode cX6_mayHaveBeenNear 19 = .ok (.i2l, 1) := by decide +kernel
theorem dX6_mayHaveBeenNear_20 : decode cX6_mayHaveBeenNear 20 = .ok (.lstore 7, 2) := by decide +kernel
theorem dX6_mayHaveBeenNear_22 : decode cX6_mayHaveBeenNear 22 = .ok (.aload_n 1, 1) := by decide +kernel
theorem dX6_mayHaveBeenNear_23 : decode cX6_mayHaveBeenNear 23 = .ok (.iload_n 2, 1) := by decide +kernel
theorem dX6_mayHaveBeenNear_24 : decode cX6_mayHaveBeenNear 24 = .ok (.iconst 1, 1) := by decide +kernel
theorem dX6_mayHaveBeenNear_25 : decode cX6_mayHaveBeenNear 25 = .ok (.iadd, 1) := by decide +kernel
theorem dX6_mayHaveBeenNear_26 : decode cX6_mayHaveBeenNear 26 = .ok (.invokevirtual 173, 3) := by decide +kernel
theorem dX6_mayHaveBeenNear_29 : decode cX6_mayHaveBeenNear 29 = .ok (.i2l, 1) := by decide +kernel
theorem dX6_mayHaveBeenNear_30 : decode cX6_mayHaveBeenNear 30 = .ok (.lstore 9, 2) := by decide +kernel
theorem dX6_mayHaveBeenNear_32 : decode cX6_mayHaveBeenNear 32 = .ok (.aload_n 1, 1) := by decide +kernel
theorem dX6_mayHaveBeenNear_33 : decode cX6_mayHaveBeenNear 33 = .ok (.iload_n 2, 1) := by decide +kernel
theorem dX6_mayHaveBeenNear_34 : decode cX6_mayHaveBeenNear 34 = .ok (.iconst 1, 1) := by decide +kernel
theorem dX6_mayHaveBeenNear_35 : decode cX6_mayHaveBeenNear 35 = .ok (.iadd, 1) := by decide +kernel
theorem dX6_mayHaveBeenNear_36 : decode cX6_mayHaveBeenNear 36 = .ok (.invokevirtual 176, 3) := by decide +kernel
theorem dX6_mayHaveBeenNear_39 : decode cX6_mayHaveBeenNear 39 = .ok (.i2l, 1) := by decide +kernel
theorem dX6_mayHaveBeenNear_40 : decode cX6_mayHaveBeenNear 40 = .ok (.lstore 11, 2) := by decide +kernel
theorem dX6_mayHaveBeenNear_42 : decode cX6_mayHaveBeenNear 42 = .ok (.aload_n 0, 1) := by decide +kernel
theorem dX6_mayHaveBeenNear_43 : decode cX6_mayHaveBeenNear 43 = .ok (.invokevirtual 187, 3) := by decide +kernel
theorem dX6_mayHaveBeenNear_46 : decode cX6_mayHaveBeenNear 46 = .ok (.astore 13, 2) := by decide +kernel
theorem dX6_mayHaveBeenNear_48 : decode cX6_mayHaveBeenNear 48 = .ok (.aload 13, 2) := by decide +kernel
theorem dX6_mayHaveBeenNear_50 : decode cX6_mayHaveBeenNear 50 = .ok (.lload 5, 2) := by decide +kernel
theorem dX6_mayHaveBeenNear_52 : decode cX6_mayHaveBeenNear 52 = .ok (.lload 9, 2) := by decide +kernel
theorem dX6_mayHaveBeenNear_54 : decode cX6_mayHaveBeenNear 54 = .ok (.invokestatic 270, 3) := by decide +kernel
theorem dX6_mayHaveBeenNear_57 : decode cX6_mayHaveBeenNear 57 = .ok (.lload_n 3, 1) := by decide +kernel
theorem dX6_mayHaveBeenNear_58 : decode cX6_mayHaveBeenNear 58 = .ok (.lsub, 1) := by decide +kernel
theorem dX6_mayHaveBeenNear_59 : decode cX6_mayHaveBeenNear 59 = .ok (.lload 5, 2) := by decide +kernel
theorem dX6_mayHaveBeenNear_61 : decode cX6_mayHaveBeenNear 61 = .ok (.lload 9, 2) := by decide +kernel
theorem dX6_mayHaveBeenNear_63 : decode cX6_mayHaveBeenNear 63 = .ok (.invokestatic 273, 3) := by decide +kernel
theorem dX6_mayHaveBeenNear_66 : decode cX6_mayHaveBeenNear 66 = .ok (.lload_n 3, 1) := by decide +kernel
theorem dX6_mayHaveBeenNear_67 : decode cX6_mayHaveBeenNear 67 = .ok (.ladd, 1) := by decide +kernel
theorem dX6_mayHaveBeenNear_68 : decode cX6_mayHaveBeenNear 68 = .ok (.invokevirtual 275, 3) := by decide +kernel
theorem dX6_mayHaveBeenNear_71 : decode cX6_mayHaveBeenNear 71 = .ok (.ifCond .eq 33, 3) := by decide +kernel
theorem dX6_mayHaveBeenNear_74 : decode cX6_mayHaveBeenNear 74 = .ok (.aload 13, 2) := by decide +kernel
theorem dX6_mayHaveBeenNear_76 : decode cX6_mayHaveBeenNear 76 = .ok (.lload 7, 2) := by decide +kernel
theorem dX6_mayHaveBeenNear_78 : decode cX6_mayHaveBeenNear 78 = .ok (.lload 11, 2) := by decide +kernel
theorem dX6_mayHaveBeenNear_80 : decode cX6_mayHaveBeenNear 80 = .ok (.invokestatic 270, 3) := by decide +kernel
theorem dX6_mayHaveBeenNear_83 : decode cX6_mayHaveBeenNear 83 = .ok (.lload_n 3, 1) := by decide +kernel
theorem dX6_mayHaveBeenNear_84 : decode cX6_mayHaveBeenNear 84 = .ok (.lsub, 1) := by decide +kernel
theorem dX6_mayHaveBeenNear_85 : decode cX6_mayHaveBeenNear 85 = .ok (.lload 7, 2) := by decide +kernel
theorem dX6_mayHaveBeenNear_87 : decode cX6_mayHaveBeenNear 87 = .ok (.lload 11, 2) := by decide +kernel
theorem dX6_mayHaveBeenNear_89 : decode cX6_mayHaveBeenNear 89 = .ok (.invokestatic 273, 3) := by decide +kernel
theorem dX6_mayHaveBeenNear_92 : decode cX6_mayHaveBeenNear 92 = .ok (.lload_n 3, 1) := by decide +kernel
theorem dX6_mayHaveBeenNear_93 : decode cX6_mayHaveBeenNear 93 = .ok (.ladd, 1) := by decide +kernel
theorem dX6_mayHaveBeenNear_94 : decode cX6_mayHaveBeenNear 94 = .ok (.invokevirtual 278, 3) := by decide +kernel
theorem dX6_mayHaveBeenNear_97 : decode cX6_mayHaveBeenNear 97 = .ok (.ifCond .eq 7, 3) := by decide +kernel
theorem dX6_mayHaveBeenNear_100 : decode cX6_mayHaveBeenNear 100 = .ok (.iconst 1, 1) := by decide +kernel
theorem dX6_mayHaveBeenNear_101 : decode cX6_mayHaveBeenNear 101 = .ok (.goto 4, 3) := by decide +kernel
theorem dX6_mayHaveBeenNear_104 : decode cX6_mayHaveBeenNear 104 = .ok (.iconst 0, 1) := by decide +kernel
theorem dX6_mayHaveBeenNear_105 : decode cX6_mayHaveBeenNear 105 = .ok (.ireturn, 1) := by decide +kernel
theorem dX7_init_0 : decode cX7_init 0 = .ok (.aload_n 0, 1) := by decide +kernel
theorem dX7_init_1 : decode cX7_init 1 = .ok (.invokespecial 1, 3) := by decide +kernel
theorem dX7_init_4 : decode cX7_init 4 = .ok (.aload_n 0, 1) := by decide +kernel
theorem dX7_init_5 : decode cX7_init 5 = .ok (.sipush 576, 3) := by decide +kernel
theorem dX7_init_8 : decode cX7_init 8 = .ok (.newarray .long, 2) := by decide +kernel
theorem dX7_init_10 : decode cX7_init 10 = .ok (.putfield 7, 3) := by decide +kernel
theorem dX7_init_13 : decode cX7_init 13 = .ok (.aload_n 0, 1) := by decide +kernel
theorem dX7_init_14 : decode cX7_init 14 = .ok (.sipush 576, 3) := by decide +kernel
theorem dX7_init_17 : decode cX7_init 17 = .ok (.newarray .long, 2) := by decide +kernel
theorem dX7_init_19 : decode cX7_init 19 = .ok (.putfield 13, 3) := by decide +kernel
theorem dX7_init_22 : decode cX7_init 22 = .ok (.aload_n 0, 1) := by decide +kernel
theorem dX7_init_23 : decode cX7_init 23 = .ok (.bipush 48, 2) := by decide +kernel
theorem dX7_init_25 : decode cX7_init 25 = .ok (.newarray .int, 2) := by decide +kernel
theorem dX7_init_27 : decode cX7_init 27 = .ok (.putfield 16, 3) := by decide +kernel
theorem dX7_init_30 : decode cX7_init 30 = .ok (.aload_n 0, 1) := by decide +kernel
theorem dX7_init_31 : decode cX7_init 31 = .ok (.bipush 12, 2) := by decide +kernel
theorem dX7_init_33 : decode cX7_init 33 = .ok (.newarray .int, 2) := by decide +kernel
theorem dX7_init_35 : decode cX7_init 35 = .ok (.putfield 20, 3) := by decide +kernel
theorem dX7_init_38 : decode cX7_init 38 = .ok (.aload_n 0, 1) := by decide +kernel
theorem dX7_init_39 : decode cX7_init 39 = .ok (.bipush 12, 2) := by decide +kernel
theorem dX7_init_41 : decode cX7_init 41 = .ok (.newarray .boolean, 2) := by decide +kernel
theorem dX7_init_43 : decode cX7_init 43 = .ok (.putfield 23, 3) := by decide +kernel
theorem dX7_init_46 : decode cX7_init 46 = .ok (.aload_n 0, 1) := by decide +kernel
theorem dX7_init_47 : decode cX7_init 47 = .ok (.bipush 12, 2) := by decide +kernel
theorem dX7_init_49 : decode cX7_init 49 = .ok (.newarray .long, 2) := by decide +kernel
theorem dX7_init_51 : decode cX7_init 51 = .ok (.putfield 27, 3) := by decide +kernel
theorem dX7_init_54 : decode cX7_init 54 = .ok (.aload_n 0, 1) := by decide +kernel
theorem dX7_init_55 : decode cX7_init 55 = .ok (.bipush 40, 2) := by decide +kernel
theorem dX7_init_57 : decode cX7_init 57 = .ok (.newarray .int, 2) := by decide +kernel
theorem dX7_init_59 : decode cX7_init 59 = .ok (.putfield 30, 3) := by decide +kernel
theorem dX7_init_62 : decode cX7_init 62 = .ok (.aload_n 0, 1) := by decide +kernel
theorem dX7_init_63 : decode cX7_init 63 = .ok (.bipush 40, 2) := by decide +kernel
theorem dX7_init_65 : decode cX7_init 65 = .ok (.newarray .int, 2) := by decide +kernel
theorem dX7_init_67 : decode cX7_init 67 = .ok (.putfield 33, 3) := by decide +kernel
theorem dX7_init_70 : decode cX7_init 70 = .ok (.aload_n 0, 1) := by decide +kernel
theorem dX7_init_71 : decode cX7_init 71 = .ok (.bipush 40, 2) := by decide +kernel
theorem dX7_init_73 : decode cX7_init 73 = .ok (.newarray .int, 2) := by decide +kernel
theorem dX7_init_75 : decode cX7_init 75 = .ok (.putfield 36, 3) := by decide +kernel
theorem dX7_init_78 : decode cX7_init 78 = .ok (.aload_n 0, 1) := by decide +kernel
theorem dX7_init_79 : decode cX7_init 79 = .ok (.bipush 40, 2) := by decide +kernel
theorem dX7_init_81 : decode cX7_init 81 = .ok (.newarray .int, 2) := by decide +kernel
theorem dX7_init_83 : decode cX7_init 83 = .ok (.putfield 39, 3) := by decide +kernel
theorem dX7_init_86 : decode cX7_init 86 = .ok (.aload_n 0, 1) := by decide +kernel
theorem dX7_init_87 : decode cX7_init 87 = .ok (.bipush 6, 2) := by decide +kernel
theorem dX7_init_89 : decode cX7_init 89 = .ok (.newarray .int, 2) := by decide +kernel
theorem dX7_init_91 : decode cX7_init 91 = .ok (.putfield 42, 3) := by decide +kernel
theorem dX7_init_94 : decode cX7_init 94 = .ok (.aload_n 0, 1) := by decide +kernel
theorem dX7_init_95 : decode cX7_init 95 = .ok (.sipush 180, 3) := by decide +kernel
theorem dX7_init_98 : decode cX7_init 98 = .ok (.newarray .long, 2) := by decide +kernel
theorem dX7_init_100 : decode cX7_init 100 = .ok (.putfield 45, 3) := by decide +kernel
theorem dX7_init_103 : decode cX7_init 103 = .ok (.aload_n 0, 1) := by decide +kernel
theorem dX7_init_104 : decode cX7_init 104 = .ok (.sipush 180, 3) := by decide +kernel
theorem dX7_init_107 : decode cX7_init 107 = .ok (.newarray .long, 2) := by decide +kernel
theorem dX7_init_109 : decode cX7_init 109 = .ok (.putfield 48, 3) := by decide +kernel
theorem dX7_init_112 : decode cX7_init 112 = .ok (.aload_n 0, 1) := by decide +kernel
theorem dX7_init_113 : decode cX7_init 113 = .ok (.sipush 180, 3) := by decide +kernel
theorem dX7_init_116 : decode cX7_init 116 = .ok (.newarray .long, 2) := by decide +kernel
theorem dX7_init_118 : decode cX7_init 118 = .ok (.putfield 51, 3) := by decide +kernel
theorem dX7_init_121 : decode cX7_init 121 = .ok (.aload_n 0, 1) := by decide +kernel
theorem dX7_init_122 : decode cX7_init 122 = .ok (.sipush 1500, 3) := by decide +kernel
theorem dX7_init_125 : decode cX7_init 125 = .ok (.newarray .long, 2) := by decide +kernel
theorem dX7_init_127 : decode cX7_init 127 = .ok (.putfield 54, 3) := by decide +kernel
theorem dX7_init_130 : decode cX7_init 130 = .ok (.aload_n 0, 1) := by decide +kernel
theorem dX7_init_131 : decode cX7_init 131 = .ok (.sipush 1500, 3) := by decide +kernel
theorem dX7_init_134 : decode cX7_init 134 = .ok (.newarray .long, 2) := by decide +kernel
theorem dX7_init_136 : decode cX7_init 136 = .ok (.putfield 57, 3) := by decide +kernel
theorem dX7_init_139 : decode cX7_init 139 = .ok (.aload_n 0, 1) := by decide +kernel
theorem dX7_init_140 : decode cX7_init 140 = .ok (.sipush 128, 3) := by decide +kernel
theorem dX7_init_143 : decode cX7_init 143 = .ok (.newarray .long, 2) := by decide +kernel
theorem dX7_init_145 : decode cX7_init 145 = .ok (.putfield 60, 3) := by decide +kernel
theorem dX7_init_148 : decode cX7_init 148 = .ok (.aload_n 0, 1) := by decide +kernel
theorem dX7_init_149 : decode cX7_init 149 = .ok (.sipush 128, 3) := by decide +kernel
theorem dX7_init_152 : decode cX7_init 152 = .ok (.newarray .long, 2) := by decide +kernel
theorem dX7_init_154 : decode cX7_init 154 = .ok (.putfield 63, 3) := by decide +kernel
theorem dX7_init_157 : decode cX7_init 157 = .ok (.aload_n 0, 1) := by decide +kernel
theorem dX7_init_158 : decode cX7_init 158 = .ok (.sipush 128, 3) := by decide +kernel
theorem dX7_init_161 : decode cX7_init 161 = .ok (.newarray .int, 2) := by decide +kernel
theorem dX7_init_163 : decode cX7_init 163 = .ok (.putfield 66, 3) := by decide +kernel
theorem dX7_init_166 : decode cX7_init 166 = .ok (.aload_n 0, 1) := by decide +kernel
theorem dX7_init_167 : decode cX7_init 167 = .ok (.sipush 128, 3) := by decide +kernel
theorem dX7_init_170 : decode cX7_init 170 = .ok (.newarray .int, 2) := by decide +kernel
theorem dX7_init_172 : decode cX7_init 172 = .ok (.putfield 69, 3) := by decide +kernel
theorem dX7_init_175 : decode cX7_init 175 = .ok (.aload_n 0, 1) := by decide +kernel
theorem dX7_init_176 : decode cX7_init 176 = .ok (.iload_n 1, 1) := by decide +kernel
theorem dX7_init_177 : decode cX7_init 177 = .ok (.iconst 1, 1) := by decide +kernel
theorem dX7_init_178 : decode cX7_init 178 = .ok (.if_icmp .ge 7, 3) := by decide +kernel
theorem dX7_init_181 : decode cX7_init 181 = .ok (.iconst 1, 1) := by decide +kernel
theorem dX7_init_182 : decode cX7_init 182 = .ok (.goto 15, 3) := by decide +kernel
theorem dX7_init_185 : decode cX7_init 185 = .ok (.iload_n 1, 1) := by decide +kernel
theorem dX7_init_186 : decode cX7_init 186 = .ok (.bipush 12, 2) := by decide +kernel
theorem dX7_init_188 : decode cX7_init 188 = .ok (.if_icmp .le 8, 3) := by decide +kernel
theorem dX7_init_191 : decode cX7_init 191 = .ok (.bipush 12, 2) := by decide +kernel
theorem dX7_init_193 : decode cX7_init 193 = .ok (.goto 4, 3) := by decide +kernel
theorem dX7_init_196 : decode cX7_init 196 = .ok (.iload_n 1, 1) := by decide +kernel
theorem dX7_init_197 : decode cX7_init 197 = .ok (.putfield 72, 3) := by decide +kernel
theorem dX7_init_200 : decode cX7_init 200 = .ok (.iconst 0, 1) := by decide +kernel
theorem dX7_init_201 : decode cX7_init 201 = .ok (.istore_n 2, 1) := by decide +kernel
theorem dX7_init_202 : decode cX7_init 202 = .ok (.iload_n 2, 1) := by decide +kernel
theorem dX7_init_203 : decode cX7_init 203 = .ok (.bipush 12, 2) := by decide +kernel
theorem dX7_init_205 : decode cX7_init 205 = .ok (.if_icmp .ge 16, 3) := by decide +kernel
theorem dX7_init_208 : decode cX7_init 208 = .ok (.aload_n 0, 1) := by decide +kernel
theorem dX7_init_209 : decode cX7_init 209 = .ok (.getfield 23, 3) := by decide +kernel
theorem dX7_init_212 : decode cX7_init 212 = .ok (.iload_n 2, 1) := by decide +kernel
theorem dX7_init_213 : decode cX7_init 213 = .ok (.iconst 1, 1) := by decide +kernel
theorem dX7_init_214 : decode cX7_init 214 = .ok (.bastore, 1) := by decide +kernel
theorem dX7_init_215 : decode cX7_init 215 = .ok (.iinc 2 1, 3) := by decide +kernel
theorem dX7_init_218 : decode cX7_init 218 = .ok (.goto (-16), 3) := by decide +kernel
theorem dX7_init_221 : decode cX7_init 221 = .ok (.return_, 1) := by decide +kernel
theorem dX7_thrown_0 : decode cX7_thrown 0 = .ok (.aload_n 0, 1) := by decide +kernel
theorem dX7_thrown_1 : decode cX7_thrown 1 = .ok (.getfield 76, 3) := by decide +kernel
theorem dX7_thrown_4 : decode cX7_thrown 4 = .ok (.ireturn, 1) := by decide +kernel
theorem dX7_isIn_0 : decode cX7_isIn 0 = .ok (.lload_n 0, 1) := by decide +kernel
theorem dX7_isIn_1 : decode cX7_isIn 1 = .ok (.lload_n 2, 1) := by decide +kernel
theorem dX7_isIn_2 : decode cX7_isIn 2 = .ok (.lcmp, 1) := by decide +kernel
theorem dX7_isIn_3 : decode cX7_isIn 3 = .ok (.ifCond .lt 14, 3) := by decide +kernel
theorem dX7_isIn_6 : decode cX7_isIn 6 = .ok (.lload_n 0, 1) := by decide +kernel
theorem dX7_isIn_7 : decode cX7_isIn 7 = .ok (.lload 4, 2) := by decide +kernel
theorem dX7_isIn_9 : decode cX7_isIn 9 = .ok (.lcmp, 1) := by decide +kernel
theorem dX7_isIn_10 : decode cX7_isIn 10 = .ok (.ifCond .gt 7, 3) := by decide +kernel
theorem dX7_isIn_13 : decode cX7_isIn 13 = .ok (.iconst 1, 1) := by decide +kernel
theorem dX7_isIn_14 : decode cX7_isIn 14 = .ok (.goto 4, 3) := by decide +kernel
theorem dX7_isIn_17 : decode cX7_isIn 17 = .ok (.iconst 0, 1) := by decide +kernel
theorem dX7_isIn_18 : decode cX7_isIn 18 = .ok (.ireturn, 1) := by decide +kernel
theorem dX7_isArea_0 : decode cX7_isArea 0 = .ok (.iload_n 1, 1) := by decide +kernel
theorem dX7_isArea_1 : decode cX7_isArea 1 = .ok (.ifCond .lt 15, 3) := by decide +kernel
theorem dX7_isArea_4 : decode cX7_isArea 4 = .ok (.iload_n 1, 1) := by decide +kernel
theorem dX7_isArea_5 : decode cX7_isArea 5 = .ok (.aload_n 0, 1) := by decide +kernel
theorem dX7_isArea_6 : decode cX7_isArea 6 = .ok (.getfield 72, 3) := by decide +kernel
theorem dX7_isArea_9 : decode cX7_isArea 9 = .ok (.if_icmp .ge 7, 3) := by decide +kernel
theorem dX7_isArea_12 : decode cX7_isArea 12 = .ok (.iconst 1, 1) := by decide +kernel
theorem dX7_isArea_13 : decode cX7_isArea 13 = .ok (.goto 4, 3) := by decide +kernel
theorem dX7_isArea_16 : decode cX7_isArea 16 = .ok (.iconst 0, 1) := by decide +kernel
theorem dX7_isArea_17 : decode cX7_isArea 17 = .ok (.ireturn, 1) := by decide +kernel
theorem dX7_isThere_0 : decode cX7_isThere 0 = .ok (.aload_n 0, 1) := by decide +kernel
theorem dX7_isThere_1 : decode cX7_isThere 1 = .ok (.iload_n 1, 1) := by decide +kernel
theorem dX7_isThere_2 : decode cX7_isThere 2 = .ok (.invokevirtual 79, 3) := by decide +kernel
theorem dX7_isThere_5 : decode cX7_isThere 5 = .ok (.ifCond .eq 16, 3) := by decide +kernel
theorem dX7_isThere_8 : decode cX7_isThere 8 = .ok (.aload_n 0, 1) := by decide +kernel
theorem dX7_isThere_9 : decode cX7_isThere 9 = .ok (.getfield 20, 3) := by decide +kernel
theorem dX7_isThere_12 : decode cX7_isThere 12 = .ok (.iload_n 1, 1) := by decide +kernel
theorem dX7_isThere_13 : decode cX7_isThere 13 = .ok (.iaload, 1) := by decide +kernel
theorem dX7_isThere_14 : decode cX7_isThere 14 = .ok (.ifCond .le 7, 3) := by decide +kernel
theorem dX7_isThere_17 : decode cX7_isThere 17 = .ok (.iconst 1, 1) := by decide +kernel
theorem dX7_isThere_18 : decode cX7_isThere 18 = .ok (.goto 4, 3) := by decide +kernel
theorem dX7_isThere_21 : decode cX7_isThere 21 = .ok (.iconst 0, 1) := by decide +kernel
theorem dX7_isThere_22 : decode cX7_isThere 22 = .ok (.ireturn, 1) := by decide +kernel
theorem dX7_signOf_0 : decode cX7_signOf 0 = .ok (.lload_n 0, 1) := by decide +kernel
theorem dX7_signOf_1 : decode cX7_signOf 1 = .ok (.lconst 0, 1) := by decide +kernel
theorem dX7_signOf_2 : decode cX7_signOf 2 = .ok (.lcmp, 1) := by decide +kernel
theorem dX7_signOf_3 : decode cX7_signOf 3 = .ok (.ifCond .le 7, 3) := by decide +kernel
theorem dX7_signOf_6 : decode cX7_signOf 6 = .ok (.iconst 1, 1) := by decide +kernel
theorem dX7_signOf_7 : decode cX7_signOf 7 = .ok (.goto 14, 3) := by decide +kernel
theorem dX7_signOf_10 : decode cX7_signOf 10 = .ok (.lload_n 0, 1) := by decide +kernel
theorem dX7_signOf_11 : decode cX7_signOf 11 = .ok (.lconst 0, 1) := by decide +kernel
theorem dX7_signOf_12 : decode cX7_signOf 12 = .ok (.lcmp, 1) := by decide +kernel
theorem dX7_signOf_13 : decode cX7_signOf 13 = .ok (.ifCond .ge 7, 3) := by decide +kernel
theorem dX7_signOf_16 : decode cX7_signOf 16 = .ok (.iconst (-1), 1) := by decide +kernel
theorem dX7_signOf_17 : decode cX7_signOf 17 = .ok (.goto 4, 3) := by decide +kernel
theorem dX7_signOf_20 : decode cX7_signOf 20 = .ok (.iconst 0, 1) := by decide +kernel
theorem dX7_signOf_21 : decode cX7_signOf 21 = .ok (.ireturn, 1) := by decide +kernel
theorem dX7_less_0 : decode cX7_less 0 = .ok (.lload_n 0, 1) := by decide +kernel
theorem dX7_less_1 : decode cX7_less 1 = .ok (.lload_n 2, 1) := by decide +kernel
theorem dX7_less_2 : decode cX7_less 2 = .ok (.lcmp, 1) := by decide +kernel
theorem dX7_less_3 : decode cX7_less 3 = .ok (.ifCond .ge 7, 3) := by decide +kernel
theorem dX7_less_6 : decode cX7_less 6 = .ok (.lload_n 0, 1) := by decide +kernel
theorem dX7_less_7 : decode cX7_less 7 = .ok (.goto 4, 3) := by decide +kernel
theorem dX7_less_10 : decode cX7_less 10 = .ok (.lload_n 2, 1) := by decide +kernel
theorem dX7_less_11 : decode cX7_less 11 = .ok (.lreturn, 1) := by decide +kernel
theorem dX7_more_0 : decode cX7_more 0 = .ok (.lload_n 0, 1) := by decide +kernel
theorem dX7_more_1 : decode cX7_more 1 = .ok (.lload_n 2, 1) := by decide +kernel
theorem dX7_more_2 : decode cX7_more 2 = .ok (.lcmp, 1) := by decide +kernel
theorem dX7_more_3 : decode cX7_more 3 = .ok (.ifCond .le 7, 3) := by decide +kernel
theorem dX7_more_6 : decode cX7_more 6 = .ok (.lload_n 0, 1) := by decide +kernel
theorem dX7_more_7 : decode cX7_more 7 = .ok (.goto 4, 3) := by decide +kernel
theorem dX7_more_10 : decode cX7_more 10 = .ok (.lload_n 2, 1) := by decide +kernel
theorem dX7_more_11 : decode cX7_more 11 = .ok (.lreturn, 1) := by decide +kernel
theorem dX7_divisor_0 : decode cX7_divisor 0 = .ok (.lload_n 0, 1) := by decide +kernel
theorem dX7_divisor_1 : decode cX7_divisor 1 = .ok (.lstore 4, 2) := by decide +kernel
theorem dX7_divisor_3 : decode cX7_divisor 3 = .ok (.lload_n 2, 1) := by decide +kernel
theorem dX7_divisor_4 : decode cX7_divisor 4 = .ok (.lstore 6, 2) := by decide +kernel
theorem dX7_divisor_6 : decode cX7_divisor 6 = .ok (.lload 6, 2) := by decide +kernel
theorem dX7_divisor_8 : decode cX7_divisor 8 = .ok (.lconst 0, 1) := by decide +kernel
theorem dX7_divisor_9 : decode cX7_divisor 9 = .ok (.lcmp, 1) := by decide +kernel
theorem dX7_divisor_10 : decode cX7_divisor 10 = .ok (.ifCond .eq 21, 3) := by decide +kernel
theorem dX7_divisor_13 : decode cX7_divisor 13 = .ok (.lload 4, 2) := by decide +kernel
theorem dX7_divisor_15 : decode cX7_divisor 15 = .ok (.lload 6, 2) := by decide +kernel
theorem dX7_divisor_17 : decode cX7_divisor 17 = .ok (.lrem, 1) := by decide +kernel
theorem dX7_divisor_18 : decode cX7_divisor 18 = .ok (.lstore 8, 2) := by decide +kernel
theorem dX7_divisor_20 : decode cX7_divisor 20 = .ok (.lload 6, 2) := by decide +kernel
theorem dX7_divisor_22 : decode cX7_divisor 22 = .ok (.lstore 4, 2) := by decide +kernel
theorem dX7_divisor_24 : decode cX7_divisor 24 = .ok (.lload 8, 2) := by decide +kernel
theorem dX7_divisor_26 : decode cX7_divisor 26 = .ok (.lstore 6, 2) := by decide +kernel
theorem dX7_divisor_28 : decode cX7_divisor 28 = .ok (.goto (-22), 3) := by decide +kernel
theorem dX7_divisor_31 : decode cX7_divisor 31 = .ok (.lload 4, 2) := by decide +kernel
theorem dX7_divisor_33 : decode cX7_divisor 33 = .ok (.lreturn, 1) := by decide +kernel
theorem dX7_at_0 : decode cX7_at 0 = .ok (.bipush 12, 2) := by decide +kernel
theorem dX7_at_2 : decode cX7_at 2 = .ok (.iload_n 1, 1) := by decide +kernel
theorem dX7_at_3 : decode cX7_at 3 = .ok (.imul, 1) := by decide +kernel
theorem dX7_at_4 : decode cX7_at 4 = .ok (.iload_n 2, 1) := by decide +kernel
theorem dX7_at_5 : decode cX7_at 5 = .ok (.aload_n 0, 1) := by decide +kernel
theorem dX7_at_6 : decode cX7_at 6 = .ok (.getfield 16, 3) := by decide +kernel
theorem dX7_at_9 : decode cX7_at 9 = .ok (.iload_n 1, 1) := by decide +kernel
theorem dX7_at_10 : decode cX7_at 10 = .ok (.iaload, 1) := by decide +kernel
theorem dX7_at_11 : decode cX7_at 11 = .ok (.irem, 1) := by decide +kernel
theorem dX7_at_12 : decode cX7_at 12 = .ok (.iadd, 1) := by decide +kernel
theorem dX7_at_13 : decode cX7_at 13 = .ok (.ireturn, 1) := by decide +kernel
theorem dX7_wayOf_0 : decode cX7_wayOf 0 = .ok (.lload 4, 2) := by decide +kernel
theorem dX7_wayOf_2 : decode cX7_wayOf 2 = .ok (.lload_n 0, 1) := by decide +kernel
theorem dX7_wayOf_3 : decode cX7_wayOf 3 = .ok (.lsub, 1) := by decide +kernel
theorem dX7_wayOf_4 : decode cX7_wayOf 4 = .ok (.lload 10, 2) := by decide +kernel
theorem dX7_wayOf_6 : decode cX7_wayOf 6 = .ok (.lload_n 2, 1) := by decide +kernel
theorem dX7_wayOf_7 : decode cX7_wayOf 7 = .ok (.lsub, 1) := by decide +kernel
theorem dX7_wayOf_8 : decode cX7_wayOf 8 = .ok (.lmul, 1) := by decide +kernel
theorem dX7_wayOf_9 : decode cX7_wayOf 9 = .ok (.lload 6, 2) := by decide +kernel
theorem dX7_wayOf_11 : decode cX7_wayOf 11 = .ok (.lload_n 2, 1) := by decide +kernel
theorem dX7_wayOf_12 : decode cX7_wayOf 12 = .ok (.lsub, 1) := by decide +kernel
theorem dX7_wayOf_13 : decode cX7_wayOf 13 = .ok (.lload 8, 2) := by decide +kernel
theorem dX7_wayOf_15 : decode cX7_wayOf 15 = .ok (.lload_n 0, 1) := by decide +kernel
theorem dX7_wayOf_16 : decode cX7_wayOf 16 = .ok (.lsub, 1) := by decide +kernel
theorem dX7_wayOf_17 : decode cX7_wayOf 17 = .ok (.lmul, 1) := by decide +kernel
theorem dX7_wayOf_18 : decode cX7_wayOf 18 = .ok (.lsub, 1) := by decide +kernel
theorem dX7_wayOf_19 : decode cX7_wayOf 19 = .ok (.invokestatic 83, 3) := by decide +kernel
theorem dX7_wayOf_22 : decode cX7_wayOf 22 = .ok (.ireturn, 1) := by decide +kernel
theorem dX7_isBetween_0 : decode cX7_isBetween 0 = .ok (.lload_n 0, 1) := by decide +kernel
theorem dX7_isBetween_1 : decode cX7_isBetween 1 = .ok (.lload 4, 2) := by decide +kernel
theorem dX7_isBetween_3 : decode cX7_isBetween 3 = .ok (.invokestatic 87, 3) := by decide +kernel
theorem dX7_isBetween_6 : decode cX7_isBetween 6 = .ok (.lload 8, 2) := by decide +kernel
theorem dX7_isBetween_8 : decode cX7_isBetween 8 = .ok (.lcmp, 1) := by decide +kernel
theorem dX7_isBetween_9 : decode cX7_isBetween 9 = .ok (.ifCond .gt 43, 3) := by decide +kernel
theorem dX7_isBetween_12 : decode cX7_isBetween 12 = .ok (.lload 8, 2) := by decide +kernel
theorem dX7_isBetween_14 : decode cX7_isBetween 14 = .ok (.lload_n 0, 1) := by decide +kernel
theorem dX7_isBetween_15 : decode cX7_isBetween 15 = .ok (.lload 4, 2) := by decide +kernel
theorem dX7_isBetween_17 : decode cX7_isBetween 17 = .ok (.invokestatic 91, 3) := by decide +kernel
theorem dX7_isBetween_20 : decode cX7_isBetween 20 = .ok (.lcmp, 1) := by decide +kernel
theorem dX7_isBetween_21 : decode cX7_isBetween 21 = .ok (.ifCond .gt 31, 3) := by decide +kernel
theorem dX7_isBetween_24 : decode cX7_isBetween 24 = .ok (.lload_n 2, 1) := by decide +kernel
theorem dX7_isBetween_25 : decode cX7_isBetween 25 = .ok (.lload 6, 2) := by decide +kernel
theorem dX7_isBetween_27 : decode cX7_isBetween 27 = .ok (.invokestatic 87, 3) := by decide +kernel
theorem dX7_isBetween_30 : decode cX7_isBetween 30 = .ok (.lload 10, 2) := by decide +kernel
theorem dX7_isBetween_32 : decode cX7_isBetween 32 = .ok (.lcmp, 1) := by decide +kernel
theorem dX7_isBetween_33 : decode cX7_isBetween 33 = .ok (.ifCond .gt 19, 3) := by decide +kernel
theorem dX7_isBetween_36 : decode cX7_isBetween 36 = .ok (.lload 10, 2) := by decide +kernel
theorem dX7_isBetween_38 : decode cX7_isBetween 38 = .ok (.lload_n 2, 1) := by decide +kernel
theorem dX7_isBetween_39 : decode cX7_isBetween 39 = .ok (.lload 6, 2) := by decide +kernel
theorem dX7_isBetween_41 : decode cX7_isBetween 41 = .ok (.invokestatic 91, 3) := by decide +kernel
theorem dX7_isBetween_44 : decode cX7_isBetween 44 = .ok (.lcmp, 1) := by decide +kernel
theorem dX7_isBetween_45 : decode cX7_isBetween 45 = .ok (.ifCond .gt 7, 3) := by decide +kernel
theorem dX7_isBetween_48 : decode cX7_isBetween 48 = .ok (.iconst 1, 1) := by decide +kernel
theorem dX7_isBetween_49 : decode cX7_isBetween 49 = .ok (.goto 4, 3) := by decide +kernel
theorem dX7_isBetween_52 : decode cX7_isBetween 52 = .ok (.iconst 0, 1) := by decide +kernel
theorem dX7_isBetween_53 : decode cX7_isBetween 53 = .ok (.ireturn, 1) := by decide +kernel
theorem dX7_doMeet_0 : decode cX7_doMeet 0 = .ok (.aload_n 0, 1) := by decide +kernel
theorem dX7_doMeet_1 : decode cX7_doMeet 1 = .ok (.getfield 7, 3) := by decide +kernel
theorem dX7_doMeet_4 : decode cX7_doMeet 4 = .ok (.iload_n 1, 1) := by decide +kernel
theorem dX7_doMeet_5 : decode cX7_doMeet 5 = .ok (.laload, 1) := by decide +kernel
theorem dX7_doMeet_6 : decode cX7_doMeet 6 = .ok (.aload_n 0, 1) := by decide +kernel
theorem dX7_doMeet_7 : decode cX7_doMeet 7 = .ok (.getfield 13, 3) := by decide +kernel
theorem dX7_doMeet_10 : decode cX7_doMeet 10 = .ok (.iload_n 1, 1) := by decide +kernel
theorem dX7_doMeet_11 : decode cX7_doMeet 11 = .ok (.laload, 1) := by decide +kernel
theorem dX7_doMeet_12 : decode cX7_doMeet 12 = .ok (.aload_n 0, 1) := by decide +kernel
theorem dX7_doMeet_13 : decode cX7_doMeet 13 = .ok (.getfield 7, 3) := by decide +kernel
theorem dX7_doMeet_16 : decode cX7_doMeet 16 = .ok (.iload_n 2, 1) := by decide +kernel
theorem dX7_doMeet_17 : decode cX7_doMeet 17 = .ok (.laload, 1) := by decide +kernel
theorem dX7_doMeet_18 : decode cX7_doMeet 18 = .ok (.aload_n 0, 1) := by decide +kernel
theorem dX7_doMeet_19 : decode cX7_doMeet 19 = .ok (.getfield 13, 3) := by decide +kernel
theorem dX7_doMeet_22 : decode cX7_doMeet 22 = .ok (.iload_n 2, 1) := by decide +kernel
theorem dX7_doMeet_23 : decode cX7_doMeet 23 = .ok (.laload, 1) := by decide +kernel
theorem dX7_doMeet_24 : decode cX7_doMeet 24 = .ok (.aload_n 0, 1) := by decide +kernel
theorem dX7_doMeet_25 : decode cX7_doMeet 25 = .ok (.getfield 7, 3) := by decide +kernel
theorem dX7_doMeet_28 : decode cX7_doMeet 28 = .ok (.iload_n 3, 1) := by decide +kernel
theorem dX7_doMeet_29 : decode cX7_doMeet 29 = .ok (.laload, 1) := by decide +kernel
theorem dX7_doMeet_30 : decode cX7_doMeet 30 = .ok (.aload_n 0, 1) := by decide +kernel
theorem dX7_doMeet_31 : decode cX7_doMeet 31 = .ok (.getfield 13, 3) := by decide +kernel
theorem dX7_doMeet_34 : decode cX7_doMeet 34 = .ok (.iload_n 3, 1) := by decide +kernel
theorem dX7_doMeet_35 : decode cX7_doMeet 35 = .ok (.laload, 1) := by decide +kernel
theorem dX7_doMeet_36 : decode cX7_doMeet 36 = .ok (.invokestatic 94, 3) := by decide +kernel
theorem dX7_doMeet_39 : decode cX7_doMeet 39 = .ok (.istore 5, 2) := by decide +kernel
theorem dX7_doMeet_41 : decode cX7_doMeet 41 = .ok (.aload_n 0, 1) := by decide +kernel
theorem dX7_doMeet_42 : decode cX7_doMeet 42 = .ok (.getfield 7, 3) := by decide +kernel
theorem dX7_doMeet_45 : decode cX7_doMeet 45 = .ok (.iload_n 1, 1) := by decide +kernel
theorem dX7_doMeet_46 : decode cX7_doMeet 46 = .ok (.laload, 1) := by decide +kernel
theorem dX7_doMeet_47 : decode cX7_doMeet 47 = .ok (.aload_n 0, 1) := by decide +kernel
theorem dX7_doMeet_48 : decode cX7_doMeet 48 = .ok (.getfield 13, 3) := by decide +kernel
theorem dX7_doMeet_51 : decode cX7_doMeet 51 = .ok (.iload_n 1, 1) := by decide +kernel
theorem dX7_doMeet_52 : decode cX7_doMeet 52 = .ok (.laload, 1) := by decide +kernel
theorem dX7_doMeet_53 : decode cX7_doMeet 53 = .ok (.aload_n 0, 1) := by decide +kernel
theorem dX7_doMeet_54 : decode cX7_doMeet 54 = .ok (.getfield 7, 3) := by decide +kernel
theorem dX7_doMeet_57 : decode cX7_doMeet 57 = .ok (.iload_n 2, 1) := by decide +kernel
theorem dX7_doMeet_58 : decode cX7_doMeet 58 = .ok (.laload, 1) := by decide +kernel
theorem dX7_doMeet_59 : decode cX7_doMeet 59 = .ok (.aload_n 0, 1) := by decide +kernel
theorem dX7_doMeet_60 : decode cX7_doMeet 60 = .ok (.getfield 13, 3) := by decide +kernel
theorem dX7_doMeet_63 : decode cX7_doMeet 63 = .ok (.iload_n 2, 1) := by decide +kernel
theorem dX7_doMeet_64 : decode cX7_doMeet 64 = .ok (.laload, 1) := by decide +kernel
theorem dX7_doMeet_65 : decode cX7_doMeet 65 = .ok (.aload_n 0, 1) := by decide +kernel
theorem dX7_doMeet_66 : decode cX7_doMeet 66 = .ok (.getfield 7, 3) := by decide +kernel
theorem dX7_doMeet_69 : decode cX7_doMeet 69 = .ok (.iload 4, 2) := by decide +kernel
theorem dX7_doMeet_71 : decode cX7_doMeet 71 = .ok (.laload, 1) := by decide +kernel
theorem dX7_doMeet_72 : decode cX7_doMeet 72 = .ok (.aload_n 0, 1) := by decide +kernel
theorem dX7_doMeet_73 : decode cX7_doMeet 73 = .ok (.getfield 13, 3) := by decide +kernel
theorem dX7_doMeet_76 : decode cX7_doMeet 76 = .ok (.iload 4, 2) := by decide +kernel
theorem dX7_doMeet_78 : decode cX7_doMeet 78 = .ok (.laload, 1) := by decide +kernel
theorem dX7_doMeet_79 : decode cX7_doMeet 79 = .ok (.invokestatic 94, 3) := by decide +kernel
theorem dX7_doMeet_82 : decode cX7_doMeet 82 = .ok (.istore 6, 2) := by decide +kernel
theorem dX7_doMeet_84 : decode cX7_doMeet 84 = .ok (.aload_n 0, 1) := by decide +kernel
theorem dX7_doMeet_85 : decode cX7_doMeet 85 = .ok (.getfield 7, 3) := by decide +kernel
theorem dX7_doMeet_88 : decode cX7_doMeet 88 = .ok (.iload_n 3, 1) := by decide +kernel
theorem dX7_doMeet_89 : decode cX7_doMeet 89 = .ok (.laload, 1) := by decide +kernel
theorem dX7_doMeet_90 : decode cX7_doMeet 90 = .ok (.aload_n 0, 1) := by decide +kernel
theorem dX7_doMeet_91 : decode cX7_doMeet 91 = .ok (.getfield 13, 3) := by decide +kernel
theorem dX7_doMeet_94 : decode cX7_doMeet 94 = .ok (.iload_n 3, 1) := by decide +kernel
theorem dX7_doMeet_95 : decode cX7_doMeet 95 = .ok (.laload, 1) := by decide +kernel
theorem dX7_doMeet_96 : decode cX7_doMeet 96 = .ok (.aload_n 0, 1) := by decide +kernel
theorem dX7_doMeet_97 : decode cX7_doMeet 97 = .ok (.getfield 7, 3) := by decide +kernel
theorem dX7_doMeet_100 : decode cX7_doMeet 100 = .ok (.iload 4, 2) := by decide +kernel
theorem dX7_doMeet_102 : decode cX7_doMeet 102 = .ok (.laload, 1) := by decide +kernel
theorem dX7_doMeet_103 : decode cX7_doMeet 103 = .ok (.aload_n 0, 1) := by decide +kernel
theorem dX7_doMeet_104 : decode cX7_doMeet 104 = .ok (.getfield 13, 3) := by decide +kernel
theorem dX7_doMeet_107 : decode cX7_doMeet 107 = .ok (.iload 4, 2) := by decide +kernel
theorem dX7_doMeet_109 : decode cX7_doMeet 109 = .ok (.laload, 1) := by decide +kernel
theorem dX7_doMeet_110 : decode cX7_doMeet 110 = .ok (.aload_n 0, 1) := by decide +kernel
theorem dX7_doMeet_111 : decode cX7_doMeet 111 = .ok (.getfield 7, 3) := by decide +kernel
theorem dX7_doMeet_114 : decode cX7_doMeet 114 = .ok (.iload_n 1, 1) := by decide +kernel
theorem dX7_doMeet_115 : decode cX7_doMeet 115 = .ok (.laload, 1) := by decide +kernel
theorem dX7_doMeet_116 : decode cX7_doMeet 116 = .ok (.aload_n 0, 1) := by decide +kernel
theorem dX7_doMeet_117 : decode cX7_doMeet 117 = .ok (.getfield 13, 3) := by decide +kernel
theorem dX7_doMeet_120 : decode cX7_doMeet 120 = .ok (.iload_n 1, 1) := by decide +kernel
theorem dX7_doMeet_121 : decode cX7_doMeet 121 = .ok (.laload, 1) := by decide +kernel
theorem dX7_doMeet_122 : decode cX7_doMeet 122 = .ok (.invokestatic 94, 3) := by decide +kernel
theorem dX7_doMeet_125 : decode cX7_doMeet 125 = .ok (.istore 7, 2) := by decide +kernel
theorem dX7_doMeet_127 : decode cX7_doMeet 127 = .ok (.aload_n 0, 1) := by decide +kernel
theorem dX7_doMeet_128 : decode cX7_doMeet 128 = .ok (.getfield 7, 3) := by decide +kernel
theorem dX7_doMeet_131 : decode cX7_doMeet 131 = .ok (.iload_n 3, 1) := by decide +kernel
theorem dX7_doMeet_132 : decode cX7_doMeet 132 = .ok (.laload, 1) := by decide +kernel
theorem dX7_doMeet_133 : decode cX7_doMeet 133 = .ok (.aload_n 0, 1) := by decide +kernel
theorem dX7_doMeet_134 : decode cX7_doMeet 134 = .ok (.getfield 13, 3) := by decide +kernel
theorem dX7_doMeet_137 : decode cX7_doMeet 137 = .ok (.iload_n 3, 1) := by decide +kernel
theorem dX7_doMeet_138 : decode cX7_doMeet 138 = .ok (.laload, 1) := by decide +kernel
theorem dX7_doMeet_139 : decode cX7_doMeet 139 = .ok (.aload_n 0, 1) := by decide +kernel
theorem dX7_doMeet_140 : decode cX7_doMeet 140 = .ok (.getfield 7, 3) := by decide +kernel
theorem dX7_doMeet_143 : decode cX7_doMeet 143 = .ok (.iload 4, 2) := by decide +kernel
theorem dX7_doMeet_145 : decode cX7_doMeet 145 = .ok (.laload, 1) := by decide +kernel
theorem dX7_doMeet_146 : decode cX7_doMeet 146 = .ok (.aload_n 0, 1) := by decide +kernel
theorem dX7_doMeet_147 : decode cX7_doMeet 147 = .ok (.getfield 13, 3) := by decide +kernel
theorem dX7_doMeet_150 : decode cX7_doMeet 150 = .ok (.iload 4, 2) := by decide +kernel
theorem dX7_doMeet_152 : decode cX7_doMeet 152 = .ok (.laload, 1) := by decide +kernel
theorem dX7_doMeet_153 : decode cX7_doMeet 153 = .ok (.aload_n 0, 1) := by decide +kernel
theorem dX7_doMeet_154 : decode cX7_doMeet 154 = .ok (.getfield 7, 3) := by decide +kernel
theorem dX7_doMeet_157 : decode cX7_doMeet 157 = .ok (.iload_n 2, 1) := by decide +kernel
theorem dX7_doMeet_158 : decode cX7_doMeet 158 = .ok (.laload, 1) := by decide +kernel
theorem dX7_doMeet_159 : decode cX7_doMeet 159 = .ok (.aload_n 0, 1) := by decide +kernel
theorem dX7_doMeet_160 : decode cX7_doMeet 160 = .ok (.getfield 13, 3) := by decide +kernel
theorem dX7_doMeet_163 : decode cX7_doMeet 163 = .ok (.iload_n 2, 1) := by decide +kernel
theorem dX7_doMeet_164 : decode cX7_doMeet 164 = .ok (.laload, 1) := by decide +kernel
theorem dX7_doMeet_165 : decode cX7_doMeet 165 = .ok (.invokestatic 94, 3) := by decide +kernel
theorem dX7_doMeet_168 : decode cX7_doMeet 168 = .ok (.istore 8, 2) := by decide +kernel
theorem dX7_doMeet_170 : decode cX7_doMeet 170 = .ok (.iload 5, 2) := by decide +kernel
theorem dX7_doMeet_172 : decode cX7_doMeet 172 = .ok (.iload 6, 2) := by decide +kernel
theorem dX7_doMeet_174 : decode cX7_doMeet 174 = .ok (.imul, 1) := by decide +kernel
theorem dX7_doMeet_175 : decode cX7_doMeet 175 = .ok (.ifCond .ge 13, 3) := by decide +kernel
theorem dX7_doMeet_178 : decode cX7_doMeet 178 = .ok (.iload 7, 2) := by decide +kernel
theorem dX7_doMeet_180 : decode cX7_doMeet 180 = .ok (.iload 8, 2) := by decide +kernel
theorem dX7_doMeet_182 : decode cX7_doMeet 182 = .ok (.imul, 1) := by decide +kernel
theorem dX7_doMeet_183 : decode cX7_doMeet 183 = .ok (.ifCond .ge 5, 3) := by decide +kernel
theorem dX7_doMeet_186 : decode cX7_doMeet 186 = .ok (.iconst 1, 1) := by decide +kernel
theorem dX7_doMeet_187 : decode cX7_doMeet 187 = .ok (.ireturn, 1) := by decide +kernel
theorem dX7_doMeet_188 : decode cX7_doMeet 188 = .ok (.iload 5, 2) := by decide +kernel
theorem dX7_doMeet_190 : decode cX7_doMeet 190 = .ok (.ifCond .ne 49, 3) := by decide +kernel
theorem dX7_doMeet_193 : decode cX7_doMeet 193 = .ok (.aload_n 0, 1) := by decide +kernel
theorem dX7_doMeet_194 : decode cX7_doMeet 194 = .ok (.getfield 7, 3) := by decide +kernel
theorem dX7_doMeet_197 : decode cX7_doMeet 197 = .ok (.iload_n 1, 1) := by decide +kernel
theorem dX7_doMeet_198 : decode cX7_doMeet 198 = .ok (.laload, 1) := by decide +kernel
theorem dX7_doMeet_199 : decode cX7_doMeet 199 = .ok (.aload_n 0, 1) := by decide +kernel
theorem dX7_doMeet_200 : decode cX7_doMeet 200 = .ok (.getfield 13, 3) := by decide +kernel
theorem dX7_doMeet_203 : decode cX7_doMeet 203 = .ok (.iload_n 1, 1) := by decide +kernel
theorem dX7_doMeet_204 : decode cX7_doMeet 204 = .ok (.laload, 1) := by decide +kernel
theorem dX7_doMeet_205 : decode cX7_doMeet 205 = .ok (.aload_n 0, 1) := by decide +kernel
theorem dX7_doMeet_206 : decode cX7_doMeet 206 = .ok (.getfield 7, 3) := by decide +kernel
theorem dX7_doMeet_209 : decode cX7_doMeet 209 = .ok (.iload_n 2, 1) := by decide +kernel
theorem dX7_doMeet_210 : decode cX7_doMeet 210 = .ok (.laload, 1) := by decide +kernel
theorem dX7_doMeet_211 : decode cX7_doMeet 211 = .ok (.aload_n 0, 1) := by decide +kernel
theorem dX7_doMeet_212 : decode cX7_doMeet 212 = .ok (.getfield 13, 3) := by decide +kernel
theorem dX7_doMeet_215 : decode cX7_doMeet 215 = .ok (.iload_n 2, 1) := by decide +kernel
theorem dX7_doMeet_216 : decode cX7_doMeet 216 = .ok (.laload, 1) := by decide +kernel
theorem dX7_doMeet_217 : decode cX7_doMeet 217 = .ok (.aload_n 0, 1) := by decide +kernel
theorem dX7_doMeet_218 : decode cX7_doMeet 218 = .ok (.getfield 7, 3) := by decide +kernel
theorem dX7_doMeet_221 : decode cX7_doMeet 221 = .ok (.iload_n 3, 1) := by decide +kernel
theorem dX7_doMeet_222 : decode cX7_doMeet 222 = .ok (.laload, 1) := by decide +kernel
theorem dX7_doMeet_223 : decode cX7_doMeet 223 = .ok (.aload_n 0, 1) := by decide +kernel
theorem dX7_doMeet_224 : decode cX7_doMeet 224 = .ok (.getfield 13, 3) := by decide +kernel
theorem dX7_doMeet_227 : decode cX7_doMeet 227 = .ok (.iload_n 3, 1) := by decide +kernel
theorem dX7_doMeet_228 : decode cX7_doMeet 228 = .ok (.laload, 1) := by decide +kernel
theorem dX7_doMeet_229 : decode cX7_doMeet 229 = .ok (.invokestatic 98, 3) := by decide +kernel
theorem dX7_doMeet_232 : decode cX7_doMeet 232 = .ok (.ifCond .eq 7, 3) := by decide +kernel
theorem dX7_doMeet_235 : decode cX7_doMeet 235 = .ok (.iconst 1, 1) := by decide +kernel
theorem dX7_doMeet_236 : decode cX7_doMeet 236 = .ok (.goto 4, 3) := by decide +kernel
theorem dX7_doMeet_239 : decode cX7_doMeet 239 = .ok (.iconst 0, 1) := by decide +kernel
theorem dX7_doMeet_240 : decode cX7_doMeet 240 = .ok (.istore 9, 2) := by decide +kernel
theorem dX7_doMeet_242 : decode cX7_doMeet 242 = .ok (.iload 9, 2) := by decide +kernel
theorem dX7_doMeet_244 : decode cX7_doMeet 244 = .ok (.ifCond .ne 52, 3) := by decide +kernel
theorem dX7_doMeet_247 : decode cX7_doMeet 247 = .ok (.iload 6, 2) := by decide +kernel
theorem dX7_doMeet_249 : decode cX7_doMeet 249 = .ok (.ifCond .ne 51, 3) := by decide +kernel
theorem dX7_doMeet_252 : decode cX7_doMeet 252 = .ok (.aload_n 0, 1) := by decide +kernel
theorem dX7_doMeet_253 : decode cX7_doMeet 253 = .ok (.getfield 7, 3) := by decide +kernel
theorem dX7_doMeet_256 : decode cX7_doMeet 256 = .ok (.iload_n 1, 1) := by decide +kernel
theorem dX7_doMeet_257 : decode cX7_doMeet 257 = .ok (.laload, 1) := by decide +kernel
theorem dX7_doMeet_258 : decode cX7_doMeet 258 = .ok (.aload_n 0, 1) := by decide +kernel
theorem dX7_doMeet_259 : decode cX7_doMeet 259 = .ok (.getfield 13, 3) := by decide +kernel
theorem dX7_doMeet_262 : decode cX7_doMeet 262 = .ok (.iload_n 1, 1) := by decide +kernel
theorem dX7_doMeet_263 : decode cX7_doMeet 263 = .ok (.laload, 1) := by decide +kernel
theorem dX7_doMeet_264 : decode cX7_doMeet 264 = .ok (.aload_n 0, 1) := by decide +kernel
theorem dX7_doMeet_265 : decode cX7_doMeet 265 = .ok (.getfield 7, 3) := by decide +kernel
theorem dX7_doMeet_268 : decode cX7_doMeet 268 = .ok (.iload_n 2, 1) := by decide +kernel
theorem dX7_doMeet_269 : decode cX7_doMeet 269 = .ok (.laload, 1) := by decide +kernel
theorem dX7_doMeet_270 : decode cX7_doMeet 270 = .ok (.aload_n 0, 1) := by decide +kernel
theorem dX7_doMeet_271 : decode cX7_doMeet 271 = .ok (.getfield 13, 3) := by decide +kernel
theorem dX7_doMeet_274 : decode cX7_doMeet 274 = .ok (.iload_n 2, 1) := by decide +kernel
theorem dX7_doMeet_275 : decode cX7_doMeet 275 = .ok (.laload, 1) := by decide +kernel
theorem dX7_doMeet_276 : decode cX7_doMeet 276 = .ok (.aload_n 0, 1) := by decide +kernel
theorem dX7_doMeet_277 : decode cX7_doMeet 277 = .ok (.getfield 7, 3) := by decide +kernel
theorem dX7_doMeet_280 : decode cX7_doMeet 280 = .ok (.iload 4, 2) := by decide +kernel
theorem dX7_doMeet_282 : decode cX7_doMeet 282 = .ok (.laload, 1) := by decide +kernel
theorem dX7_doMeet_283 : decode cX7_doMeet 283 = .ok (.aload_n 0, 1) := by decide +kernel
theorem dX7_doMeet_284 : decode cX7_doMeet 284 = .ok (.getfield 13, 3) := by decide +kernel
theorem dX7_doMeet_287 : decode cX7_doMeet 287 = .ok (.iload 4, 2) := by decide +kernel
theorem dX7_doMeet_289 : decode cX7_doMeet 289 = .ok (.laload, 1) := by decide +kernel
theorem dX7_doMeet_290 : decode cX7_doMeet 290 = .ok (.invokestatic 98, 3) := by decide +kernel
theorem dX7_doMeet_293 : decode cX7_doMeet 293 = .ok (.ifCond .eq 7, 3) := by decide +kernel
theorem dX7_doMeet_296 : decode cX7_doMeet 296 = .ok (.iconst 1, 1) := by decide +kernel
theorem dX7_doMeet_297 : decode cX7_doMeet 297 = .ok (.goto 4, 3) := by decide +kernel
theorem dX7_doMeet_300 : decode cX7_doMeet 300 = .ok (.iconst 0, 1) := by decide +kernel
theorem dX7_doMeet_301 : decode cX7_doMeet 301 = .ok (.istore 9, 2) := by decide +kernel
theorem dX7_doMeet_303 : decode cX7_doMeet 303 = .ok (.iload 9, 2) := by decide +kernel
theorem dX7_doMeet_305 : decode cX7_doMeet 305 = .ok (.ifCond .ne 52, 3) := by decide +kernel
theorem dX7_doMeet_308 : decode cX7_doMeet 308 = .ok (.iload 7, 2) := by decide +kernel
theorem dX7_doMeet_310 : decode cX7_doMeet 310 = .ok (.ifCond .ne 51, 3) := by decide +kernel
theorem dX7_doMeet_313 : decode cX7_doMeet 313 = .ok (.aload_n 0, 1) := by decide +kernel
theorem dX7_doMeet_314 : decode cX7_doMeet 314 = .ok (.getfield 7, 3) := by decide +kernel
theorem dX7_doMeet_317 : decode cX7_doMeet 317 = .ok (.iload_n 3, 1) := by decide +kernel
theorem dX7_doMeet_318 : decode cX7_doMeet 318 = .ok (.laload, 1) := by decide +kernel
theorem dX7_doMeet_319 : decode cX7_doMeet 319 = .ok (.aload_n 0, 1) := by decide +kernel
theorem dX7_doMeet_320 : decode cX7_doMeet 320 = .ok (.getfield 13, 3) := by decide +kernel
theorem dX7_doMeet_323 : decode cX7_doMeet 323 = .ok (.iload_n 3, 1) := by decide +kernel
theorem dX7_doMeet_324 : decode cX7_doMeet 324 = .ok (.laload, 1) := by decide +kernel
theorem dX7_doMeet_325 : decode cX7_doMeet 325 = .ok (.aload_n 0, 1) := by decide +kernel
theorem dX7_doMeet_326 : decode cX7_doMeet 326 = .ok (.getfield 7, 3) := by decide +kernel
theorem dX7_doMeet_329 : decode cX7_doMeet 329 = .ok (.iload 4, 2) := by decide +kernel
theorem dX7_doMeet_331 : decode cX7_doMeet 331 = .ok (.laload, 1) := by decide +kernel
theorem dX7_doMeet_332 : decode cX7_doMeet 332 = .ok (.aload_n 0, 1) := by decide +kernel
theorem dX7_doMeet_333 : decode cX7_doMeet 333 = .ok (.getfield 13, 3) := by decide +kernel
theorem dX7_doMeet_336 : decode cX7_doMeet 336 = .ok (.iload 4, 2) := by decide +kernel
theorem dX7_doMeet_338 : decode cX7_doMeet 338 = .ok (.laload, 1) := by decide +kernel
theorem dX7_doMeet_339 : decode cX7_doMeet 339 = .ok (.aload_n 0, 1) := by decide +kernel
theorem dX7_doMeet_340 : decode cX7_doMeet 340 = .ok (.getfield 7, 3) := by decide +kernel
theorem dX7_doMeet_343 : decode cX7_doMeet 343 = .ok (.iload_n 1, 1) := by decide +kernel
theorem dX7_doMeet_344 : decode cX7_doMeet 344 = .ok (.laload, 1) := by decide +kernel
theorem dX7_doMeet_345 : decode cX7_doMeet 345 = .ok (.aload_n 0, 1) := by decide +kernel
theorem dX7_doMeet_346 : decode cX7_doMeet 346 = .ok (.getfield 13, 3) := by decide +kernel
theorem dX7_doMeet_349 : decode cX7_doMeet 349 = .ok (.iload_n 1, 1) := by decide +kernel
theorem dX7_doMeet_350 : decode cX7_doMeet 350 = .ok (.laload, 1) := by decide +kernel
theorem dX7_doMeet_351 : decode cX7_doMeet 351 = .ok (.invokestatic 98, 3) := by decide +kernel
theorem dX7_doMeet_354 : decode cX7_doMeet 354 = .ok (.ifCond .eq 7, 3) := by decide +kernel
theorem dX7_doMeet_357 : decode cX7_doMeet 357 = .ok (.iconst 1, 1) := by decide +kernel
theorem dX7_doMeet_358 : decode cX7_doMeet 358 = .ok (.goto 4, 3) := by decide +kernel
theorem dX7_doMeet_361 : decode cX7_doMeet 361 = .ok (.iconst 0, 1) := by decide +kernel
theorem dX7_doMeet_362 : decode cX7_doMeet 362 = .ok (.istore 9, 2) := by decide +kernel
theorem dX7_doMeet_364 : decode cX7_doMeet 364 = .ok (.iload 9, 2) := by decide +kernel
theorem dX7_doMeet_366 : decode cX7_doMeet 366 = .ok (.ifCond .ne 52, 3) := by decide +kernel
theorem dX7_doMeet_369 : decode cX7_doMeet 369 = .ok (.iload 8, 2) := by decide +kernel
theorem dX7_doMeet_371 : decode cX7_doMeet 371 = .ok (.ifCond .ne 51, 3) := by decide +kernel
theorem dX7_doMeet_374 : decode cX7_doMeet 374 = .ok (.aload_n 0, 1) := by decide +kernel
theorem dX7_doMeet_375 : decode cX7_doMeet 375 = .ok (.getfield 7, 3) := by decide +kernel
theorem dX7_doMeet_378 : decode cX7_doMeet 378 = .ok (.iload_n 3, 1) := by decide +kernel
theorem dX7_doMeet_379 : decode cX7_doMeet 379 = .ok (.laload, 1) := by decide +kernel
theorem dX7_doMeet_380 : decode cX7_doMeet 380 = .ok (.aload_n 0, 1) := by decide +kernel
theorem dX7_doMeet_381 : decode cX7_doMeet 381 = .ok (.getfield 13, 3) := by decide +kernel
theorem dX7_doMeet_384 : decode cX7_doMeet 384 = .ok (.iload_n 3, 1) := by decide +kernel
theorem dX7_doMeet_385 : decode cX7_doMeet 385 = .ok (.laload, 1) := by decide +kernel
theorem dX7_doMeet_386 : decode cX7_doMeet 386 = .ok (.aload_n 0, 1) := by decide +kernel
theorem dX7_doMeet_387 : decode cX7_doMeet 387 = .ok (.getfield 7, 3) := by decide +kernel
theorem dX7_doMeet_390 : decode cX7_doMeet 390 = .ok (.iload 4, 2) := by decide +kernel
theorem dX7_doMeet_392 : decode cX7_doMeet 392 = .ok (.laload, 1) := by decide +kernel
theorem dX7_doMeet_393 : decode cX7_doMeet 393 = .ok (.aload_n 0, 1) := by decide +kernel
theorem dX7_doMeet_394 : decode cX7_doMeet 394 = .ok (.getfield 13, 3) := by decide +kernel
theorem dX7_doMeet_397 : decode cX7_doMeet 397 = .ok (.iload 4, 2) := by decide +kernel
theorem dX7_doMeet_399 : decode cX7_doMeet 399 = .ok (.laload, 1) := by decide +kernel
theorem dX7_doMeet_400 : decode cX7_doMeet 400 = .ok (.aload_n 0, 1) := by decide +kernel
theorem dX7_doMeet_401 : decode cX7_doMeet 401 = .ok (.getfield 7, 3) := by decide +kernel
theorem dX7_doMeet_404 : decode cX7_doMeet 404 = .ok (.iload_n 2, 1) := by decide +kernel
theorem dX7_doMeet_405 : decode cX7_doMeet 405 = .ok (.laload, 1) := by decide +kernel
theorem dX7_doMeet_406 : decode cX7_doMeet 406 = .ok (.aload_n 0, 1) := by decide +kernel
theorem dX7_doMeet_407 : decode cX7_doMeet 407 = .ok (.getfield 13, 3) := by decide +kernel
theorem dX7_doMeet_410 : decode cX7_doMeet 410 = .ok (.iload_n 2, 1) := by decide +kernel
theorem dX7_doMeet_411 : decode cX7_doMeet 411 = .ok (.laload, 1) := by decide +kernel
theorem dX7_doMeet_412 : decode cX7_doMeet 412 = .ok (.invokestatic 98, 3) := by decide +kernel
theorem dX7_doMeet_415 : decode cX7_doMeet 415 = .ok (.ifCond .eq 7, 3) := by decide +kernel
theorem dX7_doMeet_418 : decode cX7_doMeet 418 = .ok (.iconst 1, 1) := by decide +kernel
theorem dX7_doMeet_419 : decode cX7_doMeet 419 = .ok (.goto 4, 3) := by decide +kernel
theorem dX7_doMeet_422 : decode cX7_doMeet 422 = .ok (.iconst 0, 1) := by decide +kernel
theorem dX7_doMeet_423 : decode cX7_doMeet 423 = .ok (.ireturn, 1) := by decide +kernel
theorem dX7_doFold_0 : decode cX7_doFold 0 = .ok (.aload_n 0, 1) := by decide +kernel
theorem dX7_doFold_1 : decode cX7_doFold 1 = .ok (.getfield 7, 3) := by decide +kernel
theorem dX7_doFold_4 : decode cX7_doFold 4 = .ok (.iload_n 1, 1) := by decide +kernel
theorem dX7_doFold_5 : decode cX7_doFold 5 = .ok (.laload, 1) := by decide +kernel
theorem dX7_doFold_6 : decode cX7_doFold 6 = .ok (.aload_n 0, 1) := by decide +kernel
theorem dX7_doFold_7 : decode cX7_doFold 7 = .ok (.getfield 7, 3) := by decide +kernel
theorem dX7_doFold_10 : decode cX7_doFold 10 = .ok (.iload_n 2, 1) := by decide +kernel
theorem dX7_doFold_11 : decode cX7_doFold 11 = .ok (.laload, 1) := by decide +kernel
theorem dX7_doFold_12 : decode cX7_doFold 12 = .ok (.lsub, 1) := by decide +kernel
theorem dX7_doFold_13 : decode cX7_doFold 13 = .ok (.lstore 4, 2) := by decide +kernel
theorem dX7_doFold_15 : decode cX7_doFold 15 = .ok (.aload_n 0, 1) := by decide +kernel
theorem dX7_doFold_16 : decode cX7_doFold 16 = .ok (.getfield 13, 3) := by decide +kernel
theorem dX7_doFold_19 : decode cX7_doFold 19 = .ok (.iload_n 1, 1) := by decide +kernel
theorem dX7_doFold_20 : decode cX7_doFold 20 = .ok (.laload, 1) := by decide +kernel
theorem dX7_doFold_21 : decode cX7_doFold 21 = .ok (.aload_n 0, 1) := by decide +kernel
theorem dX7_doFold_22 : decode cX7_doFold 22 = .ok (.getfield 13, 3) := by decide +kernel
theorem dX7_doFold_25 : decode cX7_doFold 25 = .ok (.iload_n 2, 1) := by decide +kernel
theorem dX7_doFold_26 : decode cX7_doFold 26 = .ok (.laload, 1) := by decide +kernel
theorem dX7_doFold_27 : decode cX7_doFold 27 = .ok (.lsub, 1) := by decide +kernel
theorem dX7_doFold_28 : decode cX7_doFold 28 = .ok (.lstore 6, 2) := by decide +kernel
theorem dX7_doFold_30 : decode cX7_doFold 30 = .ok (.aload_n 0, 1) := by decide +kernel
theorem dX7_doFold_31 : decode cX7_doFold 31 = .ok (.getfield 7, 3) := by decide +kernel
theorem dX7_doFold_34 : decode cX7_doFold 34 = .ok (.iload_n 3, 1) := by decide +kernel
theorem dX7_doFold_35 : decode cX7_doFold 35 = .ok (.laload, 1) := by decide +kernel
theorem dX7_doFold_36 : decode cX7_doFold 36 = .ok (.aload_n 0, 1) := by decide +kernel
theorem dX7_doFold_37 : decode cX7_doFold 37 = .ok (.getfield 7, 3) := by decide +kernel
theorem dX7_doFold_40 : decode cX7_doFold 40 = .ok (.iload_n 2, 1) := by decide +kernel
theorem dX7_doFold_41 : decode cX7_doFold 41 = .ok (.laload, 1) := by decide +kernel
theorem dX7_doFold_42 : decode cX7_doFold 42 = .ok (.lsub, 1) := by decide +kernel
theorem dX7_doFold_43 : decode cX7_doFold 43 = .ok (.lstore 8, 2) := by decide +kernel
theorem dX7_doFold_45 : decode cX7_doFold 45 = .ok (.aload_n 0, 1) := by decide +kernel
theorem dX7_doFold_46 : decode cX7_doFold 46 = .ok (.getfield 13, 3) := by decide +kernel
theorem dX7_doFold_49 : decode cX7_doFold 49 = .ok (.iload_n 3, 1) := by decide +kernel
theorem dX7_doFold_50 : decode cX7_doFold 50 = .ok (.laload, 1) := by decide +kernel
theorem dX7_doFold_51 : decode cX7_doFold 51 = .ok (.aload_n 0, 1) := by decide +kernel
theorem dX7_doFold_52 : decode cX7_doFold 52 = .ok (.getfield 13, 3) := by decide +kernel
theorem dX7_doFold_55 : decode cX7_doFold 55 = .ok (.iload_n 2, 1) := by decide +kernel
theorem dX7_doFold_56 : decode cX7_doFold 56 = .ok (.laload, 1) := by decide +kernel
theorem dX7_doFold_57 : decode cX7_doFold 57 = .ok (.lsub, 1) := by decide +kernel
theorem dX7_doFold_58 : decode cX7_doFold 58 = .ok (.lstore 10, 2) := by decide +kernel
theorem dX7_doFold_60 : decode cX7_doFold 60 = .ok (.lload 4, 2) := by decide +kernel
theorem dX7_doFold_62 : decode cX7_doFold 62 = .ok (.lload 10, 2) := by decide +kernel
theorem dX7_doFold_64 : decode cX7_doFold 64 = .ok (.lmul, 1) := by decide +kernel
theorem dX7_doFold_65 : decode cX7_doFold 65 = .ok (.lload 6, 2) := by decide +kernel
theorem dX7_doFold_67 : decode cX7_doFold 67 = .ok (.lload 8, 2) := by decide +kernel
theorem dX7_doFold_69 : decode cX7_doFold 69 = .ok (.lmul, 1) := by decide +kernel
theorem dX7_doFold_70 : decode cX7_doFold 70 = .ok (.lcmp, 1) := by decide +kernel
theorem dX7_doFold_71 : decode cX7_doFold 71 = .ok (.ifCond .ne 23, 3) := by decide +kernel
theorem dX7_doFold_74 : decode cX7_doFold 74 = .ok (.lload 4, 2) := by decide +kernel
theorem dX7_doFold_76 : decode cX7_doFold 76 = .ok (.lload 8, 2) := by decide +kernel
theorem dX7_doFold_78 : decode cX7_doFold 78 = .ok (.lmul, 1) := by decide +kernel
theorem dX7_doFold_79 : decode cX7_doFold 79 = .ok (.lload 6, 2) := by decide +kernel
theorem dX7_doFold_81 : decode cX7_doFold 81 = .ok (.lload 10, 2) := by decide +kernel
theorem dX7_doFold_83 : decode cX7_doFold 83 = .ok (.lmul, 1) := by decide +kernel
theorem dX7_doFold_84 : decode cX7_doFold 84 = .ok (.ladd, 1) := by decide +kernel
theorem dX7_doFold_85 : decode cX7_doFold 85 = .ok (.lconst 0, 1) := by decide +kernel
theorem dX7_doFold_86 : decode cX7_doFold 86 = .ok (.lcmp, 1) := by decide +kernel
theorem dX7_doFold_87 : decode cX7_doFold 87 = .ok (.ifCond .le 7, 3) := by decide +kernel
theorem dX7_doFold_90 : decode cX7_doFold 90 = .ok (.iconst 1, 1) := by decide +kernel
theorem dX7_doFold_91 : decode cX7_doFold 91 = .ok (.goto 4, 3) := by decide +kernel
theorem dX7_doFold_94 : decode cX7_doFold 94 = .ok (.iconst 0, 1) := by decide +kernel
theorem dX7_doFold_95 : decode cX7_doFold 95 = .ok (.ireturn, 1) := by decide +kernel
theorem dX7_isSimple_0 : decode cX7_isSimple 0 = .ok (.aload_n 0, 1) := by decide +kernel
theorem dX7_isSimple_1 : decode cX7_isSimple 1 = .ok (.getfield 16, 3) := by decide +kernel
theorem dX7_isSimple_4 : decode cX7_isSimple 4 = .ok (.iload_n 1, 1) := by decide +kernel
theorem dX7_isSimple_5 : decode cX7_isSimple 5 = .ok (.iaload, 1) := by decide +kernel
theorem dX7_isSimple_6 : decode cX7_isSimple 6 = .ok (.istore_n 2, 1) := by decide +kernel
theorem dX7_isSimple_7 : decode cX7_isSimple 7 = .ok (.iload_n 2, 1) := by decide +kernel
theorem dX7_isSimple_8 : decode cX7_isSimple 8 = .ok (.iconst 2, 1) := by decide +kernel
theorem dX7_isSimple_9 : decode cX7_isSimple 9 = .ok (.if_icmp .le 7, 3) := by decide +kernel
theorem dX7_isSimple_12 : decode cX7_isSimple 12 = .ok (.iconst 1, 1) := by decide +kernel
theorem dX7_isSimple_13 : decode cX7_isSimple 13 = .ok (.goto 4, 3) := by decide +kernel
theorem dX7_isSimple_16 : decode cX7_isSimple 16 = .ok (.iconst 0, 1) := by decide +kernel
theorem dX7_isSimple_17 : decode cX7_isSimple 17 = .ok (.istore_n 3, 1) := by decide +kernel
theorem dX7_isSimple_18 : decode cX7_isSimple 18 = .ok (.iconst 0, 1) := by decide +kernel
theorem dX7_isSimple_19 : decode cX7_isSimple 19 = .ok (.istore 4, 2) := by decide +kernel
theorem dX7_isSimple_21 : decode cX7_isSimple 21 = .ok (.iload 4, 2) := by decide +kernel
theorem dX7_isSimple_23 : decode cX7_isSimple 23 = .ok (.iload_n 2, 1) := by decide +kernel
theorem dX7_isSimple_24 : decode cX7_isSimple 24 = .ok (.if_icmp .ge 218, 3) := by decide +kernel
theorem dX7_isSimple_27 : decode cX7_isSimple 27 = .ok (.iload_n 3, 1) := by decide +kernel
theorem dX7_isSimple_28 : decode cX7_isSimple 28 = .ok (.ifCond .eq 214, 3) := by decide +kernel
theorem dX7_isSimple_31 : decode cX7_isSimple 31 = .ok (.aload_n 0, 1) := by decide +kernel
theorem dX7_isSimple_32 : decode cX7_isSimple 32 = .ok (.aload_n 0, 1) := by decide +kernel
theorem dX7_isSimple_33 : decode cX7_isSimple 33 = .ok (.iload_n 1, 1) := by decide +kernel
theorem dX7_isSimple_34 : decode cX7_isSimple 34 = .ok (.iload 4, 2) := by decide +kernel
theorem dX7_isSimple_36 : decode cX7_isSimple 36 = .ok (.invokevirtual 102, 3) := by decide +kernel
theorem dX7_isSimple_39 : decode cX7_isSimple 39 = .ok (.aload_n 0, 1) := by decide +kernel
theorem dX7_isSimple_40 : decode cX7_isSimple 40 = .ok (.iload_n 1, 1) := by decide +kernel
theorem dX7_isSimple_41 : decode cX7_isSimple 41 = .ok (.iload 4, 2) := by decide +kernel
theorem dX7_isSimple_43 : decode cX7_isSimple 43 = .ok (.iconst 1, 1) := by decide +kernel
theorem dX7_isSimple_44 : decode cX7_isSimple 44 = .ok (.iadd, 1) := by decide +kernel
theorem dX7_isSimple_45 : decode cX7_isSimple 45 = .ok (.invokevirtual 102, 3) := by decide +kernel
theorem dX7_isSimple_48 : decode cX7_isSimple 48 = .ok (.aload_n 0, 1) := by decide +kernel
theorem dX7_isSimple_49 : decode cX7_isSimple 49 = .ok (.iload_n 1, 1) := by decide +kernel
theorem dX7_isSimple_50 : decode cX7_isSimple 50 = .ok (.iload 4, 2) := by decide +kernel
theorem dX7_isSimple_52 : decode cX7_isSimple 52 = .ok (.iconst 2, 1) := by decide +kernel
theorem dX7_isSimple_53 : decode cX7_isSimple 53 = .ok (.iadd, 1) := by decide +kernel
theorem dX7_isSimple_54 : decode cX7_isSimple 54 = .ok (.invokevirtual 102, 3) := by decide +kernel
theorem dX7_isSimple_57 : decode cX7_isSimple 57 = .ok (.invokevirtual 106, 3) := by decide +kernel
theorem dX7_isSimple_60 : decode cX7_isSimple 60 = .ok (.ifCond .ne 7, 3) := by decide +kernel
theorem dX7_isSimple_63 : decode cX7_isSimple 63 = .ok (.iconst 1, 1) := by decide +kernel
theorem dX7_isSimple_64 : decode cX7_isSimple 64 = .ok (.goto 4, 3) := by decide +kernel
theorem dX7_isSimple_67 : decode cX7_isSimple 67 = .ok (.iconst 0, 1) := by decide +kernel
theorem dX7_isSimple_68 : decode cX7_isSimple 68 = .ok (.istore_n 3, 1) := by decide +kernel
theorem dX7_isSimple_69 : decode cX7_isSimple 69 = .ok (.iload 4, 2) := by decide +kernel
theorem dX7_isSimple_71 : decode cX7_isSimple 71 = .ok (.iconst 1, 1) := by decide +kernel
theorem dX7_isSimple_72 : decode cX7_isSimple 72 = .ok (.iadd, 1) := by decide +kernel
theorem dX7_isSimple_73 : decode cX7_isSimple 73 = .ok (.istore 5, 2) := by decide +kernel
theorem dX7_isSimple_75 : decode cX7_isSimple 75 = .ok (.iload 5, 2) := by decide +kernel
theorem dX7_isSimple_77 : decode cX7_isSimple 77 = .ok (.iload_n 2, 1) := by decide +kernel
theorem dX7_isSimple_78 : decode cX7_isSimple 78 = .ok (.if_icmp .ge 158, 3) := by decide +kernel
theorem dX7_isSimple_81 : decode cX7_isSimple 81 = .ok (.iload_n 3, 1) := by decide +kernel
theorem dX7_isSimple_82 : decode cX7_isSimple 82 = .ok (.ifCond .eq 154, 3) := by decide +kernel
theorem dX7_isSimple_85 : decode cX7_isSimple 85 = .ok (.aload_n 0, 1) := by decide +kernel
theorem dX7_isSimple_86 : decode cX7_isSimple 86 = .ok (.getfield 7, 3) := by decide +kernel
theorem dX7_isSimple_89 : decode cX7_isSimple 89 = .ok (.aload_n 0, 1) := by decide +kernel
theorem dX7_isSimple_90 : decode cX7_isSimple 90 = .ok (.iload_n 1, 1) := by decide +kernel
theorem dX7_isSimple_91 : decode cX7_isSimple 91 = .ok (.iload 4, 2) := by decide +kernel
theorem dX7_isSimple_93 : decode cX7_isSimple 93 = .ok (.invokevirtual 102, 3) := by decide +kernel
theorem dX7_isSimple_96 : decode cX7_isSimple 96 = .ok (.laload, 1) := by decide +kernel
theorem dX7_isSimple_97 : decode cX7_isSimple 97 = .ok (.aload_n 0, 1) := by decide +kernel
theorem dX7_isSimple_98 : decode cX7_isSimple 98 = .ok (.getfield 7, 3) := by decide +kernel
theorem dX7_isSimple_101 : decode cX7_isSimple 101 = .ok (.aload_n 0, 1) := by decide +kernel
theorem dX7_isSimple_102 : decode cX7_isSimple 102 = .ok (.iload_n 1, 1) := by decide +kernel
theorem dX7_isSimple_103 : decode cX7_isSimple 103 = .ok (.iload 5, 2) := by decide +kernel
theorem dX7_isSimple_105 : decode cX7_isSimple 105 = .ok (.invokevirtual 102, 3) := by decide +kernel
theorem dX7_isSimple_108 : decode cX7_isSimple 108 = .ok (.laload, 1) := by decide +kernel
theorem dX7_isSimple_109 : decode cX7_isSimple 109 = .ok (.lcmp, 1) := by decide +kernel
theorem dX7_isSimple_110 : decode cX7_isSimple 110 = .ok (.ifCond .ne 31, 3) := by decide +kernel
theorem dX7_isSimple_113 : decode cX7_isSimple 113 = .ok (.aload_n 0, 1) := by decide +kernel
theorem dX7_isSimple_114 : decode cX7_isSimple 114 = .ok (.getfield 13, 3) := by decide +kernel
theorem dX7_isSimple_117 : decode cX7_isSimple 117 = .ok (.aload_n 0, 1) := by decide +kernel
theorem dX7_isSimple_118 : decode cX7_isSimple 118 = .ok (.iload_n 1, 1) := by decide +kernel
theorem dX7_isSimple_119 : decode cX7_isSimple 119 = .ok (.iload 4, 2) := by decide +kernel
theorem dX7_isSimple_121 : decode cX7_isSimple 121 = .ok (.invokevirtual 102, 3) := by decide +kernel
theorem dX7_isSimple_124 : decode cX7_isSimple 124 = .ok (.laload, 1) := by decide +kernel
theorem dX7_isSimple_125 : decode cX7_isSimple 125 = .ok (.aload_n 0, 1) := by decide +kernel
theorem dX7_isSimple_126 : decode cX7_isSimple 126 = .ok (.getfield 13, 3) := by decide +kernel
theorem dX7_isSimple_129 : decode cX7_isSimple 129 = .ok (.aload_n 0, 1) := by decide +kernel
theorem dX7_isSimple_130 : decode cX7_isSimple 130 = .ok (.iload_n 1, 1) := by decide +kernel
theorem dX7_isSimple_131 : decode cX7_isSimple 131 = .ok (.iload 5, 2) := by decide +kernel
theorem dX7_isSimple_133 : decode cX7_isSimple 133 = .ok (.invokevirtual 102, 3) := by decide +kernel
theorem dX7_isSimple_136 : decode cX7_isSimple 136 = .ok (.laload, 1) := by decide +kernel
theorem dX7_isSimple_137 : decode cX7_isSimple 137 = .ok (.lcmp, 1) := by decide +kernel
theorem dX7_isSimple_138 : decode cX7_isSimple 138 = .ok (.ifCond .eq 7, 3) := by decide +kernel
theorem dX7_isSimple_141 : decode cX7_isSimple 141 = .ok (.iconst 1, 1) := by decide +kernel
theorem dX7_isSimple_142 : decode cX7_isSimple 142 = .ok (.goto 4, 3) := by decide +kernel
theorem dX7_isSimple_145 : decode cX7_isSimple 145 = .ok (.iconst 0, 1) := by decide +kernel
theorem dX7_isSimple_146 : decode cX7_isSimple 146 = .ok (.istore_n 3, 1) := by decide +kernel
theorem dX7_isSimple_147 : decode cX7_isSimple 147 = .ok (.iload 5, 2) := by decide +kernel
theorem dX7_isSimple_149 : decode cX7_isSimple 149 = .ok (.iload 4, 2) := by decide +kernel
theorem dX7_isSimple_151 : decode cX7_isSimple 151 = .ok (.iconst 1, 1) := by decide +kernel
theorem dX7_isSimple_152 : decode cX7_isSimple 152 = .ok (.iadd, 1) := by decide +kernel
theorem dX7_isSimple_153 : decode cX7_isSimple 153 = .ok (.if_icmp .eq 16, 3) := by decide +kernel
theorem dX7_isSimple_156 : decode cX7_isSimple 156 = .ok (.iload 4, 2) := by decide +kernel
theorem dX7_isSimple_158 : decode cX7_isSimple 158 = .ok (.ifCond .ne 15, 3) := by decide +kernel
theorem dX7_isSimple_161 : decode cX7_isSimple 161 = .ok (.iload 5, 2) := by decide +kernel
theorem dX7_isSimple_163 : decode cX7_isSimple 163 = .ok (.iload_n 2, 1) := by decide +kernel
theorem dX7_isSimple_164 : decode cX7_isSimple 164 = .ok (.iconst 1, 1) := by decide +kernel
theorem dX7_isSimple_165 : decode cX7_isSimple 165 = .ok (.isub, 1) := by decide +kernel
theorem dX7_isSimple_166 : decode cX7_isSimple 166 = .ok (.if_icmp .ne 7, 3) := by decide +kernel
theorem dX7_isSimple_169 : decode cX7_isSimple 169 = .ok (.iconst 1, 1) := by decide +kernel
theorem dX7_isSimple_170 : decode cX7_isSimple 170 = .ok (.goto 4, 3) := by decide +kernel
theorem dX7_isSimple_173 : decode cX7_isSimple 173 = .ok (.iconst 0, 1) := by decide +kernel
theorem dX7_isSimple_174 : decode cX7_isSimple 174 = .ok (.istore 6, 2) := by decide +kernel
theorem dX7_isSimple_176 : decode cX7_isSimple 176 = .ok (.iload_n 3, 1) := by decide +kernel
theorem dX7_isSimple_177 : decode cX7_isSimple 177 = .ok (.ifCond .eq 51, 3) := by decide +kernel
theorem dX7_isSimple_180 : decode cX7_isSimple 180 = .ok (.iload 6, 2) := by decide +kernel
theorem dX7_isSimple_182 : decode cX7_isSimple 182 = .ok (.ifCond .ne 42, 3) := by decide +kernel
theorem dX7_isSimple_185 : decode cX7_isSimple 185 = .ok (.aload_n 0, 1) := by decide +kernel
theorem dX7_isSimple_186 : decode cX7_isSimple 186 = .ok (.aload_n 0, 1) := by decide +kernel
theorem dX7_isSimple_187 : decode cX7_isSimple 187 = .ok (.iload_n 1, 1) := by decide +kernel
theorem dX7_isSimple_188 : decode cX7_isSimple 188 = .ok (.iload 4, 2) := by decide +kernel
theorem dX7_isSimple_190 : decode cX7_isSimple 190 = .ok (.invokevirtual 102, 3) := by decide +kernel
theorem dX7_isSimple_193 : decode cX7_isSimple 193 = .ok (.aload_n 0, 1) := by decide +kernel
theorem dX7_isSimple_194 : decode cX7_isSimple 194 = .ok (.iload_n 1, 1) := by decide +kernel
theorem dX7_isSimple_195 : decode cX7_isSimple 195 = .ok (.iload 4, 2) := by decide +kernel
theorem dX7_isSimple_197 : decode cX7_isSimple 197 = .ok (.iconst 1, 1) := by decide +kernel
theorem dX7_isSimple_198 : decode cX7_isSimple 198 = .ok (.iadd, 1) := by decide +kernel
theorem dX7_isSimple_199 : decode cX7_isSimple 199 = .ok (.invokevirtual 102, 3) := by decide +kernel
theorem dX7_isSimple_202 : decode cX7_isSimple 202 = .ok (.aload_n 0, 1) := by decide +kernel
theorem dX7_isSimple_203 : decode cX7_isSimple 203 = .ok (.iload_n 1, 1) := by decide +kernel
theorem dX7_isSimple_204 : decode cX7_isSimple 204 = .ok (.iload 5, 2) := by decide +kernel
theorem dX7_isSimple_206 : decode cX7_isSimple 206 = .ok (.invokevirtual 102, 3) := by decide +kernel
theorem dX7_isSimple_209 : decode cX7_isSimple 209 = .ok (.aload_n 0, 1) := by decide +kernel
theorem dX7_isSimple_210 : decode cX7_isSimple 210 = .ok (.iload_n 1, 1) := by decide +kernel
theorem dX7_isSimple_211 : decode cX7_isSimple 211 = .ok (.iload 5, 2) := by decide +kernel
theorem dX7_isSimple_213 : decode cX7_isSimple 213 = .ok (.iconst 1, 1) := by decide +kernel
theorem dX7_isSimple_214 : decode cX7_isSimple 214 = .ok (.iadd, 1) := by decide +kernel
theorem dX7_isSimple_215 : decode cX7_isSimple 215 = .ok (.invokevirtual 102, 3) := by decide +kernel
theorem dX7_isSimple_218 : decode cX7_isSimple 218 = .ok (.invokevirtual 110, 3) := by decide +kernel
theorem dX7_isSimple_221 : decode cX7_isSimple 221 = .ok (.ifCond .ne 7, 3) := by decide +kernel
theorem dX7_isSimple_224 : decode cX7_isSimple 224 = .ok (.iconst 1, 1) := by decide +kernel
theorem dX7_isSimple_225 : decode cX7_isSimple 225 = .ok (.goto 4, 3) := by decide +kernel
theorem dX7_isSimple_228 : decode cX7_isSimple 228 = .ok (.iconst 0, 1) := by decide +kernel
theorem dX7_isSimple_229 : decode cX7_isSimple 229 = .ok (.istore_n 3, 1) := by decide +kernel
theorem dX7_isSimple_230 : decode cX7_isSimple 230 = .ok (.iinc 5 1, 3) := by decide +kernel
theorem dX7_isSimple_233 : decode cX7_isSimple 233 = .ok (.goto (-158), 3) := by decide +kernel
theorem dX7_isSimple_236 : decode cX7_isSimple 236 = .ok (.iinc 4 1, 3) := by decide +kernel
theorem dX7_isSimple_239 : decode cX7_isSimple 239 = .ok (.goto (-218), 3) := by decide +kernel
theorem dX7_isSimple_242 : decode cX7_isSimple 242 = .ok (.iload_n 3, 1) := by decide +kernel
theorem dX7_isSimple_243 : decode cX7_isSimple 243 = .ok (.ireturn, 1) := by decide +kernel
theorem dX7_ringsMeet_0 : decode cX7_ringsMeet 0 = .ok (.iconst 0, 1) := by decide +kernel
theorem dX7_ringsMeet_1 : decode cX7_ringsMeet 1 = .ok (.istore_n 3, 1) := by decide +kernel
theorem dX7_ringsMeet_2 : decode cX7_ringsMeet 2 = .ok (.iload_n 3, 1) := by decide +kernel
theorem dX7_ringsMeet_3 : decode cX7_ringsMeet 3 = .ok (.aload_n 0, 1) := by decide +kernel
theorem dX7_ringsMeet_4 : decode cX7_ringsMeet 4 = .ok (.getfield 16, 3) := by decide +kernel
theorem dX7_ringsMeet_7 : decode cX7_ringsMeet 7 = .ok (.iload_n 1, 1) := by decide +kernel
theorem dX7_ringsMeet_8 : decode cX7_ringsMeet 8 = .ok (.iaload, 1) := by decide +kernel
theorem dX7_ringsMeet_9 : decode cX7_ringsMeet 9 = .ok (.if_icmp .ge 68, 3) := by decide +kernel
theorem dX7_ringsMeet_12 : decode cX7_ringsMeet 12 = .ok (.iconst 0, 1) := by decide +kernel
theorem dX7_ringsMeet_13 : decode cX7_ringsMeet 13 = .ok (.istore 4, 2) := by decide +kernel
theorem dX7_ringsMeet_15 : decode cX7_ringsMeet 15 = .ok (.iload 4, 2) := by decide +kernel
theorem dX7_ringsMeet_17 : decode cX7_ringsMeet 17 = .ok (.aload_n 0, 1) := by decide +kernel
theorem dX7_ringsMeet_18 : decode cX7_ringsMeet 18 = .ok (.getfield 16, 3) := by decide +kernel
theorem dX7_ringsMeet_21 : decode cX7_ringsMeet 21 = .ok (.iload_n 2, 1) := by decide +kernel
theorem dX7_ringsMeet_22 : decode cX7_ringsMeet 22 = .ok (.iaload, 1) := by decide +kernel
theorem dX7_ringsMeet_23 : decode cX7_ringsMeet 23 = .ok (.if_icmp .ge 48, 3) := by decide +kernel
theorem dX7_ringsMeet_26 : decode cX7_ringsMeet 26 = .ok (.aload_n 0, 1) := by decide +kernel
theorem dX7_ringsMeet_27 : decode cX7_ringsMeet 27 = .ok (.aload_n 0, 1) := by decide +kernel
theorem dX7_ringsMeet_28 : decode cX7_ringsMeet 28 = .ok (.iload_n 1, 1) := by decide +kernel
theorem dX7_ringsMeet_29 : decode cX7_ringsMeet 29 = .ok (.iload_n 3, 1) := by decide +kernel
theorem dX7_ringsMeet_30 : decode cX7_ringsMeet 30 = .ok (.invokevirtual 102, 3) := by decide +kernel
theorem dX7_ringsMeet_33 : decode cX7_ringsMeet 33 = .ok (.aload_n 0, 1) := by decide +kernel
theorem dX7_ringsMeet_34 : decode cX7_ringsMeet 34 = .ok (.iload_n 1, 1) := by decide +kernel
theorem dX7_ringsMeet_35 : decode cX7_ringsMeet 35 = .ok (.iload_n 3, 1) := by decide +kernel
theorem dX7_ringsMeet_36 : decode cX7_ringsMeet 36 = .ok (.iconst 1, 1) := by decide +kernel
theorem dX7_ringsMeet_37 : decode cX7_ringsMeet 37 = .ok (.iadd, 1) := by decide +kernel
theorem dX7_ringsMeet_38 : decode cX7_ringsMeet 38 = .ok (.invokevirtual 102, 3) := by decide +kernel
theorem dX7_ringsMeet_41 : decode cX7_ringsMeet 41 = .ok (.aload_n 0, 1) := by decide +kernel
theorem dX7_ringsMeet_42 : decode cX7_ringsMeet 42 = .ok (.iload_n 2, 1) := by decide +kernel
theorem dX7_ringsMeet_43 : decode cX7_ringsMeet 43 = .ok (.iload 4, 2) := by decide +kernel
theorem dX7_ringsMeet_45 : decode cX7_ringsMeet 45 = .ok (.invokevirtual 102, 3) := by decide +kernel
theorem dX7_ringsMeet_48 : decode cX7_ringsMeet 48 = .ok (.aload_n 0, 1) := by decide +kernel
theorem dX7_ringsMeet_49 : decode cX7_ringsMeet 49 = .ok (.iload_n 2, 1) := by decide +kernel
theorem dX7_ringsMeet_50 : decode cX7_ringsMeet 50 = .ok (.iload 4, 2) := by decide +kernel
theorem dX7_ringsMeet_52 : decode cX7_ringsMeet 52 = .ok (.iconst 1, 1) := by decide +kernel
theorem dX7_ringsMeet_53 : decode cX7_ringsMeet 53 = .ok (.iadd, 1) := by decide +kernel
theorem dX7_ringsMeet_54 : decode cX7_ringsMeet 54 = .ok (.invokevirtual 102, 3) := by decide +kernel
theorem dX7_ringsMeet_57 : decode cX7_ringsMeet 57 = .ok (.invokevirtual 110, 3) := by decide +kernel
theorem dX7_ringsMeet_60 : decode cX7_ringsMeet 60 = .ok (.ifCond .eq 5, 3) := by decide +kernel
theorem dX7_ringsMeet_63 : decode cX7_ringsMeet 63 = .ok (.iconst 1, 1) := by decide +kernel
theorem dX7_ringsMeet_64 : decode cX7_ringsMeet 64 = .ok (.ireturn, 1) := by decide +kernel
theorem dX7_ringsMeet_65 : decode cX7_ringsMeet 65 = .ok (.iinc 4 1, 3) := by decide +kernel
theorem dX7_ringsMeet_68 : decode cX7_ringsMeet 68 = .ok (.goto (-53), 3) := by decide +kernel
theorem dX7_ringsMeet_71 : decode cX7_ringsMeet 71 = .ok (.iinc 3 1, 3) := by decide +kernel
theorem dX7_ringsMeet_74 : decode cX7_ringsMeet 74 = .ok (.goto (-72), 3) := by decide +kernel
theorem dX7_ringsMeet_77 : decode cX7_ringsMeet 77 = .ok (.iconst 0, 1) := by decide +kernel
theorem dX7_ringsMeet_78 : decode cX7_ringsMeet 78 = .ok (.ireturn, 1) := by decide +kernel
theorem dX7_where_0 : decode cX7_where 0 = .ok (.iconst 0, 1) := by decide +kernel
theorem dX7_where_1 : decode cX7_where 1 = .ok (.istore 8, 2) := by decide +kernel
theorem dX7_where_3 : decode cX7_where 3 = .ok (.iconst 0, 1) := by decide +kernel
theorem dX7_where_4 : decode cX7_where 4 = .ok (.istore 9, 2) := by decide +kernel
theorem dX7_where_6 : decode cX7_where 6 = .ok (.iload 9, 2) := by decide +kernel
theorem dX7_where_8 : decode cX7_where 8 = .ok (.aload_n 0, 1) := by decide +kernel
theorem dX7_where_9 : decode cX7_where 9 = .ok (.getfield 16, 3) := by decide +kernel
theorem dX7_where_12 : decode cX7_where 12 = .ok (.iload_n 1, 1) := by decide +kernel
theorem dX7_where_13 : decode cX7_where 13 = .ok (.iaload, 1) := by decide +kernel
theorem dX7_where_14 : decode cX7_where 14 = .ok (.if_icmp .ge 238, 3) := by decide +kernel
theorem dX7_where_17 : decode cX7_where 17 = .ok (.lload 6, 2) := by decide +kernel
theorem dX7_where_19 : decode cX7_where 19 = .ok (.aload_n 0, 1) := by decide +kernel
theorem dX7_where_20 : decode cX7_where 20 = .ok (.getfield 7, 3) := by decide +kernel
theorem dX7_where_23 : decode cX7_where 23 = .ok (.aload_n 0, 1) := by decide +kernel
theorem dX7_where_24 : decode cX7_where 24 = .ok (.iload_n 1, 1) := by decide +kernel
theorem dX7_where_25 : decode cX7_where 25 = .ok (.iload 9, 2) := by decide +kernel
theorem dX7_where_27 : decode cX7_where 27 = .ok (.invokevirtual 102, 3) := by decide +kernel
theorem dX7_where_30 : decode cX7_where 30 = .ok (.laload, 1) := by decide +kernel
theorem dX7_where_31 : decode cX7_where 31 = .ok (.lmul, 1) := by decide +kernel
theorem dX7_where_32 : decode cX7_where 32 = .ok (.lstore 10, 2) := by decide +kernel
theorem dX7_where_34 : decode cX7_where 34 = .ok (.lload 6, 2) := by decide +kernel
theorem dX7_where_36 : decode cX7_where 36 = .ok (.aload_n 0, 1) := by decide +kernel
theorem dX7_where_37 : decode cX7_where 37 = .ok (.getfield 13, 3) := by decide +kernel
theorem dX7_where_40 : decode cX7_where 40 = .ok (.aload_n 0, 1) := by decide +kernel
theorem dX7_where_41 : decode cX7_where 41 = .ok (.iload_n 1, 1) := by decide +kernel
theorem dX7_where_42 : decode cX7_where 42 = .ok (.iload 9, 2) := by decide +kernel
theorem dX7_where_44 : decode cX7_where 44 = .ok (.invokevirtual 102, 3) := by decide +kernel
theorem dX7_where_47 : decode cX7_where 47 = .ok (.laload, 1) := by decide +kernel
theorem dX7_where_48 : decode cX7_where 48 = .ok (.lmul, 1) := by decide +kernel
theorem dX7_where_49 : decode cX7_where 49 = .ok (.lstore 12, 2) := by decide +kernel
theorem dX7_where_51 : decode cX7_where 51 = .ok (.lload 6, 2) := by decide +kernel
theorem dX7_where_53 : decode cX7_where 53 = .ok (.aload_n 0, 1) := by decide +kernel
theorem dX7_where_54 : decode cX7_where 54 = .ok (.getfield 7, 3) := by decide +kernel
theorem dX7_where_57 : decode cX7_where 57 = .ok (.aload_n 0, 1) := by decide +kernel
theorem dX7_where_58 : decode cX7_where 58 = .ok (.iload_n 1, 1) := by decide +kernel
theorem dX7_where_59 : decode cX7_where 59 = .ok (.iload 9, 2) := by decide +kernel
theorem dX7_where_61 : decode cX7_where 61 = .ok (.iconst 1, 1) := by decide +kernel
theorem dX7_where_62 : decode cX7_where 62 = .ok (.iadd, 1) := by decide +kernel
theorem dX7_where_63 : decode cX7_where 63 = .ok (.invokevirtual 102, 3) := by decide +kernel
theorem dX7_where_66 : decode cX7_where 66 = .ok (.laload, 1) := by decide +kernel
theorem dX7_where_67 : decode cX7_where 67 = .ok (.lmul, 1) := by decide +kernel
theorem dX7_where_68 : decode cX7_where 68 = .ok (.lstore 14, 2) := by decide +kernel
theorem dX7_where_70 : decode cX7_where 70 = .ok (.lload 6, 2) := by decide +kernel
theorem dX7_where_72 : decode cX7_where 72 = .ok (.aload_n 0, 1) := by decide +kernel
theorem dX7_where_73 : decode cX7_where 73 = .ok (.getfield 13, 3) := by decide +kernel
theorem dX7_where_76 : decode cX7_where 76 = .ok (.aload_n 0, 1) := by decide +kernel
theorem dX7_where_77 : decode cX7_where 77 = .ok (.iload_n 1, 1) := by decide +kernel
theorem dX7_where_78 : decode cX7_where 78 = .ok (.iload 9, 2) := by decide +kernel
theorem dX7_where_80 : decode cX7_where 80 = .ok (.iconst 1, 1) := by decide +kernel
theorem dX7_where_81 : decode cX7_where 81 = .ok (.iadd, 1) := by decide +kernel
theorem dX7_where_82 : decode cX7_where 82 = .ok (.invokevirtual 102, 3) := by decide +kernel
theorem dX7_where_85 : decode cX7_where 85 = .ok (.laload, 1) := by decide +kernel
theorem dX7_where_86 : decode cX7_where 86 = .ok (.lmul, 1) := by decide +kernel
theorem dX7_where_87 : decode cX7_where 87 = .ok (.lstore 16, 2) := by decide +kernel
theorem dX7_where_89 : decode cX7_where 89 = .ok (.aload_n 0, 1) := by decide +kernel
theorem dX7_where_90 : decode cX7_where 90 = .ok (.getfield 7, 3) := by decide +kernel
theorem dX7_where_93 : decode cX7_where 93 = .ok (.aload_n 0, 1) := by decide +kernel
theorem dX7_where_94 : decode cX7_where 94 = .ok (.iload_n 1, 1) := by decide +kernel
theorem dX7_where_95 : decode cX7_where 95 = .ok (.iload 9, 2) := by decide +kernel
theorem dX7_where_97 : decode cX7_where 97 = .ok (.iconst 1, 1) := by decide +kernel
theorem dX7_where_98 : decode cX7_where 98 = .ok (.iadd, 1) := by decide +kernel
theorem dX7_where_99 : decode cX7_where 99 = .ok (.invokevirtual 102, 3) := by decide +kernel
theorem dX7_where_102 : decode cX7_where 102 = .ok (.laload, 1) := by decide +kernel
theorem dX7_where_103 : decode cX7_where 103 = .ok (.aload_n 0, 1) := by decide +kernel
theorem dX7_where_104 : decode cX7_where 104 = .ok (.getfield 7, 3) := by decide +kernel
theorem dX7_where_107 : decode cX7_where 107 = .ok (.aload_n 0, 1) := by decide +kernel
theorem dX7_where_108 : decode cX7_where 108 = .ok (.iload_n 1, 1) := by decide +kernel
theorem dX7_where_109 : decode cX7_where 109 = .ok (.iload 9, 2) := by decide +kernel
theorem dX7_where_111 : decode cX7_where 111 = .ok (.invokevirtual 102, 3) := by decide +kernel
theorem dX7_where_114 : decode cX7_where 114 = .ok (.laload, 1) := by decide +kernel
theorem dX7_where_115 : decode cX7_where 115 = .ok (.lsub, 1) := by decide +kernel
theorem dX7_where_116 : decode cX7_where 116 = .ok (.lstore 18, 2) := by decide +kernel
theorem dX7_where_118 : decode cX7_where 118 = .ok (.aload_n 0, 1) := by decide +kernel
theorem dX7_where_119 : decode cX7_where 119 = .ok (.getfield 13, 3) := by decide +kernel
theorem dX7_where_122 : decode cX7_where 122 = .ok (.aload_n 0, 1) := by decide +kernel
theorem dX7_where_123 : decode cX7_where 123 = .ok (.iload_n 1, 1) := by decide +kernel
theorem dX7_where_124 : decode cX7_where 124 = .ok (.iload 9, 2) := by decide +kernel
theorem dX7_where_126 : decode cX7_where 126 = .ok (.iconst 1, 1) := by decide +kernel
theorem dX7_where_127 : decode cX7_where 127 = .ok (.iadd, 1) := by decide +kernel
theorem dX7_where_128 : decode cX7_where 128 = .ok (.invokevirtual 102, 3) := by decide +kernel
theorem dX7_where_131 : decode cX7_where 131 = .ok (.laload, 1) := by decide +kernel
theorem dX7_where_132 : decode cX7_where 132 = .ok (.aload_n 0, 1) := by decide +kernel
theorem dX7_where_133 : decode cX7_where 133 = .ok (.getfield 13, 3) := by decide +kernel
theorem dX7_where_136 : decode cX7_where 136 = .ok (.aload_n 0, 1) := by decide +kernel
theorem dX7_where_137 : decode cX7_where 137 = .ok (.iload_n 1, 1) := by decide +kernel
theorem dX7_where_138 : decode cX7_where 138 = .ok (.iload 9, 2) := by decide +kernel
theorem dX7_where_140 : decode cX7_where 140 = .ok (.invokevirtual 102, 3) := by decide +kernel
theorem dX7_where_143 : decode cX7_where 143 = .ok (.laload, 1) := by decide +kernel
theorem dX7_where_144 : decode cX7_where 144 = .ok (.lsub, 1) := by decide +kernel
theorem dX7_where_145 : decode cX7_where 145 = .ok (.lstore 20, 2) := by decide +kernel
theorem dX7_where_147 : decode cX7_where 147 = .ok (.lload 18, 2) := by decide +kernel
theorem dX7_where_149 : decode cX7_where 149 = .ok (.lload 4, 2) := by decide +kernel
theorem dX7_where_151 : decode cX7_where 151 = .ok (.lload 12, 2) := by decide +kernel
theorem dX7_where_153 : decode cX7_where 153 = .ok (.lsub, 1) := by decide +kernel
theorem dX7_where_154 : decode cX7_where 154 = .ok (.lmul, 1) := by decide +kernel
theorem dX7_where_155 : decode cX7_where 155 = .ok (.lload 20, 2) := by decide +kernel
theorem dX7_where_157 : decode cX7_where 157 = .ok (.lload_n 2, 1) := by decide +kernel
theorem dX7_where_158 : decode cX7_where 158 = .ok (.lload 10, 2) := by decide +kernel
theorem dX7_where_160 : decode cX7_where 160 = .ok (.lsub, 1) := by decide +kernel
theorem dX7_where_161 : decode cX7_where 161 = .ok (.lmul, 1) := by decide +kernel
theorem dX7_where_162 : decode cX7_where 162 = .ok (.lsub, 1) := by decide +kernel
theorem dX7_where_163 : decode cX7_where 163 = .ok (.invokestatic 83, 3) := by decide +kernel
theorem dX7_where_166 : decode cX7_where 166 = .ok (.istore 22, 2) := by decide +kernel
theorem dX7_where_168 : decode cX7_where 168 = .ok (.iload 22, 2) := by decide +kernel
theorem dX7_where_170 : decode cX7_where 170 = .ok (.ifCond .ne 22, 3) := by decide +kernel
theorem dX7_where_173 : decode cX7_where 173 = .ok (.lload 10, 2) := by decide +kernel
theorem dX7_where_175 : decode cX7_where 175 = .ok (.lload 12, 2) := by decide +kernel
theorem dX7_where_177 : decode cX7_where 177 = .ok (.lload 14, 2) := by decide +kernel
theorem dX7_where_179 : decode cX7_where 179 = .ok (.lload 16, 2) := by decide +kernel
theorem dX7_where_181 : decode cX7_where 181 = .ok (.lload_n 2, 1) := by decide +kernel
theorem dX7_where_182 : decode cX7_where 182 = .ok (.lload 4, 2) := by decide +kernel
theorem dX7_where_184 : decode cX7_where 184 = .ok (.invokestatic 98, 3) := by decide +kernel
theorem dX7_where_187 : decode cX7_where 187 = .ok (.ifCond .eq 5, 3) := by decide +kernel
theorem dX7_where_190 : decode cX7_where 190 = .ok (.iconst 0, 1) := by decide +kernel
theorem dX7_where_191 : decode cX7_where 191 = .ok (.ireturn, 1) := by decide +kernel
theorem dX7_where_192 : decode cX7_where 192 = .ok (.lload 12, 2) := by decide +kernel
theorem dX7_where_194 : decode cX7_where 194 = .ok (.lload 4, 2) := by decide +kernel
theorem dX7_where_196 : decode cX7_where 196 = .ok (.lcmp, 1) := by decide +kernel
theorem dX7_where_197 : decode cX7_where 197 = .ok (.ifCond .gt 16, 3) := by decide +kernel
theorem dX7_where_200 : decode cX7_where 200 = .ok (.lload 16, 2) := by decide +kernel
theorem dX7_where_202 : decode cX7_where 202 = .ok (.lload 4, 2) := by decide +kernel
theorem dX7_where_204 : decode cX7_where 204 = .ok (.lcmp, 1) := by decide +kernel
theorem dX7_where_205 : decode cX7_where 205 = .ok (.ifCond .le 8, 3) := by decide +kernel
theorem dX7_where_208 : decode cX7_where 208 = .ok (.iload 22, 2) := by decide +kernel
theorem dX7_where_210 : decode cX7_where 210 = .ok (.ifCond .gt 24, 3) := by decide +kernel
theorem dX7_where_213 : decode cX7_where 213 = .ok (.lload 16, 2) := by decide +kernel
theorem dX7_where_215 : decode cX7_where 215 = .ok (.lload 4, 2) := by decide +kernel
theorem dX7_where_217 : decode cX7_where 217 = .ok (.lcmp, 1) := by decide +kernel
theorem dX7_where_218 : decode cX7_where 218 = .ok (.ifCond .gt 28, 3) := by decide +kernel
theorem dX7_where_221 : decode cX7_where 221 = .ok (.lload 12, 2) := by decide +kernel
theorem dX7_where_223 : decode cX7_where 223 = .ok (.lload 4, 2) := by decide +kernel
theorem dX7_where_225 : decode cX7_where 225 = .ok (.lcmp, 1) := by decide +kernel
theorem dX7_where_226 : decode cX7_where 226 = .ok (.ifCond .le 20, 3) := by decide +kernel
theorem dX7_where_229 : decode cX7_where 229 = .ok (.iload 22, 2) := by decide +kernel
theorem dX7_where_231 : decode cX7_where 231 = .ok (.ifCond .ge 15, 3) := by decide +kernel
theorem dX7_where_234 : decode cX7_where 234 = .ok (.iload 8, 2) := by decide +kernel
theorem dX7_where_236 : decode cX7_where 236 = .ok (.ifCond .ne 7, 3) := by decide +kernel
theorem dX7_where_239 : decode cX7_where 239 = .ok (.iconst 1, 1) := by decide +kernel
theorem dX7_where_240 : decode cX7_where 240 = .ok (.goto 4, 3) := by decide +kernel
theorem dX7_where_243 : decode cX7_where 243 = .ok (.iconst 0, 1) := by decide +kernel
theorem dX7_where_244 : decode cX7_where 244 = .ok (.istore 8, 2) := by decide +kernel
theorem dX7_where_246 : decode cX7_where 246 = .ok (.iinc 9 1, 3) := by decide +kernel
theorem dX7_where_249 : decode cX7_where 249 = .ok (.goto (-243), 3) := by decide +kernel
theorem dX7_where_252 : decode cX7_where 252 = .ok (.iload 8, 2) := by decide +kernel
theorem dX7_where_254 : decode cX7_where 254 = .ok (.ifCond .eq 7, 3) := by decide +kernel
theorem dX7_where_257 : decode cX7_where 257 = .ok (.iconst 1, 1) := by decide +kernel
theorem dX7_where_258 : decode cX7_where 258 = .ok (.goto 4, 3) := by decide +kernel
theorem dX7_where_261 : decode cX7_where 261 = .ok (.iconst (-1), 1) := by decide +kernel
theorem dX7_where_262 : decode cX7_where 262 = .ok (.ireturn, 1) := by decide +kernel
theorem dX7_has_0 : decode cX7_has 0 = .ok (.aload_n 0, 1) := by decide +kernel
theorem dX7_has_1 : decode cX7_has 1 = .ok (.iconst 4, 1) := by decide +kernel
theorem dX7_has_2 : decode cX7_has 2 = .ok (.iload_n 1, 1) := by decide +kernel
theorem dX7_has_3 : decode cX7_has 3 = .ok (.imul, 1) := by decide +kernel
theorem dX7_has_4 : decode cX7_has 4 = .ok (.lload_n 2, 1) := by decide +kernel
theorem dX7_has_5 : decode cX7_has 5 = .ok (.lload 4, 2) := by decide +kernel
theorem dX7_has_7 : decode cX7_has 7 = .ok (.lload 6, 2) := by decide +kernel
theorem dX7_has_9 : decode cX7_has 9 = .ok (.invokevirtual 114, 3) := by decide +kernel
theorem dX7_has_12 : decode cX7_has 12 = .ok (.ifCond .lt 7, 3) := by decide +kernel
theorem dX7_has_15 : decode cX7_has 15 = .ok (.iconst 1, 1) := by decide +kernel
theorem dX7_has_16 : decode cX7_has 16 = .ok (.goto 4, 3) := by decide +kernel
theorem dX7_has_19 : decode cX7_has 19 = .ok (.iconst 0, 1) := by decide +kernel
theorem dX7_has_20 : decode cX7_has 20 = .ok (.istore 8, 2) := by decide +kernel
theorem dX7_has_22 : decode cX7_has 22 = .ok (.iconst 1, 1) := by decide +kernel
theorem dX7_has_23 : decode cX7_has 23 = .ok (.istore 9, 2) := by decide +kernel
theorem dX7_has_25 : decode cX7_has 25 = .ok (.iload 9, 2) := by decide +kernel
theorem dX7_has_27 : decode cX7_has 27 = .ok (.aload_n 0, 1) := by decide +kernel
theorem dX7_has_28 : decode cX7_has 28 = .ok (.getfield 20, 3) := by decide +kernel
theorem dX7_has_31 : decode cX7_has 31 = .ok (.iload_n 1, 1) := by decide +kernel
theorem dX7_has_32 : decode cX7_has 32 = .ok (.iaload, 1) := by decide +kernel
theorem dX7_has_33 : decode cX7_has 33 = .ok (.if_icmp .ge 39, 3) := by decide +kernel
theorem dX7_has_36 : decode cX7_has 36 = .ok (.iload 8, 2) := by decide +kernel
theorem dX7_has_38 : decode cX7_has 38 = .ok (.ifCond .eq 34, 3) := by decide +kernel
theorem dX7_has_41 : decode cX7_has 41 = .ok (.aload_n 0, 1) := by decide +kernel
theorem dX7_has_42 : decode cX7_has 42 = .ok (.iconst 4, 1) := by decide +kernel
theorem dX7_has_43 : decode cX7_has 43 = .ok (.iload_n 1, 1) := by decide +kernel
theorem dX7_has_44 : decode cX7_has 44 = .ok (.imul, 1) := by decide +kernel
theorem dX7_has_45 : decode cX7_has 45 = .ok (.iload 9, 2) := by decide +kernel
theorem dX7_has_47 : decode cX7_has 47 = .ok (.iadd, 1) := by decide +kernel
theorem dX7_has_48 : decode cX7_has 48 = .ok (.lload_n 2, 1) := by decide +kernel
theorem dX7_has_49 : decode cX7_has 49 = .ok (.lload 4, 2) := by decide +kernel
theorem dX7_has_51 : decode cX7_has 51 = .ok (.lload 6, 2) := by decide +kernel
theorem dX7_has_53 : decode cX7_has 53 = .ok (.invokevirtual 114, 3) := by decide +kernel
theorem dX7_has_56 : decode cX7_has 56 = .ok (.ifCond .gt 7, 3) := by decide +kernel
theorem dX7_has_59 : decode cX7_has 59 = .ok (.iconst 1, 1) := by decide +kernel
theorem dX7_has_60 : decode cX7_has 60 = .ok (.goto 4, 3) := by decide +kernel
theorem dX7_has_63 : decode cX7_has 63 = .ok (.iconst 0, 1) := by decide +kernel
theorem dX7_has_64 : decode cX7_has 64 = .ok (.istore 8, 2) := by decide +kernel
theorem dX7_has_66 : decode cX7_has 66 = .ok (.iinc 9 1, 3) := by decide +kernel
theorem dX7_has_69 : decode cX7_has 69 = .ok (.goto (-44), 3) := by decide +kernel
theorem dX7_has_72 : decode cX7_has 72 = .ok (.iload 8, 2) := by decide +kernel
theorem dX7_has_74 : decode cX7_has 74 = .ok (.ireturn, 1) := by decide +kernel
theorem dX7_corner_0 : decode cX7_corner 0 = .ok (.aload_n 0, 1) := by decide +kernel
theorem dX7_corner_1 : decode cX7_corner 1 = .ok (.aload_n 0, 1) := by decide +kernel
theorem dX7_corner_2 : decode cX7_corner 2 = .ok (.iload_n 1, 1) := by decide +kernel
theorem dX7_corner_3 : decode cX7_corner 3 = .ok (.invokevirtual 79, 3) := by decide +kernel
theorem dX7_corner_6 : decode cX7_corner 6 = .ok (.ifCond .eq 7, 3) := by decide +kernel
theorem dX7_corner_9 : decode cX7_corner 9 = .ok (.iconst 0, 1) := by decide +kernel
theorem dX7_corner_10 : decode cX7_corner 10 = .ok (.goto 4, 3) := by decide +kernel
theorem dX7_corner_13 : decode cX7_corner 13 = .ok (.iconst 1, 1) := by decide +kernel
theorem dX7_corner_14 : decode cX7_corner 14 = .ok (.putfield 76, 3) := by decide +kernel
theorem dX7_corner_17 : decode cX7_corner 17 = .ok (.aload_n 0, 1) := by decide +kernel
theorem dX7_corner_18 : decode cX7_corner 18 = .ok (.getfield 76, 3) := by decide +kernel
theorem dX7_corner_21 : decode cX7_corner 21 = .ok (.ifCond .gt 39, 3) := by decide +kernel
theorem dX7_corner_24 : decode cX7_corner 24 = .ok (.aload_n 0, 1) := by decide +kernel
theorem dX7_corner_25 : decode cX7_corner 25 = .ok (.getfield 23, 3) := by decide +kernel
theorem dX7_corner_28 : decode cX7_corner 28 = .ok (.iload_n 1, 1) := by decide +kernel
theorem dX7_corner_29 : decode cX7_corner 29 = .ok (.baload, 1) := by decide +kernel
theorem dX7_corner_30 : decode cX7_corner 30 = .ok (.ifCond .eq 30, 3) := by decide +kernel
theorem dX7_corner_33 : decode cX7_corner 33 = .ok (.lload_n 2, 1) := by decide +kernel
theorem dX7_corner_34 : decode cX7_corner 34 = .ok (.ldc2_w 118, 3) := by decide +kernel
theorem dX7_corner_37 : decode cX7_corner 37 = .ok (.ldc2_w 120, 3) := by decide +kernel
theorem dX7_corner_40 : decode cX7_corner 40 = .ok (.invokestatic 122, 3) := by decide +kernel
theorem dX7_corner_43 : decode cX7_corner 43 = .ok (.ifCond .eq 17, 3) := by decide +kernel
theorem dX7_corner_46 : decode cX7_corner 46 = .ok (.lload 4, 2) := by decide +kernel
theorem dX7_corner_48 : decode cX7_corner 48 = .ok (.ldc2_w 118, 3) := by decide +kernel
theorem dX7_corner_51 : decode cX7_corner 51 = .ok (.ldc2_w 120, 3) := by decide +kernel
theorem dX7_corner_54 : decode cX7_corner 54 = .ok (.invokestatic 122, 3) := by decide +kernel
theorem dX7_corner_57 : decode cX7_corner 57 = .ok (.ifCond .ne 5, 3) := by decide +kernel
theorem dX7_corner_60 : decode cX7_corner 60 = .ok (.iconst 0, 1) := by decide +kernel
theorem dX7_corner_61 : decode cX7_corner 61 = .ok (.ireturn, 1) := by decide +kernel
theorem dX7_corner_62 : decode cX7_corner 62 = .ok (.iconst 4, 1) := by decide +kernel
theorem dX7_corner_63 : decode cX7_corner 63 = .ok (.iload_n 1, 1) := by decide +kernel
theorem dX7_corner_64 : decode cX7_corner 64 = .ok (.imul, 1) := by decide +kernel
theorem dX7_corner_65 : decode cX7_corner 65 = .ok (.aload_n 0, 1) := by decide +kernel
theorem dX7_corner_66 : decode cX7_corner 66 = .ok (.getfield 20, 3) := by decide +kernel
theorem dX7_corner_69 : decode cX7_corner 69 = .ok (.iload_n 1, 1) := by decide +kernel
theorem dX7_corner_70 : decode cX7_corner 70 = .ok (.iaload, 1) := by decide +kernel
theorem dX7_corner_71 : decode cX7_corner 71 = .ok (.iadd, 1) := by decide +kernel
theorem dX7_corner_72 : decode cX7_corner 72 = .ok (.istore 6, 2) := by decide +kernel
theorem dX7_corner_74 : decode cX7_corner 74 = .ok (.aload_n 0, 1) := by decide +kernel
theorem dX7_corner_75 : decode cX7_corner 75 = .ok (.getfield 16, 3) := by decide +kernel
theorem dX7_corner_78 : decode cX7_corner 78 = .ok (.iload 6, 2) := by decide +kernel
theorem dX7_corner_80 : decode cX7_corner 80 = .ok (.iaload, 1) := by decide +kernel
theorem dX7_corner_81 : decode cX7_corner 81 = .ok (.bipush 12, 2) := by decide +kernel
theorem dX7_corner_83 : decode cX7_corner 83 = .ok (.if_icmp .ne 5, 3) := by decide +kernel
theorem dX7_corner_86 : decode cX7_corner 86 = .ok (.iconst 0, 1) := by decide +kernel
theorem dX7_corner_87 : decode cX7_corner 87 = .ok (.ireturn, 1) := by decide +kernel
theorem dX7_corner_88 : decode cX7_corner 88 = .ok (.aload_n 0, 1) := by decide +kernel
theorem dX7_corner_89 : decode cX7_corner 89 = .ok (.getfield 7, 3) := by decide +kernel
theorem dX7_corner_92 : decode cX7_corner 92 = .ok (.bipush 12, 2) := by decide +kernel
theorem dX7_corner_94 : decode cX7_corner 94 = .ok (.iload 6, 2) := by decide +kernel
theorem dX7_corner_96 : decode cX7_corner 96 = .ok (.imul, 1) := by decide +kernel
theorem dX7_corner_97 : decode cX7_corner 97 = .ok (.aload_n 0, 1) := by decide +kernel
theorem dX7_corner_98 : decode cX7_corner 98 = .ok (.getfield 16, 3) := by decide +kernel
theorem dX7_corner_101 : decode cX7_corner 101 = .ok (.iload 6, 2) := by decide +kernel
theorem dX7_corner_103 : decode cX7_corner 103 = .ok (.iaload, 1) := by decide +kernel
theorem dX7_corner_104 : decode cX7_corner 104 = .ok (.iadd, 1) := by decide +kernel
theorem dX7_corner_105 : decode cX7_corner 105 = .ok (.lload_n 2, 1) := by decide +kernel
theorem dX7_corner_106 : decode cX7_corner 106 = .ok (.lastore, 1) := by decide +kernel
theorem dX7_corner_107 : decode cX7_corner 107 = .ok (.aload_n 0, 1) := by decide +kernel
theorem dX7_corner_108 : decode cX7_corner 108 = .ok (.getfield 13, 3) := by decide +kernel
theorem dX7_corner_111 : decode cX7_corner 111 = .ok (.bipush 12, 2) := by decide +kernel
theorem dX7_corner_113 : decode cX7_corner 113 = .ok (.iload 6, 2) := by decide +kernel
theorem dX7_corner_115 : decode cX7_corner 115 = .ok (.imul, 1) := by decide +kernel
theorem dX7_corner_116 : decode cX7_corner 116 = .ok (.aload_n 0, 1) := by decide +kernel
theorem dX7_corner_117 : decode cX7_corner 117 = .ok (.getfield 16, 3) := by decide +kernel
theorem dX7_corner_120 : decode cX7_corner 120 = .ok (.iload 6, 2) := by decide +kernel
theorem dX7_corner_122 : decode cX7_corner 122 = .ok (.iaload, 1) := by decide +kernel
theorem dX7_corner_123 : decode cX7_corner 123 = .ok (.iadd, 1) := by decide +kernel
theorem dX7_corner_124 : decode cX7_corner 124 = .ok (.lload 4, 2) := by decide +kernel
theorem dX7_corner_126 : decode cX7_corner 126 = .ok (.lastore, 1) := by decide +kernel
theorem dX7_corner_127 : decode cX7_corner 127 = .ok (.aload_n 0, 1) := by decide +kernel
theorem dX7_corner_128 : decode cX7_corner 128 = .ok (.getfield 16, 3) := by decide +kernel
theorem dX7_corner_131 : decode cX7_corner 131 = .ok (.iload 6, 2) := by decide +kernel
theorem dX7_corner_133 : decode cX7_corner 133 = .ok (.dup2, 1) := by decide +kernel
theorem dX7_corner_134 : decode cX7_corner 134 = .ok (.iaload, 1) := by decide +kernel
theorem dX7_corner_135 : decode cX7_corner 135 = .ok (.iconst 1, 1) := by decide +kernel
theorem dX7_corner_136 : decode cX7_corner 136 = .ok (.iadd, 1) := by decide +kernel
theorem dX7_corner_137 : decode cX7_corner 137 = .ok (.iastore, 1) := by decide +kernel
theorem dX7_corner_138 : decode cX7_corner 138 = .ok (.iconst 1, 1) := by decide +kernel
theorem dX7_corner_139 : decode cX7_corner 139 = .ok (.ireturn, 1) := by decide +kernel
theorem dX7_ring_0 : decode cX7_ring 0 = .ok (.aload_n 0, 1) := by decide +kernel
theorem dX7_ring_1 : decode cX7_ring 1 = .ok (.iconst 0, 1) := by decide +kernel
theorem dX7_ring_2 : decode cX7_ring 2 = .ok (.putfield 76, 3) := by decide +kernel
theorem dX7_ring_5 : decode cX7_ring 5 = .ok (.aload_n 0, 1) := by decide +kernel
theorem dX7_ring_6 : decode cX7_ring 6 = .ok (.iload_n 1, 1) := by decide +kernel
theorem dX7_ring_7 : decode cX7_ring 7 = .ok (.invokevirtual 79, 3) := by decide +kernel
theorem dX7_ring_10 : decode cX7_ring 10 = .ok (.ifCond .eq 12, 3) := by decide +kernel
theorem dX7_ring_13 : decode cX7_ring 13 = .ok (.aload_n 0, 1) := by decide +kernel
theorem dX7_ring_14 : decode cX7_ring 14 = .ok (.getfield 23, 3) := by decide +kernel
theorem dX7_ring_17 : decode cX7_ring 17 = .ok (.iload_n 1, 1) := by decide +kernel
theorem dX7_ring_18 : decode cX7_ring 18 = .ok (.baload, 1) := by decide +kernel
theorem dX7_ring_19 : decode cX7_ring 19 = .ok (.ifCond .ne 5, 3) := by decide +kernel
theorem dX7_ring_22 : decode cX7_ring 22 = .ok (.iconst 0, 1) := by decide +kernel
theorem dX7_ring_23 : decode cX7_ring 23 = .ok (.ireturn, 1) := by decide +kernel
theorem dX7_ring_24 : decode cX7_ring 24 = .ok (.iconst 4, 1) := by decide +kernel
theorem dX7_ring_25 : decode cX7_ring 25 = .ok (.iload_n 1, 1) := by decide +kernel
theorem dX7_ring_26 : decode cX7_ring 26 = .ok (.imul, 1) := by decide +kernel
theorem dX7_ring_27 : decode cX7_ring 27 = .ok (.aload_n 0, 1) := by decide +kernel
theorem dX7_ring_28 : decode cX7_ring 28 = .ok (.getfield 20, 3) := by decide +kernel
theorem dX7_ring_31 : decode cX7_ring 31 = .ok (.iload_n 1, 1) := by decide +kernel
theorem dX7_ring_32 : decode cX7_ring 32 = .ok (.iaload, 1) := by decide +kernel
theorem dX7_ring_33 : decode cX7_ring 33 = .ok (.iadd, 1) := by decide +kernel
theorem dX7_ring_34 : decode cX7_ring 34 = .ok (.istore_n 2, 1) := by decide +kernel
theorem dX7_ring_35 : decode cX7_ring 35 = .ok (.aload_n 0, 1) := by decide +kernel
theorem dX7_ring_36 : decode cX7_ring 36 = .ok (.iload_n 2, 1) := by decide +kernel
theorem dX7_ring_37 : decode cX7_ring 37 = .ok (.invokevirtual 126, 3) := by decide +kernel
theorem dX7_ring_40 : decode cX7_ring 40 = .ok (.istore_n 3, 1) := by decide +kernel
theorem dX7_ring_41 : decode cX7_ring 41 = .ok (.iconst 0, 1) := by decide +kernel
theorem dX7_ring_42 : decode cX7_ring 42 = .ok (.istore 4, 2) := by decide +kernel
theorem dX7_ring_44 : decode cX7_ring 44 = .ok (.iload 4, 2) := by decide +kernel
theorem dX7_ring_46 : decode cX7_ring 46 = .ok (.aload_n 0, 1) := by decide +kernel
theorem dX7_ring_47 : decode cX7_ring 47 = .ok (.getfield 20, 3) := by decide +kernel
theorem dX7_ring_50 : decode cX7_ring 50 = .ok (.iload_n 1, 1) := by decide +kernel
theorem dX7_ring_51 : decode cX7_ring 51 = .ok (.iaload, 1) := by decide +kernel
theorem dX7_ring_52 : decode cX7_ring 52 = .ok (.if_icmp .ge 33, 3) := by decide +kernel
theorem dX7_ring_55 : decode cX7_ring 55 = .ok (.iload_n 3, 1) := by decide +kernel
theorem dX7_ring_56 : decode cX7_ring 56 = .ok (.ifCond .eq 29, 3) := by decide +kernel
theorem dX7_ring_59 : decode cX7_ring 59 = .ok (.aload_n 0, 1) := by decide +kernel
theorem dX7_ring_60 : decode cX7_ring 60 = .ok (.iload_n 2, 1) := by decide +kernel
theorem dX7_ring_61 : decode cX7_ring 61 = .ok (.iconst 4, 1) := by decide +kernel
theorem dX7_ring_62 : decode cX7_ring 62 = .ok (.iload_n 1, 1) := by decide +kernel
theorem dX7_ring_63 : decode cX7_ring 63 = .ok (.imul, 1) := by decide +kernel
theorem dX7_ring_64 : decode cX7_ring 64 = .ok (.iload 4, 2) := by decide +kernel
theorem dX7_ring_66 : decode cX7_ring 66 = .ok (.iadd, 1) := by decide +kernel
theorem dX7_ring_67 : decode cX7_ring 67 = .ok (.invokevirtual 129, 3) := by decide +kernel
theorem dX7_ring_70 : decode cX7_ring 70 = .ok (.ifCond .ne 7, 3) := by decide +kernel
theorem dX7_ring_73 : decode cX7_ring 73 = .ok (.iconst 1, 1) := by decide +kernel
theorem dX7_ring_74 : decode cX7_ring 74 = .ok (.goto 4, 3) := by decide +kernel
theorem dX7_ring_77 : decode cX7_ring 77 = .ok (.iconst 0, 1) := by decide +kernel
theorem dX7_ring_78 : decode cX7_ring 78 = .ok (.istore_n 3, 1) := by decide +kernel
theorem dX7_ring_79 : decode cX7_ring 79 = .ok (.iinc 4 1, 3) := by decide +kernel
theorem dX7_ring_82 : decode cX7_ring 82 = .ok (.goto (-38), 3) := by decide +kernel
theorem dX7_ring_85 : decode cX7_ring 85 = .ok (.iload_n 3, 1) := by decide +kernel
theorem dX7_ring_86 : decode cX7_ring 86 = .ok (.ifCond .eq 43, 3) := by decide +kernel
theorem dX7_ring_89 : decode cX7_ring 89 = .ok (.aload_n 0, 1) := by decide +kernel
theorem dX7_ring_90 : decode cX7_ring 90 = .ok (.getfield 20, 3) := by decide +kernel
theorem dX7_ring_93 : decode cX7_ring 93 = .ok (.iload_n 1, 1) := by decide +kernel
theorem dX7_ring_94 : decode cX7_ring 94 = .ok (.iaload, 1) := by decide +kernel
theorem dX7_ring_95 : decode cX7_ring 95 = .ok (.ifCond .eq 30, 3) := by decide +kernel
theorem dX7_ring_98 : decode cX7_ring 98 = .ok (.aload_n 0, 1) := by decide +kernel
theorem dX7_ring_99 : decode cX7_ring 99 = .ok (.iload_n 1, 1) := by decide +kernel
theorem dX7_ring_100 : decode cX7_ring 100 = .ok (.aload_n 0, 1) := by decide +kernel
theorem dX7_ring_101 : decode cX7_ring 101 = .ok (.getfield 7, 3) := by decide +kernel
theorem dX7_ring_104 : decode cX7_ring 104 = .ok (.bipush 12, 2) := by decide +kernel
theorem dX7_ring_106 : decode cX7_ring 106 = .ok (.iload_n 2, 1) := by decide +kernel
theorem dX7_ring_107 : decode cX7_ring 107 = .ok (.imul, 1) := by decide +kernel
theorem dX7_ring_108 : decode cX7_ring 108 = .ok (.laload, 1) := by decide +kernel
theorem dX7_ring_109 : decode cX7_ring 109 = .ok (.aload_n 0, 1) := by decide +kernel
theorem dX7_ring_110 : decode cX7_ring 110 = .ok (.getfield 13, 3) := by decide +kernel
theorem dX7_ring_113 : decode cX7_ring 113 = .ok (.bipush 12, 2) := by decide +kernel
theorem dX7_ring_115 : decode cX7_ring 115 = .ok (.iload_n 2, 1) := by decide +kernel
theorem dX7_ring_116 : decode cX7_ring 116 = .ok (.imul, 1) := by decide +kernel
theorem dX7_ring_117 : decode cX7_ring 117 = .ok (.laload, 1) := by decide +kernel
theorem dX7_ring_118 : decode cX7_ring 118 = .ok (.lconst 1, 1) := by decide +kernel
theorem dX7_ring_119 : decode cX7_ring 119 = .ok (.invokevirtual 133, 3) := by decide +kernel
theorem dX7_ring_122 : decode cX7_ring 122 = .ok (.ifCond .eq 7, 3) := by decide +kernel
theorem dX7_ring_125 : decode cX7_ring 125 = .ok (.iconst 1, 1) := by decide +kernel
theorem dX7_ring_126 : decode cX7_ring 126 = .ok (.goto 4, 3) := by decide +kernel
theorem dX7_ring_129 : decode cX7_ring 129 = .ok (.iconst 0, 1) := by decide +kernel
theorem dX7_ring_130 : decode cX7_ring 130 = .ok (.istore_n 3, 1) := by decide +kernel
theorem dX7_ring_131 : decode cX7_ring 131 = .ok (.iload_n 3, 1) := by decide +kernel
theorem dX7_ring_132 : decode cX7_ring 132 = .ok (.ifCond .ne 32, 3) := by decide +kernel
theorem dX7_ring_135 : decode cX7_ring 135 = .ok (.aload_n 0, 1) := by decide +kernel
theorem dX7_ring_136 : decode cX7_ring 136 = .ok (.getfield 16, 3) := by decide +kernel
theorem dX7_ring_139 : decode cX7_ring 139 = .ok (.iload_n 2, 1) := by decide +kernel
theorem dX7_ring_140 : decode cX7_ring 140 = .ok (.iconst 0, 1) := by decide +kernel
theorem dX7_ring_141 : decode cX7_ring 141 = .ok (.iastore, 1) := by decide +kernel
theorem dX7_ring_142 : decode cX7_ring 142 = .ok (.aload_n 0, 1) := by decide +kernel
theorem dX7_ring_143 : decode cX7_ring 143 = .ok (.getfield 23, 3) := by decide +kernel
theorem dX7_ring_146 : decode cX7_ring 146 = .ok (.iload_n 1, 1) := by decide +kernel
theorem dX7_ring_147 : decode cX7_ring 147 = .ok (.aload_n 0, 1) := by decide +kernel
theorem dX7_ring_148 : decode cX7_ring 148 = .ok (.getfield 20, 3) := by decide +kernel
theorem dX7_ring_151 : decode cX7_ring 151 = .ok (.iload_n 1, 1) := by decide +kernel
theorem dX7_ring_152 : decode cX7_ring 152 = .ok (.iaload, 1) := by decide +kernel
theorem dX7_ring_153 : decode cX7_ring 153 = .ok (.ifCond .ne 7, 3) := by decide +kernel
theorem dX7_ring_156 : decode cX7_ring 156 = .ok (.iconst 1, 1) := by decide +kernel
theorem dX7_ring_157 : decode cX7_ring 157 = .ok (.goto 4, 3) := by decide +kernel
theorem dX7_ring_160 : decode cX7_ring 160 = .ok (.iconst 0, 1) := by decide +kernel
theorem dX7_ring_161 : decode cX7_ring 161 = .ok (.bastore, 1) := by decide +kernel
theorem dX7_ring_162 : decode cX7_ring 162 = .ok (.iconst 0, 1) := by decide +kernel
theorem dX7_ring_163 : decode cX7_ring 163 = .ok (.ireturn, 1) := by decide +kernel
theorem dX7_ring_164 : decode cX7_ring 164 = .ok (.aload_n 0, 1) := by decide +kernel
theorem dX7_ring_165 : decode cX7_ring 165 = .ok (.getfield 20, 3) := by decide +kernel
theorem dX7_ring_168 : decode cX7_ring 168 = .ok (.iload_n 1, 1) := by decide +kernel
theorem dX7_ring_169 : decode cX7_ring 169 = .ok (.dup2, 1) := by decide +kernel
theorem dX7_ring_170 : decode cX7_ring 170 = .ok (.iaload, 1) := by decide +kernel
theorem dX7_ring_171 : decode cX7_ring 171 = .ok (.iconst 1, 1) := by decide +kernel
theorem dX7_ring_172 : decode cX7_ring 172 = .ok (.iadd, 1) := by decide +kernel
theorem dX7_ring_173 : decode cX7_ring 173 = .ok (.iastore, 1) := by decide +kernel
theorem dX7_ring_174 : decode cX7_ring 174 = .ok (.aload_n 0, 1) := by decide +kernel
theorem dX7_ring_175 : decode cX7_ring 175 = .ok (.getfield 23, 3) := by decide +kernel
theorem dX7_ring_178 : decode cX7_ring 178 = .ok (.iload_n 1, 1) := by decide +kernel
theorem dX7_ring_179 : decode cX7_ring 179 = .ok (.iconst 0, 1) := by decide +kernel
theorem dX7_ring_180 : decode cX7_ring 180 = .ok (.bastore, 1) := by decide +kernel
theorem dX7_ring_181 : decode cX7_ring 181 = .ok (.iconst 1, 1) := by decide +kernel
theorem dX7_ring_182 : decode cX7_ring 182 = .ok (.ireturn, 1) := by decide +kernel
theorem dX7_hole_0 : decode cX7_hole 0 = .ok (.aload_n 0, 1) := by decide +kernel
theorem dX7_hole_1 : decode cX7_hole 1 = .ok (.iconst 0, 1) := by decide +kernel
theorem dX7_hole_2 : decode cX7_hole 2 = .ok (.putfield 76, 3) := by decide +kernel
theorem dX7_hole_5 : decode cX7_hole 5 = .ok (.aload_n 0, 1) := by decide +kernel
theorem dX7_hole_6 : decode cX7_hole 6 = .ok (.iload_n 1, 1) := by decide +kernel
theorem dX7_hole_7 : decode cX7_hole 7 = .ok (.invokevirtual 137, 3) := by decide +kernel
theorem dX7_hole_10 : decode cX7_hole 10 = .ok (.ifCond .eq 22, 3) := by decide +kernel
theorem dX7_hole_13 : decode cX7_hole 13 = .ok (.aload_n 0, 1) := by decide +kernel
theorem dX7_hole_14 : decode cX7_hole 14 = .ok (.getfield 23, 3) := by decide +kernel
theorem dX7_hole_17 : decode cX7_hole 17 = .ok (.iload_n 1, 1) := by decide +kernel
theorem dX7_hole_18 : decode cX7_hole 18 = .ok (.baload, 1) := by decide +kernel
theorem dX7_hole_19 : decode cX7_hole 19 = .ok (.ifCond .ne 13, 3) := by decide +kernel
theorem dX7_hole_22 : decode cX7_hole 22 = .ok (.aload_n 0, 1) := by decide +kernel
theorem dX7_hole_23 : decode cX7_hole 23 = .ok (.getfield 20, 3) := by decide +kernel
theorem dX7_hole_26 : decode cX7_hole 26 = .ok (.iload_n 1, 1) := by decide +kernel
theorem dX7_hole_27 : decode cX7_hole 27 = .ok (.iaload, 1) := by decide +kernel
theorem dX7_hole_28 : decode cX7_hole 28 = .ok (.iconst 4, 1) := by decide +kernel
theorem dX7_hole_29 : decode cX7_hole 29 = .ok (.if_icmp .ne 5, 3) := by decide +kernel
theorem dX7_hole_32 : decode cX7_hole 32 = .ok (.iconst 0, 1) := by decide +kernel
theorem dX7_hole_33 : decode cX7_hole 33 = .ok (.ireturn, 1) := by decide +kernel
theorem dX7_hole_34 : decode cX7_hole 34 = .ok (.aload_n 0, 1) := by decide +kernel
theorem dX7_hole_35 : decode cX7_hole 35 = .ok (.getfield 23, 3) := by decide +kernel
theorem dX7_hole_38 : decode cX7_hole 38 = .ok (.iload_n 1, 1) := by decide +kernel
theorem dX7_hole_39 : decode cX7_hole 39 = .ok (.iconst 1, 1) := by decide +kernel
theorem dX7_hole_40 : decode cX7_hole 40 = .ok (.bastore, 1) := by decide +kernel
theorem dX7_hole_41 : decode cX7_hole 41 = .ok (.aload_n 0, 1) := by decide +kernel
theorem dX7_hole_42 : decode cX7_hole 42 = .ok (.getfield 16, 3) := by decide +kernel
theorem dX7_hole_45 : decode cX7_hole 45 = .ok (.iconst 4, 1) := by decide +kernel
theorem dX7_hole_46 : decode cX7_hole 46 = .ok (.iload_n 1, 1) := by decide +kernel
theorem dX7_hole_47 : decode cX7_hole 47 = .ok (.imul, 1) := by decide +kernel
theorem dX7_hole_48 : decode cX7_hole 48 = .ok (.aload_n 0, 1) := by decide +kernel
theorem dX7_hole_49 : decode cX7_hole 49 = .ok (.getfield 20, 3) := by decide +kernel
theorem dX7_hole_52 : decode cX7_hole 52 = .ok (.iload_n 1, 1) := by decide +kernel
theorem dX7_hole_53 : decode cX7_hole 53 = .ok (.iaload, 1) := by decide +kernel
theorem dX7_hole_54 : decode cX7_hole 54 = .ok (.iadd, 1) := by decide +kernel
theorem dX7_hole_55 : decode cX7_hole 55 = .ok (.iconst 0, 1) := by decide +kernel
theorem dX7_hole_56 : decode cX7_hole 56 = .ok (.iastore, 1) := by decide +kernel
theorem dX7_hole_57 : decode cX7_hole 57 = .ok (.iconst 1, 1) := by decide +kernel
theorem dX7_hole_58 : decode cX7_hole 58 = .ok (.ireturn, 1) := by decide +kernel
theorem dX7_rule_0 : decode cX7_rule 0 = .ok (.aload_n 0, 1) := by decide +kernel
theorem dX7_rule_1 : decode cX7_rule 1 = .ok (.getfield 30, 3) := by decide +kernel
theorem dX7_rule_4 : decode cX7_rule 4 = .ok (.aload_n 0, 1) := by decide +kernel
theorem dX7_rule_5 : decode cX7_rule 5 = .ok (.getfield 140, 3) := by decide +kernel
theorem dX7_rule_8 : decode cX7_rule 8 = .ok (.iload_n 1, 1) := by decide +kernel
theorem dX7_rule_9 : decode cX7_rule 9 = .ok (.iastore, 1) := by decide +kernel
theorem dX7_rule_10 : decode cX7_rule 10 = .ok (.aload_n 0, 1) := by decide +kernel
theorem dX7_rule_11 : decode cX7_rule 11 = .ok (.getfield 33, 3) := by decide +kernel
theorem dX7_rule_14 : decode cX7_rule 14 = .ok (.aload_n 0, 1) := by decide +kernel
theorem dX7_rule_15 : decode cX7_rule 15 = .ok (.getfield 140, 3) := by decide +kernel
theorem dX7_rule_18 : decode cX7_rule 18 = .ok (.iload_n 2, 1) := by decide +kernel
theorem dX7_rule_19 : decode cX7_rule 19 = .ok (.iastore, 1) := by decide +kernel
theorem dX7_rule_20 : decode cX7_rule 20 = .ok (.aload_n 0, 1) := by decide +kernel
theorem dX7_rule_21 : decode cX7_rule 21 = .ok (.getfield 36, 3) := by decide +kernel
theorem dX7_rule_24 : decode cX7_rule 24 = .ok (.aload_n 0, 1) := by decide +kernel
theorem dX7_rule_25 : decode cX7_rule 25 = .ok (.getfield 140, 3) := by decide +kernel
theorem dX7_rule_28 : decode cX7_rule 28 = .ok (.iload_n 3, 1) := by decide +kernel
theorem dX7_rule_29 : decode cX7_rule 29 = .ok (.iastore, 1) := by decide +kernel
theorem dX7_rule_30 : decode cX7_rule 30 = .ok (.aload_n 0, 1) := by decide +kernel
theorem dX7_rule_31 : decode cX7_rule 31 = .ok (.getfield 39, 3) := by decide +kernel
theorem dX7_rule_34 : decode cX7_rule 34 = .ok (.aload_n 0, 1) := by decide +kernel
theorem dX7_rule_35 : decode cX7_rule 35 = .ok (.getfield 140, 3) := by decide +kernel
theorem dX7_rule_38 : decode cX7_rule 38 = .ok (.iload 4, 2) := by decide +kernel
theorem dX7_rule_40 : decode cX7_rule 40 = .ok (.iastore, 1) := by decide +kernel
theorem dX7_rule_41 : decode cX7_rule 41 = .ok (.aload_n 0, 1) := by decide +kernel
theorem dX7_rule_42 : decode cX7_rule 42 = .ok (.dup, 1) := by decide +kernel
theorem dX7_rule_43 : decode cX7_rule 43 = .ok (.getfield 140, 3) := by decide +kernel
theorem dX7_rule_46 : decode cX7_rule 46 = .ok (.iconst 1, 1) := by decide +kernel
theorem dX7_rule_47 : decode cX7_rule 47 = .ok (.iadd, 1) := by decide +kernel
theorem dX7_rule_48 : decode cX7_rule 48 = .ok (.putfield 140, 3) := by decide +kernel
theorem dX7_rule_51 : decode cX7_rule 51 = .ok (.return_, 1) := by decide +kernel
theorem dX7_bars_0 : decode cX7_bars 0 = .ok (.aload_n 0, 1) := by decide +kernel
theorem dX7_bars_1 : decode cX7_bars 1 = .ok (.iconst 0, 1) := by decide +kernel
theorem dX7_bars_2 : decode cX7_bars 2 = .ok (.putfield 76, 3) := by decide +kernel
theorem dX7_bars_5 : decode cX7_bars 5 = .ok (.aload_n 0, 1) := by decide +kernel
theorem dX7_bars_6 : decode cX7_bars 6 = .ok (.iload_n 1, 1) := by decide +kernel
theorem dX7_bars_7 : decode cX7_bars 7 = .ok (.invokevirtual 79, 3) := by decide +kernel
theorem dX7_bars_10 : decode cX7_bars 10 = .ok (.ifCond .eq 50, 3) := by decide +kernel
theorem dX7_bars_13 : decode cX7_bars 13 = .ok (.iload_n 2, 1) := by decide +kernel
theorem dX7_bars_14 : decode cX7_bars 14 = .ok (.i2l, 1) := by decide +kernel
theorem dX7_bars_15 : decode cX7_bars 15 = .ok (.lconst 0, 1) := by decide +kernel
theorem dX7_bars_16 : decode cX7_bars 16 = .ok (.ldc2_w 143, 3) := by decide +kernel
theorem dX7_bars_19 : decode cX7_bars 19 = .ok (.invokestatic 122, 3) := by decide +kernel
theorem dX7_bars_22 : decode cX7_bars 22 = .ok (.ifCond .eq 38, 3) := by decide +kernel
theorem dX7_bars_25 : decode cX7_bars 25 = .ok (.iload_n 3, 1) := by decide +kernel
theorem dX7_bars_26 : decode cX7_bars 26 = .ok (.i2l, 1) := by decide +kernel
theorem dX7_bars_27 : decode cX7_bars 27 = .ok (.lconst 0, 1) := by decide +kernel
theorem dX7_bars_28 : decode cX7_bars 28 = .ok (.ldc2_w 145, 3) := by decide +kernel
theorem dX7_bars_31 : decode cX7_bars 31 = .ok (.invokestatic 122, 3) := by decide +kernel
theorem dX7_bars_34 : decode cX7_bars 34 = .ok (.ifCond .eq 26, 3) := by decide +kernel
theorem dX7_bars_37 : decode cX7_bars 37 = .ok (.iload 4, 2) := by decide +kernel
theorem dX7_bars_39 : decode cX7_bars 39 = .ok (.i2l, 1) := by decide +kernel
theorem dX7_bars_40 : decode cX7_bars 40 = .ok (.iload_n 3, 1) := by decide +kernel
theorem dX7_bars_41 : decode cX7_bars 41 = .ok (.i2l, 1) := by decide +kernel
theorem dX7_bars_42 : decode cX7_bars 42 = .ok (.ldc2_w 145, 3) := by decide +kernel
theorem dX7_bars_45 : decode cX7_bars 45 = .ok (.invokestatic 122, 3) := by decide +kernel
theorem dX7_bars_48 : decode cX7_bars 48 = .ok (.ifCond .eq 12, 3) := by decide +kernel
theorem dX7_bars_51 : decode cX7_bars 51 = .ok (.aload_n 0, 1) := by decide +kernel
theorem dX7_bars_52 : decode cX7_bars 52 = .ok (.getfield 140, 3) := by decide +kernel
theorem dX7_bars_55 : decode cX7_bars 55 = .ok (.bipush 40, 2) := by decide +kernel
theorem dX7_bars_57 : decode cX7_bars 57 = .ok (.if_icmp .ne 5, 3) := by decide +kernel
theorem dX7_bars_60 : decode cX7_bars 60 = .ok (.iconst 0, 1) := by decide +kernel
theorem dX7_bars_61 : decode cX7_bars 61 = .ok (.ireturn, 1) := by decide +kernel
theorem dX7_bars_62 : decode cX7_bars 62 = .ok (.aload_n 0, 1) := by decide +kernel
theorem dX7_bars_63 : decode cX7_bars 63 = .ok (.iload_n 1, 1) := by decide +kernel
theorem dX7_bars_64 : decode cX7_bars 64 = .ok (.iload_n 2, 1) := by decide +kernel
theorem dX7_bars_65 : decode cX7_bars 65 = .ok (.iload_n 3, 1) := by decide +kernel
theorem dX7_bars_66 : decode cX7_bars 66 = .ok (.iload 4, 2) := by decide +kernel
theorem dX7_bars_68 : decode cX7_bars 68 = .ok (.invokevirtual 147, 3) := by decide +kernel
theorem dX7_bars_71 : decode cX7_bars 71 = .ok (.iconst 1, 1) := by decide +kernel
theorem dX7_bars_72 : decode cX7_bars 72 = .ok (.ireturn, 1) := by decide +kernel
theorem dX7_speed_0 : decode cX7_speed 0 = .ok (.aload_n 0, 1) := by decide +kernel
theorem dX7_speed_1 : decode cX7_speed 1 = .ok (.iconst 0, 1) := by decide +kernel
theorem dX7_speed_2 : decode cX7_speed 2 = .ok (.putfield 76, 3) := by decide +kernel
theorem dX7_speed_5 : decode cX7_speed 5 = .ok (.aload_n 0, 1) := by decide +kernel
theorem dX7_speed_6 : decode cX7_speed 6 = .ok (.iload_n 1, 1) := by decide +kernel
theorem dX7_speed_7 : decode cX7_speed 7 = .ok (.invokevirtual 79, 3) := by decide +kernel
theorem dX7_speed_10 : decode cX7_speed 10 = .ok (.ifCond .eq 14, 3) := by decide +kernel
theorem dX7_speed_13 : decode cX7_speed 13 = .ok (.lload_n 2, 1) := by decide +kernel
theorem dX7_speed_14 : decode cX7_speed 14 = .ok (.lconst 0, 1) := by decide +kernel
theorem dX7_speed_15 : decode cX7_speed 15 = .ok (.ldc2_w 151, 3) := by decide +kernel
theorem dX7_speed_18 : decode cX7_speed 18 = .ok (.invokestatic 122, 3) := by decide +kernel
theorem dX7_speed_21 : decode cX7_speed 21 = .ok (.ifCond .ne 5, 3) := by decide +kernel
theorem dX7_speed_24 : decode cX7_speed 24 = .ok (.iconst 0, 1) := by decide +kernel
theorem dX7_speed_25 : decode cX7_speed 25 = .ok (.ireturn, 1) := by decide +kernel
theorem dX7_speed_26 : decode cX7_speed 26 = .ok (.aload_n 0, 1) := by decide +kernel
theorem dX7_speed_27 : decode cX7_speed 27 = .ok (.getfield 27, 3) := by decide +kernel
theorem dX7_speed_30 : decode cX7_speed 30 = .ok (.iload_n 1, 1) := by decide +kernel
theorem dX7_speed_31 : decode cX7_speed 31 = .ok (.lload_n 2, 1) := by decide +kernel
theorem dX7_speed_32 : decode cX7_speed 32 = .ok (.lastore, 1) := by decide +kernel
theorem dX7_speed_33 : decode cX7_speed 33 = .ok (.iconst 1, 1) := by decide +kernel
theorem dX7_speed_34 : decode cX7_speed 34 = .ok (.ireturn, 1) := by decide +kernel
theorem dX7_report_0 : decode cX7_report 0 = .ok (.aload_n 0, 1) := by decide +kernel
theorem dX7_report_1 : decode cX7_report 1 = .ok (.iconst 0, 1) := by decide +kernel
theorem dX7_report_2 : decode cX7_report 2 = .ok (.putfield 76, 3) := by decide +kernel
theorem dX7_report_5 : decode cX7_report 5 = .ok (.lload_n 1, 1) := by decide +kernel
theorem dX7_report_6 : decode cX7_report 6 = .ok (.ldc2_w 118, 3) := by decide +kernel
theorem dX7_report_9 : decode cX7_report 9 = .ok (.ldc2_w 120, 3) := by decide +kernel
theorem dX7_report_12 : decode cX7_report 12 = .ok (.invokestatic 122, 3) := by decide +kernel
theorem dX7_report_15 : decode cX7_report 15 = .ok (.ifCond .eq 45, 3) := by decide +kernel
theorem dX7_report_18 : decode cX7_report 18 = .ok (.lload_n 3, 1) := by decide +kernel
theorem dX7_report_19 : decode cX7_report 19 = .ok (.ldc2_w 118, 3) := by decide +kernel
theorem dX7_report_22 : decode cX7_report 22 = .ok (.ldc2_w 120, 3) := by decide +kernel
theorem dX7_report_25 : decode cX7_report 25 = .ok (.invokestatic 122, 3) := by decide +kernel
theorem dX7_report_28 : decode cX7_report 28 = .ok (.ifCond .eq 32, 3) := by decide +kernel
theorem dX7_report_31 : decode cX7_report 31 = .ok (.lload 5, 2) := by decide +kernel
theorem dX7_report_33 : decode cX7_report 33 = .ok (.lconst 0, 1) := by decide +kernel
theorem dX7_report_34 : decode cX7_report 34 = .ok (.ldc2_w 153, 3) := by decide +kernel
theorem dX7_report_37 : decode cX7_report 37 = .ok (.invokestatic 122, 3) := by decide +kernel
theorem dX7_report_40 : decode cX7_report 40 = .ok (.ifCond .eq 20, 3) := by decide +kernel
theorem dX7_report_43 : decode cX7_report 43 = .ok (.iload 7, 2) := by decide +kernel
theorem dX7_report_45 : decode cX7_report 45 = .ok (.i2l, 1) := by decide +kernel
theorem dX7_report_46 : decode cX7_report 46 = .ok (.lconst 1, 1) := by decide +kernel
theorem dX7_report_47 : decode cX7_report 47 = .ok (.ldc2_w 155, 3) := by decide +kernel
theorem dX7_report_50 : decode cX7_report 50 = .ok (.invokestatic 122, 3) := by decide +kernel
theorem dX7_report_53 : decode cX7_report 53 = .ok (.ifCond .eq 7, 3) := by decide +kernel
theorem dX7_report_56 : decode cX7_report 56 = .ok (.iconst 1, 1) := by decide +kernel
theorem dX7_report_57 : decode cX7_report 57 = .ok (.goto 4, 3) := by decide +kernel
theorem dX7_report_60 : decode cX7_report 60 = .ok (.iconst 0, 1) := by decide +kernel
theorem dX7_report_61 : decode cX7_report 61 = .ok (.istore 8, 2) := by decide +kernel
theorem dX7_report_63 : decode cX7_report 63 = .ok (.iload 8, 2) := by decide +kernel
theorem dX7_report_65 : decode cX7_report 65 = .ok (.ifCond .eq 45, 3) := by decide +kernel
theorem dX7_report_68 : decode cX7_report 68 = .ok (.lload_n 1, 1) := by decide +kernel
theorem dX7_report_69 : decode cX7_report 69 = .ok (.iload 7, 2) := by decide +kernel
theorem dX7_report_71 : decode cX7_report 71 = .ok (.i2l, 1) := by decide +kernel
theorem dX7_report_72 : decode cX7_report 72 = .ok (.ldc2_w 120, 3) := by decide +kernel
theorem dX7_report_75 : decode cX7_report 75 = .ok (.lsub, 1) := by decide +kernel
theorem dX7_report_76 : decode cX7_report 76 = .ok (.ldc2_w 120, 3) := by decide +kernel
theorem dX7_report_79 : decode cX7_report 79 = .ok (.iload 7, 2) := by decide +kernel
theorem dX7_report_81 : decode cX7_report 81 = .ok (.i2l, 1) := by decide +kernel
theorem dX7_report_82 : decode cX7_report 82 = .ok (.lsub, 1) := by decide +kernel
theorem dX7_report_83 : decode cX7_report 83 = .ok (.invokestatic 122, 3) := by decide +kernel
theorem dX7_report_86 : decode cX7_report 86 = .ok (.ifCond .eq 24, 3) := by decide +kernel
theorem dX7_report_89 : decode cX7_report 89 = .ok (.lload_n 3, 1) := by decide +kernel
theorem dX7_report_90 : decode cX7_report 90 = .ok (.iload 7, 2) := by decide +kernel
theorem dX7_report_92 : decode cX7_report 92 = .ok (.i2l, 1) := by decide +kernel
theorem dX7_report_93 : decode cX7_report 93 = .ok (.ldc2_w 120, 3) := by decide +kernel
theorem dX7_report_96 : decode cX7_report 96 = .ok (.lsub, 1) := by decide +kernel
theorem dX7_report_97 : decode cX7_report 97 = .ok (.ldc2_w 120, 3) := by decide +kernel
theorem dX7_report_100 : decode cX7_report 100 = .ok (.iload 7, 2) := by decide +kernel
theorem dX7_report_102 : decode cX7_report 102 = .ok (.i2l, 1) := by decide +kernel
theorem dX7_report_103 : decode cX7_report 103 = .ok (.lsub, 1) := by decide +kernel
theorem dX7_report_104 : decode cX7_report 104 = .ok (.invokestatic 122, 3) := by decide +kernel
theorem dX7_report_107 : decode cX7_report 107 = .ok (.ifCond .ne 5, 3) := by decide +kernel
theorem dX7_report_110 : decode cX7_report 110 = .ok (.iconst (-1), 1) := by decide +kernel
theorem dX7_report_111 : decode cX7_report 111 = .ok (.ireturn, 1) := by decide +kernel
theorem dX7_report_112 : decode cX7_report 112 = .ok (.iconst 0, 1) := by decide +kernel
theorem dX7_report_113 : decode cX7_report 113 = .ok (.istore 9, 2) := by decide +kernel
theorem dX7_report_115 : decode cX7_report 115 = .ok (.iload 9, 2) := by decide +kernel
theorem dX7_report_117 : decode cX7_report 117 = .ok (.aload_n 0, 1) := by decide +kernel
theorem dX7_report_118 : decode cX7_report 118 = .ok (.getfield 72, 3) := by decide +kernel
theorem dX7_report_121 : decode cX7_report 121 = .ok (.if_icmp .ge 31, 3) := by decide +kernel
theorem dX7_report_124 : decode cX7_report 124 = .ok (.aload_n 0, 1) := by decide +kernel
theorem dX7_report_125 : decode cX7_report 125 = .ok (.getfield 20, 3) := by decide +kernel
theorem dX7_report_128 : decode cX7_report 128 = .ok (.iload 9, 2) := by decide +kernel
theorem dX7_report_130 : decode cX7_report 130 = .ok (.iaload, 1) := by decide +kernel
theorem dX7_report_131 : decode cX7_report 131 = .ok (.ifCond .gt 15, 3) := by decide +kernel
theorem dX7_report_134 : decode cX7_report 134 = .ok (.aload_n 0, 1) := by decide +kernel
theorem dX7_report_135 : decode cX7_report 135 = .ok (.getfield 16, 3) := by decide +kernel
theorem dX7_report_138 : decode cX7_report 138 = .ok (.iconst 4, 1) := by decide +kernel
theorem dX7_report_139 : decode cX7_report 139 = .ok (.iload 9, 2) := by decide +kernel
theorem dX7_report_141 : decode cX7_report 141 = .ok (.imul, 1) := by decide +kernel
theorem dX7_report_142 : decode cX7_report 142 = .ok (.iaload, 1) := by decide +kernel
theorem dX7_report_143 : decode cX7_report 143 = .ok (.ifCond .le 9, 3) := by decide +kernel
theorem dX7_report_146 : decode cX7_report 146 = .ok (.iinc 9 1, 3) := by decide +kernel
theorem dX7_report_149 : decode cX7_report 149 = .ok (.goto (-34), 3) := by decide +kernel
theorem dX7_report_152 : decode cX7_report 152 = .ok (.iload 9, 2) := by decide +kernel
theorem dX7_report_154 : decode cX7_report 154 = .ok (.aload_n 0, 1) := by decide +kernel
theorem dX7_report_155 : decode cX7_report 155 = .ok (.getfield 72, 3) := by decide +kernel
theorem dX7_report_158 : decode cX7_report 158 = .ok (.if_icmp .eq 15, 3) := by decide +kernel
theorem dX7_report_161 : decode cX7_report 161 = .ok (.aload_n 0, 1) := by decide +kernel
theorem dX7_report_162 : decode cX7_report 162 = .ok (.getfield 140, 3) := by decide +kernel
theorem dX7_report_165 : decode cX7_report 165 = .ok (.bipush 8, 2) := by decide +kernel
theorem dX7_report_167 : decode cX7_report 167 = .ok (.iadd, 1) := by decide +kernel
theorem dX7_report_168 : decode cX7_report 168 = .ok (.bipush 40, 2) := by decide +kernel
theorem dX7_report_170 : decode cX7_report 170 = .ok (.if_icmp .le 6, 3) := by decide +kernel
theorem dX7_report_173 : decode cX7_report 173 = .ok (.bipush (-4), 2) := by decide +kernel
theorem dX7_report_175 : decode cX7_report 175 = .ok (.ireturn, 1) := by decide +kernel
theorem dX7_report_176 : decode cX7_report 176 = .ok (.bipush 48, 2) := by decide +kernel
theorem dX7_report_178 : decode cX7_report 178 = .ok (.iload 9, 2) := by decide +kernel
theorem dX7_report_180 : decode cX7_report 180 = .ok (.imul, 1) := by decide +kernel
theorem dX7_report_181 : decode cX7_report 181 = .ok (.istore 10, 2) := by decide +kernel
theorem dX7_report_183 : decode cX7_report 183 = .ok (.iconst 0, 1) := by decide +kernel
theorem dX7_report_184 : decode cX7_report 184 = .ok (.istore 11, 2) := by decide +kernel
theorem dX7_report_186 : decode cX7_report 186 = .ok (.iload 11, 2) := by decide +kernel
theorem dX7_report_188 : decode cX7_report 188 = .ok (.iconst 4, 1) := by decide +kernel
theorem dX7_report_189 : decode cX7_report 189 = .ok (.if_icmp .ge 72, 3) := by decide +kernel
theorem dX7_report_192 : decode cX7_report 192 = .ok (.aload_n 0, 1) := by decide +kernel
theorem dX7_report_193 : decode cX7_report 193 = .ok (.getfield 7, 3) := by decide +kernel
theorem dX7_report_196 : decode cX7_report 196 = .ok (.iload 10, 2) := by decide +kernel
theorem dX7_report_198 : decode cX7_report 198 = .ok (.iload 11, 2) := by decide +kernel
theorem dX7_report_200 : decode cX7_report 200 = .ok (.iadd, 1) := by decide +kernel
theorem dX7_report_201 : decode cX7_report 201 = .ok (.iload 11, 2) := by decide +kernel
theorem dX7_report_203 : decode cX7_report 203 = .ok (.ifCond .eq 9, 3) := by decide +kernel
theorem dX7_report_206 : decode cX7_report 206 = .ok (.iload 11, 2) := by decide +kernel
theorem dX7_report_208 : decode cX7_report 208 = .ok (.iconst 3, 1) := by decide +kernel
theorem dX7_report_209 : decode cX7_report 209 = .ok (.if_icmp .ne 11, 3) := by decide +kernel
theorem dX7_report_212 : decode cX7_report 212 = .ok (.lload_n 1, 1) := by decide +kernel
theorem dX7_report_213 : decode cX7_report 213 = .ok (.iload 7, 2) := by decide +kernel
theorem dX7_report_215 : decode cX7_report 215 = .ok (.i2l, 1) := by decide +kernel
theorem dX7_report_216 : decode cX7_report 216 = .ok (.lsub, 1) := by decide +kernel
theorem dX7_report_217 : decode cX7_report 217 = .ok (.goto 8, 3) := by decide +kernel
theorem dX7_report_220 : decode cX7_report 220 = .ok (.lload_n 1, 1) := by decide +kernel
theorem dX7_report_221 : decode cX7_report 221 = .ok (.iload 7, 2) := by decide +kernel
theorem dX7_report_223 : decode cX7_report 223 = .ok (.i2l, 1) := by decide +kernel
theorem dX7_report_224 : decode cX7_report 224 = .ok (.ladd, 1) := by decide +kernel
theorem dX7_report_225 : decode cX7_report 225 = .ok (.lastore, 1) := by decide +kernel
theorem dX7_report_226 : decode cX7_report 226 = .ok (.aload_n 0, 1) := by decide +kernel
theorem dX7_report_227 : decode cX7_report 227 = .ok (.getfield 13, 3) := by decide +kernel
theorem dX7_report_230 : decode cX7_report 230 = .ok (.iload 10, 2) := by decide +kernel
theorem dX7_report_232 : decode cX7_report 232 = .ok (.iload 11, 2) := by decide +kernel
theorem dX7_report_234 : decode cX7_report 234 = .ok (.iadd, 1) := by decide +kernel
theorem dX7_report_235 : decode cX7_report 235 = .ok (.iload 11, 2) := by decide +kernel
theorem dX7_report_237 : decode cX7_report 237 = .ok (.iconst 2, 1) := by decide +kernel
theorem dX7_report_238 : decode cX7_report 238 = .ok (.if_icmp .ge 11, 3) := by decide +kernel
theorem dX7_report_241 : decode cX7_report 241 = .ok (.lload_n 3, 1) := by decide +kernel
theorem dX7_report_242 : decode cX7_report 242 = .ok (.iload 7, 2) := by decide +kernel
theorem dX7_report_244 : decode cX7_report 244 = .ok (.i2l, 1) := by decide +kernel
theorem dX7_report_245 : decode cX7_report 245 = .ok (.lsub, 1) := by decide +kernel
theorem dX7_report_246 : decode cX7_report 246 = .ok (.goto 8, 3) := by decide +kernel
theorem dX7_report_249 : decode cX7_report 249 = .ok (.lload_n 3, 1) := by decide +kernel
theorem dX7_report_250 : decode cX7_report 250 = .ok (.iload 7, 2) := by decide +kernel
theorem dX7_report_252 : decode cX7_report 252 = .ok (.i2l, 1) := by decide +kernel
theorem dX7_report_253 : decode cX7_report 253 = .ok (.ladd, 1) := by decide +kernel
theorem dX7_report_254 : decode cX7_report 254 = .ok (.lastore, 1) := by decide +kernel
theorem dX7_report_255 : decode cX7_report 255 = .ok (.iinc 11 1, 3) := by decide +kernel
theorem dX7_report_258 : decode cX7_report 258 = .ok (.goto (-72), 3) := by decide +kernel
theorem dX7_report_261 : decode cX7_report 261 = .ok (.aload_n 0, 1) := by decide +kernel
theorem dX7_report_262 : decode cX7_report 262 = .ok (.getfield 16, 3) := by decide +kernel
theorem dX7_report_265 : decode cX7_report 265 = .ok (.iconst 4, 1) := by decide +kernel
theorem dX7_report_266 : decode cX7_report 266 = .ok (.iload 9, 2) := by decide +kernel
theorem dX7_report_268 : decode cX7_report 268 = .ok (.imul, 1) := by decide +kernel
theorem dX7_report_269 : decode cX7_report 269 = .ok (.iconst 4, 1) := by decide +kernel
theorem dX7_report_270 : decode cX7_report 270 = .ok (.iastore, 1) := by decide +kernel
theorem dX7_report_271 : decode cX7_report 271 = .ok (.aload_n 0, 1) := by decide +kernel
theorem dX7_report_272 : decode cX7_report 272 = .ok (.getfield 20, 3) := by decide +kernel
theorem dX7_report_275 : decode cX7_report 275 = .ok (.iload 9, 2) := by decide +kernel
theorem dX7_report_277 : decode cX7_report 277 = .ok (.iconst 1, 1) := by decide +kernel
theorem dX7_report_278 : decode cX7_report 278 = .ok (.iastore, 1) := by decide +kernel
theorem dX7_report_279 : decode cX7_report 279 = .ok (.aload_n 0, 1) := by decide +kernel
theorem dX7_report_280 : decode cX7_report 280 = .ok (.getfield 23, 3) := by decide +kernel
theorem dX7_report_283 : decode cX7_report 283 = .ok (.iload 9, 2) := by decide +kernel
theorem dX7_report_285 : decode cX7_report 285 = .ok (.iconst 0, 1) := by decide +kernel
theorem dX7_report_286 : decode cX7_report 286 = .ok (.bastore, 1) := by decide +kernel
theorem dX7_report_287 : decode cX7_report 287 = .ok (.iconst 0, 1) := by decide +kernel
theorem dX7_report_288 : decode cX7_report 288 = .ok (.istore 11, 2) := by decide +kernel
theorem dX7_report_290 : decode cX7_report 290 = .ok (.iload 11, 2) := by decide +kernel
theorem dX7_report_292 : decode cX7_report 292 = .ok (.bipush 8, 2) := by decide +kernel
theorem dX7_report_294 : decode cX7_report 294 = .ok (.if_icmp .ge 25, 3) := by decide +kernel
theorem dX7_report_297 : decode cX7_report 297 = .ok (.aload_n 0, 1) := by decide +kernel
theorem dX7_report_298 : decode cX7_report 298 = .ok (.iload 9, 2) := by decide +kernel
theorem dX7_report_300 : decode cX7_report 300 = .ok (.iload 11, 2) := by decide +kernel
theorem dX7_report_302 : decode cX7_report 302 = .ok (.lload 5, 2) := by decide +kernel
theorem dX7_report_304 : decode cX7_report 304 = .ok (.l2i, 1) := by decide +kernel
theorem dX7_report_305 : decode cX7_report 305 = .ok (.lload 5, 2) := by decide +kernel
theorem dX7_report_307 : decode cX7_report 307 = .ok (.l2i, 1) := by decide +kernel
theorem dX7_report_308 : decode cX7_report 308 = .ok (.iconst 2, 1) := by decide +kernel
theorem dX7_report_309 : decode cX7_report 309 = .ok (.iadd, 1) := by decide +kernel
theorem dX7_report_310 : decode cX7_report 310 = .ok (.invokevirtual 147, 3) := by decide +kernel
theorem dX7_report_313 : decode cX7_report 313 = .ok (.iinc 11 1, 3) := by decide +kernel
theorem dX7_report_316 : decode cX7_report 316 = .ok (.goto (-26), 3) := by decide +kernel
theorem dX7_report_319 : decode cX7_report 319 = .ok (.iload 9, 2) := by decide +kernel
theorem dX7_report_321 : decode cX7_report 321 = .ok (.ireturn, 1) := by decide +kernel
theorem dX7_isBarred_0 : decode cX7_isBarred 0 = .ok (.iconst 0, 1) := by decide +kernel
theorem dX7_isBarred_1 : decode cX7_isBarred 1 = .ok (.istore 5, 2) := by decide +kernel
theorem dX7_isBarred_3 : decode cX7_isBarred 3 = .ok (.iconst 0, 1) := by decide +kernel
theorem dX7_isBarred_4 : decode cX7_isBarred 4 = .ok (.istore 6, 2) := by decide +kernel
theorem dX7_isBarred_6 : decode cX7_isBarred 6 = .ok (.iload 6, 2) := by decide +kernel
theorem dX7_isBarred_8 : decode cX7_isBarred 8 = .ok (.aload_n 0, 1) := by decide +kernel
theorem dX7_isBarred_9 : decode cX7_isBarred 9 = .ok (.getfield 140, 3) := by decide +kernel
theorem dX7_isBarred_12 : decode cX7_isBarred 12 = .ok (.if_icmp .ge 73, 3) := by decide +kernel
theorem dX7_isBarred_15 : decode cX7_isBarred 15 = .ok (.iload 5, 2) := by decide +kernel
theorem dX7_isBarred_17 : decode cX7_isBarred 17 = .ok (.ifCond .ne 55, 3) := by decide +kernel
theorem dX7_isBarred_20 : decode cX7_isBarred 20 = .ok (.aload_n 0, 1) := by decide +kernel
theorem dX7_isBarred_21 : decode cX7_isBarred 21 = .ok (.getfield 30, 3) := by decide +kernel
theorem dX7_isBarred_24 : decode cX7_isBarred 24 = .ok (.iload 6, 2) := by decide +kernel
theorem dX7_isBarred_26 : decode cX7_isBarred 26 = .ok (.iaload, 1) := by decide +kernel
theorem dX7_isBarred_27 : decode cX7_isBarred 27 = .ok (.iload_n 1, 1) := by decide +kernel
theorem dX7_isBarred_28 : decode cX7_isBarred 28 = .ok (.if_icmp .ne 48, 3) := by decide +kernel
theorem dX7_isBarred_31 : decode cX7_isBarred 31 = .ok (.iload_n 2, 1) := by decide +kernel
theorem dX7_isBarred_32 : decode cX7_isBarred 32 = .ok (.ifCond .lt 14, 3) := by decide +kernel
theorem dX7_isBarred_35 : decode cX7_isBarred 35 = .ok (.aload_n 0, 1) := by decide +kernel
theorem dX7_isBarred_36 : decode cX7_isBarred 36 = .ok (.getfield 33, 3) := by decide +kernel
theorem dX7_isBarred_39 : decode cX7_isBarred 39 = .ok (.iload 6, 2) := by decide +kernel
theorem dX7_isBarred_41 : decode cX7_isBarred 41 = .ok (.iaload, 1) := by decide +kernel
theorem dX7_isBarred_42 : decode cX7_isBarred 42 = .ok (.iload_n 2, 1) := by decide +kernel
theorem dX7_isBarred_43 : decode cX7_isBarred 43 = .ok (.if_icmp .ne 33, 3) := by decide +kernel
theorem dX7_isBarred_46 : decode cX7_isBarred 46 = .ok (.aload_n 0, 1) := by decide +kernel
theorem dX7_isBarred_47 : decode cX7_isBarred 47 = .ok (.getfield 36, 3) := by decide +kernel
theorem dX7_isBarred_50 : decode cX7_isBarred 50 = .ok (.iload 6, 2) := by decide +kernel
theorem dX7_isBarred_52 : decode cX7_isBarred 52 = .ok (.iaload, 1) := by decide +kernel
theorem dX7_isBarred_53 : decode cX7_isBarred 53 = .ok (.i2l, 1) := by decide +kernel
theorem dX7_isBarred_54 : decode cX7_isBarred 54 = .ok (.lload_n 3, 1) := by decide +kernel
theorem dX7_isBarred_55 : decode cX7_isBarred 55 = .ok (.lcmp, 1) := by decide +kernel
theorem dX7_isBarred_56 : decode cX7_isBarred 56 = .ok (.ifCond .gt 20, 3) := by decide +kernel
theorem dX7_isBarred_59 : decode cX7_isBarred 59 = .ok (.lload_n 3, 1) := by decide +kernel
theorem dX7_isBarred_60 : decode cX7_isBarred 60 = .ok (.aload_n 0, 1) := by decide +kernel
theorem dX7_isBarred_61 : decode cX7_isBarred 61 = .ok (.getfield 39, 3) := by decide +kernel
theorem dX7_isBarred_64 : decode cX7_isBarred 64 = .ok (.iload 6, 2) := by decide +kernel
theorem dX7_isBarred_66 : decode cX7_isBarred 66 = .ok (.iaload, 1) := by decide +kernel
theorem dX7_isBarred_67 : decode cX7_isBarred 67 = .ok (.i2l, 1) := by decide +kernel
theorem dX7_isBarred_68 : decode cX7_isBarred 68 = .ok (.lcmp, 1) := by decide +kernel
theorem dX7_isBarred_69 : decode cX7_isBarred 69 = .ok (.ifCond .gt 7, 3) := by decide +kernel
theorem dX7_isBarred_72 : decode cX7_isBarred 72 = .ok (.iconst 1, 1) := by decide +kernel
theorem dX7_isBarred_73 : decode cX7_isBarred 73 = .ok (.goto 4, 3) := by decide +kernel
theorem dX7_isBarred_76 : decode cX7_isBarred 76 = .ok (.iconst 0, 1) := by decide +kernel
theorem dX7_isBarred_77 : decode cX7_isBarred 77 = .ok (.istore 5, 2) := by decide +kernel
theorem dX7_isBarred_79 : decode cX7_isBarred 79 = .ok (.iinc 6 1, 3) := by decide +kernel
theorem dX7_isBarred_82 : decode cX7_isBarred 82 = .ok (.goto (-76), 3) := by decide +kernel
theorem dX7_isBarred_85 : decode cX7_isBarred 85 = .ok (.iload 5, 2) := by decide +kernel
theorem dX7_isBarred_87 : decode cX7_isBarred 87 = .ok (.ireturn, 1) := by decide +kernel
theorem dX7_told_0 : decode cX7_told 0 = .ok (.aload_n 0, 1) := by decide +kernel
theorem dX7_told_1 : decode cX7_told 1 = .ok (.iconst 0, 1) := by decide +kernel
theorem dX7_told_2 : decode cX7_told 2 = .ok (.putfield 76, 3) := by decide +kernel
theorem dX7_told_5 : decode cX7_told 5 = .ok (.aload_n 0, 1) := by decide +kernel
theorem dX7_told_6 : decode cX7_told 6 = .ok (.iload_n 1, 1) := by decide +kernel
theorem dX7_told_7 : decode cX7_told 7 = .ok (.invokevirtual 137, 3) := by decide +kernel
theorem dX7_told_10 : decode cX7_told 10 = .ok (.ifCond .eq 17, 3) := by decide +kernel
theorem dX7_told_13 : decode cX7_told 13 = .ok (.aload_n 0, 1) := by decide +kernel
theorem dX7_told_14 : decode cX7_told 14 = .ok (.iload_n 1, 1) := by decide +kernel
theorem dX7_told_15 : decode cX7_told 15 = .ok (.iconst (-1), 1) := by decide +kernel
theorem dX7_told_16 : decode cX7_told 16 = .ok (.lload_n 2, 1) := by decide +kernel
theorem dX7_told_17 : decode cX7_told 17 = .ok (.invokevirtual 157, 3) := by decide +kernel
theorem dX7_told_20 : decode cX7_told 20 = .ok (.ifCond .eq 7, 3) := by decide +kernel
theorem dX7_told_23 : decode cX7_told 23 = .ok (.iconst 1, 1) := by decide +kernel
theorem dX7_told_24 : decode cX7_told 24 = .ok (.goto 4, 3) := by decide +kernel
theorem dX7_told_27 : decode cX7_told 27 = .ok (.iconst 0, 1) := by decide +kernel
theorem dX7_told_28 : decode cX7_told 28 = .ok (.ireturn, 1) := by decide +kernel
theorem dX7_track_0 : decode cX7_track 0 = .ok (.aload_n 0, 1) := by decide +kernel
theorem dX7_track_1 : decode cX7_track 1 = .ok (.iconst 0, 1) := by decide +kernel
theorem dX7_track_2 : decode cX7_track 2 = .ok (.putfield 76, 3) := by decide +kernel
theorem dX7_track_5 : decode cX7_track 5 = .ok (.aload_n 0, 1) := by decide +kernel
theorem dX7_track_6 : decode cX7_track 6 = .ok (.getfield 161, 3) := by decide +kernel
theorem dX7_track_9 : decode cX7_track 9 = .ok (.bipush 6, 2) := by decide +kernel
theorem dX7_track_11 : decode cX7_track 11 = .ok (.if_icmp .ne 6, 3) := by decide +kernel
theorem dX7_track_14 : decode cX7_track 14 = .ok (.bipush (-4), 2) := by decide +kernel
theorem dX7_track_16 : decode cX7_track 16 = .ok (.ireturn, 1) := by decide +kernel
theorem dX7_track_17 : decode cX7_track 17 = .ok (.aload_n 0, 1) := by decide +kernel
theorem dX7_track_18 : decode cX7_track 18 = .ok (.getfield 42, 3) := by decide +kernel
theorem dX7_track_21 : decode cX7_track 21 = .ok (.aload_n 0, 1) := by decide +kernel
theorem dX7_track_22 : decode cX7_track 22 = .ok (.getfield 161, 3) := by decide +kernel
theorem dX7_track_25 : decode cX7_track 25 = .ok (.iconst 0, 1) := by decide +kernel
theorem dX7_track_26 : decode cX7_track 26 = .ok (.iastore, 1) := by decide +kernel
theorem dX7_track_27 : decode cX7_track 27 = .ok (.aload_n 0, 1) := by decide +kernel
theorem dX7_track_28 : decode cX7_track 28 = .ok (.dup, 1) := by decide +kernel
theorem dX7_track_29 : decode cX7_track 29 = .ok (.getfield 161, 3) := by decide +kernel
theorem dX7_track_32 : decode cX7_track 32 = .ok (.iconst 1, 1) := by decide +kernel
theorem dX7_track_33 : decode cX7_track 33 = .ok (.iadd, 1) := by decide +kernel
theorem dX7_track_34 : decode cX7_track 34 = .ok (.putfield 161, 3) := by decide +kernel
theorem dX7_track_37 : decode cX7_track 37 = .ok (.aload_n 0, 1) := by decide +kernel
theorem dX7_track_38 : decode cX7_track 38 = .ok (.getfield 161, 3) := by decide +kernel
theorem dX7_track_41 : decode cX7_track 41 = .ok (.iconst 1, 1) := by decide +kernel
theorem dX7_track_42 : decode cX7_track 42 = .ok (.isub, 1) := by decide +kernel
theorem dX7_track_43 : decode cX7_track 43 = .ok (.ireturn, 1) := by decide +kernel
theorem dX7_isTrack_0 : decode cX7_isTrack 0 = .ok (.iload_n 1, 1) := by decide +kernel
theorem dX7_isTrack_1 : decode cX7_isTrack 1 = .ok (.ifCond .lt 15, 3) := by decide +kernel
theorem dX7_isTrack_4 : decode cX7_isTrack 4 = .ok (.iload_n 1, 1) := by decide +kernel
theorem dX7_isTrack_5 : decode cX7_isTrack 5 = .ok (.aload_n 0, 1) := by decide +kernel
theorem dX7_isTrack_6 : decode cX7_isTrack 6 = .ok (.getfield 161, 3) := by decide +kernel
theorem dX7_isTrack_9 : decode cX7_isTrack 9 = .ok (.if_icmp .ge 7, 3) := by decide +kernel
theorem dX7_isTrack_12 : decode cX7_isTrack 12 = .ok (.iconst 1, 1) := by decide +kernel
theorem dX7_isTrack_13 : decode cX7_isTrack 13 = .ok (.goto 4, 3) := by decide +kernel
theorem dX7_isTrack_16 : decode cX7_isTrack 16 = .ok (.iconst 0, 1) := by decide +kernel
theorem dX7_isTrack_17 : decode cX7_isTrack 17 = .ok (.ireturn, 1) := by decide +kernel
theorem dX7_place_0 : decode cX7_place 0 = .ok (.aload_n 0, 1) := by decide +kernel
theorem dX7_place_1 : decode cX7_place 1 = .ok (.iconst 0, 1) := by decide +kernel
theorem dX7_place_2 : decode cX7_place 2 = .ok (.putfield 76, 3) := by decide +kernel
theorem dX7_place_5 : decode cX7_place 5 = .ok (.aload_n 0, 1) := by decide +kernel
theorem dX7_place_6 : decode cX7_place 6 = .ok (.iload_n 1, 1) := by decide +kernel
theorem dX7_place_7 : decode cX7_place 7 = .ok (.invokevirtual 164, 3) := by decide +kernel
theorem dX7_place_10 : decode cX7_place 10 = .ok (.ifCond .eq 53, 3) := by decide +kernel
theorem dX7_place_13 : decode cX7_place 13 = .ok (.lload_n 2, 1) := by decide +kernel
theorem dX7_place_14 : decode cX7_place 14 = .ok (.lconst 0, 1) := by decide +kernel
theorem dX7_place_15 : decode cX7_place 15 = .ok (.ldc2_w 167, 3) := by decide +kernel
theorem dX7_place_18 : decode cX7_place 18 = .ok (.invokestatic 122, 3) := by decide +kernel
theorem dX7_place_21 : decode cX7_place 21 = .ok (.ifCond .eq 42, 3) := by decide +kernel
theorem dX7_place_24 : decode cX7_place 24 = .ok (.lload 4, 2) := by decide +kernel
theorem dX7_place_26 : decode cX7_place 26 = .ok (.ldc2_w 118, 3) := by decide +kernel
theorem dX7_place_29 : decode cX7_place 29 = .ok (.ldc2_w 120, 3) := by decide +kernel
theorem dX7_place_32 : decode cX7_place 32 = .ok (.invokestatic 122, 3) := by decide +kernel
theorem dX7_place_35 : decode cX7_place 35 = .ok (.ifCond .eq 28, 3) := by decide +kernel
theorem dX7_place_38 : decode cX7_place 38 = .ok (.lload 6, 2) := by decide +kernel
theorem dX7_place_40 : decode cX7_place 40 = .ok (.ldc2_w 118, 3) := by decide +kernel
theorem dX7_place_43 : decode cX7_place 43 = .ok (.ldc2_w 120, 3) := by decide +kernel
theorem dX7_place_46 : decode cX7_place 46 = .ok (.invokestatic 122, 3) := by decide +kernel
theorem dX7_place_49 : decode cX7_place 49 = .ok (.ifCond .eq 14, 3) := by decide +kernel
theorem dX7_place_52 : decode cX7_place 52 = .ok (.aload_n 0, 1) := by decide +kernel
theorem dX7_place_53 : decode cX7_place 53 = .ok (.getfield 42, 3) := by decide +kernel
theorem dX7_place_56 : decode cX7_place 56 = .ok (.iload_n 1, 1) := by decide +kernel
theorem dX7_place_57 : decode cX7_place 57 = .ok (.iaload, 1) := by decide +kernel
theorem dX7_place_58 : decode cX7_place 58 = .ok (.bipush 30, 2) := by decide +kernel
theorem dX7_place_60 : decode cX7_place 60 = .ok (.if_icmp .ne 5, 3) := by decide +kernel
theorem dX7_place_63 : decode cX7_place 63 = .ok (.iconst 0, 1) := by decide +kernel
theorem dX7_place_64 : decode cX7_place 64 = .ok (.ireturn, 1) := by decide +kernel
theorem dX7_place_65 : decode cX7_place 65 = .ok (.bipush 30, 2) := by decide +kernel
theorem dX7_place_67 : decode cX7_place 67 = .ok (.iload_n 1, 1) := by decide +kernel
theorem dX7_place_68 : decode cX7_place 68 = .ok (.imul, 1) := by decide +kernel
theorem dX7_place_69 : decode cX7_place 69 = .ok (.aload_n 0, 1) := by decide +kernel
theorem dX7_place_70 : decode cX7_place 70 = .ok (.getfield 42, 3) := by decide +kernel
theorem dX7_place_73 : decode cX7_place 73 = .ok (.iload_n 1, 1) := by decide +kernel
theorem dX7_place_74 : decode cX7_place 74 = .ok (.iaload, 1) := by decide +kernel
theorem dX7_place_75 : decode cX7_place 75 = .ok (.iadd, 1) := by decide +kernel
theorem dX7_place_76 : decode cX7_place 76 = .ok (.istore 8, 2) := by decide +kernel
theorem dX7_place_78 : decode cX7_place 78 = .ok (.aload_n 0, 1) := by decide +kernel
theorem dX7_place_79 : decode cX7_place 79 = .ok (.getfield 42, 3) := by decide +kernel
theorem dX7_place_82 : decode cX7_place 82 = .ok (.iload_n 1, 1) := by decide +kernel
theorem dX7_place_83 : decode cX7_place 83 = .ok (.iaload, 1) := by decide +kernel
theorem dX7_place_84 : decode cX7_place 84 = .ok (.ifCond .le 19, 3) := by decide +kernel
theorem dX7_place_87 : decode cX7_place 87 = .ok (.aload_n 0, 1) := by decide +kernel
theorem dX7_place_88 : decode cX7_place 88 = .ok (.getfield 45, 3) := by decide +kernel
theorem dX7_place_91 : decode cX7_place 91 = .ok (.iload 8, 2) := by decide +kernel
theorem dX7_place_93 : decode cX7_place 93 = .ok (.iconst 1, 1) := by decide +kernel
theorem dX7_place_94 : decode cX7_place 94 = .ok (.isub, 1) := by decide +kernel
theorem dX7_place_95 : decode cX7_place 95 = .ok (.laload, 1) := by decide +kernel
theorem dX7_place_96 : decode cX7_place 96 = .ok (.lload_n 2, 1) := by decide +kernel
theorem dX7_place_97 : decode cX7_place 97 = .ok (.lcmp, 1) := by decide +kernel
theorem dX7_place_98 : decode cX7_place 98 = .ok (.ifCond .lt 5, 3) := by decide +kernel
theorem dX7_place_101 : decode cX7_place 101 = .ok (.iconst 0, 1) := by decide +kernel
theorem dX7_place_102 : decode cX7_place 102 = .ok (.ireturn, 1) := by decide +kernel
theorem dX7_place_103 : decode cX7_place 103 = .ok (.aload_n 0, 1) := by decide +kernel
theorem dX7_place_104 : decode cX7_place 104 = .ok (.getfield 45, 3) := by decide +kernel
theorem dX7_place_107 : decode cX7_place 107 = .ok (.iload 8, 2) := by decide +kernel
theorem dX7_place_109 : decode cX7_place 109 = .ok (.lload_n 2, 1) := by decide +kernel
theorem dX7_place_110 : decode cX7_place 110 = .ok (.lastore, 1) := by decide +kernel
theorem dX7_place_111 : decode cX7_place 111 = .ok (.aload_n 0, 1) := by decide +kernel
theorem dX7_place_112 : decode cX7_place 112 = .ok (.getfield 48, 3) := by decide +kernel
theorem dX7_place_115 : decode cX7_place 115 = .ok (.iload 8, 2) := by decide +kernel
theorem dX7_place_117 : decode cX7_place 117 = .ok (.lload 4, 2) := by decide +kernel
theorem dX7_place_119 : decode cX7_place 119 = .ok (.lastore, 1) := by decide +kernel
theorem dX7_place_120 : decode cX7_place 120 = .ok (.aload_n 0, 1) := by decide +kernel
theorem dX7_place_121 : decode cX7_place 121 = .ok (.getfield 51, 3) := by decide +kernel
theorem dX7_place_124 : decode cX7_place 124 = .ok (.iload 8, 2) := by decide +kernel
theorem dX7_place_126 : decode cX7_place 126 = .ok (.lload 6, 2) := by decide +kernel
theorem dX7_place_128 : decode cX7_place 128 = .ok (.lastore, 1) := by decide +kernel
theorem dX7_place_129 : decode cX7_place 129 = .ok (.aload_n 0, 1) := by decide +kernel
theorem dX7_place_130 : decode cX7_place 130 = .ok (.getfield 42, 3) := by decide +kernel
theorem dX7_place_133 : decode cX7_place 133 = .ok (.iload_n 1, 1) := by decide +kernel
theorem dX7_place_134 : decode cX7_place 134 = .ok (.dup2, 1) := by decide +kernel
theorem dX7_place_135 : decode cX7_place 135 = .ok (.iaload, 1) := by decide +kernel
theorem dX7_place_136 : decode cX7_place 136 = .ok (.iconst 1, 1) := by decide +kernel
theorem dX7_place_137 : decode cX7_place 137 = .ok (.iadd, 1) := by decide +kernel
theorem dX7_place_138 : decode cX7_place 138 = .ok (.iastore, 1) := by decide +kernel
theorem dX7_place_139 : decode cX7_place 139 = .ok (.iconst 1, 1) := by decide +kernel
theorem dX7_place_140 : decode cX7_place 140 = .ok (.ireturn, 1) := by decide +kernel
theorem dX7_lasts_0 : decode cX7_lasts 0 = .ok (.aload_n 0, 1) := by decide +kernel
theorem dX7_lasts_1 : decode cX7_lasts 1 = .ok (.getfield 45, 3) := by decide +kernel
theorem dX7_lasts_4 : decode cX7_lasts 4 = .ok (.iload_n 1, 1) := by decide +kernel
theorem dX7_lasts_5 : decode cX7_lasts 5 = .ok (.iconst 1, 1) := by decide +kernel
theorem dX7_lasts_6 : decode cX7_lasts 6 = .ok (.iadd, 1) := by decide +kernel
theorem dX7_lasts_7 : decode cX7_lasts 7 = .ok (.laload, 1) := by decide +kernel
theorem dX7_lasts_8 : decode cX7_lasts 8 = .ok (.aload_n 0, 1) := by decide +kernel
theorem dX7_lasts_9 : decode cX7_lasts 9 = .ok (.getfield 45, 3) := by decide +kernel
theorem dX7_lasts_12 : decode cX7_lasts 12 = .ok (.iload_n 1, 1) := by decide +kernel
theorem dX7_lasts_13 : decode cX7_lasts 13 = .ok (.laload, 1) := by decide +kernel
theorem dX7_lasts_14 : decode cX7_lasts 14 = .ok (.lsub, 1) := by decide +kernel
theorem dX7_lasts_15 : decode cX7_lasts 15 = .ok (.lreturn, 1) := by decide +kernel
theorem dX7_isGap_0 : decode cX7_isGap 0 = .ok (.aload_n 0, 1) := by decide +kernel
theorem dX7_isGap_1 : decode cX7_isGap 1 = .ok (.iload_n 1, 1) := by decide +kernel
theorem dX7_isGap_2 : decode cX7_isGap 2 = .ok (.invokevirtual 169, 3) := by decide +kernel
theorem dX7_isGap_5 : decode cX7_isGap 5 = .ok (.ldc2_w 173, 3) := by decide +kernel
theorem dX7_isGap_8 : decode cX7_isGap 8 = .ok (.lcmp, 1) := by decide +kernel
theorem dX7_isGap_9 : decode cX7_isGap 9 = .ok (.ifCond .le 7, 3) := by decide +kernel
theorem dX7_isGap_12 : decode cX7_isGap 12 = .ok (.iconst 1, 1) := by decide +kernel
theorem dX7_isGap_13 : decode cX7_isGap 13 = .ok (.goto 4, 3) := by decide +kernel
theorem dX7_isGap_16 : decode cX7_isGap 16 = .ok (.iconst 0, 1) := by decide +kernel
theorem dX7_isGap_17 : decode cX7_isGap 17 = .ok (.ireturn, 1) := by decide +kernel
theorem dX7_counts_0 : decode cX7_counts 0 = .ok (.aload_n 0, 1) := by decide +kernel
theorem dX7_counts_1 : decode cX7_counts 1 = .ok (.iload_n 2, 1) := by decide +kernel
theorem dX7_counts_2 : decode cX7_counts 2 = .ok (.invokevirtual 137, 3) := by decide +kernel
theorem dX7_counts_5 : decode cX7_counts 5 = .ok (.ifCond .eq 30, 3) := by decide +kernel
theorem dX7_counts_8 : decode cX7_counts 8 = .ok (.aload_n 0, 1) := by decide +kernel
theorem dX7_counts_9 : decode cX7_counts 9 = .ok (.iload_n 1, 1) := by decide +kernel
theorem dX7_counts_10 : decode cX7_counts 10 = .ok (.invokevirtual 175, 3) := by decide +kernel
theorem dX7_counts_13 : decode cX7_counts 13 = .ok (.ifCond .ne 22, 3) := by decide +kernel
theorem dX7_counts_16 : decode cX7_counts 16 = .ok (.aload_n 0, 1) := by decide +kernel
theorem dX7_counts_17 : decode cX7_counts 17 = .ok (.iload_n 2, 1) := by decide +kernel
theorem dX7_counts_18 : decode cX7_counts 18 = .ok (.iload_n 3, 1) := by decide +kernel
theorem dX7_counts_19 : decode cX7_counts 19 = .ok (.aload_n 0, 1) := by decide +kernel
theorem dX7_counts_20 : decode cX7_counts 20 = .ok (.getfield 45, 3) := by decide +kernel
theorem dX7_counts_23 : decode cX7_counts 23 = .ok (.iload_n 1, 1) := by decide +kernel
theorem dX7_counts_24 : decode cX7_counts 24 = .ok (.laload, 1) := by decide +kernel
theorem dX7_counts_25 : decode cX7_counts 25 = .ok (.ldc2_w 178, 3) := by decide +kernel
theorem dX7_counts_28 : decode cX7_counts 28 = .ok (.ldiv, 1) := by decide +kernel
theorem dX7_counts_29 : decode cX7_counts 29 = .ok (.invokevirtual 157, 3) := by decide +kernel
theorem dX7_counts_32 : decode cX7_counts 32 = .ok (.ifCond .ne 5, 3) := by decide +kernel
theorem dX7_counts_35 : decode cX7_counts 35 = .ok (.iconst 0, 1) := by decide +kernel
theorem dX7_counts_36 : decode cX7_counts 36 = .ok (.ireturn, 1) := by decide +kernel
theorem dX7_counts_37 : decode cX7_counts 37 = .ok (.aload_n 0, 1) := by decide +kernel
theorem dX7_counts_38 : decode cX7_counts 38 = .ok (.getfield 48, 3) := by decide +kernel
theorem dX7_counts_41 : decode cX7_counts 41 = .ok (.iload_n 1, 1) := by decide +kernel
theorem dX7_counts_42 : decode cX7_counts 42 = .ok (.iconst 1, 1) := by decide +kernel
theorem dX7_counts_43 : decode cX7_counts 43 = .ok (.iadd, 1) := by decide +kernel
theorem dX7_counts_44 : decode cX7_counts 44 = .ok (.laload, 1) := by decide +kernel
theorem dX7_counts_45 : decode cX7_counts 45 = .ok (.aload_n 0, 1) := by decide +kernel
theorem dX7_counts_46 : decode cX7_counts 46 = .ok (.getfield 48, 3) := by decide +kernel
theorem dX7_counts_49 : decode cX7_counts 49 = .ok (.iload_n 1, 1) := by decide +kernel
theorem dX7_counts_50 : decode cX7_counts 50 = .ok (.laload, 1) := by decide +kernel
theorem dX7_counts_51 : decode cX7_counts 51 = .ok (.lsub, 1) := by decide +kernel
theorem dX7_counts_52 : decode cX7_counts 52 = .ok (.lstore 4, 2) := by decide +kernel
theorem dX7_counts_54 : decode cX7_counts 54 = .ok (.aload_n 0, 1) := by decide +kernel
theorem dX7_counts_55 : decode cX7_counts 55 = .ok (.getfield 51, 3) := by decide +kernel
theorem dX7_counts_58 : decode cX7_counts 58 = .ok (.iload_n 1, 1) := by decide +kernel
theorem dX7_counts_59 : decode cX7_counts 59 = .ok (.iconst 1, 1) := by decide +kernel
theorem dX7_counts_60 : decode cX7_counts 60 = .ok (.iadd, 1) := by decide +kernel
theorem dX7_counts_61 : decode cX7_counts 61 = .ok (.laload, 1) := by decide +kernel
theorem dX7_counts_62 : decode cX7_counts 62 = .ok (.aload_n 0, 1) := by decide +kernel
theorem dX7_counts_63 : decode cX7_counts 63 = .ok (.getfield 51, 3) := by decide +kernel
theorem dX7_counts_66 : decode cX7_counts 66 = .ok (.iload_n 1, 1) := by decide +kernel
theorem dX7_counts_67 : decode cX7_counts 67 = .ok (.laload, 1) := by decide +kernel
theorem dX7_counts_68 : decode cX7_counts 68 = .ok (.lsub, 1) := by decide +kernel
theorem dX7_counts_69 : decode cX7_counts 69 = .ok (.lstore 6, 2) := by decide +kernel
theorem dX7_counts_71 : decode cX7_counts 71 = .ok (.lload 4, 2) := by decide +kernel
theorem dX7_counts_73 : decode cX7_counts 73 = .ok (.lload 4, 2) := by decide +kernel
theorem dX7_counts_75 : decode cX7_counts 75 = .ok (.lmul, 1) := by decide +kernel
theorem dX7_counts_76 : decode cX7_counts 76 = .ok (.lload 6, 2) := by decide +kernel
theorem dX7_counts_78 : decode cX7_counts 78 = .ok (.lload 6, 2) := by decide +kernel
theorem dX7_counts_80 : decode cX7_counts 80 = .ok (.lmul, 1) := by decide +kernel
theorem dX7_counts_81 : decode cX7_counts 81 = .ok (.ladd, 1) := by decide +kernel
theorem dX7_counts_82 : decode cX7_counts 82 = .ok (.ldc2_w 173, 3) := by decide +kernel
theorem dX7_counts_85 : decode cX7_counts 85 = .ok (.lmul, 1) := by decide +kernel
theorem dX7_counts_86 : decode cX7_counts 86 = .ok (.ldc2_w 173, 3) := by decide +kernel
theorem dX7_counts_89 : decode cX7_counts 89 = .ok (.lmul, 1) := by decide +kernel
theorem dX7_counts_90 : decode cX7_counts 90 = .ok (.lstore 8, 2) := by decide +kernel
theorem dX7_counts_92 : decode cX7_counts 92 = .ok (.aload_n 0, 1) := by decide +kernel
theorem dX7_counts_93 : decode cX7_counts 93 = .ok (.getfield 27, 3) := by decide +kernel
theorem dX7_counts_96 : decode cX7_counts 96 = .ok (.iload_n 2, 1) := by decide +kernel
theorem dX7_counts_97 : decode cX7_counts 97 = .ok (.laload, 1) := by decide +kernel
theorem dX7_counts_98 : decode cX7_counts 98 = .ok (.aload_n 0, 1) := by decide +kernel
theorem dX7_counts_99 : decode cX7_counts 99 = .ok (.iload_n 1, 1) := by decide +kernel
theorem dX7_counts_100 : decode cX7_counts 100 = .ok (.invokevirtual 169, 3) := by decide +kernel
theorem dX7_counts_103 : decode cX7_counts 103 = .ok (.lmul, 1) := by decide +kernel
theorem dX7_counts_104 : decode cX7_counts 104 = .ok (.lstore 10, 2) := by decide +kernel
theorem dX7_counts_106 : decode cX7_counts 106 = .ok (.aload_n 0, 1) := by decide +kernel
theorem dX7_counts_107 : decode cX7_counts 107 = .ok (.getfield 27, 3) := by decide +kernel
theorem dX7_counts_110 : decode cX7_counts 110 = .ok (.iload_n 2, 1) := by decide +kernel
theorem dX7_counts_111 : decode cX7_counts 111 = .ok (.laload, 1) := by decide +kernel
theorem dX7_counts_112 : decode cX7_counts 112 = .ok (.lconst 0, 1) := by decide +kernel
theorem dX7_counts_113 : decode cX7_counts 113 = .ok (.lcmp, 1) := by decide +kernel
theorem dX7_counts_114 : decode cX7_counts 114 = .ok (.ifCond .eq 14, 3) := by decide +kernel
theorem dX7_counts_117 : decode cX7_counts 117 = .ok (.lload 8, 2) := by decide +kernel
theorem dX7_counts_119 : decode cX7_counts 119 = .ok (.lload 10, 2) := by decide +kernel
theorem dX7_counts_121 : decode cX7_counts 121 = .ok (.lload 10, 2) := by decide +kernel
theorem dX7_counts_123 : decode cX7_counts 123 = .ok (.lmul, 1) := by decide +kernel
theorem dX7_counts_124 : decode cX7_counts 124 = .ok (.lcmp, 1) := by decide +kernel
theorem dX7_counts_125 : decode cX7_counts 125 = .ok (.ifCond .ge 7, 3) := by decide +kernel
theorem dX7_counts_128 : decode cX7_counts 128 = .ok (.iconst 1, 1) := by decide +kernel
theorem dX7_counts_129 : decode cX7_counts 129 = .ok (.goto 4, 3) := by decide +kernel
theorem dX7_counts_132 : decode cX7_counts 132 = .ok (.iconst 0, 1) := by decide +kernel
theorem dX7_counts_133 : decode cX7_counts 133 = .ok (.ireturn, 1) := by decide +kernel
theorem dX7_cut_0 : decode cX7_cut 0 = .ok (.lload_n 3, 1) := by decide +kernel
theorem dX7_cut_1 : decode cX7_cut 1 = .ok (.lconst 0, 1) := by decide +kernel
theorem dX7_cut_2 : decode cX7_cut 2 = .ok (.lcmp, 1) := by decide +kernel
theorem dX7_cut_3 : decode cX7_cut 3 = .ok (.ifCond .ge 8, 3) := by decide +kernel
theorem dX7_cut_6 : decode cX7_cut 6 = .ok (.lload_n 1, 1) := by decide +kernel
theorem dX7_cut_7 : decode cX7_cut 7 = .ok (.lneg, 1) := by decide +kernel
theorem dX7_cut_8 : decode cX7_cut 8 = .ok (.goto 4, 3) := by decide +kernel
theorem dX7_cut_11 : decode cX7_cut 11 = .ok (.lload_n 1, 1) := by decide +kernel
theorem dX7_cut_12 : decode cX7_cut 12 = .ok (.lstore 5, 2) := by decide +kernel
theorem dX7_cut_14 : decode cX7_cut 14 = .ok (.lload_n 3, 1) := by decide +kernel
theorem dX7_cut_15 : decode cX7_cut 15 = .ok (.lconst 0, 1) := by decide +kernel
theorem dX7_cut_16 : decode cX7_cut 16 = .ok (.lcmp, 1) := by decide +kernel
theorem dX7_cut_17 : decode cX7_cut 17 = .ok (.ifCond .ge 8, 3) := by decide +kernel
theorem dX7_cut_20 : decode cX7_cut 20 = .ok (.lload_n 3, 1) := by decide +kernel
theorem dX7_cut_21 : decode cX7_cut 21 = .ok (.lneg, 1) := by decide +kernel
theorem dX7_cut_22 : decode cX7_cut 22 = .ok (.goto 4, 3) := by decide +kernel
theorem dX7_cut_25 : decode cX7_cut 25 = .ok (.lload_n 3, 1) := by decide +kernel
theorem dX7_cut_26 : decode cX7_cut 26 = .ok (.lstore 7, 2) := by decide +kernel
theorem dX7_cut_28 : decode cX7_cut 28 = .ok (.lload 5, 2) := by decide +kernel
theorem dX7_cut_30 : decode cX7_cut 30 = .ok (.lconst 0, 1) := by decide +kernel
theorem dX7_cut_31 : decode cX7_cut 31 = .ok (.lcmp, 1) := by decide +kernel
theorem dX7_cut_32 : decode cX7_cut 32 = .ok (.ifCond .lt 11, 3) := by decide +kernel
theorem dX7_cut_35 : decode cX7_cut 35 = .ok (.lload 5, 2) := by decide +kernel
theorem dX7_cut_37 : decode cX7_cut 37 = .ok (.lload 7, 2) := by decide +kernel
theorem dX7_cut_39 : decode cX7_cut 39 = .ok (.lcmp, 1) := by decide +kernel
theorem dX7_cut_40 : decode cX7_cut 40 = .ok (.ifCond .le 4, 3) := by decide +kernel
theorem dX7_cut_43 : decode cX7_cut 43 = .ok (.return_, 1) := by decide +kernel
theorem dX7_cut_44 : decode cX7_cut 44 = .ok (.lload 5, 2) := by decide +kernel
theorem dX7_cut_46 : decode cX7_cut 46 = .ok (.lload 7, 2) := by decide +kernel
theorem dX7_cut_48 : decode cX7_cut 48 = .ok (.invokestatic 180, 3) := by decide +kernel
theorem dX7_cut_51 : decode cX7_cut 51 = .ok (.lstore 9, 2) := by decide +kernel
theorem dX7_cut_53 : decode cX7_cut 53 = .ok (.lload 5, 2) := by decide +kernel
theorem dX7_cut_55 : decode cX7_cut 55 = .ok (.lload 9, 2) := by decide +kernel
theorem dX7_cut_57 : decode cX7_cut 57 = .ok (.ldiv, 1) := by decide +kernel
theorem dX7_cut_58 : decode cX7_cut 58 = .ok (.lstore 5, 2) := by decide +kernel
theorem dX7_cut_60 : decode cX7_cut 60 = .ok (.lload 7, 2) := by decide +kernel
theorem dX7_cut_62 : decode cX7_cut 62 = .ok (.lload 9, 2) := by decide +kernel
theorem dX7_cut_64 : decode cX7_cut 64 = .ok (.ldiv, 1) := by decide +kernel
theorem dX7_cut_65 : decode cX7_cut 65 = .ok (.lstore 7, 2) := by decide +kernel
theorem dX7_cut_67 : decode cX7_cut 67 = .ok (.aload_n 0, 1) := by decide +kernel
theorem dX7_cut_68 : decode cX7_cut 68 = .ok (.getfield 183, 3) := by decide +kernel
theorem dX7_cut_71 : decode cX7_cut 71 = .ok (.istore 11, 2) := by decide +kernel
theorem dX7_cut_73 : decode cX7_cut 73 = .ok (.iload 11, 2) := by decide +kernel
theorem dX7_cut_75 : decode cX7_cut 75 = .ok (.ifCond .le 37, 3) := by decide +kernel
theorem dX7_cut_78 : decode cX7_cut 78 = .ok (.aload_n 0, 1) := by decide +kernel
theorem dX7_cut_79 : decode cX7_cut 79 = .ok (.getfield 60, 3) := by decide +kernel
theorem dX7_cut_82 : decode cX7_cut 82 = .ok (.iload 11, 2) := by decide +kernel
theorem dX7_cut_84 : decode cX7_cut 84 = .ok (.iconst 1, 1) := by decide +kernel
theorem dX7_cut_85 : decode cX7_cut 85 = .ok (.isub, 1) := by decide +kernel
theorem dX7_cut_86 : decode cX7_cut 86 = .ok (.laload, 1) := by decide +kernel
theorem dX7_cut_87 : decode cX7_cut 87 = .ok (.lload 7, 2) := by decide +kernel
theorem dX7_cut_89 : decode cX7_cut 89 = .ok (.lmul, 1) := by decide +kernel
theorem dX7_cut_90 : decode cX7_cut 90 = .ok (.lload 5, 2) := by decide +kernel
theorem dX7_cut_92 : decode cX7_cut 92 = .ok (.aload_n 0, 1) := by decide +kernel
theorem dX7_cut_93 : decode cX7_cut 93 = .ok (.getfield 63, 3) := by decide +kernel
theorem dX7_cut_96 : decode cX7_cut 96 = .ok (.iload 11, 2) := by decide +kernel
theorem dX7_cut_98 : decode cX7_cut 98 = .ok (.iconst 1, 1) := by decide +kernel
theorem dX7_cut_99 : decode cX7_cut 99 = .ok (.isub, 1) := by decide +kernel
theorem dX7_cut_100 : decode cX7_cut 100 = .ok (.laload, 1) := by decide +kernel
theorem dX7_cut_101 : decode cX7_cut 101 = .ok (.lmul, 1) := by decide +kernel
theorem dX7_cut_102 : decode cX7_cut 102 = .ok (.lcmp, 1) := by decide +kernel
theorem dX7_cut_103 : decode cX7_cut 103 = .ok (.ifCond .le 9, 3) := by decide +kernel
theorem dX7_cut_106 : decode cX7_cut 106 = .ok (.iinc 11 (-1), 3) := by decide +kernel
theorem dX7_cut_109 : decode cX7_cut 109 = .ok (.goto (-36), 3) := by decide +kernel
theorem dX7_cut_112 : decode cX7_cut 112 = .ok (.iload 11, 2) := by decide +kernel
theorem dX7_cut_114 : decode cX7_cut 114 = .ok (.ifCond .le 34, 3) := by decide +kernel
theorem dX7_cut_117 : decode cX7_cut 117 = .ok (.aload_n 0, 1) := by decide +kernel
theorem dX7_cut_118 : decode cX7_cut 118 = .ok (.getfield 60, 3) := by decide +kernel
theorem dX7_cut_121 : decode cX7_cut 121 = .ok (.iload 11, 2) := by decide +kernel
theorem dX7_cut_123 : decode cX7_cut 123 = .ok (.iconst 1, 1) := by decide +kernel
theorem dX7_cut_124 : decode cX7_cut 124 = .ok (.isub, 1) := by decide +kernel
theorem dX7_cut_125 : decode cX7_cut 125 = .ok (.laload, 1) := by decide +kernel
theorem dX7_cut_126 : decode cX7_cut 126 = .ok (.lload 5, 2) := by decide +kernel
theorem dX7_cut_128 : decode cX7_cut 128 = .ok (.lcmp, 1) := by decide +kernel
theorem dX7_cut_129 : decode cX7_cut 129 = .ok (.ifCond .ne 19, 3) := by decide +kernel
theorem dX7_cut_132 : decode cX7_cut 132 = .ok (.aload_n 0, 1) := by decide +kernel
theorem dX7_cut_133 : decode cX7_cut 133 = .ok (.getfield 63, 3) := by decide +kernel
theorem dX7_cut_136 : decode cX7_cut 136 = .ok (.iload 11, 2) := by decide +kernel
theorem dX7_cut_138 : decode cX7_cut 138 = .ok (.iconst 1, 1) := by decide +kernel
theorem dX7_cut_139 : decode cX7_cut 139 = .ok (.isub, 1) := by decide +kernel
theorem dX7_cut_140 : decode cX7_cut 140 = .ok (.laload, 1) := by decide +kernel
theorem dX7_cut_141 : decode cX7_cut 141 = .ok (.lload 7, 2) := by decide +kernel
theorem dX7_cut_143 : decode cX7_cut 143 = .ok (.lcmp, 1) := by decide +kernel
theorem dX7_cut_144 : decode cX7_cut 144 = .ok (.ifCond .ne 4, 3) := by decide +kernel
theorem dX7_cut_147 : decode cX7_cut 147 = .ok (.return_, 1) := by decide +kernel
theorem dX7_cut_148 : decode cX7_cut 148 = .ok (.aload_n 0, 1) := by decide +kernel
theorem dX7_cut_149 : decode cX7_cut 149 = .ok (.getfield 183, 3) := by decide +kernel
theorem dX7_cut_152 : decode cX7_cut 152 = .ok (.istore 12, 2) := by decide +kernel
theorem dX7_cut_154 : decode cX7_cut 154 = .ok (.iload 12, 2) := by decide +kernel
theorem dX7_cut_156 : decode cX7_cut 156 = .ok (.iload 11, 2) := by decide +kernel
theorem dX7_cut_158 : decode cX7_cut 158 = .ok (.if_icmp .le 41, 3) := by decide +kernel
theorem dX7_cut_161 : decode cX7_cut 161 = .ok (.aload_n 0, 1) := by decide +kernel
theorem dX7_cut_162 : decode cX7_cut 162 = .ok (.getfield 60, 3) := by decide +kernel
theorem dX7_cut_165 : decode cX7_cut 165 = .ok (.iload 12, 2) := by decide +kernel
theorem dX7_cut_167 : decode cX7_cut 167 = .ok (.aload_n 0, 1) := by decide +kernel
theorem dX7_cut_168 : decode cX7_cut 168 = .ok (.getfield 60, 3) := by decide +kernel
theorem dX7_cut_171 : decode cX7_cut 171 = .ok (.iload 12, 2) := by decide +kernel
theorem dX7_cut_173 : decode cX7_cut 173 = .ok (.iconst 1, 1) := by decide +kernel
theorem dX7_cut_174 : decode cX7_cut 174 = .ok (.isub, 1) := by decide +kernel
theorem dX7_cut_175 : decode cX7_cut 175 = .ok (.laload, 1) := by decide +kernel
theorem dX7_cut_176 : decode cX7_cut 176 = .ok (.lastore, 1) := by decide +kernel
theorem dX7_cut_177 : decode cX7_cut 177 = .ok (.aload_n 0, 1) := by decide +kernel
theorem dX7_cut_178 : decode cX7_cut 178 = .ok (.getfield 63, 3) := by decide +kernel
theorem dX7_cut_181 : decode cX7_cut 181 = .ok (.iload 12, 2) := by decide +kernel
theorem dX7_cut_183 : decode cX7_cut 183 = .ok (.aload_n 0, 1) := by decide +kernel
theorem dX7_cut_184 : decode cX7_cut 184 = .ok (.getfield 63, 3) := by decide +kernel
theorem dX7_cut_187 : decode cX7_cut 187 = .ok (.iload 12, 2) := by decide +kernel
theorem dX7_cut_189 : decode cX7_cut 189 = .ok (.iconst 1, 1) := by decide +kernel
theorem dX7_cut_190 : decode cX7_cut 190 = .ok (.isub, 1) := by decide +kernel
theorem dX7_cut_191 : decode cX7_cut 191 = .ok (.laload, 1) := by decide +kernel
theorem dX7_cut_192 : decode cX7_cut 192 = .ok (.lastore, 1) := by decide +kernel
theorem dX7_cut_193 : decode cX7_cut 193 = .ok (.iinc 12 (-1), 3) := by decide +kernel
theorem dX7_cut_196 : decode cX7_cut 196 = .ok (.goto (-42), 3) := by decide +kernel
theorem dX7_cut_199 : decode cX7_cut 199 = .ok (.aload_n 0, 1) := by decide +kernel
theorem dX7_cut_200 : decode cX7_cut 200 = .ok (.getfield 60, 3) := by decide +kernel
theorem dX7_cut_203 : decode cX7_cut 203 = .ok (.iload 11, 2) := by decide +kernel
theorem dX7_cut_205 : decode cX7_cut 205 = .ok (.lload 5, 2) := by decide +kernel
theorem dX7_cut_207 : decode cX7_cut 207 = .ok (.lastore, 1) := by decide +kernel
theorem dX7_cut_208 : decode cX7_cut 208 = .ok (.aload_n 0, 1) := by decide +kernel
theorem dX7_cut_209 : decode cX7_cut 209 = .ok (.getfield 63, 3) := by decide +kernel
theorem dX7_cut_212 : decode cX7_cut 212 = .ok (.iload 11, 2) := by decide +kernel
theorem dX7_cut_214 : decode cX7_cut 214 = .ok (.lload 7, 2) := by decide +kernel
theorem dX7_cut_216 : decode cX7_cut 216 = .ok (.lastore, 1) := by decide +kernel
theorem dX7_cut_217 : decode cX7_cut 217 = .ok (.aload_n 0, 1) := by decide +kernel
theorem dX7_cut_218 : decode cX7_cut 218 = .ok (.dup, 1) := by decide +kernel
theorem dX7_cut_219 : decode cX7_cut 219 = .ok (.getfield 183, 3) := by decide +kernel
theorem dX7_cut_222 : decode cX7_cut 222 = .ok (.iconst 1, 1) := by decide +kernel
theorem dX7_cut_223 : decode cX7_cut 223 = .ok (.iadd, 1) := by decide +kernel
theorem dX7_cut_224 : decode cX7_cut 224 = .ok (.putfield 183, 3) := by decide +kernel
theorem dX7_cut_227 : decode cX7_cut 227 = .ok (.return_, 1) := by decide +kernel
theorem dX7_cutAt_0 : decode cX7_cutAt 0 = .ok (.aload_n 0, 1) := by decide +kernel
theorem dX7_cutAt_1 : decode cX7_cutAt 1 = .ok (.getfield 48, 3) := by decide +kernel
theorem dX7_cutAt_4 : decode cX7_cutAt 4 = .ok (.iload_n 1, 1) := by decide +kernel
theorem dX7_cutAt_5 : decode cX7_cutAt 5 = .ok (.iconst 1, 1) := by decide +kernel
theorem dX7_cutAt_6 : decode cX7_cutAt 6 = .ok (.iadd, 1) := by decide +kernel
theorem dX7_cutAt_7 : decode cX7_cutAt 7 = .ok (.laload, 1) := by decide +kernel
theorem dX7_cutAt_8 : decode cX7_cutAt 8 = .ok (.aload_n 0, 1) := by decide +kernel
theorem dX7_cutAt_9 : decode cX7_cutAt 9 = .ok (.getfield 48, 3) := by decide +kernel
theorem dX7_cutAt_12 : decode cX7_cutAt 12 = .ok (.iload_n 1, 1) := by decide +kernel
theorem dX7_cutAt_13 : decode cX7_cutAt 13 = .ok (.laload, 1) := by decide +kernel
theorem dX7_cutAt_14 : decode cX7_cutAt 14 = .ok (.lsub, 1) := by decide +kernel
theorem dX7_cutAt_15 : decode cX7_cutAt 15 = .ok (.lstore 4, 2) := by decide +kernel
theorem dX7_cutAt_17 : decode cX7_cutAt 17 = .ok (.aload_n 0, 1) := by decide +kernel
theorem dX7_cutAt_18 : decode cX7_cutAt 18 = .ok (.getfield 51, 3) := by decide +kernel
theorem dX7_cutAt_21 : decode cX7_cutAt 21 = .ok (.iload_n 1, 1) := by decide +kernel
theorem dX7_cutAt_22 : decode cX7_cutAt 22 = .ok (.iconst 1, 1) := by decide +kernel
theorem dX7_cutAt_23 : decode cX7_cutAt 23 = .ok (.iadd, 1) := by decide +kernel
theorem dX7_cutAt_24 : decode cX7_cutAt 24 = .ok (.laload, 1) := by decide +kernel
theorem dX7_cutAt_25 : decode cX7_cutAt 25 = .ok (.aload_n 0, 1) := by decide +kernel
theorem dX7_cutAt_26 : decode cX7_cutAt 26 = .ok (.getfield 51, 3) := by decide +kernel
theorem dX7_cutAt_29 : decode cX7_cutAt 29 = .ok (.iload_n 1, 1) := by decide +kernel
theorem dX7_cutAt_30 : decode cX7_cutAt 30 = .ok (.laload, 1) := by decide +kernel
theorem dX7_cutAt_31 : decode cX7_cutAt 31 = .ok (.lsub, 1) := by decide +kernel
theorem dX7_cutAt_32 : decode cX7_cutAt 32 = .ok (.lstore 6, 2) := by decide +kernel
theorem dX7_cutAt_34 : decode cX7_cutAt 34 = .ok (.aload_n 0, 1) := by decide +kernel
theorem dX7_cutAt_35 : decode cX7_cutAt 35 = .ok (.getfield 7, 3) := by decide +kernel
theorem dX7_cutAt_38 : decode cX7_cutAt 38 = .ok (.iload_n 3, 1) := by decide +kernel
theorem dX7_cutAt_39 : decode cX7_cutAt 39 = .ok (.laload, 1) := by decide +kernel
theorem dX7_cutAt_40 : decode cX7_cutAt 40 = .ok (.aload_n 0, 1) := by decide +kernel
theorem dX7_cutAt_41 : decode cX7_cutAt 41 = .ok (.getfield 7, 3) := by decide +kernel
theorem dX7_cutAt_44 : decode cX7_cutAt 44 = .ok (.iload_n 2, 1) := by decide +kernel
theorem dX7_cutAt_45 : decode cX7_cutAt 45 = .ok (.laload, 1) := by decide +kernel
theorem dX7_cutAt_46 : decode cX7_cutAt 46 = .ok (.lsub, 1) := by decide +kernel
theorem dX7_cutAt_47 : decode cX7_cutAt 47 = .ok (.lstore 8, 2) := by decide +kernel
theorem dX7_cutAt_49 : decode cX7_cutAt 49 = .ok (.aload_n 0, 1) := by decide +kernel
theorem dX7_cutAt_50 : decode cX7_cutAt 50 = .ok (.getfield 13, 3) := by decide +kernel
theorem dX7_cutAt_53 : decode cX7_cutAt 53 = .ok (.iload_n 3, 1) := by decide +kernel
theorem dX7_cutAt_54 : decode cX7_cutAt 54 = .ok (.laload, 1) := by decide +kernel
theorem dX7_cutAt_55 : decode cX7_cutAt 55 = .ok (.aload_n 0, 1) := by decide +kernel
theorem dX7_cutAt_56 : decode cX7_cutAt 56 = .ok (.getfield 13, 3) := by decide +kernel
theorem dX7_cutAt_59 : decode cX7_cutAt 59 = .ok (.iload_n 2, 1) := by decide +kernel
theorem dX7_cutAt_60 : decode cX7_cutAt 60 = .ok (.laload, 1) := by decide +kernel
theorem dX7_cutAt_61 : decode cX7_cutAt 61 = .ok (.lsub, 1) := by decide +kernel
theorem dX7_cutAt_62 : decode cX7_cutAt 62 = .ok (.lstore 10, 2) := by decide +kernel
theorem dX7_cutAt_64 : decode cX7_cutAt 64 = .ok (.aload_n 0, 1) := by decide +kernel
theorem dX7_cutAt_65 : decode cX7_cutAt 65 = .ok (.getfield 7, 3) := by decide +kernel
theorem dX7_cutAt_68 : decode cX7_cutAt 68 = .ok (.iload_n 2, 1) := by decide +kernel
theorem dX7_cutAt_69 : decode cX7_cutAt 69 = .ok (.laload, 1) := by decide +kernel
theorem dX7_cutAt_70 : decode cX7_cutAt 70 = .ok (.aload_n 0, 1) := by decide +kernel
theorem dX7_cutAt_71 : decode cX7_cutAt 71 = .ok (.getfield 48, 3) := by decide +kernel
theorem dX7_cutAt_74 : decode cX7_cutAt 74 = .ok (.iload_n 1, 1) := by decide +kernel
theorem dX7_cutAt_75 : decode cX7_cutAt 75 = .ok (.laload, 1) := by decide +kernel
theorem dX7_cutAt_76 : decode cX7_cutAt 76 = .ok (.lsub, 1) := by decide +kernel
theorem dX7_cutAt_77 : decode cX7_cutAt 77 = .ok (.lstore 12, 2) := by decide +kernel
theorem dX7_cutAt_79 : decode cX7_cutAt 79 = .ok (.aload_n 0, 1) := by decide +kernel
theorem dX7_cutAt_80 : decode cX7_cutAt 80 = .ok (.getfield 13, 3) := by decide +kernel
theorem dX7_cutAt_83 : decode cX7_cutAt 83 = .ok (.iload_n 2, 1) := by decide +kernel
theorem dX7_cutAt_84 : decode cX7_cutAt 84 = .ok (.laload, 1) := by decide +kernel
theorem dX7_cutAt_85 : decode cX7_cutAt 85 = .ok (.aload_n 0, 1) := by decide +kernel
theorem dX7_cutAt_86 : decode cX7_cutAt 86 = .ok (.getfield 51, 3) := by decide +kernel
theorem dX7_cutAt_89 : decode cX7_cutAt 89 = .ok (.iload_n 1, 1) := by decide +kernel
theorem dX7_cutAt_90 : decode cX7_cutAt 90 = .ok (.laload, 1) := by decide +kernel
theorem dX7_cutAt_91 : decode cX7_cutAt 91 = .ok (.lsub, 1) := by decide +kernel
theorem dX7_cutAt_92 : decode cX7_cutAt 92 = .ok (.lstore 14, 2) := by decide +kernel
theorem dX7_cutAt_94 : decode cX7_cutAt 94 = .ok (.lload 4, 2) := by decide +kernel
theorem dX7_cutAt_96 : decode cX7_cutAt 96 = .ok (.lload 10, 2) := by decide +kernel
theorem dX7_cutAt_98 : decode cX7_cutAt 98 = .ok (.lmul, 1) := by decide +kernel
theorem dX7_cutAt_99 : decode cX7_cutAt 99 = .ok (.lload 6, 2) := by decide +kernel
theorem dX7_cutAt_101 : decode cX7_cutAt 101 = .ok (.lload 8, 2) := by decide +kernel
theorem dX7_cutAt_103 : decode cX7_cutAt 103 = .ok (.lmul, 1) := by decide +kernel
theorem dX7_cutAt_104 : decode cX7_cutAt 104 = .ok (.lsub, 1) := by decide +kernel
theorem dX7_cutAt_105 : decode cX7_cutAt 105 = .ok (.lstore 16, 2) := by decide +kernel
theorem dX7_cutAt_107 : decode cX7_cutAt 107 = .ok (.lload 16, 2) := by decide +kernel
theorem dX7_cutAt_109 : decode cX7_cutAt 109 = .ok (.lconst 0, 1) := by decide +kernel
theorem dX7_cutAt_110 : decode cX7_cutAt 110 = .ok (.lcmp, 1) := by decide +kernel
theorem dX7_cutAt_111 : decode cX7_cutAt 111 = .ok (.ifCond .eq 93, 3) := by decide +kernel
theorem dX7_cutAt_114 : decode cX7_cutAt 114 = .ok (.lload 12, 2) := by decide +kernel
theorem dX7_cutAt_116 : decode cX7_cutAt 116 = .ok (.lload 6, 2) := by decide +kernel
theorem dX7_cutAt_118 : decode cX7_cutAt 118 = .ok (.lmul, 1) := by decide +kernel
theorem dX7_cutAt_119 : decode cX7_cutAt 119 = .ok (.lload 14, 2) := by decide +kernel
theorem dX7_cutAt_121 : decode cX7_cutAt 121 = .ok (.lload 4, 2) := by decide +kernel
theorem dX7_cutAt_123 : decode cX7_cutAt 123 = .ok (.lmul, 1) := by decide +kernel
theorem dX7_cutAt_124 : decode cX7_cutAt 124 = .ok (.lsub, 1) := by decide +kernel
theorem dX7_cutAt_125 : decode cX7_cutAt 125 = .ok (.lstore 18, 2) := by decide +kernel
theorem dX7_cutAt_127 : decode cX7_cutAt 127 = .ok (.lload 16, 2) := by decide +kernel
theorem dX7_cutAt_129 : decode cX7_cutAt 129 = .ok (.lconst 0, 1) := by decide +kernel
theorem dX7_cutAt_130 : decode cX7_cutAt 130 = .ok (.lcmp, 1) := by decide +kernel
theorem dX7_cutAt_131 : decode cX7_cutAt 131 = .ok (.ifCond .le 26, 3) := by decide +kernel
theorem dX7_cutAt_134 : decode cX7_cutAt 134 = .ok (.lload 18, 2) := by decide +kernel
theorem dX7_cutAt_136 : decode cX7_cutAt 136 = .ok (.lconst 0, 1) := by decide +kernel
theorem dX7_cutAt_137 : decode cX7_cutAt 137 = .ok (.lcmp, 1) := by decide +kernel
theorem dX7_cutAt_138 : decode cX7_cutAt 138 = .ok (.ifCond .lt 15, 3) := by decide +kernel
theorem dX7_cutAt_141 : decode cX7_cutAt 141 = .ok (.lload 18, 2) := by decide +kernel
theorem dX7_cutAt_143 : decode cX7_cutAt 143 = .ok (.lload 16, 2) := by decide +kernel
theorem dX7_cutAt_145 : decode cX7_cutAt 145 = .ok (.lcmp, 1) := by decide +kernel
theorem dX7_cutAt_146 : decode cX7_cutAt 146 = .ok (.ifCond .gt 7, 3) := by decide +kernel
theorem dX7_cutAt_149 : decode cX7_cutAt 149 = .ok (.iconst 1, 1) := by decide +kernel
theorem dX7_cutAt_150 : decode cX7_cutAt 150 = .ok (.goto 27, 3) := by decide +kernel
theorem dX7_cutAt_153 : decode cX7_cutAt 153 = .ok (.iconst 0, 1) := by decide +kernel
theorem dX7_cutAt_154 : decode cX7_cutAt 154 = .ok (.goto 23, 3) := by decide +kernel
theorem dX7_cutAt_157 : decode cX7_cutAt 157 = .ok (.lload 18, 2) := by decide +kernel
theorem dX7_cutAt_159 : decode cX7_cutAt 159 = .ok (.lconst 0, 1) := by decide +kernel
theorem dX7_cutAt_160 : decode cX7_cutAt 160 = .ok (.lcmp, 1) := by decide +kernel
theorem dX7_cutAt_161 : decode cX7_cutAt 161 = .ok (.ifCond .gt 15, 3) := by decide +kernel
theorem dX7_cutAt_164 : decode cX7_cutAt 164 = .ok (.lload 18, 2) := by decide +kernel
theorem dX7_cutAt_166 : decode cX7_cutAt 166 = .ok (.lload 16, 2) := by decide +kernel
theorem dX7_cutAt_168 : decode cX7_cutAt 168 = .ok (.lcmp, 1) := by decide +kernel
theorem dX7_cutAt_169 : decode cX7_cutAt 169 = .ok (.ifCond .lt 7, 3) := by decide +kernel
theorem dX7_cutAt_172 : decode cX7_cutAt 172 = .ok (.iconst 1, 1) := by decide +kernel
theorem dX7_cutAt_173 : decode cX7_cutAt 173 = .ok (.goto 4, 3) := by decide +kernel
theorem dX7_cutAt_176 : decode cX7_cutAt 176 = .ok (.iconst 0, 1) := by decide +kernel
theorem dX7_cutAt_177 : decode cX7_cutAt 177 = .ok (.istore 20, 2) := by decide +kernel
theorem dX7_cutAt_179 : decode cX7_cutAt 179 = .ok (.iload 20, 2) := by decide +kernel
theorem dX7_cutAt_181 : decode cX7_cutAt 181 = .ok (.ifCond .eq 20, 3) := by decide +kernel
theorem dX7_cutAt_184 : decode cX7_cutAt 184 = .ok (.aload_n 0, 1) := by decide +kernel
theorem dX7_cutAt_185 : decode cX7_cutAt 185 = .ok (.lload 12, 2) := by decide +kernel
theorem dX7_cutAt_187 : decode cX7_cutAt 187 = .ok (.lload 10, 2) := by decide +kernel
theorem dX7_cutAt_189 : decode cX7_cutAt 189 = .ok (.lmul, 1) := by decide +kernel
theorem dX7_cutAt_190 : decode cX7_cutAt 190 = .ok (.lload 14, 2) := by decide +kernel
theorem dX7_cutAt_192 : decode cX7_cutAt 192 = .ok (.lload 8, 2) := by decide +kernel
theorem dX7_cutAt_194 : decode cX7_cutAt 194 = .ok (.lmul, 1) := by decide +kernel
theorem dX7_cutAt_195 : decode cX7_cutAt 195 = .ok (.lsub, 1) := by decide +kernel
theorem dX7_cutAt_196 : decode cX7_cutAt 196 = .ok (.lload 16, 2) := by decide +kernel
theorem dX7_cutAt_198 : decode cX7_cutAt 198 = .ok (.invokevirtual 186, 3) := by decide +kernel
theorem dX7_cutAt_201 : decode cX7_cutAt 201 = .ok (.goto 86, 3) := by decide +kernel
theorem dX7_cutAt_204 : decode cX7_cutAt 204 = .ok (.lload 12, 2) := by decide +kernel
theorem dX7_cutAt_206 : decode cX7_cutAt 206 = .ok (.lload 6, 2) := by decide +kernel
theorem dX7_cutAt_208 : decode cX7_cutAt 208 = .ok (.lmul, 1) := by decide +kernel
theorem dX7_cutAt_209 : decode cX7_cutAt 209 = .ok (.lload 14, 2) := by decide +kernel
theorem dX7_cutAt_211 : decode cX7_cutAt 211 = .ok (.lload 4, 2) := by decide +kernel
theorem dX7_cutAt_213 : decode cX7_cutAt 213 = .ok (.lmul, 1) := by decide +kernel
theorem dX7_cutAt_214 : decode cX7_cutAt 214 = .ok (.lcmp, 1) := by decide +kernel
theorem dX7_cutAt_215 : decode cX7_cutAt 215 = .ok (.ifCond .ne 72, 3) := by decide +kernel
theorem dX7_cutAt_218 : decode cX7_cutAt 218 = .ok (.lload 4, 2) := by decide +kernel
theorem dX7_cutAt_220 : decode cX7_cutAt 220 = .ok (.lload 4, 2) := by decide +kernel
theorem dX7_cutAt_222 : decode cX7_cutAt 222 = .ok (.lmul, 1) := by decide +kernel
theorem dX7_cutAt_223 : decode cX7_cutAt 223 = .ok (.lload 6, 2) := by decide +kernel
theorem dX7_cutAt_225 : decode cX7_cutAt 225 = .ok (.lload 6, 2) := by decide +kernel
theorem dX7_cutAt_227 : decode cX7_cutAt 227 = .ok (.lmul, 1) := by decide +kernel
theorem dX7_cutAt_228 : decode cX7_cutAt 228 = .ok (.ladd, 1) := by decide +kernel
theorem dX7_cutAt_229 : decode cX7_cutAt 229 = .ok (.lconst 0, 1) := by decide +kernel
theorem dX7_cutAt_230 : decode cX7_cutAt 230 = .ok (.lcmp, 1) := by decide +kernel
theorem dX7_cutAt_231 : decode cX7_cutAt 231 = .ok (.ifCond .le 56, 3) := by decide +kernel
theorem dX7_cutAt_234 : decode cX7_cutAt 234 = .ok (.lload 4, 2) := by decide +kernel
theorem dX7_cutAt_236 : decode cX7_cutAt 236 = .ok (.lload 4, 2) := by decide +kernel
theorem dX7_cutAt_238 : decode cX7_cutAt 238 = .ok (.lmul, 1) := by decide +kernel
theorem dX7_cutAt_239 : decode cX7_cutAt 239 = .ok (.lload 6, 2) := by decide +kernel
theorem dX7_cutAt_241 : decode cX7_cutAt 241 = .ok (.lload 6, 2) := by decide +kernel
theorem dX7_cutAt_243 : decode cX7_cutAt 243 = .ok (.lmul, 1) := by decide +kernel
theorem dX7_cutAt_244 : decode cX7_cutAt 244 = .ok (.ladd, 1) := by decide +kernel
theorem dX7_cutAt_245 : decode cX7_cutAt 245 = .ok (.lstore 18, 2) := by decide +kernel
theorem dX7_cutAt_247 : decode cX7_cutAt 247 = .ok (.aload_n 0, 1) := by decide +kernel
theorem dX7_cutAt_248 : decode cX7_cutAt 248 = .ok (.lload 12, 2) := by decide +kernel
theorem dX7_cutAt_250 : decode cX7_cutAt 250 = .ok (.lload 4, 2) := by decide +kernel
theorem dX7_cutAt_252 : decode cX7_cutAt 252 = .ok (.lmul, 1) := by decide +kernel
theorem dX7_cutAt_253 : decode cX7_cutAt 253 = .ok (.lload 14, 2) := by decide +kernel
theorem dX7_cutAt_255 : decode cX7_cutAt 255 = .ok (.lload 6, 2) := by decide +kernel
theorem dX7_cutAt_257 : decode cX7_cutAt 257 = .ok (.lmul, 1) := by decide +kernel
theorem dX7_cutAt_258 : decode cX7_cutAt 258 = .ok (.ladd, 1) := by decide +kernel
theorem dX7_cutAt_259 : decode cX7_cutAt 259 = .ok (.lload 18, 2) := by decide +kernel
theorem dX7_cutAt_261 : decode cX7_cutAt 261 = .ok (.invokevirtual 186, 3) := by decide +kernel
theorem dX7_cutAt_264 : decode cX7_cutAt 264 = .ok (.aload_n 0, 1) := by decide +kernel
theorem dX7_cutAt_265 : decode cX7_cutAt 265 = .ok (.lload 12, 2) := by decide +kernel
theorem dX7_cutAt_267 : decode cX7_cutAt 267 = .ok (.lload 8, 2) := by decide +kernel
theorem dX7_cutAt_269 : decode cX7_cutAt 269 = .ok (.ladd, 1) := by decide +kernel
theorem dX7_cutAt_270 : decode cX7_cutAt 270 = .ok (.lload 4, 2) := by decide +kernel
theorem dX7_cutAt_272 : decode cX7_cutAt 272 = .ok (.lmul, 1) := by decide +kernel
theorem dX7_cutAt_273 : decode cX7_cutAt 273 = .ok (.lload 14, 2) := by decide +kernel
theorem dX7_cutAt_275 : decode cX7_cutAt 275 = .ok (.lload 10, 2) := by decide +kernel
theorem dX7_cutAt_277 : decode cX7_cutAt 277 = .ok (.ladd, 1) := by decide +kernel
theorem dX7_cutAt_278 : decode cX7_cutAt 278 = .ok (.lload 6, 2) := by decide +kernel
theorem dX7_cutAt_280 : decode cX7_cutAt 280 = .ok (.lmul, 1) := by decide +kernel
theorem dX7_cutAt_281 : decode cX7_cutAt 281 = .ok (.ladd, 1) := by decide +kernel
theorem dX7_cutAt_282 : decode cX7_cutAt 282 = .ok (.lload 18, 2) := by decide +kernel
theorem dX7_cutAt_284 : decode cX7_cutAt 284 = .ok (.invokevirtual 186, 3) := by decide +kernel
theorem dX7_cutAt_287 : decode cX7_cutAt 287 = .ok (.return_, 1) := by decide +kernel
theorem dX7_hasAt_0 : decode cX7_hasAt 0 = .ok (.aload_n 0, 1) := by decide +kernel
theorem dX7_hasAt_1 : decode cX7_hasAt 1 = .ok (.iload_n 1, 1) := by decide +kernel
theorem dX7_hasAt_2 : decode cX7_hasAt 2 = .ok (.aload_n 0, 1) := by decide +kernel
theorem dX7_hasAt_3 : decode cX7_hasAt 3 = .ok (.getfield 48, 3) := by decide +kernel
theorem dX7_hasAt_6 : decode cX7_hasAt 6 = .ok (.iload_n 2, 1) := by decide +kernel
theorem dX7_hasAt_7 : decode cX7_hasAt 7 = .ok (.laload, 1) := by decide +kernel
theorem dX7_hasAt_8 : decode cX7_hasAt 8 = .ok (.lload 5, 2) := by decide +kernel
theorem dX7_hasAt_10 : decode cX7_hasAt 10 = .ok (.lmul, 1) := by decide +kernel
theorem dX7_hasAt_11 : decode cX7_hasAt 11 = .ok (.aload_n 0, 1) := by decide +kernel
theorem dX7_hasAt_12 : decode cX7_hasAt 12 = .ok (.getfield 48, 3) := by decide +kernel
theorem dX7_hasAt_15 : decode cX7_hasAt 15 = .ok (.iload_n 2, 1) := by decide +kernel
theorem dX7_hasAt_16 : decode cX7_hasAt 16 = .ok (.iconst 1, 1) := by decide +kernel
theorem dX7_hasAt_17 : decode cX7_hasAt 17 = .ok (.iadd, 1) := by decide +kernel
theorem dX7_hasAt_18 : decode cX7_hasAt 18 = .ok (.laload, 1) := by decide +kernel
theorem dX7_hasAt_19 : decode cX7_hasAt 19 = .ok (.aload_n 0, 1) := by decide +kernel
theorem dX7_hasAt_20 : decode cX7_hasAt 20 = .ok (.getfield 48, 3) := by decide +kernel
theorem dX7_hasAt_23 : decode cX7_hasAt 23 = .ok (.iload_n 2, 1) := by decide +kernel
theorem dX7_hasAt_24 : decode cX7_hasAt 24 = .ok (.laload, 1) := by decide +kernel
theorem dX7_hasAt_25 : decode cX7_hasAt 25 = .ok (.lsub, 1) := by decide +kernel
theorem dX7_hasAt_26 : decode cX7_hasAt 26 = .ok (.lload_n 3, 1) := by decide +kernel
theorem dX7_hasAt_27 : decode cX7_hasAt 27 = .ok (.lmul, 1) := by decide +kernel
theorem dX7_hasAt_28 : decode cX7_hasAt 28 = .ok (.ladd, 1) := by decide +kernel
theorem dX7_hasAt_29 : decode cX7_hasAt 29 = .ok (.aload_n 0, 1) := by decide +kernel
theorem dX7_hasAt_30 : decode cX7_hasAt 30 = .ok (.getfield 51, 3) := by decide +kernel
theorem dX7_hasAt_33 : decode cX7_hasAt 33 = .ok (.iload_n 2, 1) := by decide +kernel
theorem dX7_hasAt_34 : decode cX7_hasAt 34 = .ok (.laload, 1) := by decide +kernel
theorem dX7_hasAt_35 : decode cX7_hasAt 35 = .ok (.lload 5, 2) := by decide +kernel
theorem dX7_hasAt_37 : decode cX7_hasAt 37 = .ok (.lmul, 1) := by decide +kernel
theorem dX7_hasAt_38 : decode cX7_hasAt 38 = .ok (.aload_n 0, 1) := by decide +kernel
theorem dX7_hasAt_39 : decode cX7_hasAt 39 = .ok (.getfield 51, 3) := by decide +kernel
theorem dX7_hasAt_42 : decode cX7_hasAt 42 = .ok (.iload_n 2, 1) := by decide +kernel
theorem dX7_hasAt_43 : decode cX7_hasAt 43 = .ok (.iconst 1, 1) := by decide +kernel
theorem dX7_hasAt_44 : decode cX7_hasAt 44 = .ok (.iadd, 1) := by decide +kernel
theorem dX7_hasAt_45 : decode cX7_hasAt 45 = .ok (.laload, 1) := by decide +kernel
theorem dX7_hasAt_46 : decode cX7_hasAt 46 = .ok (.aload_n 0, 1) := by decide +kernel
theorem dX7_hasAt_47 : decode cX7_hasAt 47 = .ok (.getfield 51, 3) := by decide +kernel
theorem dX7_hasAt_50 : decode cX7_hasAt 50 = .ok (.iload_n 2, 1) := by decide +kernel
theorem dX7_hasAt_51 : decode cX7_hasAt 51 = .ok (.laload, 1) := by decide +kernel
theorem dX7_hasAt_52 : decode cX7_hasAt 52 = .ok (.lsub, 1) := by decide +kernel
theorem dX7_hasAt_53 : decode cX7_hasAt 53 = .ok (.lload_n 3, 1) := by decide +kernel
theorem dX7_hasAt_54 : decode cX7_hasAt 54 = .ok (.lmul, 1) := by decide +kernel
theorem dX7_hasAt_55 : decode cX7_hasAt 55 = .ok (.ladd, 1) := by decide +kernel
theorem dX7_hasAt_56 : decode cX7_hasAt 56 = .ok (.lload 5, 2) := by decide +kernel
theorem dX7_hasAt_58 : decode cX7_hasAt 58 = .ok (.invokevirtual 133, 3) := by decide +kernel
theorem dX7_hasAt_61 : decode cX7_hasAt 61 = .ok (.ireturn, 1) := by decide +kernel
theorem dX7_stretch_0 : decode cX7_stretch 0 = .ok (.aload_n 0, 1) := by decide +kernel
theorem dX7_stretch_1 : decode cX7_stretch 1 = .ok (.iconst 0, 1) := by decide +kernel
theorem dX7_stretch_2 : decode cX7_stretch 2 = .ok (.putfield 183, 3) := by decide +kernel
theorem dX7_stretch_5 : decode cX7_stretch 5 = .ok (.aload_n 0, 1) := by decide +kernel
theorem dX7_stretch_6 : decode cX7_stretch 6 = .ok (.lconst 0, 1) := by decide +kernel
theorem dX7_stretch_7 : decode cX7_stretch 7 = .ok (.lconst 1, 1) := by decide +kernel
theorem dX7_stretch_8 : decode cX7_stretch 8 = .ok (.invokevirtual 186, 3) := by decide +kernel
theorem dX7_stretch_11 : decode cX7_stretch 11 = .ok (.aload_n 0, 1) := by decide +kernel
theorem dX7_stretch_12 : decode cX7_stretch 12 = .ok (.lconst 1, 1) := by decide +kernel
theorem dX7_stretch_13 : decode cX7_stretch 13 = .ok (.lconst 1, 1) := by decide +kernel
theorem dX7_stretch_14 : decode cX7_stretch 14 = .ok (.invokevirtual 186, 3) := by decide +kernel
theorem dX7_stretch_17 : decode cX7_stretch 17 = .ok (.iconst 0, 1) := by decide +kernel
theorem dX7_stretch_18 : decode cX7_stretch 18 = .ok (.istore_n 3, 1) := by decide +kernel
theorem dX7_stretch_19 : decode cX7_stretch 19 = .ok (.iload_n 3, 1) := by decide +kernel
theorem dX7_stretch_20 : decode cX7_stretch 20 = .ok (.aload_n 0, 1) := by decide +kernel
theorem dX7_stretch_21 : decode cX7_stretch 21 = .ok (.getfield 20, 3) := by decide +kernel
theorem dX7_stretch_24 : decode cX7_stretch 24 = .ok (.iload_n 1, 1) := by decide +kernel
theorem dX7_stretch_25 : decode cX7_stretch 25 = .ok (.iaload, 1) := by decide +kernel
theorem dX7_stretch_26 : decode cX7_stretch 26 = .ok (.if_icmp .ge 60, 3) := by decide +kernel
theorem dX7_stretch_29 : decode cX7_stretch 29 = .ok (.iconst 4, 1) := by decide +kernel
theorem dX7_stretch_30 : decode cX7_stretch 30 = .ok (.iload_n 1, 1) := by decide +kernel
theorem dX7_stretch_31 : decode cX7_stretch 31 = .ok (.imul, 1) := by decide +kernel
theorem dX7_stretch_32 : decode cX7_stretch 32 = .ok (.iload_n 3, 1) := by decide +kernel
theorem dX7_stretch_33 : decode cX7_stretch 33 = .ok (.iadd, 1) := by decide +kernel
theorem dX7_stretch_34 : decode cX7_stretch 34 = .ok (.istore 4, 2) := by decide +kernel
theorem dX7_stretch_36 : decode cX7_stretch 36 = .ok (.iconst 0, 1) := by decide +kernel
theorem dX7_stretch_37 : decode cX7_stretch 37 = .ok (.istore 5, 2) := by decide +kernel
theorem dX7_stretch_39 : decode cX7_stretch 39 = .ok (.iload 5, 2) := by decide +kernel
theorem dX7_stretch_41 : decode cX7_stretch 41 = .ok (.aload_n 0, 1) := by decide +kernel
theorem dX7_stretch_42 : decode cX7_stretch 42 = .ok (.getfield 16, 3) := by decide +kernel
theorem dX7_stretch_45 : decode cX7_stretch 45 = .ok (.iload 4, 2) := by decide +kernel
theorem dX7_stretch_47 : decode cX7_stretch 47 = .ok (.iaload, 1) := by decide +kernel
theorem dX7_stretch_48 : decode cX7_stretch 48 = .ok (.if_icmp .ge 32, 3) := by decide +kernel
theorem dX7_stretch_51 : decode cX7_stretch 51 = .ok (.aload_n 0, 1) := by decide +kernel
theorem dX7_stretch_52 : decode cX7_stretch 52 = .ok (.iload_n 2, 1) := by decide +kernel
theorem dX7_stretch_53 : decode cX7_stretch 53 = .ok (.aload_n 0, 1) := by decide +kernel
theorem dX7_stretch_54 : decode cX7_stretch 54 = .ok (.iload 4, 2) := by decide +kernel
theorem dX7_stretch_56 : decode cX7_stretch 56 = .ok (.iload 5, 2) := by decide +kernel
theorem dX7_stretch_58 : decode cX7_stretch 58 = .ok (.invokevirtual 102, 3) := by decide +kernel
theorem dX7_stretch_61 : decode cX7_stretch 61 = .ok (.aload_n 0, 1) := by decide +kernel
theorem dX7_stretch_62 : decode cX7_stretch 62 = .ok (.iload 4, 2) := by decide +kernel
theorem dX7_stretch_64 : decode cX7_stretch 64 = .ok (.iload 5, 2) := by decide +kernel
theorem dX7_stretch_66 : decode cX7_stretch 66 = .ok (.iconst 1, 1) := by decide +kernel
theorem dX7_stretch_67 : decode cX7_stretch 67 = .ok (.iadd, 1) := by decide +kernel
theorem dX7_stretch_68 : decode cX7_stretch 68 = .ok (.invokevirtual 102, 3) := by decide +kernel
theorem dX7_stretch_71 : decode cX7_stretch 71 = .ok (.invokevirtual 190, 3) := by decide +kernel
theorem dX7_stretch_74 : decode cX7_stretch 74 = .ok (.iinc 5 1, 3) := by decide +kernel
theorem dX7_stretch_77 : decode cX7_stretch 77 = .ok (.goto (-38), 3) := by decide +kernel
theorem dX7_stretch_80 : decode cX7_stretch 80 = .ok (.iinc 3 1, 3) := by decide +kernel
theorem dX7_stretch_83 : decode cX7_stretch 83 = .ok (.goto (-64), 3) := by decide +kernel
theorem dX7_stretch_86 : decode cX7_stretch 86 = .ok (.aload_n 0, 1) := by decide +kernel
theorem dX7_stretch_87 : decode cX7_stretch 87 = .ok (.iconst 0, 1) := by decide +kernel
theorem dX7_stretch_88 : decode cX7_stretch 88 = .ok (.putfield 194, 3) := by decide +kernel
theorem dX7_stretch_91 : decode cX7_stretch 91 = .ok (.iconst 0, 1) := by decide +kernel
theorem dX7_stretch_92 : decode cX7_stretch 92 = .ok (.istore_n 3, 1) := by decide +kernel
theorem dX7_stretch_93 : decode cX7_stretch 93 = .ok (.iconst 0, 1) := by decide +kernel
theorem dX7_stretch_94 : decode cX7_stretch 94 = .ok (.istore 4, 2) := by decide +kernel
theorem dX7_stretch_96 : decode cX7_stretch 96 = .ok (.iload 4, 2) := by decide +kernel
theorem dX7_stretch_98 : decode cX7_stretch 98 = .ok (.aload_n 0, 1) := by decide +kernel
theorem dX7_stretch_99 : decode cX7_stretch 99 = .ok (.getfield 183, 3) := by decide +kernel
theorem dX7_stretch_102 : decode cX7_stretch 102 = .ok (.if_icmp .ge 166, 3) := by decide +kernel
theorem dX7_stretch_105 : decode cX7_stretch 105 = .ok (.aload_n 0, 1) := by decide +kernel
theorem dX7_stretch_106 : decode cX7_stretch 106 = .ok (.iload_n 1, 1) := by decide +kernel
theorem dX7_stretch_107 : decode cX7_stretch 107 = .ok (.iload_n 2, 1) := by decide +kernel
theorem dX7_stretch_108 : decode cX7_stretch 108 = .ok (.aload_n 0, 1) := by decide +kernel
theorem dX7_stretch_109 : decode cX7_stretch 109 = .ok (.getfield 60, 3) := by decide +kernel
theorem dX7_stretch_112 : decode cX7_stretch 112 = .ok (.iload 4, 2) := by decide +kernel
theorem dX7_stretch_114 : decode cX7_stretch 114 = .ok (.laload, 1) := by decide +kernel
theorem dX7_stretch_115 : decode cX7_stretch 115 = .ok (.aload_n 0, 1) := by decide +kernel
theorem dX7_stretch_116 : decode cX7_stretch 116 = .ok (.getfield 63, 3) := by decide +kernel
theorem dX7_stretch_119 : decode cX7_stretch 119 = .ok (.iload 4, 2) := by decide +kernel
theorem dX7_stretch_121 : decode cX7_stretch 121 = .ok (.laload, 1) := by decide +kernel
theorem dX7_stretch_122 : decode cX7_stretch 122 = .ok (.invokevirtual 197, 3) := by decide +kernel
theorem dX7_stretch_125 : decode cX7_stretch 125 = .ok (.istore 5, 2) := by decide +kernel
theorem dX7_stretch_127 : decode cX7_stretch 127 = .ok (.iload 5, 2) := by decide +kernel
theorem dX7_stretch_129 : decode cX7_stretch 129 = .ok (.ifCond .eq 28, 3) := by decide +kernel
theorem dX7_stretch_132 : decode cX7_stretch 132 = .ok (.iload_n 3, 1) := by decide +kernel
theorem dX7_stretch_133 : decode cX7_stretch 133 = .ok (.ifCond .ne 24, 3) := by decide +kernel
theorem dX7_stretch_136 : decode cX7_stretch 136 = .ok (.aload_n 0, 1) := by decide +kernel
theorem dX7_stretch_137 : decode cX7_stretch 137 = .ok (.getfield 66, 3) := by decide +kernel
theorem dX7_stretch_140 : decode cX7_stretch 140 = .ok (.aload_n 0, 1) := by decide +kernel
theorem dX7_stretch_141 : decode cX7_stretch 141 = .ok (.getfield 194, 3) := by decide +kernel
theorem dX7_stretch_144 : decode cX7_stretch 144 = .ok (.iload 4, 2) := by decide +kernel
theorem dX7_stretch_146 : decode cX7_stretch 146 = .ok (.iastore, 1) := by decide +kernel
theorem dX7_stretch_147 : decode cX7_stretch 147 = .ok (.aload_n 0, 1) := by decide +kernel
theorem dX7_stretch_148 : decode cX7_stretch 148 = .ok (.dup, 1) := by decide +kernel
theorem dX7_stretch_149 : decode cX7_stretch 149 = .ok (.getfield 194, 3) := by decide +kernel
theorem dX7_stretch_152 : decode cX7_stretch 152 = .ok (.iconst 1, 1) := by decide +kernel
theorem dX7_stretch_153 : decode cX7_stretch 153 = .ok (.iadd, 1) := by decide +kernel
theorem dX7_stretch_154 : decode cX7_stretch 154 = .ok (.putfield 194, 3) := by decide +kernel
theorem dX7_stretch_157 : decode cX7_stretch 157 = .ok (.iload 5, 2) := by decide +kernel
theorem dX7_stretch_159 : decode cX7_stretch 159 = .ok (.ifCond .eq 16, 3) := by decide +kernel
theorem dX7_stretch_162 : decode cX7_stretch 162 = .ok (.aload_n 0, 1) := by decide +kernel
theorem dX7_stretch_163 : decode cX7_stretch 163 = .ok (.getfield 69, 3) := by decide +kernel
theorem dX7_stretch_166 : decode cX7_stretch 166 = .ok (.aload_n 0, 1) := by decide +kernel
theorem dX7_stretch_167 : decode cX7_stretch 167 = .ok (.getfield 194, 3) := by decide +kernel
theorem dX7_stretch_170 : decode cX7_stretch 170 = .ok (.iconst 1, 1) := by decide +kernel
theorem dX7_stretch_171 : decode cX7_stretch 171 = .ok (.isub, 1) := by decide +kernel
theorem dX7_stretch_172 : decode cX7_stretch 172 = .ok (.iload 4, 2) := by decide +kernel
theorem dX7_stretch_174 : decode cX7_stretch 174 = .ok (.iastore, 1) := by decide +kernel
theorem dX7_stretch_175 : decode cX7_stretch 175 = .ok (.iload 5, 2) := by decide +kernel
theorem dX7_stretch_177 : decode cX7_stretch 177 = .ok (.ifCond .eq 83, 3) := by decide +kernel
theorem dX7_stretch_180 : decode cX7_stretch 180 = .ok (.iload 4, 2) := by decide +kernel
theorem dX7_stretch_182 : decode cX7_stretch 182 = .ok (.iconst 1, 1) := by decide +kernel
theorem dX7_stretch_183 : decode cX7_stretch 183 = .ok (.iadd, 1) := by decide +kernel
theorem dX7_stretch_184 : decode cX7_stretch 184 = .ok (.aload_n 0, 1) := by decide +kernel
theorem dX7_stretch_185 : decode cX7_stretch 185 = .ok (.getfield 183, 3) := by decide +kernel
theorem dX7_stretch_188 : decode cX7_stretch 188 = .ok (.if_icmp .ge 72, 3) := by decide +kernel
theorem dX7_stretch_191 : decode cX7_stretch 191 = .ok (.aload_n 0, 1) := by decide +kernel
theorem dX7_stretch_192 : decode cX7_stretch 192 = .ok (.iload_n 1, 1) := by decide +kernel
theorem dX7_stretch_193 : decode cX7_stretch 193 = .ok (.iload_n 2, 1) := by decide +kernel
theorem dX7_stretch_194 : decode cX7_stretch 194 = .ok (.aload_n 0, 1) := by decide +kernel
theorem dX7_stretch_195 : decode cX7_stretch 195 = .ok (.getfield 60, 3) := by decide +kernel
theorem dX7_stretch_198 : decode cX7_stretch 198 = .ok (.iload 4, 2) := by decide +kernel
theorem dX7_stretch_200 : decode cX7_stretch 200 = .ok (.laload, 1) := by decide +kernel
theorem dX7_stretch_201 : decode cX7_stretch 201 = .ok (.aload_n 0, 1) := by decide +kernel
theorem dX7_stretch_202 : decode cX7_stretch 202 = .ok (.getfield 63, 3) := by decide +kernel
theorem dX7_stretch_205 : decode cX7_stretch 205 = .ok (.iload 4, 2) := by decide +kernel
theorem dX7_stretch_207 : decode cX7_stretch 207 = .ok (.iconst 1, 1) := by decide +kernel
theorem dX7_stretch_208 : decode cX7_stretch 208 = .ok (.iadd, 1) := by decide +kernel
theorem dX7_stretch_209 : decode cX7_stretch 209 = .ok (.laload, 1) := by decide +kernel
theorem dX7_stretch_210 : decode cX7_stretch 210 = .ok (.lmul, 1) := by decide +kernel
theorem dX7_stretch_211 : decode cX7_stretch 211 = .ok (.aload_n 0, 1) := by decide +kernel
theorem dX7_stretch_212 : decode cX7_stretch 212 = .ok (.getfield 60, 3) := by decide +kernel
theorem dX7_stretch_215 : decode cX7_stretch 215 = .ok (.iload 4, 2) := by decide +kernel
theorem dX7_stretch_217 : decode cX7_stretch 217 = .ok (.iconst 1, 1) := by decide +kernel
theorem dX7_stretch_218 : decode cX7_stretch 218 = .ok (.iadd, 1) := by decide +kernel
theorem dX7_stretch_219 : decode cX7_stretch 219 = .ok (.laload, 1) := by decide +kernel
theorem dX7_stretch_220 : decode cX7_stretch 220 = .ok (.aload_n 0, 1) := by decide +kernel
theorem dX7_stretch_221 : decode cX7_stretch 221 = .ok (.getfield 63, 3) := by decide +kernel
theorem dX7_stretch_224 : decode cX7_stretch 224 = .ok (.iload 4, 2) := by decide +kernel
theorem dX7_stretch_226 : decode cX7_stretch 226 = .ok (.laload, 1) := by decide +kernel
theorem dX7_stretch_227 : decode cX7_stretch 227 = .ok (.lmul, 1) := by decide +kernel
theorem dX7_stretch_228 : decode cX7_stretch 228 = .ok (.ladd, 1) := by decide +kernel
theorem dX7_stretch_229 : decode cX7_stretch 229 = .ok (.ldc2_w 201, 3) := by decide +kernel
theorem dX7_stretch_232 : decode cX7_stretch 232 = .ok (.aload_n 0, 1) := by decide +kernel
theorem dX7_stretch_233 : decode cX7_stretch 233 = .ok (.getfield 63, 3) := by decide +kernel
theorem dX7_stretch_236 : decode cX7_stretch 236 = .ok (.iload 4, 2) := by decide +kernel
theorem dX7_stretch_238 : decode cX7_stretch 238 = .ok (.laload, 1) := by decide +kernel
theorem dX7_stretch_239 : decode cX7_stretch 239 = .ok (.lmul, 1) := by decide +kernel
theorem dX7_stretch_240 : decode cX7_stretch 240 = .ok (.aload_n 0, 1) := by decide +kernel
theorem dX7_stretch_241 : decode cX7_stretch 241 = .ok (.getfield 63, 3) := by decide +kernel
theorem dX7_stretch_244 : decode cX7_stretch 244 = .ok (.iload 4, 2) := by decide +kernel
theorem dX7_stretch_246 : decode cX7_stretch 246 = .ok (.iconst 1, 1) := by decide +kernel
theorem dX7_stretch_247 : decode cX7_stretch 247 = .ok (.iadd, 1) := by decide +kernel
theorem dX7_stretch_248 : decode cX7_stretch 248 = .ok (.laload, 1) := by decide +kernel
theorem dX7_stretch_249 : decode cX7_stretch 249 = .ok (.lmul, 1) := by decide +kernel
theorem dX7_stretch_250 : decode cX7_stretch 250 = .ok (.invokevirtual 197, 3) := by decide +kernel
theorem dX7_stretch_253 : decode cX7_stretch 253 = .ok (.ifCond .eq 7, 3) := by decide +kernel
theorem dX7_stretch_256 : decode cX7_stretch 256 = .ok (.iconst 1, 1) := by decide +kernel
theorem dX7_stretch_257 : decode cX7_stretch 257 = .ok (.goto 4, 3) := by decide +kernel
theorem dX7_stretch_260 : decode cX7_stretch 260 = .ok (.iconst 0, 1) := by decide +kernel
theorem dX7_stretch_261 : decode cX7_stretch 261 = .ok (.istore_n 3, 1) := by decide +kernel
theorem dX7_stretch_262 : decode cX7_stretch 262 = .ok (.iinc 4 1, 3) := by decide +kernel
theorem dX7_stretch_265 : decode cX7_stretch 265 = .ok (.goto (-169), 3) := by decide +kernel
theorem dX7_stretch_268 : decode cX7_stretch 268 = .ok (.return_, 1) := by decide +kernel
theorem dX7_add_0 : decode cX7_add 0 = .ok (.aload_n 0, 1) := by decide +kernel
theorem dX7_add_1 : decode cX7_add 1 = .ok (.getfield 203, 3) := by decide +kernel
theorem dX7_add_4 : decode cX7_add 4 = .ok (.sipush 300, 3) := by decide +kernel
theorem dX7_add_7 : decode cX7_add 7 = .ok (.if_icmp .ge 85, 3) := by decide +kernel
theorem dX7_add_10 : decode cX7_add 10 = .ok (.aload_n 0, 1) := by decide +kernel
theorem dX7_add_11 : decode cX7_add 11 = .ok (.getfield 57, 3) := by decide +kernel
theorem dX7_add_14 : decode cX7_add 14 = .ok (.iconst 5, 1) := by decide +kernel
theorem dX7_add_15 : decode cX7_add 15 = .ok (.aload_n 0, 1) := by decide +kernel
theorem dX7_add_16 : decode cX7_add 16 = .ok (.getfield 203, 3) := by decide +kernel
theorem dX7_add_19 : decode cX7_add 19 = .ok (.imul, 1) := by decide +kernel
theorem dX7_add_20 : decode cX7_add 20 = .ok (.iload_n 1, 1) := by decide +kernel
theorem dX7_add_21 : decode cX7_add 21 = .ok (.i2l, 1) := by decide +kernel
theorem dX7_add_22 : decode cX7_add 22 = .ok (.lastore, 1) := by decide +kernel
theorem dX7_add_23 : decode cX7_add 23 = .ok (.aload_n 0, 1) := by decide +kernel
theorem dX7_add_24 : decode cX7_add 24 = .ok (.getfield 57, 3) := by decide +kernel
theorem dX7_add_27 : decode cX7_add 27 = .ok (.iconst 5, 1) := by decide +kernel
theorem dX7_add_28 : decode cX7_add 28 = .ok (.aload_n 0, 1) := by decide +kernel
theorem dX7_add_29 : decode cX7_add 29 = .ok (.getfield 203, 3) := by decide +kernel
theorem dX7_add_32 : decode cX7_add 32 = .ok (.imul, 1) := by decide +kernel
theorem dX7_add_33 : decode cX7_add 33 = .ok (.iconst 1, 1) := by decide +kernel
theorem dX7_add_34 : decode cX7_add 34 = .ok (.iadd, 1) := by decide +kernel
theorem dX7_add_35 : decode cX7_add 35 = .ok (.aload_n 0, 1) := by decide +kernel
theorem dX7_add_36 : decode cX7_add 36 = .ok (.getfield 60, 3) := by decide +kernel
theorem dX7_add_39 : decode cX7_add 39 = .ok (.iload_n 2, 1) := by decide +kernel
theorem dX7_add_40 : decode cX7_add 40 = .ok (.laload, 1) := by decide +kernel
theorem dX7_add_41 : decode cX7_add 41 = .ok (.lastore, 1) := by decide +kernel
theorem dX7_add_42 : decode cX7_add 42 = .ok (.aload_n 0, 1) := by decide +kernel
theorem dX7_add_43 : decode cX7_add 43 = .ok (.getfield 57, 3) := by decide +kernel
theorem dX7_add_46 : decode cX7_add 46 = .ok (.iconst 5, 1) := by decide +kernel
theorem dX7_add_47 : decode cX7_add 47 = .ok (.aload_n 0, 1) := by decide +kernel
theorem dX7_add_48 : decode cX7_add 48 = .ok (.getfield 203, 3) := by decide +kernel
theorem dX7_add_51 : decode cX7_add 51 = .ok (.imul, 1) := by decide +kernel
theorem dX7_add_52 : decode cX7_add 52 = .ok (.iconst 2, 1) := by decide +kernel
theorem dX7_add_53 : decode cX7_add 53 = .ok (.iadd, 1) := by decide +kernel
theorem dX7_add_54 : decode cX7_add 54 = .ok (.aload_n 0, 1) := by decide +kernel
theorem dX7_add_55 : decode cX7_add 55 = .ok (.getfield 63, 3) := by decide +kernel
theorem dX7_add_58 : decode cX7_add 58 = .ok (.iload_n 2, 1) := by decide +kernel
theorem dX7_add_59 : decode cX7_add 59 = .ok (.laload, 1) := by decide +kernel
theorem dX7_add_60 : decode cX7_add 60 = .ok (.lastore, 1) := by decide +kernel
theorem dX7_add_61 : decode cX7_add 61 = .ok (.aload_n 0, 1) := by decide +kernel
theorem dX7_add_62 : decode cX7_add 62 = .ok (.getfield 57, 3) := by decide +kernel
theorem dX7_add_65 : decode cX7_add 65 = .ok (.iconst 5, 1) := by decide +kernel
theorem dX7_add_66 : decode cX7_add 66 = .ok (.aload_n 0, 1) := by decide +kernel
theorem dX7_add_67 : decode cX7_add 67 = .ok (.getfield 203, 3) := by decide +kernel
theorem dX7_add_70 : decode cX7_add 70 = .ok (.imul, 1) := by decide +kernel
theorem dX7_add_71 : decode cX7_add 71 = .ok (.iconst 3, 1) := by decide +kernel
theorem dX7_add_72 : decode cX7_add 72 = .ok (.iadd, 1) := by decide +kernel
theorem dX7_add_73 : decode cX7_add 73 = .ok (.iload_n 3, 1) := by decide +kernel
theorem dX7_add_74 : decode cX7_add 74 = .ok (.i2l, 1) := by decide +kernel
theorem dX7_add_75 : decode cX7_add 75 = .ok (.lastore, 1) := by decide +kernel
theorem dX7_add_76 : decode cX7_add 76 = .ok (.aload_n 0, 1) := by decide +kernel
theorem dX7_add_77 : decode cX7_add 77 = .ok (.getfield 57, 3) := by decide +kernel
theorem dX7_add_80 : decode cX7_add 80 = .ok (.iconst 5, 1) := by decide +kernel
theorem dX7_add_81 : decode cX7_add 81 = .ok (.aload_n 0, 1) := by decide +kernel
theorem dX7_add_82 : decode cX7_add 82 = .ok (.getfield 203, 3) := by decide +kernel
theorem dX7_add_85 : decode cX7_add 85 = .ok (.imul, 1) := by decide +kernel
theorem dX7_add_86 : decode cX7_add 86 = .ok (.iconst 4, 1) := by decide +kernel
theorem dX7_add_87 : decode cX7_add 87 = .ok (.iadd, 1) := by decide +kernel
theorem dX7_add_88 : decode cX7_add 88 = .ok (.iload 4, 2) := by decide +kernel
theorem dX7_add_90 : decode cX7_add 90 = .ok (.i2l, 1) := by decide +kernel
theorem dX7_add_91 : decode cX7_add 91 = .ok (.lastore, 1) := by decide +kernel
theorem dX7_add_92 : decode cX7_add 92 = .ok (.aload_n 0, 1) := by decide +kernel
theorem dX7_add_93 : decode cX7_add 93 = .ok (.dup, 1) := by decide +kernel
theorem dX7_add_94 : decode cX7_add 94 = .ok (.getfield 203, 3) := by decide +kernel
theorem dX7_add_97 : decode cX7_add 97 = .ok (.iconst 1, 1) := by decide +kernel
theorem dX7_add_98 : decode cX7_add 98 = .ok (.iadd, 1) := by decide +kernel
theorem dX7_add_99 : decode cX7_add 99 = .ok (.putfield 203, 3) := by decide +kernel
theorem dX7_add_102 : decode cX7_add 102 = .ok (.return_, 1) := by decide +kernel
theorem dX7_runPiece_0 : decode cX7_runPiece 0 = .ok (.bipush 30, 2) := by decide +kernel
theorem dX7_runPiece_2 : decode cX7_runPiece 2 = .ok (.iload_n 1, 1) := by decide +kernel
theorem dX7_runPiece_3 : decode cX7_runPiece 3 = .ok (.imul, 1) := by decide +kernel
theorem dX7_runPiece_4 : decode cX7_runPiece 4 = .ok (.iload_n 2, 1) := by decide +kernel
theorem dX7_runPiece_5 : decode cX7_runPiece 5 = .ok (.iadd, 1) := by decide +kernel
theorem dX7_runPiece_6 : decode cX7_runPiece 6 = .ok (.istore 5, 2) := by decide +kernel
theorem dX7_runPiece_8 : decode cX7_runPiece 8 = .ok (.iload_n 2, 1) := by decide +kernel
theorem dX7_runPiece_9 : decode cX7_runPiece 9 = .ok (.ifCond .le 21, 3) := by decide +kernel
theorem dX7_runPiece_12 : decode cX7_runPiece 12 = .ok (.aload_n 0, 1) := by decide +kernel
theorem dX7_runPiece_13 : decode cX7_runPiece 13 = .ok (.iload 5, 2) := by decide +kernel
theorem dX7_runPiece_15 : decode cX7_runPiece 15 = .ok (.iconst 1, 1) := by decide +kernel
theorem dX7_runPiece_16 : decode cX7_runPiece 16 = .ok (.isub, 1) := by decide +kernel
theorem dX7_runPiece_17 : decode cX7_runPiece 17 = .ok (.iload_n 3, 1) := by decide +kernel
theorem dX7_runPiece_18 : decode cX7_runPiece 18 = .ok (.iload 4, 2) := by decide +kernel
theorem dX7_runPiece_20 : decode cX7_runPiece 20 = .ok (.invokevirtual 206, 3) := by decide +kernel
theorem dX7_runPiece_23 : decode cX7_runPiece 23 = .ok (.ifCond .eq 7, 3) := by decide +kernel
theorem dX7_runPiece_26 : decode cX7_runPiece 26 = .ok (.iconst 1, 1) := by decide +kernel
theorem dX7_runPiece_27 : decode cX7_runPiece 27 = .ok (.goto 4, 3) := by decide +kernel
theorem dX7_runPiece_30 : decode cX7_runPiece 30 = .ok (.iconst 0, 1) := by decide +kernel
theorem dX7_runPiece_31 : decode cX7_runPiece 31 = .ok (.istore 6, 2) := by decide +kernel
theorem dX7_runPiece_33 : decode cX7_runPiece 33 = .ok (.aload_n 0, 1) := by decide +kernel
theorem dX7_runPiece_34 : decode cX7_runPiece 34 = .ok (.iload_n 3, 1) := by decide +kernel
theorem dX7_runPiece_35 : decode cX7_runPiece 35 = .ok (.iload 5, 2) := by decide +kernel
theorem dX7_runPiece_37 : decode cX7_runPiece 37 = .ok (.invokevirtual 209, 3) := by decide +kernel
theorem dX7_runPiece_40 : decode cX7_runPiece 40 = .ok (.iconst 0, 1) := by decide +kernel
theorem dX7_runPiece_41 : decode cX7_runPiece 41 = .ok (.istore 7, 2) := by decide +kernel
theorem dX7_runPiece_43 : decode cX7_runPiece 43 = .ok (.iload 7, 2) := by decide +kernel
theorem dX7_runPiece_45 : decode cX7_runPiece 45 = .ok (.aload_n 0, 1) := by decide +kernel
theorem dX7_runPiece_46 : decode cX7_runPiece 46 = .ok (.getfield 194, 3) := by decide +kernel
theorem dX7_runPiece_49 : decode cX7_runPiece 49 = .ok (.if_icmp .ge 68, 3) := by decide +kernel
theorem dX7_runPiece_52 : decode cX7_runPiece 52 = .ok (.aload_n 0, 1) := by decide +kernel
theorem dX7_runPiece_53 : decode cX7_runPiece 53 = .ok (.getfield 66, 3) := by decide +kernel
theorem dX7_runPiece_56 : decode cX7_runPiece 56 = .ok (.iload 7, 2) := by decide +kernel
theorem dX7_runPiece_58 : decode cX7_runPiece 58 = .ok (.iaload, 1) := by decide +kernel
theorem dX7_runPiece_59 : decode cX7_runPiece 59 = .ok (.ifCond .gt 8, 3) := by decide +kernel
theorem dX7_runPiece_62 : decode cX7_runPiece 62 = .ok (.iload 6, 2) := by decide +kernel
theorem dX7_runPiece_64 : decode cX7_runPiece 64 = .ok (.ifCond .ne 17, 3) := by decide +kernel
theorem dX7_runPiece_67 : decode cX7_runPiece 67 = .ok (.aload_n 0, 1) := by decide +kernel
theorem dX7_runPiece_68 : decode cX7_runPiece 68 = .ok (.iload_n 2, 1) := by decide +kernel
theorem dX7_runPiece_69 : decode cX7_runPiece 69 = .ok (.aload_n 0, 1) := by decide +kernel
theorem dX7_runPiece_70 : decode cX7_runPiece 70 = .ok (.getfield 66, 3) := by decide +kernel
theorem dX7_runPiece_73 : decode cX7_runPiece 73 = .ok (.iload 7, 2) := by decide +kernel
theorem dX7_runPiece_75 : decode cX7_runPiece 75 = .ok (.iaload, 1) := by decide +kernel
theorem dX7_runPiece_76 : decode cX7_runPiece 76 = .ok (.iload_n 3, 1) := by decide +kernel
theorem dX7_runPiece_77 : decode cX7_runPiece 77 = .ok (.iconst 1, 1) := by decide +kernel
theorem dX7_runPiece_78 : decode cX7_runPiece 78 = .ok (.invokevirtual 213, 3) := by decide +kernel
theorem dX7_runPiece_81 : decode cX7_runPiece 81 = .ok (.aload_n 0, 1) := by decide +kernel
theorem dX7_runPiece_82 : decode cX7_runPiece 82 = .ok (.getfield 69, 3) := by decide +kernel
theorem dX7_runPiece_85 : decode cX7_runPiece 85 = .ok (.iload 7, 2) := by decide +kernel
theorem dX7_runPiece_87 : decode cX7_runPiece 87 = .ok (.iaload, 1) := by decide +kernel
theorem dX7_runPiece_88 : decode cX7_runPiece 88 = .ok (.aload_n 0, 1) := by decide +kernel
theorem dX7_runPiece_89 : decode cX7_runPiece 89 = .ok (.getfield 183, 3) := by decide +kernel
theorem dX7_runPiece_92 : decode cX7_runPiece 92 = .ok (.iconst 1, 1) := by decide +kernel
theorem dX7_runPiece_93 : decode cX7_runPiece 93 = .ok (.isub, 1) := by decide +kernel
theorem dX7_runPiece_94 : decode cX7_runPiece 94 = .ok (.if_icmp .ge 17, 3) := by decide +kernel
theorem dX7_runPiece_97 : decode cX7_runPiece 97 = .ok (.aload_n 0, 1) := by decide +kernel
theorem dX7_runPiece_98 : decode cX7_runPiece 98 = .ok (.iload_n 2, 1) := by decide +kernel
theorem dX7_runPiece_99 : decode cX7_runPiece 99 = .ok (.aload_n 0, 1) := by decide +kernel
theorem dX7_runPiece_100 : decode cX7_runPiece 100 = .ok (.getfield 69, 3) := by decide +kernel
theorem dX7_runPiece_103 : decode cX7_runPiece 103 = .ok (.iload 7, 2) := by decide +kernel
theorem dX7_runPiece_105 : decode cX7_runPiece 105 = .ok (.iaload, 1) := by decide +kernel
theorem dX7_runPiece_106 : decode cX7_runPiece 106 = .ok (.iload_n 3, 1) := by decide +kernel
theorem dX7_runPiece_107 : decode cX7_runPiece 107 = .ok (.iconst 0, 1) := by decide +kernel
theorem dX7_runPiece_108 : decode cX7_runPiece 108 = .ok (.invokevirtual 213, 3) := by decide +kernel
theorem dX7_runPiece_111 : decode cX7_runPiece 111 = .ok (.iinc 7 1, 3) := by decide +kernel
theorem dX7_runPiece_114 : decode cX7_runPiece 114 = .ok (.goto (-71), 3) := by decide +kernel
theorem dX7_runPiece_117 : decode cX7_runPiece 117 = .ok (.return_, 1) := by decide +kernel
theorem dX7_run_0 : decode cX7_run 0 = .ok (.aload_n 0, 1) := by decide +kernel
theorem dX7_run_1 : decode cX7_run 1 = .ok (.iconst 0, 1) := by decide +kernel
theorem dX7_run_2 : decode cX7_run 2 = .ok (.putfield 76, 3) := by decide +kernel
theorem dX7_run_5 : decode cX7_run 5 = .ok (.aload_n 0, 1) := by decide +kernel
theorem dX7_run_6 : decode cX7_run 6 = .ok (.iload_n 1, 1) := by decide +kernel
theorem dX7_run_7 : decode cX7_run 7 = .ok (.invokevirtual 164, 3) := by decide +kernel
theorem dX7_run_10 : decode cX7_run 10 = .ok (.ifCond .ne 5, 3) := by decide +kernel
theorem dX7_run_13 : decode cX7_run 13 = .ok (.iconst (-1), 1) := by decide +kernel
theorem dX7_run_14 : decode cX7_run 14 = .ok (.ireturn, 1) := by decide +kernel
theorem dX7_run_15 : decode cX7_run 15 = .ok (.iload_n 2, 1) := by decide +kernel
theorem dX7_run_16 : decode cX7_run 16 = .ok (.i2l, 1) := by decide +kernel
theorem dX7_run_17 : decode cX7_run 17 = .ok (.lconst 0, 1) := by decide +kernel
theorem dX7_run_18 : decode cX7_run 18 = .ok (.ldc2_w 143, 3) := by decide +kernel
theorem dX7_run_21 : decode cX7_run 21 = .ok (.invokestatic 122, 3) := by decide +kernel
theorem dX7_run_24 : decode cX7_run 24 = .ok (.ifCond .ne 6, 3) := by decide +kernel
theorem dX7_run_27 : decode cX7_run 27 = .ok (.bipush (-2), 2) := by decide +kernel
theorem dX7_run_29 : decode cX7_run 29 = .ok (.ireturn, 1) := by decide +kernel
theorem dX7_run_30 : decode cX7_run 30 = .ok (.aload_n 0, 1) := by decide +kernel
theorem dX7_run_31 : decode cX7_run 31 = .ok (.iconst 0, 1) := by decide +kernel
theorem dX7_run_32 : decode cX7_run 32 = .ok (.putfield 203, 3) := by decide +kernel
theorem dX7_run_35 : decode cX7_run 35 = .ok (.iconst 0, 1) := by decide +kernel
theorem dX7_run_36 : decode cX7_run 36 = .ok (.istore_n 3, 1) := by decide +kernel
theorem dX7_run_37 : decode cX7_run 37 = .ok (.iload_n 3, 1) := by decide +kernel
theorem dX7_run_38 : decode cX7_run 38 = .ok (.iconst 1, 1) := by decide +kernel
theorem dX7_run_39 : decode cX7_run 39 = .ok (.iadd, 1) := by decide +kernel
theorem dX7_run_40 : decode cX7_run 40 = .ok (.aload_n 0, 1) := by decide +kernel
theorem dX7_run_41 : decode cX7_run 41 = .ok (.getfield 42, 3) := by decide +kernel
theorem dX7_run_44 : decode cX7_run 44 = .ok (.iload_n 1, 1) := by decide +kernel
theorem dX7_run_45 : decode cX7_run 45 = .ok (.iaload, 1) := by decide +kernel
theorem dX7_run_46 : decode cX7_run 46 = .ok (.if_icmp .ge 52, 3) := by decide +kernel
theorem dX7_run_49 : decode cX7_run 49 = .ok (.iconst 0, 1) := by decide +kernel
theorem dX7_run_50 : decode cX7_run 50 = .ok (.istore 4, 2) := by decide +kernel
theorem dX7_run_52 : decode cX7_run 52 = .ok (.iload 4, 2) := by decide +kernel
theorem dX7_run_54 : decode cX7_run 54 = .ok (.aload_n 0, 1) := by decide +kernel
theorem dX7_run_55 : decode cX7_run 55 = .ok (.getfield 72, 3) := by decide +kernel
theorem dX7_run_58 : decode cX7_run 58 = .ok (.if_icmp .ge 34, 3) := by decide +kernel
theorem dX7_run_61 : decode cX7_run 61 = .ok (.aload_n 0, 1) := by decide +kernel
theorem dX7_run_62 : decode cX7_run 62 = .ok (.bipush 30, 2) := by decide +kernel
theorem dX7_run_64 : decode cX7_run 64 = .ok (.iload_n 1, 1) := by decide +kernel
theorem dX7_run_65 : decode cX7_run 65 = .ok (.imul, 1) := by decide +kernel
theorem dX7_run_66 : decode cX7_run 66 = .ok (.iload_n 3, 1) := by decide +kernel
theorem dX7_run_67 : decode cX7_run 67 = .ok (.iadd, 1) := by decide +kernel
theorem dX7_run_68 : decode cX7_run 68 = .ok (.iload 4, 2) := by decide +kernel
theorem dX7_run_70 : decode cX7_run 70 = .ok (.iload_n 2, 1) := by decide +kernel
theorem dX7_run_71 : decode cX7_run 71 = .ok (.invokevirtual 206, 3) := by decide +kernel
theorem dX7_run_74 : decode cX7_run 74 = .ok (.ifCond .eq 12, 3) := by decide +kernel
theorem dX7_run_77 : decode cX7_run 77 = .ok (.aload_n 0, 1) := by decide +kernel
theorem dX7_run_78 : decode cX7_run 78 = .ok (.iload_n 1, 1) := by decide +kernel
theorem dX7_run_79 : decode cX7_run 79 = .ok (.iload_n 3, 1) := by decide +kernel
theorem dX7_run_80 : decode cX7_run 80 = .ok (.iload 4, 2) := by decide +kernel
theorem dX7_run_82 : decode cX7_run 82 = .ok (.iload_n 2, 1) := by decide +kernel
theorem dX7_run_83 : decode cX7_run 83 = .ok (.invokevirtual 216, 3) := by decide +kernel
theorem dX7_run_86 : decode cX7_run 86 = .ok (.iinc 4 1, 3) := by decide +kernel
theorem dX7_run_89 : decode cX7_run 89 = .ok (.goto (-37), 3) := by decide +kernel
theorem dX7_run_92 : decode cX7_run 92 = .ok (.iinc 3 1, 3) := by decide +kernel
theorem dX7_run_95 : decode cX7_run 95 = .ok (.goto (-58), 3) := by decide +kernel
theorem dX7_run_98 : decode cX7_run 98 = .ok (.aload_n 0, 1) := by decide +kernel
theorem dX7_run_99 : decode cX7_run 99 = .ok (.getfield 203, 3) := by decide +kernel
theorem dX7_run_102 : decode cX7_run 102 = .ok (.sipush 300, 3) := by decide +kernel
theorem dX7_run_105 : decode cX7_run 105 = .ok (.if_icmp .le 6, 3) := by decide +kernel
theorem dX7_run_108 : decode cX7_run 108 = .ok (.bipush (-4), 2) := by decide +kernel
theorem dX7_run_110 : decode cX7_run 110 = .ok (.ireturn, 1) := by decide +kernel
theorem dX7_run_111 : decode cX7_run 111 = .ok (.aload_n 0, 1) := by decide +kernel
theorem dX7_run_112 : decode cX7_run 112 = .ok (.aload_n 0, 1) := by decide +kernel
theorem dX7_run_113 : decode cX7_run 113 = .ok (.getfield 203, 3) := by decide +kernel
theorem dX7_run_116 : decode cX7_run 116 = .ok (.putfield 219, 3) := by decide +kernel
theorem dX7_run_119 : decode cX7_run 119 = .ok (.iconst 0, 1) := by decide +kernel
theorem dX7_run_120 : decode cX7_run 120 = .ok (.istore_n 3, 1) := by decide +kernel
theorem dX7_run_121 : decode cX7_run 121 = .ok (.iload_n 3, 1) := by decide +kernel
theorem dX7_run_122 : decode cX7_run 122 = .ok (.iconst 5, 1) := by decide +kernel
theorem dX7_run_123 : decode cX7_run 123 = .ok (.aload_n 0, 1) := by decide +kernel
theorem dX7_run_124 : decode cX7_run 124 = .ok (.getfield 219, 3) := by decide +kernel
theorem dX7_run_127 : decode cX7_run 127 = .ok (.imul, 1) := by decide +kernel
theorem dX7_run_128 : decode cX7_run 128 = .ok (.if_icmp .ge 21, 3) := by decide +kernel
theorem dX7_run_131 : decode cX7_run 131 = .ok (.aload_n 0, 1) := by decide +kernel
theorem dX7_run_132 : decode cX7_run 132 = .ok (.getfield 54, 3) := by decide +kernel
theorem dX7_run_135 : decode cX7_run 135 = .ok (.iload_n 3, 1) := by decide +kernel
theorem dX7_run_136 : decode cX7_run 136 = .ok (.aload_n 0, 1) := by decide +kernel
theorem dX7_run_137 : decode cX7_run 137 = .ok (.getfield 57, 3) := by decide +kernel
theorem dX7_run_140 : decode cX7_run 140 = .ok (.iload_n 3, 1) := by decide +kernel
theorem dX7_run_141 : decode cX7_run 141 = .ok (.laload, 1) := by decide +kernel
theorem dX7_run_142 : decode cX7_run 142 = .ok (.lastore, 1) := by decide +kernel
theorem dX7_run_143 : decode cX7_run 143 = .ok (.iinc 3 1, 3) := by decide +kernel
theorem dX7_run_146 : decode cX7_run 146 = .ok (.goto (-25), 3) := by decide +kernel
theorem dX7_run_149 : decode cX7_run 149 = .ok (.aload_n 0, 1) := by decide +kernel
theorem dX7_run_150 : decode cX7_run 150 = .ok (.getfield 219, 3) := by decide +kernel
theorem dX7_run_153 : decode cX7_run 153 = .ok (.ireturn, 1) := by decide +kernel
theorem dX7_entry_0 : decode cX7_entry 0 = .ok (.aload_n 0, 1) := by decide +kernel
theorem dX7_entry_1 : decode cX7_entry 1 = .ok (.iconst 0, 1) := by decide +kernel
theorem dX7_entry_2 : decode cX7_entry 2 = .ok (.putfield 76, 3) := by decide +kernel
theorem dX7_entry_5 : decode cX7_entry 5 = .ok (.iload_n 1, 1) := by decide +kernel
theorem dX7_entry_6 : decode cX7_entry 6 = .ok (.ifCond .lt 11, 3) := by decide +kernel
theorem dX7_entry_9 : decode cX7_entry 9 = .ok (.iload_n 1, 1) := by decide +kernel
theorem dX7_entry_10 : decode cX7_entry 10 = .ok (.aload_n 0, 1) := by decide +kernel
theorem dX7_entry_11 : decode cX7_entry 11 = .ok (.getfield 219, 3) := by decide +kernel
theorem dX7_entry_14 : decode cX7_entry 14 = .ok (.if_icmp .lt 9, 3) := by decide +kernel
theorem dX7_entry_17 : decode cX7_entry 17 = .ok (.ldc2_w 222, 3) := by decide +kernel
theorem dX7_entry_20 : decode cX7_entry 20 = .ok (.goto 31, 3) := by decide +kernel
theorem dX7_entry_23 : decode cX7_entry 23 = .ok (.iload_n 2, 1) := by decide +kernel
theorem dX7_entry_24 : decode cX7_entry 24 = .ok (.i2l, 1) := by decide +kernel
theorem dX7_entry_25 : decode cX7_entry 25 = .ok (.lconst 0, 1) := by decide +kernel
theorem dX7_entry_26 : decode cX7_entry 26 = .ok (.ldc2_w 224, 3) := by decide +kernel
theorem dX7_entry_29 : decode cX7_entry 29 = .ok (.invokestatic 122, 3) := by decide +kernel
theorem dX7_entry_32 : decode cX7_entry 32 = .ok (.ifCond .ne 9, 3) := by decide +kernel
theorem dX7_entry_35 : decode cX7_entry 35 = .ok (.ldc2_w 226, 3) := by decide +kernel
theorem dX7_entry_38 : decode cX7_entry 38 = .ok (.goto 13, 3) := by decide +kernel
theorem dX7_entry_41 : decode cX7_entry 41 = .ok (.aload_n 0, 1) := by decide +kernel
theorem dX7_entry_42 : decode cX7_entry 42 = .ok (.getfield 54, 3) := by decide +kernel
theorem dX7_entry_45 : decode cX7_entry 45 = .ok (.iconst 5, 1) := by decide +kernel
theorem dX7_entry_46 : decode cX7_entry 46 = .ok (.iload_n 1, 1) := by decide +kernel
theorem dX7_entry_47 : decode cX7_entry 47 = .ok (.imul, 1) := by decide +kernel
theorem dX7_entry_48 : decode cX7_entry 48 = .ok (.iload_n 2, 1) := by decide +kernel
theorem dX7_entry_49 : decode cX7_entry 49 = .ok (.iadd, 1) := by decide +kernel
theorem dX7_entry_50 : decode cX7_entry 50 = .ok (.laload, 1) := by decide +kernel
theorem dX7_entry_51 : decode cX7_entry 51 = .ok (.lreturn, 1) := by decide +kernel
theorem dX7_side_0 : decode cX7_side 0 = .ok (.aload_n 0, 1) := by decide +kernel
theorem dX7_side_1 : decode cX7_side 1 = .ok (.iconst 0, 1) := by decide +kernel
theorem dX7_side_2 : decode cX7_side 2 = .ok (.putfield 76, 3) := by decide +kernel
theorem dX7_side_5 : decode cX7_side 5 = .ok (.iload_n 1, 1) := by decide +kernel
theorem dX7_side_6 : decode cX7_side 6 = .ok (.ifCond .lt 11, 3) := by decide +kernel
theorem dX7_side_9 : decode cX7_side 9 = .ok (.iload_n 1, 1) := by decide +kernel
theorem dX7_side_10 : decode cX7_side 10 = .ok (.aload_n 0, 1) := by decide +kernel
theorem dX7_side_11 : decode cX7_side 11 = .ok (.getfield 219, 3) := by decide +kernel
theorem dX7_side_14 : decode cX7_side 14 = .ok (.if_icmp .lt 7, 3) := by decide +kernel
theorem dX7_side_17 : decode cX7_side 17 = .ok (.iconst (-1), 1) := by decide +kernel
theorem dX7_side_18 : decode cX7_side 18 = .ok (.goto 14, 3) := by decide +kernel
theorem dX7_side_21 : decode cX7_side 21 = .ok (.aload_n 0, 1) := by decide +kernel
theorem dX7_side_22 : decode cX7_side 22 = .ok (.getfield 54, 3) := by decide +kernel
theorem dX7_side_25 : decode cX7_side 25 = .ok (.iconst 5, 1) := by decide +kernel
theorem dX7_side_26 : decode cX7_side 26 = .ok (.iload_n 1, 1) := by decide +kernel
theorem dX7_side_27 : decode cX7_side 27 = .ok (.imul, 1) := by decide +kernel
theorem dX7_side_28 : decode cX7_side 28 = .ok (.iconst 4, 1) := by decide +kernel
theorem dX7_side_29 : decode cX7_side 29 = .ok (.iadd, 1) := by decide +kernel
theorem dX7_side_30 : decode cX7_side 30 = .ok (.laload, 1) := by decide +kernel
theorem dX7_side_31 : decode cX7_side 31 = .ok (.l2i, 1) := by decide +kernel
theorem dX7_side_32 : decode cX7_side 32 = .ok (.ireturn, 1) := by decide +kernel
theorem dX7_within_0 : decode cX7_within 0 = .ok (.aload_n 0, 1) := by decide +kernel
theorem dX7_within_1 : decode cX7_within 1 = .ok (.iload_n 2, 1) := by decide +kernel
theorem dX7_within_2 : decode cX7_within 2 = .ok (.invokevirtual 175, 3) := by decide +kernel
theorem dX7_within_5 : decode cX7_within 5 = .ok (.ifCond .eq 5, 3) := by decide +kernel
theorem dX7_within_8 : decode cX7_within 8 = .ok (.lconst 0, 1) := by decide +kernel
theorem dX7_within_9 : decode cX7_within 9 = .ok (.lreturn, 1) := by decide +kernel
theorem dX7_within_10 : decode cX7_within 10 = .ok (.aload_n 0, 1) := by decide +kernel
theorem dX7_within_11 : decode cX7_within 11 = .ok (.iload_n 1, 1) := by decide +kernel
theorem dX7_within_12 : decode cX7_within 12 = .ok (.iload_n 2, 1) := by decide +kernel
theorem dX7_within_13 : decode cX7_within 13 = .ok (.invokevirtual 209, 3) := by decide +kernel
theorem dX7_within_16 : decode cX7_within 16 = .ok (.lconst 0, 1) := by decide +kernel
theorem dX7_within_17 : decode cX7_within 17 = .ok (.lstore_n 3, 1) := by decide +kernel
theorem dX7_within_18 : decode cX7_within 18 = .ok (.iconst 0, 1) := by decide +kernel
theorem dX7_within_19 : decode cX7_within 19 = .ok (.istore 5, 2) := by decide +kernel
theorem dX7_within_21 : decode cX7_within 21 = .ok (.iload 5, 2) := by decide +kernel
theorem dX7_within_23 : decode cX7_within 23 = .ok (.aload_n 0, 1) := by decide +kernel
theorem dX7_within_24 : decode cX7_within 24 = .ok (.getfield 194, 3) := by decide +kernel
theorem dX7_within_27 : decode cX7_within 27 = .ok (.if_icmp .ge 87, 3) := by decide +kernel
theorem dX7_within_30 : decode cX7_within 30 = .ok (.aload_n 0, 1) := by decide +kernel
theorem dX7_within_31 : decode cX7_within 31 = .ok (.getfield 66, 3) := by decide +kernel
theorem dX7_within_34 : decode cX7_within 34 = .ok (.iload 5, 2) := by decide +kernel
theorem dX7_within_36 : decode cX7_within 36 = .ok (.iaload, 1) := by decide +kernel
theorem dX7_within_37 : decode cX7_within 37 = .ok (.istore 6, 2) := by decide +kernel
theorem dX7_within_39 : decode cX7_within 39 = .ok (.aload_n 0, 1) := by decide +kernel
theorem dX7_within_40 : decode cX7_within 40 = .ok (.getfield 69, 3) := by decide +kernel
theorem dX7_within_43 : decode cX7_within 43 = .ok (.iload 5, 2) := by decide +kernel
theorem dX7_within_45 : decode cX7_within 45 = .ok (.iaload, 1) := by decide +kernel
theorem dX7_within_46 : decode cX7_within 46 = .ok (.istore 7, 2) := by decide +kernel
theorem dX7_within_48 : decode cX7_within 48 = .ok (.lload_n 3, 1) := by decide +kernel
theorem dX7_within_49 : decode cX7_within 49 = .ok (.aload_n 0, 1) := by decide +kernel
theorem dX7_within_50 : decode cX7_within 50 = .ok (.getfield 60, 3) := by decide +kernel
theorem dX7_within_53 : decode cX7_within 53 = .ok (.iload 7, 2) := by decide +kernel
theorem dX7_within_55 : decode cX7_within 55 = .ok (.laload, 1) := by decide +kernel
theorem dX7_within_56 : decode cX7_within 56 = .ok (.aload_n 0, 1) := by decide +kernel
theorem dX7_within_57 : decode cX7_within 57 = .ok (.getfield 63, 3) := by decide +kernel
theorem dX7_within_60 : decode cX7_within 60 = .ok (.iload 6, 2) := by decide +kernel
theorem dX7_within_62 : decode cX7_within 62 = .ok (.laload, 1) := by decide +kernel
theorem dX7_within_63 : decode cX7_within 63 = .ok (.lmul, 1) := by decide +kernel
theorem dX7_within_64 : decode cX7_within 64 = .ok (.aload_n 0, 1) := by decide +kernel
theorem dX7_within_65 : decode cX7_within 65 = .ok (.getfield 60, 3) := by decide +kernel
theorem dX7_within_68 : decode cX7_within 68 = .ok (.iload 6, 2) := by decide +kernel
theorem dX7_within_70 : decode cX7_within 70 = .ok (.laload, 1) := by decide +kernel
theorem dX7_within_71 : decode cX7_within 71 = .ok (.aload_n 0, 1) := by decide +kernel
theorem dX7_within_72 : decode cX7_within 72 = .ok (.getfield 63, 3) := by decide +kernel
theorem dX7_within_75 : decode cX7_within 75 = .ok (.iload 7, 2) := by decide +kernel
theorem dX7_within_77 : decode cX7_within 77 = .ok (.laload, 1) := by decide +kernel
theorem dX7_within_78 : decode cX7_within 78 = .ok (.lmul, 1) := by decide +kernel
theorem dX7_within_79 : decode cX7_within 79 = .ok (.lsub, 1) := by decide +kernel
theorem dX7_within_80 : decode cX7_within 80 = .ok (.ldc2_w 228, 3) := by decide +kernel
theorem dX7_within_83 : decode cX7_within 83 = .ok (.aload_n 0, 1) := by decide +kernel
theorem dX7_within_84 : decode cX7_within 84 = .ok (.iload_n 2, 1) := by decide +kernel
theorem dX7_within_85 : decode cX7_within 85 = .ok (.invokevirtual 169, 3) := by decide +kernel
theorem dX7_within_88 : decode cX7_within 88 = .ok (.lmul, 1) := by decide +kernel
theorem dX7_within_89 : decode cX7_within 89 = .ok (.lmul, 1) := by decide +kernel
theorem dX7_within_90 : decode cX7_within 90 = .ok (.aload_n 0, 1) := by decide +kernel
theorem dX7_within_91 : decode cX7_within 91 = .ok (.getfield 63, 3) := by decide +kernel
theorem dX7_within_94 : decode cX7_within 94 = .ok (.iload 6, 2) := by decide +kernel
theorem dX7_within_96 : decode cX7_within 96 = .ok (.laload, 1) := by decide +kernel
theorem dX7_within_97 : decode cX7_within 97 = .ok (.aload_n 0, 1) := by decide +kernel
theorem dX7_within_98 : decode cX7_within 98 = .ok (.getfield 63, 3) := by decide +kernel
theorem dX7_within_101 : decode cX7_within 101 = .ok (.iload 7, 2) := by decide +kernel
theorem dX7_within_103 : decode cX7_within 103 = .ok (.laload, 1) := by decide +kernel
theorem dX7_within_104 : decode cX7_within 104 = .ok (.lmul, 1) := by decide +kernel
theorem dX7_within_105 : decode cX7_within 105 = .ok (.ldiv, 1) := by decide +kernel
theorem dX7_within_106 : decode cX7_within 106 = .ok (.ladd, 1) := by decide +kernel
theorem dX7_within_107 : decode cX7_within 107 = .ok (.lstore_n 3, 1) := by decide +kernel
theorem dX7_within_108 : decode cX7_within 108 = .ok (.iinc 5 1, 3) := by decide +kernel
theorem dX7_within_111 : decode cX7_within 111 = .ok (.goto (-90), 3) := by decide +kernel
theorem dX7_within_114 : decode cX7_within 114 = .ok (.lload_n 3, 1) := by decide +kernel
theorem dX7_within_115 : decode cX7_within 115 = .ok (.lreturn, 1) := by decide +kernel
theorem dX7_inside_0 : decode cX7_inside 0 = .ok (.aload_n 0, 1) := by decide +kernel
theorem dX7_inside_1 : decode cX7_inside 1 = .ok (.iconst 0, 1) := by decide +kernel
theorem dX7_inside_2 : decode cX7_inside 2 = .ok (.putfield 76, 3) := by decide +kernel
theorem dX7_inside_5 : decode cX7_inside 5 = .ok (.aload_n 0, 1) := by decide +kernel
theorem dX7_inside_6 : decode cX7_inside 6 = .ok (.iload_n 1, 1) := by decide +kernel
theorem dX7_inside_7 : decode cX7_inside 7 = .ok (.invokevirtual 137, 3) := by decide +kernel
theorem dX7_inside_10 : decode cX7_inside 10 = .ok (.ifCond .eq 32, 3) := by decide +kernel
theorem dX7_inside_13 : decode cX7_inside 13 = .ok (.aload_n 0, 1) := by decide +kernel
theorem dX7_inside_14 : decode cX7_inside 14 = .ok (.iload_n 2, 1) := by decide +kernel
theorem dX7_inside_15 : decode cX7_inside 15 = .ok (.invokevirtual 164, 3) := by decide +kernel
theorem dX7_inside_18 : decode cX7_inside 18 = .ok (.ifCond .eq 24, 3) := by decide +kernel
theorem dX7_inside_21 : decode cX7_inside 21 = .ok (.iload_n 3, 1) := by decide +kernel
theorem dX7_inside_22 : decode cX7_inside 22 = .ok (.iconst (-1), 1) := by decide +kernel
theorem dX7_inside_23 : decode cX7_inside 23 = .ok (.if_icmp .lt 19, 3) := by decide +kernel
theorem dX7_inside_26 : decode cX7_inside 26 = .ok (.iload_n 3, 1) := by decide +kernel
theorem dX7_inside_27 : decode cX7_inside 27 = .ok (.ifCond .lt 19, 3) := by decide +kernel
theorem dX7_inside_30 : decode cX7_inside 30 = .ok (.iload_n 3, 1) := by decide +kernel
theorem dX7_inside_31 : decode cX7_inside 31 = .ok (.aload_n 0, 1) := by decide +kernel
theorem dX7_inside_32 : decode cX7_inside 32 = .ok (.getfield 42, 3) := by decide +kernel
theorem dX7_inside_35 : decode cX7_inside 35 = .ok (.iload_n 2, 1) := by decide +kernel
theorem dX7_inside_36 : decode cX7_inside 36 = .ok (.iaload, 1) := by decide +kernel
theorem dX7_inside_37 : decode cX7_inside 37 = .ok (.iconst 1, 1) := by decide +kernel
theorem dX7_inside_38 : decode cX7_inside 38 = .ok (.isub, 1) := by decide +kernel
theorem dX7_inside_39 : decode cX7_inside 39 = .ok (.if_icmp .lt 7, 3) := by decide +kernel
theorem dX7_inside_42 : decode cX7_inside 42 = .ok (.ldc2_w 222, 3) := by decide +kernel
theorem dX7_inside_45 : decode cX7_inside 45 = .ok (.lreturn, 1) := by decide +kernel
theorem dX7_inside_46 : decode cX7_inside 46 = .ok (.lconst 0, 1) := by decide +kernel
theorem dX7_inside_47 : decode cX7_inside 47 = .ok (.lstore 4, 2) := by decide +kernel
theorem dX7_inside_49 : decode cX7_inside 49 = .ok (.iconst 0, 1) := by decide +kernel
theorem dX7_inside_50 : decode cX7_inside 50 = .ok (.istore 6, 2) := by decide +kernel
theorem dX7_inside_52 : decode cX7_inside 52 = .ok (.iload 6, 2) := by decide +kernel
theorem dX7_inside_54 : decode cX7_inside 54 = .ok (.iconst 1, 1) := by decide +kernel
theorem dX7_inside_55 : decode cX7_inside 55 = .ok (.iadd, 1) := by decide +kernel
theorem dX7_inside_56 : decode cX7_inside 56 = .ok (.aload_n 0, 1) := by decide +kernel
theorem dX7_inside_57 : decode cX7_inside 57 = .ok (.getfield 42, 3) := by decide +kernel
theorem dX7_inside_60 : decode cX7_inside 60 = .ok (.iload_n 2, 1) := by decide +kernel
theorem dX7_inside_61 : decode cX7_inside 61 = .ok (.iaload, 1) := by decide +kernel
theorem dX7_inside_62 : decode cX7_inside 62 = .ok (.if_icmp .ge 40, 3) := by decide +kernel
theorem dX7_inside_65 : decode cX7_inside 65 = .ok (.lload 4, 2) := by decide +kernel
theorem dX7_inside_67 : decode cX7_inside 67 = .ok (.iload_n 3, 1) := by decide +kernel
theorem dX7_inside_68 : decode cX7_inside 68 = .ok (.ifCond .lt 9, 3) := by decide +kernel
theorem dX7_inside_71 : decode cX7_inside 71 = .ok (.iload_n 3, 1) := by decide +kernel
theorem dX7_inside_72 : decode cX7_inside 72 = .ok (.iload 6, 2) := by decide +kernel
theorem dX7_inside_74 : decode cX7_inside 74 = .ok (.if_icmp .ne 18, 3) := by decide +kernel
theorem dX7_inside_77 : decode cX7_inside 77 = .ok (.aload_n 0, 1) := by decide +kernel
theorem dX7_inside_78 : decode cX7_inside 78 = .ok (.iload_n 1, 1) := by decide +kernel
theorem dX7_inside_79 : decode cX7_inside 79 = .ok (.bipush 30, 2) := by decide +kernel
theorem dX7_inside_81 : decode cX7_inside 81 = .ok (.iload_n 2, 1) := by decide +kernel
theorem dX7_inside_82 : decode cX7_inside 82 = .ok (.imul, 1) := by decide +kernel
theorem dX7_inside_83 : decode cX7_inside 83 = .ok (.iload 6, 2) := by decide +kernel
theorem dX7_inside_85 : decode cX7_inside 85 = .ok (.iadd, 1) := by decide +kernel
theorem dX7_inside_86 : decode cX7_inside 86 = .ok (.invokevirtual 230, 3) := by decide +kernel
theorem dX7_inside_89 : decode cX7_inside 89 = .ok (.goto 4, 3) := by decide +kernel
theorem dX7_inside_92 : decode cX7_inside 92 = .ok (.lconst 0, 1) := by decide +kernel
theorem dX7_inside_93 : decode cX7_inside 93 = .ok (.ladd, 1) := by decide +kernel
theorem dX7_inside_94 : decode cX7_inside 94 = .ok (.lstore 4, 2) := by decide +kernel
theorem dX7_inside_96 : decode cX7_inside 96 = .ok (.iinc 6 1, 3) := by decide +kernel
theorem dX7_inside_99 : decode cX7_inside 99 = .ok (.goto (-47), 3) := by decide +kernel
theorem dX7_inside_102 : decode cX7_inside 102 = .ok (.lload 4, 2) := by decide +kernel
theorem dX7_inside_104 : decode cX7_inside 104 = .ok (.lreturn, 1) := by decide +kernel
theorem dX7_maybe_0 : decode cX7_maybe 0 = .ok (.aload_n 0, 1) := by decide +kernel
theorem dX7_maybe_1 : decode cX7_maybe 1 = .ok (.iconst 0, 1) := by decide +kernel
theorem dX7_maybe_2 : decode cX7_maybe 2 = .ok (.putfield 76, 3) := by decide +kernel
theorem dX7_maybe_5 : decode cX7_maybe 5 = .ok (.iload_n 2, 1) := by decide +kernel
theorem dX7_maybe_6 : decode cX7_maybe 6 = .ok (.istore_n 3, 1) := by decide +kernel
theorem dX7_maybe_7 : decode cX7_maybe 7 = .ok (.iconst (-1), 1) := by decide +kernel
theorem dX7_maybe_8 : decode cX7_maybe 8 = .ok (.istore 4, 2) := by decide +kernel
theorem dX7_maybe_10 : decode cX7_maybe 10 = .ok (.iconst 0, 1) := by decide +kernel
theorem dX7_maybe_11 : decode cX7_maybe 11 = .ok (.istore 5, 2) := by decide +kernel
theorem dX7_maybe_13 : decode cX7_maybe 13 = .ok (.aload_n 0, 1) := by decide +kernel
theorem dX7_maybe_14 : decode cX7_maybe 14 = .ok (.iload_n 1, 1) := by decide +kernel
theorem dX7_maybe_15 : decode cX7_maybe 15 = .ok (.invokevirtual 164, 3) := by decide +kernel
theorem dX7_maybe_18 : decode cX7_maybe 18 = .ok (.ifCond .eq 62, 3) := by decide +kernel
theorem dX7_maybe_21 : decode cX7_maybe 21 = .ok (.iload 5, 2) := by decide +kernel
theorem dX7_maybe_23 : decode cX7_maybe 23 = .ok (.iconst 1, 1) := by decide +kernel
theorem dX7_maybe_24 : decode cX7_maybe 24 = .ok (.iadd, 1) := by decide +kernel
theorem dX7_maybe_25 : decode cX7_maybe 25 = .ok (.aload_n 0, 1) := by decide +kernel
theorem dX7_maybe_26 : decode cX7_maybe 26 = .ok (.getfield 42, 3) := by decide +kernel
theorem dX7_maybe_29 : decode cX7_maybe 29 = .ok (.iload_n 1, 1) := by decide +kernel
theorem dX7_maybe_30 : decode cX7_maybe 30 = .ok (.iaload, 1) := by decide +kernel
theorem dX7_maybe_31 : decode cX7_maybe 31 = .ok (.if_icmp .ge 49, 3) := by decide +kernel
theorem dX7_maybe_34 : decode cX7_maybe 34 = .ok (.iload 4, 2) := by decide +kernel
theorem dX7_maybe_36 : decode cX7_maybe 36 = .ok (.ifCond .ge 44, 3) := by decide +kernel
theorem dX7_maybe_39 : decode cX7_maybe 39 = .ok (.aload_n 0, 1) := by decide +kernel
theorem dX7_maybe_40 : decode cX7_maybe 40 = .ok (.bipush 30, 2) := by decide +kernel
theorem dX7_maybe_42 : decode cX7_maybe 42 = .ok (.iload_n 1, 1) := by decide +kernel
theorem dX7_maybe_43 : decode cX7_maybe 43 = .ok (.imul, 1) := by decide +kernel
theorem dX7_maybe_44 : decode cX7_maybe 44 = .ok (.iload 5, 2) := by decide +kernel
theorem dX7_maybe_46 : decode cX7_maybe 46 = .ok (.iadd, 1) := by decide +kernel
theorem dX7_maybe_47 : decode cX7_maybe 47 = .ok (.invokevirtual 175, 3) := by decide +kernel
theorem dX7_maybe_50 : decode cX7_maybe 50 = .ok (.ifCond .eq 24, 3) := by decide +kernel
theorem dX7_maybe_53 : decode cX7_maybe 53 = .ok (.iload_n 3, 1) := by decide +kernel
theorem dX7_maybe_54 : decode cX7_maybe 54 = .ok (.ifCond .ne 13, 3) := by decide +kernel
theorem dX7_maybe_57 : decode cX7_maybe 57 = .ok (.bipush 30, 2) := by decide +kernel
theorem dX7_maybe_59 : decode cX7_maybe 59 = .ok (.iload_n 1, 1) := by decide +kernel
theorem dX7_maybe_60 : decode cX7_maybe 60 = .ok (.imul, 1) := by decide +kernel
theorem dX7_maybe_61 : decode cX7_maybe 61 = .ok (.iload 5, 2) := by decide +kernel
theorem dX7_maybe_63 : decode cX7_maybe 63 = .ok (.iadd, 1) := by decide +kernel
theorem dX7_maybe_64 : decode cX7_maybe 64 = .ok (.goto 5, 3) := by decide +kernel
theorem dX7_maybe_67 : decode cX7_maybe 67 = .ok (.iload 4, 2) := by decide +kernel
theorem dX7_maybe_69 : decode cX7_maybe 69 = .ok (.istore 4, 2) := by decide +kernel
theorem dX7_maybe_71 : decode cX7_maybe 71 = .ok (.iinc 3 (-1), 3) := by decide +kernel
theorem dX7_maybe_74 : decode cX7_maybe 74 = .ok (.iinc 5 1, 3) := by decide +kernel
theorem dX7_maybe_77 : decode cX7_maybe 77 = .ok (.goto (-64), 3) := by decide +kernel
theorem dX7_maybe_80 : decode cX7_maybe 80 = .ok (.iload 4, 2) := by decide +kernel
theorem dX7_maybe_82 : decode cX7_maybe 82 = .ok (.ifCond .ge 5, 3) := by decide +kernel
theorem dX7_maybe_85 : decode cX7_maybe 85 = .ok (.iconst 0, 1) := by decide +kernel
theorem dX7_maybe_86 : decode cX7_maybe 86 = .ok (.ireturn, 1) := by decide +kernel
theorem dX7_maybe_87 : decode cX7_maybe 87 = .ok (.aload_n 0, 1) := by decide +kernel
theorem dX7_maybe_88 : decode cX7_maybe 88 = .ok (.iload 4, 2) := by decide +kernel
theorem dX7_maybe_90 : decode cX7_maybe 90 = .ok (.invokevirtual 169, 3) := by decide +kernel
theorem dX7_maybe_93 : decode cX7_maybe 93 = .ok (.ldc2_w 234, 3) := by decide +kernel
theorem dX7_maybe_96 : decode cX7_maybe 96 = .ok (.ladd, 1) := by decide +kernel
theorem dX7_maybe_97 : decode cX7_maybe 97 = .ok (.ldc2_w 173, 3) := by decide +kernel
theorem dX7_maybe_100 : decode cX7_maybe 100 = .ok (.ldiv, 1) := by decide +kernel
theorem dX7_maybe_101 : decode cX7_maybe 101 = .ok (.lstore 5, 2) := by decide +kernel
theorem dX7_maybe_103 : decode cX7_maybe 103 = .ok (.aload_n 0, 1) := by decide +kernel
theorem dX7_maybe_104 : decode cX7_maybe 104 = .ok (.getfield 48, 3) := by decide +kernel
theorem dX7_maybe_107 : decode cX7_maybe 107 = .ok (.iload 4, 2) := by decide +kernel
theorem dX7_maybe_109 : decode cX7_maybe 109 = .ok (.laload, 1) := by decide +kernel
theorem dX7_maybe_110 : decode cX7_maybe 110 = .ok (.aload_n 0, 1) := by decide +kernel
theorem dX7_maybe_111 : decode cX7_maybe 111 = .ok (.getfield 48, 3) := by decide +kernel
theorem dX7_maybe_114 : decode cX7_maybe 114 = .ok (.iload 4, 2) := by decide +kernel
theorem dX7_maybe_116 : decode cX7_maybe 116 = .ok (.iconst 1, 1) := by decide +kernel
theorem dX7_maybe_117 : decode cX7_maybe 117 = .ok (.iadd, 1) := by decide +kernel
theorem dX7_maybe_118 : decode cX7_maybe 118 = .ok (.laload, 1) := by decide +kernel
theorem dX7_maybe_119 : decode cX7_maybe 119 = .ok (.invokestatic 87, 3) := by decide +kernel
theorem dX7_maybe_122 : decode cX7_maybe 122 = .ok (.lload 5, 2) := by decide +kernel
theorem dX7_maybe_124 : decode cX7_maybe 124 = .ok (.lsub, 1) := by decide +kernel
theorem dX7_maybe_125 : decode cX7_maybe 125 = .ok (.lstore 7, 2) := by decide +kernel
theorem dX7_maybe_127 : decode cX7_maybe 127 = .ok (.aload_n 0, 1) := by decide +kernel
theorem dX7_maybe_128 : decode cX7_maybe 128 = .ok (.getfield 48, 3) := by decide +kernel
theorem dX7_maybe_131 : decode cX7_maybe 131 = .ok (.iload 4, 2) := by decide +kernel
theorem dX7_maybe_133 : decode cX7_maybe 133 = .ok (.laload, 1) := by decide +kernel
theorem dX7_maybe_134 : decode cX7_maybe 134 = .ok (.aload_n 0, 1) := by decide +kernel
theorem dX7_maybe_135 : decode cX7_maybe 135 = .ok (.getfield 48, 3) := by decide +kernel
theorem dX7_maybe_138 : decode cX7_maybe 138 = .ok (.iload 4, 2) := by decide +kernel
theorem dX7_maybe_140 : decode cX7_maybe 140 = .ok (.iconst 1, 1) := by decide +kernel
theorem dX7_maybe_141 : decode cX7_maybe 141 = .ok (.iadd, 1) := by decide +kernel
theorem dX7_maybe_142 : decode cX7_maybe 142 = .ok (.laload, 1) := by decide +kernel
theorem dX7_maybe_143 : decode cX7_maybe 143 = .ok (.invokestatic 91, 3) := by decide +kernel
theorem dX7_maybe_146 : decode cX7_maybe 146 = .ok (.lload 5, 2) := by decide +kernel
theorem dX7_maybe_148 : decode cX7_maybe 148 = .ok (.ladd, 1) := by decide +kernel
theorem dX7_maybe_149 : decode cX7_maybe 149 = .ok (.lstore 9, 2) := by decide +kernel
theorem dX7_maybe_151 : decode cX7_maybe 151 = .ok (.aload_n 0, 1) := by decide +kernel
theorem dX7_maybe_152 : decode cX7_maybe 152 = .ok (.getfield 51, 3) := by decide +kernel
theorem dX7_maybe_155 : decode cX7_maybe 155 = .ok (.iload 4, 2) := by decide +kernel
theorem dX7_maybe_157 : decode cX7_maybe 157 = .ok (.laload, 1) := by decide +kernel
theorem dX7_maybe_158 : decode cX7_maybe 158 = .ok (.aload_n 0, 1) := by decide +kernel
theorem dX7_maybe_159 : decode cX7_maybe 159 = .ok (.getfield 51, 3) := by decide +kernel
theorem dX7_maybe_162 : decode cX7_maybe 162 = .ok (.iload 4, 2) := by decide +kernel
theorem dX7_maybe_164 : decode cX7_maybe 164 = .ok (.iconst 1, 1) := by decide +kernel
theorem dX7_maybe_165 : decode cX7_maybe 165 = .ok (.iadd, 1) := by decide +kernel
theorem dX7_maybe_166 : decode cX7_maybe 166 = .ok (.laload, 1) := by decide +kernel
theorem dX7_maybe_167 : decode cX7_maybe 167 = .ok (.invokestatic 87, 3) := by decide +kernel
theorem dX7_maybe_170 : decode cX7_maybe 170 = .ok (.lload 5, 2) := by decide +kernel
theorem dX7_maybe_172 : decode cX7_maybe 172 = .ok (.lsub, 1) := by decide +kernel
theorem dX7_maybe_173 : decode cX7_maybe 173 = .ok (.lstore 11, 2) := by decide +kernel
theorem dX7_maybe_175 : decode cX7_maybe 175 = .ok (.aload_n 0, 1) := by decide +kernel
theorem dX7_maybe_176 : decode cX7_maybe 176 = .ok (.getfield 51, 3) := by decide +kernel
theorem dX7_maybe_179 : decode cX7_maybe 179 = .ok (.iload 4, 2) := by decide +kernel
theorem dX7_maybe_181 : decode cX7_maybe 181 = .ok (.laload, 1) := by decide +kernel
theorem dX7_maybe_182 : decode cX7_maybe 182 = .ok (.aload_n 0, 1) := by decide +kernel
theorem dX7_maybe_183 : decode cX7_maybe 183 = .ok (.getfield 51, 3) := by decide +kernel
theorem dX7_maybe_186 : decode cX7_maybe 186 = .ok (.iload 4, 2) := by decide +kernel
theorem dX7_maybe_188 : decode cX7_maybe 188 = .ok (.iconst 1, 1) := by decide +kernel
theorem dX7_maybe_189 : decode cX7_maybe 189 = .ok (.iadd, 1) := by decide +kernel
theorem dX7_maybe_190 : decode cX7_maybe 190 = .ok (.laload, 1) := by decide +kernel
theorem dX7_maybe_191 : decode cX7_maybe 191 = .ok (.invokestatic 91, 3) := by decide +kernel
theorem dX7_maybe_194 : decode cX7_maybe 194 = .ok (.lload 5, 2) := by decide +kernel
theorem dX7_maybe_196 : decode cX7_maybe 196 = .ok (.ladd, 1) := by decide +kernel
theorem dX7_maybe_197 : decode cX7_maybe 197 = .ok (.lstore 13, 2) := by decide +kernel
theorem dX7_maybe_199 : decode cX7_maybe 199 = .ok (.iconst 0, 1) := by decide +kernel
theorem dX7_maybe_200 : decode cX7_maybe 200 = .ok (.istore 15, 2) := by decide +kernel
theorem dX7_maybe_202 : decode cX7_maybe 202 = .ok (.iload 15, 2) := by decide +kernel
theorem dX7_maybe_204 : decode cX7_maybe 204 = .ok (.aload_n 0, 1) := by decide +kernel
theorem dX7_maybe_205 : decode cX7_maybe 205 = .ok (.getfield 72, 3) := by decide +kernel
theorem dX7_maybe_208 : decode cX7_maybe 208 = .ok (.if_icmp .ge 187, 3) := by decide +kernel
theorem dX7_maybe_211 : decode cX7_maybe 211 = .ok (.aload_n 0, 1) := by decide +kernel
theorem dX7_maybe_212 : decode cX7_maybe 212 = .ok (.getfield 20, 3) := by decide +kernel
theorem dX7_maybe_215 : decode cX7_maybe 215 = .ok (.iload 15, 2) := by decide +kernel
theorem dX7_maybe_217 : decode cX7_maybe 217 = .ok (.iaload, 1) := by decide +kernel
theorem dX7_maybe_218 : decode cX7_maybe 218 = .ok (.ifCond .le 171, 3) := by decide +kernel
theorem dX7_maybe_221 : decode cX7_maybe 221 = .ok (.bipush 48, 2) := by decide +kernel
theorem dX7_maybe_223 : decode cX7_maybe 223 = .ok (.iload 15, 2) := by decide +kernel
theorem dX7_maybe_225 : decode cX7_maybe 225 = .ok (.imul, 1) := by decide +kernel
theorem dX7_maybe_226 : decode cX7_maybe 226 = .ok (.istore 16, 2) := by decide +kernel
theorem dX7_maybe_228 : decode cX7_maybe 228 = .ok (.aload_n 0, 1) := by decide +kernel
theorem dX7_maybe_229 : decode cX7_maybe 229 = .ok (.getfield 7, 3) := by decide +kernel
theorem dX7_maybe_232 : decode cX7_maybe 232 = .ok (.iload 16, 2) := by decide +kernel
theorem dX7_maybe_234 : decode cX7_maybe 234 = .ok (.laload, 1) := by decide +kernel
theorem dX7_maybe_235 : decode cX7_maybe 235 = .ok (.lstore 17, 2) := by decide +kernel
theorem dX7_maybe_237 : decode cX7_maybe 237 = .ok (.aload_n 0, 1) := by decide +kernel
theorem dX7_maybe_238 : decode cX7_maybe 238 = .ok (.getfield 7, 3) := by decide +kernel
theorem dX7_maybe_241 : decode cX7_maybe 241 = .ok (.iload 16, 2) := by decide +kernel
theorem dX7_maybe_243 : decode cX7_maybe 243 = .ok (.laload, 1) := by decide +kernel
theorem dX7_maybe_244 : decode cX7_maybe 244 = .ok (.lstore 19, 2) := by decide +kernel
theorem dX7_maybe_246 : decode cX7_maybe 246 = .ok (.aload_n 0, 1) := by decide +kernel
theorem dX7_maybe_247 : decode cX7_maybe 247 = .ok (.getfield 13, 3) := by decide +kernel
theorem dX7_maybe_250 : decode cX7_maybe 250 = .ok (.iload 16, 2) := by decide +kernel
theorem dX7_maybe_252 : decode cX7_maybe 252 = .ok (.laload, 1) := by decide +kernel
theorem dX7_maybe_253 : decode cX7_maybe 253 = .ok (.lstore 21, 2) := by decide +kernel
theorem dX7_maybe_255 : decode cX7_maybe 255 = .ok (.aload_n 0, 1) := by decide +kernel
theorem dX7_maybe_256 : decode cX7_maybe 256 = .ok (.getfield 13, 3) := by decide +kernel
theorem dX7_maybe_259 : decode cX7_maybe 259 = .ok (.iload 16, 2) := by decide +kernel
theorem dX7_maybe_261 : decode cX7_maybe 261 = .ok (.laload, 1) := by decide +kernel
theorem dX7_maybe_262 : decode cX7_maybe 262 = .ok (.lstore 23, 2) := by decide +kernel
theorem dX7_maybe_264 : decode cX7_maybe 264 = .ok (.iconst 1, 1) := by decide +kernel
theorem dX7_maybe_265 : decode cX7_maybe 265 = .ok (.istore 25, 2) := by decide +kernel
theorem dX7_maybe_267 : decode cX7_maybe 267 = .ok (.iload 25, 2) := by decide +kernel
theorem dX7_maybe_269 : decode cX7_maybe 269 = .ok (.aload_n 0, 1) := by decide +kernel
theorem dX7_maybe_270 : decode cX7_maybe 270 = .ok (.getfield 16, 3) := by decide +kernel
theorem dX7_maybe_273 : decode cX7_maybe 273 = .ok (.iconst 4, 1) := by decide +kernel
theorem dX7_maybe_274 : decode cX7_maybe 274 = .ok (.iload 15, 2) := by decide +kernel
theorem dX7_maybe_276 : decode cX7_maybe 276 = .ok (.imul, 1) := by decide +kernel
theorem dX7_maybe_277 : decode cX7_maybe 277 = .ok (.iaload, 1) := by decide +kernel
theorem dX7_maybe_278 : decode cX7_maybe 278 = .ok (.if_icmp .ge 77, 3) := by decide +kernel
theorem dX7_maybe_281 : decode cX7_maybe 281 = .ok (.lload 17, 2) := by decide +kernel
theorem dX7_maybe_283 : decode cX7_maybe 283 = .ok (.aload_n 0, 1) := by decide +kernel
theorem dX7_maybe_284 : decode cX7_maybe 284 = .ok (.getfield 7, 3) := by decide +kernel
theorem dX7_maybe_287 : decode cX7_maybe 287 = .ok (.iload 16, 2) := by decide +kernel
theorem dX7_maybe_289 : decode cX7_maybe 289 = .ok (.iload 25, 2) := by decide +kernel
theorem dX7_maybe_291 : decode cX7_maybe 291 = .ok (.iadd, 1) := by decide +kernel
theorem dX7_maybe_292 : decode cX7_maybe 292 = .ok (.laload, 1) := by decide +kernel
theorem dX7_maybe_293 : decode cX7_maybe 293 = .ok (.invokestatic 87, 3) := by decide +kernel
theorem dX7_maybe_296 : decode cX7_maybe 296 = .ok (.lstore 17, 2) := by decide +kernel
theorem dX7_maybe_298 : decode cX7_maybe 298 = .ok (.lload 19, 2) := by decide +kernel
theorem dX7_maybe_300 : decode cX7_maybe 300 = .ok (.aload_n 0, 1) := by decide +kernel
theorem dX7_maybe_301 : decode cX7_maybe 301 = .ok (.getfield 7, 3) := by decide +kernel
theorem dX7_maybe_304 : decode cX7_maybe 304 = .ok (.iload 16, 2) := by decide +kernel
theorem dX7_maybe_306 : decode cX7_maybe 306 = .ok (.iload 25, 2) := by decide +kernel
theorem dX7_maybe_308 : decode cX7_maybe 308 = .ok (.iadd, 1) := by decide +kernel
theorem dX7_maybe_309 : decode cX7_maybe 309 = .ok (.laload, 1) := by decide +kernel
theorem dX7_maybe_310 : decode cX7_maybe 310 = .ok (.invokestatic 91, 3) := by decide +kernel
theorem dX7_maybe_313 : decode cX7_maybe 313 = .ok (.lstore 19, 2) := by decide +kernel
theorem dX7_maybe_315 : decode cX7_maybe 315 = .ok (.lload 21, 2) := by decide +kernel
theorem dX7_maybe_317 : decode cX7_maybe 317 = .ok (.aload_n 0, 1) := by decide +kernel
theorem dX7_maybe_318 : decode cX7_maybe 318 = .ok (.getfield 13, 3) := by decide +kernel
theorem dX7_maybe_321 : decode cX7_maybe 321 = .ok (.iload 16, 2) := by decide +kernel
theorem dX7_maybe_323 : decode cX7_maybe 323 = .ok (.iload 25, 2) := by decide +kernel
theorem dX7_maybe_325 : decode cX7_maybe 325 = .ok (.iadd, 1) := by decide +kernel
theorem dX7_maybe_326 : decode cX7_maybe 326 = .ok (.laload, 1) := by decide +kernel
theorem dX7_maybe_327 : decode cX7_maybe 327 = .ok (.invokestatic 87, 3) := by decide +kernel
theorem dX7_maybe_330 : decode cX7_maybe 330 = .ok (.lstore 21, 2) := by decide +kernel
theorem dX7_maybe_332 : decode cX7_maybe 332 = .ok (.lload 23, 2) := by decide +kernel
theorem dX7_maybe_334 : decode cX7_maybe 334 = .ok (.aload_n 0, 1) := by decide +kernel
theorem dX7_maybe_335 : decode cX7_maybe 335 = .ok (.getfield 13, 3) := by decide +kernel
theorem dX7_maybe_338 : decode cX7_maybe 338 = .ok (.iload 16, 2) := by decide +kernel
theorem dX7_maybe_340 : decode cX7_maybe 340 = .ok (.iload 25, 2) := by decide +kernel
theorem dX7_maybe_342 : decode cX7_maybe 342 = .ok (.iadd, 1) := by decide +kernel
theorem dX7_maybe_343 : decode cX7_maybe 343 = .ok (.laload, 1) := by decide +kernel
theorem dX7_maybe_344 : decode cX7_maybe 344 = .ok (.invokestatic 91, 3) := by decide +kernel
theorem dX7_maybe_347 : decode cX7_maybe 347 = .ok (.lstore 23, 2) := by decide +kernel
theorem dX7_maybe_349 : decode cX7_maybe 349 = .ok (.iinc 25 1, 3) := by decide +kernel
theorem dX7_maybe_352 : decode cX7_maybe 352 = .ok (.goto (-85), 3) := by decide +kernel
theorem dX7_maybe_355 : decode cX7_maybe 355 = .ok (.lload 7, 2) := by decide +kernel
theorem dX7_maybe_357 : decode cX7_maybe 357 = .ok (.lload 19, 2) := by decide +kernel
theorem dX7_maybe_359 : decode cX7_maybe 359 = .ok (.lcmp, 1) := by decide +kernel
theorem dX7_maybe_360 : decode cX7_maybe 360 = .ok (.ifCond .gt 29, 3) := by decide +kernel
theorem dX7_maybe_363 : decode cX7_maybe 363 = .ok (.lload 17, 2) := by decide +kernel
theorem dX7_maybe_365 : decode cX7_maybe 365 = .ok (.lload 9, 2) := by decide +kernel
theorem dX7_maybe_367 : decode cX7_maybe 367 = .ok (.lcmp, 1) := by decide +kernel
theorem dX7_maybe_368 : decode cX7_maybe 368 = .ok (.ifCond .gt 21, 3) := by decide +kernel
theorem dX7_maybe_371 : decode cX7_maybe 371 = .ok (.lload 11, 2) := by decide +kernel
theorem dX7_maybe_373 : decode cX7_maybe 373 = .ok (.lload 23, 2) := by decide +kernel
theorem dX7_maybe_375 : decode cX7_maybe 375 = .ok (.lcmp, 1) := by decide +kernel
theorem dX7_maybe_376 : decode cX7_maybe 376 = .ok (.ifCond .gt 13, 3) := by decide +kernel
theorem dX7_maybe_379 : decode cX7_maybe 379 = .ok (.lload 21, 2) := by decide +kernel
theorem dX7_maybe_381 : decode cX7_maybe 381 = .ok (.lload 13, 2) := by decide +kernel
theorem dX7_maybe_383 : decode cX7_maybe 383 = .ok (.lcmp, 1) := by decide +kernel
theorem dX7_maybe_384 : decode cX7_maybe 384 = .ok (.ifCond .gt 5, 3) := by decide +kernel
theorem dX7_maybe_387 : decode cX7_maybe 387 = .ok (.iconst 1, 1) := by decide +kernel
theorem dX7_maybe_388 : decode cX7_maybe 388 = .ok (.ireturn, 1) := by decide +kernel
theorem dX7_maybe_389 : decode cX7_maybe 389 = .ok (.iinc 15 1, 3) := by decide +kernel
theorem dX7_maybe_392 : decode cX7_maybe 392 = .ok (.goto (-190), 3) := by decide +kernel
theorem dX7_maybe_395 : decode cX7_maybe 395 = .ok (.iconst 0, 1) := by decide +kernel
theorem dX7_maybe_396 : decode cX7_maybe 396 = .ok (.ireturn, 1) := by decide +kernel
theorem dX7_isNear_0 : decode cX7_isNear 0 = .ok (.aload_n 0, 1) := by decide +kernel
theorem dX7_isNear_1 : decode cX7_isNear 1 = .ok (.getfield 7, 3) := by decide +kernel
theorem dX7_isNear_4 : decode cX7_isNear 4 = .ok (.iload_n 2, 1) := by decide +kernel
theorem dX7_isNear_5 : decode cX7_isNear 5 = .ok (.laload, 1) := by decide +kernel
theorem dX7_isNear_6 : decode cX7_isNear 6 = .ok (.aload_n 0, 1) := by decide +kernel
theorem dX7_isNear_7 : decode cX7_isNear 7 = .ok (.getfield 7, 3) := by decide +kernel
theorem dX7_isNear_10 : decode cX7_isNear 10 = .ok (.iload_n 1, 1) := by decide +kernel
theorem dX7_isNear_11 : decode cX7_isNear 11 = .ok (.laload, 1) := by decide +kernel
theorem dX7_isNear_12 : decode cX7_isNear 12 = .ok (.lsub, 1) := by decide +kernel
theorem dX7_isNear_13 : decode cX7_isNear 13 = .ok (.lstore 9, 2) := by decide +kernel
theorem dX7_isNear_15 : decode cX7_isNear 15 = .ok (.aload_n 0, 1) := by decide +kernel
theorem dX7_isNear_16 : decode cX7_isNear 16 = .ok (.getfield 13, 3) := by decide +kernel
theorem dX7_isNear_19 : decode cX7_isNear 19 = .ok (.iload_n 2, 1) := by decide +kernel
theorem dX7_isNear_20 : decode cX7_isNear 20 = .ok (.laload, 1) := by decide +kernel
theorem dX7_isNear_21 : decode cX7_isNear 21 = .ok (.aload_n 0, 1) := by decide +kernel
theorem dX7_isNear_22 : decode cX7_isNear 22 = .ok (.getfield 13, 3) := by decide +kernel
theorem dX7_isNear_25 : decode cX7_isNear 25 = .ok (.iload_n 1, 1) := by decide +kernel
theorem dX7_isNear_26 : decode cX7_isNear 26 = .ok (.laload, 1) := by decide +kernel
theorem dX7_isNear_27 : decode cX7_isNear 27 = .ok (.lsub, 1) := by decide +kernel
theorem dX7_isNear_28 : decode cX7_isNear 28 = .ok (.lstore 11, 2) := by decide +kernel
theorem dX7_isNear_30 : decode cX7_isNear 30 = .ok (.lload_n 3, 1) := by decide +kernel
theorem dX7_isNear_31 : decode cX7_isNear 31 = .ok (.aload_n 0, 1) := by decide +kernel
theorem dX7_isNear_32 : decode cX7_isNear 32 = .ok (.getfield 7, 3) := by decide +kernel
theorem dX7_isNear_35 : decode cX7_isNear 35 = .ok (.iload_n 1, 1) := by decide +kernel
theorem dX7_isNear_36 : decode cX7_isNear 36 = .ok (.laload, 1) := by decide +kernel
theorem dX7_isNear_37 : decode cX7_isNear 37 = .ok (.lsub, 1) := by decide +kernel
theorem dX7_isNear_38 : decode cX7_isNear 38 = .ok (.lstore 13, 2) := by decide +kernel
theorem dX7_isNear_40 : decode cX7_isNear 40 = .ok (.lload 5, 2) := by decide +kernel
theorem dX7_isNear_42 : decode cX7_isNear 42 = .ok (.aload_n 0, 1) := by decide +kernel
theorem dX7_isNear_43 : decode cX7_isNear 43 = .ok (.getfield 13, 3) := by decide +kernel
theorem dX7_isNear_46 : decode cX7_isNear 46 = .ok (.iload_n 1, 1) := by decide +kernel
theorem dX7_isNear_47 : decode cX7_isNear 47 = .ok (.laload, 1) := by decide +kernel
theorem dX7_isNear_48 : decode cX7_isNear 48 = .ok (.lsub, 1) := by decide +kernel
theorem dX7_isNear_49 : decode cX7_isNear 49 = .ok (.lstore 15, 2) := by decide +kernel
theorem dX7_isNear_51 : decode cX7_isNear 51 = .ok (.lload 13, 2) := by decide +kernel
theorem dX7_isNear_53 : decode cX7_isNear 53 = .ok (.lload 9, 2) := by decide +kernel
theorem dX7_isNear_55 : decode cX7_isNear 55 = .ok (.lmul, 1) := by decide +kernel
theorem dX7_isNear_56 : decode cX7_isNear 56 = .ok (.lload 15, 2) := by decide +kernel
theorem dX7_isNear_58 : decode cX7_isNear 58 = .ok (.lload 11, 2) := by decide +kernel
theorem dX7_isNear_60 : decode cX7_isNear 60 = .ok (.lmul, 1) := by decide +kernel
theorem dX7_isNear_61 : decode cX7_isNear 61 = .ok (.ladd, 1) := by decide +kernel
theorem dX7_isNear_62 : decode cX7_isNear 62 = .ok (.lstore 17, 2) := by decide +kernel
theorem dX7_isNear_64 : decode cX7_isNear 64 = .ok (.lload 9, 2) := by decide +kernel
theorem dX7_isNear_66 : decode cX7_isNear 66 = .ok (.lload 9, 2) := by decide +kernel
theorem dX7_isNear_68 : decode cX7_isNear 68 = .ok (.lmul, 1) := by decide +kernel
theorem dX7_isNear_69 : decode cX7_isNear 69 = .ok (.lload 11, 2) := by decide +kernel
theorem dX7_isNear_71 : decode cX7_isNear 71 = .ok (.lload 11, 2) := by decide +kernel
theorem dX7_isNear_73 : decode cX7_isNear 73 = .ok (.lmul, 1) := by decide +kernel
theorem dX7_isNear_74 : decode cX7_isNear 74 = .ok (.ladd, 1) := by decide +kernel
theorem dX7_isNear_75 : decode cX7_isNear 75 = .ok (.lstore 19, 2) := by decide +kernel
theorem dX7_isNear_77 : decode cX7_isNear 77 = .ok (.lload 17, 2) := by decide +kernel
theorem dX7_isNear_79 : decode cX7_isNear 79 = .ok (.lconst 0, 1) := by decide +kernel
theorem dX7_isNear_80 : decode cX7_isNear 80 = .ok (.lcmp, 1) := by decide +kernel
theorem dX7_isNear_81 : decode cX7_isNear 81 = .ok (.ifCond .gt 29, 3) := by decide +kernel
theorem dX7_isNear_84 : decode cX7_isNear 84 = .ok (.lload 13, 2) := by decide +kernel
theorem dX7_isNear_86 : decode cX7_isNear 86 = .ok (.lload 13, 2) := by decide +kernel
theorem dX7_isNear_88 : decode cX7_isNear 88 = .ok (.lmul, 1) := by decide +kernel
theorem dX7_isNear_89 : decode cX7_isNear 89 = .ok (.lload 15, 2) := by decide +kernel
theorem dX7_isNear_91 : decode cX7_isNear 91 = .ok (.lload 15, 2) := by decide +kernel
theorem dX7_isNear_93 : decode cX7_isNear 93 = .ok (.lmul, 1) := by decide +kernel
theorem dX7_isNear_94 : decode cX7_isNear 94 = .ok (.ladd, 1) := by decide +kernel
theorem dX7_isNear_95 : decode cX7_isNear 95 = .ok (.lload 7, 2) := by decide +kernel
theorem dX7_isNear_97 : decode cX7_isNear 97 = .ok (.lload 7, 2) := by decide +kernel
theorem dX7_isNear_99 : decode cX7_isNear 99 = .ok (.lmul, 1) := by decide +kernel
theorem dX7_isNear_100 : decode cX7_isNear 100 = .ok (.lcmp, 1) := by decide +kernel
theorem dX7_isNear_101 : decode cX7_isNear 101 = .ok (.ifCond .gt 7, 3) := by decide +kernel
theorem dX7_isNear_104 : decode cX7_isNear 104 = .ok (.iconst 1, 1) := by decide +kernel
theorem dX7_isNear_105 : decode cX7_isNear 105 = .ok (.goto 4, 3) := by decide +kernel
theorem dX7_isNear_108 : decode cX7_isNear 108 = .ok (.iconst 0, 1) := by decide +kernel
theorem dX7_isNear_109 : decode cX7_isNear 109 = .ok (.ireturn, 1) := by decide +kernel
theorem dX7_isNear_110 : decode cX7_isNear 110 = .ok (.lload 17, 2) := by decide +kernel
theorem dX7_isNear_112 : decode cX7_isNear 112 = .ok (.lload 19, 2) := by decide +kernel
theorem dX7_isNear_114 : decode cX7_isNear 114 = .ok (.lcmp, 1) := by decide +kernel
theorem dX7_isNear_115 : decode cX7_isNear 115 = .ok (.ifCond .lt 55, 3) := by decide +kernel
theorem dX7_isNear_118 : decode cX7_isNear 118 = .ok (.lload_n 3, 1) := by decide +kernel
theorem dX7_isNear_119 : decode cX7_isNear 119 = .ok (.aload_n 0, 1) := by decide +kernel
theorem dX7_isNear_120 : decode cX7_isNear 120 = .ok (.getfield 7, 3) := by decide +kernel
theorem dX7_isNear_123 : decode cX7_isNear 123 = .ok (.iload_n 2, 1) := by decide +kernel
theorem dX7_isNear_124 : decode cX7_isNear 124 = .ok (.laload, 1) := by decide +kernel
theorem dX7_isNear_125 : decode cX7_isNear 125 = .ok (.lsub, 1) := by decide +kernel
theorem dX7_isNear_126 : decode cX7_isNear 126 = .ok (.lload_n 3, 1) := by decide +kernel
theorem dX7_isNear_127 : decode cX7_isNear 127 = .ok (.aload_n 0, 1) := by decide +kernel
theorem dX7_isNear_128 : decode cX7_isNear 128 = .ok (.getfield 7, 3) := by decide +kernel
theorem dX7_isNear_131 : decode cX7_isNear 131 = .ok (.iload_n 2, 1) := by decide +kernel
theorem dX7_isNear_132 : decode cX7_isNear 132 = .ok (.laload, 1) := by decide +kernel
theorem dX7_isNear_133 : decode cX7_isNear 133 = .ok (.lsub, 1) := by decide +kernel
theorem dX7_isNear_134 : decode cX7_isNear 134 = .ok (.lmul, 1) := by decide +kernel
theorem dX7_isNear_135 : decode cX7_isNear 135 = .ok (.lload 5, 2) := by decide +kernel
theorem dX7_isNear_137 : decode cX7_isNear 137 = .ok (.aload_n 0, 1) := by decide +kernel
theorem dX7_isNear_138 : decode cX7_isNear 138 = .ok (.getfield 13, 3) := by decide +kernel
theorem dX7_isNear_141 : decode cX7_isNear 141 = .ok (.iload_n 2, 1) := by decide +kernel
theorem dX7_isNear_142 : decode cX7_isNear 142 = .ok (.laload, 1) := by decide +kernel
theorem dX7_isNear_143 : decode cX7_isNear 143 = .ok (.lsub, 1) := by decide +kernel
theorem dX7_isNear_144 : decode cX7_isNear 144 = .ok (.lload 5, 2) := by decide +kernel
theorem dX7_isNear_146 : decode cX7_isNear 146 = .ok (.aload_n 0, 1) := by decide +kernel
theorem dX7_isNear_147 : decode cX7_isNear 147 = .ok (.getfield 13, 3) := by decide +kernel
theorem dX7_isNear_150 : decode cX7_isNear 150 = .ok (.iload_n 2, 1) := by decide +kernel
theorem dX7_isNear_151 : decode cX7_isNear 151 = .ok (.laload, 1) := by decide +kernel
theorem dX7_isNear_152 : decode cX7_isNear 152 = .ok (.lsub, 1) := by decide +kernel
theorem dX7_isNear_153 : decode cX7_isNear 153 = .ok (.lmul, 1) := by decide +kernel
theorem dX7_isNear_154 : decode cX7_isNear 154 = .ok (.ladd, 1) := by decide +kernel
theorem dX7_isNear_155 : decode cX7_isNear 155 = .ok (.lload 7, 2) := by decide +kernel
theorem dX7_isNear_157 : decode cX7_isNear 157 = .ok (.lload 7, 2) := by decide +kernel
theorem dX7_isNear_159 : decode cX7_isNear 159 = .ok (.lmul, 1) := by decide +kernel
theorem dX7_isNear_160 : decode cX7_isNear 160 = .ok (.lcmp, 1) := by decide +kernel
theorem dX7_isNear_161 : decode cX7_isNear 161 = .ok (.ifCond .gt 7, 3) := by decide +kernel
theorem dX7_isNear_164 : decode cX7_isNear 164 = .ok (.iconst 1, 1) := by decide +kernel
theorem dX7_isNear_165 : decode cX7_isNear 165 = .ok (.goto 4, 3) := by decide +kernel
theorem dX7_isNear_168 : decode cX7_isNear 168 = .ok (.iconst 0, 1) := by decide +kernel
theorem dX7_isNear_169 : decode cX7_isNear 169 = .ok (.ireturn, 1) := by decide +kernel
theorem dX7_isNear_170 : decode cX7_isNear 170 = .ok (.lload 13, 2) := by decide +kernel
theorem dX7_isNear_172 : decode cX7_isNear 172 = .ok (.lload 11, 2) := by decide +kernel
theorem dX7_isNear_174 : decode cX7_isNear 174 = .ok (.lmul, 1) := by decide +kernel
theorem dX7_isNear_175 : decode cX7_isNear 175 = .ok (.lload 15, 2) := by decide +kernel
theorem dX7_isNear_177 : decode cX7_isNear 177 = .ok (.lload 9, 2) := by decide +kernel
theorem dX7_isNear_179 : decode cX7_isNear 179 = .ok (.lmul, 1) := by decide +kernel
theorem dX7_isNear_180 : decode cX7_isNear 180 = .ok (.lsub, 1) := by decide +kernel
theorem dX7_isNear_181 : decode cX7_isNear 181 = .ok (.lstore 21, 2) := by decide +kernel
theorem dX7_isNear_183 : decode cX7_isNear 183 = .ok (.lload 21, 2) := by decide +kernel
theorem dX7_isNear_185 : decode cX7_isNear 185 = .ok (.lload 21, 2) := by decide +kernel
theorem dX7_isNear_187 : decode cX7_isNear 187 = .ok (.lmul, 1) := by decide +kernel
theorem dX7_isNear_188 : decode cX7_isNear 188 = .ok (.lload 7, 2) := by decide +kernel
theorem dX7_isNear_190 : decode cX7_isNear 190 = .ok (.lload 7, 2) := by decide +kernel
theorem dX7_isNear_192 : decode cX7_isNear 192 = .ok (.lmul, 1) := by decide +kernel
theorem dX7_isNear_193 : decode cX7_isNear 193 = .ok (.lload 19, 2) := by decide +kernel
theorem dX7_isNear_195 : decode cX7_isNear 195 = .ok (.lmul, 1) := by decide +kernel
theorem dX7_isNear_196 : decode cX7_isNear 196 = .ok (.lcmp, 1) := by decide +kernel
theorem dX7_isNear_197 : decode cX7_isNear 197 = .ok (.ifCond .gt 7, 3) := by decide +kernel
theorem dX7_isNear_200 : decode cX7_isNear 200 = .ok (.iconst 1, 1) := by decide +kernel
theorem dX7_isNear_201 : decode cX7_isNear 201 = .ok (.goto 4, 3) := by decide +kernel
theorem dX7_isNear_204 : decode cX7_isNear 204 = .ok (.iconst 0, 1) := by decide +kernel
theorem dX7_isNear_205 : decode cX7_isNear 205 = .ok (.ireturn, 1) := by decide +kernel
theorem dX7_isByArea_0 : decode cX7_isByArea 0 = .ok (.aload_n 0, 1) := by decide +kernel
theorem dX7_isByArea_1 : decode cX7_isByArea 1 = .ok (.iload_n 1, 1) := by decide +kernel
theorem dX7_isByArea_2 : decode cX7_isByArea 2 = .ok (.lload_n 2, 1) := by decide +kernel
theorem dX7_isByArea_3 : decode cX7_isByArea 3 = .ok (.lload 4, 2) := by decide +kernel
theorem dX7_isByArea_5 : decode cX7_isByArea 5 = .ok (.lconst 1, 1) := by decide +kernel
theorem dX7_isByArea_6 : decode cX7_isByArea 6 = .ok (.invokevirtual 133, 3) := by decide +kernel
theorem dX7_isByArea_9 : decode cX7_isByArea 9 = .ok (.istore 8, 2) := by decide +kernel
theorem dX7_isByArea_11 : decode cX7_isByArea 11 = .ok (.iconst 0, 1) := by decide +kernel
theorem dX7_isByArea_12 : decode cX7_isByArea 12 = .ok (.istore 9, 2) := by decide +kernel
theorem dX7_isByArea_14 : decode cX7_isByArea 14 = .ok (.iload 9, 2) := by decide +kernel
theorem dX7_isByArea_16 : decode cX7_isByArea 16 = .ok (.aload_n 0, 1) := by decide +kernel
theorem dX7_isByArea_17 : decode cX7_isByArea 17 = .ok (.getfield 20, 3) := by decide +kernel
theorem dX7_isByArea_20 : decode cX7_isByArea 20 = .ok (.iload_n 1, 1) := by decide +kernel
theorem dX7_isByArea_21 : decode cX7_isByArea 21 = .ok (.iaload, 1) := by decide +kernel
theorem dX7_isByArea_22 : decode cX7_isByArea 22 = .ok (.if_icmp .ge 80, 3) := by decide +kernel
theorem dX7_isByArea_25 : decode cX7_isByArea 25 = .ok (.iconst 4, 1) := by decide +kernel
theorem dX7_isByArea_26 : decode cX7_isByArea 26 = .ok (.iload_n 1, 1) := by decide +kernel
theorem dX7_isByArea_27 : decode cX7_isByArea 27 = .ok (.imul, 1) := by decide +kernel
theorem dX7_isByArea_28 : decode cX7_isByArea 28 = .ok (.iload 9, 2) := by decide +kernel
theorem dX7_isByArea_30 : decode cX7_isByArea 30 = .ok (.iadd, 1) := by decide +kernel
theorem dX7_isByArea_31 : decode cX7_isByArea 31 = .ok (.istore 10, 2) := by decide +kernel
theorem dX7_isByArea_33 : decode cX7_isByArea 33 = .ok (.iconst 0, 1) := by decide +kernel
theorem dX7_isByArea_34 : decode cX7_isByArea 34 = .ok (.istore 11, 2) := by decide +kernel
theorem dX7_isByArea_36 : decode cX7_isByArea 36 = .ok (.iload 11, 2) := by decide +kernel
theorem dX7_isByArea_38 : decode cX7_isByArea 38 = .ok (.aload_n 0, 1) := by decide +kernel
theorem dX7_isByArea_39 : decode cX7_isByArea 39 = .ok (.getfield 16, 3) := by decide +kernel
theorem dX7_isByArea_42 : decode cX7_isByArea 42 = .ok (.iload 10, 2) := by decide +kernel
theorem dX7_isByArea_44 : decode cX7_isByArea 44 = .ok (.iaload, 1) := by decide +kernel
theorem dX7_isByArea_45 : decode cX7_isByArea 45 = .ok (.if_icmp .ge 51, 3) := by decide +kernel
theorem dX7_isByArea_48 : decode cX7_isByArea 48 = .ok (.iload 8, 2) := by decide +kernel
theorem dX7_isByArea_50 : decode cX7_isByArea 50 = .ok (.ifCond .ne 33, 3) := by decide +kernel
theorem dX7_isByArea_53 : decode cX7_isByArea 53 = .ok (.aload_n 0, 1) := by decide +kernel
theorem dX7_isByArea_54 : decode cX7_isByArea 54 = .ok (.aload_n 0, 1) := by decide +kernel
theorem dX7_isByArea_55 : decode cX7_isByArea 55 = .ok (.iload 10, 2) := by decide +kernel
theorem dX7_isByArea_57 : decode cX7_isByArea 57 = .ok (.iload 11, 2) := by decide +kernel
theorem dX7_isByArea_59 : decode cX7_isByArea 59 = .ok (.invokevirtual 102, 3) := by decide +kernel
theorem dX7_isByArea_62 : decode cX7_isByArea 62 = .ok (.aload_n 0, 1) := by decide +kernel
theorem dX7_isByArea_63 : decode cX7_isByArea 63 = .ok (.iload 10, 2) := by decide +kernel
theorem dX7_isByArea_65 : decode cX7_isByArea 65 = .ok (.iload 11, 2) := by decide +kernel
theorem dX7_isByArea_67 : decode cX7_isByArea 67 = .ok (.iconst 1, 1) := by decide +kernel
theorem dX7_isByArea_68 : decode cX7_isByArea 68 = .ok (.iadd, 1) := by decide +kernel
theorem dX7_isByArea_69 : decode cX7_isByArea 69 = .ok (.invokevirtual 102, 3) := by decide +kernel
theorem dX7_isByArea_72 : decode cX7_isByArea 72 = .ok (.lload_n 2, 1) := by decide +kernel
theorem dX7_isByArea_73 : decode cX7_isByArea 73 = .ok (.lload 4, 2) := by decide +kernel
theorem dX7_isByArea_75 : decode cX7_isByArea 75 = .ok (.lload 6, 2) := by decide +kernel
theorem dX7_isByArea_77 : decode cX7_isByArea 77 = .ok (.invokevirtual 236, 3) := by decide +kernel
theorem dX7_isByArea_80 : decode cX7_isByArea 80 = .ok (.ifCond .eq 7, 3) := by decide +kernel
theorem dX7_isByArea_83 : decode cX7_isByArea 83 = .ok (.iconst 1, 1) := by decide +kernel
theorem dX7_isByArea_84 : decode cX7_isByArea 84 = .ok (.goto 4, 3) := by decide +kernel
theorem dX7_isByArea_87 : decode cX7_isByArea 87 = .ok (.iconst 0, 1) := by decide +kernel
theorem dX7_isByArea_88 : decode cX7_isByArea 88 = .ok (.istore 8, 2) := by decide +kernel
theorem dX7_isByArea_90 : decode cX7_isByArea 90 = .ok (.iinc 11 1, 3) := by decide +kernel
theorem dX7_isByArea_93 : decode cX7_isByArea 93 = .ok (.goto (-57), 3) := by decide +kernel
theorem dX7_isByArea_96 : decode cX7_isByArea 96 = .ok (.iinc 9 1, 3) := by decide +kernel
theorem dX7_isByArea_99 : decode cX7_isByArea 99 = .ok (.goto (-85), 3) := by decide +kernel
theorem dX7_isByArea_102 : decode cX7_isByArea 102 = .ok (.iload 8, 2) := by decide +kernel
theorem dX7_isByArea_104 : decode cX7_isByArea 104 = .ok (.ireturn, 1) := by decide +kernel
theorem dX7_buffer_0 : decode cX7_buffer 0 = .ok (.aload_n 0, 1) := by decide +kernel
theorem dX7_buffer_1 : decode cX7_buffer 1 = .ok (.iconst 0, 1) := by decide +kernel
theorem dX7_buffer_2 : decode cX7_buffer 2 = .ok (.putfield 76, 3) := by decide +kernel
theorem dX7_buffer_5 : decode cX7_buffer 5 = .ok (.aload_n 0, 1) := by decide +kernel
theorem dX7_buffer_6 : decode cX7_buffer 6 = .ok (.iload_n 1, 1) := by decide +kernel
theorem dX7_buffer_7 : decode cX7_buffer 7 = .ok (.invokevirtual 137, 3) := by decide +kernel
theorem dX7_buffer_10 : decode cX7_buffer 10 = .ok (.ifCond .ne 5, 3) := by decide +kernel
theorem dX7_buffer_13 : decode cX7_buffer 13 = .ok (.iconst (-1), 1) := by decide +kernel
theorem dX7_buffer_14 : decode cX7_buffer 14 = .ok (.ireturn, 1) := by decide +kernel
theorem dX7_buffer_15 : decode cX7_buffer 15 = .ok (.lload_n 2, 1) := by decide +kernel
theorem dX7_buffer_16 : decode cX7_buffer 16 = .ok (.lconst 0, 1) := by decide +kernel
theorem dX7_buffer_17 : decode cX7_buffer 17 = .ok (.ldc2_w 145, 3) := by decide +kernel
theorem dX7_buffer_20 : decode cX7_buffer 20 = .ok (.invokestatic 122, 3) := by decide +kernel
theorem dX7_buffer_23 : decode cX7_buffer 23 = .ok (.ifCond .ne 6, 3) := by decide +kernel
theorem dX7_buffer_26 : decode cX7_buffer 26 = .ok (.bipush (-2), 2) := by decide +kernel
theorem dX7_buffer_28 : decode cX7_buffer 28 = .ok (.ireturn, 1) := by decide +kernel
theorem dX7_buffer_29 : decode cX7_buffer 29 = .ok (.iconst 0, 1) := by decide +kernel
theorem dX7_buffer_30 : decode cX7_buffer 30 = .ok (.istore 4, 2) := by decide +kernel
theorem dX7_buffer_32 : decode cX7_buffer 32 = .ok (.iconst 0, 1) := by decide +kernel
theorem dX7_buffer_33 : decode cX7_buffer 33 = .ok (.istore 5, 2) := by decide +kernel
theorem dX7_buffer_35 : decode cX7_buffer 35 = .ok (.iload 5, 2) := by decide +kernel
theorem dX7_buffer_37 : decode cX7_buffer 37 = .ok (.aload_n 0, 1) := by decide +kernel
theorem dX7_buffer_38 : decode cX7_buffer 38 = .ok (.getfield 161, 3) := by decide +kernel
theorem dX7_buffer_41 : decode cX7_buffer 41 = .ok (.if_icmp .ge 74, 3) := by decide +kernel
theorem dX7_buffer_44 : decode cX7_buffer 44 = .ok (.bipush 30, 2) := by decide +kernel
theorem dX7_buffer_46 : decode cX7_buffer 46 = .ok (.iload 5, 2) := by decide +kernel
theorem dX7_buffer_48 : decode cX7_buffer 48 = .ok (.imul, 1) := by decide +kernel
theorem dX7_buffer_49 : decode cX7_buffer 49 = .ok (.istore 6, 2) := by decide +kernel
theorem dX7_buffer_51 : decode cX7_buffer 51 = .ok (.iload 6, 2) := by decide +kernel
theorem dX7_buffer_53 : decode cX7_buffer 53 = .ok (.bipush 30, 2) := by decide +kernel
theorem dX7_buffer_55 : decode cX7_buffer 55 = .ok (.iload 5, 2) := by decide +kernel
theorem dX7_buffer_57 : decode cX7_buffer 57 = .ok (.imul, 1) := by decide +kernel
theorem dX7_buffer_58 : decode cX7_buffer 58 = .ok (.aload_n 0, 1) := by decide +kernel
theorem dX7_buffer_59 : decode cX7_buffer 59 = .ok (.getfield 42, 3) := by decide +kernel
theorem dX7_buffer_62 : decode cX7_buffer 62 = .ok (.iload 5, 2) := by decide +kernel
theorem dX7_buffer_64 : decode cX7_buffer 64 = .ok (.iaload, 1) := by decide +kernel
theorem dX7_buffer_65 : decode cX7_buffer 65 = .ok (.iadd, 1) := by decide +kernel
theorem dX7_buffer_66 : decode cX7_buffer 66 = .ok (.if_icmp .ge 43, 3) := by decide +kernel
theorem dX7_buffer_69 : decode cX7_buffer 69 = .ok (.aload_n 0, 1) := by decide +kernel
theorem dX7_buffer_70 : decode cX7_buffer 70 = .ok (.iload_n 1, 1) := by decide +kernel
theorem dX7_buffer_71 : decode cX7_buffer 71 = .ok (.aload_n 0, 1) := by decide +kernel
theorem dX7_buffer_72 : decode cX7_buffer 72 = .ok (.getfield 48, 3) := by decide +kernel
theorem dX7_buffer_75 : decode cX7_buffer 75 = .ok (.iload 6, 2) := by decide +kernel
theorem dX7_buffer_77 : decode cX7_buffer 77 = .ok (.laload, 1) := by decide +kernel
theorem dX7_buffer_78 : decode cX7_buffer 78 = .ok (.aload_n 0, 1) := by decide +kernel
theorem dX7_buffer_79 : decode cX7_buffer 79 = .ok (.getfield 51, 3) := by decide +kernel
theorem dX7_buffer_82 : decode cX7_buffer 82 = .ok (.iload 6, 2) := by decide +kernel
theorem dX7_buffer_84 : decode cX7_buffer 84 = .ok (.laload, 1) := by decide +kernel
theorem dX7_buffer_85 : decode cX7_buffer 85 = .ok (.lload_n 2, 1) := by decide +kernel
theorem dX7_buffer_86 : decode cX7_buffer 86 = .ok (.invokevirtual 240, 3) := by decide +kernel
theorem dX7_buffer_89 : decode cX7_buffer 89 = .ok (.ifCond .eq 10, 3) := by decide +kernel
theorem dX7_buffer_92 : decode cX7_buffer 92 = .ok (.iload 4, 2) := by decide +kernel
theorem dX7_buffer_94 : decode cX7_buffer 94 = .ok (.iconst 1, 1) := by decide +kernel
theorem dX7_buffer_95 : decode cX7_buffer 95 = .ok (.iadd, 1) := by decide +kernel
theorem dX7_buffer_96 : decode cX7_buffer 96 = .ok (.goto 5, 3) := by decide +kernel
theorem dX7_buffer_99 : decode cX7_buffer 99 = .ok (.iload 4, 2) := by decide +kernel
theorem dX7_buffer_101 : decode cX7_buffer 101 = .ok (.istore 4, 2) := by decide +kernel
theorem dX7_buffer_103 : decode cX7_buffer 103 = .ok (.iinc 6 1, 3) := by decide +kernel
theorem dX7_buffer_106 : decode cX7_buffer 106 = .ok (.goto (-55), 3) := by decide +kernel
theorem dX7_buffer_109 : decode cX7_buffer 109 = .ok (.iinc 5 1, 3) := by decide +kernel
theorem dX7_buffer_112 : decode cX7_buffer 112 = .ok (.goto (-77), 3) := by decide +kernel
theorem dX7_buffer_115 : decode cX7_buffer 115 = .ok (.iload 4, 2) := by decide +kernel
theorem dX7_buffer_117 : decode cX7_buffer 117 = .ok (.ireturn, 1) := by decide +kernel
theorem dX7_overlap_0 : decode cX7_overlap 0 = .ok (.aload_n 0, 1) := by decide +kernel
theorem dX7_overlap_1 : decode cX7_overlap 1 = .ok (.iconst 0, 1) := by decide +kernel
theorem dX7_overlap_2 : decode cX7_overlap 2 = .ok (.putfield 76, 3) := by decide +kernel
theorem dX7_overlap_5 : decode cX7_overlap 5 = .ok (.aload_n 0, 1) := by decide +kernel
theorem dX7_overlap_6 : decode cX7_overlap 6 = .ok (.iload_n 1, 1) := by decide +kernel
theorem dX7_overlap_7 : decode cX7_overlap 7 = .ok (.invokevirtual 137, 3) := by decide +kernel
theorem dX7_overlap_10 : decode cX7_overlap 10 = .ok (.ifCond .eq 16, 3) := by decide +kernel
theorem dX7_overlap_13 : decode cX7_overlap 13 = .ok (.aload_n 0, 1) := by decide +kernel
theorem dX7_overlap_14 : decode cX7_overlap 14 = .ok (.iload_n 2, 1) := by decide +kernel
theorem dX7_overlap_15 : decode cX7_overlap 15 = .ok (.invokevirtual 137, 3) := by decide +kernel
theorem dX7_overlap_18 : decode cX7_overlap 18 = .ok (.ifCond .eq 8, 3) := by decide +kernel
theorem dX7_overlap_21 : decode cX7_overlap 21 = .ok (.iload_n 1, 1) := by decide +kernel
theorem dX7_overlap_22 : decode cX7_overlap 22 = .ok (.iload_n 2, 1) := by decide +kernel
theorem dX7_overlap_23 : decode cX7_overlap 23 = .ok (.if_icmp .ne 5, 3) := by decide +kernel
theorem dX7_overlap_26 : decode cX7_overlap 26 = .ok (.iconst (-1), 1) := by decide +kernel
theorem dX7_overlap_27 : decode cX7_overlap 27 = .ok (.ireturn, 1) := by decide +kernel
theorem dX7_overlap_28 : decode cX7_overlap 28 = .ok (.iconst 4, 1) := by decide +kernel
theorem dX7_overlap_29 : decode cX7_overlap 29 = .ok (.iload_n 1, 1) := by decide +kernel
theorem dX7_overlap_30 : decode cX7_overlap 30 = .ok (.imul, 1) := by decide +kernel
theorem dX7_overlap_31 : decode cX7_overlap 31 = .ok (.istore_n 3, 1) := by decide +kernel
theorem dX7_overlap_32 : decode cX7_overlap 32 = .ok (.iconst 4, 1) := by decide +kernel
theorem dX7_overlap_33 : decode cX7_overlap 33 = .ok (.iload_n 2, 1) := by decide +kernel
theorem dX7_overlap_34 : decode cX7_overlap 34 = .ok (.imul, 1) := by decide +kernel
theorem dX7_overlap_35 : decode cX7_overlap 35 = .ok (.istore 4, 2) := by decide +kernel
theorem dX7_overlap_37 : decode cX7_overlap 37 = .ok (.aload_n 0, 1) := by decide +kernel
theorem dX7_overlap_38 : decode cX7_overlap 38 = .ok (.iload_n 3, 1) := by decide +kernel
theorem dX7_overlap_39 : decode cX7_overlap 39 = .ok (.iload 4, 2) := by decide +kernel
theorem dX7_overlap_41 : decode cX7_overlap 41 = .ok (.invokevirtual 129, 3) := by decide +kernel
theorem dX7_overlap_44 : decode cX7_overlap 44 = .ok (.ifCond .eq 5, 3) := by decide +kernel
theorem dX7_overlap_47 : decode cX7_overlap 47 = .ok (.iconst 1, 1) := by decide +kernel
theorem dX7_overlap_48 : decode cX7_overlap 48 = .ok (.ireturn, 1) := by decide +kernel
theorem dX7_overlap_49 : decode cX7_overlap 49 = .ok (.aload_n 0, 1) := by decide +kernel
theorem dX7_overlap_50 : decode cX7_overlap 50 = .ok (.iload 4, 2) := by decide +kernel
theorem dX7_overlap_52 : decode cX7_overlap 52 = .ok (.aload_n 0, 1) := by decide +kernel
theorem dX7_overlap_53 : decode cX7_overlap 53 = .ok (.getfield 7, 3) := by decide +kernel
theorem dX7_overlap_56 : decode cX7_overlap 56 = .ok (.bipush 12, 2) := by decide +kernel
theorem dX7_overlap_58 : decode cX7_overlap 58 = .ok (.iload_n 3, 1) := by decide +kernel
theorem dX7_overlap_59 : decode cX7_overlap 59 = .ok (.imul, 1) := by decide +kernel
theorem dX7_overlap_60 : decode cX7_overlap 60 = .ok (.laload, 1) := by decide +kernel
theorem dX7_overlap_61 : decode cX7_overlap 61 = .ok (.aload_n 0, 1) := by decide +kernel
theorem dX7_overlap_62 : decode cX7_overlap 62 = .ok (.getfield 13, 3) := by decide +kernel
theorem dX7_overlap_65 : decode cX7_overlap 65 = .ok (.bipush 12, 2) := by decide +kernel
theorem dX7_overlap_67 : decode cX7_overlap 67 = .ok (.iload_n 3, 1) := by decide +kernel
theorem dX7_overlap_68 : decode cX7_overlap 68 = .ok (.imul, 1) := by decide +kernel
theorem dX7_overlap_69 : decode cX7_overlap 69 = .ok (.laload, 1) := by decide +kernel
theorem dX7_overlap_70 : decode cX7_overlap 70 = .ok (.lconst 1, 1) := by decide +kernel
theorem dX7_overlap_71 : decode cX7_overlap 71 = .ok (.invokevirtual 114, 3) := by decide +kernel
theorem dX7_overlap_74 : decode cX7_overlap 74 = .ok (.ifCond .le 7, 3) := by decide +kernel
theorem dX7_overlap_77 : decode cX7_overlap 77 = .ok (.iconst 2, 1) := by decide +kernel
theorem dX7_overlap_78 : decode cX7_overlap 78 = .ok (.goto 37, 3) := by decide +kernel
theorem dX7_overlap_81 : decode cX7_overlap 81 = .ok (.aload_n 0, 1) := by decide +kernel
theorem dX7_overlap_82 : decode cX7_overlap 82 = .ok (.iload_n 3, 1) := by decide +kernel
theorem dX7_overlap_83 : decode cX7_overlap 83 = .ok (.aload_n 0, 1) := by decide +kernel
theorem dX7_overlap_84 : decode cX7_overlap 84 = .ok (.getfield 7, 3) := by decide +kernel
theorem dX7_overlap_87 : decode cX7_overlap 87 = .ok (.bipush 12, 2) := by decide +kernel
theorem dX7_overlap_89 : decode cX7_overlap 89 = .ok (.iload 4, 2) := by decide +kernel
theorem dX7_overlap_91 : decode cX7_overlap 91 = .ok (.imul, 1) := by decide +kernel
theorem dX7_overlap_92 : decode cX7_overlap 92 = .ok (.laload, 1) := by decide +kernel
theorem dX7_overlap_93 : decode cX7_overlap 93 = .ok (.aload_n 0, 1) := by decide +kernel
theorem dX7_overlap_94 : decode cX7_overlap 94 = .ok (.getfield 13, 3) := by decide +kernel
theorem dX7_overlap_97 : decode cX7_overlap 97 = .ok (.bipush 12, 2) := by decide +kernel
theorem dX7_overlap_99 : decode cX7_overlap 99 = .ok (.iload 4, 2) := by decide +kernel
theorem dX7_overlap_101 : decode cX7_overlap 101 = .ok (.imul, 1) := by decide +kernel
theorem dX7_overlap_102 : decode cX7_overlap 102 = .ok (.laload, 1) := by decide +kernel
theorem dX7_overlap_103 : decode cX7_overlap 103 = .ok (.lconst 1, 1) := by decide +kernel
theorem dX7_overlap_104 : decode cX7_overlap 104 = .ok (.invokevirtual 114, 3) := by decide +kernel
theorem dX7_overlap_107 : decode cX7_overlap 107 = .ok (.ifCond .le 7, 3) := by decide +kernel
theorem dX7_overlap_110 : decode cX7_overlap 110 = .ok (.iconst 3, 1) := by decide +kernel
theorem dX7_overlap_111 : decode cX7_overlap 111 = .ok (.goto 4, 3) := by decide +kernel
theorem dX7_overlap_114 : decode cX7_overlap 114 = .ok (.iconst 0, 1) := by decide +kernel
theorem dX7_overlap_115 : decode cX7_overlap 115 = .ok (.ireturn, 1) := by decide +kernel
theorem dX7_cell_0 : decode cX7_cell 0 = .ok (.aload_n 0, 1) := by decide +kernel
theorem dX7_cell_1 : decode cX7_cell 1 = .ok (.iconst 0, 1) := by decide +kernel
theorem dX7_cell_2 : decode cX7_cell 2 = .ok (.putfield 76, 3) := by decide +kernel
theorem dX7_cell_5 : decode cX7_cell 5 = .ok (.iconst 0, 1) := by decide +kernel
theorem dX7_cell_6 : decode cX7_cell 6 = .ok (.istore 5, 2) := by decide +kernel
theorem dX7_cell_8 : decode cX7_cell 8 = .ok (.iconst 0, 1) := by decide +kernel
theorem dX7_cell_9 : decode cX7_cell 9 = .ok (.istore 6, 2) := by decide +kernel
theorem dX7_cell_11 : decode cX7_cell 11 = .ok (.iload 6, 2) := by decide +kernel
theorem dX7_cell_13 : decode cX7_cell 13 = .ok (.aload_n 0, 1) := by decide +kernel
theorem dX7_cell_14 : decode cX7_cell 14 = .ok (.getfield 72, 3) := by decide +kernel
theorem dX7_cell_17 : decode cX7_cell 17 = .ok (.if_icmp .ge 55, 3) := by decide +kernel
theorem dX7_cell_20 : decode cX7_cell 20 = .ok (.aload_n 0, 1) := by decide +kernel
theorem dX7_cell_21 : decode cX7_cell 21 = .ok (.getfield 20, 3) := by decide +kernel
theorem dX7_cell_24 : decode cX7_cell 24 = .ok (.iload 6, 2) := by decide +kernel
theorem dX7_cell_26 : decode cX7_cell 26 = .ok (.iaload, 1) := by decide +kernel
theorem dX7_cell_27 : decode cX7_cell 27 = .ok (.ifCond .le 35, 3) := by decide +kernel
theorem dX7_cell_30 : decode cX7_cell 30 = .ok (.aload_n 0, 1) := by decide +kernel
theorem dX7_cell_31 : decode cX7_cell 31 = .ok (.iload 6, 2) := by decide +kernel
theorem dX7_cell_33 : decode cX7_cell 33 = .ok (.iload_n 1, 1) := by decide +kernel
theorem dX7_cell_34 : decode cX7_cell 34 = .ok (.i2l, 1) := by decide +kernel
theorem dX7_cell_35 : decode cX7_cell 35 = .ok (.iload_n 2, 1) := by decide +kernel
theorem dX7_cell_36 : decode cX7_cell 36 = .ok (.i2l, 1) := by decide +kernel
theorem dX7_cell_37 : decode cX7_cell 37 = .ok (.lconst 1, 1) := by decide +kernel
theorem dX7_cell_38 : decode cX7_cell 38 = .ok (.invokevirtual 133, 3) := by decide +kernel
theorem dX7_cell_41 : decode cX7_cell 41 = .ok (.ifCond .eq 21, 3) := by decide +kernel
theorem dX7_cell_44 : decode cX7_cell 44 = .ok (.aload_n 0, 1) := by decide +kernel
theorem dX7_cell_45 : decode cX7_cell 45 = .ok (.iload 6, 2) := by decide +kernel
theorem dX7_cell_47 : decode cX7_cell 47 = .ok (.iconst (-1), 1) := by decide +kernel
theorem dX7_cell_48 : decode cX7_cell 48 = .ok (.lload_n 3, 1) := by decide +kernel
theorem dX7_cell_49 : decode cX7_cell 49 = .ok (.invokevirtual 157, 3) := by decide +kernel
theorem dX7_cell_52 : decode cX7_cell 52 = .ok (.ifCond .eq 10, 3) := by decide +kernel
theorem dX7_cell_55 : decode cX7_cell 55 = .ok (.iload 5, 2) := by decide +kernel
theorem dX7_cell_57 : decode cX7_cell 57 = .ok (.iconst 1, 1) := by decide +kernel
theorem dX7_cell_58 : decode cX7_cell 58 = .ok (.iadd, 1) := by decide +kernel
theorem dX7_cell_59 : decode cX7_cell 59 = .ok (.goto 5, 3) := by decide +kernel
theorem dX7_cell_62 : decode cX7_cell 62 = .ok (.iload 5, 2) := by decide +kernel
theorem dX7_cell_64 : decode cX7_cell 64 = .ok (.istore 5, 2) := by decide +kernel
theorem dX7_cell_66 : decode cX7_cell 66 = .ok (.iinc 6 1, 3) := by decide +kernel
theorem dX7_cell_69 : decode cX7_cell 69 = .ok (.goto (-58), 3) := by decide +kernel
theorem dX7_cell_72 : decode cX7_cell 72 = .ok (.iload 5, 2) := by decide +kernel
theorem dX7_cell_74 : decode cX7_cell 74 = .ok (.ireturn, 1) := by decide +kernel
theorem dJx00060_init_da8c8_0 : decode cJx00060_init_da8c8 0 = .ok (.aload_n 0, 1) := by decide +kernel
theorem dJx00060_init_da8c8_1 : decode cJx00060_init_da8c8 1 = .ok (.invokespecial 1, 3) := by decide +kernel
theorem dJx00060_init_da8c8_4 : decode cJx00060_init_da8c8 4 = .ok (.return_, 1) := by decide +kernel
theorem dJ9_max_7cf53_0 : decode cJ9_max_7cf53 0 = .ok (.iload_n 0, 1) := by decide +kernel
theorem dJ9_max_7cf53_1 : decode cJ9_max_7cf53 1 = .ok (.iload_n 1, 1) := by decide +kernel
theorem dJ9_max_7cf53_2 : decode cJ9_max_7cf53 2 = .ok (.if_icmp .lt 7, 3) := by decide +kernel
theorem dJ9_max_7cf53_5 : decode cJ9_max_7cf53 5 = .ok (.iload_n 0, 1) := by decide +kernel
theorem dJ9_max_7cf53_6 : decode cJ9_max_7cf53 6 = .ok (.goto 4, 3) := by decide +kernel
theorem dJ9_max_7cf53_9 : decode cJ9_max_7cf53 9 = .ok (.iload_n 1, 1) := by decide +kernel
theorem dJ9_max_7cf53_10 : decode cJ9_max_7cf53 10 = .ok (.ireturn, 1) := by decide +kernel
theorem dJ9_max_f86c9_0 : decode cJ9_max_f86c9 0 = .ok (.lload_n 0, 1) := by decide +kernel
theorem dJ9_max_f86c9_1 : decode cJ9_max_f86c9 1 = .ok (.lload_n 2, 1) := by decide +kernel
theorem dJ9_max_f86c9_2 : decode cJ9_max_f86c9 2 = .ok (.lcmp, 1) := by decide +kernel
theorem dJ9_max_f86c9_3 : decode cJ9_max_f86c9 3 = .ok (.ifCond .lt 7, 3) := by decide +kernel
theorem dJ9_max_f86c9_6 : decode cJ9_max_f86c9 6 = .ok (.lload_n 0, 1) := by decide +kernel
theorem dJ9_max_f86c9_7 : decode cJ9_max_f86c9 7 = .ok (.goto 4, 3) := by decide +kernel
theorem dJ9_max_f86c9_10 : decode cJ9_max_f86c9 10 = .ok (.lload_n 2, 1) := by decide +kernel
theorem dJ9_max_f86c9_11 : decode cJ9_max_f86c9 11 = .ok (.lreturn, 1) := by decide +kernel
theorem dJ9_min_7cf53_0 : decode cJ9_min_7cf53 0 = .ok (.iload_n 0, 1) := by decide +kernel
theorem dJ9_min_7cf53_1 : decode cJ9_min_7cf53 1 = .ok (.iload_n 1, 1) := by decide +kernel
theorem dJ9_min_7cf53_2 : decode cJ9_min_7cf53 2 = .ok (.if_icmp .gt 7, 3) := by decide +kernel
theorem dJ9_min_7cf53_5 : decode cJ9_min_7cf53 5 = .ok (.iload_n 0, 1) := by decide +kernel
theorem dJ9_min_7cf53_6 : decode cJ9_min_7cf53 6 = .ok (.goto 4, 3) := by decide +kernel
theorem dJ9_min_7cf53_9 : decode cJ9_min_7cf53 9 = .ok (.iload_n 1, 1) := by decide +kernel
theorem dJ9_min_7cf53_10 : decode cJ9_min_7cf53 10 = .ok (.ireturn, 1) := by decide +kernel
theorem dJ9_min_f86c9_0 : decode cJ9_min_f86c9 0 = .ok (.lload_n 0, 1) := by decide +kernel
theorem dJ9_min_f86c9_1 : decode cJ9_min_f86c9 1 = .ok (.lload_n 2, 1) := by decide +kernel
theorem dJ9_min_f86c9_2 : decode cJ9_min_f86c9 2 = .ok (.lcmp, 1) := by decide +kernel
theorem dJ9_min_f86c9_3 : decode cJ9_min_f86c9 3 = .ok (.ifCond .gt 7, 3) := by decide +kernel
theorem dJ9_min_f86c9_6 : decode cJ9_min_f86c9 6 = .ok (.lload_n 0, 1) := by decide +kernel
theorem dJ9_min_f86c9_7 : decode cJ9_min_f86c9 7 = .ok (.goto 4, 3) := by decide +kernel
theorem dJ9_min_f86c9_10 : decode cJ9_min_f86c9 10 = .ok (.lload_n 2, 1) := by decide +kernel
theorem dJ9_min_f86c9_11 : decode cJ9_min_f86c9 11 = .ok (.lreturn, 1) := by decide +kernel
theorem dL_cell_0 : decode cL_cell 0 = .ok (.iload_n 1, 1) := by decide +kernel
theorem dL_cell_1 : decode cL_cell 1 = .ok (.aload_n 0, 1) := by decide +kernel
theorem dL_cell_2 : decode cL_cell 2 = .ok (.arraylength, 1) := by decide +kernel
theorem dL_cell_3 : decode cL_cell 3 = .ok (.if_icmp .ge 9, 3) := by decide +kernel
theorem dL_cell_6 : decode cL_cell 6 = .ok (.aload_n 0, 1) := by decide +kernel
theorem dL_cell_7 : decode cL_cell 7 = .ok (.iload_n 1, 1) := by decide +kernel
theorem dL_cell_8 : decode cL_cell 8 = .ok (.iaload, 1) := by decide +kernel
theorem dL_cell_9 : decode cL_cell 9 = .ok (.goto 4, 3) := by decide +kernel
theorem dL_cell_12 : decode cL_cell 12 = .ok (.iconst 0, 1) := by decide +kernel
theorem dL_cell_13 : decode cL_cell 13 = .ok (.ireturn, 1) := by decide +kernel
theorem dL_corner_0 : decode cL_corner 0 = .ok (.aload 6, 2) := by decide +kernel
theorem dL_corner_2 : decode cL_corner 2 = .ok (.iconst 0, 1) := by decide +kernel
theorem dL_corner_3 : decode cL_corner 3 = .ok (.aload_n 0, 1) := by decide +kernel
theorem dL_corner_4 : decode cL_corner 4 = .ok (.iload_n 1, 1) := by decide +kernel
theorem dL_corner_5 : decode cL_corner 5 = .ok (.lload_n 2, 1) := by decide +kernel
theorem dL_corner_6 : decode cL_corner 6 = .ok (.lload 4, 2) := by decide +kernel
theorem dL_corner_8 : decode cL_corner 8 = .ok (.invokevirtual 7, 3) := by decide +kernel
theorem dL_corner_11 : decode cL_corner 11 = .ok (.ifCond .eq 7, 3) := by decide +kernel
theorem dL_corner_14 : decode cL_corner 14 = .ok (.lconst 1, 1) := by decide +kernel
theorem dL_corner_15 : decode cL_corner 15 = .ok (.goto 4, 3) := by decide +kernel
theorem dL_corner_18 : decode cL_corner 18 = .ok (.lconst 0, 1) := by decide +kernel
theorem dL_corner_19 : decode cL_corner 19 = .ok (.lastore, 1) := by decide +kernel
theorem dL_corner_20 : decode cL_corner 20 = .ok (.goto 7, 3) := by decide +kernel
theorem dL_corner_23 : decode cL_corner 23 = .ok (.astore 7, 2) := by decide +kernel
theorem dL_corner_25 : decode cL_corner 25 = .ok (.iconst 1, 1) := by decide +kernel
theorem dL_corner_26 : decode cL_corner 26 = .ok (.ireturn, 1) := by decide +kernel
theorem dL_corner_27 : decode cL_corner 27 = .ok (.iconst 0, 1) := by decide +kernel
theorem dL_corner_28 : decode cL_corner 28 = .ok (.ireturn, 1) := by decide +kernel
theorem dL_law_0 : decode cL_law 0 = .ok (.new 8, 3) := by decide +kernel
theorem dL_law_3 : decode cL_law 3 = .ok (.dup, 1) := by decide +kernel
theorem dL_law_4 : decode cL_law 4 = .ok (.aload_n 0, 1) := by decide +kernel
theorem dL_law_5 : decode cL_law 5 = .ok (.iconst 0, 1) := by decide +kernel
theorem dL_law_6 : decode cL_law 6 = .ok (.invokestatic 15, 3) := by decide +kernel
theorem dL_law_9 : decode cL_law 9 = .ok (.invokespecial 21, 3) := by decide +kernel
theorem dL_law_12 : decode cL_law 12 = .ok (.astore_n 1, 1) := by decide +kernel
theorem dL_law_13 : decode cL_law 13 = .ok (.new 24, 3) := by decide +kernel
theorem dL_law_16 : decode cL_law 16 = .ok (.dup, 1) := by decide +kernel
theorem dL_law_17 : decode cL_law 17 = .ok (.aload_n 0, 1) := by decide +kernel
theorem dL_law_18 : decode cL_law 18 = .ok (.iconst 0, 1) := by decide +kernel
theorem dL_law_19 : decode cL_law 19 = .ok (.invokestatic 15, 3) := by decide +kernel
theorem dL_law_22 : decode cL_law 22 = .ok (.invokespecial 26, 3) := by decide +kernel
theorem dL_law_25 : decode cL_law 25 = .ok (.astore_n 2, 1) := by decide +kernel
theorem dL_law_26 : decode cL_law 26 = .ok (.iconst 1, 1) := by decide +kernel
theorem dL_law_27 : decode cL_law 27 = .ok (.newarray .long, 2) := by decide +kernel
theorem dL_law_29 : decode cL_law 29 = .ok (.astore_n 3, 1) := by decide +kernel
theorem dL_law_30 : decode cL_law 30 = .ok (.iconst 1, 1) := by decide +kernel
theorem dL_law_31 : decode cL_law 31 = .ok (.istore 4, 2) := by decide +kernel
theorem dL_law_33 : decode cL_law 33 = .ok (.iload 4, 2) := by decide +kernel
theorem dL_law_35 : decode cL_law 35 = .ok (.aload_n 0, 1) := by decide +kernel
theorem dL_law_36 : decode cL_law 36 = .ok (.arraylength, 1) := by decide +kernel
theorem dL_law_37 : decode cL_law 37 = .ok (.bipush 8, 2) := by decide +kernel
theorem dL_law_39 : decode cL_law 39 = .ok (.isub, 1) := by decide +kernel
theorem dL_law_40 : decode cL_law 40 = .ok (.if_icmp .gt 1207, 3) := by decide +kernel
theorem dL_law_43 : decode cL_law 43 = .ok (.aload_n 0, 1) := by decide +kernel
theorem dL_law_44 : decode cL_law 44 = .ok (.iload 4, 2) := by decide +kernel
theorem dL_law_46 : decode cL_law 46 = .ok (.iaload, 1) := by decide +kernel
theorem dL_law_47 : decode cL_law 47 = .ok (.bipush 31, 2) := by decide +kernel
theorem dL_law_49 : decode cL_law 49 = .ok (.iand, 1) := by decide +kernel
theorem dL_law_50 : decode cL_law 50 = .ok (.tableswitch 1191 0 16 #[82, 233, 258, 283, 344, 413, 574, 587, 748, 785, 823, 848, 898, 935, 1004, 1073, 1110], 82) := by decide +kernel
theorem dL_law_132 : decode cL_law 132 = .ok (.aload_n 1, 1) := by decide +kernel
theorem dL_law_133 : decode cL_law 133 = .ok (.aload_n 0, 1) := by decide +kernel
theorem dL_law_134 : decode cL_law 134 = .ok (.iload 4, 2) := by decide +kernel
theorem dL_law_136 : decode cL_law 136 = .ok (.iconst 1, 1) := by decide +kernel
theorem dL_law_137 : decode cL_law 137 = .ok (.iadd, 1) := by decide +kernel
theorem dL_law_138 : decode cL_law 138 = .ok (.iaload, 1) := by decide +kernel
theorem dL_law_139 : decode cL_law 139 = .ok (.aload_n 0, 1) := by decide +kernel
theorem dL_law_140 : decode cL_law 140 = .ok (.iload 4, 2) := by decide +kernel
theorem dL_law_142 : decode cL_law 142 = .ok (.iconst 2, 1) := by decide +kernel
theorem dL_law_143 : decode cL_law 143 = .ok (.iadd, 1) := by decide +kernel
theorem dL_law_144 : decode cL_law 144 = .ok (.iaload, 1) := by decide +kernel
theorem dL_law_145 : decode cL_law 145 = .ok (.i2l, 1) := by decide +kernel
theorem dL_law_146 : decode cL_law 146 = .ok (.bipush 32, 2) := by decide +kernel
theorem dL_law_148 : decode cL_law 148 = .ok (.lshl, 1) := by decide +kernel
theorem dL_law_149 : decode cL_law 149 = .ok (.aload_n 0, 1) := by decide +kernel
theorem dL_law_150 : decode cL_law 150 = .ok (.iload 4, 2) := by decide +kernel
theorem dL_law_152 : decode cL_law 152 = .ok (.iconst 3, 1) := by decide +kernel
theorem dL_law_153 : decode cL_law 153 = .ok (.iadd, 1) := by decide +kernel
theorem dL_law_154 : decode cL_law 154 = .ok (.iaload, 1) := by decide +kernel
theorem dL_law_155 : decode cL_law 155 = .ok (.i2l, 1) := by decide +kernel
theorem dL_law_156 : decode cL_law 156 = .ok (.ldc2_w 27, 3) := by decide +kernel
theorem dL_law_159 : decode cL_law 159 = .ok (.land, 1) := by decide +kernel
theorem dL_law_160 : decode cL_law 160 = .ok (.lor, 1) := by decide +kernel
theorem dL_law_161 : decode cL_law 161 = .ok (.aload_n 0, 1) := by decide +kernel
theorem dL_law_162 : decode cL_law 162 = .ok (.iload 4, 2) := by decide +kernel
theorem dL_law_164 : decode cL_law 164 = .ok (.iconst 4, 1) := by decide +kernel
theorem dL_law_165 : decode cL_law 165 = .ok (.iadd, 1) := by decide +kernel
theorem dL_law_166 : decode cL_law 166 = .ok (.iaload, 1) := by decide +kernel
theorem dL_law_167 : decode cL_law 167 = .ok (.i2l, 1) := by decide +kernel
theorem dL_law_168 : decode cL_law 168 = .ok (.bipush 32, 2) := by decide +kernel
theorem dL_law_170 : decode cL_law 170 = .ok (.lshl, 1) := by decide +kernel
theorem dL_law_171 : decode cL_law 171 = .ok (.aload_n 0, 1) := by decide +kernel
theorem dL_law_172 : decode cL_law 172 = .ok (.iload 4, 2) := by decide +kernel
theorem dL_law_174 : decode cL_law 174 = .ok (.iconst 5, 1) := by decide +kernel
theorem dL_law_175 : decode cL_law 175 = .ok (.iadd, 1) := by decide +kernel
theorem dL_law_176 : decode cL_law 176 = .ok (.iaload, 1) := by decide +kernel
theorem dL_law_177 : decode cL_law 177 = .ok (.i2l, 1) := by decide +kernel
theorem dL_law_178 : decode cL_law 178 = .ok (.ldc2_w 27, 3) := by decide +kernel
theorem dL_law_181 : decode cL_law 181 = .ok (.land, 1) := by decide +kernel
theorem dL_law_182 : decode cL_law 182 = .ok (.lor, 1) := by decide +kernel
theorem dL_law_183 : decode cL_law 183 = .ok (.aload_n 3, 1) := by decide +kernel
theorem dL_law_184 : decode cL_law 184 = .ok (.invokestatic 29, 3) := by decide +kernel
theorem dL_law_187 : decode cL_law 187 = .ok (.istore 5, 2) := by decide +kernel
theorem dL_law_189 : decode cL_law 189 = .ok (.aload_n 2, 1) := by decide +kernel
theorem dL_law_190 : decode cL_law 190 = .ok (.aload_n 0, 1) := by decide +kernel
theorem dL_law_191 : decode cL_law 191 = .ok (.iload 4, 2) := by decide +kernel
theorem dL_law_193 : decode cL_law 193 = .ok (.iconst 1, 1) := by decide +kernel
theorem dL_law_194 : decode cL_law 194 = .ok (.iadd, 1) := by decide +kernel
theorem dL_law_195 : decode cL_law 195 = .ok (.iaload, 1) := by decide +kernel
theorem dL_law_196 : decode cL_law 196 = .ok (.aload_n 0, 1) := by decide +kernel
theorem dL_law_197 : decode cL_law 197 = .ok (.iload 4, 2) := by decide +kernel
theorem dL_law_199 : decode cL_law 199 = .ok (.iconst 2, 1) := by decide +kernel
theorem dL_law_200 : decode cL_law 200 = .ok (.iadd, 1) := by decide +kernel
theorem dL_law_201 : decode cL_law 201 = .ok (.iaload, 1) := by decide +kernel
theorem dL_law_202 : decode cL_law 202 = .ok (.i2l, 1) := by decide +kernel
theorem dL_law_203 : decode cL_law 203 = .ok (.bipush 32, 2) := by decide +kernel
theorem dL_law_205 : decode cL_law 205 = .ok (.lshl, 1) := by decide +kernel
theorem dL_law_206 : decode cL_law 206 = .ok (.aload_n 0, 1) := by decide +kernel
theorem dL_law_207 : decode cL_law 207 = .ok (.iload 4, 2) := by decide +kernel
theorem dL_law_209 : decode cL_law 209 = .ok (.iconst 3, 1) := by decide +kernel
theorem dL_law_210 : decode cL_law 210 = .ok (.iadd, 1) := by decide +kernel
theorem dL_law_211 : decode cL_law 211 = .ok (.iaload, 1) := by decide +kernel
theorem dL_law_212 : decode cL_law 212 = .ok (.i2l, 1) := by decide +kernel
theorem dL_law_213 : decode cL_law 213 = .ok (.ldc2_w 27, 3) := by decide +kernel
theorem dL_law_216 : decode cL_law 216 = .ok (.land, 1) := by decide +kernel
theorem dL_law_217 : decode cL_law 217 = .ok (.lor, 1) := by decide +kernel
theorem dL_law_218 : decode cL_law 218 = .ok (.aload_n 0, 1) := by decide +kernel
theorem dL_law_219 : decode cL_law 219 = .ok (.iload 4, 2) := by decide +kernel
theorem dL_law_221 : decode cL_law 221 = .ok (.iconst 4, 1) := by decide +kernel
theorem dL_law_222 : decode cL_law 222 = .ok (.iadd, 1) := by decide +kernel
theorem dL_law_223 : decode cL_law 223 = .ok (.iaload, 1) := by decide +kernel
theorem dL_law_224 : decode cL_law 224 = .ok (.i2l, 1) := by decide +kernel
theorem dL_law_225 : decode cL_law 225 = .ok (.bipush 32, 2) := by decide +kernel
theorem dL_law_227 : decode cL_law 227 = .ok (.lshl, 1) := by decide +kernel
theorem dL_law_228 : decode cL_law 228 = .ok (.aload_n 0, 1) := by decide +kernel
theorem dL_law_229 : decode cL_law 229 = .ok (.iload 4, 2) := by decide +kernel
theorem dL_law_231 : decode cL_law 231 = .ok (.iconst 5, 1) := by decide +kernel
theorem dL_law_232 : decode cL_law 232 = .ok (.iadd, 1) := by decide +kernel
theorem dL_law_233 : decode cL_law 233 = .ok (.iaload, 1) := by decide +kernel
theorem dL_law_234 : decode cL_law 234 = .ok (.i2l, 1) := by decide +kernel
theorem dL_law_235 : decode cL_law 235 = .ok (.ldc2_w 27, 3) := by decide +kernel
theorem dL_law_238 : decode cL_law 238 = .ok (.land, 1) := by decide +kernel
theorem dL_law_239 : decode cL_law 239 = .ok (.lor, 1) := by decide +kernel
theorem dL_law_240 : decode cL_law 240 = .ok (.invokevirtual 32, 3) := by decide +kernel
theorem dL_law_243 : decode cL_law 243 = .ok (.istore 6, 2) := by decide +kernel
theorem dL_law_245 : decode cL_law 245 = .ok (.aload_n 2, 1) := by decide +kernel
theorem dL_law_246 : decode cL_law 246 = .ok (.invokevirtual 33, 3) := by decide +kernel
theorem dL_law_249 : decode cL_law 249 = .ok (.iload 5, 2) := by decide +kernel
theorem dL_law_251 : decode cL_law 251 = .ok (.if_icmp .eq 5, 3) := by decide +kernel
theorem dL_law_254 : decode cL_law 254 = .ok (.iconst 0, 1) := by decide +kernel
theorem dL_law_255 : decode cL_law 255 = .ok (.ireturn, 1) := by decide +kernel
theorem dL_law_256 : decode cL_law 256 = .ok (.iload 5, 2) := by decide +kernel
theorem dL_law_258 : decode cL_law 258 = .ok (.ifCond .ne 22, 3) := by decide +kernel
theorem dL_law_261 : decode cL_law 261 = .ok (.aload_n 3, 1) := by decide +kernel
theorem dL_law_262 : decode cL_law 262 = .ok (.iconst 0, 1) := by decide +kernel
theorem dL_law_263 : decode cL_law 263 = .ok (.laload, 1) := by decide +kernel
theorem dL_law_264 : decode cL_law 264 = .ok (.iload 6, 2) := by decide +kernel
theorem dL_law_266 : decode cL_law 266 = .ok (.ifCond .eq 7, 3) := by decide +kernel
theorem dL_law_269 : decode cL_law 269 = .ok (.lconst 1, 1) := by decide +kernel
theorem dL_law_270 : decode cL_law 270 = .ok (.goto 4, 3) := by decide +kernel
theorem dL_law_273 : decode cL_law 273 = .ok (.lconst 0, 1) := by decide +kernel
theorem dL_law_274 : decode cL_law 274 = .ok (.lcmp, 1) := by decide +kernel
theorem dL_law_275 : decode cL_law 275 = .ok (.ifCond .eq 5, 3) := by decide +kernel
theorem dL_law_278 : decode cL_law 278 = .ok (.iconst 0, 1) := by decide +kernel
theorem dL_law_279 : decode cL_law 279 = .ok (.ireturn, 1) := by decide +kernel
theorem dL_law_280 : decode cL_law 280 = .ok (.goto 961, 3) := by decide +kernel
theorem dL_law_283 : decode cL_law 283 = .ok (.aload_n 1, 1) := by decide +kernel
theorem dL_law_284 : decode cL_law 284 = .ok (.aload_n 0, 1) := by decide +kernel
theorem dL_law_285 : decode cL_law 285 = .ok (.iload 4, 2) := by decide +kernel
theorem dL_law_287 : decode cL_law 287 = .ok (.iconst 1, 1) := by decide +kernel
theorem dL_law_288 : decode cL_law 288 = .ok (.iadd, 1) := by decide +kernel
theorem dL_law_289 : decode cL_law 289 = .ok (.iaload, 1) := by decide +kernel
theorem dL_law_290 : decode cL_law 290 = .ok (.invokevirtual 37, 3) := by decide +kernel
theorem dL_law_293 : decode cL_law 293 = .ok (.aload_n 2, 1) := by decide +kernel
theorem dL_law_294 : decode cL_law 294 = .ok (.aload_n 0, 1) := by decide +kernel
theorem dL_law_295 : decode cL_law 295 = .ok (.iload 4, 2) := by decide +kernel
theorem dL_law_297 : decode cL_law 297 = .ok (.iconst 1, 1) := by decide +kernel
theorem dL_law_298 : decode cL_law 298 = .ok (.iadd, 1) := by decide +kernel
theorem dL_law_299 : decode cL_law 299 = .ok (.iaload, 1) := by decide +kernel
theorem dL_law_300 : decode cL_law 300 = .ok (.invokevirtual 41, 3) := by decide +kernel
theorem dL_law_303 : decode cL_law 303 = .ok (.if_icmp .eq 938, 3) := by decide +kernel
theorem dL_law_306 : decode cL_law 306 = .ok (.iconst 0, 1) := by decide +kernel
theorem dL_law_307 : decode cL_law 307 = .ok (.ireturn, 1) := by decide +kernel
theorem dL_law_308 : decode cL_law 308 = .ok (.aload_n 1, 1) := by decide +kernel
theorem dL_law_309 : decode cL_law 309 = .ok (.aload_n 0, 1) := by decide +kernel
theorem dL_law_310 : decode cL_law 310 = .ok (.iload 4, 2) := by decide +kernel
theorem dL_law_312 : decode cL_law 312 = .ok (.iconst 1, 1) := by decide +kernel
theorem dL_law_313 : decode cL_law 313 = .ok (.iadd, 1) := by decide +kernel
theorem dL_law_314 : decode cL_law 314 = .ok (.iaload, 1) := by decide +kernel
theorem dL_law_315 : decode cL_law 315 = .ok (.invokevirtual 42, 3) := by decide +kernel
theorem dL_law_318 : decode cL_law 318 = .ok (.aload_n 2, 1) := by decide +kernel
theorem dL_law_319 : decode cL_law 319 = .ok (.aload_n 0, 1) := by decide +kernel
theorem dL_law_320 : decode cL_law 320 = .ok (.iload 4, 2) := by decide +kernel
theorem dL_law_322 : decode cL_law 322 = .ok (.iconst 1, 1) := by decide +kernel
theorem dL_law_323 : decode cL_law 323 = .ok (.iadd, 1) := by decide +kernel
theorem dL_law_324 : decode cL_law 324 = .ok (.iaload, 1) := by decide +kernel
theorem dL_law_325 : decode cL_law 325 = .ok (.invokevirtual 45, 3) := by decide +kernel
theorem dL_law_328 : decode cL_law 328 = .ok (.if_icmp .eq 913, 3) := by decide +kernel
theorem dL_law_331 : decode cL_law 331 = .ok (.iconst 0, 1) := by decide +kernel
theorem dL_law_332 : decode cL_law 332 = .ok (.ireturn, 1) := by decide +kernel
theorem dL_law_333 : decode cL_law 333 = .ok (.aload_n 1, 1) := by decide +kernel
theorem dL_law_334 : decode cL_law 334 = .ok (.aload_n 0, 1) := by decide +kernel
theorem dL_law_335 : decode cL_law 335 = .ok (.iload 4, 2) := by decide +kernel
theorem dL_law_337 : decode cL_law 337 = .ok (.iconst 1, 1) := by decide +kernel
theorem dL_law_338 : decode cL_law 338 = .ok (.iadd, 1) := by decide +kernel
theorem dL_law_339 : decode cL_law 339 = .ok (.iaload, 1) := by decide +kernel
theorem dL_law_340 : decode cL_law 340 = .ok (.aload_n 0, 1) := by decide +kernel
theorem dL_law_341 : decode cL_law 341 = .ok (.iload 4, 2) := by decide +kernel
theorem dL_law_343 : decode cL_law 343 = .ok (.iconst 2, 1) := by decide +kernel
theorem dL_law_344 : decode cL_law 344 = .ok (.iadd, 1) := by decide +kernel
theorem dL_law_345 : decode cL_law 345 = .ok (.iaload, 1) := by decide +kernel
theorem dL_law_346 : decode cL_law 346 = .ok (.aload_n 0, 1) := by decide +kernel
theorem dL_law_347 : decode cL_law 347 = .ok (.iload 4, 2) := by decide +kernel
theorem dL_law_349 : decode cL_law 349 = .ok (.iconst 3, 1) := by decide +kernel
theorem dL_law_350 : decode cL_law 350 = .ok (.iadd, 1) := by decide +kernel
theorem dL_law_351 : decode cL_law 351 = .ok (.iaload, 1) := by decide +kernel
theorem dL_law_352 : decode cL_law 352 = .ok (.aload_n 0, 1) := by decide +kernel
theorem dL_law_353 : decode cL_law 353 = .ok (.iload 4, 2) := by decide +kernel
theorem dL_law_355 : decode cL_law 355 = .ok (.iconst 4, 1) := by decide +kernel
theorem dL_law_356 : decode cL_law 356 = .ok (.iadd, 1) := by decide +kernel
theorem dL_law_357 : decode cL_law 357 = .ok (.iaload, 1) := by decide +kernel
theorem dL_law_358 : decode cL_law 358 = .ok (.invokevirtual 46, 3) := by decide +kernel
theorem dL_law_361 : decode cL_law 361 = .ok (.aload_n 2, 1) := by decide +kernel
theorem dL_law_362 : decode cL_law 362 = .ok (.aload_n 0, 1) := by decide +kernel
theorem dL_law_363 : decode cL_law 363 = .ok (.iload 4, 2) := by decide +kernel
theorem dL_law_365 : decode cL_law 365 = .ok (.iconst 1, 1) := by decide +kernel
theorem dL_law_366 : decode cL_law 366 = .ok (.iadd, 1) := by decide +kernel
theorem dL_law_367 : decode cL_law 367 = .ok (.iaload, 1) := by decide +kernel
theorem dL_law_368 : decode cL_law 368 = .ok (.aload_n 0, 1) := by decide +kernel
theorem dL_law_369 : decode cL_law 369 = .ok (.iload 4, 2) := by decide +kernel
theorem dL_law_371 : decode cL_law 371 = .ok (.iconst 2, 1) := by decide +kernel
theorem dL_law_372 : decode cL_law 372 = .ok (.iadd, 1) := by decide +kernel
theorem dL_law_373 : decode cL_law 373 = .ok (.iaload, 1) := by decide +kernel
theorem dL_law_374 : decode cL_law 374 = .ok (.aload_n 0, 1) := by decide +kernel
theorem dL_law_375 : decode cL_law 375 = .ok (.iload 4, 2) := by decide +kernel
theorem dL_law_377 : decode cL_law 377 = .ok (.iconst 3, 1) := by decide +kernel
theorem dL_law_378 : decode cL_law 378 = .ok (.iadd, 1) := by decide +kernel
theorem dL_law_379 : decode cL_law 379 = .ok (.iaload, 1) := by decide +kernel
theorem dL_law_380 : decode cL_law 380 = .ok (.aload_n 0, 1) := by decide +kernel
theorem dL_law_381 : decode cL_law 381 = .ok (.iload 4, 2) := by decide +kernel
theorem dL_law_383 : decode cL_law 383 = .ok (.iconst 4, 1) := by decide +kernel
theorem dL_law_384 : decode cL_law 384 = .ok (.iadd, 1) := by decide +kernel
theorem dL_law_385 : decode cL_law 385 = .ok (.iaload, 1) := by decide +kernel
theorem dL_law_386 : decode cL_law 386 = .ok (.invokevirtual 50, 3) := by decide +kernel
theorem dL_law_389 : decode cL_law 389 = .ok (.if_icmp .eq 852, 3) := by decide +kernel
theorem dL_law_392 : decode cL_law 392 = .ok (.iconst 0, 1) := by decide +kernel
theorem dL_law_393 : decode cL_law 393 = .ok (.ireturn, 1) := by decide +kernel
theorem dL_law_394 : decode cL_law 394 = .ok (.aload_n 1, 1) := by decide +kernel
theorem dL_law_395 : decode cL_law 395 = .ok (.aload_n 0, 1) := by decide +kernel
theorem dL_law_396 : decode cL_law 396 = .ok (.iload 4, 2) := by decide +kernel
theorem dL_law_398 : decode cL_law 398 = .ok (.iconst 1, 1) := by decide +kernel
theorem dL_law_399 : decode cL_law 399 = .ok (.iadd, 1) := by decide +kernel
theorem dL_law_400 : decode cL_law 400 = .ok (.iaload, 1) := by decide +kernel
theorem dL_law_401 : decode cL_law 401 = .ok (.aload_n 0, 1) := by decide +kernel
theorem dL_law_402 : decode cL_law 402 = .ok (.iload 4, 2) := by decide +kernel
theorem dL_law_404 : decode cL_law 404 = .ok (.iconst 2, 1) := by decide +kernel
theorem dL_law_405 : decode cL_law 405 = .ok (.iadd, 1) := by decide +kernel
theorem dL_law_406 : decode cL_law 406 = .ok (.iaload, 1) := by decide +kernel
theorem dL_law_407 : decode cL_law 407 = .ok (.i2l, 1) := by decide +kernel
theorem dL_law_408 : decode cL_law 408 = .ok (.bipush 32, 2) := by decide +kernel
theorem dL_law_410 : decode cL_law 410 = .ok (.lshl, 1) := by decide +kernel
theorem dL_law_411 : decode cL_law 411 = .ok (.aload_n 0, 1) := by decide +kernel
theorem dL_law_412 : decode cL_law 412 = .ok (.iload 4, 2) := by decide +kernel
theorem dL_law_414 : decode cL_law 414 = .ok (.iconst 3, 1) := by decide +kernel
theorem dL_law_415 : decode cL_law 415 = .ok (.iadd, 1) := by decide +kernel
theorem dL_law_416 : decode cL_law 416 = .ok (.iaload, 1) := by decide +kernel
theorem dL_law_417 : decode cL_law 417 = .ok (.i2l, 1) := by decide +kernel
theorem dL_law_418 : decode cL_law 418 = .ok (.ldc2_w 27, 3) := by decide +kernel
theorem dL_law_421 : decode cL_law 421 = .ok (.land, 1) := by decide +kernel
theorem dL_law_422 : decode cL_law 422 = .ok (.lor, 1) := by decide +kernel
theorem dL_law_423 : decode cL_law 423 = .ok (.invokevirtual 51, 3) := by decide +kernel
theorem dL_law_426 : decode cL_law 426 = .ok (.aload_n 2, 1) := by decide +kernel
theorem dL_law_427 : decode cL_law 427 = .ok (.aload_n 0, 1) := by decide +kernel
theorem dL_law_428 : decode cL_law 428 = .ok (.iload 4, 2) := by decide +kernel
theorem dL_law_430 : decode cL_law 430 = .ok (.iconst 1, 1) := by decide +kernel
theorem dL_law_431 : decode cL_law 431 = .ok (.iadd, 1) := by decide +kernel
theorem dL_law_432 : decode cL_law 432 = .ok (.iaload, 1) := by decide +kernel
theorem dL_law_433 : decode cL_law 433 = .ok (.aload_n 0, 1) := by decide +kernel
theorem dL_law_434 : decode cL_law 434 = .ok (.iload 4, 2) := by decide +kernel
theorem dL_law_436 : decode cL_law 436 = .ok (.iconst 2, 1) := by decide +kernel
theorem dL_law_437 : decode cL_law 437 = .ok (.iadd, 1) := by decide +kernel
theorem dL_law_438 : decode cL_law 438 = .ok (.iaload, 1) := by decide +kernel
theorem dL_law_439 : decode cL_law 439 = .ok (.i2l, 1) := by decide +kernel
theorem dL_law_440 : decode cL_law 440 = .ok (.bipush 32, 2) := by decide +kernel
theorem dL_law_442 : decode cL_law 442 = .ok (.lshl, 1) := by decide +kernel
theorem dL_law_443 : decode cL_law 443 = .ok (.aload_n 0, 1) := by decide +kernel
theorem dL_law_444 : decode cL_law 444 = .ok (.iload 4, 2) := by decide +kernel
theorem dL_law_446 : decode cL_law 446 = .ok (.iconst 3, 1) := by decide +kernel
theorem dL_law_447 : decode cL_law 447 = .ok (.iadd, 1) := by decide +kernel
theorem dL_law_448 : decode cL_law 448 = .ok (.iaload, 1) := by decide +kernel
theorem dL_law_449 : decode cL_law 449 = .ok (.i2l, 1) := by decide +kernel
theorem dL_law_450 : decode cL_law 450 = .ok (.ldc2_w 27, 3) := by decide +kernel
theorem dL_law_453 : decode cL_law 453 = .ok (.land, 1) := by decide +kernel
theorem dL_law_454 : decode cL_law 454 = .ok (.lor, 1) := by decide +kernel
theorem dL_law_455 : decode cL_law 455 = .ok (.invokevirtual 55, 3) := by decide +kernel
theorem dL_law_458 : decode cL_law 458 = .ok (.if_icmp .eq 783, 3) := by decide +kernel
theorem dL_law_461 : decode cL_law 461 = .ok (.iconst 0, 1) := by decide +kernel
theorem dL_law_462 : decode cL_law 462 = .ok (.ireturn, 1) := by decide +kernel
theorem dL_law_463 : decode cL_law 463 = .ok (.aload_n 1, 1) := by decide +kernel
theorem dL_law_464 : decode cL_law 464 = .ok (.aload_n 0, 1) := by decide +kernel
theorem dL_law_465 : decode cL_law 465 = .ok (.iload 4, 2) := by decide +kernel
theorem dL_law_467 : decode cL_law 467 = .ok (.iconst 1, 1) := by decide +kernel
theorem dL_law_468 : decode cL_law 468 = .ok (.iadd, 1) := by decide +kernel
theorem dL_law_469 : decode cL_law 469 = .ok (.iaload, 1) := by decide +kernel
theorem dL_law_470 : decode cL_law 470 = .ok (.i2l, 1) := by decide +kernel
theorem dL_law_471 : decode cL_law 471 = .ok (.bipush 32, 2) := by decide +kernel
theorem dL_law_473 : decode cL_law 473 = .ok (.lshl, 1) := by decide +kernel
theorem dL_law_474 : decode cL_law 474 = .ok (.aload_n 0, 1) := by decide +kernel
theorem dL_law_475 : decode cL_law 475 = .ok (.iload 4, 2) := by decide +kernel
theorem dL_law_477 : decode cL_law 477 = .ok (.iconst 2, 1) := by decide +kernel
theorem dL_law_478 : decode cL_law 478 = .ok (.iadd, 1) := by decide +kernel
theorem dL_law_479 : decode cL_law 479 = .ok (.iaload, 1) := by decide +kernel
theorem dL_law_480 : decode cL_law 480 = .ok (.i2l, 1) := by decide +kernel
theorem dL_law_481 : decode cL_law 481 = .ok (.ldc2_w 27, 3) := by decide +kernel
theorem dL_law_484 : decode cL_law 484 = .ok (.land, 1) := by decide +kernel
theorem dL_law_485 : decode cL_law 485 = .ok (.lor, 1) := by decide +kernel
theorem dL_law_486 : decode cL_law 486 = .ok (.aload_n 0, 1) := by decide +kernel
theorem dL_law_487 : decode cL_law 487 = .ok (.iload 4, 2) := by decide +kernel
theorem dL_law_489 : decode cL_law 489 = .ok (.iconst 3, 1) := by decide +kernel
theorem dL_law_490 : decode cL_law 490 = .ok (.iadd, 1) := by decide +kernel
theorem dL_law_491 : decode cL_law 491 = .ok (.iaload, 1) := by decide +kernel
theorem dL_law_492 : decode cL_law 492 = .ok (.i2l, 1) := by decide +kernel
theorem dL_law_493 : decode cL_law 493 = .ok (.bipush 32, 2) := by decide +kernel
theorem dL_law_495 : decode cL_law 495 = .ok (.lshl, 1) := by decide +kernel
theorem dL_law_496 : decode cL_law 496 = .ok (.aload_n 0, 1) := by decide +kernel
theorem dL_law_497 : decode cL_law 497 = .ok (.iload 4, 2) := by decide +kernel
theorem dL_law_499 : decode cL_law 499 = .ok (.iconst 4, 1) := by decide +kernel
theorem dL_law_500 : decode cL_law 500 = .ok (.iadd, 1) := by decide +kernel
theorem dL_law_501 : decode cL_law 501 = .ok (.iaload, 1) := by decide +kernel
theorem dL_law_502 : decode cL_law 502 = .ok (.i2l, 1) := by decide +kernel
theorem dL_law_503 : decode cL_law 503 = .ok (.ldc2_w 27, 3) := by decide +kernel
theorem dL_law_506 : decode cL_law 506 = .ok (.land, 1) := by decide +kernel
theorem dL_law_507 : decode cL_law 507 = .ok (.lor, 1) := by decide +kernel
theorem dL_law_508 : decode cL_law 508 = .ok (.aload_n 0, 1) := by decide +kernel
theorem dL_law_509 : decode cL_law 509 = .ok (.iload 4, 2) := by decide +kernel
theorem dL_law_511 : decode cL_law 511 = .ok (.iconst 5, 1) := by decide +kernel
theorem dL_law_512 : decode cL_law 512 = .ok (.iadd, 1) := by decide +kernel
theorem dL_law_513 : decode cL_law 513 = .ok (.iaload, 1) := by decide +kernel
theorem dL_law_514 : decode cL_law 514 = .ok (.i2l, 1) := by decide +kernel
theorem dL_law_515 : decode cL_law 515 = .ok (.bipush 32, 2) := by decide +kernel
theorem dL_law_517 : decode cL_law 517 = .ok (.lshl, 1) := by decide +kernel
theorem dL_law_518 : decode cL_law 518 = .ok (.aload_n 0, 1) := by decide +kernel
theorem dL_law_519 : decode cL_law 519 = .ok (.iload 4, 2) := by decide +kernel
theorem dL_law_521 : decode cL_law 521 = .ok (.bipush 6, 2) := by decide +kernel
theorem dL_law_523 : decode cL_law 523 = .ok (.iadd, 1) := by decide +kernel
theorem dL_law_524 : decode cL_law 524 = .ok (.iaload, 1) := by decide +kernel
theorem dL_law_525 : decode cL_law 525 = .ok (.i2l, 1) := by decide +kernel
theorem dL_law_526 : decode cL_law 526 = .ok (.ldc2_w 27, 3) := by decide +kernel
theorem dL_law_529 : decode cL_law 529 = .ok (.land, 1) := by decide +kernel
theorem dL_law_530 : decode cL_law 530 = .ok (.lor, 1) := by decide +kernel
theorem dL_law_531 : decode cL_law 531 = .ok (.aload_n 0, 1) := by decide +kernel
theorem dL_law_532 : decode cL_law 532 = .ok (.iload 4, 2) := by decide +kernel
theorem dL_law_534 : decode cL_law 534 = .ok (.bipush 7, 2) := by decide +kernel
theorem dL_law_536 : decode cL_law 536 = .ok (.iadd, 1) := by decide +kernel
theorem dL_law_537 : decode cL_law 537 = .ok (.iaload, 1) := by decide +kernel
theorem dL_law_538 : decode cL_law 538 = .ok (.invokevirtual 56, 3) := by decide +kernel
theorem dL_law_541 : decode cL_law 541 = .ok (.aload_n 2, 1) := by decide +kernel
theorem dL_law_542 : decode cL_law 542 = .ok (.aload_n 0, 1) := by decide +kernel
theorem dL_law_543 : decode cL_law 543 = .ok (.iload 4, 2) := by decide +kernel
theorem dL_law_545 : decode cL_law 545 = .ok (.iconst 1, 1) := by decide +kernel
theorem dL_law_546 : decode cL_law 546 = .ok (.iadd, 1) := by decide +kernel
theorem dL_law_547 : decode cL_law 547 = .ok (.iaload, 1) := by decide +kernel
theorem dL_law_548 : decode cL_law 548 = .ok (.i2l, 1) := by decide +kernel
theorem dL_law_549 : decode cL_law 549 = .ok (.bipush 32, 2) := by decide +kernel
theorem dL_law_551 : decode cL_law 551 = .ok (.lshl, 1) := by decide +kernel
theorem dL_law_552 : decode cL_law 552 = .ok (.aload_n 0, 1) := by decide +kernel
theorem dL_law_553 : decode cL_law 553 = .ok (.iload 4, 2) := by decide +kernel
theorem dL_law_555 : decode cL_law 555 = .ok (.iconst 2, 1) := by decide +kernel
theorem dL_law_556 : decode cL_law 556 = .ok (.iadd, 1) := by decide +kernel
theorem dL_law_557 : decode cL_law 557 = .ok (.iaload, 1) := by decide +kernel
theorem dL_law_558 : decode cL_law 558 = .ok (.i2l, 1) := by decide +kernel
theorem dL_law_559 : decode cL_law 559 = .ok (.ldc2_w 27, 3) := by decide +kernel
theorem dL_law_562 : decode cL_law 562 = .ok (.land, 1) := by decide +kernel
theorem dL_law_563 : decode cL_law 563 = .ok (.lor, 1) := by decide +kernel
theorem dL_law_564 : decode cL_law 564 = .ok (.aload_n 0, 1) := by decide +kernel
theorem dL_law_565 : decode cL_law 565 = .ok (.iload 4, 2) := by decide +kernel
theorem dL_law_567 : decode cL_law 567 = .ok (.iconst 3, 1) := by decide +kernel
theorem dL_law_568 : decode cL_law 568 = .ok (.iadd, 1) := by decide +kernel
theorem dL_law_569 : decode cL_law 569 = .ok (.iaload, 1) := by decide +kernel
theorem dL_law_570 : decode cL_law 570 = .ok (.i2l, 1) := by decide +kernel
theorem dL_law_571 : decode cL_law 571 = .ok (.bipush 32, 2) := by decide +kernel
theorem dL_law_573 : decode cL_law 573 = .ok (.lshl, 1) := by decide +kernel
theorem dL_law_574 : decode cL_law 574 = .ok (.aload_n 0, 1) := by decide +kernel
theorem dL_law_575 : decode cL_law 575 = .ok (.iload 4, 2) := by decide +kernel
theorem dL_law_577 : decode cL_law 577 = .ok (.iconst 4, 1) := by decide +kernel
theorem dL_law_578 : decode cL_law 578 = .ok (.iadd, 1) := by decide +kernel
theorem dL_law_579 : decode cL_law 579 = .ok (.iaload, 1) := by decide +kernel
theorem dL_law_580 : decode cL_law 580 = .ok (.i2l, 1) := by decide +kernel
theorem dL_law_581 : decode cL_law 581 = .ok (.ldc2_w 27, 3) := by decide +kernel
theorem dL_law_584 : decode cL_law 584 = .ok (.land, 1) := by decide +kernel
theorem dL_law_585 : decode cL_law 585 = .ok (.lor, 1) := by decide +kernel
theorem dL_law_586 : decode cL_law 586 = .ok (.aload_n 0, 1) := by decide +kernel
theorem dL_law_587 : decode cL_law 587 = .ok (.iload 4, 2) := by decide +kernel
theorem dL_law_589 : decode cL_law 589 = .ok (.iconst 5, 1) := by decide +kernel
theorem dL_law_590 : decode cL_law 590 = .ok (.iadd, 1) := by decide +kernel
theorem dL_law_591 : decode cL_law 591 = .ok (.iaload, 1) := by decide +kernel
theorem dL_law_592 : decode cL_law 592 = .ok (.i2l, 1) := by decide +kernel
theorem dL_law_593 : decode cL_law 593 = .ok (.bipush 32, 2) := by decide +kernel
theorem dL_law_595 : decode cL_law 595 = .ok (.lshl, 1) := by decide +kernel
theorem dL_law_596 : decode cL_law 596 = .ok (.aload_n 0, 1) := by decide +kernel
theorem dL_law_597 : decode cL_law 597 = .ok (.iload 4, 2) := by decide +kernel
theorem dL_law_599 : decode cL_law 599 = .ok (.bipush 6, 2) := by decide +kernel
theorem dL_law_601 : decode cL_law 601 = .ok (.iadd, 1) := by decide +kernel
theorem dL_law_602 : decode cL_law 602 = .ok (.iaload, 1) := by decide +kernel
theorem dL_law_603 : decode cL_law 603 = .ok (.i2l, 1) := by decide +kernel
theorem dL_law_604 : decode cL_law 604 = .ok (.ldc2_w 27, 3) := by decide +kernel
theorem dL_law_607 : decode cL_law 607 = .ok (.land, 1) := by decide +kernel
theorem dL_law_608 : decode cL_law 608 = .ok (.lor, 1) := by decide +kernel
theorem dL_law_609 : decode cL_law 609 = .ok (.aload_n 0, 1) := by decide +kernel
theorem dL_law_610 : decode cL_law 610 = .ok (.iload 4, 2) := by decide +kernel
theorem dL_law_612 : decode cL_law 612 = .ok (.bipush 7, 2) := by decide +kernel
theorem dL_law_614 : decode cL_law 614 = .ok (.iadd, 1) := by decide +kernel
theorem dL_law_615 : decode cL_law 615 = .ok (.iaload, 1) := by decide +kernel
theorem dL_law_616 : decode cL_law 616 = .ok (.invokevirtual 60, 3) := by decide +kernel
theorem dL_law_619 : decode cL_law 619 = .ok (.if_icmp .eq 622, 3) := by decide +kernel
theorem dL_law_622 : decode cL_law 622 = .ok (.iconst 0, 1) := by decide +kernel
theorem dL_law_623 : decode cL_law 623 = .ok (.ireturn, 1) := by decide +kernel
theorem dL_law_624 : decode cL_law 624 = .ok (.aload_n 1, 1) := by decide +kernel
theorem dL_law_625 : decode cL_law 625 = .ok (.invokevirtual 61, 3) := by decide +kernel
theorem dL_law_628 : decode cL_law 628 = .ok (.aload_n 2, 1) := by decide +kernel
theorem dL_law_629 : decode cL_law 629 = .ok (.invokevirtual 64, 3) := by decide +kernel
theorem dL_law_632 : decode cL_law 632 = .ok (.if_icmp .eq 609, 3) := by decide +kernel
theorem dL_law_635 : decode cL_law 635 = .ok (.iconst 0, 1) := by decide +kernel
theorem dL_law_636 : decode cL_law 636 = .ok (.ireturn, 1) := by decide +kernel
theorem dL_law_637 : decode cL_law 637 = .ok (.aload_n 1, 1) := by decide +kernel
theorem dL_law_638 : decode cL_law 638 = .ok (.aload_n 0, 1) := by decide +kernel
theorem dL_law_639 : decode cL_law 639 = .ok (.iload 4, 2) := by decide +kernel
theorem dL_law_641 : decode cL_law 641 = .ok (.iconst 1, 1) := by decide +kernel
theorem dL_law_642 : decode cL_law 642 = .ok (.iadd, 1) := by decide +kernel
theorem dL_law_643 : decode cL_law 643 = .ok (.iaload, 1) := by decide +kernel
theorem dL_law_644 : decode cL_law 644 = .ok (.aload_n 0, 1) := by decide +kernel
theorem dL_law_645 : decode cL_law 645 = .ok (.iload 4, 2) := by decide +kernel
theorem dL_law_647 : decode cL_law 647 = .ok (.iconst 2, 1) := by decide +kernel
theorem dL_law_648 : decode cL_law 648 = .ok (.iadd, 1) := by decide +kernel
theorem dL_law_649 : decode cL_law 649 = .ok (.iaload, 1) := by decide +kernel
theorem dL_law_650 : decode cL_law 650 = .ok (.i2l, 1) := by decide +kernel
theorem dL_law_651 : decode cL_law 651 = .ok (.bipush 32, 2) := by decide +kernel
theorem dL_law_653 : decode cL_law 653 = .ok (.lshl, 1) := by decide +kernel
theorem dL_law_654 : decode cL_law 654 = .ok (.aload_n 0, 1) := by decide +kernel
theorem dL_law_655 : decode cL_law 655 = .ok (.iload 4, 2) := by decide +kernel
theorem dL_law_657 : decode cL_law 657 = .ok (.iconst 3, 1) := by decide +kernel
theorem dL_law_658 : decode cL_law 658 = .ok (.iadd, 1) := by decide +kernel
theorem dL_law_659 : decode cL_law 659 = .ok (.iaload, 1) := by decide +kernel
theorem dL_law_660 : decode cL_law 660 = .ok (.i2l, 1) := by decide +kernel
theorem dL_law_661 : decode cL_law 661 = .ok (.ldc2_w 27, 3) := by decide +kernel
theorem dL_law_664 : decode cL_law 664 = .ok (.land, 1) := by decide +kernel
theorem dL_law_665 : decode cL_law 665 = .ok (.lor, 1) := by decide +kernel
theorem dL_law_666 : decode cL_law 666 = .ok (.aload_n 0, 1) := by decide +kernel
theorem dL_law_667 : decode cL_law 667 = .ok (.iload 4, 2) := by decide +kernel
theorem dL_law_669 : decode cL_law 669 = .ok (.iconst 4, 1) := by decide +kernel
theorem dL_law_670 : decode cL_law 670 = .ok (.iadd, 1) := by decide +kernel
theorem dL_law_671 : decode cL_law 671 = .ok (.iaload, 1) := by decide +kernel
theorem dL_law_672 : decode cL_law 672 = .ok (.i2l, 1) := by decide +kernel
theorem dL_law_673 : decode cL_law 673 = .ok (.bipush 32, 2) := by decide +kernel
theorem dL_law_675 : decode cL_law 675 = .ok (.lshl, 1) := by decide +kernel
theorem dL_law_676 : decode cL_law 676 = .ok (.aload_n 0, 1) := by decide +kernel
theorem dL_law_677 : decode cL_law 677 = .ok (.iload 4, 2) := by decide +kernel
theorem dL_law_679 : decode cL_law 679 = .ok (.iconst 5, 1) := by decide +kernel
theorem dL_law_680 : decode cL_law 680 = .ok (.iadd, 1) := by decide +kernel
theorem dL_law_681 : decode cL_law 681 = .ok (.iaload, 1) := by decide +kernel
theorem dL_law_682 : decode cL_law 682 = .ok (.i2l, 1) := by decide +kernel
theorem dL_law_683 : decode cL_law 683 = .ok (.ldc2_w 27, 3) := by decide +kernel
theorem dL_law_686 : decode cL_law 686 = .ok (.land, 1) := by decide +kernel
theorem dL_law_687 : decode cL_law 687 = .ok (.lor, 1) := by decide +kernel
theorem dL_law_688 : decode cL_law 688 = .ok (.aload_n 0, 1) := by decide +kernel
theorem dL_law_689 : decode cL_law 689 = .ok (.iload 4, 2) := by decide +kernel
theorem dL_law_691 : decode cL_law 691 = .ok (.bipush 6, 2) := by decide +kernel
theorem dL_law_693 : decode cL_law 693 = .ok (.iadd, 1) := by decide +kernel
theorem dL_law_694 : decode cL_law 694 = .ok (.iaload, 1) := by decide +kernel
theorem dL_law_695 : decode cL_law 695 = .ok (.i2l, 1) := by decide +kernel
theorem dL_law_696 : decode cL_law 696 = .ok (.bipush 32, 2) := by decide +kernel
theorem dL_law_698 : decode cL_law 698 = .ok (.lshl, 1) := by decide +kernel
theorem dL_law_699 : decode cL_law 699 = .ok (.aload_n 0, 1) := by decide +kernel
theorem dL_law_700 : decode cL_law 700 = .ok (.iload 4, 2) := by decide +kernel
theorem dL_law_702 : decode cL_law 702 = .ok (.bipush 7, 2) := by decide +kernel
theorem dL_law_704 : decode cL_law 704 = .ok (.iadd, 1) := by decide +kernel
theorem dL_law_705 : decode cL_law 705 = .ok (.iaload, 1) := by decide +kernel
theorem dL_law_706 : decode cL_law 706 = .ok (.i2l, 1) := by decide +kernel
theorem dL_law_707 : decode cL_law 707 = .ok (.ldc2_w 27, 3) := by decide +kernel
theorem dL_law_710 : decode cL_law 710 = .ok (.land, 1) := by decide +kernel
theorem dL_law_711 : decode cL_law 711 = .ok (.lor, 1) := by decide +kernel
theorem dL_law_712 : decode cL_law 712 = .ok (.invokevirtual 65, 3) := by decide +kernel
theorem dL_law_715 : decode cL_law 715 = .ok (.aload_n 2, 1) := by decide +kernel
theorem dL_law_716 : decode cL_law 716 = .ok (.aload_n 0, 1) := by decide +kernel
theorem dL_law_717 : decode cL_law 717 = .ok (.iload 4, 2) := by decide +kernel
theorem dL_law_719 : decode cL_law 719 = .ok (.iconst 1, 1) := by decide +kernel
theorem dL_law_720 : decode cL_law 720 = .ok (.iadd, 1) := by decide +kernel
theorem dL_law_721 : decode cL_law 721 = .ok (.iaload, 1) := by decide +kernel
theorem dL_law_722 : decode cL_law 722 = .ok (.aload_n 0, 1) := by decide +kernel
theorem dL_law_723 : decode cL_law 723 = .ok (.iload 4, 2) := by decide +kernel
theorem dL_law_725 : decode cL_law 725 = .ok (.iconst 2, 1) := by decide +kernel
theorem dL_law_726 : decode cL_law 726 = .ok (.iadd, 1) := by decide +kernel
theorem dL_law_727 : decode cL_law 727 = .ok (.iaload, 1) := by decide +kernel
theorem dL_law_728 : decode cL_law 728 = .ok (.i2l, 1) := by decide +kernel
theorem dL_law_729 : decode cL_law 729 = .ok (.bipush 32, 2) := by decide +kernel
theorem dL_law_731 : decode cL_law 731 = .ok (.lshl, 1) := by decide +kernel
theorem dL_law_732 : decode cL_law 732 = .ok (.aload_n 0, 1) := by decide +kernel
theorem dL_law_733 : decode cL_law 733 = .ok (.iload 4, 2) := by decide +kernel
theorem dL_law_735 : decode cL_law 735 = .ok (.iconst 3, 1) := by decide +kernel
theorem dL_law_736 : decode cL_law 736 = .ok (.iadd, 1) := by decide +kernel
theorem dL_law_737 : decode cL_law 737 = .ok (.iaload, 1) := by decide +kernel
theorem dL_law_738 : decode cL_law 738 = .ok (.i2l, 1) := by decide +kernel
theorem dL_law_739 : decode cL_law 739 = .ok (.ldc2_w 27, 3) := by decide +kernel
theorem dL_law_742 : decode cL_law 742 = .ok (.land, 1) := by decide +kernel
theorem dL_law_743 : decode cL_law 743 = .ok (.lor, 1) := by decide +kernel
theorem dL_law_744 : decode cL_law 744 = .ok (.aload_n 0, 1) := by decide +kernel
theorem dL_law_745 : decode cL_law 745 = .ok (.iload 4, 2) := by decide +kernel
theorem dL_law_747 : decode cL_law 747 = .ok (.iconst 4, 1) := by decide +kernel
theorem dL_law_748 : decode cL_law 748 = .ok (.iadd, 1) := by decide +kernel
theorem dL_law_749 : decode cL_law 749 = .ok (.iaload, 1) := by decide +kernel
theorem dL_law_750 : decode cL_law 750 = .ok (.i2l, 1) := by decide +kernel
theorem dL_law_751 : decode cL_law 751 = .ok (.bipush 32, 2) := by decide +kernel
theorem dL_law_753 : decode cL_law 753 = .ok (.lshl, 1) := by decide +kernel
theorem dL_law_754 : decode cL_law 754 = .ok (.aload_n 0, 1) := by decide +kernel
theorem dL_law_755 : decode cL_law 755 = .ok (.iload 4, 2) := by decide +kernel
theorem dL_law_757 : decode cL_law 757 = .ok (.iconst 5, 1) := by decide +kernel
theorem dL_law_758 : decode cL_law 758 = .ok (.iadd, 1) := by decide +kernel
theorem dL_law_759 : decode cL_law 759 = .ok (.iaload, 1) := by decide +kernel
theorem dL_law_760 : decode cL_law 760 = .ok (.i2l, 1) := by decide +kernel
theorem dL_law_761 : decode cL_law 761 = .ok (.ldc2_w 27, 3) := by decide +kernel
theorem dL_law_764 : decode cL_law 764 = .ok (.land, 1) := by decide +kernel
theorem dL_law_765 : decode cL_law 765 = .ok (.lor, 1) := by decide +kernel
theorem dL_law_766 : decode cL_law 766 = .ok (.aload_n 0, 1) := by decide +kernel
theorem dL_law_767 : decode cL_law 767 = .ok (.iload 4, 2) := by decide +kernel
theorem dL_law_769 : decode cL_law 769 = .ok (.bipush 6, 2) := by decide +kernel
theorem dL_law_771 : decode cL_law 771 = .ok (.iadd, 1) := by decide +kernel
theorem dL_law_772 : decode cL_law 772 = .ok (.iaload, 1) := by decide +kernel
theorem dL_law_773 : decode cL_law 773 = .ok (.i2l, 1) := by decide +kernel
theorem dL_law_774 : decode cL_law 774 = .ok (.bipush 32, 2) := by decide +kernel
theorem dL_law_776 : decode cL_law 776 = .ok (.lshl, 1) := by decide +kernel
theorem dL_law_777 : decode cL_law 777 = .ok (.aload_n 0, 1) := by decide +kernel
theorem dL_law_778 : decode cL_law 778 = .ok (.iload 4, 2) := by decide +kernel
theorem dL_law_780 : decode cL_law 780 = .ok (.bipush 7, 2) := by decide +kernel
theorem dL_law_782 : decode cL_law 782 = .ok (.iadd, 1) := by decide +kernel
theorem dL_law_783 : decode cL_law 783 = .ok (.iaload, 1) := by decide +kernel
theorem dL_law_784 : decode cL_law 784 = .ok (.i2l, 1) := by decide +kernel
theorem dL_law_785 : decode cL_law 785 = .ok (.ldc2_w 27, 3) := by decide +kernel
theorem dL_law_788 : decode cL_law 788 = .ok (.land, 1) := by decide +kernel
theorem dL_law_789 : decode cL_law 789 = .ok (.lor, 1) := by decide +kernel
theorem dL_law_790 : decode cL_law 790 = .ok (.invokevirtual 69, 3) := by decide +kernel
theorem dL_law_793 : decode cL_law 793 = .ok (.if_icmp .eq 448, 3) := by decide +kernel
theorem dL_law_796 : decode cL_law 796 = .ok (.iconst 0, 1) := by decide +kernel
theorem dL_law_797 : decode cL_law 797 = .ok (.ireturn, 1) := by decide +kernel
theorem dL_law_798 : decode cL_law 798 = .ok (.aload_n 1, 1) := by decide +kernel
theorem dL_law_799 : decode cL_law 799 = .ok (.aload_n 0, 1) := by decide +kernel
theorem dL_law_800 : decode cL_law 800 = .ok (.iload 4, 2) := by decide +kernel
theorem dL_law_802 : decode cL_law 802 = .ok (.iconst 1, 1) := by decide +kernel
theorem dL_law_803 : decode cL_law 803 = .ok (.iadd, 1) := by decide +kernel
theorem dL_law_804 : decode cL_law 804 = .ok (.iaload, 1) := by decide +kernel
theorem dL_law_805 : decode cL_law 805 = .ok (.aload_n 0, 1) := by decide +kernel
theorem dL_law_806 : decode cL_law 806 = .ok (.iload 4, 2) := by decide +kernel
theorem dL_law_808 : decode cL_law 808 = .ok (.iconst 2, 1) := by decide +kernel
theorem dL_law_809 : decode cL_law 809 = .ok (.iadd, 1) := by decide +kernel
theorem dL_law_810 : decode cL_law 810 = .ok (.iaload, 1) := by decide +kernel
theorem dL_law_811 : decode cL_law 811 = .ok (.invokevirtual 70, 3) := by decide +kernel
theorem dL_law_814 : decode cL_law 814 = .ok (.aload_n 2, 1) := by decide +kernel
theorem dL_law_815 : decode cL_law 815 = .ok (.aload_n 0, 1) := by decide +kernel
theorem dL_law_816 : decode cL_law 816 = .ok (.iload 4, 2) := by decide +kernel
theorem dL_law_818 : decode cL_law 818 = .ok (.iconst 1, 1) := by decide +kernel
theorem dL_law_819 : decode cL_law 819 = .ok (.iadd, 1) := by decide +kernel
theorem dL_law_820 : decode cL_law 820 = .ok (.iaload, 1) := by decide +kernel
theorem dL_law_821 : decode cL_law 821 = .ok (.aload_n 0, 1) := by decide +kernel
theorem dL_law_822 : decode cL_law 822 = .ok (.iload 4, 2) := by decide +kernel
theorem dL_law_824 : decode cL_law 824 = .ok (.iconst 2, 1) := by decide +kernel
theorem dL_law_825 : decode cL_law 825 = .ok (.iadd, 1) := by decide +kernel
theorem dL_law_826 : decode cL_law 826 = .ok (.iaload, 1) := by decide +kernel
theorem dL_law_827 : decode cL_law 827 = .ok (.invokevirtual 74, 3) := by decide +kernel
theorem dL_law_830 : decode cL_law 830 = .ok (.if_icmp .eq 411, 3) := by decide +kernel
theorem dL_law_833 : decode cL_law 833 = .ok (.iconst 0, 1) := by decide +kernel
theorem dL_law_834 : decode cL_law 834 = .ok (.ireturn, 1) := by decide +kernel
theorem dL_law_835 : decode cL_law 835 = .ok (.aload_n 1, 1) := by decide +kernel
theorem dL_law_836 : decode cL_law 836 = .ok (.aload_n 0, 1) := by decide +kernel
theorem dL_law_837 : decode cL_law 837 = .ok (.iload 4, 2) := by decide +kernel
theorem dL_law_839 : decode cL_law 839 = .ok (.iconst 1, 1) := by decide +kernel
theorem dL_law_840 : decode cL_law 840 = .ok (.iadd, 1) := by decide +kernel
theorem dL_law_841 : decode cL_law 841 = .ok (.iaload, 1) := by decide +kernel
theorem dL_law_842 : decode cL_law 842 = .ok (.aload_n 0, 1) := by decide +kernel
theorem dL_law_843 : decode cL_law 843 = .ok (.iload 4, 2) := by decide +kernel
theorem dL_law_845 : decode cL_law 845 = .ok (.iconst 2, 1) := by decide +kernel
theorem dL_law_846 : decode cL_law 846 = .ok (.iadd, 1) := by decide +kernel
theorem dL_law_847 : decode cL_law 847 = .ok (.iaload, 1) := by decide +kernel
theorem dL_law_848 : decode cL_law 848 = .ok (.invokevirtual 75, 3) := by decide +kernel
theorem dL_law_851 : decode cL_law 851 = .ok (.aload_n 2, 1) := by decide +kernel
theorem dL_law_852 : decode cL_law 852 = .ok (.aload_n 0, 1) := by decide +kernel
theorem dL_law_853 : decode cL_law 853 = .ok (.iload 4, 2) := by decide +kernel
theorem dL_law_855 : decode cL_law 855 = .ok (.iconst 1, 1) := by decide +kernel
theorem dL_law_856 : decode cL_law 856 = .ok (.iadd, 1) := by decide +kernel
theorem dL_law_857 : decode cL_law 857 = .ok (.iaload, 1) := by decide +kernel
theorem dL_law_858 : decode cL_law 858 = .ok (.aload_n 0, 1) := by decide +kernel
theorem dL_law_859 : decode cL_law 859 = .ok (.iload 4, 2) := by decide +kernel
theorem dL_law_861 : decode cL_law 861 = .ok (.iconst 2, 1) := by decide +kernel
theorem dL_law_862 : decode cL_law 862 = .ok (.iadd, 1) := by decide +kernel
theorem dL_law_863 : decode cL_law 863 = .ok (.iaload, 1) := by decide +kernel
theorem dL_law_864 : decode cL_law 864 = .ok (.invokevirtual 79, 3) := by decide +kernel
theorem dL_law_867 : decode cL_law 867 = .ok (.lcmp, 1) := by decide +kernel
theorem dL_law_868 : decode cL_law 868 = .ok (.ifCond .eq 373, 3) := by decide +kernel
theorem dL_law_871 : decode cL_law 871 = .ok (.iconst 0, 1) := by decide +kernel
theorem dL_law_872 : decode cL_law 872 = .ok (.ireturn, 1) := by decide +kernel
theorem dL_law_873 : decode cL_law 873 = .ok (.aload_n 1, 1) := by decide +kernel
theorem dL_law_874 : decode cL_law 874 = .ok (.aload_n 0, 1) := by decide +kernel
theorem dL_law_875 : decode cL_law 875 = .ok (.iload 4, 2) := by decide +kernel
theorem dL_law_877 : decode cL_law 877 = .ok (.iconst 1, 1) := by decide +kernel
theorem dL_law_878 : decode cL_law 878 = .ok (.iadd, 1) := by decide +kernel
theorem dL_law_879 : decode cL_law 879 = .ok (.iaload, 1) := by decide +kernel
theorem dL_law_880 : decode cL_law 880 = .ok (.invokevirtual 80, 3) := by decide +kernel
theorem dL_law_883 : decode cL_law 883 = .ok (.aload_n 2, 1) := by decide +kernel
theorem dL_law_884 : decode cL_law 884 = .ok (.aload_n 0, 1) := by decide +kernel
theorem dL_law_885 : decode cL_law 885 = .ok (.iload 4, 2) := by decide +kernel
theorem dL_law_887 : decode cL_law 887 = .ok (.iconst 1, 1) := by decide +kernel
theorem dL_law_888 : decode cL_law 888 = .ok (.iadd, 1) := by decide +kernel
theorem dL_law_889 : decode cL_law 889 = .ok (.iaload, 1) := by decide +kernel
theorem dL_law_890 : decode cL_law 890 = .ok (.invokevirtual 84, 3) := by decide +kernel
theorem dL_law_893 : decode cL_law 893 = .ok (.if_icmp .eq 348, 3) := by decide +kernel
theorem dL_law_896 : decode cL_law 896 = .ok (.iconst 0, 1) := by decide +kernel
theorem dL_law_897 : decode cL_law 897 = .ok (.ireturn, 1) := by decide +kernel
theorem dL_law_898 : decode cL_law 898 = .ok (.aload_n 1, 1) := by decide +kernel
theorem dL_law_899 : decode cL_law 899 = .ok (.aload_n 0, 1) := by decide +kernel
theorem dL_law_900 : decode cL_law 900 = .ok (.iload 4, 2) := by decide +kernel
theorem dL_law_902 : decode cL_law 902 = .ok (.iconst 1, 1) := by decide +kernel
theorem dL_law_903 : decode cL_law 903 = .ok (.iadd, 1) := by decide +kernel
theorem dL_law_904 : decode cL_law 904 = .ok (.iaload, 1) := by decide +kernel
theorem dL_law_905 : decode cL_law 905 = .ok (.aload_n 0, 1) := by decide +kernel
theorem dL_law_906 : decode cL_law 906 = .ok (.iload 4, 2) := by decide +kernel
theorem dL_law_908 : decode cL_law 908 = .ok (.iconst 2, 1) := by decide +kernel
theorem dL_law_909 : decode cL_law 909 = .ok (.iadd, 1) := by decide +kernel
theorem dL_law_910 : decode cL_law 910 = .ok (.iaload, 1) := by decide +kernel
theorem dL_law_911 : decode cL_law 911 = .ok (.aload_n 0, 1) := by decide +kernel
theorem dL_law_912 : decode cL_law 912 = .ok (.iload 4, 2) := by decide +kernel
theorem dL_law_914 : decode cL_law 914 = .ok (.iconst 3, 1) := by decide +kernel
theorem dL_law_915 : decode cL_law 915 = .ok (.iadd, 1) := by decide +kernel
theorem dL_law_916 : decode cL_law 916 = .ok (.iaload, 1) := by decide +kernel
theorem dL_law_917 : decode cL_law 917 = .ok (.invokevirtual 85, 3) := by decide +kernel
theorem dL_law_920 : decode cL_law 920 = .ok (.aload_n 2, 1) := by decide +kernel
theorem dL_law_921 : decode cL_law 921 = .ok (.aload_n 0, 1) := by decide +kernel
theorem dL_law_922 : decode cL_law 922 = .ok (.iload 4, 2) := by decide +kernel
theorem dL_law_924 : decode cL_law 924 = .ok (.iconst 1, 1) := by decide +kernel
theorem dL_law_925 : decode cL_law 925 = .ok (.iadd, 1) := by decide +kernel
theorem dL_law_926 : decode cL_law 926 = .ok (.iaload, 1) := by decide +kernel
theorem dL_law_927 : decode cL_law 927 = .ok (.aload_n 0, 1) := by decide +kernel
theorem dL_law_928 : decode cL_law 928 = .ok (.iload 4, 2) := by decide +kernel
theorem dL_law_930 : decode cL_law 930 = .ok (.iconst 2, 1) := by decide +kernel
theorem dL_law_931 : decode cL_law 931 = .ok (.iadd, 1) := by decide +kernel
theorem dL_law_932 : decode cL_law 932 = .ok (.iaload, 1) := by decide +kernel
theorem dL_law_933 : decode cL_law 933 = .ok (.aload_n 0, 1) := by decide +kernel
theorem dL_law_934 : decode cL_law 934 = .ok (.iload 4, 2) := by decide +kernel
theorem dL_law_936 : decode cL_law 936 = .ok (.iconst 3, 1) := by decide +kernel
theorem dL_law_937 : decode cL_law 937 = .ok (.iadd, 1) := by decide +kernel
theorem dL_law_938 : decode cL_law 938 = .ok (.iaload, 1) := by decide +kernel
theorem dL_law_939 : decode cL_law 939 = .ok (.invokevirtual 89, 3) := by decide +kernel
theorem dL_law_942 : decode cL_law 942 = .ok (.lcmp, 1) := by decide +kernel
theorem dL_law_943 : decode cL_law 943 = .ok (.ifCond .eq 298, 3) := by decide +kernel
theorem dL_law_946 : decode cL_law 946 = .ok (.iconst 0, 1) := by decide +kernel
theorem dL_law_947 : decode cL_law 947 = .ok (.ireturn, 1) := by decide +kernel
theorem dL_law_948 : decode cL_law 948 = .ok (.aload_n 1, 1) := by decide +kernel
theorem dL_law_949 : decode cL_law 949 = .ok (.aload_n 0, 1) := by decide +kernel
theorem dL_law_950 : decode cL_law 950 = .ok (.iload 4, 2) := by decide +kernel
theorem dL_law_952 : decode cL_law 952 = .ok (.iconst 1, 1) := by decide +kernel
theorem dL_law_953 : decode cL_law 953 = .ok (.iadd, 1) := by decide +kernel
theorem dL_law_954 : decode cL_law 954 = .ok (.iaload, 1) := by decide +kernel
theorem dL_law_955 : decode cL_law 955 = .ok (.aload_n 0, 1) := by decide +kernel
theorem dL_law_956 : decode cL_law 956 = .ok (.iload 4, 2) := by decide +kernel
theorem dL_law_958 : decode cL_law 958 = .ok (.iconst 2, 1) := by decide +kernel
theorem dL_law_959 : decode cL_law 959 = .ok (.iadd, 1) := by decide +kernel
theorem dL_law_960 : decode cL_law 960 = .ok (.iaload, 1) := by decide +kernel
theorem dL_law_961 : decode cL_law 961 = .ok (.invokevirtual 90, 3) := by decide +kernel
theorem dL_law_964 : decode cL_law 964 = .ok (.aload_n 2, 1) := by decide +kernel
theorem dL_law_965 : decode cL_law 965 = .ok (.aload_n 0, 1) := by decide +kernel
theorem dL_law_966 : decode cL_law 966 = .ok (.iload 4, 2) := by decide +kernel
theorem dL_law_968 : decode cL_law 968 = .ok (.iconst 1, 1) := by decide +kernel
theorem dL_law_969 : decode cL_law 969 = .ok (.iadd, 1) := by decide +kernel
theorem dL_law_970 : decode cL_law 970 = .ok (.iaload, 1) := by decide +kernel
theorem dL_law_971 : decode cL_law 971 = .ok (.aload_n 0, 1) := by decide +kernel
theorem dL_law_972 : decode cL_law 972 = .ok (.iload 4, 2) := by decide +kernel
theorem dL_law_974 : decode cL_law 974 = .ok (.iconst 2, 1) := by decide +kernel
theorem dL_law_975 : decode cL_law 975 = .ok (.iadd, 1) := by decide +kernel
theorem dL_law_976 : decode cL_law 976 = .ok (.iaload, 1) := by decide +kernel
theorem dL_law_977 : decode cL_law 977 = .ok (.invokevirtual 94, 3) := by decide +kernel
theorem dL_law_980 : decode cL_law 980 = .ok (.if_icmp .eq 261, 3) := by decide +kernel
theorem dL_law_983 : decode cL_law 983 = .ok (.iconst 0, 1) := by decide +kernel
theorem dL_law_984 : decode cL_law 984 = .ok (.ireturn, 1) := by decide +kernel
theorem dL_law_985 : decode cL_law 985 = .ok (.aload_n 1, 1) := by decide +kernel
theorem dL_law_986 : decode cL_law 986 = .ok (.aload_n 0, 1) := by decide +kernel
theorem dL_law_987 : decode cL_law 987 = .ok (.iload 4, 2) := by decide +kernel
theorem dL_law_989 : decode cL_law 989 = .ok (.iconst 1, 1) := by decide +kernel
theorem dL_law_990 : decode cL_law 990 = .ok (.iadd, 1) := by decide +kernel
theorem dL_law_991 : decode cL_law 991 = .ok (.iaload, 1) := by decide +kernel
theorem dL_law_992 : decode cL_law 992 = .ok (.aload_n 0, 1) := by decide +kernel
theorem dL_law_993 : decode cL_law 993 = .ok (.iload 4, 2) := by decide +kernel
theorem dL_law_995 : decode cL_law 995 = .ok (.iconst 2, 1) := by decide +kernel
theorem dL_law_996 : decode cL_law 996 = .ok (.iadd, 1) := by decide +kernel
theorem dL_law_997 : decode cL_law 997 = .ok (.iaload, 1) := by decide +kernel
theorem dL_law_998 : decode cL_law 998 = .ok (.i2l, 1) := by decide +kernel
theorem dL_law_999 : decode cL_law 999 = .ok (.bipush 32, 2) := by decide +kernel
theorem dL_law_1001 : decode cL_law 1001 = .ok (.lshl, 1) := by decide +kernel
theorem dL_law_1002 : decode cL_law 1002 = .ok (.aload_n 0, 1) := by decide +kernel
theorem dL_law_1003 : decode cL_law 1003 = .ok (.iload 4, 2) := by decide +kernel
theorem dL_law_1005 : decode cL_law 1005 = .ok (.iconst 3, 1) := by decide +kernel
theorem dL_law_1006 : decode cL_law 1006 = .ok (.iadd, 1) := by decide +kernel
theorem dL_law_1007 : decode cL_law 1007 = .ok (.iaload, 1) := by decide +kernel
theorem dL_law_1008 : decode cL_law 1008 = .ok (.i2l, 1) := by decide +kernel
theorem dL_law_1009 : decode cL_law 1009 = .ok (.ldc2_w 27, 3) := by decide +kernel
theorem dL_law_1012 : decode cL_law 1012 = .ok (.land, 1) := by decide +kernel
theorem dL_law_1013 : decode cL_law 1013 = .ok (.lor, 1) := by decide +kernel
theorem dL_law_1014 : decode cL_law 1014 = .ok (.invokevirtual 95, 3) := by decide +kernel
theorem dL_law_1017 : decode cL_law 1017 = .ok (.aload_n 2, 1) := by decide +kernel
theorem dL_law_1018 : decode cL_law 1018 = .ok (.aload_n 0, 1) := by decide +kernel
theorem dL_law_1019 : decode cL_law 1019 = .ok (.iload 4, 2) := by decide +kernel
theorem dL_law_1021 : decode cL_law 1021 = .ok (.iconst 1, 1) := by decide +kernel
theorem dL_law_1022 : decode cL_law 1022 = .ok (.iadd, 1) := by decide +kernel
theorem dL_law_1023 : decode cL_law 1023 = .ok (.iaload, 1) := by decide +kernel
theorem dL_law_1024 : decode cL_law 1024 = .ok (.aload_n 0, 1) := by decide +kernel
theorem dL_law_1025 : decode cL_law 1025 = .ok (.iload 4, 2) := by decide +kernel
theorem dL_law_1027 : decode cL_law 1027 = .ok (.iconst 2, 1) := by decide +kernel
theorem dL_law_1028 : decode cL_law 1028 = .ok (.iadd, 1) := by decide +kernel
theorem dL_law_1029 : decode cL_law 1029 = .ok (.iaload, 1) := by decide +kernel
theorem dL_law_1030 : decode cL_law 1030 = .ok (.i2l, 1) := by decide +kernel
theorem dL_law_1031 : decode cL_law 1031 = .ok (.bipush 32, 2) := by decide +kernel
theorem dL_law_1033 : decode cL_law 1033 = .ok (.lshl, 1) := by decide +kernel
theorem dL_law_1034 : decode cL_law 1034 = .ok (.aload_n 0, 1) := by decide +kernel
theorem dL_law_1035 : decode cL_law 1035 = .ok (.iload 4, 2) := by decide +kernel
theorem dL_law_1037 : decode cL_law 1037 = .ok (.iconst 3, 1) := by decide +kernel
theorem dL_law_1038 : decode cL_law 1038 = .ok (.iadd, 1) := by decide +kernel
theorem dL_law_1039 : decode cL_law 1039 = .ok (.iaload, 1) := by decide +kernel
theorem dL_law_1040 : decode cL_law 1040 = .ok (.i2l, 1) := by decide +kernel
theorem dL_law_1041 : decode cL_law 1041 = .ok (.ldc2_w 27, 3) := by decide +kernel
theorem dL_law_1044 : decode cL_law 1044 = .ok (.land, 1) := by decide +kernel
theorem dL_law_1045 : decode cL_law 1045 = .ok (.lor, 1) := by decide +kernel
theorem dL_law_1046 : decode cL_law 1046 = .ok (.invokevirtual 99, 3) := by decide +kernel
theorem dL_law_1049 : decode cL_law 1049 = .ok (.if_icmp .eq 192, 3) := by decide +kernel
theorem dL_law_1052 : decode cL_law 1052 = .ok (.iconst 0, 1) := by decide +kernel
theorem dL_law_1053 : decode cL_law 1053 = .ok (.ireturn, 1) := by decide +kernel
theorem dL_law_1054 : decode cL_law 1054 = .ok (.aload_n 1, 1) := by decide +kernel
theorem dL_law_1055 : decode cL_law 1055 = .ok (.aload_n 0, 1) := by decide +kernel
theorem dL_law_1056 : decode cL_law 1056 = .ok (.iload 4, 2) := by decide +kernel
theorem dL_law_1058 : decode cL_law 1058 = .ok (.iconst 1, 1) := by decide +kernel
theorem dL_law_1059 : decode cL_law 1059 = .ok (.iadd, 1) := by decide +kernel
theorem dL_law_1060 : decode cL_law 1060 = .ok (.iaload, 1) := by decide +kernel
theorem dL_law_1061 : decode cL_law 1061 = .ok (.aload_n 0, 1) := by decide +kernel
theorem dL_law_1062 : decode cL_law 1062 = .ok (.iload 4, 2) := by decide +kernel
theorem dL_law_1064 : decode cL_law 1064 = .ok (.iconst 2, 1) := by decide +kernel
theorem dL_law_1065 : decode cL_law 1065 = .ok (.iadd, 1) := by decide +kernel
theorem dL_law_1066 : decode cL_law 1066 = .ok (.iaload, 1) := by decide +kernel
theorem dL_law_1067 : decode cL_law 1067 = .ok (.i2l, 1) := by decide +kernel
theorem dL_law_1068 : decode cL_law 1068 = .ok (.bipush 32, 2) := by decide +kernel
theorem dL_law_1070 : decode cL_law 1070 = .ok (.lshl, 1) := by decide +kernel
theorem dL_law_1071 : decode cL_law 1071 = .ok (.aload_n 0, 1) := by decide +kernel
theorem dL_law_1072 : decode cL_law 1072 = .ok (.iload 4, 2) := by decide +kernel
theorem dL_law_1074 : decode cL_law 1074 = .ok (.iconst 3, 1) := by decide +kernel
theorem dL_law_1075 : decode cL_law 1075 = .ok (.iadd, 1) := by decide +kernel
theorem dL_law_1076 : decode cL_law 1076 = .ok (.iaload, 1) := by decide +kernel
theorem dL_law_1077 : decode cL_law 1077 = .ok (.i2l, 1) := by decide +kernel
theorem dL_law_1078 : decode cL_law 1078 = .ok (.ldc2_w 27, 3) := by decide +kernel
theorem dL_law_1081 : decode cL_law 1081 = .ok (.land, 1) := by decide +kernel
theorem dL_law_1082 : decode cL_law 1082 = .ok (.lor, 1) := by decide +kernel
theorem dL_law_1083 : decode cL_law 1083 = .ok (.invokevirtual 100, 3) := by decide +kernel
theorem dL_law_1086 : decode cL_law 1086 = .ok (.aload_n 2, 1) := by decide +kernel
theorem dL_law_1087 : decode cL_law 1087 = .ok (.aload_n 0, 1) := by decide +kernel
theorem dL_law_1088 : decode cL_law 1088 = .ok (.iload 4, 2) := by decide +kernel
theorem dL_law_1090 : decode cL_law 1090 = .ok (.iconst 1, 1) := by decide +kernel
theorem dL_law_1091 : decode cL_law 1091 = .ok (.iadd, 1) := by decide +kernel
theorem dL_law_1092 : decode cL_law 1092 = .ok (.iaload, 1) := by decide +kernel
theorem dL_law_1093 : decode cL_law 1093 = .ok (.aload_n 0, 1) := by decide +kernel
theorem dL_law_1094 : decode cL_law 1094 = .ok (.iload 4, 2) := by decide +kernel
theorem dL_law_1096 : decode cL_law 1096 = .ok (.iconst 2, 1) := by decide +kernel
theorem dL_law_1097 : decode cL_law 1097 = .ok (.iadd, 1) := by decide +kernel
theorem dL_law_1098 : decode cL_law 1098 = .ok (.iaload, 1) := by decide +kernel
theorem dL_law_1099 : decode cL_law 1099 = .ok (.i2l, 1) := by decide +kernel
theorem dL_law_1100 : decode cL_law 1100 = .ok (.bipush 32, 2) := by decide +kernel
theorem dL_law_1102 : decode cL_law 1102 = .ok (.lshl, 1) := by decide +kernel
theorem dL_law_1103 : decode cL_law 1103 = .ok (.aload_n 0, 1) := by decide +kernel
theorem dL_law_1104 : decode cL_law 1104 = .ok (.iload 4, 2) := by decide +kernel
theorem dL_law_1106 : decode cL_law 1106 = .ok (.iconst 3, 1) := by decide +kernel
theorem dL_law_1107 : decode cL_law 1107 = .ok (.iadd, 1) := by decide +kernel
theorem dL_law_1108 : decode cL_law 1108 = .ok (.iaload, 1) := by decide +kernel
theorem dL_law_1109 : decode cL_law 1109 = .ok (.i2l, 1) := by decide +kernel
theorem dL_law_1110 : decode cL_law 1110 = .ok (.ldc2_w 27, 3) := by decide +kernel
theorem dL_law_1113 : decode cL_law 1113 = .ok (.land, 1) := by decide +kernel
theorem dL_law_1114 : decode cL_law 1114 = .ok (.lor, 1) := by decide +kernel
theorem dL_law_1115 : decode cL_law 1115 = .ok (.invokevirtual 103, 3) := by decide +kernel
theorem dL_law_1118 : decode cL_law 1118 = .ok (.if_icmp .eq 123, 3) := by decide +kernel
theorem dL_law_1121 : decode cL_law 1121 = .ok (.iconst 0, 1) := by decide +kernel
theorem dL_law_1122 : decode cL_law 1122 = .ok (.ireturn, 1) := by decide +kernel
theorem dL_law_1123 : decode cL_law 1123 = .ok (.aload_n 1, 1) := by decide +kernel
theorem dL_law_1124 : decode cL_law 1124 = .ok (.aload_n 0, 1) := by decide +kernel
theorem dL_law_1125 : decode cL_law 1125 = .ok (.iload 4, 2) := by decide +kernel
theorem dL_law_1127 : decode cL_law 1127 = .ok (.iconst 1, 1) := by decide +kernel
theorem dL_law_1128 : decode cL_law 1128 = .ok (.iadd, 1) := by decide +kernel
theorem dL_law_1129 : decode cL_law 1129 = .ok (.iaload, 1) := by decide +kernel
theorem dL_law_1130 : decode cL_law 1130 = .ok (.aload_n 0, 1) := by decide +kernel
theorem dL_law_1131 : decode cL_law 1131 = .ok (.iload 4, 2) := by decide +kernel
theorem dL_law_1133 : decode cL_law 1133 = .ok (.iconst 2, 1) := by decide +kernel
theorem dL_law_1134 : decode cL_law 1134 = .ok (.iadd, 1) := by decide +kernel
theorem dL_law_1135 : decode cL_law 1135 = .ok (.iaload, 1) := by decide +kernel
theorem dL_law_1136 : decode cL_law 1136 = .ok (.invokevirtual 104, 3) := by decide +kernel
theorem dL_law_1139 : decode cL_law 1139 = .ok (.aload_n 2, 1) := by decide +kernel
theorem dL_law_1140 : decode cL_law 1140 = .ok (.aload_n 0, 1) := by decide +kernel
theorem dL_law_1141 : decode cL_law 1141 = .ok (.iload 4, 2) := by decide +kernel
theorem dL_law_1143 : decode cL_law 1143 = .ok (.iconst 1, 1) := by decide +kernel
theorem dL_law_1144 : decode cL_law 1144 = .ok (.iadd, 1) := by decide +kernel
theorem dL_law_1145 : decode cL_law 1145 = .ok (.iaload, 1) := by decide +kernel
theorem dL_law_1146 : decode cL_law 1146 = .ok (.aload_n 0, 1) := by decide +kernel
theorem dL_law_1147 : decode cL_law 1147 = .ok (.iload 4, 2) := by decide +kernel
theorem dL_law_1149 : decode cL_law 1149 = .ok (.iconst 2, 1) := by decide +kernel
theorem dL_law_1150 : decode cL_law 1150 = .ok (.iadd, 1) := by decide +kernel
theorem dL_law_1151 : decode cL_law 1151 = .ok (.iaload, 1) := by decide +kernel
theorem dL_law_1152 : decode cL_law 1152 = .ok (.invokevirtual 107, 3) := by decide +kernel
theorem dL_law_1155 : decode cL_law 1155 = .ok (.if_icmp .eq 86, 3) := by decide +kernel
theorem dL_law_1158 : decode cL_law 1158 = .ok (.iconst 0, 1) := by decide +kernel
theorem dL_law_1159 : decode cL_law 1159 = .ok (.ireturn, 1) := by decide +kernel
theorem dL_law_1160 : decode cL_law 1160 = .ok (.aload_n 1, 1) := by decide +kernel
theorem dL_law_1161 : decode cL_law 1161 = .ok (.aload_n 0, 1) := by decide +kernel
theorem dL_law_1162 : decode cL_law 1162 = .ok (.iload 4, 2) := by decide +kernel
theorem dL_law_1164 : decode cL_law 1164 = .ok (.iconst 1, 1) := by decide +kernel
theorem dL_law_1165 : decode cL_law 1165 = .ok (.iadd, 1) := by decide +kernel
theorem dL_law_1166 : decode cL_law 1166 = .ok (.iaload, 1) := by decide +kernel
theorem dL_law_1167 : decode cL_law 1167 = .ok (.aload_n 0, 1) := by decide +kernel
theorem dL_law_1168 : decode cL_law 1168 = .ok (.iload 4, 2) := by decide +kernel
theorem dL_law_1170 : decode cL_law 1170 = .ok (.iconst 2, 1) := by decide +kernel
theorem dL_law_1171 : decode cL_law 1171 = .ok (.iadd, 1) := by decide +kernel
theorem dL_law_1172 : decode cL_law 1172 = .ok (.iaload, 1) := by decide +kernel
theorem dL_law_1173 : decode cL_law 1173 = .ok (.aload_n 0, 1) := by decide +kernel
theorem dL_law_1174 : decode cL_law 1174 = .ok (.iload 4, 2) := by decide +kernel
theorem dL_law_1176 : decode cL_law 1176 = .ok (.iconst 3, 1) := by decide +kernel
theorem dL_law_1177 : decode cL_law 1177 = .ok (.iadd, 1) := by decide +kernel
theorem dL_law_1178 : decode cL_law 1178 = .ok (.iaload, 1) := by decide +kernel
theorem dL_law_1179 : decode cL_law 1179 = .ok (.i2l, 1) := by decide +kernel
theorem dL_law_1180 : decode cL_law 1180 = .ok (.bipush 32, 2) := by decide +kernel
theorem dL_law_1182 : decode cL_law 1182 = .ok (.lshl, 1) := by decide +kernel
theorem dL_law_1183 : decode cL_law 1183 = .ok (.aload_n 0, 1) := by decide +kernel
theorem dL_law_1184 : decode cL_law 1184 = .ok (.iload 4, 2) := by decide +kernel
theorem dL_law_1186 : decode cL_law 1186 = .ok (.iconst 4, 1) := by decide +kernel
theorem dL_law_1187 : decode cL_law 1187 = .ok (.iadd, 1) := by decide +kernel
theorem dL_law_1188 : decode cL_law 1188 = .ok (.iaload, 1) := by decide +kernel
theorem dL_law_1189 : decode cL_law 1189 = .ok (.i2l, 1) := by decide +kernel
theorem dL_law_1190 : decode cL_law 1190 = .ok (.ldc2_w 27, 3) := by decide +kernel
theorem dL_law_1193 : decode cL_law 1193 = .ok (.land, 1) := by decide +kernel
theorem dL_law_1194 : decode cL_law 1194 = .ok (.lor, 1) := by decide +kernel
theorem dL_law_1195 : decode cL_law 1195 = .ok (.invokevirtual 108, 3) := by decide +kernel
theorem dL_law_1198 : decode cL_law 1198 = .ok (.aload_n 2, 1) := by decide +kernel
theorem dL_law_1199 : decode cL_law 1199 = .ok (.aload_n 0, 1) := by decide +kernel
theorem dL_law_1200 : decode cL_law 1200 = .ok (.iload 4, 2) := by decide +kernel
theorem dL_law_1202 : decode cL_law 1202 = .ok (.iconst 1, 1) := by decide +kernel
theorem dL_law_1203 : decode cL_law 1203 = .ok (.iadd, 1) := by decide +kernel
theorem dL_law_1204 : decode cL_law 1204 = .ok (.iaload, 1) := by decide +kernel
theorem dL_law_1205 : decode cL_law 1205 = .ok (.aload_n 0, 1) := by decide +kernel
theorem dL_law_1206 : decode cL_law 1206 = .ok (.iload 4, 2) := by decide +kernel
theorem dL_law_1208 : decode cL_law 1208 = .ok (.iconst 2, 1) := by decide +kernel
theorem dL_law_1209 : decode cL_law 1209 = .ok (.iadd, 1) := by decide +kernel
theorem dL_law_1210 : decode cL_law 1210 = .ok (.iaload, 1) := by decide +kernel
theorem dL_law_1211 : decode cL_law 1211 = .ok (.aload_n 0, 1) := by decide +kernel
theorem dL_law_1212 : decode cL_law 1212 = .ok (.iload 4, 2) := by decide +kernel
theorem dL_law_1214 : decode cL_law 1214 = .ok (.iconst 3, 1) := by decide +kernel
theorem dL_law_1215 : decode cL_law 1215 = .ok (.iadd, 1) := by decide +kernel
theorem dL_law_1216 : decode cL_law 1216 = .ok (.iaload, 1) := by decide +kernel
theorem dL_law_1217 : decode cL_law 1217 = .ok (.i2l, 1) := by decide +kernel
theorem dL_law_1218 : decode cL_law 1218 = .ok (.bipush 32, 2) := by decide +kernel
theorem dL_law_1220 : decode cL_law 1220 = .ok (.lshl, 1) := by decide +kernel
theorem dL_law_1221 : decode cL_law 1221 = .ok (.aload_n 0, 1) := by decide +kernel
theorem dL_law_1222 : decode cL_law 1222 = .ok (.iload 4, 2) := by decide +kernel
theorem dL_law_1224 : decode cL_law 1224 = .ok (.iconst 4, 1) := by decide +kernel
theorem dL_law_1225 : decode cL_law 1225 = .ok (.iadd, 1) := by decide +kernel
theorem dL_law_1226 : decode cL_law 1226 = .ok (.iaload, 1) := by decide +kernel
theorem dL_law_1227 : decode cL_law 1227 = .ok (.i2l, 1) := by decide +kernel
theorem dL_law_1228 : decode cL_law 1228 = .ok (.ldc2_w 27, 3) := by decide +kernel
theorem dL_law_1231 : decode cL_law 1231 = .ok (.land, 1) := by decide +kernel
theorem dL_law_1232 : decode cL_law 1232 = .ok (.lor, 1) := by decide +kernel
theorem dL_law_1233 : decode cL_law 1233 = .ok (.invokevirtual 111, 3) := by decide +kernel
theorem dL_law_1236 : decode cL_law 1236 = .ok (.if_icmp .eq 5, 3) := by decide +kernel
theorem dL_law_1239 : decode cL_law 1239 = .ok (.iconst 0, 1) := by decide +kernel
theorem dL_law_1240 : decode cL_law 1240 = .ok (.ireturn, 1) := by decide +kernel
theorem dL_law_1241 : decode cL_law 1241 = .ok (.iinc 4 8, 3) := by decide +kernel
theorem dL_law_1244 : decode cL_law 1244 = .ok (.goto (-1211), 3) := by decide +kernel
theorem dL_law_1247 : decode cL_law 1247 = .ok (.iconst 1, 1) := by decide +kernel
theorem dL_law_1248 : decode cL_law 1248 = .ok (.ireturn, 1) := by decide +kernel
end
section
/-! A picture of the heap by NUMBERS of its cells (in the order in which they were made), apart from their addresses; and the machine's rows over it. -/
/-- an abstract value: an int, a long, a reference by its cell's number -/
abbrev av : Type := Int32 ⊕ Int64 ⊕ Option Nat
abbrev aI (x : Int32) : av := .inl x
abbrev aJ (x : Int64) : av := .inr (.inl x)
abbrev aR (o : Option Nat) : av := .inr (.inr o)
abbrev aA (i : Nat) : av := .inr (.inr (some i))
def vl (ad : Nat → Nat) (v : av) : Value := match v with
  | .inl x => .int x
  | .inr (.inl x) => .long x
  | .inr (.inr none) => .null
  | .inr (.inr (some i)) => .ref (ad i)
/-- how many cells, the kind of each, its length (arrays), ints, longs, references (by field's place or by index) -/
abbrev hs : Type := Nat × (Nat → Nat) × (Nat → Nat) × (Nat → Nat → Int32) × (Nat → Nat → Int64) × (Nat → Nat → Option Nat)
abbrev hk (S : hs) : Nat → Nat := S.2.1
abbrev hz (S : hs) : Nat → Nat := S.2.2.1
abbrev hi (S : hs) : Nat → Nat → Int32 := S.2.2.2.1
abbrev hj (S : hs) : Nat → Nat → Int64 := S.2.2.2.2.1
abbrev hr (S : hs) : Nat → Nat → Option Nat := S.2.2.2.2.2
def up2 {α : Type} (f : Nat → Nat → α) (a j : Nat) (v : α) : Nat → Nat → α := fun b k => if b = a ∧ k = j then v else f b k
theorem up2_same {α : Type} (f : Nat → Nat → α) (a j : Nat) (v : α) : up2 f a j v a j = v := if_pos ⟨rfl, rfl⟩
theorem up2_ne {α : Type} (f : Nat → Nat → α) {a j b k : Nat} (v : α) (h : b ≠ a ∨ k ≠ j) : up2 f a j v b k = f b k := if_neg (fun q => h.elim (fun h => h q.1) (fun h => h q.2))
theorem up2_row {α : Type} (f : Nat → Nat → α) {a j b : Nat} (v : α) (h : b ≠ a) : up2 f a j v b = f b := funext fun k => up2_ne f v (Or.inl h)
abbrev sI (S : hs) (a j : Nat) (v : Int32) : hs := (S.1, S.2.1, S.2.2.1, up2 (hi S) a j v, hj S, hr S)
abbrev sJ (S : hs) (a j : Nat) (v : Int64) : hs := (S.1, S.2.1, S.2.2.1, hi S, up2 (hj S) a j v, hr S)
abbrev sR (S : hs) (a j : Nat) (v : Option Nat) : hs := (S.1, S.2.1, S.2.2.1, hi S, hj S, up2 (hr S) a j v)
/-- the cell number a is of kind k -/
def is (S : hs) (k a : Nat) : Prop := a < S.1 ∧ hk S a = k
/-- an array of kind k, an index within it -/
def ix (S : hs) (k a : Nat) (i : Int32) : Prop := (a < S.1 ∧ hk S a = k) ∧ vp_in i (hz S a)
def fvs (S : hs) (ad : Nat → Nat) (a : Nat) : Nat → List Nat → List Value
  | _, [] => []
  | j, t :: ts => (match t with | 0 => Value.int (hi S a j) | 1 => Value.long (hj S a j) | _ => va_rf ((hr S a j).map ad)) :: fvs S ad a (j + 1) ts
theorem vl_ref (ad : Nat → Nat) (o : Option Nat) : vl ad (.inr (.inr o)) = va_rf (o.map ad) := by cases o <;> rfl
def fty : Nat → List Nat
  | 0 => [2, 0, 0, 1]
  | 1 => [2, 2, 2, 2, 2, 0]
  | 2 => [2, 2, 0]
  | 3 => [2, 2, 2, 2, 0]
  | 4 => [2, 2, 0, 2, 2, 0, 1, 1, 1, 1]
  | 5 => [2, 2, 2, 0]
  | 6 => [2, 2, 2, 0, 2, 2, 2]
  | 7 => [0, 0, 2, 2, 2, 2, 2, 2, 0, 2, 2, 2, 2, 0, 2, 2, 2, 2, 0, 2, 0, 2, 0, 2, 2, 0, 2, 2]
  | _ => []
def hcell (cy : Nat → ClassId) (ad : Nat → Nat) (S : hs) (a : Nat) : va_E :=
  if hk S a < 8 then .inr (hk S a + 1, fvs S ad a 0 (fty (hk S a)))
  else .inl (cy (hk S a), hz S a, if hk S a = 9 then .inr (.inl (hj S a)) else if hk S a < 11 then .inl (hi S a) else .inr (.inr (.inr (.inr (fun j => (hr S a j).map ad)))))
theorem hcell_o {cy : Nat → ClassId} {ad : Nat → Nat} {S : hs} {a : Nat} (k : Nat) (h : hk S a = k) (h8 : k < 8) : hcell cy ad S a = .inr (k + 1, fvs S ad a 0 (fty k)) := by
  subst h; exact if_pos h8
theorem hcell_i {cy : Nat → ClassId} {ad : Nat → Nat} {S : hs} {a : Nat} (h : hk S a = 8) : hcell cy ad S a = .inl (cy 8, hz S a, .inl (hi S a)) := by
  simp [hcell, h]
theorem hcell_z {cy : Nat → ClassId} {ad : Nat → Nat} {S : hs} {a : Nat} (h : hk S a = 10) : hcell cy ad S a = .inl (cy 10, hz S a, .inl (hi S a)) := by
  simp [hcell, h]
theorem hcell_j {cy : Nat → ClassId} {ad : Nat → Nat} {S : hs} {a : Nat} (h : hk S a = 9) : hcell cy ad S a = .inl (cy 9, hz S a, .inr (.inl (hj S a))) := by
  simp [hcell, h]
theorem hcell_r {cy : Nat → ClassId} {ad : Nat → Nat} {S : hs} {a : Nat} (k : Nat) (h : hk S a = k) (hk : 11 ≤ k) : hcell cy ad S a = .inl (cy k, hz S a, .inr (.inr (.inr (.inr (fun j => (hr S a j).map ad))))) := by
  have h1 : ¬ k < 8 := by omega
  have h2 : ¬ k = 9 := by omega
  have h3 : ¬ k < 11 := by omega
  simp [hcell, h, h1, h2, h3]
def wld (cy : Nat → ClassId) (ad : Nat → Nat) (S : hs) : va_W := (List.range S.1).map (fun i => (ad i, hcell cy ad S i))
theorem wld_at {cy : Nat → ClassId} {ad : Nat → Nat} {S : hs} {a : Nat} (h : a < S.1) : (wld cy ad S)[a]? = some (ad a, hcell cy ad S a) := by
  simp [wld, h]
theorem wld_set {cy : Nat → ClassId} {ad : Nat → Nat} {S S' : hs} {a : Nat} {e : va_E} (hn : S'.1 = S.1) (he : hcell cy ad S' a = e) (ho : ∀ b, b ≠ a → hcell cy ad S' b = hcell cy ad S b) : (wld cy ad S).set a (ad a, e) = wld cy ad S' := by
  apply List.ext_getElem?
  intro i
  by_cases hi : i = a
  · subst hi
    by_cases h : i < S.1
    · rw [wld_at (S := S') (by rw [hn]; exact h), List.getElem?_set_self (by simp [wld, h]), he]
    · rw [List.getElem?_eq_none (by simp [wld]; omega), List.getElem?_eq_none (by simp [wld]; omega)]
  · rw [List.getElem?_set_ne (fun q => hi q.symm)]
    by_cases h : i < S.1
    · rw [wld_at h, wld_at (S := S') (by rw [hn]; exact h), ho i hi]
    · rw [List.getElem?_eq_none (by simp [wld]; omega), List.getElem?_eq_none (by simp [wld]; omega)]
theorem fvs_congr {S S' : hs} {ad : Nat → Nat} {a : Nat} (h1 : hi S' a = hi S a) (h2 : hj S' a = hj S a) (h3 : hr S' a = hr S a) : ∀ (ts : List Nat) (j : Nat), fvs S' ad a j ts = fvs S ad a j ts
  | [], _ => rfl
  | t :: ts, j => by
    simp only [fvs, h1, h2, h3, fvs_congr h1 h2 h3 ts (j + 1)]
theorem hcell_congr {cy : Nat → ClassId} {ad : Nat → Nat} {S S' : hs} {a : Nat} (h0 : hk S' a = hk S a) (hz0 : hz S' a = hz S a) (h1 : hi S' a = hi S a) (h2 : hj S' a = hj S a) (h3 : hr S' a = hr S a) : hcell cy ad S' a = hcell cy ad S a := by
  unfold hcell
  rw [h0, hz0, h1, h2, h3, fvs_congr h1 h2 h3]
/-- a store into one field of an object: the list of its values -/
theorem fvs_set {S S' : hs} {ad : Nat → Nat} {a : Nat} {v : Value} : ∀ (ts : List Nat) (j n : Nat) (_ : ∀ i, i ≠ j + n → hi S' a i = hi S a i) (_ : ∀ i, i ≠ j + n → hj S' a i = hj S a i) (_ : ∀ i, i ≠ j + n → hr S' a i = hr S a i) (_ : (fvs S' ad a j ts)[n]? = some v), (fvs S ad a j ts).set n v = fvs S' ad a j ts
  | [], _, _, _, _, _, _ => rfl
  | t :: ts, j, 0, h1, h2, h3, h4 => by
    have h4' : (fvs S' ad a j (t :: ts)).head? = some v := by rw [← h4]; simp [fvs]
    have h5 : ∀ (us : List Nat) (i : Nat), j < i → fvs S ad a i us = fvs S' ad a i us := by
      intro us
      induction us with
      | nil => intro i _; rfl
      | cons u us ih =>
        intro i hi0
        simp only [fvs]
        rw [h1 i (by omega), h2 i (by omega), h3 i (by omega), ih (i + 1) (by omega)]
    simp only [fvs] at h4' ⊢
    rw [List.head?_cons] at h4'
    rw [List.set_cons_zero, h5 ts (j + 1) (by omega), Option.some.inj h4']
  | t :: ts, j, n + 1, h1, h2, h3, h4 => by
    simp only [fvs] at h4 ⊢
    rw [List.set_cons_succ, h1 j (by omega), h2 j (by omega), h3 j (by omega)]
    rw [List.getElem?_cons_succ] at h4
    rw [fvs_set ts (j + 1) n (fun i h => h1 i (by omega)) (fun i h => h2 i (by omega)) (fun i h => h3 i (by omega)) h4]
/-! ## the method's constants: name, code, locals, room, result type; the machine's part; the judgement -/
abbrev mt : Type := MethodName × ByteArray × Nat × Room × Option FieldType
abbrev en : Type := (Launch × va_G × (Nat → ClassId) × Nat) × (Program × Env × State × MethodId × List Frame × Method × Code) × Array Value × (State → Prop)
def tbG : List Cond := lw_tbl.filter goodWord
theorem tbG_in {w : Cond} (h : w ∈ lw_tbl) (h2 : goodWord w = true) : w ∈ tbG := List.mem_filter.mpr ⟨h, h2⟩
abbrev tyl (cy : Nat → ClassId) : List (ClassId × FieldType) := [(cy 8, .int), (cy 9, .long), (cy 10, .boolean), (cy 11, .object "AreaCrossings$Area"), (cy 12, .object "AreaCrossings$Ring"), (cy 13, .object "AreaCrossings$Track")]
def okE (E : en) (M : mt) : Prop := E.2.1.1.tables.exec = Jvm.exec ∧ E.2.1.2.2.2.2.2.2.code = M.2.1 ∧ E.2.1.2.2.2.2.2.2.maxLocals = M.2.2.1 ∧ E.2.1.2.2.1.vm.findClass M.1.cls = some E.2.1.2.2.2.1.cls ∧ (∀ w ∈ tbG, w.before E.2.2.1 E.2.1.2.2.1 = true) ∧ va_K E.1.2.1 vwCl (tyl E.1.2.2.1) E.2.1.2.2.1 ∧ E.1.2.2.2 ≤ E.2.1.2.2.1.heap.size ∧ E.2.1.2.2.2.2.2.1.name = M.1.name ∧ E.2.1.2.2.2.2.2.1.sig.returnType = M.2.2.2.2 ∧ E.2.1.2.2.2.2.2.1.locks = false
def lkp : List (Nat × av) → Nat → Option av
  | [], _ => none
  | q :: t, k => match Nat.beq q.1 k with
    | true => some q.2
    | false => lkp t k
def lvh (ad : Nat → Nat) (nL : Nat) (ls : Array Slot) (lv : List (Nat × av)) : Prop := ls.size = nL ∧ lv_wf ls ∧ ∀ i v, lkp lv i = some v → ls[i]? = some (.val (vl ad v))
def wd (E : en) (ad : Nat → Nat) (S : hs) (H : Heap) (locs : List Loc) : Prop := va_P E.1.2.1 vwCl (wld E.1.2.2.1 ad S) H ∧ va_D (fun q => E.1.2.2.2 ≤ q) (wld E.1.2.2.1 ad S) ∧ va_S (fun q => E.1.2.2.2 ≤ q) E.2.1.2.2.1.heap H locs
/-- from here the machine comes to its end -/
def X (E : en) (M : mt) (n1 n2 : Nat) (ad : Nat → Nat) (S : hs) (pc : Nat) (lv : List (Nat × av)) (st : List av) : Prop :=
  okE E M → ∀ (H : Heap) (locs : List Loc) (ls : Array Slot), wd E ad S H locs → lvh ad M.2.2.1 ls lv → W E.2.1.1 E.1.1 E.2.1.2.1 M.2.2.2.1 E.2.1.2.2.1 E.2.1.2.2.2.1 E.2.2.1 E.2.1.2.2.2.2.1 E.2.1.2.2.2.2.2.1 E.2.1.2.2.2.2.2.2 H locs n1 n2 E.2.2.2 (F0 E.2.1.2.2.2.1 pc ls (st.map (vl ad)))
end
section
theorem inG0 : ∀ w ∈ u_ws RX0 TX0 4, w ∈ tbG := fun w h => tbG_in (inX0 w h) ((by decide +kernel : ∀ w ∈ u_ws RX0 TX0 4, goodWord w = true) w h)
theorem inG1 : ∀ w ∈ u_ws RX1 TX1 6, w ∈ tbG := fun w h => tbG_in (inX1 w h) ((by decide +kernel : ∀ w ∈ u_ws RX1 TX1 6, goodWord w = true) w h)
theorem inG2 : ∀ w ∈ u_ws RX2 TX2 3, w ∈ tbG := fun w h => tbG_in (inX2 w h) ((by decide +kernel : ∀ w ∈ u_ws RX2 TX2 3, goodWord w = true) w h)
theorem inG3 : ∀ w ∈ u_ws RX3 TX3 5, w ∈ tbG := fun w h => tbG_in (inX3 w h) ((by decide +kernel : ∀ w ∈ u_ws RX3 TX3 5, goodWord w = true) w h)
theorem inG4 : ∀ w ∈ u_ws RX4 TX4 10, w ∈ tbG := fun w h => tbG_in (inX4 w h) ((by decide +kernel : ∀ w ∈ u_ws RX4 TX4 10, goodWord w = true) w h)
theorem inG5 : ∀ w ∈ u_ws RX5 TX5 4, w ∈ tbG := fun w h => tbG_in (inX5 w h) ((by decide +kernel : ∀ w ∈ u_ws RX5 TX5 4, goodWord w = true) w h)
theorem inG6 : ∀ w ∈ u_ws RX6 TX6 7, w ∈ tbG := fun w h => tbG_in (inX6 w h) ((by decide +kernel : ∀ w ∈ u_ws RX6 TX6 7, goodWord w = true) w h)
theorem inG7 : ∀ w ∈ u_ws RX7 TX7 28, w ∈ tbG := fun w h => tbG_in (inX7 w h) ((by decide +kernel : ∀ w ∈ u_ws RX7 TX7 28, goodWord w = true) w h)
section
variable {E : en} {M : mt} {n1 n2 : Nat} {ad : Nat → Nat} {S : hs} {pc : Nat} {lv : List (Nat × av)} {st : List av}
theorem x_iadd {x y : Int32} (hd : decode M.2.1 pc = .ok (.iadd, 1))  (k : X E M n1 n2 ad S (pc + 1) lv (aI (x + y) :: st)) : X E M n1 n2 ad S pc lv (aI y :: aI x :: st) := fun hO H locs ls hW hl => lv_iadd hO.1 hO.2.1 hd  (k hO H locs ls hW hl)
theorem x_isub {x y : Int32} (hd : decode M.2.1 pc = .ok (.isub, 1))  (k : X E M n1 n2 ad S (pc + 1) lv (aI (x - y) :: st)) : X E M n1 n2 ad S pc lv (aI y :: aI x :: st) := fun hO H locs ls hW hl => lv_isub hO.1 hO.2.1 hd  (k hO H locs ls hW hl)
theorem x_imul {x y : Int32} (hd : decode M.2.1 pc = .ok (.imul, 1))  (k : X E M n1 n2 ad S (pc + 1) lv (aI (x * y) :: st)) : X E M n1 n2 ad S pc lv (aI y :: aI x :: st) := fun hO H locs ls hW hl => lv_imul hO.1 hO.2.1 hd  (k hO H locs ls hW hl)
theorem x_iand {x y : Int32} (hd : decode M.2.1 pc = .ok (.iand, 1))  (k : X E M n1 n2 ad S (pc + 1) lv (aI (x &&& y) :: st)) : X E M n1 n2 ad S pc lv (aI y :: aI x :: st) := fun hO H locs ls hW hl => lv_iand hO.1 hO.2.1 hd  (k hO H locs ls hW hl)
theorem x_ladd {x y : Int64} (hd : decode M.2.1 pc = .ok (.ladd, 1))  (k : X E M n1 n2 ad S (pc + 1) lv (aJ (x + y) :: st)) : X E M n1 n2 ad S pc lv (aJ y :: aJ x :: st) := fun hO H locs ls hW hl => lv_ladd hO.1 hO.2.1 hd  (k hO H locs ls hW hl)
theorem x_lsub {x y : Int64} (hd : decode M.2.1 pc = .ok (.lsub, 1))  (k : X E M n1 n2 ad S (pc + 1) lv (aJ (x - y) :: st)) : X E M n1 n2 ad S pc lv (aJ y :: aJ x :: st) := fun hO H locs ls hW hl => lv_lsub hO.1 hO.2.1 hd  (k hO H locs ls hW hl)
theorem x_lmul {x y : Int64} (hd : decode M.2.1 pc = .ok (.lmul, 1))  (k : X E M n1 n2 ad S (pc + 1) lv (aJ (x * y) :: st)) : X E M n1 n2 ad S pc lv (aJ y :: aJ x :: st) := fun hO H locs ls hW hl => lv_lmul hO.1 hO.2.1 hd  (k hO H locs ls hW hl)
theorem x_land {x y : Int64} (hd : decode M.2.1 pc = .ok (.land, 1))  (k : X E M n1 n2 ad S (pc + 1) lv (aJ (x &&& y) :: st)) : X E M n1 n2 ad S pc lv (aJ y :: aJ x :: st) := fun hO H locs ls hW hl => lv_land hO.1 hO.2.1 hd  (k hO H locs ls hW hl)
theorem x_lor {x y : Int64} (hd : decode M.2.1 pc = .ok (.lor, 1))  (k : X E M n1 n2 ad S (pc + 1) lv (aJ (x ||| y) :: st)) : X E M n1 n2 ad S pc lv (aJ y :: aJ x :: st) := fun hO H locs ls hW hl => lv_lor hO.1 hO.2.1 hd  (k hO H locs ls hW hl)
theorem x_lneg {x : Int64} (hd : decode M.2.1 pc = .ok (.lneg, 1))  (k : X E M n1 n2 ad S (pc + 1) lv (aJ (-x) :: st)) : X E M n1 n2 ad S pc lv (aJ x :: st) := fun hO H locs ls hW hl => lv_lneg hO.1 hO.2.1 hd  (k hO H locs ls hW hl)
theorem x_i2l {x : Int32} (hd : decode M.2.1 pc = .ok (.i2l, 1))  (k : X E M n1 n2 ad S (pc + 1) lv (aJ x.toInt64 :: st)) : X E M n1 n2 ad S pc lv (aI x :: st) := fun hO H locs ls hW hl => lv_i2l hO.1 hO.2.1 hd rfl (k hO H locs ls hW hl)
theorem x_l2i {x : Int64} (hd : decode M.2.1 pc = .ok (.l2i, 1))  (k : X E M n1 n2 ad S (pc + 1) lv (aI x.toInt32 :: st)) : X E M n1 n2 ad S pc lv (aJ x :: st) := fun hO H locs ls hW hl => lv_l2i hO.1 hO.2.1 hd rfl (k hO H locs ls hW hl)
theorem x_lshl {x : Int64} {y : Int32} (hd : decode M.2.1 pc = .ok (.lshl, 1))  (k : X E M n1 n2 ad S (pc + 1) lv (aJ (x <<< (y.toInt64 &&& 63)) :: st)) : X E M n1 n2 ad S pc lv (aI y :: aJ x :: st) := fun hO H locs ls hW hl => lv_lshl hO.1 hO.2.1 hd rfl (k hO H locs ls hW hl)
theorem x_ldiv {x y : Int64} (hd : decode M.2.1 pc = .ok (.ldiv, 1)) (hne : ¬ y = 0) (k : X E M n1 n2 ad S (pc + 1) lv (aJ (x / y) :: st)) : X E M n1 n2 ad S pc lv (aJ y :: aJ x :: st) := fun hO H locs ls hW hl => lv_ldiv hO.1 hO.2.1 hd hne (k hO H locs ls hW hl)
theorem x_lrem {x y : Int64} (hd : decode M.2.1 pc = .ok (.lrem, 1)) (hne : ¬ y = 0) (k : X E M n1 n2 ad S (pc + 1) lv (aJ (x - x / y * y) :: st)) : X E M n1 n2 ad S pc lv (aJ y :: aJ x :: st) := fun hO H locs ls hW hl => lv_lrem hO.1 hO.2.1 hd hne (k hO H locs ls hW hl)
theorem x_irem {x y : Int32} (hd : decode M.2.1 pc = .ok (.irem, 1)) (hne : ¬ y = 0) (k : X E M n1 n2 ad S (pc + 1) lv (aI (x - x / y * y) :: st)) : X E M n1 n2 ad S pc lv (aI y :: aI x :: st) := fun hO H locs ls hW hl => lv_irem hO.1 hO.2.1 hd hne (k hO H locs ls hW hl)
theorem x_iconst {n : Int} {v : Int32} (hd : decode M.2.1 pc = .ok (.iconst n, 1)) (hv : Int32.ofInt n = v) (k : X E M n1 n2 ad S (pc + 1) lv (aI v :: st)) : X E M n1 n2 ad S pc lv (st) := fun hO H locs ls hW hl => lv_iconst hO.1 hO.2.1 hd hv (k hO H locs ls hW hl)
theorem x_bipush {n : Int} {v : Int32} (hd : decode M.2.1 pc = .ok (.bipush n, 2)) (hv : (Int8.ofInt n).toInt32 = v) (k : X E M n1 n2 ad S (pc + 2) lv (aI v :: st)) : X E M n1 n2 ad S pc lv (st) := fun hO H locs ls hW hl => lv_bipush hO.1 hO.2.1 hd hv (k hO H locs ls hW hl)
theorem x_sipush {n : Int} {v : Int32} (hd : decode M.2.1 pc = .ok (.sipush n, 3)) (hv : (Int16.ofInt n).toInt32 = v) (k : X E M n1 n2 ad S (pc + 3) lv (aI v :: st)) : X E M n1 n2 ad S pc lv (st) := fun hO H locs ls hW hl => lv_sipush hO.1 hO.2.1 hd hv (k hO H locs ls hW hl)
theorem x_lconst {n : Fin 2} {v : Int64} (hd : decode M.2.1 pc = .ok (.lconst n, 1)) (hv : Int64.ofNat (n : Nat) = v) (k : X E M n1 n2 ad S (pc + 1) lv (aJ v :: st)) : X E M n1 n2 ad S pc lv (st) := fun hO H locs ls hW hl => lv_lconst hO.1 hO.2.1 hd hv (k hO H locs ls hW hl)
theorem x_null  (hd : decode M.2.1 pc = .ok (.aconst_null, 1))  (k : X E M n1 n2 ad S (pc + 1) lv (aR none :: st)) : X E M n1 n2 ad S pc lv (st) := fun hO H locs ls hW hl => lv_null hO.1 hO.2.1 hd  (k hO H locs ls hW hl)
theorem x_dupI {x : Int32} (hd : decode M.2.1 pc = .ok (.dup, 1))  (k : X E M n1 n2 ad S (pc + 1) lv (aI x :: aI x :: st)) : X E M n1 n2 ad S pc lv (aI x :: st) := fun hO H locs ls hW hl => lv_dup hO.1 hO.2.1 hd rfl (k hO H locs ls hW hl)
theorem x_dupR {x : Nat} (hd : decode M.2.1 pc = .ok (.dup, 1))  (k : X E M n1 n2 ad S (pc + 1) lv (aA x :: aA x :: st)) : X E M n1 n2 ad S pc lv (aA x :: st) := fun hO H locs ls hW hl => lv_dup hO.1 hO.2.1 hd rfl (k hO H locs ls hW hl)
theorem x_dup2 {x : Nat} {y : Int32} (hd : decode M.2.1 pc = .ok (.dup2, 1))  (k : X E M n1 n2 ad S (pc + 1) lv (aI y :: aA x :: aI y :: aA x :: st)) : X E M n1 n2 ad S pc lv (aI y :: aA x :: st) := fun hO H locs ls hW hl => lv_dup2_11 hO.1 hO.2.1 hd rfl rfl (k hO H locs ls hW hl)
theorem x_dupx1 {x : Nat} {y : Int32} (hd : decode M.2.1 pc = .ok (.dup_x1, 1))  (k : X E M n1 n2 ad S (pc + 1) lv (aI y :: aA x :: aI y :: st)) : X E M n1 n2 ad S pc lv (aI y :: aA x :: st) := fun hO H locs ls hW hl => lv_dup_x1 hO.1 hO.2.1 hd rfl rfl (k hO H locs ls hW hl)
theorem x_pop {x : Int32} (hd : decode M.2.1 pc = .ok (.pop, 1))  (k : X E M n1 n2 ad S (pc + 1) lv (st)) : X E M n1 n2 ad S pc lv (aI x :: st) := fun hO H locs ls hW hl => lv_pop hO.1 hO.2.1 hd rfl (k hO H locs ls hW hl)
theorem x_ldc2 {idx : Nat} {v : Int64} (hd : decode M.2.1 pc = .ok (.ldc2_w idx, 3)) (hc : Cond.constantLong M.1.cls idx v ∈ tbG) (k : X E M n1 n2 ad S (pc + 3) lv (aJ v :: st)) : X E M n1 n2 ad S pc lv st := fun hO H locs ls hW hl => lv_ldc2 hO.1 hO.2.1 hO.2.2.2.1 (hO.2.2.2.2.1 _ hc) hd (k hO H locs ls hW hl)
theorem x_iload {i : Nat} {x : Int32} (hd : decode M.2.1 pc = .ok (.iload i, 2)) (hl0 : lkp lv i = some (aI x)) (k : X E M n1 n2 ad S (pc + 2) lv (aI x :: st)) : X E M n1 n2 ad S pc lv st := fun hO H locs ls hW hl => lv_iload hO.1 hO.2.1 hd (hl.2.2 i _ hl0) (k hO H locs ls hW hl)
theorem x_iload_n {i : Fin 4} {x : Int32} (hd : decode M.2.1 pc = .ok (.iload_n i, 1)) (hl0 : lkp lv (i : Nat) = some (aI x)) (k : X E M n1 n2 ad S (pc + 1) lv (aI x :: st)) : X E M n1 n2 ad S pc lv st := fun hO H locs ls hW hl => lv_iload_n hO.1 hO.2.1 hd rfl (hl.2.2 _ _ hl0) (k hO H locs ls hW hl)
theorem x_lload {i : Nat} {x : Int64} (hd : decode M.2.1 pc = .ok (.lload i, 2)) (hl0 : lkp lv i = some (aJ x)) (k : X E M n1 n2 ad S (pc + 2) lv (aJ x :: st)) : X E M n1 n2 ad S pc lv st := fun hO H locs ls hW hl => lv_lload hO.1 hO.2.1 hd (hl.2.2 i _ hl0) (k hO H locs ls hW hl)
theorem x_lload_n {i : Fin 4} {x : Int64} (hd : decode M.2.1 pc = .ok (.lload_n i, 1)) (hl0 : lkp lv (i : Nat) = some (aJ x)) (k : X E M n1 n2 ad S (pc + 1) lv (aJ x :: st)) : X E M n1 n2 ad S pc lv st := fun hO H locs ls hW hl => lv_lload_n hO.1 hO.2.1 hd rfl (hl.2.2 _ _ hl0) (k hO H locs ls hW hl)
theorem x_aload {i : Nat} {x : Nat} (hd : decode M.2.1 pc = .ok (.aload i, 2)) (hl0 : lkp lv i = some (aA x)) (k : X E M n1 n2 ad S (pc + 2) lv (aA x :: st)) : X E M n1 n2 ad S pc lv st := fun hO H locs ls hW hl => lv_aload hO.1 hO.2.1 hd (hl.2.2 i _ hl0) (k hO H locs ls hW hl)
theorem x_aload_n {i : Fin 4} {x : Nat} (hd : decode M.2.1 pc = .ok (.aload_n i, 1)) (hl0 : lkp lv (i : Nat) = some (aA x)) (k : X E M n1 n2 ad S (pc + 1) lv (aA x :: st)) : X E M n1 n2 ad S pc lv st := fun hO H locs ls hW hl => lv_aload_n hO.1 hO.2.1 hd rfl (hl.2.2 _ _ hl0) (k hO H locs ls hW hl)
theorem x_aloadq {i : Nat} {x : Option Nat} (hd : decode M.2.1 pc = .ok (.aload i, 2)) (hl0 : lkp lv i = some (aR x)) (k : X E M n1 n2 ad S (pc + 2) lv (aR x :: st)) : X E M n1 n2 ad S pc lv st := fun hO H locs ls hW hl => match x, hl0, k with
  | some _, hl0, k => lv_aload hO.1 hO.2.1 hd (hl.2.2 i _ hl0) (k hO H locs ls hW hl)
  | none, hl0, k => lv_aloadN hO.1 hO.2.1 hd (hl.2.2 i _ hl0) (k hO H locs ls hW hl)
theorem x_aloadq_n {i : Fin 4} {x : Option Nat} (hd : decode M.2.1 pc = .ok (.aload_n i, 1)) (hl0 : lkp lv (i : Nat) = some (aR x)) (k : X E M n1 n2 ad S (pc + 1) lv (aR x :: st)) : X E M n1 n2 ad S pc lv st := fun hO H locs ls hW hl => match x, hl0, k with
  | some _, hl0, k => lv_aload_n hO.1 hO.2.1 hd rfl (hl.2.2 _ _ hl0) (k hO H locs ls hW hl)
  | none, hl0, k => lv_aload_nN hO.1 hO.2.1 hd rfl (hl.2.2 _ _ hl0) (k hO H locs ls hW hl)
theorem lkp_cons_eq (i : Nat) (v : av) (lv : List (Nat × av)) : lkp ((i, v) :: lv) i = some v := by
  simp [lkp]
theorem lkp_cons_ne {i j : Nat} (v : av) (lv : List (Nat × av)) (h : j ≠ i) : lkp ((i, v) :: lv) j = lkp lv j := by
  have : Nat.beq i j = false := by
    cases hq : Nat.beq i j with
    | false => rfl
    | true => exact absurd (Nat.eq_of_beq_eq_true hq).symm h
  simp [lkp, this]
def lvc (ad : Nat → Nat) (nL : Nat) (lv : List (Nat × av)) : List (Nat × Value) := (List.range nL).filterMap (fun i => (lkp lv i).map (fun v => (i, vl ad v)))
theorem lvc_has {nL : Nat} {ls : Array Slot} (h : lvh ad nL ls lv) : lv_has ls nL (lvc ad nL lv) := by
  refine ⟨h.1, h.2.1, fun q hq => ?_⟩
  obtain ⟨i, -, hi⟩ := List.mem_filterMap.mp hq
  obtain ⟨v, hv, rfl⟩ := Option.map_eq_some_iff.mp hi
  exact h.2.2 i v hv
theorem lvc_mem {nL : Nat} {ls : Array Slot} (h : lvh ad nL ls lv) {i : Nat} {v : av} (hv : lkp lv i = some v) : (i, vl ad v) ∈ lvc ad nL lv := by
  have hlt : i < nL := by rw [← h.1]; exact lv_lt (h.2.2 i v hv)
  exact List.mem_filterMap.mpr ⟨i, List.mem_range.mpr hlt, by rw [hv]; rfl⟩
def isL (v : Option av) : Bool := match v with | some (.inr (.inl _)) => true | _ => false
theorem isL_cat {v : av} (h : isL (some v) = false) : (vl ad v).category = 1 := by
  match v, h with
  | .inl _, _ => rfl
  | .inr (.inr none), _ => rfl
  | .inr (.inr (some _)), _ => rfl
/-- a store of one word at i is clean: no long at i - 1 -/
def okS (lv : List (Nat × av)) (i : Nat) : Bool := match i with | 0 => true | j + 1 => !(isL (lkp lv j))
def okL (lv : List (Nat × av)) (i : Nat) : Bool := okS lv i && (lkp lv (i + 1)).isNone
theorem okS_cat {i k : Nat} {v : av} (h : okS lv i = true) (hv : lkp lv k = some v) (hk : k + 1 = i) : (vl ad v).category = 1 := by
  subst hk
  simp only [okS, hv, Bool.not_eq_true'] at h
  exact isL_cat h
theorem lvh_put {nL i : Nat} {ls ls' : Array Slot} {x : av} {lv' : List (Nat × Value)} (h : lvh ad nL ls lv) (hok : okS lv i = true) (h' : lv_has ls' nL lv') (e : (i, vl ad x) :: (lvc ad nL lv).filter (fun q => !(q.1 == i) && !(q.1 + 1 == i && q.2.category == 2)) = lv') : lvh ad nL ls' ((i, x) :: lv) := by
  refine ⟨h'.1, h'.2.1, fun k v hv => ?_⟩
  subst e
  by_cases hk : k = i
  · subst hk
    rw [lkp_cons_eq] at hv
    cases hv
    exact h'.2.2 _ List.mem_cons_self
  · rw [lkp_cons_ne _ _ hk] at hv
    refine h'.2.2 (k, vl ad v) (List.mem_cons_of_mem _ (List.mem_filter.mpr ⟨lvc_mem h hv, ?_⟩))
    have h1 : (k == i) = false := by simp [hk]
    by_cases h2 : k + 1 = i
    · have h3 := okS_cat (ad := ad) hok hv h2
      simp [h1, h3]
    · have h4 : (k + 1 == i) = false := by simp [h2]
      simp [h1, h4]
theorem lvh_putL {nL i : Nat} {ls ls' : Array Slot} {x : av} {lv' : List (Nat × Value)} (h : lvh ad nL ls lv) (hok : okL lv i = true) (h' : lv_has ls' nL lv') (e : (i, vl ad x) :: (lvc ad nL lv).filter (fun q => !(q.1 == i) && (!(q.1 == i + 1) && !(q.1 + 1 == i && q.2.category == 2))) = lv') : lvh ad nL ls' ((i, x) :: lv) := by
  refine ⟨h'.1, h'.2.1, fun k v hv => ?_⟩
  subst e
  simp only [okL, Bool.and_eq_true] at hok
  by_cases hk : k = i
  · subst hk
    rw [lkp_cons_eq] at hv
    cases hv
    exact h'.2.2 _ List.mem_cons_self
  · rw [lkp_cons_ne _ _ hk] at hv
    refine h'.2.2 (k, vl ad v) (List.mem_cons_of_mem _ (List.mem_filter.mpr ⟨lvc_mem h hv, ?_⟩))
    have h1 : (k == i) = false := by simp [hk]
    have h5 : (k == i + 1) = false := by
      by_cases q : k = i + 1
      · subst q
        rw [hv] at hok
        exact absurd hok.2 (by simp)
      · simp [q]
    by_cases h2 : k + 1 = i
    · have h3 := okS_cat (ad := ad) hok.1 hv h2
      simp [h1, h5, h3]
    · have h4 : (k + 1 == i) = false := by simp [h2]
      simp [h1, h4, h5]
theorem x_istore {i : Nat} {x : Int32} (hd : decode M.2.1 pc = .ok (.istore i, 2)) (hn : i < M.2.2.1) (hok : okS lv i = true) (k : X E M n1 n2 ad S (pc + 2) ((i, aI x) :: lv) st) : X E M n1 n2 ad S pc lv (aI x :: st) := fun hO H locs ls hW hl => lv_istore hO.1 hO.2.1 hd (lvc_has hl) hn rfl (fun ls' h' => k hO H locs ls' hW (lvh_put (x := aI x) hl hok h' rfl))
theorem x_istore_n {i : Fin 4} {x : Int32} (hd : decode M.2.1 pc = .ok (.istore_n i, 1)) (hn : (i : Nat) < M.2.2.1) (hok : okS lv i = true) (k : X E M n1 n2 ad S (pc + 1) (((i : Nat), aI x) :: lv) st) : X E M n1 n2 ad S pc lv (aI x :: st) := fun hO H locs ls hW hl => lv_istore_n hO.1 hO.2.1 hd rfl (lvc_has hl) hn rfl (fun ls' h' => k hO H locs ls' hW (lvh_put (x := aI x) hl hok h' rfl))
theorem x_astore {i : Nat} {x : Nat} (hd : decode M.2.1 pc = .ok (.astore i, 2)) (hn : i < M.2.2.1) (hok : okS lv i = true) (k : X E M n1 n2 ad S (pc + 2) ((i, aA x) :: lv) st) : X E M n1 n2 ad S pc lv (aA x :: st) := fun hO H locs ls hW hl => lv_astore hO.1 hO.2.1 hd (lvc_has hl) hn rfl (fun ls' h' => k hO H locs ls' hW (lvh_put (x := aA x) hl hok h' rfl))
theorem x_astore_n {i : Fin 4} {x : Nat} (hd : decode M.2.1 pc = .ok (.astore_n i, 1)) (hn : (i : Nat) < M.2.2.1) (hok : okS lv i = true) (k : X E M n1 n2 ad S (pc + 1) (((i : Nat), aA x) :: lv) st) : X E M n1 n2 ad S pc lv (aA x :: st) := fun hO H locs ls hW hl => lv_astore_n hO.1 hO.2.1 hd rfl (lvc_has hl) hn rfl (fun ls' h' => k hO H locs ls' hW (lvh_put (x := aA x) hl hok h' rfl))
theorem x_astoreq {i : Nat} {x : Option Nat} (hd : decode M.2.1 pc = .ok (.astore i, 2)) (hn : i < M.2.2.1) (hok : okS lv i = true) (k : X E M n1 n2 ad S (pc + 2) ((i, aR x) :: lv) st) : X E M n1 n2 ad S pc lv (aR x :: st) := fun hO H locs ls hW hl => match x, k with
  | some _, k => lv_astore hO.1 hO.2.1 hd (lvc_has hl) hn rfl (fun ls' h' => k hO H locs ls' hW (lvh_put hl hok h' rfl))
  | none, k => lv_astoreN hO.1 hO.2.1 hd (lvc_has hl) hn rfl (fun ls' h' => k hO H locs ls' hW (lvh_put (x := aR none) hl hok h' rfl))
theorem x_astoreq_n {i : Fin 4} {x : Option Nat} (hd : decode M.2.1 pc = .ok (.astore_n i, 1)) (hn : (i : Nat) < M.2.2.1) (hok : okS lv i = true) (k : X E M n1 n2 ad S (pc + 1) (((i : Nat), aR x) :: lv) st) : X E M n1 n2 ad S pc lv (aR x :: st) := fun hO H locs ls hW hl => match x, k with
  | some _, k => lv_astore_n hO.1 hO.2.1 hd rfl (lvc_has hl) hn rfl (fun ls' h' => k hO H locs ls' hW (lvh_put hl hok h' rfl))
  | none, k => lv_astore_nN hO.1 hO.2.1 hd rfl (lvc_has hl) hn rfl (fun ls' h' => k hO H locs ls' hW (lvh_put (x := aR none) hl hok h' rfl))
theorem x_lstore {i : Nat} {x : Int64} (hd : decode M.2.1 pc = .ok (.lstore i, 2)) (hn : i + 1 < M.2.2.1) (hok : okL lv i = true) (k : X E M n1 n2 ad S (pc + 2) ((i, aJ x) :: lv) st) : X E M n1 n2 ad S pc lv (aJ x :: st) := fun hO H locs ls hW hl => lv_lstore hO.1 hO.2.1 hd (lvc_has hl) hn rfl (fun ls' h' => k hO H locs ls' hW (lvh_putL (x := aJ x) hl hok h' rfl))
theorem x_lstore_n {i : Fin 4} {x : Int64} (hd : decode M.2.1 pc = .ok (.lstore_n i, 1)) (hn : (i : Nat) + 1 < M.2.2.1) (hok : okL lv i = true) (k : X E M n1 n2 ad S (pc + 1) (((i : Nat), aJ x) :: lv) st) : X E M n1 n2 ad S pc lv (aJ x :: st) := fun hO H locs ls hW hl => lv_lstore_n hO.1 hO.2.1 hd rfl (lvc_has hl) hn rfl (fun ls' h' => k hO H locs ls' hW (lvh_putL (x := aJ x) hl hok h' rfl))
theorem x_iinc {i : Nat} {n : Int} {x v : Int32} (hd : decode M.2.1 pc = .ok (.iinc i n, 3)) (hl0 : lkp lv i = some (aI x)) (hv : x + Int32.ofInt n = v) (hn : i < M.2.2.1) (hok : okS lv i = true) (k : X E M n1 n2 ad S (pc + 3) ((i, aI v) :: lv) st) : X E M n1 n2 ad S pc lv st := fun hO H locs ls hW hl => by
  obtain ⟨q, hq⟩ := List.mem_iff_getElem?.mp (lvc_mem hl hl0)
  exact lv_iinc hO.1 hO.2.1 hd (lvc_has hl) hq hv hn rfl (fun ls' h' => k hO H locs ls' hW (lvh_put (x := aI v) hl hok h' rfl))
def lvs (lv : List (Nat × av)) : List (Nat × av) → Prop
  | [] => True
  | q :: t => lkp lv q.1 = some q.2 ∧ lvs lv t
theorem lvs_of {lv : List (Nat × av)} : ∀ {lv' : List (Nat × av)}, lvs lv lv' → ∀ i v, lkp lv' i = some v → lkp lv i = some v
  | [], _, _, _, h => by simp [lkp] at h
  | q :: t, h, i, v, hv => by
    by_cases hi : i = q.1
    · subst hi
      rw [show q = (q.1, q.2) from rfl, lkp_cons_eq] at hv
      cases hv
      exact h.1
    · rw [show q = (q.1, q.2) from rfl, lkp_cons_ne _ _ hi] at hv
      exact lvs_of h.2 i v hv
theorem x_lv {lv' : List (Nat × av)} (h : lvs lv lv') (k : X E M n1 n2 ad S pc lv' st) : X E M n1 n2 ad S pc lv st := fun hO H locs ls hW hl => k hO H locs ls hW ⟨hl.1, hl.2.1, fun i v hv => hl.2.2 i v (lvs_of h i v hv)⟩
theorem x_nI {x : Int32} (k : ∀ y : Int32, y = x → X E M n1 n2 ad S pc lv (aI y :: st)) : X E M n1 n2 ad S pc lv (aI x :: st) := k x rfl
theorem x_nJ {x : Int64} (k : ∀ y : Int64, y = x → X E M n1 n2 ad S pc lv (aJ y :: st)) : X E M n1 n2 ad S pc lv (aJ x :: st) := k x rfl
theorem x_if_eq {x : Int32} {off : Int} {tgt : Nat} (hd : decode M.2.1 pc = .ok (.ifCond .eq off, 3)) (ht : (pc : Int) + off = (tgt : Int)) (kt : x = 0 → X E M n1 n2 ad S tgt lv st) (kf : ¬ x = 0 → X E M n1 n2 ad S (pc + 3) lv st) : X E M n1 n2 ad S pc lv (aI x :: st) := fun hO H locs ls hW hl => lv_if_eq hO.1 hO.2.1 hd ht (fun q => kt q hO H locs ls hW hl) (fun q => kf q hO H locs ls hW hl)
theorem x_if_ne {x : Int32} {off : Int} {tgt : Nat} (hd : decode M.2.1 pc = .ok (.ifCond .ne off, 3)) (ht : (pc : Int) + off = (tgt : Int)) (kt : ¬ x = 0 → X E M n1 n2 ad S tgt lv st) (kf : x = 0 → X E M n1 n2 ad S (pc + 3) lv st) : X E M n1 n2 ad S pc lv (aI x :: st) := fun hO H locs ls hW hl => lv_if_ne hO.1 hO.2.1 hd ht (fun q => kt q hO H locs ls hW hl) (fun q => kf q hO H locs ls hW hl)
theorem x_if_lt {x : Int32} {off : Int} {tgt : Nat} (hd : decode M.2.1 pc = .ok (.ifCond .lt off, 3)) (ht : (pc : Int) + off = (tgt : Int)) (kt : x < 0 → X E M n1 n2 ad S tgt lv st) (kf : ¬ x < 0 → X E M n1 n2 ad S (pc + 3) lv st) : X E M n1 n2 ad S pc lv (aI x :: st) := fun hO H locs ls hW hl => lv_if_lt hO.1 hO.2.1 hd ht (fun q => kt q hO H locs ls hW hl) (fun q => kf q hO H locs ls hW hl)
theorem x_if_ge {x : Int32} {off : Int} {tgt : Nat} (hd : decode M.2.1 pc = .ok (.ifCond .ge off, 3)) (ht : (pc : Int) + off = (tgt : Int)) (kt : 0 ≤ x → X E M n1 n2 ad S tgt lv st) (kf : ¬ 0 ≤ x → X E M n1 n2 ad S (pc + 3) lv st) : X E M n1 n2 ad S pc lv (aI x :: st) := fun hO H locs ls hW hl => lv_if_ge hO.1 hO.2.1 hd ht (fun q => kt q hO H locs ls hW hl) (fun q => kf q hO H locs ls hW hl)
theorem x_if_gt {x : Int32} {off : Int} {tgt : Nat} (hd : decode M.2.1 pc = .ok (.ifCond .gt off, 3)) (ht : (pc : Int) + off = (tgt : Int)) (kt : 0 < x → X E M n1 n2 ad S tgt lv st) (kf : ¬ 0 < x → X E M n1 n2 ad S (pc + 3) lv st) : X E M n1 n2 ad S pc lv (aI x :: st) := fun hO H locs ls hW hl => lv_if_gt hO.1 hO.2.1 hd ht (fun q => kt q hO H locs ls hW hl) (fun q => kf q hO H locs ls hW hl)
theorem x_if_le {x : Int32} {off : Int} {tgt : Nat} (hd : decode M.2.1 pc = .ok (.ifCond .le off, 3)) (ht : (pc : Int) + off = (tgt : Int)) (kt : x ≤ 0 → X E M n1 n2 ad S tgt lv st) (kf : ¬ x ≤ 0 → X E M n1 n2 ad S (pc + 3) lv st) : X E M n1 n2 ad S pc lv (aI x :: st) := fun hO H locs ls hW hl => lv_if_le hO.1 hO.2.1 hd ht (fun q => kt q hO H locs ls hW hl) (fun q => kf q hO H locs ls hW hl)
theorem x_icmp_eq {x y : Int32} {off : Int} {tgt : Nat} (hd : decode M.2.1 pc = .ok (.if_icmp .eq off, 3)) (ht : (pc : Int) + off = (tgt : Int)) (kt : x = y → X E M n1 n2 ad S tgt lv st) (kf : ¬ x = y → X E M n1 n2 ad S (pc + 3) lv st) : X E M n1 n2 ad S pc lv (aI y :: aI x :: st) := fun hO H locs ls hW hl => lv_icmp_eq hO.1 hO.2.1 hd ht (fun q => kt q hO H locs ls hW hl) (fun q => kf q hO H locs ls hW hl)
theorem x_icmp_ne {x y : Int32} {off : Int} {tgt : Nat} (hd : decode M.2.1 pc = .ok (.if_icmp .ne off, 3)) (ht : (pc : Int) + off = (tgt : Int)) (kt : ¬ x = y → X E M n1 n2 ad S tgt lv st) (kf : x = y → X E M n1 n2 ad S (pc + 3) lv st) : X E M n1 n2 ad S pc lv (aI y :: aI x :: st) := fun hO H locs ls hW hl => lv_icmp_ne hO.1 hO.2.1 hd ht (fun q => kt q hO H locs ls hW hl) (fun q => kf q hO H locs ls hW hl)
theorem x_icmp_lt {x y : Int32} {off : Int} {tgt : Nat} (hd : decode M.2.1 pc = .ok (.if_icmp .lt off, 3)) (ht : (pc : Int) + off = (tgt : Int)) (kt : x < y → X E M n1 n2 ad S tgt lv st) (kf : ¬ x < y → X E M n1 n2 ad S (pc + 3) lv st) : X E M n1 n2 ad S pc lv (aI y :: aI x :: st) := fun hO H locs ls hW hl => lv_icmp_lt hO.1 hO.2.1 hd ht (fun q => kt q hO H locs ls hW hl) (fun q => kf q hO H locs ls hW hl)
theorem x_icmp_ge {x y : Int32} {off : Int} {tgt : Nat} (hd : decode M.2.1 pc = .ok (.if_icmp .ge off, 3)) (ht : (pc : Int) + off = (tgt : Int)) (kt : y ≤ x → X E M n1 n2 ad S tgt lv st) (kf : ¬ y ≤ x → X E M n1 n2 ad S (pc + 3) lv st) : X E M n1 n2 ad S pc lv (aI y :: aI x :: st) := fun hO H locs ls hW hl => lv_icmp_ge hO.1 hO.2.1 hd ht (fun q => kt q hO H locs ls hW hl) (fun q => kf q hO H locs ls hW hl)
theorem x_icmp_gt {x y : Int32} {off : Int} {tgt : Nat} (hd : decode M.2.1 pc = .ok (.if_icmp .gt off, 3)) (ht : (pc : Int) + off = (tgt : Int)) (kt : y < x → X E M n1 n2 ad S tgt lv st) (kf : ¬ y < x → X E M n1 n2 ad S (pc + 3) lv st) : X E M n1 n2 ad S pc lv (aI y :: aI x :: st) := fun hO H locs ls hW hl => lv_icmp_gt hO.1 hO.2.1 hd ht (fun q => kt q hO H locs ls hW hl) (fun q => kf q hO H locs ls hW hl)
theorem x_icmp_le {x y : Int32} {off : Int} {tgt : Nat} (hd : decode M.2.1 pc = .ok (.if_icmp .le off, 3)) (ht : (pc : Int) + off = (tgt : Int)) (kt : x ≤ y → X E M n1 n2 ad S tgt lv st) (kf : ¬ x ≤ y → X E M n1 n2 ad S (pc + 3) lv st) : X E M n1 n2 ad S pc lv (aI y :: aI x :: st) := fun hO H locs ls hW hl => lv_icmp_le hO.1 hO.2.1 hd ht (fun q => kt q hO H locs ls hW hl) (fun q => kf q hO H locs ls hW hl)
theorem x_lcmp_eq {x y : Int64} {off : Int} {tgt : Nat} (hd : decode M.2.1 pc = .ok (.lcmp, 1)) (hd2 : decode M.2.1 (pc + 1) = .ok (.ifCond .eq off, 3)) (ht : ((pc + 1 : Nat) : Int) + off = (tgt : Int)) (kt : x = y → X E M n1 n2 ad S tgt lv st) (kf : ¬ x = y → X E M n1 n2 ad S (pc + 1 + 3) lv st) : X E M n1 n2 ad S pc lv (aJ y :: aJ x :: st) := fun hO H locs ls hW hl => W.lcmp hO.1 hO.2.1 hd (lv_if_eq hO.1 hO.2.1 hd2 ht (fun q => kt ((lg_cmp_eq x y).mp q) hO H locs ls hW hl) (fun q => kf (fun z => q ((lg_cmp_eq x y).mpr z)) hO H locs ls hW hl))
theorem x_lcmp_ne {x y : Int64} {off : Int} {tgt : Nat} (hd : decode M.2.1 pc = .ok (.lcmp, 1)) (hd2 : decode M.2.1 (pc + 1) = .ok (.ifCond .ne off, 3)) (ht : ((pc + 1 : Nat) : Int) + off = (tgt : Int)) (kt : ¬ x = y → X E M n1 n2 ad S tgt lv st) (kf : x = y → X E M n1 n2 ad S (pc + 1 + 3) lv st) : X E M n1 n2 ad S pc lv (aJ y :: aJ x :: st) := fun hO H locs ls hW hl => W.lcmp hO.1 hO.2.1 hd (lv_if_ne hO.1 hO.2.1 hd2 ht (fun q => kt (fun z => q ((lg_cmp_eq x y).mpr z)) hO H locs ls hW hl) (fun q => kf ((lg_cmp_eq x y).mp q) hO H locs ls hW hl))
theorem x_lcmp_lt {x y : Int64} {off : Int} {tgt : Nat} (hd : decode M.2.1 pc = .ok (.lcmp, 1)) (hd2 : decode M.2.1 (pc + 1) = .ok (.ifCond .lt off, 3)) (ht : ((pc + 1 : Nat) : Int) + off = (tgt : Int)) (kt : x < y → X E M n1 n2 ad S tgt lv st) (kf : ¬ x < y → X E M n1 n2 ad S (pc + 1 + 3) lv st) : X E M n1 n2 ad S pc lv (aJ y :: aJ x :: st) := fun hO H locs ls hW hl => W.lcmp hO.1 hO.2.1 hd (lv_if_lt hO.1 hO.2.1 hd2 ht (fun q => kt ((lg_cmp_lt x y).mp q) hO H locs ls hW hl) (fun q => kf (fun z => q ((lg_cmp_lt x y).mpr z)) hO H locs ls hW hl))
theorem x_lcmp_ge {x y : Int64} {off : Int} {tgt : Nat} (hd : decode M.2.1 pc = .ok (.lcmp, 1)) (hd2 : decode M.2.1 (pc + 1) = .ok (.ifCond .ge off, 3)) (ht : ((pc + 1 : Nat) : Int) + off = (tgt : Int)) (kt : y ≤ x → X E M n1 n2 ad S tgt lv st) (kf : ¬ y ≤ x → X E M n1 n2 ad S (pc + 1 + 3) lv st) : X E M n1 n2 ad S pc lv (aJ y :: aJ x :: st) := fun hO H locs ls hW hl => W.lcmp hO.1 hO.2.1 hd (lv_if_ge hO.1 hO.2.1 hd2 ht (fun q => kt ((lg_cmp_ge x y).mp q) hO H locs ls hW hl) (fun q => kf (fun z => q ((lg_cmp_ge x y).mpr z)) hO H locs ls hW hl))
theorem x_lcmp_gt {x y : Int64} {off : Int} {tgt : Nat} (hd : decode M.2.1 pc = .ok (.lcmp, 1)) (hd2 : decode M.2.1 (pc + 1) = .ok (.ifCond .gt off, 3)) (ht : ((pc + 1 : Nat) : Int) + off = (tgt : Int)) (kt : y < x → X E M n1 n2 ad S tgt lv st) (kf : ¬ y < x → X E M n1 n2 ad S (pc + 1 + 3) lv st) : X E M n1 n2 ad S pc lv (aJ y :: aJ x :: st) := fun hO H locs ls hW hl => W.lcmp hO.1 hO.2.1 hd (lv_if_gt hO.1 hO.2.1 hd2 ht (fun q => kt ((lg_cmp_gt x y).mp q) hO H locs ls hW hl) (fun q => kf (fun z => q ((lg_cmp_gt x y).mpr z)) hO H locs ls hW hl))
theorem x_lcmp_le {x y : Int64} {off : Int} {tgt : Nat} (hd : decode M.2.1 pc = .ok (.lcmp, 1)) (hd2 : decode M.2.1 (pc + 1) = .ok (.ifCond .le off, 3)) (ht : ((pc + 1 : Nat) : Int) + off = (tgt : Int)) (kt : x ≤ y → X E M n1 n2 ad S tgt lv st) (kf : ¬ x ≤ y → X E M n1 n2 ad S (pc + 1 + 3) lv st) : X E M n1 n2 ad S pc lv (aJ y :: aJ x :: st) := fun hO H locs ls hW hl => W.lcmp hO.1 hO.2.1 hd (lv_if_le hO.1 hO.2.1 hd2 ht (fun q => kt ((lg_cmp_le x y).mp q) hO H locs ls hW hl) (fun q => kf (fun z => q ((lg_cmp_le x y).mpr z)) hO H locs ls hW hl))
theorem x_goto {off : Int} {tgt : Nat} (hd : decode M.2.1 pc = .ok (.goto off, 3)) (ht : (pc : Int) + off = (tgt : Int)) (k : X E M n1 n2 ad S tgt lv st) : X E M n1 n2 ad S pc lv st := fun hO H locs ls hW hl => lv_goto hO.1 hO.2.1 hd ht (k hO H locs ls hW hl)
theorem x_ifnull {x : Option Nat} {off : Int} {tgt : Nat} (hd : decode M.2.1 pc = .ok (.ifnull off, 3)) (ht : (pc : Int) + off = (tgt : Int)) (kt : x = none → X E M n1 n2 ad S tgt lv st) (kf : ∀ a, x = some a → X E M n1 n2 ad S (pc + 3) lv st) : X E M n1 n2 ad S pc lv (aR x :: st) := fun hO H locs ls hW hl => match x, kt, kf with
  | some a, _, kf => lv_ifnull hO.1 hO.2.1 hd (kf a rfl hO H locs ls hW hl)
  | none, kt, _ => lv_ifnullN hO.1 hO.2.1 hd ht (kt rfl hO H locs ls hW hl)
theorem x_ifnonnull {x : Option Nat} {off : Int} {tgt : Nat} (hd : decode M.2.1 pc = .ok (.ifnonnull off, 3)) (ht : (pc : Int) + off = (tgt : Int)) (kt : ∀ a, x = some a → X E M n1 n2 ad S tgt lv st) (kf : x = none → X E M n1 n2 ad S (pc + 3) lv st) : X E M n1 n2 ad S pc lv (aR x :: st) := fun hO H locs ls hW hl => match x, kt, kf with
  | some a, kt, _ => lv_ifnonnull hO.1 hO.2.1 hd ht (kt a rfl hO H locs ls hW hl)
  | none, _, kf => lv_ifnonnullN hO.1 hO.2.1 hd (kf rfl hO H locs ls hW hl)
theorem wd_at {a : Nat} {H : Heap} {locs : List Loc} {e : va_E} (_ : wd E ad S H locs) (h : a < S.1) (he : hcell E.1.2.2.1 ad S a = e) : (wld E.1.2.2.1 ad S)[a]? = some (ad a, e) := by
  rw [wld_at h, he]
theorem x_iald {a : Nat} {i : Int32} (hd : decode M.2.1 pc = .ok (.iaload, 1)) (h : ix S 8 a i) (k : X E M n1 n2 ad S (pc + 1) lv (aI (hi S a i.toNatClampNeg) :: st)) : X E M n1 n2 ad S pc lv (aI i :: aA a :: st) := fun hO H locs ls hW hl => va_iald hO.1 hO.2.1 hO.2.2.2.2.2.1 hW.1 a 0 (wd_at hW h.1.1 (hcell_i h.1.2)) rfl h.2 hd (k hO H locs ls hW hl)
theorem x_zald {a : Nat} {i : Int32} (hd : decode M.2.1 pc = .ok (.baload, 1)) (h : ix S 10 a i) (k : X E M n1 n2 ad S (pc + 1) lv (aI (hi S a i.toNatClampNeg) :: st)) : X E M n1 n2 ad S pc lv (aI i :: aA a :: st) := fun hO H locs ls hW hl => va_zald hO.1 hO.2.1 hO.2.2.2.2.2.1 hW.1 a 2 (wd_at hW h.1.1 (hcell_z h.1.2)) rfl h.2 hd (k hO H locs ls hW hl)
theorem x_lald {a : Nat} {i : Int32} (hd : decode M.2.1 pc = .ok (.laload, 1)) (h : ix S 9 a i) (k : X E M n1 n2 ad S (pc + 1) lv (aJ (hj S a i.toNatClampNeg) :: st)) : X E M n1 n2 ad S pc lv (aI i :: aA a :: st) := fun hO H locs ls hW hl => va_lald hO.1 hO.2.1 hO.2.2.2.2.2.1 hW.1 a 1 (wd_at hW h.1.1 (hcell_j h.1.2)) rfl h.2 hd (k hO H locs ls hW hl)
theorem x_aald11 {a : Nat} {i : Int32} (hd : decode M.2.1 pc = .ok (.aaload, 1)) (h : ix S 11 a i) (k : X E M n1 n2 ad S (pc + 1) lv (aR (hr S a i.toNatClampNeg) :: st)) : X E M n1 n2 ad S pc lv (aI i :: aA a :: st) := fun hO H locs ls hW hl => va_aldq hO.1 hO.2.1 hO.2.2.2.2.2.1 hW.1 a 3 (wd_at hW h.1.1 (hcell_r 11 h.1.2 (by decide))) rfl h.2 hd (by rw [← vl_ref]; exact k hO H locs ls hW hl)
theorem x_aald12 {a : Nat} {i : Int32} (hd : decode M.2.1 pc = .ok (.aaload, 1)) (h : ix S 12 a i) (k : X E M n1 n2 ad S (pc + 1) lv (aR (hr S a i.toNatClampNeg) :: st)) : X E M n1 n2 ad S pc lv (aI i :: aA a :: st) := fun hO H locs ls hW hl => va_aldq hO.1 hO.2.1 hO.2.2.2.2.2.1 hW.1 a 4 (wd_at hW h.1.1 (hcell_r 12 h.1.2 (by decide))) rfl h.2 hd (by rw [← vl_ref]; exact k hO H locs ls hW hl)
theorem x_aald13 {a : Nat} {i : Int32} (hd : decode M.2.1 pc = .ok (.aaload, 1)) (h : ix S 13 a i) (k : X E M n1 n2 ad S (pc + 1) lv (aR (hr S a i.toNatClampNeg) :: st)) : X E M n1 n2 ad S pc lv (aI i :: aA a :: st) := fun hO H locs ls hW hl => va_aldq hO.1 hO.2.1 hO.2.2.2.2.2.1 hW.1 a 5 (wd_at hW h.1.1 (hcell_r 13 h.1.2 (by decide))) rfl h.2 hd (by rw [← vl_ref]; exact k hO H locs ls hW hl)
theorem hcell_sI {cy : Nat → ClassId} {a j b : Nat} {x : Int32} (h : b ≠ a) : hcell cy ad (sI S a j x) b = hcell cy ad S b := hcell_congr rfl rfl (up2_row _ _ h) rfl rfl
theorem hcell_sJ {cy : Nat → ClassId} {a j b : Nat} {x : Int64} (h : b ≠ a) : hcell cy ad (sJ S a j x) b = hcell cy ad S b := hcell_congr rfl rfl rfl (up2_row _ _ h) rfl
theorem hcell_sR {cy : Nat → ClassId} {a j b : Nat} {x : Option Nat} (h : b ≠ a) : hcell cy ad (sR S a j x) b = hcell cy ad S b := hcell_congr rfl rfl rfl rfl (up2_row _ _ h)
theorem up2_upd (f : Nat → Nat → Int32) (a j : Nat) (x : Int32) : up2 f a j x a = upd (f a) j x := by
  funext k; simp [up2, upd]
theorem up2_updL (f : Nat → Nat → Int64) (a j : Nat) (x : Int64) : up2 f a j x a = vp_updL (f a) j x := by
  funext k; simp [up2, vp_updL]
theorem x_iast {a : Nat} {i : Int32} {x : Int32} (hd : decode M.2.1 pc = .ok (.iastore, 1)) (h : ix S 8 a i)  (k : X E M n1 n2 ad (sI S a i.toNatClampNeg x) (pc + 1) lv st) : X E M n1 n2 ad S pc lv (aI x :: aI i :: aA a :: st) := by
  intro hO H locs ls hW hl
  refine va_iast hO.1 hO.2.1 hO.2.2.2.2.2.1 hW.1 hW.2.1 hW.2.2 a 0 (wd_at hW h.1.1 (hcell_i h.1.2)) rfl h.2 hd (fun H1 locs1 hP hD hS => ?_)
  rw [wld_set (S := S) (S' := sI S a i.toNatClampNeg x) rfl (show hcell E.1.2.2.1 ad (sI S a i.toNatClampNeg x) a = _ from (hcell_i (S := sI S a i.toNatClampNeg x) h.1.2).trans (by rw [show hi (sI S a i.toNatClampNeg x) a = _ from up2_upd _ _ _ _])) (fun b hb => hcell_sI hb)] at hP hD
  exact k hO H1 locs1 ls ⟨hP, hD, hS⟩ hl
theorem x_last {a : Nat} {i : Int32} {x : Int64} (hd : decode M.2.1 pc = .ok (.lastore, 1)) (h : ix S 9 a i)  (k : X E M n1 n2 ad (sJ S a i.toNatClampNeg x) (pc + 1) lv st) : X E M n1 n2 ad S pc lv (aJ x :: aI i :: aA a :: st) := by
  intro hO H locs ls hW hl
  refine va_last hO.1 hO.2.1 hO.2.2.2.2.2.1 hW.1 hW.2.1 hW.2.2 a 1 (wd_at hW h.1.1 (hcell_j h.1.2)) rfl h.2 hd (fun H1 locs1 hP hD hS => ?_)
  rw [wld_set (S := S) (S' := sJ S a i.toNatClampNeg x) rfl (show hcell E.1.2.2.1 ad (sJ S a i.toNatClampNeg x) a = _ from (hcell_j (S := sJ S a i.toNatClampNeg x) h.1.2).trans (by rw [show hj (sJ S a i.toNatClampNeg x) a = _ from up2_updL _ _ _ _])) (fun b hb => hcell_sJ hb)] at hP hD
  exact k hO H1 locs1 ls ⟨hP, hD, hS⟩ hl
theorem x_zast {a : Nat} {i : Int32} {x : Int32} (hd : decode M.2.1 pc = .ok (.bastore, 1)) (h : ix S 10 a i) (hb : x = 0 ∨ x = 1) (k : X E M n1 n2 ad (sI S a i.toNatClampNeg x) (pc + 1) lv st) : X E M n1 n2 ad S pc lv (aI x :: aI i :: aA a :: st) := by
  intro hO H locs ls hW hl
  have hx : vp_nar .boolean x = x := by rcases hb with rfl | rfl <;> rfl
  refine va_zast hO.1 hO.2.1 hO.2.2.2.2.2.1 hW.1 hW.2.1 hW.2.2 a 2 (wd_at hW h.1.1 (hcell_z h.1.2)) rfl h.2 hd (fun H1 locs1 hP hD hS => ?_)
  rw [hx] at hP hD
  rw [wld_set (S := S) (S' := sI S a i.toNatClampNeg x) rfl (show hcell E.1.2.2.1 ad (sI S a i.toNatClampNeg x) a = _ from (hcell_z (S := sI S a i.toNatClampNeg x) h.1.2).trans (by rw [show hi (sI S a i.toNatClampNeg x) a = _ from up2_upd _ _ _ _])) (fun b hb => hcell_sI hb)] at hP hD
  exact k hO H1 locs1 ls ⟨hP, hD, hS⟩ hl
theorem x_alen8 {a : Nat} (hd : decode M.2.1 pc = .ok (.arraylength, 1)) (h : is S 8 a) (k : X E M n1 n2 ad S (pc + 1) lv (aI (nI (hz S a)) :: st)) : X E M n1 n2 ad S pc lv (aA a :: st) := fun hO H locs ls hW hl => va_alen hO.1 hO.2.1 hO.2.2.2.2.2.1 hW.1 a 0 (wd_at hW h.1 (hcell_i h.2)) rfl rfl hd (k hO H locs ls hW hl)
theorem x_alen9 {a : Nat} (hd : decode M.2.1 pc = .ok (.arraylength, 1)) (h : is S 9 a) (k : X E M n1 n2 ad S (pc + 1) lv (aI (nI (hz S a)) :: st)) : X E M n1 n2 ad S pc lv (aA a :: st) := fun hO H locs ls hW hl => va_alen hO.1 hO.2.1 hO.2.2.2.2.2.1 hW.1 a 1 (wd_at hW h.1 (hcell_j h.2)) rfl rfl hd (k hO H locs ls hW hl)
theorem x_alen11 {a : Nat} (hd : decode M.2.1 pc = .ok (.arraylength, 1)) (h : is S 11 a) (k : X E M n1 n2 ad S (pc + 1) lv (aI (nI (hz S a)) :: st)) : X E M n1 n2 ad S pc lv (aA a :: st) := fun hO H locs ls hW hl => va_alen hO.1 hO.2.1 hO.2.2.2.2.2.1 hW.1 a 3 (wd_at hW h.1 (hcell_r 11 h.2 (by decide))) rfl rfl hd (k hO H locs ls hW hl)
theorem x_alen12 {a : Nat} (hd : decode M.2.1 pc = .ok (.arraylength, 1)) (h : is S 12 a) (k : X E M n1 n2 ad S (pc + 1) lv (aI (nI (hz S a)) :: st)) : X E M n1 n2 ad S pc lv (aA a :: st) := fun hO H locs ls hW hl => va_alen hO.1 hO.2.1 hO.2.2.2.2.2.1 hW.1 a 4 (wd_at hW h.1 (hcell_r 12 h.2 (by decide))) rfl rfl hd (k hO H locs ls hW hl)
theorem x_alen13 {a : Nat} (hd : decode M.2.1 pc = .ok (.arraylength, 1)) (h : is S 13 a) (k : X E M n1 n2 ad S (pc + 1) lv (aI (nI (hz S a)) :: st)) : X E M n1 n2 ad S pc lv (aA a :: st) := fun hO H locs ls hW hl => va_alen hO.1 hO.2.1 hO.2.2.2.2.2.1 hW.1 a 5 (wd_at hW h.1 (hcell_r 13 h.2 (by decide))) rfl rfl hd (k hO H locs ls hW hl)
theorem l_f0_0 : Cond.fieldLink RX0 11 "AreaCrossings$Area" "rings" "[LAreaCrossings$Ring;" ∈ tbG := tbG_in (w := .fieldLink RX0 11 "AreaCrossings$Area" "rings" "[LAreaCrossings$Ring;") (by decide +kernel) rfl
theorem x_g0_0 {a : Nat} (hM : M.1.cls = RX0) (hd : decode M.2.1 pc = .ok (.getfield 11, 3)) (h : is S 0 a) (k : X E M n1 n2 ad S (pc + 3) lv (aR (hr S a 0) :: st)) : X E M n1 n2 ad S pc lv (aA a :: st) := fun hO H locs ls hW hl => va_get (v := va_rf ((hr S a 0).map ad)) hO.1 hO.2.1 hO.2.2.2.2.1 inG0 (by rw [← hM]; exact hO.2.2.2.1) hO.2.2.2.2.2.1 hW.1 a (wd_at hW h.1 (hcell_o 0 h.2 (by decide))) rfl 0 (by decide) (hO.2.2.2.2.1 _ l_f0_0) (fun _ h9 => h9) rfl hd (by rw [← vl_ref]; exact k hO H locs ls hW hl)
theorem x_p0_0 {a : Nat} {v : Nat} (hM : M.1.cls = RX0) (hN : M.1.name = "<init>") (hd : decode M.2.1 pc = .ok (.putfield 11, 3)) (h : is S 0 a)  (k : X E M n1 n2 ad (sR S a 0 (some v)) (pc + 3) lv st) : X E M n1 n2 ad S pc lv (aA v :: aA a :: st) := by
  intro hO H locs ls hW hl
  refine va_putF (v := .ref (ad v)) hO.1 hO.2.1 hO.2.2.2.2.1 inG0 tyX0 tyX0_ok nmX0 (by rw [← hM]; exact hO.2.2.2.1) hO.2.2.2.2.2.1 hW.1 hW.2.1 hW.2.2 a (wd_at hW h.1 (hcell_o 0 h.2 (by decide))) rfl 0 (by decide) (hO.2.2.2.2.1 _ l_f0_0) (fun _ h9 => h9) rfl (hO.2.2.2.2.2.2.2.1.trans hN) rfl (tyX0_ok 0 (by decide)) rfl rfl (by simp [fvs, fty]) hd (fun H1 locs1 hP hD hS => ?_)
  rw [wld_set (S := S) (S' := sR S a 0 (some v)) rfl ((hcell_o (S := sR S a 0 (some v)) 0 h.2 (by decide)).trans (congrArg (fun l => (Sum.inr (0 + 1, l) : va_E)) (fvs_set (S := S) (S' := sR S a 0 (some v)) (ad := ad) (a := a) (v := .ref (ad v)) (fty 0) 0 0 (fun i h0 => rfl) (fun i h0 => rfl) (fun i h0 => up2_ne _ _ (Or.inr (by omega))) (congrArg (fun z : Option Nat => some (va_rf (z.map ad))) (up2_same (hr S) a 0 (some v)))).symm)) (fun b hb => hcell_sR hb)] at hP hD
  exact k hO H1 locs1 ls ⟨hP, hD, hS⟩ hl
theorem l_f0_1 : Cond.fieldLink RX0 15 "AreaCrossings$Area" "closed" "I" ∈ tbG := tbG_in (w := .fieldLink RX0 15 "AreaCrossings$Area" "closed" "I") (by decide +kernel) rfl
theorem x_g0_1 {a : Nat} (hM : M.1.cls = RX0) (hd : decode M.2.1 pc = .ok (.getfield 15, 3)) (h : is S 0 a) (k : X E M n1 n2 ad S (pc + 3) lv (aI (hi S a 1) :: st)) : X E M n1 n2 ad S pc lv (aA a :: st) := fun hO H locs ls hW hl => va_get (v := .int (hi S a 1)) hO.1 hO.2.1 hO.2.2.2.2.1 inG0 (by rw [← hM]; exact hO.2.2.2.1) hO.2.2.2.2.2.1 hW.1 a (wd_at hW h.1 (hcell_o 0 h.2 (by decide))) rfl 1 (by decide) (hO.2.2.2.2.1 _ l_f0_1) (fun _ h9 => h9) rfl hd (k hO H locs ls hW hl)
theorem x_p0_1 {a : Nat} {v : Int32} (hM : M.1.cls = RX0)  (hd : decode M.2.1 pc = .ok (.putfield 15, 3)) (h : is S 0 a)  (k : X E M n1 n2 ad (sI S a 1 v) (pc + 3) lv st) : X E M n1 n2 ad S pc lv (aI v :: aA a :: st) := by
  intro hO H locs ls hW hl
  refine va_put (v := .int v) hO.1 hO.2.1 hO.2.2.2.2.1 inG0 tyX0 tyX0_ok nmX0 (by rw [← hM]; exact hO.2.2.2.1) hO.2.2.2.2.2.1 hW.1 hW.2.1 hW.2.2 a (wd_at hW h.1 (hcell_o 0 h.2 (by decide))) rfl 1 (by decide) (hO.2.2.2.2.1 _ l_f0_1) (fun _ h9 => h9) rfl (tyX0_ok 1 (by decide)) rfl rfl (by simp [fvs, fty]) hd (fun H1 locs1 hP hD hS => ?_)
  rw [wld_set (S := S) (S' := sI S a 1 v) rfl ((hcell_o (S := sI S a 1 v) 0 h.2 (by decide)).trans (congrArg (fun l => (Sum.inr (0 + 1, l) : va_E)) (fvs_set (S := S) (S' := sI S a 1 v) (ad := ad) (a := a) (v := .int v) (fty 0) 0 1 (fun i h0 => up2_ne _ _ (Or.inr (by omega))) (fun i h0 => rfl) (fun i h0 => rfl) (congrArg (fun z => some (Value.int z)) (up2_same (hi S) a 1 v))).symm)) (fun b hb => hcell_sI hb)] at hP hD
  exact k hO H1 locs1 ls ⟨hP, hD, hS⟩ hl
theorem l_f0_2 : Cond.fieldLink RX0 19 "AreaCrossings$Area" "making" "Z" ∈ tbG := tbG_in (w := .fieldLink RX0 19 "AreaCrossings$Area" "making" "Z") (by decide +kernel) rfl
theorem x_g0_2 {a : Nat} (hM : M.1.cls = RX0) (hd : decode M.2.1 pc = .ok (.getfield 19, 3)) (h : is S 0 a) (k : X E M n1 n2 ad S (pc + 3) lv (aI (hi S a 2) :: st)) : X E M n1 n2 ad S pc lv (aA a :: st) := fun hO H locs ls hW hl => va_get (v := .int (hi S a 2)) hO.1 hO.2.1 hO.2.2.2.2.1 inG0 (by rw [← hM]; exact hO.2.2.2.1) hO.2.2.2.2.2.1 hW.1 a (wd_at hW h.1 (hcell_o 0 h.2 (by decide))) rfl 2 (by decide) (hO.2.2.2.2.1 _ l_f0_2) (fun _ h9 => h9) rfl hd (k hO H locs ls hW hl)
theorem x_p0_2 {a : Nat} {v : Int32} (hM : M.1.cls = RX0)  (hd : decode M.2.1 pc = .ok (.putfield 19, 3)) (h : is S 0 a) (hb : v = 0 ∨ v = 1) (k : X E M n1 n2 ad (sI S a 2 v) (pc + 3) lv st) : X E M n1 n2 ad S pc lv (aI v :: aA a :: st) := by
  intro hO H locs ls hW hl
  refine va_put (v := .int v) hO.1 hO.2.1 hO.2.2.2.2.1 inG0 tyX0 tyX0_ok nmX0 (by rw [← hM]; exact hO.2.2.2.1) hO.2.2.2.2.2.1 hW.1 hW.2.1 hW.2.2 a (wd_at hW h.1 (hcell_o 0 h.2 (by decide))) rfl 2 (by decide) (hO.2.2.2.2.1 _ l_f0_2) (fun _ h9 => h9) rfl (tyX0_ok 2 (by decide)) (by rcases hb with rfl | rfl <;> rfl) (by rcases hb with rfl | rfl <;> rfl) (by simp [fvs, fty]) hd (fun H1 locs1 hP hD hS => ?_)
  rw [wld_set (S := S) (S' := sI S a 2 v) rfl ((hcell_o (S := sI S a 2 v) 0 h.2 (by decide)).trans (congrArg (fun l => (Sum.inr (0 + 1, l) : va_E)) (fvs_set (S := S) (S' := sI S a 2 v) (ad := ad) (a := a) (v := .int v) (fty 0) 0 2 (fun i h0 => up2_ne _ _ (Or.inr (by omega))) (fun i h0 => rfl) (fun i h0 => rfl) (congrArg (fun z => some (Value.int z)) (up2_same (hi S) a 2 v))).symm)) (fun b hb => hcell_sI hb)] at hP hD
  exact k hO H1 locs1 ls ⟨hP, hD, hS⟩ hl
theorem l_f0_3 : Cond.fieldLink RX0 23 "AreaCrossings$Area" "fastFrom" "J" ∈ tbG := tbG_in (w := .fieldLink RX0 23 "AreaCrossings$Area" "fastFrom" "J") (by decide +kernel) rfl
theorem x_g0_3 {a : Nat} (hM : M.1.cls = RX0) (hd : decode M.2.1 pc = .ok (.getfield 23, 3)) (h : is S 0 a) (k : X E M n1 n2 ad S (pc + 3) lv (aJ (hj S a 3) :: st)) : X E M n1 n2 ad S pc lv (aA a :: st) := fun hO H locs ls hW hl => va_get (v := .long (hj S a 3)) hO.1 hO.2.1 hO.2.2.2.2.1 inG0 (by rw [← hM]; exact hO.2.2.2.1) hO.2.2.2.2.2.1 hW.1 a (wd_at hW h.1 (hcell_o 0 h.2 (by decide))) rfl 3 (by decide) (hO.2.2.2.2.1 _ l_f0_3) (fun _ h9 => h9) rfl hd (k hO H locs ls hW hl)
theorem x_p0_3 {a : Nat} {v : Int64} (hM : M.1.cls = RX0)  (hd : decode M.2.1 pc = .ok (.putfield 23, 3)) (h : is S 0 a)  (k : X E M n1 n2 ad (sJ S a 3 v) (pc + 3) lv st) : X E M n1 n2 ad S pc lv (aJ v :: aA a :: st) := by
  intro hO H locs ls hW hl
  refine va_put (v := .long v) hO.1 hO.2.1 hO.2.2.2.2.1 inG0 tyX0 tyX0_ok nmX0 (by rw [← hM]; exact hO.2.2.2.1) hO.2.2.2.2.2.1 hW.1 hW.2.1 hW.2.2 a (wd_at hW h.1 (hcell_o 0 h.2 (by decide))) rfl 3 (by decide) (hO.2.2.2.2.1 _ l_f0_3) (fun _ h9 => h9) rfl (tyX0_ok 3 (by decide)) rfl rfl (by simp [fvs, fty]) hd (fun H1 locs1 hP hD hS => ?_)
  rw [wld_set (S := S) (S' := sJ S a 3 v) rfl ((hcell_o (S := sJ S a 3 v) 0 h.2 (by decide)).trans (congrArg (fun l => (Sum.inr (0 + 1, l) : va_E)) (fvs_set (S := S) (S' := sJ S a 3 v) (ad := ad) (a := a) (v := .long v) (fty 0) 0 3 (fun i h0 => rfl) (fun i h0 => up2_ne _ _ (Or.inr (by omega))) (fun i h0 => rfl) (congrArg (fun z => some (Value.long z)) (up2_same (hj S) a 3 v))).symm)) (fun b hb => hcell_sJ hb)] at hP hD
  exact k hO H1 locs1 ls ⟨hP, hD, hS⟩ hl
theorem l_f1_0 : Cond.fieldLink RX1 9 "AreaCrossings$Crossings" "pieces" "[I" ∈ tbG := tbG_in (w := .fieldLink RX1 9 "AreaCrossings$Crossings" "pieces" "[I") (by decide +kernel) rfl
theorem x_g1_0 {a : Nat} (hM : M.1.cls = RX1) (hd : decode M.2.1 pc = .ok (.getfield 9, 3)) (h : is S 1 a) (k : X E M n1 n2 ad S (pc + 3) lv (aR (hr S a 0) :: st)) : X E M n1 n2 ad S pc lv (aA a :: st) := fun hO H locs ls hW hl => va_get (v := va_rf ((hr S a 0).map ad)) hO.1 hO.2.1 hO.2.2.2.2.1 inG1 (by rw [← hM]; exact hO.2.2.2.1) hO.2.2.2.2.2.1 hW.1 a (wd_at hW h.1 (hcell_o 1 h.2 (by decide))) rfl 0 (by decide) (hO.2.2.2.2.1 _ l_f1_0) (fun _ h9 => h9) rfl hd (by rw [← vl_ref]; exact k hO H locs ls hW hl)
theorem x_p1_0 {a : Nat} {v : Nat} (hM : M.1.cls = RX1) (hN : M.1.name = "<init>") (hd : decode M.2.1 pc = .ok (.putfield 9, 3)) (h : is S 1 a)  (k : X E M n1 n2 ad (sR S a 0 (some v)) (pc + 3) lv st) : X E M n1 n2 ad S pc lv (aA v :: aA a :: st) := by
  intro hO H locs ls hW hl
  refine va_putF (v := .ref (ad v)) hO.1 hO.2.1 hO.2.2.2.2.1 inG1 tyX1 tyX1_ok nmX1 (by rw [← hM]; exact hO.2.2.2.1) hO.2.2.2.2.2.1 hW.1 hW.2.1 hW.2.2 a (wd_at hW h.1 (hcell_o 1 h.2 (by decide))) rfl 0 (by decide) (hO.2.2.2.2.1 _ l_f1_0) (fun _ h9 => h9) rfl (hO.2.2.2.2.2.2.2.1.trans hN) rfl (tyX1_ok 0 (by decide)) rfl rfl (by simp [fvs, fty]) hd (fun H1 locs1 hP hD hS => ?_)
  rw [wld_set (S := S) (S' := sR S a 0 (some v)) rfl ((hcell_o (S := sR S a 0 (some v)) 1 h.2 (by decide)).trans (congrArg (fun l => (Sum.inr (1 + 1, l) : va_E)) (fvs_set (S := S) (S' := sR S a 0 (some v)) (ad := ad) (a := a) (v := .ref (ad v)) (fty 1) 0 0 (fun i h0 => rfl) (fun i h0 => rfl) (fun i h0 => up2_ne _ _ (Or.inr (by omega))) (congrArg (fun z : Option Nat => some (va_rf (z.map ad))) (up2_same (hr S) a 0 (some v)))).symm)) (fun b hb => hcell_sR hb)] at hP hD
  exact k hO H1 locs1 ls ⟨hP, hD, hS⟩ hl
theorem l_f1_1 : Cond.fieldLink RX1 13 "AreaCrossings$Crossings" "areas" "[I" ∈ tbG := tbG_in (w := .fieldLink RX1 13 "AreaCrossings$Crossings" "areas" "[I") (by decide +kernel) rfl
theorem x_g1_1 {a : Nat} (hM : M.1.cls = RX1) (hd : decode M.2.1 pc = .ok (.getfield 13, 3)) (h : is S 1 a) (k : X E M n1 n2 ad S (pc + 3) lv (aR (hr S a 1) :: st)) : X E M n1 n2 ad S pc lv (aA a :: st) := fun hO H locs ls hW hl => va_get (v := va_rf ((hr S a 1).map ad)) hO.1 hO.2.1 hO.2.2.2.2.1 inG1 (by rw [← hM]; exact hO.2.2.2.1) hO.2.2.2.2.2.1 hW.1 a (wd_at hW h.1 (hcell_o 1 h.2 (by decide))) rfl 1 (by decide) (hO.2.2.2.2.1 _ l_f1_1) (fun _ h9 => h9) rfl hd (by rw [← vl_ref]; exact k hO H locs ls hW hl)
theorem x_p1_1 {a : Nat} {v : Nat} (hM : M.1.cls = RX1) (hN : M.1.name = "<init>") (hd : decode M.2.1 pc = .ok (.putfield 13, 3)) (h : is S 1 a)  (k : X E M n1 n2 ad (sR S a 1 (some v)) (pc + 3) lv st) : X E M n1 n2 ad S pc lv (aA v :: aA a :: st) := by
  intro hO H locs ls hW hl
  refine va_putF (v := .ref (ad v)) hO.1 hO.2.1 hO.2.2.2.2.1 inG1 tyX1 tyX1_ok nmX1 (by rw [← hM]; exact hO.2.2.2.1) hO.2.2.2.2.2.1 hW.1 hW.2.1 hW.2.2 a (wd_at hW h.1 (hcell_o 1 h.2 (by decide))) rfl 1 (by decide) (hO.2.2.2.2.1 _ l_f1_1) (fun _ h9 => h9) rfl (hO.2.2.2.2.2.2.2.1.trans hN) rfl (tyX1_ok 1 (by decide)) rfl rfl (by simp [fvs, fty]) hd (fun H1 locs1 hP hD hS => ?_)
  rw [wld_set (S := S) (S' := sR S a 1 (some v)) rfl ((hcell_o (S := sR S a 1 (some v)) 1 h.2 (by decide)).trans (congrArg (fun l => (Sum.inr (1 + 1, l) : va_E)) (fvs_set (S := S) (S' := sR S a 1 (some v)) (ad := ad) (a := a) (v := .ref (ad v)) (fty 1) 0 1 (fun i h0 => rfl) (fun i h0 => rfl) (fun i h0 => up2_ne _ _ (Or.inr (by omega))) (congrArg (fun z : Option Nat => some (va_rf (z.map ad))) (up2_same (hr S) a 1 (some v)))).symm)) (fun b hb => hcell_sR hb)] at hP hD
  exact k hO H1 locs1 ls ⟨hP, hD, hS⟩ hl
theorem l_f1_2 : Cond.fieldLink RX1 16 "AreaCrossings$Crossings" "entering" "[Z" ∈ tbG := tbG_in (w := .fieldLink RX1 16 "AreaCrossings$Crossings" "entering" "[Z") (by decide +kernel) rfl
theorem x_g1_2 {a : Nat} (hM : M.1.cls = RX1) (hd : decode M.2.1 pc = .ok (.getfield 16, 3)) (h : is S 1 a) (k : X E M n1 n2 ad S (pc + 3) lv (aR (hr S a 2) :: st)) : X E M n1 n2 ad S pc lv (aA a :: st) := fun hO H locs ls hW hl => va_get (v := va_rf ((hr S a 2).map ad)) hO.1 hO.2.1 hO.2.2.2.2.1 inG1 (by rw [← hM]; exact hO.2.2.2.1) hO.2.2.2.2.2.1 hW.1 a (wd_at hW h.1 (hcell_o 1 h.2 (by decide))) rfl 2 (by decide) (hO.2.2.2.2.1 _ l_f1_2) (fun _ h9 => h9) rfl hd (by rw [← vl_ref]; exact k hO H locs ls hW hl)
theorem x_p1_2 {a : Nat} {v : Nat} (hM : M.1.cls = RX1) (hN : M.1.name = "<init>") (hd : decode M.2.1 pc = .ok (.putfield 16, 3)) (h : is S 1 a)  (k : X E M n1 n2 ad (sR S a 2 (some v)) (pc + 3) lv st) : X E M n1 n2 ad S pc lv (aA v :: aA a :: st) := by
  intro hO H locs ls hW hl
  refine va_putF (v := .ref (ad v)) hO.1 hO.2.1 hO.2.2.2.2.1 inG1 tyX1 tyX1_ok nmX1 (by rw [← hM]; exact hO.2.2.2.1) hO.2.2.2.2.2.1 hW.1 hW.2.1 hW.2.2 a (wd_at hW h.1 (hcell_o 1 h.2 (by decide))) rfl 2 (by decide) (hO.2.2.2.2.1 _ l_f1_2) (fun _ h9 => h9) rfl (hO.2.2.2.2.2.2.2.1.trans hN) rfl (tyX1_ok 2 (by decide)) rfl rfl (by simp [fvs, fty]) hd (fun H1 locs1 hP hD hS => ?_)
  rw [wld_set (S := S) (S' := sR S a 2 (some v)) rfl ((hcell_o (S := sR S a 2 (some v)) 1 h.2 (by decide)).trans (congrArg (fun l => (Sum.inr (1 + 1, l) : va_E)) (fvs_set (S := S) (S' := sR S a 2 (some v)) (ad := ad) (a := a) (v := .ref (ad v)) (fty 1) 0 2 (fun i h0 => rfl) (fun i h0 => rfl) (fun i h0 => up2_ne _ _ (Or.inr (by omega))) (congrArg (fun z : Option Nat => some (va_rf (z.map ad))) (up2_same (hr S) a 2 (some v)))).symm)) (fun b hb => hcell_sR hb)] at hP hD
  exact k hO H1 locs1 ls ⟨hP, hD, hS⟩ hl
theorem l_f1_3 : Cond.fieldLink RX1 20 "AreaCrossings$Crossings" "overs" "[J" ∈ tbG := tbG_in (w := .fieldLink RX1 20 "AreaCrossings$Crossings" "overs" "[J") (by decide +kernel) rfl
theorem x_g1_3 {a : Nat} (hM : M.1.cls = RX1) (hd : decode M.2.1 pc = .ok (.getfield 20, 3)) (h : is S 1 a) (k : X E M n1 n2 ad S (pc + 3) lv (aR (hr S a 3) :: st)) : X E M n1 n2 ad S pc lv (aA a :: st) := fun hO H locs ls hW hl => va_get (v := va_rf ((hr S a 3).map ad)) hO.1 hO.2.1 hO.2.2.2.2.1 inG1 (by rw [← hM]; exact hO.2.2.2.1) hO.2.2.2.2.2.1 hW.1 a (wd_at hW h.1 (hcell_o 1 h.2 (by decide))) rfl 3 (by decide) (hO.2.2.2.2.1 _ l_f1_3) (fun _ h9 => h9) rfl hd (by rw [← vl_ref]; exact k hO H locs ls hW hl)
theorem x_p1_3 {a : Nat} {v : Nat} (hM : M.1.cls = RX1) (hN : M.1.name = "<init>") (hd : decode M.2.1 pc = .ok (.putfield 20, 3)) (h : is S 1 a)  (k : X E M n1 n2 ad (sR S a 3 (some v)) (pc + 3) lv st) : X E M n1 n2 ad S pc lv (aA v :: aA a :: st) := by
  intro hO H locs ls hW hl
  refine va_putF (v := .ref (ad v)) hO.1 hO.2.1 hO.2.2.2.2.1 inG1 tyX1 tyX1_ok nmX1 (by rw [← hM]; exact hO.2.2.2.1) hO.2.2.2.2.2.1 hW.1 hW.2.1 hW.2.2 a (wd_at hW h.1 (hcell_o 1 h.2 (by decide))) rfl 3 (by decide) (hO.2.2.2.2.1 _ l_f1_3) (fun _ h9 => h9) rfl (hO.2.2.2.2.2.2.2.1.trans hN) rfl (tyX1_ok 3 (by decide)) rfl rfl (by simp [fvs, fty]) hd (fun H1 locs1 hP hD hS => ?_)
  rw [wld_set (S := S) (S' := sR S a 3 (some v)) rfl ((hcell_o (S := sR S a 3 (some v)) 1 h.2 (by decide)).trans (congrArg (fun l => (Sum.inr (1 + 1, l) : va_E)) (fvs_set (S := S) (S' := sR S a 3 (some v)) (ad := ad) (a := a) (v := .ref (ad v)) (fty 1) 0 3 (fun i h0 => rfl) (fun i h0 => rfl) (fun i h0 => up2_ne _ _ (Or.inr (by omega))) (congrArg (fun z : Option Nat => some (va_rf (z.map ad))) (up2_same (hr S) a 3 (some v)))).symm)) (fun b hb => hcell_sR hb)] at hP hD
  exact k hO H1 locs1 ls ⟨hP, hD, hS⟩ hl
theorem l_f1_4 : Cond.fieldLink RX1 24 "AreaCrossings$Crossings" "unders" "[J" ∈ tbG := tbG_in (w := .fieldLink RX1 24 "AreaCrossings$Crossings" "unders" "[J") (by decide +kernel) rfl
theorem x_g1_4 {a : Nat} (hM : M.1.cls = RX1) (hd : decode M.2.1 pc = .ok (.getfield 24, 3)) (h : is S 1 a) (k : X E M n1 n2 ad S (pc + 3) lv (aR (hr S a 4) :: st)) : X E M n1 n2 ad S pc lv (aA a :: st) := fun hO H locs ls hW hl => va_get (v := va_rf ((hr S a 4).map ad)) hO.1 hO.2.1 hO.2.2.2.2.1 inG1 (by rw [← hM]; exact hO.2.2.2.1) hO.2.2.2.2.2.1 hW.1 a (wd_at hW h.1 (hcell_o 1 h.2 (by decide))) rfl 4 (by decide) (hO.2.2.2.2.1 _ l_f1_4) (fun _ h9 => h9) rfl hd (by rw [← vl_ref]; exact k hO H locs ls hW hl)
theorem x_p1_4 {a : Nat} {v : Nat} (hM : M.1.cls = RX1) (hN : M.1.name = "<init>") (hd : decode M.2.1 pc = .ok (.putfield 24, 3)) (h : is S 1 a)  (k : X E M n1 n2 ad (sR S a 4 (some v)) (pc + 3) lv st) : X E M n1 n2 ad S pc lv (aA v :: aA a :: st) := by
  intro hO H locs ls hW hl
  refine va_putF (v := .ref (ad v)) hO.1 hO.2.1 hO.2.2.2.2.1 inG1 tyX1 tyX1_ok nmX1 (by rw [← hM]; exact hO.2.2.2.1) hO.2.2.2.2.2.1 hW.1 hW.2.1 hW.2.2 a (wd_at hW h.1 (hcell_o 1 h.2 (by decide))) rfl 4 (by decide) (hO.2.2.2.2.1 _ l_f1_4) (fun _ h9 => h9) rfl (hO.2.2.2.2.2.2.2.1.trans hN) rfl (tyX1_ok 4 (by decide)) rfl rfl (by simp [fvs, fty]) hd (fun H1 locs1 hP hD hS => ?_)
  rw [wld_set (S := S) (S' := sR S a 4 (some v)) rfl ((hcell_o (S := sR S a 4 (some v)) 1 h.2 (by decide)).trans (congrArg (fun l => (Sum.inr (1 + 1, l) : va_E)) (fvs_set (S := S) (S' := sR S a 4 (some v)) (ad := ad) (a := a) (v := .ref (ad v)) (fty 1) 0 4 (fun i h0 => rfl) (fun i h0 => rfl) (fun i h0 => up2_ne _ _ (Or.inr (by omega))) (congrArg (fun z : Option Nat => some (va_rf (z.map ad))) (up2_same (hr S) a 4 (some v)))).symm)) (fun b hb => hcell_sR hb)] at hP hD
  exact k hO H1 locs1 ls ⟨hP, hD, hS⟩ hl
theorem l_f1_5 : Cond.fieldLink RX1 27 "AreaCrossings$Crossings" "size" "I" ∈ tbG := tbG_in (w := .fieldLink RX1 27 "AreaCrossings$Crossings" "size" "I") (by decide +kernel) rfl
theorem x_g1_5 {a : Nat} (hM : M.1.cls = RX1) (hd : decode M.2.1 pc = .ok (.getfield 27, 3)) (h : is S 1 a) (k : X E M n1 n2 ad S (pc + 3) lv (aI (hi S a 5) :: st)) : X E M n1 n2 ad S pc lv (aA a :: st) := fun hO H locs ls hW hl => va_get (v := .int (hi S a 5)) hO.1 hO.2.1 hO.2.2.2.2.1 inG1 (by rw [← hM]; exact hO.2.2.2.1) hO.2.2.2.2.2.1 hW.1 a (wd_at hW h.1 (hcell_o 1 h.2 (by decide))) rfl 5 (by decide) (hO.2.2.2.2.1 _ l_f1_5) (fun _ h9 => h9) rfl hd (k hO H locs ls hW hl)
theorem x_p1_5 {a : Nat} {v : Int32} (hM : M.1.cls = RX1)  (hd : decode M.2.1 pc = .ok (.putfield 27, 3)) (h : is S 1 a)  (k : X E M n1 n2 ad (sI S a 5 v) (pc + 3) lv st) : X E M n1 n2 ad S pc lv (aI v :: aA a :: st) := by
  intro hO H locs ls hW hl
  refine va_put (v := .int v) hO.1 hO.2.1 hO.2.2.2.2.1 inG1 tyX1 tyX1_ok nmX1 (by rw [← hM]; exact hO.2.2.2.1) hO.2.2.2.2.2.1 hW.1 hW.2.1 hW.2.2 a (wd_at hW h.1 (hcell_o 1 h.2 (by decide))) rfl 5 (by decide) (hO.2.2.2.2.1 _ l_f1_5) (fun _ h9 => h9) rfl (tyX1_ok 5 (by decide)) rfl rfl (by simp [fvs, fty]) hd (fun H1 locs1 hP hD hS => ?_)
  rw [wld_set (S := S) (S' := sI S a 5 v) rfl ((hcell_o (S := sI S a 5 v) 1 h.2 (by decide)).trans (congrArg (fun l => (Sum.inr (1 + 1, l) : va_E)) (fvs_set (S := S) (S' := sI S a 5 v) (ad := ad) (a := a) (v := .int v) (fty 1) 0 5 (fun i h0 => up2_ne _ _ (Or.inr (by omega))) (fun i h0 => rfl) (fun i h0 => rfl) (congrArg (fun z => some (Value.int z)) (up2_same (hi S) a 5 v))).symm)) (fun b hb => hcell_sI hb)] at hP hD
  exact k hO H1 locs1 ls ⟨hP, hD, hS⟩ hl
theorem l_f2_0 : Cond.fieldLink RX2 9 "AreaCrossings$Ring" "xs" "[I" ∈ tbG := tbG_in (w := .fieldLink RX2 9 "AreaCrossings$Ring" "xs" "[I") (by decide +kernel) rfl
theorem x_g2_0 {a : Nat} (hM : M.1.cls = RX2) (hd : decode M.2.1 pc = .ok (.getfield 9, 3)) (h : is S 2 a) (k : X E M n1 n2 ad S (pc + 3) lv (aR (hr S a 0) :: st)) : X E M n1 n2 ad S pc lv (aA a :: st) := fun hO H locs ls hW hl => va_get (v := va_rf ((hr S a 0).map ad)) hO.1 hO.2.1 hO.2.2.2.2.1 inG2 (by rw [← hM]; exact hO.2.2.2.1) hO.2.2.2.2.2.1 hW.1 a (wd_at hW h.1 (hcell_o 2 h.2 (by decide))) rfl 0 (by decide) (hO.2.2.2.2.1 _ l_f2_0) (fun _ h9 => h9) rfl hd (by rw [← vl_ref]; exact k hO H locs ls hW hl)
theorem x_p2_0 {a : Nat} {v : Nat} (hM : M.1.cls = RX2) (hN : M.1.name = "<init>") (hd : decode M.2.1 pc = .ok (.putfield 9, 3)) (h : is S 2 a)  (k : X E M n1 n2 ad (sR S a 0 (some v)) (pc + 3) lv st) : X E M n1 n2 ad S pc lv (aA v :: aA a :: st) := by
  intro hO H locs ls hW hl
  refine va_putF (v := .ref (ad v)) hO.1 hO.2.1 hO.2.2.2.2.1 inG2 tyX2 tyX2_ok nmX2 (by rw [← hM]; exact hO.2.2.2.1) hO.2.2.2.2.2.1 hW.1 hW.2.1 hW.2.2 a (wd_at hW h.1 (hcell_o 2 h.2 (by decide))) rfl 0 (by decide) (hO.2.2.2.2.1 _ l_f2_0) (fun _ h9 => h9) rfl (hO.2.2.2.2.2.2.2.1.trans hN) rfl (tyX2_ok 0 (by decide)) rfl rfl (by simp [fvs, fty]) hd (fun H1 locs1 hP hD hS => ?_)
  rw [wld_set (S := S) (S' := sR S a 0 (some v)) rfl ((hcell_o (S := sR S a 0 (some v)) 2 h.2 (by decide)).trans (congrArg (fun l => (Sum.inr (2 + 1, l) : va_E)) (fvs_set (S := S) (S' := sR S a 0 (some v)) (ad := ad) (a := a) (v := .ref (ad v)) (fty 2) 0 0 (fun i h0 => rfl) (fun i h0 => rfl) (fun i h0 => up2_ne _ _ (Or.inr (by omega))) (congrArg (fun z : Option Nat => some (va_rf (z.map ad))) (up2_same (hr S) a 0 (some v)))).symm)) (fun b hb => hcell_sR hb)] at hP hD
  exact k hO H1 locs1 ls ⟨hP, hD, hS⟩ hl
theorem l_f2_1 : Cond.fieldLink RX2 13 "AreaCrossings$Ring" "ys" "[I" ∈ tbG := tbG_in (w := .fieldLink RX2 13 "AreaCrossings$Ring" "ys" "[I") (by decide +kernel) rfl
theorem x_g2_1 {a : Nat} (hM : M.1.cls = RX2) (hd : decode M.2.1 pc = .ok (.getfield 13, 3)) (h : is S 2 a) (k : X E M n1 n2 ad S (pc + 3) lv (aR (hr S a 1) :: st)) : X E M n1 n2 ad S pc lv (aA a :: st) := fun hO H locs ls hW hl => va_get (v := va_rf ((hr S a 1).map ad)) hO.1 hO.2.1 hO.2.2.2.2.1 inG2 (by rw [← hM]; exact hO.2.2.2.1) hO.2.2.2.2.2.1 hW.1 a (wd_at hW h.1 (hcell_o 2 h.2 (by decide))) rfl 1 (by decide) (hO.2.2.2.2.1 _ l_f2_1) (fun _ h9 => h9) rfl hd (by rw [← vl_ref]; exact k hO H locs ls hW hl)
theorem x_p2_1 {a : Nat} {v : Nat} (hM : M.1.cls = RX2) (hN : M.1.name = "<init>") (hd : decode M.2.1 pc = .ok (.putfield 13, 3)) (h : is S 2 a)  (k : X E M n1 n2 ad (sR S a 1 (some v)) (pc + 3) lv st) : X E M n1 n2 ad S pc lv (aA v :: aA a :: st) := by
  intro hO H locs ls hW hl
  refine va_putF (v := .ref (ad v)) hO.1 hO.2.1 hO.2.2.2.2.1 inG2 tyX2 tyX2_ok nmX2 (by rw [← hM]; exact hO.2.2.2.1) hO.2.2.2.2.2.1 hW.1 hW.2.1 hW.2.2 a (wd_at hW h.1 (hcell_o 2 h.2 (by decide))) rfl 1 (by decide) (hO.2.2.2.2.1 _ l_f2_1) (fun _ h9 => h9) rfl (hO.2.2.2.2.2.2.2.1.trans hN) rfl (tyX2_ok 1 (by decide)) rfl rfl (by simp [fvs, fty]) hd (fun H1 locs1 hP hD hS => ?_)
  rw [wld_set (S := S) (S' := sR S a 1 (some v)) rfl ((hcell_o (S := sR S a 1 (some v)) 2 h.2 (by decide)).trans (congrArg (fun l => (Sum.inr (2 + 1, l) : va_E)) (fvs_set (S := S) (S' := sR S a 1 (some v)) (ad := ad) (a := a) (v := .ref (ad v)) (fty 2) 0 1 (fun i h0 => rfl) (fun i h0 => rfl) (fun i h0 => up2_ne _ _ (Or.inr (by omega))) (congrArg (fun z : Option Nat => some (va_rf (z.map ad))) (up2_same (hr S) a 1 (some v)))).symm)) (fun b hb => hcell_sR hb)] at hP hD
  exact k hO H1 locs1 ls ⟨hP, hD, hS⟩ hl
theorem l_f2_2 : Cond.fieldLink RX2 16 "AreaCrossings$Ring" "size" "I" ∈ tbG := tbG_in (w := .fieldLink RX2 16 "AreaCrossings$Ring" "size" "I") (by decide +kernel) rfl
theorem x_g2_2 {a : Nat} (hM : M.1.cls = RX2) (hd : decode M.2.1 pc = .ok (.getfield 16, 3)) (h : is S 2 a) (k : X E M n1 n2 ad S (pc + 3) lv (aI (hi S a 2) :: st)) : X E M n1 n2 ad S pc lv (aA a :: st) := fun hO H locs ls hW hl => va_get (v := .int (hi S a 2)) hO.1 hO.2.1 hO.2.2.2.2.1 inG2 (by rw [← hM]; exact hO.2.2.2.1) hO.2.2.2.2.2.1 hW.1 a (wd_at hW h.1 (hcell_o 2 h.2 (by decide))) rfl 2 (by decide) (hO.2.2.2.2.1 _ l_f2_2) (fun _ h9 => h9) rfl hd (k hO H locs ls hW hl)
theorem x_p2_2 {a : Nat} {v : Int32} (hM : M.1.cls = RX2)  (hd : decode M.2.1 pc = .ok (.putfield 16, 3)) (h : is S 2 a)  (k : X E M n1 n2 ad (sI S a 2 v) (pc + 3) lv st) : X E M n1 n2 ad S pc lv (aI v :: aA a :: st) := by
  intro hO H locs ls hW hl
  refine va_put (v := .int v) hO.1 hO.2.1 hO.2.2.2.2.1 inG2 tyX2 tyX2_ok nmX2 (by rw [← hM]; exact hO.2.2.2.1) hO.2.2.2.2.2.1 hW.1 hW.2.1 hW.2.2 a (wd_at hW h.1 (hcell_o 2 h.2 (by decide))) rfl 2 (by decide) (hO.2.2.2.2.1 _ l_f2_2) (fun _ h9 => h9) rfl (tyX2_ok 2 (by decide)) rfl rfl (by simp [fvs, fty]) hd (fun H1 locs1 hP hD hS => ?_)
  rw [wld_set (S := S) (S' := sI S a 2 v) rfl ((hcell_o (S := sI S a 2 v) 2 h.2 (by decide)).trans (congrArg (fun l => (Sum.inr (2 + 1, l) : va_E)) (fvs_set (S := S) (S' := sI S a 2 v) (ad := ad) (a := a) (v := .int v) (fty 2) 0 2 (fun i h0 => up2_ne _ _ (Or.inr (by omega))) (fun i h0 => rfl) (fun i h0 => rfl) (congrArg (fun z => some (Value.int z)) (up2_same (hi S) a 2 v))).symm)) (fun b hb => hcell_sI hb)] at hP hD
  exact k hO H1 locs1 ls ⟨hP, hD, hS⟩ hl
theorem l_f3_0 : Cond.fieldLink RX3 9 "AreaCrossings$Rules" "areaOf" "[I" ∈ tbG := tbG_in (w := .fieldLink RX3 9 "AreaCrossings$Rules" "areaOf" "[I") (by decide +kernel) rfl
theorem x_g3_0 {a : Nat} (hM : M.1.cls = RX3) (hd : decode M.2.1 pc = .ok (.getfield 9, 3)) (h : is S 3 a) (k : X E M n1 n2 ad S (pc + 3) lv (aR (hr S a 0) :: st)) : X E M n1 n2 ad S pc lv (aA a :: st) := fun hO H locs ls hW hl => va_get (v := va_rf ((hr S a 0).map ad)) hO.1 hO.2.1 hO.2.2.2.2.1 inG3 (by rw [← hM]; exact hO.2.2.2.1) hO.2.2.2.2.2.1 hW.1 a (wd_at hW h.1 (hcell_o 3 h.2 (by decide))) rfl 0 (by decide) (hO.2.2.2.2.1 _ l_f3_0) (fun _ h9 => h9) rfl hd (by rw [← vl_ref]; exact k hO H locs ls hW hl)
theorem x_p3_0 {a : Nat} {v : Nat} (hM : M.1.cls = RX3) (hN : M.1.name = "<init>") (hd : decode M.2.1 pc = .ok (.putfield 9, 3)) (h : is S 3 a)  (k : X E M n1 n2 ad (sR S a 0 (some v)) (pc + 3) lv st) : X E M n1 n2 ad S pc lv (aA v :: aA a :: st) := by
  intro hO H locs ls hW hl
  refine va_putF (v := .ref (ad v)) hO.1 hO.2.1 hO.2.2.2.2.1 inG3 tyX3 tyX3_ok nmX3 (by rw [← hM]; exact hO.2.2.2.1) hO.2.2.2.2.2.1 hW.1 hW.2.1 hW.2.2 a (wd_at hW h.1 (hcell_o 3 h.2 (by decide))) rfl 0 (by decide) (hO.2.2.2.2.1 _ l_f3_0) (fun _ h9 => h9) rfl (hO.2.2.2.2.2.2.2.1.trans hN) rfl (tyX3_ok 0 (by decide)) rfl rfl (by simp [fvs, fty]) hd (fun H1 locs1 hP hD hS => ?_)
  rw [wld_set (S := S) (S' := sR S a 0 (some v)) rfl ((hcell_o (S := sR S a 0 (some v)) 3 h.2 (by decide)).trans (congrArg (fun l => (Sum.inr (3 + 1, l) : va_E)) (fvs_set (S := S) (S' := sR S a 0 (some v)) (ad := ad) (a := a) (v := .ref (ad v)) (fty 3) 0 0 (fun i h0 => rfl) (fun i h0 => rfl) (fun i h0 => up2_ne _ _ (Or.inr (by omega))) (congrArg (fun z : Option Nat => some (va_rf (z.map ad))) (up2_same (hr S) a 0 (some v)))).symm)) (fun b hb => hcell_sR hb)] at hP hD
  exact k hO H1 locs1 ls ⟨hP, hD, hS⟩ hl
theorem l_f3_1 : Cond.fieldLink RX3 13 "AreaCrossings$Rules" "gearOf" "[I" ∈ tbG := tbG_in (w := .fieldLink RX3 13 "AreaCrossings$Rules" "gearOf" "[I") (by decide +kernel) rfl
theorem x_g3_1 {a : Nat} (hM : M.1.cls = RX3) (hd : decode M.2.1 pc = .ok (.getfield 13, 3)) (h : is S 3 a) (k : X E M n1 n2 ad S (pc + 3) lv (aR (hr S a 1) :: st)) : X E M n1 n2 ad S pc lv (aA a :: st) := fun hO H locs ls hW hl => va_get (v := va_rf ((hr S a 1).map ad)) hO.1 hO.2.1 hO.2.2.2.2.1 inG3 (by rw [← hM]; exact hO.2.2.2.1) hO.2.2.2.2.2.1 hW.1 a (wd_at hW h.1 (hcell_o 3 h.2 (by decide))) rfl 1 (by decide) (hO.2.2.2.2.1 _ l_f3_1) (fun _ h9 => h9) rfl hd (by rw [← vl_ref]; exact k hO H locs ls hW hl)
theorem x_p3_1 {a : Nat} {v : Nat} (hM : M.1.cls = RX3) (hN : M.1.name = "<init>") (hd : decode M.2.1 pc = .ok (.putfield 13, 3)) (h : is S 3 a)  (k : X E M n1 n2 ad (sR S a 1 (some v)) (pc + 3) lv st) : X E M n1 n2 ad S pc lv (aA v :: aA a :: st) := by
  intro hO H locs ls hW hl
  refine va_putF (v := .ref (ad v)) hO.1 hO.2.1 hO.2.2.2.2.1 inG3 tyX3 tyX3_ok nmX3 (by rw [← hM]; exact hO.2.2.2.1) hO.2.2.2.2.2.1 hW.1 hW.2.1 hW.2.2 a (wd_at hW h.1 (hcell_o 3 h.2 (by decide))) rfl 1 (by decide) (hO.2.2.2.2.1 _ l_f3_1) (fun _ h9 => h9) rfl (hO.2.2.2.2.2.2.2.1.trans hN) rfl (tyX3_ok 1 (by decide)) rfl rfl (by simp [fvs, fty]) hd (fun H1 locs1 hP hD hS => ?_)
  rw [wld_set (S := S) (S' := sR S a 1 (some v)) rfl ((hcell_o (S := sR S a 1 (some v)) 3 h.2 (by decide)).trans (congrArg (fun l => (Sum.inr (3 + 1, l) : va_E)) (fvs_set (S := S) (S' := sR S a 1 (some v)) (ad := ad) (a := a) (v := .ref (ad v)) (fty 3) 0 1 (fun i h0 => rfl) (fun i h0 => rfl) (fun i h0 => up2_ne _ _ (Or.inr (by omega))) (congrArg (fun z : Option Nat => some (va_rf (z.map ad))) (up2_same (hr S) a 1 (some v)))).symm)) (fun b hb => hcell_sR hb)] at hP hD
  exact k hO H1 locs1 ls ⟨hP, hD, hS⟩ hl
theorem l_f3_2 : Cond.fieldLink RX3 16 "AreaCrossings$Rules" "firstDayOf" "[I" ∈ tbG := tbG_in (w := .fieldLink RX3 16 "AreaCrossings$Rules" "firstDayOf" "[I") (by decide +kernel) rfl
theorem x_g3_2 {a : Nat} (hM : M.1.cls = RX3) (hd : decode M.2.1 pc = .ok (.getfield 16, 3)) (h : is S 3 a) (k : X E M n1 n2 ad S (pc + 3) lv (aR (hr S a 2) :: st)) : X E M n1 n2 ad S pc lv (aA a :: st) := fun hO H locs ls hW hl => va_get (v := va_rf ((hr S a 2).map ad)) hO.1 hO.2.1 hO.2.2.2.2.1 inG3 (by rw [← hM]; exact hO.2.2.2.1) hO.2.2.2.2.2.1 hW.1 a (wd_at hW h.1 (hcell_o 3 h.2 (by decide))) rfl 2 (by decide) (hO.2.2.2.2.1 _ l_f3_2) (fun _ h9 => h9) rfl hd (by rw [← vl_ref]; exact k hO H locs ls hW hl)
theorem x_p3_2 {a : Nat} {v : Nat} (hM : M.1.cls = RX3) (hN : M.1.name = "<init>") (hd : decode M.2.1 pc = .ok (.putfield 16, 3)) (h : is S 3 a)  (k : X E M n1 n2 ad (sR S a 2 (some v)) (pc + 3) lv st) : X E M n1 n2 ad S pc lv (aA v :: aA a :: st) := by
  intro hO H locs ls hW hl
  refine va_putF (v := .ref (ad v)) hO.1 hO.2.1 hO.2.2.2.2.1 inG3 tyX3 tyX3_ok nmX3 (by rw [← hM]; exact hO.2.2.2.1) hO.2.2.2.2.2.1 hW.1 hW.2.1 hW.2.2 a (wd_at hW h.1 (hcell_o 3 h.2 (by decide))) rfl 2 (by decide) (hO.2.2.2.2.1 _ l_f3_2) (fun _ h9 => h9) rfl (hO.2.2.2.2.2.2.2.1.trans hN) rfl (tyX3_ok 2 (by decide)) rfl rfl (by simp [fvs, fty]) hd (fun H1 locs1 hP hD hS => ?_)
  rw [wld_set (S := S) (S' := sR S a 2 (some v)) rfl ((hcell_o (S := sR S a 2 (some v)) 3 h.2 (by decide)).trans (congrArg (fun l => (Sum.inr (3 + 1, l) : va_E)) (fvs_set (S := S) (S' := sR S a 2 (some v)) (ad := ad) (a := a) (v := .ref (ad v)) (fty 3) 0 2 (fun i h0 => rfl) (fun i h0 => rfl) (fun i h0 => up2_ne _ _ (Or.inr (by omega))) (congrArg (fun z : Option Nat => some (va_rf (z.map ad))) (up2_same (hr S) a 2 (some v)))).symm)) (fun b hb => hcell_sR hb)] at hP hD
  exact k hO H1 locs1 ls ⟨hP, hD, hS⟩ hl
theorem l_f3_3 : Cond.fieldLink RX3 19 "AreaCrossings$Rules" "lastDayOf" "[I" ∈ tbG := tbG_in (w := .fieldLink RX3 19 "AreaCrossings$Rules" "lastDayOf" "[I") (by decide +kernel) rfl
theorem x_g3_3 {a : Nat} (hM : M.1.cls = RX3) (hd : decode M.2.1 pc = .ok (.getfield 19, 3)) (h : is S 3 a) (k : X E M n1 n2 ad S (pc + 3) lv (aR (hr S a 3) :: st)) : X E M n1 n2 ad S pc lv (aA a :: st) := fun hO H locs ls hW hl => va_get (v := va_rf ((hr S a 3).map ad)) hO.1 hO.2.1 hO.2.2.2.2.1 inG3 (by rw [← hM]; exact hO.2.2.2.1) hO.2.2.2.2.2.1 hW.1 a (wd_at hW h.1 (hcell_o 3 h.2 (by decide))) rfl 3 (by decide) (hO.2.2.2.2.1 _ l_f3_3) (fun _ h9 => h9) rfl hd (by rw [← vl_ref]; exact k hO H locs ls hW hl)
theorem x_p3_3 {a : Nat} {v : Nat} (hM : M.1.cls = RX3) (hN : M.1.name = "<init>") (hd : decode M.2.1 pc = .ok (.putfield 19, 3)) (h : is S 3 a)  (k : X E M n1 n2 ad (sR S a 3 (some v)) (pc + 3) lv st) : X E M n1 n2 ad S pc lv (aA v :: aA a :: st) := by
  intro hO H locs ls hW hl
  refine va_putF (v := .ref (ad v)) hO.1 hO.2.1 hO.2.2.2.2.1 inG3 tyX3 tyX3_ok nmX3 (by rw [← hM]; exact hO.2.2.2.1) hO.2.2.2.2.2.1 hW.1 hW.2.1 hW.2.2 a (wd_at hW h.1 (hcell_o 3 h.2 (by decide))) rfl 3 (by decide) (hO.2.2.2.2.1 _ l_f3_3) (fun _ h9 => h9) rfl (hO.2.2.2.2.2.2.2.1.trans hN) rfl (tyX3_ok 3 (by decide)) rfl rfl (by simp [fvs, fty]) hd (fun H1 locs1 hP hD hS => ?_)
  rw [wld_set (S := S) (S' := sR S a 3 (some v)) rfl ((hcell_o (S := sR S a 3 (some v)) 3 h.2 (by decide)).trans (congrArg (fun l => (Sum.inr (3 + 1, l) : va_E)) (fvs_set (S := S) (S' := sR S a 3 (some v)) (ad := ad) (a := a) (v := .ref (ad v)) (fty 3) 0 3 (fun i h0 => rfl) (fun i h0 => rfl) (fun i h0 => up2_ne _ _ (Or.inr (by omega))) (congrArg (fun z : Option Nat => some (va_rf (z.map ad))) (up2_same (hr S) a 3 (some v)))).symm)) (fun b hb => hcell_sR hb)] at hP hD
  exact k hO H1 locs1 ls ⟨hP, hD, hS⟩ hl
theorem l_f3_4 : Cond.fieldLink RX3 22 "AreaCrossings$Rules" "size" "I" ∈ tbG := tbG_in (w := .fieldLink RX3 22 "AreaCrossings$Rules" "size" "I") (by decide +kernel) rfl
theorem x_g3_4 {a : Nat} (hM : M.1.cls = RX3) (hd : decode M.2.1 pc = .ok (.getfield 22, 3)) (h : is S 3 a) (k : X E M n1 n2 ad S (pc + 3) lv (aI (hi S a 4) :: st)) : X E M n1 n2 ad S pc lv (aA a :: st) := fun hO H locs ls hW hl => va_get (v := .int (hi S a 4)) hO.1 hO.2.1 hO.2.2.2.2.1 inG3 (by rw [← hM]; exact hO.2.2.2.1) hO.2.2.2.2.2.1 hW.1 a (wd_at hW h.1 (hcell_o 3 h.2 (by decide))) rfl 4 (by decide) (hO.2.2.2.2.1 _ l_f3_4) (fun _ h9 => h9) rfl hd (k hO H locs ls hW hl)
theorem x_p3_4 {a : Nat} {v : Int32} (hM : M.1.cls = RX3)  (hd : decode M.2.1 pc = .ok (.putfield 22, 3)) (h : is S 3 a)  (k : X E M n1 n2 ad (sI S a 4 v) (pc + 3) lv st) : X E M n1 n2 ad S pc lv (aI v :: aA a :: st) := by
  intro hO H locs ls hW hl
  refine va_put (v := .int v) hO.1 hO.2.1 hO.2.2.2.2.1 inG3 tyX3 tyX3_ok nmX3 (by rw [← hM]; exact hO.2.2.2.1) hO.2.2.2.2.2.1 hW.1 hW.2.1 hW.2.2 a (wd_at hW h.1 (hcell_o 3 h.2 (by decide))) rfl 4 (by decide) (hO.2.2.2.2.1 _ l_f3_4) (fun _ h9 => h9) rfl (tyX3_ok 4 (by decide)) rfl rfl (by simp [fvs, fty]) hd (fun H1 locs1 hP hD hS => ?_)
  rw [wld_set (S := S) (S' := sI S a 4 v) rfl ((hcell_o (S := sI S a 4 v) 3 h.2 (by decide)).trans (congrArg (fun l => (Sum.inr (3 + 1, l) : va_E)) (fvs_set (S := S) (S' := sI S a 4 v) (ad := ad) (a := a) (v := .int v) (fty 3) 0 4 (fun i h0 => up2_ne _ _ (Or.inr (by omega))) (fun i h0 => rfl) (fun i h0 => rfl) (congrArg (fun z => some (Value.int z)) (up2_same (hi S) a 4 v))).symm)) (fun b hb => hcell_sI hb)] at hP hD
  exact k hO H1 locs1 ls ⟨hP, hD, hS⟩ hl
theorem l_f4_0 : Cond.fieldLink RX4 13 "AreaCrossings$Stretches" "overs" "[J" ∈ tbG := tbG_in (w := .fieldLink RX4 13 "AreaCrossings$Stretches" "overs" "[J") (by decide +kernel) rfl
theorem x_g4_0 {a : Nat} (hM : M.1.cls = RX4) (hd : decode M.2.1 pc = .ok (.getfield 13, 3)) (h : is S 4 a) (k : X E M n1 n2 ad S (pc + 3) lv (aR (hr S a 0) :: st)) : X E M n1 n2 ad S pc lv (aA a :: st) := fun hO H locs ls hW hl => va_get (v := va_rf ((hr S a 0).map ad)) hO.1 hO.2.1 hO.2.2.2.2.1 inG4 (by rw [← hM]; exact hO.2.2.2.1) hO.2.2.2.2.2.1 hW.1 a (wd_at hW h.1 (hcell_o 4 h.2 (by decide))) rfl 0 (by decide) (hO.2.2.2.2.1 _ l_f4_0) (fun _ h9 => h9) rfl hd (by rw [← vl_ref]; exact k hO H locs ls hW hl)
theorem x_p4_0 {a : Nat} {v : Nat} (hM : M.1.cls = RX4) (hN : M.1.name = "<init>") (hd : decode M.2.1 pc = .ok (.putfield 13, 3)) (h : is S 4 a)  (k : X E M n1 n2 ad (sR S a 0 (some v)) (pc + 3) lv st) : X E M n1 n2 ad S pc lv (aA v :: aA a :: st) := by
  intro hO H locs ls hW hl
  refine va_putF (v := .ref (ad v)) hO.1 hO.2.1 hO.2.2.2.2.1 inG4 tyX4 tyX4_ok nmX4 (by rw [← hM]; exact hO.2.2.2.1) hO.2.2.2.2.2.1 hW.1 hW.2.1 hW.2.2 a (wd_at hW h.1 (hcell_o 4 h.2 (by decide))) rfl 0 (by decide) (hO.2.2.2.2.1 _ l_f4_0) (fun _ h9 => h9) rfl (hO.2.2.2.2.2.2.2.1.trans hN) rfl (tyX4_ok 0 (by decide)) rfl rfl (by simp [fvs, fty]) hd (fun H1 locs1 hP hD hS => ?_)
  rw [wld_set (S := S) (S' := sR S a 0 (some v)) rfl ((hcell_o (S := sR S a 0 (some v)) 4 h.2 (by decide)).trans (congrArg (fun l => (Sum.inr (4 + 1, l) : va_E)) (fvs_set (S := S) (S' := sR S a 0 (some v)) (ad := ad) (a := a) (v := .ref (ad v)) (fty 4) 0 0 (fun i h0 => rfl) (fun i h0 => rfl) (fun i h0 => up2_ne _ _ (Or.inr (by omega))) (congrArg (fun z : Option Nat => some (va_rf (z.map ad))) (up2_same (hr S) a 0 (some v)))).symm)) (fun b hb => hcell_sR hb)] at hP hD
  exact k hO H1 locs1 ls ⟨hP, hD, hS⟩ hl
theorem l_f4_1 : Cond.fieldLink RX4 17 "AreaCrossings$Stretches" "unders" "[J" ∈ tbG := tbG_in (w := .fieldLink RX4 17 "AreaCrossings$Stretches" "unders" "[J") (by decide +kernel) rfl
theorem x_g4_1 {a : Nat} (hM : M.1.cls = RX4) (hd : decode M.2.1 pc = .ok (.getfield 17, 3)) (h : is S 4 a) (k : X E M n1 n2 ad S (pc + 3) lv (aR (hr S a 1) :: st)) : X E M n1 n2 ad S pc lv (aA a :: st) := fun hO H locs ls hW hl => va_get (v := va_rf ((hr S a 1).map ad)) hO.1 hO.2.1 hO.2.2.2.2.1 inG4 (by rw [← hM]; exact hO.2.2.2.1) hO.2.2.2.2.2.1 hW.1 a (wd_at hW h.1 (hcell_o 4 h.2 (by decide))) rfl 1 (by decide) (hO.2.2.2.2.1 _ l_f4_1) (fun _ h9 => h9) rfl hd (by rw [← vl_ref]; exact k hO H locs ls hW hl)
theorem x_p4_1 {a : Nat} {v : Nat} (hM : M.1.cls = RX4) (hN : M.1.name = "<init>") (hd : decode M.2.1 pc = .ok (.putfield 17, 3)) (h : is S 4 a)  (k : X E M n1 n2 ad (sR S a 1 (some v)) (pc + 3) lv st) : X E M n1 n2 ad S pc lv (aA v :: aA a :: st) := by
  intro hO H locs ls hW hl
  refine va_putF (v := .ref (ad v)) hO.1 hO.2.1 hO.2.2.2.2.1 inG4 tyX4 tyX4_ok nmX4 (by rw [← hM]; exact hO.2.2.2.1) hO.2.2.2.2.2.1 hW.1 hW.2.1 hW.2.2 a (wd_at hW h.1 (hcell_o 4 h.2 (by decide))) rfl 1 (by decide) (hO.2.2.2.2.1 _ l_f4_1) (fun _ h9 => h9) rfl (hO.2.2.2.2.2.2.2.1.trans hN) rfl (tyX4_ok 1 (by decide)) rfl rfl (by simp [fvs, fty]) hd (fun H1 locs1 hP hD hS => ?_)
  rw [wld_set (S := S) (S' := sR S a 1 (some v)) rfl ((hcell_o (S := sR S a 1 (some v)) 4 h.2 (by decide)).trans (congrArg (fun l => (Sum.inr (4 + 1, l) : va_E)) (fvs_set (S := S) (S' := sR S a 1 (some v)) (ad := ad) (a := a) (v := .ref (ad v)) (fty 4) 0 1 (fun i h0 => rfl) (fun i h0 => rfl) (fun i h0 => up2_ne _ _ (Or.inr (by omega))) (congrArg (fun z : Option Nat => some (va_rf (z.map ad))) (up2_same (hr S) a 1 (some v)))).symm)) (fun b hb => hcell_sR hb)] at hP hD
  exact k hO H1 locs1 ls ⟨hP, hD, hS⟩ hl
theorem l_f4_2 : Cond.fieldLink RX4 20 "AreaCrossings$Stretches" "cuts" "I" ∈ tbG := tbG_in (w := .fieldLink RX4 20 "AreaCrossings$Stretches" "cuts" "I") (by decide +kernel) rfl
theorem x_g4_2 {a : Nat} (hM : M.1.cls = RX4) (hd : decode M.2.1 pc = .ok (.getfield 20, 3)) (h : is S 4 a) (k : X E M n1 n2 ad S (pc + 3) lv (aI (hi S a 2) :: st)) : X E M n1 n2 ad S pc lv (aA a :: st) := fun hO H locs ls hW hl => va_get (v := .int (hi S a 2)) hO.1 hO.2.1 hO.2.2.2.2.1 inG4 (by rw [← hM]; exact hO.2.2.2.1) hO.2.2.2.2.2.1 hW.1 a (wd_at hW h.1 (hcell_o 4 h.2 (by decide))) rfl 2 (by decide) (hO.2.2.2.2.1 _ l_f4_2) (fun _ h9 => h9) rfl hd (k hO H locs ls hW hl)
theorem x_p4_2 {a : Nat} {v : Int32} (hM : M.1.cls = RX4)  (hd : decode M.2.1 pc = .ok (.putfield 20, 3)) (h : is S 4 a)  (k : X E M n1 n2 ad (sI S a 2 v) (pc + 3) lv st) : X E M n1 n2 ad S pc lv (aI v :: aA a :: st) := by
  intro hO H locs ls hW hl
  refine va_put (v := .int v) hO.1 hO.2.1 hO.2.2.2.2.1 inG4 tyX4 tyX4_ok nmX4 (by rw [← hM]; exact hO.2.2.2.1) hO.2.2.2.2.2.1 hW.1 hW.2.1 hW.2.2 a (wd_at hW h.1 (hcell_o 4 h.2 (by decide))) rfl 2 (by decide) (hO.2.2.2.2.1 _ l_f4_2) (fun _ h9 => h9) rfl (tyX4_ok 2 (by decide)) rfl rfl (by simp [fvs, fty]) hd (fun H1 locs1 hP hD hS => ?_)
  rw [wld_set (S := S) (S' := sI S a 2 v) rfl ((hcell_o (S := sI S a 2 v) 4 h.2 (by decide)).trans (congrArg (fun l => (Sum.inr (4 + 1, l) : va_E)) (fvs_set (S := S) (S' := sI S a 2 v) (ad := ad) (a := a) (v := .int v) (fty 4) 0 2 (fun i h0 => up2_ne _ _ (Or.inr (by omega))) (fun i h0 => rfl) (fun i h0 => rfl) (congrArg (fun z => some (Value.int z)) (up2_same (hi S) a 2 v))).symm)) (fun b hb => hcell_sI hb)] at hP hD
  exact k hO H1 locs1 ls ⟨hP, hD, hS⟩ hl
theorem l_f4_3 : Cond.fieldLink RX4 24 "AreaCrossings$Stretches" "begins" "[I" ∈ tbG := tbG_in (w := .fieldLink RX4 24 "AreaCrossings$Stretches" "begins" "[I") (by decide +kernel) rfl
theorem x_g4_3 {a : Nat} (hM : M.1.cls = RX4) (hd : decode M.2.1 pc = .ok (.getfield 24, 3)) (h : is S 4 a) (k : X E M n1 n2 ad S (pc + 3) lv (aR (hr S a 3) :: st)) : X E M n1 n2 ad S pc lv (aA a :: st) := fun hO H locs ls hW hl => va_get (v := va_rf ((hr S a 3).map ad)) hO.1 hO.2.1 hO.2.2.2.2.1 inG4 (by rw [← hM]; exact hO.2.2.2.1) hO.2.2.2.2.2.1 hW.1 a (wd_at hW h.1 (hcell_o 4 h.2 (by decide))) rfl 3 (by decide) (hO.2.2.2.2.1 _ l_f4_3) (fun _ h9 => h9) rfl hd (by rw [← vl_ref]; exact k hO H locs ls hW hl)
theorem x_p4_3 {a : Nat} {v : Nat} (hM : M.1.cls = RX4) (hN : M.1.name = "<init>") (hd : decode M.2.1 pc = .ok (.putfield 24, 3)) (h : is S 4 a)  (k : X E M n1 n2 ad (sR S a 3 (some v)) (pc + 3) lv st) : X E M n1 n2 ad S pc lv (aA v :: aA a :: st) := by
  intro hO H locs ls hW hl
  refine va_putF (v := .ref (ad v)) hO.1 hO.2.1 hO.2.2.2.2.1 inG4 tyX4 tyX4_ok nmX4 (by rw [← hM]; exact hO.2.2.2.1) hO.2.2.2.2.2.1 hW.1 hW.2.1 hW.2.2 a (wd_at hW h.1 (hcell_o 4 h.2 (by decide))) rfl 3 (by decide) (hO.2.2.2.2.1 _ l_f4_3) (fun _ h9 => h9) rfl (hO.2.2.2.2.2.2.2.1.trans hN) rfl (tyX4_ok 3 (by decide)) rfl rfl (by simp [fvs, fty]) hd (fun H1 locs1 hP hD hS => ?_)
  rw [wld_set (S := S) (S' := sR S a 3 (some v)) rfl ((hcell_o (S := sR S a 3 (some v)) 4 h.2 (by decide)).trans (congrArg (fun l => (Sum.inr (4 + 1, l) : va_E)) (fvs_set (S := S) (S' := sR S a 3 (some v)) (ad := ad) (a := a) (v := .ref (ad v)) (fty 4) 0 3 (fun i h0 => rfl) (fun i h0 => rfl) (fun i h0 => up2_ne _ _ (Or.inr (by omega))) (congrArg (fun z : Option Nat => some (va_rf (z.map ad))) (up2_same (hr S) a 3 (some v)))).symm)) (fun b hb => hcell_sR hb)] at hP hD
  exact k hO H1 locs1 ls ⟨hP, hD, hS⟩ hl
theorem l_f4_4 : Cond.fieldLink RX4 28 "AreaCrossings$Stretches" "ends" "[I" ∈ tbG := tbG_in (w := .fieldLink RX4 28 "AreaCrossings$Stretches" "ends" "[I") (by decide +kernel) rfl
theorem x_g4_4 {a : Nat} (hM : M.1.cls = RX4) (hd : decode M.2.1 pc = .ok (.getfield 28, 3)) (h : is S 4 a) (k : X E M n1 n2 ad S (pc + 3) lv (aR (hr S a 4) :: st)) : X E M n1 n2 ad S pc lv (aA a :: st) := fun hO H locs ls hW hl => va_get (v := va_rf ((hr S a 4).map ad)) hO.1 hO.2.1 hO.2.2.2.2.1 inG4 (by rw [← hM]; exact hO.2.2.2.1) hO.2.2.2.2.2.1 hW.1 a (wd_at hW h.1 (hcell_o 4 h.2 (by decide))) rfl 4 (by decide) (hO.2.2.2.2.1 _ l_f4_4) (fun _ h9 => h9) rfl hd (by rw [← vl_ref]; exact k hO H locs ls hW hl)
theorem x_p4_4 {a : Nat} {v : Nat} (hM : M.1.cls = RX4) (hN : M.1.name = "<init>") (hd : decode M.2.1 pc = .ok (.putfield 28, 3)) (h : is S 4 a)  (k : X E M n1 n2 ad (sR S a 4 (some v)) (pc + 3) lv st) : X E M n1 n2 ad S pc lv (aA v :: aA a :: st) := by
  intro hO H locs ls hW hl
  refine va_putF (v := .ref (ad v)) hO.1 hO.2.1 hO.2.2.2.2.1 inG4 tyX4 tyX4_ok nmX4 (by rw [← hM]; exact hO.2.2.2.1) hO.2.2.2.2.2.1 hW.1 hW.2.1 hW.2.2 a (wd_at hW h.1 (hcell_o 4 h.2 (by decide))) rfl 4 (by decide) (hO.2.2.2.2.1 _ l_f4_4) (fun _ h9 => h9) rfl (hO.2.2.2.2.2.2.2.1.trans hN) rfl (tyX4_ok 4 (by decide)) rfl rfl (by simp [fvs, fty]) hd (fun H1 locs1 hP hD hS => ?_)
  rw [wld_set (S := S) (S' := sR S a 4 (some v)) rfl ((hcell_o (S := sR S a 4 (some v)) 4 h.2 (by decide)).trans (congrArg (fun l => (Sum.inr (4 + 1, l) : va_E)) (fvs_set (S := S) (S' := sR S a 4 (some v)) (ad := ad) (a := a) (v := .ref (ad v)) (fty 4) 0 4 (fun i h0 => rfl) (fun i h0 => rfl) (fun i h0 => up2_ne _ _ (Or.inr (by omega))) (congrArg (fun z : Option Nat => some (va_rf (z.map ad))) (up2_same (hr S) a 4 (some v)))).symm)) (fun b hb => hcell_sR hb)] at hP hD
  exact k hO H1 locs1 ls ⟨hP, hD, hS⟩ hl
theorem l_f4_5 : Cond.fieldLink RX4 31 "AreaCrossings$Stretches" "size" "I" ∈ tbG := tbG_in (w := .fieldLink RX4 31 "AreaCrossings$Stretches" "size" "I") (by decide +kernel) rfl
theorem x_g4_5 {a : Nat} (hM : M.1.cls = RX4) (hd : decode M.2.1 pc = .ok (.getfield 31, 3)) (h : is S 4 a) (k : X E M n1 n2 ad S (pc + 3) lv (aI (hi S a 5) :: st)) : X E M n1 n2 ad S pc lv (aA a :: st) := fun hO H locs ls hW hl => va_get (v := .int (hi S a 5)) hO.1 hO.2.1 hO.2.2.2.2.1 inG4 (by rw [← hM]; exact hO.2.2.2.1) hO.2.2.2.2.2.1 hW.1 a (wd_at hW h.1 (hcell_o 4 h.2 (by decide))) rfl 5 (by decide) (hO.2.2.2.2.1 _ l_f4_5) (fun _ h9 => h9) rfl hd (k hO H locs ls hW hl)
theorem x_p4_5 {a : Nat} {v : Int32} (hM : M.1.cls = RX4)  (hd : decode M.2.1 pc = .ok (.putfield 31, 3)) (h : is S 4 a)  (k : X E M n1 n2 ad (sI S a 5 v) (pc + 3) lv st) : X E M n1 n2 ad S pc lv (aI v :: aA a :: st) := by
  intro hO H locs ls hW hl
  refine va_put (v := .int v) hO.1 hO.2.1 hO.2.2.2.2.1 inG4 tyX4 tyX4_ok nmX4 (by rw [← hM]; exact hO.2.2.2.1) hO.2.2.2.2.2.1 hW.1 hW.2.1 hW.2.2 a (wd_at hW h.1 (hcell_o 4 h.2 (by decide))) rfl 5 (by decide) (hO.2.2.2.2.1 _ l_f4_5) (fun _ h9 => h9) rfl (tyX4_ok 5 (by decide)) rfl rfl (by simp [fvs, fty]) hd (fun H1 locs1 hP hD hS => ?_)
  rw [wld_set (S := S) (S' := sI S a 5 v) rfl ((hcell_o (S := sI S a 5 v) 4 h.2 (by decide)).trans (congrArg (fun l => (Sum.inr (4 + 1, l) : va_E)) (fvs_set (S := S) (S' := sI S a 5 v) (ad := ad) (a := a) (v := .int v) (fty 4) 0 5 (fun i h0 => up2_ne _ _ (Or.inr (by omega))) (fun i h0 => rfl) (fun i h0 => rfl) (congrArg (fun z => some (Value.int z)) (up2_same (hi S) a 5 v))).symm)) (fun b hb => hcell_sI hb)] at hP hD
  exact k hO H1 locs1 ls ⟨hP, hD, hS⟩ hl
theorem l_f4_6 : Cond.fieldLink RX4 34 "AreaCrossings$Stretches" "fromX" "J" ∈ tbG := tbG_in (w := .fieldLink RX4 34 "AreaCrossings$Stretches" "fromX" "J") (by decide +kernel) rfl
theorem x_g4_6 {a : Nat} (hM : M.1.cls = RX4) (hd : decode M.2.1 pc = .ok (.getfield 34, 3)) (h : is S 4 a) (k : X E M n1 n2 ad S (pc + 3) lv (aJ (hj S a 6) :: st)) : X E M n1 n2 ad S pc lv (aA a :: st) := fun hO H locs ls hW hl => va_get (v := .long (hj S a 6)) hO.1 hO.2.1 hO.2.2.2.2.1 inG4 (by rw [← hM]; exact hO.2.2.2.1) hO.2.2.2.2.2.1 hW.1 a (wd_at hW h.1 (hcell_o 4 h.2 (by decide))) rfl 6 (by decide) (hO.2.2.2.2.1 _ l_f4_6) (fun _ h9 => h9) rfl hd (k hO H locs ls hW hl)
theorem x_p4_6 {a : Nat} {v : Int64} (hM : M.1.cls = RX4)  (hd : decode M.2.1 pc = .ok (.putfield 34, 3)) (h : is S 4 a)  (k : X E M n1 n2 ad (sJ S a 6 v) (pc + 3) lv st) : X E M n1 n2 ad S pc lv (aJ v :: aA a :: st) := by
  intro hO H locs ls hW hl
  refine va_put (v := .long v) hO.1 hO.2.1 hO.2.2.2.2.1 inG4 tyX4 tyX4_ok nmX4 (by rw [← hM]; exact hO.2.2.2.1) hO.2.2.2.2.2.1 hW.1 hW.2.1 hW.2.2 a (wd_at hW h.1 (hcell_o 4 h.2 (by decide))) rfl 6 (by decide) (hO.2.2.2.2.1 _ l_f4_6) (fun _ h9 => h9) rfl (tyX4_ok 6 (by decide)) rfl rfl (by simp [fvs, fty]) hd (fun H1 locs1 hP hD hS => ?_)
  rw [wld_set (S := S) (S' := sJ S a 6 v) rfl ((hcell_o (S := sJ S a 6 v) 4 h.2 (by decide)).trans (congrArg (fun l => (Sum.inr (4 + 1, l) : va_E)) (fvs_set (S := S) (S' := sJ S a 6 v) (ad := ad) (a := a) (v := .long v) (fty 4) 0 6 (fun i h0 => rfl) (fun i h0 => up2_ne _ _ (Or.inr (by omega))) (fun i h0 => rfl) (congrArg (fun z => some (Value.long z)) (up2_same (hj S) a 6 v))).symm)) (fun b hb => hcell_sJ hb)] at hP hD
  exact k hO H1 locs1 ls ⟨hP, hD, hS⟩ hl
theorem l_f4_7 : Cond.fieldLink RX4 38 "AreaCrossings$Stretches" "fromY" "J" ∈ tbG := tbG_in (w := .fieldLink RX4 38 "AreaCrossings$Stretches" "fromY" "J") (by decide +kernel) rfl
theorem x_g4_7 {a : Nat} (hM : M.1.cls = RX4) (hd : decode M.2.1 pc = .ok (.getfield 38, 3)) (h : is S 4 a) (k : X E M n1 n2 ad S (pc + 3) lv (aJ (hj S a 7) :: st)) : X E M n1 n2 ad S pc lv (aA a :: st) := fun hO H locs ls hW hl => va_get (v := .long (hj S a 7)) hO.1 hO.2.1 hO.2.2.2.2.1 inG4 (by rw [← hM]; exact hO.2.2.2.1) hO.2.2.2.2.2.1 hW.1 a (wd_at hW h.1 (hcell_o 4 h.2 (by decide))) rfl 7 (by decide) (hO.2.2.2.2.1 _ l_f4_7) (fun _ h9 => h9) rfl hd (k hO H locs ls hW hl)
theorem x_p4_7 {a : Nat} {v : Int64} (hM : M.1.cls = RX4)  (hd : decode M.2.1 pc = .ok (.putfield 38, 3)) (h : is S 4 a)  (k : X E M n1 n2 ad (sJ S a 7 v) (pc + 3) lv st) : X E M n1 n2 ad S pc lv (aJ v :: aA a :: st) := by
  intro hO H locs ls hW hl
  refine va_put (v := .long v) hO.1 hO.2.1 hO.2.2.2.2.1 inG4 tyX4 tyX4_ok nmX4 (by rw [← hM]; exact hO.2.2.2.1) hO.2.2.2.2.2.1 hW.1 hW.2.1 hW.2.2 a (wd_at hW h.1 (hcell_o 4 h.2 (by decide))) rfl 7 (by decide) (hO.2.2.2.2.1 _ l_f4_7) (fun _ h9 => h9) rfl (tyX4_ok 7 (by decide)) rfl rfl (by simp [fvs, fty]) hd (fun H1 locs1 hP hD hS => ?_)
  rw [wld_set (S := S) (S' := sJ S a 7 v) rfl ((hcell_o (S := sJ S a 7 v) 4 h.2 (by decide)).trans (congrArg (fun l => (Sum.inr (4 + 1, l) : va_E)) (fvs_set (S := S) (S' := sJ S a 7 v) (ad := ad) (a := a) (v := .long v) (fty 4) 0 7 (fun i h0 => rfl) (fun i h0 => up2_ne _ _ (Or.inr (by omega))) (fun i h0 => rfl) (congrArg (fun z => some (Value.long z)) (up2_same (hj S) a 7 v))).symm)) (fun b hb => hcell_sJ hb)] at hP hD
  exact k hO H1 locs1 ls ⟨hP, hD, hS⟩ hl
theorem l_f4_8 : Cond.fieldLink RX4 41 "AreaCrossings$Stretches" "alongX" "J" ∈ tbG := tbG_in (w := .fieldLink RX4 41 "AreaCrossings$Stretches" "alongX" "J") (by decide +kernel) rfl
theorem x_g4_8 {a : Nat} (hM : M.1.cls = RX4) (hd : decode M.2.1 pc = .ok (.getfield 41, 3)) (h : is S 4 a) (k : X E M n1 n2 ad S (pc + 3) lv (aJ (hj S a 8) :: st)) : X E M n1 n2 ad S pc lv (aA a :: st) := fun hO H locs ls hW hl => va_get (v := .long (hj S a 8)) hO.1 hO.2.1 hO.2.2.2.2.1 inG4 (by rw [← hM]; exact hO.2.2.2.1) hO.2.2.2.2.2.1 hW.1 a (wd_at hW h.1 (hcell_o 4 h.2 (by decide))) rfl 8 (by decide) (hO.2.2.2.2.1 _ l_f4_8) (fun _ h9 => h9) rfl hd (k hO H locs ls hW hl)
theorem x_p4_8 {a : Nat} {v : Int64} (hM : M.1.cls = RX4)  (hd : decode M.2.1 pc = .ok (.putfield 41, 3)) (h : is S 4 a)  (k : X E M n1 n2 ad (sJ S a 8 v) (pc + 3) lv st) : X E M n1 n2 ad S pc lv (aJ v :: aA a :: st) := by
  intro hO H locs ls hW hl
  refine va_put (v := .long v) hO.1 hO.2.1 hO.2.2.2.2.1 inG4 tyX4 tyX4_ok nmX4 (by rw [← hM]; exact hO.2.2.2.1) hO.2.2.2.2.2.1 hW.1 hW.2.1 hW.2.2 a (wd_at hW h.1 (hcell_o 4 h.2 (by decide))) rfl 8 (by decide) (hO.2.2.2.2.1 _ l_f4_8) (fun _ h9 => h9) rfl (tyX4_ok 8 (by decide)) rfl rfl (by simp [fvs, fty]) hd (fun H1 locs1 hP hD hS => ?_)
  rw [wld_set (S := S) (S' := sJ S a 8 v) rfl ((hcell_o (S := sJ S a 8 v) 4 h.2 (by decide)).trans (congrArg (fun l => (Sum.inr (4 + 1, l) : va_E)) (fvs_set (S := S) (S' := sJ S a 8 v) (ad := ad) (a := a) (v := .long v) (fty 4) 0 8 (fun i h0 => rfl) (fun i h0 => up2_ne _ _ (Or.inr (by omega))) (fun i h0 => rfl) (congrArg (fun z => some (Value.long z)) (up2_same (hj S) a 8 v))).symm)) (fun b hb => hcell_sJ hb)] at hP hD
  exact k hO H1 locs1 ls ⟨hP, hD, hS⟩ hl
theorem l_f4_9 : Cond.fieldLink RX4 44 "AreaCrossings$Stretches" "alongY" "J" ∈ tbG := tbG_in (w := .fieldLink RX4 44 "AreaCrossings$Stretches" "alongY" "J") (by decide +kernel) rfl
theorem x_g4_9 {a : Nat} (hM : M.1.cls = RX4) (hd : decode M.2.1 pc = .ok (.getfield 44, 3)) (h : is S 4 a) (k : X E M n1 n2 ad S (pc + 3) lv (aJ (hj S a 9) :: st)) : X E M n1 n2 ad S pc lv (aA a :: st) := fun hO H locs ls hW hl => va_get (v := .long (hj S a 9)) hO.1 hO.2.1 hO.2.2.2.2.1 inG4 (by rw [← hM]; exact hO.2.2.2.1) hO.2.2.2.2.2.1 hW.1 a (wd_at hW h.1 (hcell_o 4 h.2 (by decide))) rfl 9 (by decide) (hO.2.2.2.2.1 _ l_f4_9) (fun _ h9 => h9) rfl hd (k hO H locs ls hW hl)
theorem x_p4_9 {a : Nat} {v : Int64} (hM : M.1.cls = RX4)  (hd : decode M.2.1 pc = .ok (.putfield 44, 3)) (h : is S 4 a)  (k : X E M n1 n2 ad (sJ S a 9 v) (pc + 3) lv st) : X E M n1 n2 ad S pc lv (aJ v :: aA a :: st) := by
  intro hO H locs ls hW hl
  refine va_put (v := .long v) hO.1 hO.2.1 hO.2.2.2.2.1 inG4 tyX4 tyX4_ok nmX4 (by rw [← hM]; exact hO.2.2.2.1) hO.2.2.2.2.2.1 hW.1 hW.2.1 hW.2.2 a (wd_at hW h.1 (hcell_o 4 h.2 (by decide))) rfl 9 (by decide) (hO.2.2.2.2.1 _ l_f4_9) (fun _ h9 => h9) rfl (tyX4_ok 9 (by decide)) rfl rfl (by simp [fvs, fty]) hd (fun H1 locs1 hP hD hS => ?_)
  rw [wld_set (S := S) (S' := sJ S a 9 v) rfl ((hcell_o (S := sJ S a 9 v) 4 h.2 (by decide)).trans (congrArg (fun l => (Sum.inr (4 + 1, l) : va_E)) (fvs_set (S := S) (S' := sJ S a 9 v) (ad := ad) (a := a) (v := .long v) (fty 4) 0 9 (fun i h0 => rfl) (fun i h0 => up2_ne _ _ (Or.inr (by omega))) (fun i h0 => rfl) (congrArg (fun z => some (Value.long z)) (up2_same (hj S) a 9 v))).symm)) (fun b hb => hcell_sJ hb)] at hP hD
  exact k hO H1 locs1 ls ⟨hP, hD, hS⟩ hl
theorem l_f5_0 : Cond.fieldLink RX5 9 "AreaCrossings$Track" "seconds" "[J" ∈ tbG := tbG_in (w := .fieldLink RX5 9 "AreaCrossings$Track" "seconds" "[J") (by decide +kernel) rfl
theorem x_g5_0 {a : Nat} (hM : M.1.cls = RX5) (hd : decode M.2.1 pc = .ok (.getfield 9, 3)) (h : is S 5 a) (k : X E M n1 n2 ad S (pc + 3) lv (aR (hr S a 0) :: st)) : X E M n1 n2 ad S pc lv (aA a :: st) := fun hO H locs ls hW hl => va_get (v := va_rf ((hr S a 0).map ad)) hO.1 hO.2.1 hO.2.2.2.2.1 inG5 (by rw [← hM]; exact hO.2.2.2.1) hO.2.2.2.2.2.1 hW.1 a (wd_at hW h.1 (hcell_o 5 h.2 (by decide))) rfl 0 (by decide) (hO.2.2.2.2.1 _ l_f5_0) (fun _ h9 => h9) rfl hd (by rw [← vl_ref]; exact k hO H locs ls hW hl)
theorem x_p5_0 {a : Nat} {v : Nat} (hM : M.1.cls = RX5) (hN : M.1.name = "<init>") (hd : decode M.2.1 pc = .ok (.putfield 9, 3)) (h : is S 5 a)  (k : X E M n1 n2 ad (sR S a 0 (some v)) (pc + 3) lv st) : X E M n1 n2 ad S pc lv (aA v :: aA a :: st) := by
  intro hO H locs ls hW hl
  refine va_putF (v := .ref (ad v)) hO.1 hO.2.1 hO.2.2.2.2.1 inG5 tyX5 tyX5_ok nmX5 (by rw [← hM]; exact hO.2.2.2.1) hO.2.2.2.2.2.1 hW.1 hW.2.1 hW.2.2 a (wd_at hW h.1 (hcell_o 5 h.2 (by decide))) rfl 0 (by decide) (hO.2.2.2.2.1 _ l_f5_0) (fun _ h9 => h9) rfl (hO.2.2.2.2.2.2.2.1.trans hN) rfl (tyX5_ok 0 (by decide)) rfl rfl (by simp [fvs, fty]) hd (fun H1 locs1 hP hD hS => ?_)
  rw [wld_set (S := S) (S' := sR S a 0 (some v)) rfl ((hcell_o (S := sR S a 0 (some v)) 5 h.2 (by decide)).trans (congrArg (fun l => (Sum.inr (5 + 1, l) : va_E)) (fvs_set (S := S) (S' := sR S a 0 (some v)) (ad := ad) (a := a) (v := .ref (ad v)) (fty 5) 0 0 (fun i h0 => rfl) (fun i h0 => rfl) (fun i h0 => up2_ne _ _ (Or.inr (by omega))) (congrArg (fun z : Option Nat => some (va_rf (z.map ad))) (up2_same (hr S) a 0 (some v)))).symm)) (fun b hb => hcell_sR hb)] at hP hD
  exact k hO H1 locs1 ls ⟨hP, hD, hS⟩ hl
theorem l_f5_1 : Cond.fieldLink RX5 13 "AreaCrossings$Track" "xs" "[I" ∈ tbG := tbG_in (w := .fieldLink RX5 13 "AreaCrossings$Track" "xs" "[I") (by decide +kernel) rfl
theorem x_g5_1 {a : Nat} (hM : M.1.cls = RX5) (hd : decode M.2.1 pc = .ok (.getfield 13, 3)) (h : is S 5 a) (k : X E M n1 n2 ad S (pc + 3) lv (aR (hr S a 1) :: st)) : X E M n1 n2 ad S pc lv (aA a :: st) := fun hO H locs ls hW hl => va_get (v := va_rf ((hr S a 1).map ad)) hO.1 hO.2.1 hO.2.2.2.2.1 inG5 (by rw [← hM]; exact hO.2.2.2.1) hO.2.2.2.2.2.1 hW.1 a (wd_at hW h.1 (hcell_o 5 h.2 (by decide))) rfl 1 (by decide) (hO.2.2.2.2.1 _ l_f5_1) (fun _ h9 => h9) rfl hd (by rw [← vl_ref]; exact k hO H locs ls hW hl)
theorem x_p5_1 {a : Nat} {v : Nat} (hM : M.1.cls = RX5) (hN : M.1.name = "<init>") (hd : decode M.2.1 pc = .ok (.putfield 13, 3)) (h : is S 5 a)  (k : X E M n1 n2 ad (sR S a 1 (some v)) (pc + 3) lv st) : X E M n1 n2 ad S pc lv (aA v :: aA a :: st) := by
  intro hO H locs ls hW hl
  refine va_putF (v := .ref (ad v)) hO.1 hO.2.1 hO.2.2.2.2.1 inG5 tyX5 tyX5_ok nmX5 (by rw [← hM]; exact hO.2.2.2.1) hO.2.2.2.2.2.1 hW.1 hW.2.1 hW.2.2 a (wd_at hW h.1 (hcell_o 5 h.2 (by decide))) rfl 1 (by decide) (hO.2.2.2.2.1 _ l_f5_1) (fun _ h9 => h9) rfl (hO.2.2.2.2.2.2.2.1.trans hN) rfl (tyX5_ok 1 (by decide)) rfl rfl (by simp [fvs, fty]) hd (fun H1 locs1 hP hD hS => ?_)
  rw [wld_set (S := S) (S' := sR S a 1 (some v)) rfl ((hcell_o (S := sR S a 1 (some v)) 5 h.2 (by decide)).trans (congrArg (fun l => (Sum.inr (5 + 1, l) : va_E)) (fvs_set (S := S) (S' := sR S a 1 (some v)) (ad := ad) (a := a) (v := .ref (ad v)) (fty 5) 0 1 (fun i h0 => rfl) (fun i h0 => rfl) (fun i h0 => up2_ne _ _ (Or.inr (by omega))) (congrArg (fun z : Option Nat => some (va_rf (z.map ad))) (up2_same (hr S) a 1 (some v)))).symm)) (fun b hb => hcell_sR hb)] at hP hD
  exact k hO H1 locs1 ls ⟨hP, hD, hS⟩ hl
theorem l_f5_2 : Cond.fieldLink RX5 17 "AreaCrossings$Track" "ys" "[I" ∈ tbG := tbG_in (w := .fieldLink RX5 17 "AreaCrossings$Track" "ys" "[I") (by decide +kernel) rfl
theorem x_g5_2 {a : Nat} (hM : M.1.cls = RX5) (hd : decode M.2.1 pc = .ok (.getfield 17, 3)) (h : is S 5 a) (k : X E M n1 n2 ad S (pc + 3) lv (aR (hr S a 2) :: st)) : X E M n1 n2 ad S pc lv (aA a :: st) := fun hO H locs ls hW hl => va_get (v := va_rf ((hr S a 2).map ad)) hO.1 hO.2.1 hO.2.2.2.2.1 inG5 (by rw [← hM]; exact hO.2.2.2.1) hO.2.2.2.2.2.1 hW.1 a (wd_at hW h.1 (hcell_o 5 h.2 (by decide))) rfl 2 (by decide) (hO.2.2.2.2.1 _ l_f5_2) (fun _ h9 => h9) rfl hd (by rw [← vl_ref]; exact k hO H locs ls hW hl)
theorem x_p5_2 {a : Nat} {v : Nat} (hM : M.1.cls = RX5) (hN : M.1.name = "<init>") (hd : decode M.2.1 pc = .ok (.putfield 17, 3)) (h : is S 5 a)  (k : X E M n1 n2 ad (sR S a 2 (some v)) (pc + 3) lv st) : X E M n1 n2 ad S pc lv (aA v :: aA a :: st) := by
  intro hO H locs ls hW hl
  refine va_putF (v := .ref (ad v)) hO.1 hO.2.1 hO.2.2.2.2.1 inG5 tyX5 tyX5_ok nmX5 (by rw [← hM]; exact hO.2.2.2.1) hO.2.2.2.2.2.1 hW.1 hW.2.1 hW.2.2 a (wd_at hW h.1 (hcell_o 5 h.2 (by decide))) rfl 2 (by decide) (hO.2.2.2.2.1 _ l_f5_2) (fun _ h9 => h9) rfl (hO.2.2.2.2.2.2.2.1.trans hN) rfl (tyX5_ok 2 (by decide)) rfl rfl (by simp [fvs, fty]) hd (fun H1 locs1 hP hD hS => ?_)
  rw [wld_set (S := S) (S' := sR S a 2 (some v)) rfl ((hcell_o (S := sR S a 2 (some v)) 5 h.2 (by decide)).trans (congrArg (fun l => (Sum.inr (5 + 1, l) : va_E)) (fvs_set (S := S) (S' := sR S a 2 (some v)) (ad := ad) (a := a) (v := .ref (ad v)) (fty 5) 0 2 (fun i h0 => rfl) (fun i h0 => rfl) (fun i h0 => up2_ne _ _ (Or.inr (by omega))) (congrArg (fun z : Option Nat => some (va_rf (z.map ad))) (up2_same (hr S) a 2 (some v)))).symm)) (fun b hb => hcell_sR hb)] at hP hD
  exact k hO H1 locs1 ls ⟨hP, hD, hS⟩ hl
theorem l_f5_3 : Cond.fieldLink RX5 20 "AreaCrossings$Track" "size" "I" ∈ tbG := tbG_in (w := .fieldLink RX5 20 "AreaCrossings$Track" "size" "I") (by decide +kernel) rfl
theorem x_g5_3 {a : Nat} (hM : M.1.cls = RX5) (hd : decode M.2.1 pc = .ok (.getfield 20, 3)) (h : is S 5 a) (k : X E M n1 n2 ad S (pc + 3) lv (aI (hi S a 3) :: st)) : X E M n1 n2 ad S pc lv (aA a :: st) := fun hO H locs ls hW hl => va_get (v := .int (hi S a 3)) hO.1 hO.2.1 hO.2.2.2.2.1 inG5 (by rw [← hM]; exact hO.2.2.2.1) hO.2.2.2.2.2.1 hW.1 a (wd_at hW h.1 (hcell_o 5 h.2 (by decide))) rfl 3 (by decide) (hO.2.2.2.2.1 _ l_f5_3) (fun _ h9 => h9) rfl hd (k hO H locs ls hW hl)
theorem x_p5_3 {a : Nat} {v : Int32} (hM : M.1.cls = RX5)  (hd : decode M.2.1 pc = .ok (.putfield 20, 3)) (h : is S 5 a)  (k : X E M n1 n2 ad (sI S a 3 v) (pc + 3) lv st) : X E M n1 n2 ad S pc lv (aI v :: aA a :: st) := by
  intro hO H locs ls hW hl
  refine va_put (v := .int v) hO.1 hO.2.1 hO.2.2.2.2.1 inG5 tyX5 tyX5_ok nmX5 (by rw [← hM]; exact hO.2.2.2.1) hO.2.2.2.2.2.1 hW.1 hW.2.1 hW.2.2 a (wd_at hW h.1 (hcell_o 5 h.2 (by decide))) rfl 3 (by decide) (hO.2.2.2.2.1 _ l_f5_3) (fun _ h9 => h9) rfl (tyX5_ok 3 (by decide)) rfl rfl (by simp [fvs, fty]) hd (fun H1 locs1 hP hD hS => ?_)
  rw [wld_set (S := S) (S' := sI S a 3 v) rfl ((hcell_o (S := sI S a 3 v) 5 h.2 (by decide)).trans (congrArg (fun l => (Sum.inr (5 + 1, l) : va_E)) (fvs_set (S := S) (S' := sI S a 3 v) (ad := ad) (a := a) (v := .int v) (fty 5) 0 3 (fun i h0 => up2_ne _ _ (Or.inr (by omega))) (fun i h0 => rfl) (fun i h0 => rfl) (congrArg (fun z => some (Value.int z)) (up2_same (hi S) a 3 v))).symm)) (fun b hb => hcell_sI hb)] at hP hD
  exact k hO H1 locs1 ls ⟨hP, hD, hS⟩ hl
theorem l_f6_0 : Cond.fieldLink RX6 20 "AreaCrossings" "areas" "[LAreaCrossings$Area;" ∈ tbG := tbG_in (w := .fieldLink RX6 20 "AreaCrossings" "areas" "[LAreaCrossings$Area;") (by decide +kernel) rfl
theorem x_g6_0 {a : Nat} (hM : M.1.cls = RX6) (hd : decode M.2.1 pc = .ok (.getfield 20, 3)) (h : is S 6 a) (k : X E M n1 n2 ad S (pc + 3) lv (aR (hr S a 0) :: st)) : X E M n1 n2 ad S pc lv (aA a :: st) := fun hO H locs ls hW hl => va_get (v := va_rf ((hr S a 0).map ad)) hO.1 hO.2.1 hO.2.2.2.2.1 inG6 (by rw [← hM]; exact hO.2.2.2.1) hO.2.2.2.2.2.1 hW.1 a (wd_at hW h.1 (hcell_o 6 h.2 (by decide))) rfl 0 (by decide) (hO.2.2.2.2.1 _ l_f6_0) (fun _ h9 => h9) rfl hd (by rw [← vl_ref]; exact k hO H locs ls hW hl)
theorem x_p6_0 {a : Nat} {v : Nat} (hM : M.1.cls = RX6) (hN : M.1.name = "<init>") (hd : decode M.2.1 pc = .ok (.putfield 20, 3)) (h : is S 6 a)  (k : X E M n1 n2 ad (sR S a 0 (some v)) (pc + 3) lv st) : X E M n1 n2 ad S pc lv (aA v :: aA a :: st) := by
  intro hO H locs ls hW hl
  refine va_putF (v := .ref (ad v)) hO.1 hO.2.1 hO.2.2.2.2.1 inG6 tyX6 tyX6_ok nmX6 (by rw [← hM]; exact hO.2.2.2.1) hO.2.2.2.2.2.1 hW.1 hW.2.1 hW.2.2 a (wd_at hW h.1 (hcell_o 6 h.2 (by decide))) rfl 0 (by decide) (hO.2.2.2.2.1 _ l_f6_0) (fun _ h9 => h9) rfl (hO.2.2.2.2.2.2.2.1.trans hN) rfl (tyX6_ok 0 (by decide)) rfl rfl (by simp [fvs, fty]) hd (fun H1 locs1 hP hD hS => ?_)
  rw [wld_set (S := S) (S' := sR S a 0 (some v)) rfl ((hcell_o (S := sR S a 0 (some v)) 6 h.2 (by decide)).trans (congrArg (fun l => (Sum.inr (6 + 1, l) : va_E)) (fvs_set (S := S) (S' := sR S a 0 (some v)) (ad := ad) (a := a) (v := .ref (ad v)) (fty 6) 0 0 (fun i h0 => rfl) (fun i h0 => rfl) (fun i h0 => up2_ne _ _ (Or.inr (by omega))) (congrArg (fun z : Option Nat => some (va_rf (z.map ad))) (up2_same (hr S) a 0 (some v)))).symm)) (fun b hb => hcell_sR hb)] at hP hD
  exact k hO H1 locs1 ls ⟨hP, hD, hS⟩ hl
theorem l_f6_1 : Cond.fieldLink RX6 28 "AreaCrossings" "rules" "LAreaCrossings$Rules;" ∈ tbG := tbG_in (w := .fieldLink RX6 28 "AreaCrossings" "rules" "LAreaCrossings$Rules;") (by decide +kernel) rfl
theorem x_g6_1 {a : Nat} (hM : M.1.cls = RX6) (hd : decode M.2.1 pc = .ok (.getfield 28, 3)) (h : is S 6 a) (k : X E M n1 n2 ad S (pc + 3) lv (aR (hr S a 1) :: st)) : X E M n1 n2 ad S pc lv (aA a :: st) := fun hO H locs ls hW hl => va_get (v := va_rf ((hr S a 1).map ad)) hO.1 hO.2.1 hO.2.2.2.2.1 inG6 (by rw [← hM]; exact hO.2.2.2.1) hO.2.2.2.2.2.1 hW.1 a (wd_at hW h.1 (hcell_o 6 h.2 (by decide))) rfl 1 (by decide) (hO.2.2.2.2.1 _ l_f6_1) (fun _ h9 => h9) rfl hd (by rw [← vl_ref]; exact k hO H locs ls hW hl)
theorem x_p6_1 {a : Nat} {v : Nat} (hM : M.1.cls = RX6) (hN : M.1.name = "<init>") (hd : decode M.2.1 pc = .ok (.putfield 28, 3)) (h : is S 6 a)  (k : X E M n1 n2 ad (sR S a 1 (some v)) (pc + 3) lv st) : X E M n1 n2 ad S pc lv (aA v :: aA a :: st) := by
  intro hO H locs ls hW hl
  refine va_putF (v := .ref (ad v)) hO.1 hO.2.1 hO.2.2.2.2.1 inG6 tyX6 tyX6_ok nmX6 (by rw [← hM]; exact hO.2.2.2.1) hO.2.2.2.2.2.1 hW.1 hW.2.1 hW.2.2 a (wd_at hW h.1 (hcell_o 6 h.2 (by decide))) rfl 1 (by decide) (hO.2.2.2.2.1 _ l_f6_1) (fun _ h9 => h9) rfl (hO.2.2.2.2.2.2.2.1.trans hN) rfl (tyX6_ok 1 (by decide)) rfl rfl (by simp [fvs, fty]) hd (fun H1 locs1 hP hD hS => ?_)
  rw [wld_set (S := S) (S' := sR S a 1 (some v)) rfl ((hcell_o (S := sR S a 1 (some v)) 6 h.2 (by decide)).trans (congrArg (fun l => (Sum.inr (6 + 1, l) : va_E)) (fvs_set (S := S) (S' := sR S a 1 (some v)) (ad := ad) (a := a) (v := .ref (ad v)) (fty 6) 0 1 (fun i h0 => rfl) (fun i h0 => rfl) (fun i h0 => up2_ne _ _ (Or.inr (by omega))) (congrArg (fun z : Option Nat => some (va_rf (z.map ad))) (up2_same (hr S) a 1 (some v)))).symm)) (fun b hb => hcell_sR hb)] at hP hD
  exact k hO H1 locs1 ls ⟨hP, hD, hS⟩ hl
theorem l_f6_2 : Cond.fieldLink RX6 34 "AreaCrossings" "tracks" "[LAreaCrossings$Track;" ∈ tbG := tbG_in (w := .fieldLink RX6 34 "AreaCrossings" "tracks" "[LAreaCrossings$Track;") (by decide +kernel) rfl
theorem x_g6_2 {a : Nat} (hM : M.1.cls = RX6) (hd : decode M.2.1 pc = .ok (.getfield 34, 3)) (h : is S 6 a) (k : X E M n1 n2 ad S (pc + 3) lv (aR (hr S a 2) :: st)) : X E M n1 n2 ad S pc lv (aA a :: st) := fun hO H locs ls hW hl => va_get (v := va_rf ((hr S a 2).map ad)) hO.1 hO.2.1 hO.2.2.2.2.1 inG6 (by rw [← hM]; exact hO.2.2.2.1) hO.2.2.2.2.2.1 hW.1 a (wd_at hW h.1 (hcell_o 6 h.2 (by decide))) rfl 2 (by decide) (hO.2.2.2.2.1 _ l_f6_2) (fun _ h9 => h9) rfl hd (by rw [← vl_ref]; exact k hO H locs ls hW hl)
theorem x_p6_2 {a : Nat} {v : Nat} (hM : M.1.cls = RX6) (hN : M.1.name = "<init>") (hd : decode M.2.1 pc = .ok (.putfield 34, 3)) (h : is S 6 a)  (k : X E M n1 n2 ad (sR S a 2 (some v)) (pc + 3) lv st) : X E M n1 n2 ad S pc lv (aA v :: aA a :: st) := by
  intro hO H locs ls hW hl
  refine va_putF (v := .ref (ad v)) hO.1 hO.2.1 hO.2.2.2.2.1 inG6 tyX6 tyX6_ok nmX6 (by rw [← hM]; exact hO.2.2.2.1) hO.2.2.2.2.2.1 hW.1 hW.2.1 hW.2.2 a (wd_at hW h.1 (hcell_o 6 h.2 (by decide))) rfl 2 (by decide) (hO.2.2.2.2.1 _ l_f6_2) (fun _ h9 => h9) rfl (hO.2.2.2.2.2.2.2.1.trans hN) rfl (tyX6_ok 2 (by decide)) rfl rfl (by simp [fvs, fty]) hd (fun H1 locs1 hP hD hS => ?_)
  rw [wld_set (S := S) (S' := sR S a 2 (some v)) rfl ((hcell_o (S := sR S a 2 (some v)) 6 h.2 (by decide)).trans (congrArg (fun l => (Sum.inr (6 + 1, l) : va_E)) (fvs_set (S := S) (S' := sR S a 2 (some v)) (ad := ad) (a := a) (v := .ref (ad v)) (fty 6) 0 2 (fun i h0 => rfl) (fun i h0 => rfl) (fun i h0 => up2_ne _ _ (Or.inr (by omega))) (congrArg (fun z : Option Nat => some (va_rf (z.map ad))) (up2_same (hr S) a 2 (some v)))).symm)) (fun b hb => hcell_sR hb)] at hP hD
  exact k hO H1 locs1 ls ⟨hP, hD, hS⟩ hl
theorem l_f6_3 : Cond.fieldLink RX6 39 "AreaCrossings" "trackCount" "I" ∈ tbG := tbG_in (w := .fieldLink RX6 39 "AreaCrossings" "trackCount" "I") (by decide +kernel) rfl
theorem x_g6_3 {a : Nat} (hM : M.1.cls = RX6) (hd : decode M.2.1 pc = .ok (.getfield 39, 3)) (h : is S 6 a) (k : X E M n1 n2 ad S (pc + 3) lv (aI (hi S a 3) :: st)) : X E M n1 n2 ad S pc lv (aA a :: st) := fun hO H locs ls hW hl => va_get (v := .int (hi S a 3)) hO.1 hO.2.1 hO.2.2.2.2.1 inG6 (by rw [← hM]; exact hO.2.2.2.1) hO.2.2.2.2.2.1 hW.1 a (wd_at hW h.1 (hcell_o 6 h.2 (by decide))) rfl 3 (by decide) (hO.2.2.2.2.1 _ l_f6_3) (fun _ h9 => h9) rfl hd (k hO H locs ls hW hl)
theorem x_p6_3 {a : Nat} {v : Int32} (hM : M.1.cls = RX6)  (hd : decode M.2.1 pc = .ok (.putfield 39, 3)) (h : is S 6 a)  (k : X E M n1 n2 ad (sI S a 3 v) (pc + 3) lv st) : X E M n1 n2 ad S pc lv (aI v :: aA a :: st) := by
  intro hO H locs ls hW hl
  refine va_put (v := .int v) hO.1 hO.2.1 hO.2.2.2.2.1 inG6 tyX6 tyX6_ok nmX6 (by rw [← hM]; exact hO.2.2.2.1) hO.2.2.2.2.2.1 hW.1 hW.2.1 hW.2.2 a (wd_at hW h.1 (hcell_o 6 h.2 (by decide))) rfl 3 (by decide) (hO.2.2.2.2.1 _ l_f6_3) (fun _ h9 => h9) rfl (tyX6_ok 3 (by decide)) rfl rfl (by simp [fvs, fty]) hd (fun H1 locs1 hP hD hS => ?_)
  rw [wld_set (S := S) (S' := sI S a 3 v) rfl ((hcell_o (S := sI S a 3 v) 6 h.2 (by decide)).trans (congrArg (fun l => (Sum.inr (6 + 1, l) : va_E)) (fvs_set (S := S) (S' := sI S a 3 v) (ad := ad) (a := a) (v := .int v) (fty 6) 0 3 (fun i h0 => up2_ne _ _ (Or.inr (by omega))) (fun i h0 => rfl) (fun i h0 => rfl) (congrArg (fun z => some (Value.int z)) (up2_same (hi S) a 3 v))).symm)) (fun b hb => hcell_sI hb)] at hP hD
  exact k hO H1 locs1 ls ⟨hP, hD, hS⟩ hl
theorem l_f6_4 : Cond.fieldLink RX6 46 "AreaCrossings" "stretches" "LAreaCrossings$Stretches;" ∈ tbG := tbG_in (w := .fieldLink RX6 46 "AreaCrossings" "stretches" "LAreaCrossings$Stretches;") (by decide +kernel) rfl
theorem x_g6_4 {a : Nat} (hM : M.1.cls = RX6) (hd : decode M.2.1 pc = .ok (.getfield 46, 3)) (h : is S 6 a) (k : X E M n1 n2 ad S (pc + 3) lv (aR (hr S a 4) :: st)) : X E M n1 n2 ad S pc lv (aA a :: st) := fun hO H locs ls hW hl => va_get (v := va_rf ((hr S a 4).map ad)) hO.1 hO.2.1 hO.2.2.2.2.1 inG6 (by rw [← hM]; exact hO.2.2.2.1) hO.2.2.2.2.2.1 hW.1 a (wd_at hW h.1 (hcell_o 6 h.2 (by decide))) rfl 4 (by decide) (hO.2.2.2.2.1 _ l_f6_4) (fun _ h9 => h9) rfl hd (by rw [← vl_ref]; exact k hO H locs ls hW hl)
theorem x_p6_4 {a : Nat} {v : Nat} (hM : M.1.cls = RX6) (hN : M.1.name = "<init>") (hd : decode M.2.1 pc = .ok (.putfield 46, 3)) (h : is S 6 a)  (k : X E M n1 n2 ad (sR S a 4 (some v)) (pc + 3) lv st) : X E M n1 n2 ad S pc lv (aA v :: aA a :: st) := by
  intro hO H locs ls hW hl
  refine va_putF (v := .ref (ad v)) hO.1 hO.2.1 hO.2.2.2.2.1 inG6 tyX6 tyX6_ok nmX6 (by rw [← hM]; exact hO.2.2.2.1) hO.2.2.2.2.2.1 hW.1 hW.2.1 hW.2.2 a (wd_at hW h.1 (hcell_o 6 h.2 (by decide))) rfl 4 (by decide) (hO.2.2.2.2.1 _ l_f6_4) (fun _ h9 => h9) rfl (hO.2.2.2.2.2.2.2.1.trans hN) rfl (tyX6_ok 4 (by decide)) rfl rfl (by simp [fvs, fty]) hd (fun H1 locs1 hP hD hS => ?_)
  rw [wld_set (S := S) (S' := sR S a 4 (some v)) rfl ((hcell_o (S := sR S a 4 (some v)) 6 h.2 (by decide)).trans (congrArg (fun l => (Sum.inr (6 + 1, l) : va_E)) (fvs_set (S := S) (S' := sR S a 4 (some v)) (ad := ad) (a := a) (v := .ref (ad v)) (fty 6) 0 4 (fun i h0 => rfl) (fun i h0 => rfl) (fun i h0 => up2_ne _ _ (Or.inr (by omega))) (congrArg (fun z : Option Nat => some (va_rf (z.map ad))) (up2_same (hr S) a 4 (some v)))).symm)) (fun b hb => hcell_sR hb)] at hP hD
  exact k hO H1 locs1 ls ⟨hP, hD, hS⟩ hl
theorem l_f6_5 : Cond.fieldLink RX6 53 "AreaCrossings" "last" "LAreaCrossings$Crossings;" ∈ tbG := tbG_in (w := .fieldLink RX6 53 "AreaCrossings" "last" "LAreaCrossings$Crossings;") (by decide +kernel) rfl
theorem x_g6_5 {a : Nat} (hM : M.1.cls = RX6) (hd : decode M.2.1 pc = .ok (.getfield 53, 3)) (h : is S 6 a) (k : X E M n1 n2 ad S (pc + 3) lv (aR (hr S a 5) :: st)) : X E M n1 n2 ad S pc lv (aA a :: st) := fun hO H locs ls hW hl => va_get (v := va_rf ((hr S a 5).map ad)) hO.1 hO.2.1 hO.2.2.2.2.1 inG6 (by rw [← hM]; exact hO.2.2.2.1) hO.2.2.2.2.2.1 hW.1 a (wd_at hW h.1 (hcell_o 6 h.2 (by decide))) rfl 5 (by decide) (hO.2.2.2.2.1 _ l_f6_5) (fun _ h9 => h9) rfl hd (by rw [← vl_ref]; exact k hO H locs ls hW hl)
theorem x_p6_5 {a : Nat} {v : Nat} (hM : M.1.cls = RX6)  (hd : decode M.2.1 pc = .ok (.putfield 53, 3)) (h : is S 6 a)  (k : X E M n1 n2 ad (sR S a 5 (some v)) (pc + 3) lv st) : X E M n1 n2 ad S pc lv (aA v :: aA a :: st) := by
  intro hO H locs ls hW hl
  refine va_put (v := .ref (ad v)) hO.1 hO.2.1 hO.2.2.2.2.1 inG6 tyX6 tyX6_ok nmX6 (by rw [← hM]; exact hO.2.2.2.1) hO.2.2.2.2.2.1 hW.1 hW.2.1 hW.2.2 a (wd_at hW h.1 (hcell_o 6 h.2 (by decide))) rfl 5 (by decide) (hO.2.2.2.2.1 _ l_f6_5) (fun _ h9 => h9) rfl (tyX6_ok 5 (by decide)) rfl rfl (by simp [fvs, fty]) hd (fun H1 locs1 hP hD hS => ?_)
  rw [wld_set (S := S) (S' := sR S a 5 (some v)) rfl ((hcell_o (S := sR S a 5 (some v)) 6 h.2 (by decide)).trans (congrArg (fun l => (Sum.inr (6 + 1, l) : va_E)) (fvs_set (S := S) (S' := sR S a 5 (some v)) (ad := ad) (a := a) (v := .ref (ad v)) (fty 6) 0 5 (fun i h0 => rfl) (fun i h0 => rfl) (fun i h0 => up2_ne _ _ (Or.inr (by omega))) (congrArg (fun z : Option Nat => some (va_rf (z.map ad))) (up2_same (hr S) a 5 (some v)))).symm)) (fun b hb => hcell_sR hb)] at hP hD
  exact k hO H1 locs1 ls ⟨hP, hD, hS⟩ hl
theorem l_f6_6 : Cond.fieldLink RX6 57 "AreaCrossings" "spare" "LAreaCrossings$Crossings;" ∈ tbG := tbG_in (w := .fieldLink RX6 57 "AreaCrossings" "spare" "LAreaCrossings$Crossings;") (by decide +kernel) rfl
theorem x_g6_6 {a : Nat} (hM : M.1.cls = RX6) (hd : decode M.2.1 pc = .ok (.getfield 57, 3)) (h : is S 6 a) (k : X E M n1 n2 ad S (pc + 3) lv (aR (hr S a 6) :: st)) : X E M n1 n2 ad S pc lv (aA a :: st) := fun hO H locs ls hW hl => va_get (v := va_rf ((hr S a 6).map ad)) hO.1 hO.2.1 hO.2.2.2.2.1 inG6 (by rw [← hM]; exact hO.2.2.2.1) hO.2.2.2.2.2.1 hW.1 a (wd_at hW h.1 (hcell_o 6 h.2 (by decide))) rfl 6 (by decide) (hO.2.2.2.2.1 _ l_f6_6) (fun _ h9 => h9) rfl hd (by rw [← vl_ref]; exact k hO H locs ls hW hl)
theorem x_p6_6 {a : Nat} {v : Nat} (hM : M.1.cls = RX6)  (hd : decode M.2.1 pc = .ok (.putfield 57, 3)) (h : is S 6 a)  (k : X E M n1 n2 ad (sR S a 6 (some v)) (pc + 3) lv st) : X E M n1 n2 ad S pc lv (aA v :: aA a :: st) := by
  intro hO H locs ls hW hl
  refine va_put (v := .ref (ad v)) hO.1 hO.2.1 hO.2.2.2.2.1 inG6 tyX6 tyX6_ok nmX6 (by rw [← hM]; exact hO.2.2.2.1) hO.2.2.2.2.2.1 hW.1 hW.2.1 hW.2.2 a (wd_at hW h.1 (hcell_o 6 h.2 (by decide))) rfl 6 (by decide) (hO.2.2.2.2.1 _ l_f6_6) (fun _ h9 => h9) rfl (tyX6_ok 6 (by decide)) rfl rfl (by simp [fvs, fty]) hd (fun H1 locs1 hP hD hS => ?_)
  rw [wld_set (S := S) (S' := sR S a 6 (some v)) rfl ((hcell_o (S := sR S a 6 (some v)) 6 h.2 (by decide)).trans (congrArg (fun l => (Sum.inr (6 + 1, l) : va_E)) (fvs_set (S := S) (S' := sR S a 6 (some v)) (ad := ad) (a := a) (v := .ref (ad v)) (fty 6) 0 6 (fun i h0 => rfl) (fun i h0 => rfl) (fun i h0 => up2_ne _ _ (Or.inr (by omega))) (congrArg (fun z : Option Nat => some (va_rf (z.map ad))) (up2_same (hr S) a 6 (some v)))).symm)) (fun b hb => hcell_sR hb)] at hP hD
  exact k hO H1 locs1 ls ⟨hP, hD, hS⟩ hl
theorem l_f7_0 : Cond.fieldLink RX7 76 "AreaCrossingsModel" "code" "I" ∈ tbG := tbG_in (w := .fieldLink RX7 76 "AreaCrossingsModel" "code" "I") (by decide +kernel) rfl
theorem x_g7_0 {a : Nat} (hM : M.1.cls = RX7) (hd : decode M.2.1 pc = .ok (.getfield 76, 3)) (h : is S 7 a) (k : X E M n1 n2 ad S (pc + 3) lv (aI (hi S a 0) :: st)) : X E M n1 n2 ad S pc lv (aA a :: st) := fun hO H locs ls hW hl => va_get (v := .int (hi S a 0)) hO.1 hO.2.1 hO.2.2.2.2.1 inG7 (by rw [← hM]; exact hO.2.2.2.1) hO.2.2.2.2.2.1 hW.1 a (wd_at hW h.1 (hcell_o 7 h.2 (by decide))) rfl 0 (by decide) (hO.2.2.2.2.1 _ l_f7_0) (fun _ h9 => h9) rfl hd (k hO H locs ls hW hl)
theorem x_p7_0 {a : Nat} {v : Int32} (hM : M.1.cls = RX7)  (hd : decode M.2.1 pc = .ok (.putfield 76, 3)) (h : is S 7 a)  (k : X E M n1 n2 ad (sI S a 0 v) (pc + 3) lv st) : X E M n1 n2 ad S pc lv (aI v :: aA a :: st) := by
  intro hO H locs ls hW hl
  refine va_put (v := .int v) hO.1 hO.2.1 hO.2.2.2.2.1 inG7 tyX7 tyX7_ok nmX7 (by rw [← hM]; exact hO.2.2.2.1) hO.2.2.2.2.2.1 hW.1 hW.2.1 hW.2.2 a (wd_at hW h.1 (hcell_o 7 h.2 (by decide))) rfl 0 (by decide) (hO.2.2.2.2.1 _ l_f7_0) (fun _ h9 => h9) rfl (tyX7_ok 0 (by decide)) rfl rfl (by simp [fvs, fty]) hd (fun H1 locs1 hP hD hS => ?_)
  rw [wld_set (S := S) (S' := sI S a 0 v) rfl ((hcell_o (S := sI S a 0 v) 7 h.2 (by decide)).trans (congrArg (fun l => (Sum.inr (7 + 1, l) : va_E)) (fvs_set (S := S) (S' := sI S a 0 v) (ad := ad) (a := a) (v := .int v) (fty 7) 0 0 (fun i h0 => up2_ne _ _ (Or.inr (by omega))) (fun i h0 => rfl) (fun i h0 => rfl) (congrArg (fun z => some (Value.int z)) (up2_same (hi S) a 0 v))).symm)) (fun b hb => hcell_sI hb)] at hP hD
  exact k hO H1 locs1 ls ⟨hP, hD, hS⟩ hl
theorem l_f7_1 : Cond.fieldLink RX7 72 "AreaCrossingsModel" "areas" "I" ∈ tbG := tbG_in (w := .fieldLink RX7 72 "AreaCrossingsModel" "areas" "I") (by decide +kernel) rfl
theorem x_g7_1 {a : Nat} (hM : M.1.cls = RX7) (hd : decode M.2.1 pc = .ok (.getfield 72, 3)) (h : is S 7 a) (k : X E M n1 n2 ad S (pc + 3) lv (aI (hi S a 1) :: st)) : X E M n1 n2 ad S pc lv (aA a :: st) := fun hO H locs ls hW hl => va_get (v := .int (hi S a 1)) hO.1 hO.2.1 hO.2.2.2.2.1 inG7 (by rw [← hM]; exact hO.2.2.2.1) hO.2.2.2.2.2.1 hW.1 a (wd_at hW h.1 (hcell_o 7 h.2 (by decide))) rfl 1 (by decide) (hO.2.2.2.2.1 _ l_f7_1) (fun _ h9 => h9) rfl hd (k hO H locs ls hW hl)
theorem x_p7_1 {a : Nat} {v : Int32} (hM : M.1.cls = RX7)  (hd : decode M.2.1 pc = .ok (.putfield 72, 3)) (h : is S 7 a)  (k : X E M n1 n2 ad (sI S a 1 v) (pc + 3) lv st) : X E M n1 n2 ad S pc lv (aI v :: aA a :: st) := by
  intro hO H locs ls hW hl
  refine va_put (v := .int v) hO.1 hO.2.1 hO.2.2.2.2.1 inG7 tyX7 tyX7_ok nmX7 (by rw [← hM]; exact hO.2.2.2.1) hO.2.2.2.2.2.1 hW.1 hW.2.1 hW.2.2 a (wd_at hW h.1 (hcell_o 7 h.2 (by decide))) rfl 1 (by decide) (hO.2.2.2.2.1 _ l_f7_1) (fun _ h9 => h9) rfl (tyX7_ok 1 (by decide)) rfl rfl (by simp [fvs, fty]) hd (fun H1 locs1 hP hD hS => ?_)
  rw [wld_set (S := S) (S' := sI S a 1 v) rfl ((hcell_o (S := sI S a 1 v) 7 h.2 (by decide)).trans (congrArg (fun l => (Sum.inr (7 + 1, l) : va_E)) (fvs_set (S := S) (S' := sI S a 1 v) (ad := ad) (a := a) (v := .int v) (fty 7) 0 1 (fun i h0 => up2_ne _ _ (Or.inr (by omega))) (fun i h0 => rfl) (fun i h0 => rfl) (congrArg (fun z => some (Value.int z)) (up2_same (hi S) a 1 v))).symm)) (fun b hb => hcell_sI hb)] at hP hD
  exact k hO H1 locs1 ls ⟨hP, hD, hS⟩ hl
theorem l_f7_2 : Cond.fieldLink RX7 7 "AreaCrossingsModel" "xs" "[J" ∈ tbG := tbG_in (w := .fieldLink RX7 7 "AreaCrossingsModel" "xs" "[J") (by decide +kernel) rfl
theorem x_g7_2 {a : Nat} (hM : M.1.cls = RX7) (hd : decode M.2.1 pc = .ok (.getfield 7, 3)) (h : is S 7 a) (k : X E M n1 n2 ad S (pc + 3) lv (aR (hr S a 2) :: st)) : X E M n1 n2 ad S pc lv (aA a :: st) := fun hO H locs ls hW hl => va_get (v := va_rf ((hr S a 2).map ad)) hO.1 hO.2.1 hO.2.2.2.2.1 inG7 (by rw [← hM]; exact hO.2.2.2.1) hO.2.2.2.2.2.1 hW.1 a (wd_at hW h.1 (hcell_o 7 h.2 (by decide))) rfl 2 (by decide) (hO.2.2.2.2.1 _ l_f7_2) (fun _ h9 => h9) rfl hd (by rw [← vl_ref]; exact k hO H locs ls hW hl)
theorem x_p7_2 {a : Nat} {v : Nat} (hM : M.1.cls = RX7) (hN : M.1.name = "<init>") (hd : decode M.2.1 pc = .ok (.putfield 7, 3)) (h : is S 7 a)  (k : X E M n1 n2 ad (sR S a 2 (some v)) (pc + 3) lv st) : X E M n1 n2 ad S pc lv (aA v :: aA a :: st) := by
  intro hO H locs ls hW hl
  refine va_putF (v := .ref (ad v)) hO.1 hO.2.1 hO.2.2.2.2.1 inG7 tyX7 tyX7_ok nmX7 (by rw [← hM]; exact hO.2.2.2.1) hO.2.2.2.2.2.1 hW.1 hW.2.1 hW.2.2 a (wd_at hW h.1 (hcell_o 7 h.2 (by decide))) rfl 2 (by decide) (hO.2.2.2.2.1 _ l_f7_2) (fun _ h9 => h9) rfl (hO.2.2.2.2.2.2.2.1.trans hN) rfl (tyX7_ok 2 (by decide)) rfl rfl (by simp [fvs, fty]) hd (fun H1 locs1 hP hD hS => ?_)
  rw [wld_set (S := S) (S' := sR S a 2 (some v)) rfl ((hcell_o (S := sR S a 2 (some v)) 7 h.2 (by decide)).trans (congrArg (fun l => (Sum.inr (7 + 1, l) : va_E)) (fvs_set (S := S) (S' := sR S a 2 (some v)) (ad := ad) (a := a) (v := .ref (ad v)) (fty 7) 0 2 (fun i h0 => rfl) (fun i h0 => rfl) (fun i h0 => up2_ne _ _ (Or.inr (by omega))) (congrArg (fun z : Option Nat => some (va_rf (z.map ad))) (up2_same (hr S) a 2 (some v)))).symm)) (fun b hb => hcell_sR hb)] at hP hD
  exact k hO H1 locs1 ls ⟨hP, hD, hS⟩ hl
theorem l_f7_3 : Cond.fieldLink RX7 13 "AreaCrossingsModel" "ys" "[J" ∈ tbG := tbG_in (w := .fieldLink RX7 13 "AreaCrossingsModel" "ys" "[J") (by decide +kernel) rfl
theorem x_g7_3 {a : Nat} (hM : M.1.cls = RX7) (hd : decode M.2.1 pc = .ok (.getfield 13, 3)) (h : is S 7 a) (k : X E M n1 n2 ad S (pc + 3) lv (aR (hr S a 3) :: st)) : X E M n1 n2 ad S pc lv (aA a :: st) := fun hO H locs ls hW hl => va_get (v := va_rf ((hr S a 3).map ad)) hO.1 hO.2.1 hO.2.2.2.2.1 inG7 (by rw [← hM]; exact hO.2.2.2.1) hO.2.2.2.2.2.1 hW.1 a (wd_at hW h.1 (hcell_o 7 h.2 (by decide))) rfl 3 (by decide) (hO.2.2.2.2.1 _ l_f7_3) (fun _ h9 => h9) rfl hd (by rw [← vl_ref]; exact k hO H locs ls hW hl)
theorem x_p7_3 {a : Nat} {v : Nat} (hM : M.1.cls = RX7) (hN : M.1.name = "<init>") (hd : decode M.2.1 pc = .ok (.putfield 13, 3)) (h : is S 7 a)  (k : X E M n1 n2 ad (sR S a 3 (some v)) (pc + 3) lv st) : X E M n1 n2 ad S pc lv (aA v :: aA a :: st) := by
  intro hO H locs ls hW hl
  refine va_putF (v := .ref (ad v)) hO.1 hO.2.1 hO.2.2.2.2.1 inG7 tyX7 tyX7_ok nmX7 (by rw [← hM]; exact hO.2.2.2.1) hO.2.2.2.2.2.1 hW.1 hW.2.1 hW.2.2 a (wd_at hW h.1 (hcell_o 7 h.2 (by decide))) rfl 3 (by decide) (hO.2.2.2.2.1 _ l_f7_3) (fun _ h9 => h9) rfl (hO.2.2.2.2.2.2.2.1.trans hN) rfl (tyX7_ok 3 (by decide)) rfl rfl (by simp [fvs, fty]) hd (fun H1 locs1 hP hD hS => ?_)
  rw [wld_set (S := S) (S' := sR S a 3 (some v)) rfl ((hcell_o (S := sR S a 3 (some v)) 7 h.2 (by decide)).trans (congrArg (fun l => (Sum.inr (7 + 1, l) : va_E)) (fvs_set (S := S) (S' := sR S a 3 (some v)) (ad := ad) (a := a) (v := .ref (ad v)) (fty 7) 0 3 (fun i h0 => rfl) (fun i h0 => rfl) (fun i h0 => up2_ne _ _ (Or.inr (by omega))) (congrArg (fun z : Option Nat => some (va_rf (z.map ad))) (up2_same (hr S) a 3 (some v)))).symm)) (fun b hb => hcell_sR hb)] at hP hD
  exact k hO H1 locs1 ls ⟨hP, hD, hS⟩ hl
theorem l_f7_4 : Cond.fieldLink RX7 16 "AreaCrossingsModel" "sizes" "[I" ∈ tbG := tbG_in (w := .fieldLink RX7 16 "AreaCrossingsModel" "sizes" "[I") (by decide +kernel) rfl
theorem x_g7_4 {a : Nat} (hM : M.1.cls = RX7) (hd : decode M.2.1 pc = .ok (.getfield 16, 3)) (h : is S 7 a) (k : X E M n1 n2 ad S (pc + 3) lv (aR (hr S a 4) :: st)) : X E M n1 n2 ad S pc lv (aA a :: st) := fun hO H locs ls hW hl => va_get (v := va_rf ((hr S a 4).map ad)) hO.1 hO.2.1 hO.2.2.2.2.1 inG7 (by rw [← hM]; exact hO.2.2.2.1) hO.2.2.2.2.2.1 hW.1 a (wd_at hW h.1 (hcell_o 7 h.2 (by decide))) rfl 4 (by decide) (hO.2.2.2.2.1 _ l_f7_4) (fun _ h9 => h9) rfl hd (by rw [← vl_ref]; exact k hO H locs ls hW hl)
theorem x_p7_4 {a : Nat} {v : Nat} (hM : M.1.cls = RX7) (hN : M.1.name = "<init>") (hd : decode M.2.1 pc = .ok (.putfield 16, 3)) (h : is S 7 a)  (k : X E M n1 n2 ad (sR S a 4 (some v)) (pc + 3) lv st) : X E M n1 n2 ad S pc lv (aA v :: aA a :: st) := by
  intro hO H locs ls hW hl
  refine va_putF (v := .ref (ad v)) hO.1 hO.2.1 hO.2.2.2.2.1 inG7 tyX7 tyX7_ok nmX7 (by rw [← hM]; exact hO.2.2.2.1) hO.2.2.2.2.2.1 hW.1 hW.2.1 hW.2.2 a (wd_at hW h.1 (hcell_o 7 h.2 (by decide))) rfl 4 (by decide) (hO.2.2.2.2.1 _ l_f7_4) (fun _ h9 => h9) rfl (hO.2.2.2.2.2.2.2.1.trans hN) rfl (tyX7_ok 4 (by decide)) rfl rfl (by simp [fvs, fty]) hd (fun H1 locs1 hP hD hS => ?_)
  rw [wld_set (S := S) (S' := sR S a 4 (some v)) rfl ((hcell_o (S := sR S a 4 (some v)) 7 h.2 (by decide)).trans (congrArg (fun l => (Sum.inr (7 + 1, l) : va_E)) (fvs_set (S := S) (S' := sR S a 4 (some v)) (ad := ad) (a := a) (v := .ref (ad v)) (fty 7) 0 4 (fun i h0 => rfl) (fun i h0 => rfl) (fun i h0 => up2_ne _ _ (Or.inr (by omega))) (congrArg (fun z : Option Nat => some (va_rf (z.map ad))) (up2_same (hr S) a 4 (some v)))).symm)) (fun b hb => hcell_sR hb)] at hP hD
  exact k hO H1 locs1 ls ⟨hP, hD, hS⟩ hl
theorem l_f7_5 : Cond.fieldLink RX7 20 "AreaCrossingsModel" "closed" "[I" ∈ tbG := tbG_in (w := .fieldLink RX7 20 "AreaCrossingsModel" "closed" "[I") (by decide +kernel) rfl
theorem x_g7_5 {a : Nat} (hM : M.1.cls = RX7) (hd : decode M.2.1 pc = .ok (.getfield 20, 3)) (h : is S 7 a) (k : X E M n1 n2 ad S (pc + 3) lv (aR (hr S a 5) :: st)) : X E M n1 n2 ad S pc lv (aA a :: st) := fun hO H locs ls hW hl => va_get (v := va_rf ((hr S a 5).map ad)) hO.1 hO.2.1 hO.2.2.2.2.1 inG7 (by rw [← hM]; exact hO.2.2.2.1) hO.2.2.2.2.2.1 hW.1 a (wd_at hW h.1 (hcell_o 7 h.2 (by decide))) rfl 5 (by decide) (hO.2.2.2.2.1 _ l_f7_5) (fun _ h9 => h9) rfl hd (by rw [← vl_ref]; exact k hO H locs ls hW hl)
theorem x_p7_5 {a : Nat} {v : Nat} (hM : M.1.cls = RX7) (hN : M.1.name = "<init>") (hd : decode M.2.1 pc = .ok (.putfield 20, 3)) (h : is S 7 a)  (k : X E M n1 n2 ad (sR S a 5 (some v)) (pc + 3) lv st) : X E M n1 n2 ad S pc lv (aA v :: aA a :: st) := by
  intro hO H locs ls hW hl
  refine va_putF (v := .ref (ad v)) hO.1 hO.2.1 hO.2.2.2.2.1 inG7 tyX7 tyX7_ok nmX7 (by rw [← hM]; exact hO.2.2.2.1) hO.2.2.2.2.2.1 hW.1 hW.2.1 hW.2.2 a (wd_at hW h.1 (hcell_o 7 h.2 (by decide))) rfl 5 (by decide) (hO.2.2.2.2.1 _ l_f7_5) (fun _ h9 => h9) rfl (hO.2.2.2.2.2.2.2.1.trans hN) rfl (tyX7_ok 5 (by decide)) rfl rfl (by simp [fvs, fty]) hd (fun H1 locs1 hP hD hS => ?_)
  rw [wld_set (S := S) (S' := sR S a 5 (some v)) rfl ((hcell_o (S := sR S a 5 (some v)) 7 h.2 (by decide)).trans (congrArg (fun l => (Sum.inr (7 + 1, l) : va_E)) (fvs_set (S := S) (S' := sR S a 5 (some v)) (ad := ad) (a := a) (v := .ref (ad v)) (fty 7) 0 5 (fun i h0 => rfl) (fun i h0 => rfl) (fun i h0 => up2_ne _ _ (Or.inr (by omega))) (congrArg (fun z : Option Nat => some (va_rf (z.map ad))) (up2_same (hr S) a 5 (some v)))).symm)) (fun b hb => hcell_sR hb)] at hP hD
  exact k hO H1 locs1 ls ⟨hP, hD, hS⟩ hl
theorem l_f7_6 : Cond.fieldLink RX7 23 "AreaCrossingsModel" "making" "[Z" ∈ tbG := tbG_in (w := .fieldLink RX7 23 "AreaCrossingsModel" "making" "[Z") (by decide +kernel) rfl
theorem x_g7_6 {a : Nat} (hM : M.1.cls = RX7) (hd : decode M.2.1 pc = .ok (.getfield 23, 3)) (h : is S 7 a) (k : X E M n1 n2 ad S (pc + 3) lv (aR (hr S a 6) :: st)) : X E M n1 n2 ad S pc lv (aA a :: st) := fun hO H locs ls hW hl => va_get (v := va_rf ((hr S a 6).map ad)) hO.1 hO.2.1 hO.2.2.2.2.1 inG7 (by rw [← hM]; exact hO.2.2.2.1) hO.2.2.2.2.2.1 hW.1 a (wd_at hW h.1 (hcell_o 7 h.2 (by decide))) rfl 6 (by decide) (hO.2.2.2.2.1 _ l_f7_6) (fun _ h9 => h9) rfl hd (by rw [← vl_ref]; exact k hO H locs ls hW hl)
theorem x_p7_6 {a : Nat} {v : Nat} (hM : M.1.cls = RX7) (hN : M.1.name = "<init>") (hd : decode M.2.1 pc = .ok (.putfield 23, 3)) (h : is S 7 a)  (k : X E M n1 n2 ad (sR S a 6 (some v)) (pc + 3) lv st) : X E M n1 n2 ad S pc lv (aA v :: aA a :: st) := by
  intro hO H locs ls hW hl
  refine va_putF (v := .ref (ad v)) hO.1 hO.2.1 hO.2.2.2.2.1 inG7 tyX7 tyX7_ok nmX7 (by rw [← hM]; exact hO.2.2.2.1) hO.2.2.2.2.2.1 hW.1 hW.2.1 hW.2.2 a (wd_at hW h.1 (hcell_o 7 h.2 (by decide))) rfl 6 (by decide) (hO.2.2.2.2.1 _ l_f7_6) (fun _ h9 => h9) rfl (hO.2.2.2.2.2.2.2.1.trans hN) rfl (tyX7_ok 6 (by decide)) rfl rfl (by simp [fvs, fty]) hd (fun H1 locs1 hP hD hS => ?_)
  rw [wld_set (S := S) (S' := sR S a 6 (some v)) rfl ((hcell_o (S := sR S a 6 (some v)) 7 h.2 (by decide)).trans (congrArg (fun l => (Sum.inr (7 + 1, l) : va_E)) (fvs_set (S := S) (S' := sR S a 6 (some v)) (ad := ad) (a := a) (v := .ref (ad v)) (fty 7) 0 6 (fun i h0 => rfl) (fun i h0 => rfl) (fun i h0 => up2_ne _ _ (Or.inr (by omega))) (congrArg (fun z : Option Nat => some (va_rf (z.map ad))) (up2_same (hr S) a 6 (some v)))).symm)) (fun b hb => hcell_sR hb)] at hP hD
  exact k hO H1 locs1 ls ⟨hP, hD, hS⟩ hl
theorem l_f7_7 : Cond.fieldLink RX7 27 "AreaCrossingsModel" "speeds" "[J" ∈ tbG := tbG_in (w := .fieldLink RX7 27 "AreaCrossingsModel" "speeds" "[J") (by decide +kernel) rfl
theorem x_g7_7 {a : Nat} (hM : M.1.cls = RX7) (hd : decode M.2.1 pc = .ok (.getfield 27, 3)) (h : is S 7 a) (k : X E M n1 n2 ad S (pc + 3) lv (aR (hr S a 7) :: st)) : X E M n1 n2 ad S pc lv (aA a :: st) := fun hO H locs ls hW hl => va_get (v := va_rf ((hr S a 7).map ad)) hO.1 hO.2.1 hO.2.2.2.2.1 inG7 (by rw [← hM]; exact hO.2.2.2.1) hO.2.2.2.2.2.1 hW.1 a (wd_at hW h.1 (hcell_o 7 h.2 (by decide))) rfl 7 (by decide) (hO.2.2.2.2.1 _ l_f7_7) (fun _ h9 => h9) rfl hd (by rw [← vl_ref]; exact k hO H locs ls hW hl)
theorem x_p7_7 {a : Nat} {v : Nat} (hM : M.1.cls = RX7) (hN : M.1.name = "<init>") (hd : decode M.2.1 pc = .ok (.putfield 27, 3)) (h : is S 7 a)  (k : X E M n1 n2 ad (sR S a 7 (some v)) (pc + 3) lv st) : X E M n1 n2 ad S pc lv (aA v :: aA a :: st) := by
  intro hO H locs ls hW hl
  refine va_putF (v := .ref (ad v)) hO.1 hO.2.1 hO.2.2.2.2.1 inG7 tyX7 tyX7_ok nmX7 (by rw [← hM]; exact hO.2.2.2.1) hO.2.2.2.2.2.1 hW.1 hW.2.1 hW.2.2 a (wd_at hW h.1 (hcell_o 7 h.2 (by decide))) rfl 7 (by decide) (hO.2.2.2.2.1 _ l_f7_7) (fun _ h9 => h9) rfl (hO.2.2.2.2.2.2.2.1.trans hN) rfl (tyX7_ok 7 (by decide)) rfl rfl (by simp [fvs, fty]) hd (fun H1 locs1 hP hD hS => ?_)
  rw [wld_set (S := S) (S' := sR S a 7 (some v)) rfl ((hcell_o (S := sR S a 7 (some v)) 7 h.2 (by decide)).trans (congrArg (fun l => (Sum.inr (7 + 1, l) : va_E)) (fvs_set (S := S) (S' := sR S a 7 (some v)) (ad := ad) (a := a) (v := .ref (ad v)) (fty 7) 0 7 (fun i h0 => rfl) (fun i h0 => rfl) (fun i h0 => up2_ne _ _ (Or.inr (by omega))) (congrArg (fun z : Option Nat => some (va_rf (z.map ad))) (up2_same (hr S) a 7 (some v)))).symm)) (fun b hb => hcell_sR hb)] at hP hD
  exact k hO H1 locs1 ls ⟨hP, hD, hS⟩ hl
theorem l_f7_8 : Cond.fieldLink RX7 140 "AreaCrossingsModel" "rules" "I" ∈ tbG := tbG_in (w := .fieldLink RX7 140 "AreaCrossingsModel" "rules" "I") (by decide +kernel) rfl
theorem x_g7_8 {a : Nat} (hM : M.1.cls = RX7) (hd : decode M.2.1 pc = .ok (.getfield 140, 3)) (h : is S 7 a) (k : X E M n1 n2 ad S (pc + 3) lv (aI (hi S a 8) :: st)) : X E M n1 n2 ad S pc lv (aA a :: st) := fun hO H locs ls hW hl => va_get (v := .int (hi S a 8)) hO.1 hO.2.1 hO.2.2.2.2.1 inG7 (by rw [← hM]; exact hO.2.2.2.1) hO.2.2.2.2.2.1 hW.1 a (wd_at hW h.1 (hcell_o 7 h.2 (by decide))) rfl 8 (by decide) (hO.2.2.2.2.1 _ l_f7_8) (fun _ h9 => h9) rfl hd (k hO H locs ls hW hl)
theorem x_p7_8 {a : Nat} {v : Int32} (hM : M.1.cls = RX7)  (hd : decode M.2.1 pc = .ok (.putfield 140, 3)) (h : is S 7 a)  (k : X E M n1 n2 ad (sI S a 8 v) (pc + 3) lv st) : X E M n1 n2 ad S pc lv (aI v :: aA a :: st) := by
  intro hO H locs ls hW hl
  refine va_put (v := .int v) hO.1 hO.2.1 hO.2.2.2.2.1 inG7 tyX7 tyX7_ok nmX7 (by rw [← hM]; exact hO.2.2.2.1) hO.2.2.2.2.2.1 hW.1 hW.2.1 hW.2.2 a (wd_at hW h.1 (hcell_o 7 h.2 (by decide))) rfl 8 (by decide) (hO.2.2.2.2.1 _ l_f7_8) (fun _ h9 => h9) rfl (tyX7_ok 8 (by decide)) rfl rfl (by simp [fvs, fty]) hd (fun H1 locs1 hP hD hS => ?_)
  rw [wld_set (S := S) (S' := sI S a 8 v) rfl ((hcell_o (S := sI S a 8 v) 7 h.2 (by decide)).trans (congrArg (fun l => (Sum.inr (7 + 1, l) : va_E)) (fvs_set (S := S) (S' := sI S a 8 v) (ad := ad) (a := a) (v := .int v) (fty 7) 0 8 (fun i h0 => up2_ne _ _ (Or.inr (by omega))) (fun i h0 => rfl) (fun i h0 => rfl) (congrArg (fun z => some (Value.int z)) (up2_same (hi S) a 8 v))).symm)) (fun b hb => hcell_sI hb)] at hP hD
  exact k hO H1 locs1 ls ⟨hP, hD, hS⟩ hl
theorem l_f7_9 : Cond.fieldLink RX7 30 "AreaCrossingsModel" "ruleArea" "[I" ∈ tbG := tbG_in (w := .fieldLink RX7 30 "AreaCrossingsModel" "ruleArea" "[I") (by decide +kernel) rfl
theorem x_g7_9 {a : Nat} (hM : M.1.cls = RX7) (hd : decode M.2.1 pc = .ok (.getfield 30, 3)) (h : is S 7 a) (k : X E M n1 n2 ad S (pc + 3) lv (aR (hr S a 9) :: st)) : X E M n1 n2 ad S pc lv (aA a :: st) := fun hO H locs ls hW hl => va_get (v := va_rf ((hr S a 9).map ad)) hO.1 hO.2.1 hO.2.2.2.2.1 inG7 (by rw [← hM]; exact hO.2.2.2.1) hO.2.2.2.2.2.1 hW.1 a (wd_at hW h.1 (hcell_o 7 h.2 (by decide))) rfl 9 (by decide) (hO.2.2.2.2.1 _ l_f7_9) (fun _ h9 => h9) rfl hd (by rw [← vl_ref]; exact k hO H locs ls hW hl)
theorem x_p7_9 {a : Nat} {v : Nat} (hM : M.1.cls = RX7) (hN : M.1.name = "<init>") (hd : decode M.2.1 pc = .ok (.putfield 30, 3)) (h : is S 7 a)  (k : X E M n1 n2 ad (sR S a 9 (some v)) (pc + 3) lv st) : X E M n1 n2 ad S pc lv (aA v :: aA a :: st) := by
  intro hO H locs ls hW hl
  refine va_putF (v := .ref (ad v)) hO.1 hO.2.1 hO.2.2.2.2.1 inG7 tyX7 tyX7_ok nmX7 (by rw [← hM]; exact hO.2.2.2.1) hO.2.2.2.2.2.1 hW.1 hW.2.1 hW.2.2 a (wd_at hW h.1 (hcell_o 7 h.2 (by decide))) rfl 9 (by decide) (hO.2.2.2.2.1 _ l_f7_9) (fun _ h9 => h9) rfl (hO.2.2.2.2.2.2.2.1.trans hN) rfl (tyX7_ok 9 (by decide)) rfl rfl (by simp [fvs, fty]) hd (fun H1 locs1 hP hD hS => ?_)
  rw [wld_set (S := S) (S' := sR S a 9 (some v)) rfl ((hcell_o (S := sR S a 9 (some v)) 7 h.2 (by decide)).trans (congrArg (fun l => (Sum.inr (7 + 1, l) : va_E)) (fvs_set (S := S) (S' := sR S a 9 (some v)) (ad := ad) (a := a) (v := .ref (ad v)) (fty 7) 0 9 (fun i h0 => rfl) (fun i h0 => rfl) (fun i h0 => up2_ne _ _ (Or.inr (by omega))) (congrArg (fun z : Option Nat => some (va_rf (z.map ad))) (up2_same (hr S) a 9 (some v)))).symm)) (fun b hb => hcell_sR hb)] at hP hD
  exact k hO H1 locs1 ls ⟨hP, hD, hS⟩ hl
theorem l_f7_10 : Cond.fieldLink RX7 33 "AreaCrossingsModel" "ruleGear" "[I" ∈ tbG := tbG_in (w := .fieldLink RX7 33 "AreaCrossingsModel" "ruleGear" "[I") (by decide +kernel) rfl
theorem x_g7_10 {a : Nat} (hM : M.1.cls = RX7) (hd : decode M.2.1 pc = .ok (.getfield 33, 3)) (h : is S 7 a) (k : X E M n1 n2 ad S (pc + 3) lv (aR (hr S a 10) :: st)) : X E M n1 n2 ad S pc lv (aA a :: st) := fun hO H locs ls hW hl => va_get (v := va_rf ((hr S a 10).map ad)) hO.1 hO.2.1 hO.2.2.2.2.1 inG7 (by rw [← hM]; exact hO.2.2.2.1) hO.2.2.2.2.2.1 hW.1 a (wd_at hW h.1 (hcell_o 7 h.2 (by decide))) rfl 10 (by decide) (hO.2.2.2.2.1 _ l_f7_10) (fun _ h9 => h9) rfl hd (by rw [← vl_ref]; exact k hO H locs ls hW hl)
theorem x_p7_10 {a : Nat} {v : Nat} (hM : M.1.cls = RX7) (hN : M.1.name = "<init>") (hd : decode M.2.1 pc = .ok (.putfield 33, 3)) (h : is S 7 a)  (k : X E M n1 n2 ad (sR S a 10 (some v)) (pc + 3) lv st) : X E M n1 n2 ad S pc lv (aA v :: aA a :: st) := by
  intro hO H locs ls hW hl
  refine va_putF (v := .ref (ad v)) hO.1 hO.2.1 hO.2.2.2.2.1 inG7 tyX7 tyX7_ok nmX7 (by rw [← hM]; exact hO.2.2.2.1) hO.2.2.2.2.2.1 hW.1 hW.2.1 hW.2.2 a (wd_at hW h.1 (hcell_o 7 h.2 (by decide))) rfl 10 (by decide) (hO.2.2.2.2.1 _ l_f7_10) (fun _ h9 => h9) rfl (hO.2.2.2.2.2.2.2.1.trans hN) rfl (tyX7_ok 10 (by decide)) rfl rfl (by simp [fvs, fty]) hd (fun H1 locs1 hP hD hS => ?_)
  rw [wld_set (S := S) (S' := sR S a 10 (some v)) rfl ((hcell_o (S := sR S a 10 (some v)) 7 h.2 (by decide)).trans (congrArg (fun l => (Sum.inr (7 + 1, l) : va_E)) (fvs_set (S := S) (S' := sR S a 10 (some v)) (ad := ad) (a := a) (v := .ref (ad v)) (fty 7) 0 10 (fun i h0 => rfl) (fun i h0 => rfl) (fun i h0 => up2_ne _ _ (Or.inr (by omega))) (congrArg (fun z : Option Nat => some (va_rf (z.map ad))) (up2_same (hr S) a 10 (some v)))).symm)) (fun b hb => hcell_sR hb)] at hP hD
  exact k hO H1 locs1 ls ⟨hP, hD, hS⟩ hl
theorem l_f7_11 : Cond.fieldLink RX7 36 "AreaCrossingsModel" "ruleFrom" "[I" ∈ tbG := tbG_in (w := .fieldLink RX7 36 "AreaCrossingsModel" "ruleFrom" "[I") (by decide +kernel) rfl
theorem x_g7_11 {a : Nat} (hM : M.1.cls = RX7) (hd : decode M.2.1 pc = .ok (.getfield 36, 3)) (h : is S 7 a) (k : X E M n1 n2 ad S (pc + 3) lv (aR (hr S a 11) :: st)) : X E M n1 n2 ad S pc lv (aA a :: st) := fun hO H locs ls hW hl => va_get (v := va_rf ((hr S a 11).map ad)) hO.1 hO.2.1 hO.2.2.2.2.1 inG7 (by rw [← hM]; exact hO.2.2.2.1) hO.2.2.2.2.2.1 hW.1 a (wd_at hW h.1 (hcell_o 7 h.2 (by decide))) rfl 11 (by decide) (hO.2.2.2.2.1 _ l_f7_11) (fun _ h9 => h9) rfl hd (by rw [← vl_ref]; exact k hO H locs ls hW hl)
theorem x_p7_11 {a : Nat} {v : Nat} (hM : M.1.cls = RX7) (hN : M.1.name = "<init>") (hd : decode M.2.1 pc = .ok (.putfield 36, 3)) (h : is S 7 a)  (k : X E M n1 n2 ad (sR S a 11 (some v)) (pc + 3) lv st) : X E M n1 n2 ad S pc lv (aA v :: aA a :: st) := by
  intro hO H locs ls hW hl
  refine va_putF (v := .ref (ad v)) hO.1 hO.2.1 hO.2.2.2.2.1 inG7 tyX7 tyX7_ok nmX7 (by rw [← hM]; exact hO.2.2.2.1) hO.2.2.2.2.2.1 hW.1 hW.2.1 hW.2.2 a (wd_at hW h.1 (hcell_o 7 h.2 (by decide))) rfl 11 (by decide) (hO.2.2.2.2.1 _ l_f7_11) (fun _ h9 => h9) rfl (hO.2.2.2.2.2.2.2.1.trans hN) rfl (tyX7_ok 11 (by decide)) rfl rfl (by simp [fvs, fty]) hd (fun H1 locs1 hP hD hS => ?_)
  rw [wld_set (S := S) (S' := sR S a 11 (some v)) rfl ((hcell_o (S := sR S a 11 (some v)) 7 h.2 (by decide)).trans (congrArg (fun l => (Sum.inr (7 + 1, l) : va_E)) (fvs_set (S := S) (S' := sR S a 11 (some v)) (ad := ad) (a := a) (v := .ref (ad v)) (fty 7) 0 11 (fun i h0 => rfl) (fun i h0 => rfl) (fun i h0 => up2_ne _ _ (Or.inr (by omega))) (congrArg (fun z : Option Nat => some (va_rf (z.map ad))) (up2_same (hr S) a 11 (some v)))).symm)) (fun b hb => hcell_sR hb)] at hP hD
  exact k hO H1 locs1 ls ⟨hP, hD, hS⟩ hl
theorem l_f7_12 : Cond.fieldLink RX7 39 "AreaCrossingsModel" "ruleTo" "[I" ∈ tbG := tbG_in (w := .fieldLink RX7 39 "AreaCrossingsModel" "ruleTo" "[I") (by decide +kernel) rfl
theorem x_g7_12 {a : Nat} (hM : M.1.cls = RX7) (hd : decode M.2.1 pc = .ok (.getfield 39, 3)) (h : is S 7 a) (k : X E M n1 n2 ad S (pc + 3) lv (aR (hr S a 12) :: st)) : X E M n1 n2 ad S pc lv (aA a :: st) := fun hO H locs ls hW hl => va_get (v := va_rf ((hr S a 12).map ad)) hO.1 hO.2.1 hO.2.2.2.2.1 inG7 (by rw [← hM]; exact hO.2.2.2.1) hO.2.2.2.2.2.1 hW.1 a (wd_at hW h.1 (hcell_o 7 h.2 (by decide))) rfl 12 (by decide) (hO.2.2.2.2.1 _ l_f7_12) (fun _ h9 => h9) rfl hd (by rw [← vl_ref]; exact k hO H locs ls hW hl)
theorem x_p7_12 {a : Nat} {v : Nat} (hM : M.1.cls = RX7) (hN : M.1.name = "<init>") (hd : decode M.2.1 pc = .ok (.putfield 39, 3)) (h : is S 7 a)  (k : X E M n1 n2 ad (sR S a 12 (some v)) (pc + 3) lv st) : X E M n1 n2 ad S pc lv (aA v :: aA a :: st) := by
  intro hO H locs ls hW hl
  refine va_putF (v := .ref (ad v)) hO.1 hO.2.1 hO.2.2.2.2.1 inG7 tyX7 tyX7_ok nmX7 (by rw [← hM]; exact hO.2.2.2.1) hO.2.2.2.2.2.1 hW.1 hW.2.1 hW.2.2 a (wd_at hW h.1 (hcell_o 7 h.2 (by decide))) rfl 12 (by decide) (hO.2.2.2.2.1 _ l_f7_12) (fun _ h9 => h9) rfl (hO.2.2.2.2.2.2.2.1.trans hN) rfl (tyX7_ok 12 (by decide)) rfl rfl (by simp [fvs, fty]) hd (fun H1 locs1 hP hD hS => ?_)
  rw [wld_set (S := S) (S' := sR S a 12 (some v)) rfl ((hcell_o (S := sR S a 12 (some v)) 7 h.2 (by decide)).trans (congrArg (fun l => (Sum.inr (7 + 1, l) : va_E)) (fvs_set (S := S) (S' := sR S a 12 (some v)) (ad := ad) (a := a) (v := .ref (ad v)) (fty 7) 0 12 (fun i h0 => rfl) (fun i h0 => rfl) (fun i h0 => up2_ne _ _ (Or.inr (by omega))) (congrArg (fun z : Option Nat => some (va_rf (z.map ad))) (up2_same (hr S) a 12 (some v)))).symm)) (fun b hb => hcell_sR hb)] at hP hD
  exact k hO H1 locs1 ls ⟨hP, hD, hS⟩ hl
theorem l_f7_13 : Cond.fieldLink RX7 161 "AreaCrossingsModel" "tracks" "I" ∈ tbG := tbG_in (w := .fieldLink RX7 161 "AreaCrossingsModel" "tracks" "I") (by decide +kernel) rfl
theorem x_g7_13 {a : Nat} (hM : M.1.cls = RX7) (hd : decode M.2.1 pc = .ok (.getfield 161, 3)) (h : is S 7 a) (k : X E M n1 n2 ad S (pc + 3) lv (aI (hi S a 13) :: st)) : X E M n1 n2 ad S pc lv (aA a :: st) := fun hO H locs ls hW hl => va_get (v := .int (hi S a 13)) hO.1 hO.2.1 hO.2.2.2.2.1 inG7 (by rw [← hM]; exact hO.2.2.2.1) hO.2.2.2.2.2.1 hW.1 a (wd_at hW h.1 (hcell_o 7 h.2 (by decide))) rfl 13 (by decide) (hO.2.2.2.2.1 _ l_f7_13) (fun _ h9 => h9) rfl hd (k hO H locs ls hW hl)
theorem x_p7_13 {a : Nat} {v : Int32} (hM : M.1.cls = RX7)  (hd : decode M.2.1 pc = .ok (.putfield 161, 3)) (h : is S 7 a)  (k : X E M n1 n2 ad (sI S a 13 v) (pc + 3) lv st) : X E M n1 n2 ad S pc lv (aI v :: aA a :: st) := by
  intro hO H locs ls hW hl
  refine va_put (v := .int v) hO.1 hO.2.1 hO.2.2.2.2.1 inG7 tyX7 tyX7_ok nmX7 (by rw [← hM]; exact hO.2.2.2.1) hO.2.2.2.2.2.1 hW.1 hW.2.1 hW.2.2 a (wd_at hW h.1 (hcell_o 7 h.2 (by decide))) rfl 13 (by decide) (hO.2.2.2.2.1 _ l_f7_13) (fun _ h9 => h9) rfl (tyX7_ok 13 (by decide)) rfl rfl (by simp [fvs, fty]) hd (fun H1 locs1 hP hD hS => ?_)
  rw [wld_set (S := S) (S' := sI S a 13 v) rfl ((hcell_o (S := sI S a 13 v) 7 h.2 (by decide)).trans (congrArg (fun l => (Sum.inr (7 + 1, l) : va_E)) (fvs_set (S := S) (S' := sI S a 13 v) (ad := ad) (a := a) (v := .int v) (fty 7) 0 13 (fun i h0 => up2_ne _ _ (Or.inr (by omega))) (fun i h0 => rfl) (fun i h0 => rfl) (congrArg (fun z => some (Value.int z)) (up2_same (hi S) a 13 v))).symm)) (fun b hb => hcell_sI hb)] at hP hD
  exact k hO H1 locs1 ls ⟨hP, hD, hS⟩ hl
theorem l_f7_14 : Cond.fieldLink RX7 42 "AreaCrossingsModel" "places" "[I" ∈ tbG := tbG_in (w := .fieldLink RX7 42 "AreaCrossingsModel" "places" "[I") (by decide +kernel) rfl
theorem x_g7_14 {a : Nat} (hM : M.1.cls = RX7) (hd : decode M.2.1 pc = .ok (.getfield 42, 3)) (h : is S 7 a) (k : X E M n1 n2 ad S (pc + 3) lv (aR (hr S a 14) :: st)) : X E M n1 n2 ad S pc lv (aA a :: st) := fun hO H locs ls hW hl => va_get (v := va_rf ((hr S a 14).map ad)) hO.1 hO.2.1 hO.2.2.2.2.1 inG7 (by rw [← hM]; exact hO.2.2.2.1) hO.2.2.2.2.2.1 hW.1 a (wd_at hW h.1 (hcell_o 7 h.2 (by decide))) rfl 14 (by decide) (hO.2.2.2.2.1 _ l_f7_14) (fun _ h9 => h9) rfl hd (by rw [← vl_ref]; exact k hO H locs ls hW hl)
theorem x_p7_14 {a : Nat} {v : Nat} (hM : M.1.cls = RX7) (hN : M.1.name = "<init>") (hd : decode M.2.1 pc = .ok (.putfield 42, 3)) (h : is S 7 a)  (k : X E M n1 n2 ad (sR S a 14 (some v)) (pc + 3) lv st) : X E M n1 n2 ad S pc lv (aA v :: aA a :: st) := by
  intro hO H locs ls hW hl
  refine va_putF (v := .ref (ad v)) hO.1 hO.2.1 hO.2.2.2.2.1 inG7 tyX7 tyX7_ok nmX7 (by rw [← hM]; exact hO.2.2.2.1) hO.2.2.2.2.2.1 hW.1 hW.2.1 hW.2.2 a (wd_at hW h.1 (hcell_o 7 h.2 (by decide))) rfl 14 (by decide) (hO.2.2.2.2.1 _ l_f7_14) (fun _ h9 => h9) rfl (hO.2.2.2.2.2.2.2.1.trans hN) rfl (tyX7_ok 14 (by decide)) rfl rfl (by simp [fvs, fty]) hd (fun H1 locs1 hP hD hS => ?_)
  rw [wld_set (S := S) (S' := sR S a 14 (some v)) rfl ((hcell_o (S := sR S a 14 (some v)) 7 h.2 (by decide)).trans (congrArg (fun l => (Sum.inr (7 + 1, l) : va_E)) (fvs_set (S := S) (S' := sR S a 14 (some v)) (ad := ad) (a := a) (v := .ref (ad v)) (fty 7) 0 14 (fun i h0 => rfl) (fun i h0 => rfl) (fun i h0 => up2_ne _ _ (Or.inr (by omega))) (congrArg (fun z : Option Nat => some (va_rf (z.map ad))) (up2_same (hr S) a 14 (some v)))).symm)) (fun b hb => hcell_sR hb)] at hP hD
  exact k hO H1 locs1 ls ⟨hP, hD, hS⟩ hl
theorem l_f7_15 : Cond.fieldLink RX7 45 "AreaCrossingsModel" "seconds" "[J" ∈ tbG := tbG_in (w := .fieldLink RX7 45 "AreaCrossingsModel" "seconds" "[J") (by decide +kernel) rfl
theorem x_g7_15 {a : Nat} (hM : M.1.cls = RX7) (hd : decode M.2.1 pc = .ok (.getfield 45, 3)) (h : is S 7 a) (k : X E M n1 n2 ad S (pc + 3) lv (aR (hr S a 15) :: st)) : X E M n1 n2 ad S pc lv (aA a :: st) := fun hO H locs ls hW hl => va_get (v := va_rf ((hr S a 15).map ad)) hO.1 hO.2.1 hO.2.2.2.2.1 inG7 (by rw [← hM]; exact hO.2.2.2.1) hO.2.2.2.2.2.1 hW.1 a (wd_at hW h.1 (hcell_o 7 h.2 (by decide))) rfl 15 (by decide) (hO.2.2.2.2.1 _ l_f7_15) (fun _ h9 => h9) rfl hd (by rw [← vl_ref]; exact k hO H locs ls hW hl)
theorem x_p7_15 {a : Nat} {v : Nat} (hM : M.1.cls = RX7) (hN : M.1.name = "<init>") (hd : decode M.2.1 pc = .ok (.putfield 45, 3)) (h : is S 7 a)  (k : X E M n1 n2 ad (sR S a 15 (some v)) (pc + 3) lv st) : X E M n1 n2 ad S pc lv (aA v :: aA a :: st) := by
  intro hO H locs ls hW hl
  refine va_putF (v := .ref (ad v)) hO.1 hO.2.1 hO.2.2.2.2.1 inG7 tyX7 tyX7_ok nmX7 (by rw [← hM]; exact hO.2.2.2.1) hO.2.2.2.2.2.1 hW.1 hW.2.1 hW.2.2 a (wd_at hW h.1 (hcell_o 7 h.2 (by decide))) rfl 15 (by decide) (hO.2.2.2.2.1 _ l_f7_15) (fun _ h9 => h9) rfl (hO.2.2.2.2.2.2.2.1.trans hN) rfl (tyX7_ok 15 (by decide)) rfl rfl (by simp [fvs, fty]) hd (fun H1 locs1 hP hD hS => ?_)
  rw [wld_set (S := S) (S' := sR S a 15 (some v)) rfl ((hcell_o (S := sR S a 15 (some v)) 7 h.2 (by decide)).trans (congrArg (fun l => (Sum.inr (7 + 1, l) : va_E)) (fvs_set (S := S) (S' := sR S a 15 (some v)) (ad := ad) (a := a) (v := .ref (ad v)) (fty 7) 0 15 (fun i h0 => rfl) (fun i h0 => rfl) (fun i h0 => up2_ne _ _ (Or.inr (by omega))) (congrArg (fun z : Option Nat => some (va_rf (z.map ad))) (up2_same (hr S) a 15 (some v)))).symm)) (fun b hb => hcell_sR hb)] at hP hD
  exact k hO H1 locs1 ls ⟨hP, hD, hS⟩ hl
theorem l_f7_16 : Cond.fieldLink RX7 48 "AreaCrossingsModel" "px" "[J" ∈ tbG := tbG_in (w := .fieldLink RX7 48 "AreaCrossingsModel" "px" "[J") (by decide +kernel) rfl
theorem x_g7_16 {a : Nat} (hM : M.1.cls = RX7) (hd : decode M.2.1 pc = .ok (.getfield 48, 3)) (h : is S 7 a) (k : X E M n1 n2 ad S (pc + 3) lv (aR (hr S a 16) :: st)) : X E M n1 n2 ad S pc lv (aA a :: st) := fun hO H locs ls hW hl => va_get (v := va_rf ((hr S a 16).map ad)) hO.1 hO.2.1 hO.2.2.2.2.1 inG7 (by rw [← hM]; exact hO.2.2.2.1) hO.2.2.2.2.2.1 hW.1 a (wd_at hW h.1 (hcell_o 7 h.2 (by decide))) rfl 16 (by decide) (hO.2.2.2.2.1 _ l_f7_16) (fun _ h9 => h9) rfl hd (by rw [← vl_ref]; exact k hO H locs ls hW hl)
theorem x_p7_16 {a : Nat} {v : Nat} (hM : M.1.cls = RX7) (hN : M.1.name = "<init>") (hd : decode M.2.1 pc = .ok (.putfield 48, 3)) (h : is S 7 a)  (k : X E M n1 n2 ad (sR S a 16 (some v)) (pc + 3) lv st) : X E M n1 n2 ad S pc lv (aA v :: aA a :: st) := by
  intro hO H locs ls hW hl
  refine va_putF (v := .ref (ad v)) hO.1 hO.2.1 hO.2.2.2.2.1 inG7 tyX7 tyX7_ok nmX7 (by rw [← hM]; exact hO.2.2.2.1) hO.2.2.2.2.2.1 hW.1 hW.2.1 hW.2.2 a (wd_at hW h.1 (hcell_o 7 h.2 (by decide))) rfl 16 (by decide) (hO.2.2.2.2.1 _ l_f7_16) (fun _ h9 => h9) rfl (hO.2.2.2.2.2.2.2.1.trans hN) rfl (tyX7_ok 16 (by decide)) rfl rfl (by simp [fvs, fty]) hd (fun H1 locs1 hP hD hS => ?_)
  rw [wld_set (S := S) (S' := sR S a 16 (some v)) rfl ((hcell_o (S := sR S a 16 (some v)) 7 h.2 (by decide)).trans (congrArg (fun l => (Sum.inr (7 + 1, l) : va_E)) (fvs_set (S := S) (S' := sR S a 16 (some v)) (ad := ad) (a := a) (v := .ref (ad v)) (fty 7) 0 16 (fun i h0 => rfl) (fun i h0 => rfl) (fun i h0 => up2_ne _ _ (Or.inr (by omega))) (congrArg (fun z : Option Nat => some (va_rf (z.map ad))) (up2_same (hr S) a 16 (some v)))).symm)) (fun b hb => hcell_sR hb)] at hP hD
  exact k hO H1 locs1 ls ⟨hP, hD, hS⟩ hl
theorem l_f7_17 : Cond.fieldLink RX7 51 "AreaCrossingsModel" "py" "[J" ∈ tbG := tbG_in (w := .fieldLink RX7 51 "AreaCrossingsModel" "py" "[J") (by decide +kernel) rfl
theorem x_g7_17 {a : Nat} (hM : M.1.cls = RX7) (hd : decode M.2.1 pc = .ok (.getfield 51, 3)) (h : is S 7 a) (k : X E M n1 n2 ad S (pc + 3) lv (aR (hr S a 17) :: st)) : X E M n1 n2 ad S pc lv (aA a :: st) := fun hO H locs ls hW hl => va_get (v := va_rf ((hr S a 17).map ad)) hO.1 hO.2.1 hO.2.2.2.2.1 inG7 (by rw [← hM]; exact hO.2.2.2.1) hO.2.2.2.2.2.1 hW.1 a (wd_at hW h.1 (hcell_o 7 h.2 (by decide))) rfl 17 (by decide) (hO.2.2.2.2.1 _ l_f7_17) (fun _ h9 => h9) rfl hd (by rw [← vl_ref]; exact k hO H locs ls hW hl)
theorem x_p7_17 {a : Nat} {v : Nat} (hM : M.1.cls = RX7) (hN : M.1.name = "<init>") (hd : decode M.2.1 pc = .ok (.putfield 51, 3)) (h : is S 7 a)  (k : X E M n1 n2 ad (sR S a 17 (some v)) (pc + 3) lv st) : X E M n1 n2 ad S pc lv (aA v :: aA a :: st) := by
  intro hO H locs ls hW hl
  refine va_putF (v := .ref (ad v)) hO.1 hO.2.1 hO.2.2.2.2.1 inG7 tyX7 tyX7_ok nmX7 (by rw [← hM]; exact hO.2.2.2.1) hO.2.2.2.2.2.1 hW.1 hW.2.1 hW.2.2 a (wd_at hW h.1 (hcell_o 7 h.2 (by decide))) rfl 17 (by decide) (hO.2.2.2.2.1 _ l_f7_17) (fun _ h9 => h9) rfl (hO.2.2.2.2.2.2.2.1.trans hN) rfl (tyX7_ok 17 (by decide)) rfl rfl (by simp [fvs, fty]) hd (fun H1 locs1 hP hD hS => ?_)
  rw [wld_set (S := S) (S' := sR S a 17 (some v)) rfl ((hcell_o (S := sR S a 17 (some v)) 7 h.2 (by decide)).trans (congrArg (fun l => (Sum.inr (7 + 1, l) : va_E)) (fvs_set (S := S) (S' := sR S a 17 (some v)) (ad := ad) (a := a) (v := .ref (ad v)) (fty 7) 0 17 (fun i h0 => rfl) (fun i h0 => rfl) (fun i h0 => up2_ne _ _ (Or.inr (by omega))) (congrArg (fun z : Option Nat => some (va_rf (z.map ad))) (up2_same (hr S) a 17 (some v)))).symm)) (fun b hb => hcell_sR hb)] at hP hD
  exact k hO H1 locs1 ls ⟨hP, hD, hS⟩ hl
theorem l_f7_18 : Cond.fieldLink RX7 219 "AreaCrossingsModel" "many" "I" ∈ tbG := tbG_in (w := .fieldLink RX7 219 "AreaCrossingsModel" "many" "I") (by decide +kernel) rfl
theorem x_g7_18 {a : Nat} (hM : M.1.cls = RX7) (hd : decode M.2.1 pc = .ok (.getfield 219, 3)) (h : is S 7 a) (k : X E M n1 n2 ad S (pc + 3) lv (aI (hi S a 18) :: st)) : X E M n1 n2 ad S pc lv (aA a :: st) := fun hO H locs ls hW hl => va_get (v := .int (hi S a 18)) hO.1 hO.2.1 hO.2.2.2.2.1 inG7 (by rw [← hM]; exact hO.2.2.2.1) hO.2.2.2.2.2.1 hW.1 a (wd_at hW h.1 (hcell_o 7 h.2 (by decide))) rfl 18 (by decide) (hO.2.2.2.2.1 _ l_f7_18) (fun _ h9 => h9) rfl hd (k hO H locs ls hW hl)
theorem x_p7_18 {a : Nat} {v : Int32} (hM : M.1.cls = RX7)  (hd : decode M.2.1 pc = .ok (.putfield 219, 3)) (h : is S 7 a)  (k : X E M n1 n2 ad (sI S a 18 v) (pc + 3) lv st) : X E M n1 n2 ad S pc lv (aI v :: aA a :: st) := by
  intro hO H locs ls hW hl
  refine va_put (v := .int v) hO.1 hO.2.1 hO.2.2.2.2.1 inG7 tyX7 tyX7_ok nmX7 (by rw [← hM]; exact hO.2.2.2.1) hO.2.2.2.2.2.1 hW.1 hW.2.1 hW.2.2 a (wd_at hW h.1 (hcell_o 7 h.2 (by decide))) rfl 18 (by decide) (hO.2.2.2.2.1 _ l_f7_18) (fun _ h9 => h9) rfl (tyX7_ok 18 (by decide)) rfl rfl (by simp [fvs, fty]) hd (fun H1 locs1 hP hD hS => ?_)
  rw [wld_set (S := S) (S' := sI S a 18 v) rfl ((hcell_o (S := sI S a 18 v) 7 h.2 (by decide)).trans (congrArg (fun l => (Sum.inr (7 + 1, l) : va_E)) (fvs_set (S := S) (S' := sI S a 18 v) (ad := ad) (a := a) (v := .int v) (fty 7) 0 18 (fun i h0 => up2_ne _ _ (Or.inr (by omega))) (fun i h0 => rfl) (fun i h0 => rfl) (congrArg (fun z => some (Value.int z)) (up2_same (hi S) a 18 v))).symm)) (fun b hb => hcell_sI hb)] at hP hD
  exact k hO H1 locs1 ls ⟨hP, hD, hS⟩ hl
theorem l_f7_19 : Cond.fieldLink RX7 54 "AreaCrossingsModel" "told" "[J" ∈ tbG := tbG_in (w := .fieldLink RX7 54 "AreaCrossingsModel" "told" "[J") (by decide +kernel) rfl
theorem x_g7_19 {a : Nat} (hM : M.1.cls = RX7) (hd : decode M.2.1 pc = .ok (.getfield 54, 3)) (h : is S 7 a) (k : X E M n1 n2 ad S (pc + 3) lv (aR (hr S a 19) :: st)) : X E M n1 n2 ad S pc lv (aA a :: st) := fun hO H locs ls hW hl => va_get (v := va_rf ((hr S a 19).map ad)) hO.1 hO.2.1 hO.2.2.2.2.1 inG7 (by rw [← hM]; exact hO.2.2.2.1) hO.2.2.2.2.2.1 hW.1 a (wd_at hW h.1 (hcell_o 7 h.2 (by decide))) rfl 19 (by decide) (hO.2.2.2.2.1 _ l_f7_19) (fun _ h9 => h9) rfl hd (by rw [← vl_ref]; exact k hO H locs ls hW hl)
theorem x_p7_19 {a : Nat} {v : Nat} (hM : M.1.cls = RX7) (hN : M.1.name = "<init>") (hd : decode M.2.1 pc = .ok (.putfield 54, 3)) (h : is S 7 a)  (k : X E M n1 n2 ad (sR S a 19 (some v)) (pc + 3) lv st) : X E M n1 n2 ad S pc lv (aA v :: aA a :: st) := by
  intro hO H locs ls hW hl
  refine va_putF (v := .ref (ad v)) hO.1 hO.2.1 hO.2.2.2.2.1 inG7 tyX7 tyX7_ok nmX7 (by rw [← hM]; exact hO.2.2.2.1) hO.2.2.2.2.2.1 hW.1 hW.2.1 hW.2.2 a (wd_at hW h.1 (hcell_o 7 h.2 (by decide))) rfl 19 (by decide) (hO.2.2.2.2.1 _ l_f7_19) (fun _ h9 => h9) rfl (hO.2.2.2.2.2.2.2.1.trans hN) rfl (tyX7_ok 19 (by decide)) rfl rfl (by simp [fvs, fty]) hd (fun H1 locs1 hP hD hS => ?_)
  rw [wld_set (S := S) (S' := sR S a 19 (some v)) rfl ((hcell_o (S := sR S a 19 (some v)) 7 h.2 (by decide)).trans (congrArg (fun l => (Sum.inr (7 + 1, l) : va_E)) (fvs_set (S := S) (S' := sR S a 19 (some v)) (ad := ad) (a := a) (v := .ref (ad v)) (fty 7) 0 19 (fun i h0 => rfl) (fun i h0 => rfl) (fun i h0 => up2_ne _ _ (Or.inr (by omega))) (congrArg (fun z : Option Nat => some (va_rf (z.map ad))) (up2_same (hr S) a 19 (some v)))).symm)) (fun b hb => hcell_sR hb)] at hP hD
  exact k hO H1 locs1 ls ⟨hP, hD, hS⟩ hl
theorem l_f7_20 : Cond.fieldLink RX7 203 "AreaCrossingsModel" "drafts" "I" ∈ tbG := tbG_in (w := .fieldLink RX7 203 "AreaCrossingsModel" "drafts" "I") (by decide +kernel) rfl
theorem x_g7_20 {a : Nat} (hM : M.1.cls = RX7) (hd : decode M.2.1 pc = .ok (.getfield 203, 3)) (h : is S 7 a) (k : X E M n1 n2 ad S (pc + 3) lv (aI (hi S a 20) :: st)) : X E M n1 n2 ad S pc lv (aA a :: st) := fun hO H locs ls hW hl => va_get (v := .int (hi S a 20)) hO.1 hO.2.1 hO.2.2.2.2.1 inG7 (by rw [← hM]; exact hO.2.2.2.1) hO.2.2.2.2.2.1 hW.1 a (wd_at hW h.1 (hcell_o 7 h.2 (by decide))) rfl 20 (by decide) (hO.2.2.2.2.1 _ l_f7_20) (fun _ h9 => h9) rfl hd (k hO H locs ls hW hl)
theorem x_p7_20 {a : Nat} {v : Int32} (hM : M.1.cls = RX7)  (hd : decode M.2.1 pc = .ok (.putfield 203, 3)) (h : is S 7 a)  (k : X E M n1 n2 ad (sI S a 20 v) (pc + 3) lv st) : X E M n1 n2 ad S pc lv (aI v :: aA a :: st) := by
  intro hO H locs ls hW hl
  refine va_put (v := .int v) hO.1 hO.2.1 hO.2.2.2.2.1 inG7 tyX7 tyX7_ok nmX7 (by rw [← hM]; exact hO.2.2.2.1) hO.2.2.2.2.2.1 hW.1 hW.2.1 hW.2.2 a (wd_at hW h.1 (hcell_o 7 h.2 (by decide))) rfl 20 (by decide) (hO.2.2.2.2.1 _ l_f7_20) (fun _ h9 => h9) rfl (tyX7_ok 20 (by decide)) rfl rfl (by simp [fvs, fty]) hd (fun H1 locs1 hP hD hS => ?_)
  rw [wld_set (S := S) (S' := sI S a 20 v) rfl ((hcell_o (S := sI S a 20 v) 7 h.2 (by decide)).trans (congrArg (fun l => (Sum.inr (7 + 1, l) : va_E)) (fvs_set (S := S) (S' := sI S a 20 v) (ad := ad) (a := a) (v := .int v) (fty 7) 0 20 (fun i h0 => up2_ne _ _ (Or.inr (by omega))) (fun i h0 => rfl) (fun i h0 => rfl) (congrArg (fun z => some (Value.int z)) (up2_same (hi S) a 20 v))).symm)) (fun b hb => hcell_sI hb)] at hP hD
  exact k hO H1 locs1 ls ⟨hP, hD, hS⟩ hl
theorem l_f7_21 : Cond.fieldLink RX7 57 "AreaCrossingsModel" "draft" "[J" ∈ tbG := tbG_in (w := .fieldLink RX7 57 "AreaCrossingsModel" "draft" "[J") (by decide +kernel) rfl
theorem x_g7_21 {a : Nat} (hM : M.1.cls = RX7) (hd : decode M.2.1 pc = .ok (.getfield 57, 3)) (h : is S 7 a) (k : X E M n1 n2 ad S (pc + 3) lv (aR (hr S a 21) :: st)) : X E M n1 n2 ad S pc lv (aA a :: st) := fun hO H locs ls hW hl => va_get (v := va_rf ((hr S a 21).map ad)) hO.1 hO.2.1 hO.2.2.2.2.1 inG7 (by rw [← hM]; exact hO.2.2.2.1) hO.2.2.2.2.2.1 hW.1 a (wd_at hW h.1 (hcell_o 7 h.2 (by decide))) rfl 21 (by decide) (hO.2.2.2.2.1 _ l_f7_21) (fun _ h9 => h9) rfl hd (by rw [← vl_ref]; exact k hO H locs ls hW hl)
theorem x_p7_21 {a : Nat} {v : Nat} (hM : M.1.cls = RX7) (hN : M.1.name = "<init>") (hd : decode M.2.1 pc = .ok (.putfield 57, 3)) (h : is S 7 a)  (k : X E M n1 n2 ad (sR S a 21 (some v)) (pc + 3) lv st) : X E M n1 n2 ad S pc lv (aA v :: aA a :: st) := by
  intro hO H locs ls hW hl
  refine va_putF (v := .ref (ad v)) hO.1 hO.2.1 hO.2.2.2.2.1 inG7 tyX7 tyX7_ok nmX7 (by rw [← hM]; exact hO.2.2.2.1) hO.2.2.2.2.2.1 hW.1 hW.2.1 hW.2.2 a (wd_at hW h.1 (hcell_o 7 h.2 (by decide))) rfl 21 (by decide) (hO.2.2.2.2.1 _ l_f7_21) (fun _ h9 => h9) rfl (hO.2.2.2.2.2.2.2.1.trans hN) rfl (tyX7_ok 21 (by decide)) rfl rfl (by simp [fvs, fty]) hd (fun H1 locs1 hP hD hS => ?_)
  rw [wld_set (S := S) (S' := sR S a 21 (some v)) rfl ((hcell_o (S := sR S a 21 (some v)) 7 h.2 (by decide)).trans (congrArg (fun l => (Sum.inr (7 + 1, l) : va_E)) (fvs_set (S := S) (S' := sR S a 21 (some v)) (ad := ad) (a := a) (v := .ref (ad v)) (fty 7) 0 21 (fun i h0 => rfl) (fun i h0 => rfl) (fun i h0 => up2_ne _ _ (Or.inr (by omega))) (congrArg (fun z : Option Nat => some (va_rf (z.map ad))) (up2_same (hr S) a 21 (some v)))).symm)) (fun b hb => hcell_sR hb)] at hP hD
  exact k hO H1 locs1 ls ⟨hP, hD, hS⟩ hl
theorem l_f7_22 : Cond.fieldLink RX7 183 "AreaCrossingsModel" "cuts" "I" ∈ tbG := tbG_in (w := .fieldLink RX7 183 "AreaCrossingsModel" "cuts" "I") (by decide +kernel) rfl
theorem x_g7_22 {a : Nat} (hM : M.1.cls = RX7) (hd : decode M.2.1 pc = .ok (.getfield 183, 3)) (h : is S 7 a) (k : X E M n1 n2 ad S (pc + 3) lv (aI (hi S a 22) :: st)) : X E M n1 n2 ad S pc lv (aA a :: st) := fun hO H locs ls hW hl => va_get (v := .int (hi S a 22)) hO.1 hO.2.1 hO.2.2.2.2.1 inG7 (by rw [← hM]; exact hO.2.2.2.1) hO.2.2.2.2.2.1 hW.1 a (wd_at hW h.1 (hcell_o 7 h.2 (by decide))) rfl 22 (by decide) (hO.2.2.2.2.1 _ l_f7_22) (fun _ h9 => h9) rfl hd (k hO H locs ls hW hl)
theorem x_p7_22 {a : Nat} {v : Int32} (hM : M.1.cls = RX7)  (hd : decode M.2.1 pc = .ok (.putfield 183, 3)) (h : is S 7 a)  (k : X E M n1 n2 ad (sI S a 22 v) (pc + 3) lv st) : X E M n1 n2 ad S pc lv (aI v :: aA a :: st) := by
  intro hO H locs ls hW hl
  refine va_put (v := .int v) hO.1 hO.2.1 hO.2.2.2.2.1 inG7 tyX7 tyX7_ok nmX7 (by rw [← hM]; exact hO.2.2.2.1) hO.2.2.2.2.2.1 hW.1 hW.2.1 hW.2.2 a (wd_at hW h.1 (hcell_o 7 h.2 (by decide))) rfl 22 (by decide) (hO.2.2.2.2.1 _ l_f7_22) (fun _ h9 => h9) rfl (tyX7_ok 22 (by decide)) rfl rfl (by simp [fvs, fty]) hd (fun H1 locs1 hP hD hS => ?_)
  rw [wld_set (S := S) (S' := sI S a 22 v) rfl ((hcell_o (S := sI S a 22 v) 7 h.2 (by decide)).trans (congrArg (fun l => (Sum.inr (7 + 1, l) : va_E)) (fvs_set (S := S) (S' := sI S a 22 v) (ad := ad) (a := a) (v := .int v) (fty 7) 0 22 (fun i h0 => up2_ne _ _ (Or.inr (by omega))) (fun i h0 => rfl) (fun i h0 => rfl) (congrArg (fun z => some (Value.int z)) (up2_same (hi S) a 22 v))).symm)) (fun b hb => hcell_sI hb)] at hP hD
  exact k hO H1 locs1 ls ⟨hP, hD, hS⟩ hl
theorem l_f7_23 : Cond.fieldLink RX7 60 "AreaCrossingsModel" "up" "[J" ∈ tbG := tbG_in (w := .fieldLink RX7 60 "AreaCrossingsModel" "up" "[J") (by decide +kernel) rfl
theorem x_g7_23 {a : Nat} (hM : M.1.cls = RX7) (hd : decode M.2.1 pc = .ok (.getfield 60, 3)) (h : is S 7 a) (k : X E M n1 n2 ad S (pc + 3) lv (aR (hr S a 23) :: st)) : X E M n1 n2 ad S pc lv (aA a :: st) := fun hO H locs ls hW hl => va_get (v := va_rf ((hr S a 23).map ad)) hO.1 hO.2.1 hO.2.2.2.2.1 inG7 (by rw [← hM]; exact hO.2.2.2.1) hO.2.2.2.2.2.1 hW.1 a (wd_at hW h.1 (hcell_o 7 h.2 (by decide))) rfl 23 (by decide) (hO.2.2.2.2.1 _ l_f7_23) (fun _ h9 => h9) rfl hd (by rw [← vl_ref]; exact k hO H locs ls hW hl)
theorem x_p7_23 {a : Nat} {v : Nat} (hM : M.1.cls = RX7) (hN : M.1.name = "<init>") (hd : decode M.2.1 pc = .ok (.putfield 60, 3)) (h : is S 7 a)  (k : X E M n1 n2 ad (sR S a 23 (some v)) (pc + 3) lv st) : X E M n1 n2 ad S pc lv (aA v :: aA a :: st) := by
  intro hO H locs ls hW hl
  refine va_putF (v := .ref (ad v)) hO.1 hO.2.1 hO.2.2.2.2.1 inG7 tyX7 tyX7_ok nmX7 (by rw [← hM]; exact hO.2.2.2.1) hO.2.2.2.2.2.1 hW.1 hW.2.1 hW.2.2 a (wd_at hW h.1 (hcell_o 7 h.2 (by decide))) rfl 23 (by decide) (hO.2.2.2.2.1 _ l_f7_23) (fun _ h9 => h9) rfl (hO.2.2.2.2.2.2.2.1.trans hN) rfl (tyX7_ok 23 (by decide)) rfl rfl (by simp [fvs, fty]) hd (fun H1 locs1 hP hD hS => ?_)
  rw [wld_set (S := S) (S' := sR S a 23 (some v)) rfl ((hcell_o (S := sR S a 23 (some v)) 7 h.2 (by decide)).trans (congrArg (fun l => (Sum.inr (7 + 1, l) : va_E)) (fvs_set (S := S) (S' := sR S a 23 (some v)) (ad := ad) (a := a) (v := .ref (ad v)) (fty 7) 0 23 (fun i h0 => rfl) (fun i h0 => rfl) (fun i h0 => up2_ne _ _ (Or.inr (by omega))) (congrArg (fun z : Option Nat => some (va_rf (z.map ad))) (up2_same (hr S) a 23 (some v)))).symm)) (fun b hb => hcell_sR hb)] at hP hD
  exact k hO H1 locs1 ls ⟨hP, hD, hS⟩ hl
theorem l_f7_24 : Cond.fieldLink RX7 63 "AreaCrossingsModel" "low" "[J" ∈ tbG := tbG_in (w := .fieldLink RX7 63 "AreaCrossingsModel" "low" "[J") (by decide +kernel) rfl
theorem x_g7_24 {a : Nat} (hM : M.1.cls = RX7) (hd : decode M.2.1 pc = .ok (.getfield 63, 3)) (h : is S 7 a) (k : X E M n1 n2 ad S (pc + 3) lv (aR (hr S a 24) :: st)) : X E M n1 n2 ad S pc lv (aA a :: st) := fun hO H locs ls hW hl => va_get (v := va_rf ((hr S a 24).map ad)) hO.1 hO.2.1 hO.2.2.2.2.1 inG7 (by rw [← hM]; exact hO.2.2.2.1) hO.2.2.2.2.2.1 hW.1 a (wd_at hW h.1 (hcell_o 7 h.2 (by decide))) rfl 24 (by decide) (hO.2.2.2.2.1 _ l_f7_24) (fun _ h9 => h9) rfl hd (by rw [← vl_ref]; exact k hO H locs ls hW hl)
theorem x_p7_24 {a : Nat} {v : Nat} (hM : M.1.cls = RX7) (hN : M.1.name = "<init>") (hd : decode M.2.1 pc = .ok (.putfield 63, 3)) (h : is S 7 a)  (k : X E M n1 n2 ad (sR S a 24 (some v)) (pc + 3) lv st) : X E M n1 n2 ad S pc lv (aA v :: aA a :: st) := by
  intro hO H locs ls hW hl
  refine va_putF (v := .ref (ad v)) hO.1 hO.2.1 hO.2.2.2.2.1 inG7 tyX7 tyX7_ok nmX7 (by rw [← hM]; exact hO.2.2.2.1) hO.2.2.2.2.2.1 hW.1 hW.2.1 hW.2.2 a (wd_at hW h.1 (hcell_o 7 h.2 (by decide))) rfl 24 (by decide) (hO.2.2.2.2.1 _ l_f7_24) (fun _ h9 => h9) rfl (hO.2.2.2.2.2.2.2.1.trans hN) rfl (tyX7_ok 24 (by decide)) rfl rfl (by simp [fvs, fty]) hd (fun H1 locs1 hP hD hS => ?_)
  rw [wld_set (S := S) (S' := sR S a 24 (some v)) rfl ((hcell_o (S := sR S a 24 (some v)) 7 h.2 (by decide)).trans (congrArg (fun l => (Sum.inr (7 + 1, l) : va_E)) (fvs_set (S := S) (S' := sR S a 24 (some v)) (ad := ad) (a := a) (v := .ref (ad v)) (fty 7) 0 24 (fun i h0 => rfl) (fun i h0 => rfl) (fun i h0 => up2_ne _ _ (Or.inr (by omega))) (congrArg (fun z : Option Nat => some (va_rf (z.map ad))) (up2_same (hr S) a 24 (some v)))).symm)) (fun b hb => hcell_sR hb)] at hP hD
  exact k hO H1 locs1 ls ⟨hP, hD, hS⟩ hl
theorem l_f7_25 : Cond.fieldLink RX7 194 "AreaCrossingsModel" "stretches" "I" ∈ tbG := tbG_in (w := .fieldLink RX7 194 "AreaCrossingsModel" "stretches" "I") (by decide +kernel) rfl
theorem x_g7_25 {a : Nat} (hM : M.1.cls = RX7) (hd : decode M.2.1 pc = .ok (.getfield 194, 3)) (h : is S 7 a) (k : X E M n1 n2 ad S (pc + 3) lv (aI (hi S a 25) :: st)) : X E M n1 n2 ad S pc lv (aA a :: st) := fun hO H locs ls hW hl => va_get (v := .int (hi S a 25)) hO.1 hO.2.1 hO.2.2.2.2.1 inG7 (by rw [← hM]; exact hO.2.2.2.1) hO.2.2.2.2.2.1 hW.1 a (wd_at hW h.1 (hcell_o 7 h.2 (by decide))) rfl 25 (by decide) (hO.2.2.2.2.1 _ l_f7_25) (fun _ h9 => h9) rfl hd (k hO H locs ls hW hl)
theorem x_p7_25 {a : Nat} {v : Int32} (hM : M.1.cls = RX7)  (hd : decode M.2.1 pc = .ok (.putfield 194, 3)) (h : is S 7 a)  (k : X E M n1 n2 ad (sI S a 25 v) (pc + 3) lv st) : X E M n1 n2 ad S pc lv (aI v :: aA a :: st) := by
  intro hO H locs ls hW hl
  refine va_put (v := .int v) hO.1 hO.2.1 hO.2.2.2.2.1 inG7 tyX7 tyX7_ok nmX7 (by rw [← hM]; exact hO.2.2.2.1) hO.2.2.2.2.2.1 hW.1 hW.2.1 hW.2.2 a (wd_at hW h.1 (hcell_o 7 h.2 (by decide))) rfl 25 (by decide) (hO.2.2.2.2.1 _ l_f7_25) (fun _ h9 => h9) rfl (tyX7_ok 25 (by decide)) rfl rfl (by simp [fvs, fty]) hd (fun H1 locs1 hP hD hS => ?_)
  rw [wld_set (S := S) (S' := sI S a 25 v) rfl ((hcell_o (S := sI S a 25 v) 7 h.2 (by decide)).trans (congrArg (fun l => (Sum.inr (7 + 1, l) : va_E)) (fvs_set (S := S) (S' := sI S a 25 v) (ad := ad) (a := a) (v := .int v) (fty 7) 0 25 (fun i h0 => up2_ne _ _ (Or.inr (by omega))) (fun i h0 => rfl) (fun i h0 => rfl) (congrArg (fun z => some (Value.int z)) (up2_same (hi S) a 25 v))).symm)) (fun b hb => hcell_sI hb)] at hP hD
  exact k hO H1 locs1 ls ⟨hP, hD, hS⟩ hl
theorem l_f7_26 : Cond.fieldLink RX7 66 "AreaCrossingsModel" "begins" "[I" ∈ tbG := tbG_in (w := .fieldLink RX7 66 "AreaCrossingsModel" "begins" "[I") (by decide +kernel) rfl
theorem x_g7_26 {a : Nat} (hM : M.1.cls = RX7) (hd : decode M.2.1 pc = .ok (.getfield 66, 3)) (h : is S 7 a) (k : X E M n1 n2 ad S (pc + 3) lv (aR (hr S a 26) :: st)) : X E M n1 n2 ad S pc lv (aA a :: st) := fun hO H locs ls hW hl => va_get (v := va_rf ((hr S a 26).map ad)) hO.1 hO.2.1 hO.2.2.2.2.1 inG7 (by rw [← hM]; exact hO.2.2.2.1) hO.2.2.2.2.2.1 hW.1 a (wd_at hW h.1 (hcell_o 7 h.2 (by decide))) rfl 26 (by decide) (hO.2.2.2.2.1 _ l_f7_26) (fun _ h9 => h9) rfl hd (by rw [← vl_ref]; exact k hO H locs ls hW hl)
theorem x_p7_26 {a : Nat} {v : Nat} (hM : M.1.cls = RX7) (hN : M.1.name = "<init>") (hd : decode M.2.1 pc = .ok (.putfield 66, 3)) (h : is S 7 a)  (k : X E M n1 n2 ad (sR S a 26 (some v)) (pc + 3) lv st) : X E M n1 n2 ad S pc lv (aA v :: aA a :: st) := by
  intro hO H locs ls hW hl
  refine va_putF (v := .ref (ad v)) hO.1 hO.2.1 hO.2.2.2.2.1 inG7 tyX7 tyX7_ok nmX7 (by rw [← hM]; exact hO.2.2.2.1) hO.2.2.2.2.2.1 hW.1 hW.2.1 hW.2.2 a (wd_at hW h.1 (hcell_o 7 h.2 (by decide))) rfl 26 (by decide) (hO.2.2.2.2.1 _ l_f7_26) (fun _ h9 => h9) rfl (hO.2.2.2.2.2.2.2.1.trans hN) rfl (tyX7_ok 26 (by decide)) rfl rfl (by simp [fvs, fty]) hd (fun H1 locs1 hP hD hS => ?_)
  rw [wld_set (S := S) (S' := sR S a 26 (some v)) rfl ((hcell_o (S := sR S a 26 (some v)) 7 h.2 (by decide)).trans (congrArg (fun l => (Sum.inr (7 + 1, l) : va_E)) (fvs_set (S := S) (S' := sR S a 26 (some v)) (ad := ad) (a := a) (v := .ref (ad v)) (fty 7) 0 26 (fun i h0 => rfl) (fun i h0 => rfl) (fun i h0 => up2_ne _ _ (Or.inr (by omega))) (congrArg (fun z : Option Nat => some (va_rf (z.map ad))) (up2_same (hr S) a 26 (some v)))).symm)) (fun b hb => hcell_sR hb)] at hP hD
  exact k hO H1 locs1 ls ⟨hP, hD, hS⟩ hl
theorem l_f7_27 : Cond.fieldLink RX7 69 "AreaCrossingsModel" "ends" "[I" ∈ tbG := tbG_in (w := .fieldLink RX7 69 "AreaCrossingsModel" "ends" "[I") (by decide +kernel) rfl
theorem x_g7_27 {a : Nat} (hM : M.1.cls = RX7) (hd : decode M.2.1 pc = .ok (.getfield 69, 3)) (h : is S 7 a) (k : X E M n1 n2 ad S (pc + 3) lv (aR (hr S a 27) :: st)) : X E M n1 n2 ad S pc lv (aA a :: st) := fun hO H locs ls hW hl => va_get (v := va_rf ((hr S a 27).map ad)) hO.1 hO.2.1 hO.2.2.2.2.1 inG7 (by rw [← hM]; exact hO.2.2.2.1) hO.2.2.2.2.2.1 hW.1 a (wd_at hW h.1 (hcell_o 7 h.2 (by decide))) rfl 27 (by decide) (hO.2.2.2.2.1 _ l_f7_27) (fun _ h9 => h9) rfl hd (by rw [← vl_ref]; exact k hO H locs ls hW hl)
theorem x_p7_27 {a : Nat} {v : Nat} (hM : M.1.cls = RX7) (hN : M.1.name = "<init>") (hd : decode M.2.1 pc = .ok (.putfield 69, 3)) (h : is S 7 a)  (k : X E M n1 n2 ad (sR S a 27 (some v)) (pc + 3) lv st) : X E M n1 n2 ad S pc lv (aA v :: aA a :: st) := by
  intro hO H locs ls hW hl
  refine va_putF (v := .ref (ad v)) hO.1 hO.2.1 hO.2.2.2.2.1 inG7 tyX7 tyX7_ok nmX7 (by rw [← hM]; exact hO.2.2.2.1) hO.2.2.2.2.2.1 hW.1 hW.2.1 hW.2.2 a (wd_at hW h.1 (hcell_o 7 h.2 (by decide))) rfl 27 (by decide) (hO.2.2.2.2.1 _ l_f7_27) (fun _ h9 => h9) rfl (hO.2.2.2.2.2.2.2.1.trans hN) rfl (tyX7_ok 27 (by decide)) rfl rfl (by simp [fvs, fty]) hd (fun H1 locs1 hP hD hS => ?_)
  rw [wld_set (S := S) (S' := sR S a 27 (some v)) rfl ((hcell_o (S := sR S a 27 (some v)) 7 h.2 (by decide)).trans (congrArg (fun l => (Sum.inr (7 + 1, l) : va_E)) (fvs_set (S := S) (S' := sR S a 27 (some v)) (ad := ad) (a := a) (v := .ref (ad v)) (fty 7) 0 27 (fun i h0 => rfl) (fun i h0 => rfl) (fun i h0 => up2_ne _ _ (Or.inr (by omega))) (congrArg (fun z : Option Nat => some (va_rf (z.map ad))) (up2_same (hr S) a 27 (some v)))).symm)) (fun b hb => hcell_sR hb)] at hP hD
  exact k hO H1 locs1 ls ⟨hP, hD, hS⟩ hl
end
end
section
/-! Contracts over the heap picture: what makes no cell (ctN); returns; calls. -/
def qN (G : Launch × va_G × (Nat → ClassId) × Nat) (ad : Nat → Nat) (Post : Option av → hs → Prop) : Array Value → State → Outcome → State → Prop := fun _ st o t => (∃ r S', o = .returned (r.map (vl ad)) ∧ Post r S' ∧ va_P G.2.1 vwCl (wld G.2.2.1 ad S') t.heap ∧ va_K G.2.1 vwCl (tyl G.2.2.1) t ∧ va_D (fun q => G.2.2.2 ≤ q) (wld G.2.2.1 ad S')) ∧ va_F (fun q => G.2.2.2 ≤ q) st t
def pN (G : Launch × va_G × (Nat → ClassId) × Nat) (ad : Nat → Nat) (As : List av) (S : hs) : Array Value → State → Prop := va_Pc (As.map (vl ad)) (fun U => G.2.2.2 ≤ U.heap.size ∧ va_P G.2.1 vwCl (wld G.2.2.1 ad S) U.heap ∧ va_K G.2.1 vwCl (tyl G.2.2.1) U ∧ va_D (fun q => G.2.2.2 ≤ q) (wld G.2.2.1 ad S))
/-- y, called with As in the picture S, returns, with Post; it makes no cell -/
def ctN (G : Launch × va_G × (Nat → ClassId) × Nat) (M : mt) (As : List av) (S : hs) (Post : Option av → hs → Prop) : Prop :=
  ∀ ad, Met G.1 M.1 (Cond.code M.1 M.2.1 M.2.2.1 M.2.2.2.2 :: tbG) M.2.2.2.1 (pN G ad As S) (qN G ad Post) 0 0 (fun q => G.2.2.2 ≤ q)
def isQ (E : en) (ad : Nat → Nat) (Post : Option av → hs → Prop) : Prop := E.2.2.2 = MQ E.2.1.2.2.2.2.1 (qN E.1 ad Post) E.2.2.1 E.2.1.2.2.1 0 0 (fun q => E.1.2.2.2 ≤ q)
def ents : Nat → List av → List (Nat × av)
  | _, [] => []
  | i, v :: vs => (i, v) :: ents (match v with | .inr (.inl _) => i + 2 | _ => i + 1) vs
def acat (v : av) : Nat := match v with | .inr (.inl _) => 2 | _ => 1
def slen : List av → Nat
  | [] => 0
  | v :: vs => acat v + slen vs
theorem vl_cat (ad : Nat → Nat) (v : av) : (vl ad v).category = acat v := by
  match v with
  | .inl _ => rfl
  | .inr (.inl _) => rfl
  | .inr (.inr none) => rfl
  | .inr (.inr (some _)) => rfl
theorem slen_sum (ad : Nat → Nat) : ∀ (vs : List av), ((vs.map (vl ad)).map fun v => v.category).sum = slen vs
  | [] => rfl
  | v :: vs => by
    rw [List.map_cons, List.map_cons, List.sum_cons, slen_sum ad vs, vl_cat]
    rfl
theorem lg_sl_len (ad : Nat → Nat) : ∀ (vs : List av), (lg_sl (vs.map (vl ad))).length = slen vs
  | [] => rfl
  | v :: vs => by
    have ih := lg_sl_len ad vs
    simp only [lg_sl] at ih
    simp only [lg_sl, List.map_cons, List.flatMap_cons, List.length_append, ih, slen, vl_cat]
    match v with
    | .inl _ => rfl
    | .inr (.inl _) => rfl
    | .inr (.inr none) => rfl
    | .inr (.inr (some _)) => rfl
theorem ents_lk (ad : Nat → Nat) : ∀ (vs : List av) (i k : Nat) (v : av), lkp (ents i vs) k = some v → (k, vl ad v) ∈ lv_args i (vs.map (vl ad))
  | [], _, _, _, h => by simp [ents, lkp] at h
  | w :: vs, i, k, v, h => by
    by_cases hk : k = i
    · subst hk
      simp only [ents] at h
      rw [lkp_cons_eq] at h
      cases h
      exact List.mem_cons_self
    · simp only [ents] at h
      rw [lkp_cons_ne _ _ hk] at h
      have h2 := ents_lk ad vs _ k v h
      refine List.mem_cons_of_mem _ ?_
      match w, h2 with
      | .inl _, h2 => exact h2
      | .inr (.inl _), h2 => exact h2
      | .inr (.inr none), h2 => exact h2
      | .inr (.inr (some _)), h2 => exact h2
theorem ctN.of {G : Launch × va_G × (Nat → ClassId) × Nat} {M : mt} {As : List av} {S : hs} {Post : Option av → hs → Prop} (hy : plainName M.1.cls = true) (hlen : slen As ≤ M.2.2.1)
    (body : ∀ (E : en) (ad : Nat → Nat), E.1 = G → isQ E ad Post → X E M 0 0 ad S 0 (ents 0 As) []) : ctN G M As S Post := by
  intro ad
  refine Met.ofW (cc := M.2.1) (maxL := M.2.2.1) (ret := M.2.2.2.2) hy rfl ?_
  intro p e s m args below meth c s₁ B hml hv
  obtain ⟨rfl, hsz, hP, hK, hD⟩ := hv
  have hts := atoms_spec (ws := Cond.code M.1 M.2.1 M.2.2.1 M.2.2.2.2 :: tbG) B.pre
  have hl := lv_entry (As.map (vl ad)) (n := M.2.2.1) (by rw [lg_sl_len]; exact hlen)
  rw [lg_entry_eq]
  refine body (G, (p, e, s, m, below, meth, c), (As.map (vl ad)).toArray, MQ below (qN G ad Post) (As.map (vl ad)).toArray s 0 0 (fun q => G.2.2.2 ≤ q)) ad rfl rfl ⟨B.exec, B.bytes, hml, findClass_of_methodNamed B.named, fun w hw => hts w (List.mem_cons_of_mem _ hw), hK, hsz, (name_of_methodNamed B.named B.method).1, B.returns, B.notSynchronized⟩ s.heap [] _ ⟨hP, hD, va_S.rf⟩ ⟨hl.1, hl.2.1, fun i v hv => hl.2.2 (i, vl ad v) (ents_lk ad As 0 i v hv)⟩
theorem ctN.mono {G : Launch × va_G × (Nat → ClassId) × Nat} {M : mt} {As : List av} {S : hs} {Post : Option av → hs → Prop} (h : ctN G M As S Post) : ctN G M As S Post := h
section
variable {E : en} {M : mt} {n1 n2 : Nat} {ad : Nat → Nat} {S : hs} {pc : Nat} {lv : List (Nat × av)} {st : List av} {Post : Option av → hs → Prop}
theorem qN_of {r : Option av} (hO : okE E M) {H : Heap} {locs : List Loc} (hW : wd E ad S H locs) (h : Post r S) : ∀ t : State, t.heap = H → E.2.1.2.2.1.WarmedH t.vm → qN E.1 ad Post E.2.2.1 E.2.1.2.2.1 (.returned (r.map (vl ad))) t := fun t ht hv => ⟨⟨r, S, rfl, h, by rw [ht]; exact hW.1, va_K.moved hv.alike hO.2.2.2.2.2.1, hW.2.1⟩, hW.2.2.F ht⟩
theorem x_iret {x : Int32} (hQ : isQ E ad Post) (hr0 : M.2.2.2.2 = some .int) (hd : decode M.2.1 pc = .ok (.ireturn, 1)) (h : Post (some (aI x)) S) : X E M 0 0 ad S pc lv [aI x] := by
  intro hO H locs ls hW hl
  rw [show E.2.2.2 = _ from hQ]
  exact W.iret hO.1 hO.2.1 (hO.2.2.2.2.2.2.2.2.1.trans hr0) (qN_of (r := some (aI x)) hO hW h) hW.2.2.2.2 hd hO.2.2.2.2.2.2.2.2.2
theorem x_zret {x : Int32} (hQ : isQ E ad Post) (hr0 : M.2.2.2.2 = some .boolean) (hd : decode M.2.1 pc = .ok (.ireturn, 1)) (h : (x = 0 ∨ x = 1) ∧ Post (some (aI x)) S) : X E M 0 0 ad S pc lv [aI x] := by
  intro hO H locs ls hW hl
  rw [show E.2.2.2 = _ from hQ]
  exact W.zret hO.1 hO.2.1 (hO.2.2.2.2.2.2.2.2.1.trans hr0) (by rcases h.1 with rfl | rfl <;> rfl) (qN_of (r := some (aI x)) hO hW h.2) hW.2.2.2.2 hd hO.2.2.2.2.2.2.2.2.2
theorem x_lret {x : Int64} (hQ : isQ E ad Post) (hr0 : M.2.2.2.2 = some .long) (hd : decode M.2.1 pc = .ok (.lreturn, 1)) (h : Post (some (aJ x)) S) : X E M 0 0 ad S pc lv [aJ x] := by
  intro hO H locs ls hW hl
  rw [show E.2.2.2 = _ from hQ]
  exact W.lret hO.1 hO.2.1 (hO.2.2.2.2.2.2.2.2.1.trans hr0) (qN_of (r := some (aJ x)) hO hW h) hW.2.2.2.2 hd hO.2.2.2.2.2.2.2.2.2
theorem x_vret (hQ : isQ E ad Post) (hr0 : M.2.2.2.2 = none) (hd : decode M.2.1 pc = .ok (.return_, 1)) (h : Post none S) : X E M 0 0 ad S pc lv [] := by
  intro hO H locs ls hW hl
  rw [show E.2.2.2 = _ from hQ]
  exact W.vret hO.1 hO.2.1 (hO.2.2.2.2.2.2.2.2.1.trans hr0) (qN_of (r := none) hO hW h) hW.2.2.2.2 hd hO.2.2.2.2.2.2.2.2.2
theorem x_rret {x : Option Nat} {C : String} (hQ : isQ E ad Post) (hr0 : M.2.2.2.2 = some (.object C)) (hd : decode M.2.1 pc = .ok (.areturn, 1)) (h : Post (some (aR x)) S) : X E M 0 0 ad S pc lv [aR x] := by
  intro hO H locs ls hW hl
  rw [show E.2.2.2 = _ from hQ]
  refine W.aret hO.1 hO.2.1 (hO.2.2.2.2.2.2.2.2.1.trans hr0) (Or.inl ⟨C, rfl⟩) ?_ (qN_of (r := some (aR x)) hO hW h) hW.2.2.2.2 hd hO.2.2.2.2.2.2.2.2.2
  cases x with
  | none => exact Or.inl rfl
  | some a => exact Or.inr ⟨_, rfl⟩
/-- behind a call that makes no cell -/
theorem x_back {Mc : mt} {As : List av} {stk : List Value} (hr : ∀ H locs ls, okE E M → wd E ad S H locs → lvh ad M.2.2.1 ls lv → va_Run E.2.1.1 E.1.1 E.2.1.2.1 M.2.2.2.1 E.2.1.2.2.1 E.2.1.2.2.2.1 E.2.2.1 E.2.1.2.2.2.2.1 E.2.1.2.2.2.2.2.1 E.2.1.2.2.2.2.2.2 H locs n1 n2 0 0 (F0 E.2.1.2.2.2.1 pc ls stk) (st.map (vl ad)) (qN E.1 ad Post (As.map (vl ad)).toArray) (fun q => E.1.2.2.2 ≤ q))
    (kk : ∀ r S', Post r S' → X E M n1 n2 ad S' (pc + 3) lv (r.toList ++ st)) (hO : okE E M) (H : Heap) (locs : List Loc) (ls : Array Slot) (hW : wd E ad S H locs) (hl : lvh ad M.2.2.1 ls lv) : W E.2.1.1 E.1.1 E.2.1.2.1 M.2.2.2.1 E.2.1.2.2.1 E.2.1.2.2.2.1 E.2.2.1 E.2.1.2.2.2.2.1 E.2.1.2.2.2.2.2.1 E.2.1.2.2.2.2.2.2 H locs n1 n2 E.2.2.2 (F0 E.2.1.2.2.2.1 pc ls stk) := by
  intro T hT XX
  obtain ⟨v, st₀, t, T', L, h0, X', hL, e1, e2, ⟨⟨r, S', hv, hp, hP, hK, hD⟩, hz, hk⟩, hst⟩ := hr H locs ls hO hW hl T hT XX
  have hv : v = r.map (vl ad) := Outcome.returned.inj hv
  subst hv
  rw [h0] at hz hk
  have hS := hW.2.2
  have hS' : va_S (fun q => E.1.2.2.2 ≤ q) E.2.1.2.2.1.heap T'.heap (locs ++ L) := ⟨Nat.le_trans hS.1 (by rw [e1]; exact hz), fun q h1 h2 => by rw [e1, hk q (Nat.lt_of_lt_of_le h1 hS.1) h2]; exact hS.2.1 q h1 h2, fun q hq => by
      rcases List.mem_append.mp hq with h | h
      · exact hS.2.2 q h
      · exact hL q h⟩
  obtain ⟨t2, a1, b1⟩ := kk r S' hp hO T'.heap (locs ++ L) ls ⟨by rw [e1]; exact hP, hD, hS'⟩ hl T' rfl X'
  refine ⟨t2, hst t2 ?_, b1⟩
  have e3 : (r.toList ++ st).map (vl ad) = (r.map (vl ad)).toList ++ st.map (vl ad) := by
    cases r <;> simp
  rw [e3] at a1
  exact a1
/-- what a call needs of the tables and the names -/
def cokB (own : String) (Mc : mt) (idx n : Nat) : Prop := Cond.methodLink own idx Mc.1 ∈ lw_tbl ∧ Cond.initialized Mc.1.cls ∈ lw_tbl ∧ Cond.code Mc.1 Mc.2.1 Mc.2.2.1 Mc.2.2.2.2 ∈ lw_tbl ∧ Mc.1.cls ≠ "java/lang/invoke/MethodHandle" ∧ Mc.1.cls ≠ "java/lang/invoke/VarHandle" ∧ (parseMethodDescriptor Mc.1.desc).map (fun d => d.parameters.length) = some n
/-- and of the room -/
def cokR (M Mc : mt) : Prop := Mc.2.2.2.1.cells = 0 ∧ Mc.2.2.2.1.slots = 0 ∧ Mc.2.2.2.1.frames + 1 ≤ M.2.2.2.1.frames ∧ 8 + (Mc.2.2.1 + 11) + Mc.2.2.2.1.locals ≤ M.2.2.2.1.locals
def cokV (own : String) (Mc : mt) (idx n k : Nat) : Prop := cokB own Mc idx n ∧ Cond.instanceMethod Mc.1 ∈ lw_tbl ∧ Cond.selects Mc.1.cls Mc.1 Mc.1 ∈ lw_tbl ∧ (vwCl[k + 1]?).map (fun q => q.1) = some Mc.1.cls ∧ k < 8
def cokS (own : String) (Mc : mt) (idx n : Nat) : Prop := cokB own Mc idx n ∧ Cond.static Mc.1 ∈ lw_tbl
theorem tbG_good : ∀ w ∈ tbG, goodWord w = true := fun _ h => (List.mem_filter.mp h).2
theorem gcode (M : mt) : goodWord (Cond.code M.1 M.2.1 M.2.2.1 M.2.2.2.2) = true := rfl
theorem gIn (M : mt) (h : Cond.code M.1 M.2.1 M.2.2.1 M.2.2.2.2 ∈ lw_tbl) : GoodIn tbG (Cond.code M.1 M.2.1 M.2.2.1 M.2.2.2.2 :: tbG) := fun w hw => by
  rcases List.mem_cons.mp hw with rfl | h2
  · exact ⟨tbG_in h (gcode M), good_of_word (gcode M)⟩
  · exact ⟨h2, good_of_word (tbG_good w h2)⟩
theorem callB_x {Mc : mt} {idx n : Nat} (hO : okE E M) (h : cokB M.1.cls Mc idx n) (hR : cokR M Mc) : CallB M.2.2.2.1 E.2.1.2.2.1 E.2.2.1 M.1.cls idx Mc.1 Mc.2.1 Mc.2.2.1 Mc.2.2.2.2 (Cond.code Mc.1 Mc.2.1 Mc.2.2.1 Mc.2.2.2.2 :: tbG) Mc.2.2.2.1 0 0 n := by
  obtain ⟨h1, h2, h3, h4, h5, h6⟩ := h
  obtain ⟨h7, h8, h9, h10⟩ := hR
  exact callB_of n hO.2.2.2.2.1 (gIn Mc h3) rfl h7 h8 (hO.2.2.2.2.1 _ (tbG_in h2 rfl)) (hO.2.2.2.2.1 _ (tbG_in h1 rfl)) ⟨h4, h5, h6⟩ ⟨h9, h10⟩
theorem pN_blind {G : Launch × va_G × (Nat → ClassId) × Nat} {As : List av} : FrameBlind (pN G ad As S) := fun a U g mk q => by
  obtain ⟨q0, q1, qP, qK, qD⟩ := q
  exact ⟨q0, q1, qP, va_K.moved (u := U) (U := U.calling g mk a) (Vm.Alike.refl U.vm) qK, qD⟩
theorem pN_at {As : List av} (hO : okE E M) {H : Heap} {locs : List Loc} (hW : wd E ad S H locs) : ∀ U : State, U.heap = H → E.2.1.2.2.1.WarmedH U.vm → pN E.1 ad As S (As.map (vl ad)).toArray U := fun U hU hw => ⟨rfl, by rw [hU]; exact Nat.le_trans hO.2.2.2.2.2.2.1 hW.2.2.1, by rw [hU]; exact hW.1, va_K.moved hw.alike hO.2.2.2.2.2.1, hW.2.1⟩
theorem x_callS {Mc : mt} {own : String} {idx n : Nat} {As : List av} (hc : cokS own Mc idx n) (hM : M.1.cls = own) (hR : cokR M Mc) (hd : decode M.2.1 pc = .ok (.invokestatic idx, 3)) (hn : As.length = n) (hs0 : slen st ≤ 8) (hf : n1 ≤ M.2.2.2.1.cells ∧ n2 ≤ M.2.2.2.1.slots) (hC : ctN E.1 Mc As S Post)
    (kk : ∀ r S', Post r S' → X E M n1 n2 ad S' (pc + 3) lv (r.toList ++ st)) : X E M n1 n2 ad S pc lv (As.reverse ++ st) := by
  subst hM
  intro hO H locs ls hW hl
  rw [List.map_append, List.map_reverse]
  exact x_back (Mc := Mc) (As := As) (fun H locs ls hO hW hl => va_runS (As := As.map (vl ad)) (rest := st.map (vl ad)) ⟨hO.1, hO.2.1, hO.2.2.1, hO.2.2.2.1, hO.2.2.2.2.1⟩ (hC ad) ⟨callB_x hO hc.1 hR, hO.2.2.2.2.1 _ (tbG_in hc.2 rfl)⟩ ⟨pN_blind, pN_at hO hW⟩ rfl (by rw [List.length_map]; exact hn) hl.1 rfl (lv_room (by rw [slen_sum]; exact hs0)) hd hf) kk hO H locs ls hW hl
theorem x_callV {Mc : mt} {own : String} {idx n a k : Nat} {As : List av} (hc : cokV own Mc idx n k) (hM : M.1.cls = own) (hR : cokR M Mc) (hd : decode M.2.1 pc = .ok (.invokevirtual idx, 3)) (hn : As.length = n) (hs0 : slen st ≤ 8) (hf : n1 ≤ M.2.2.2.1.cells ∧ n2 ≤ M.2.2.2.1.slots) (ha : is S k a) (hC : ctN E.1 Mc (aA a :: As) S Post)
    (kk : ∀ r S', Post r S' → X E M n1 n2 ad S' (pc + 3) lv (r.toList ++ st)) : X E M n1 n2 ad S pc lv (As.reverse ++ aA a :: st) := by
  subst hM
  intro hO H locs ls hW hl
  rw [List.map_append, List.map_reverse]
  obtain ⟨hc1, hc2, hc3, hc4, hc5⟩ := hc
  obtain ⟨q, hq, hq1⟩ := Option.map_eq_some_iff.mp hc4
  refine x_back (Mc := Mc) (As := aA a :: As) (fun H locs ls hO hW hl => va_runV (C := Mc.1.cls) (As := As.map (vl ad)) (rest := st.map (vl ad)) ⟨hO.1, hO.2.1, hO.2.2.1, hO.2.2.2.1, hO.2.2.2.2.1⟩ (hC ad) ⟨callB_x hO hc1 hR, hO.2.2.2.2.1 _ (tbG_in hc2 rfl), hO.2.2.2.2.1 _ (tbG_in hc3 rfl)⟩ ⟨pN_blind, ?_, pN_at hO hW⟩ rfl (by rw [List.length_map]; exact hn) hl.1 rfl (lv_room (by rw [slen_sum]; exact hs0)) hd hf) kk hO H locs ls hW hl
  have h9 := va_recv hO.2.2.2.2.2.1 hW.1 hq (wd_at hW ha.1 (hcell_o k ha.2 hc5))
  rw [← hq1]
  exact h9
/-! answers by their types -/
def pI (P : Int32 → hs → Prop) : Option av → hs → Prop := fun r S => ∃ x, r = some (aI x) ∧ P x S
def pJ (P : Int64 → hs → Prop) : Option av → hs → Prop := fun r S => ∃ x, r = some (aJ x) ∧ P x S
def pR (P : Option Nat → hs → Prop) : Option av → hs → Prop := fun r S => ∃ x, r = some (aR x) ∧ P x S
def pV (P : hs → Prop) : Option av → hs → Prop := fun r S => r = none ∧ P S
theorem x_callSI {Mc : mt} {own : String} {idx n : Nat}  {As : List av} {P : Int32 → hs → Prop} (hc : cokS own Mc idx n) (hM : M.1.cls = own) (hR : cokR M Mc) (hd : decode M.2.1 pc = .ok (.invokestatic idx, 3)) (hn : As.length = n) (hs0 : slen st ≤ 8) (hf : n1 ≤ M.2.2.2.1.cells ∧ n2 ≤ M.2.2.2.1.slots) (hC : ctN E.1 Mc (As) S (pI P)) (kk : ∀ x S', P x S' → X E M n1 n2 ad S' (pc + 3) lv (aI x :: st)) : X E M n1 n2 ad S pc lv (As.reverse ++ st) := x_callS hc hM hR hd hn hs0 hf hC (fun r S' h => by obtain ⟨x, rfl, h⟩ := h; exact kk x S' h)
theorem x_callSJ {Mc : mt} {own : String} {idx n : Nat}  {As : List av} {P : Int64 → hs → Prop} (hc : cokS own Mc idx n) (hM : M.1.cls = own) (hR : cokR M Mc) (hd : decode M.2.1 pc = .ok (.invokestatic idx, 3)) (hn : As.length = n) (hs0 : slen st ≤ 8) (hf : n1 ≤ M.2.2.2.1.cells ∧ n2 ≤ M.2.2.2.1.slots) (hC : ctN E.1 Mc (As) S (pJ P)) (kk : ∀ x S', P x S' → X E M n1 n2 ad S' (pc + 3) lv (aJ x :: st)) : X E M n1 n2 ad S pc lv (As.reverse ++ st) := x_callS hc hM hR hd hn hs0 hf hC (fun r S' h => by obtain ⟨x, rfl, h⟩ := h; exact kk x S' h)
theorem x_callSR {Mc : mt} {own : String} {idx n : Nat}  {As : List av} {P : Option Nat → hs → Prop} (hc : cokS own Mc idx n) (hM : M.1.cls = own) (hR : cokR M Mc) (hd : decode M.2.1 pc = .ok (.invokestatic idx, 3)) (hn : As.length = n) (hs0 : slen st ≤ 8) (hf : n1 ≤ M.2.2.2.1.cells ∧ n2 ≤ M.2.2.2.1.slots) (hC : ctN E.1 Mc (As) S (pR P)) (kk : ∀ x S', P x S' → X E M n1 n2 ad S' (pc + 3) lv (aR x :: st)) : X E M n1 n2 ad S pc lv (As.reverse ++ st) := x_callS hc hM hR hd hn hs0 hf hC (fun r S' h => by obtain ⟨x, rfl, h⟩ := h; exact kk x S' h)
theorem x_callSV {Mc : mt} {own : String} {idx n : Nat}  {As : List av} {P : hs → Prop} (hc : cokS own Mc idx n) (hM : M.1.cls = own) (hR : cokR M Mc) (hd : decode M.2.1 pc = .ok (.invokestatic idx, 3)) (hn : As.length = n) (hs0 : slen st ≤ 8) (hf : n1 ≤ M.2.2.2.1.cells ∧ n2 ≤ M.2.2.2.1.slots) (hC : ctN E.1 Mc (As) S (pV P)) (kk : ∀ S', P S' → X E M n1 n2 ad S' (pc + 3) lv st) : X E M n1 n2 ad S pc lv (As.reverse ++ st) := x_callS hc hM hR hd hn hs0 hf hC (fun r S' h => by obtain ⟨rfl, h⟩ := h; exact kk S' h)
theorem x_callVI {Mc : mt} {own : String} {idx n : Nat} {a k : Nat} {As : List av} {P : Int32 → hs → Prop} (hc : cokV own Mc idx n k) (hM : M.1.cls = own) (hR : cokR M Mc) (hd : decode M.2.1 pc = .ok (.invokevirtual idx, 3)) (hn : As.length = n) (hs0 : slen st ≤ 8) (hf : n1 ≤ M.2.2.2.1.cells ∧ n2 ≤ M.2.2.2.1.slots) (ha : is S k a) (hC : ctN E.1 Mc (aA a :: As) S (pI P)) (kk : ∀ x S', P x S' → X E M n1 n2 ad S' (pc + 3) lv (aI x :: st)) : X E M n1 n2 ad S pc lv (As.reverse ++ aA a :: st) := x_callV hc hM hR hd hn hs0 hf ha hC (fun r S' h => by obtain ⟨x, rfl, h⟩ := h; exact kk x S' h)
theorem x_callVJ {Mc : mt} {own : String} {idx n : Nat} {a k : Nat} {As : List av} {P : Int64 → hs → Prop} (hc : cokV own Mc idx n k) (hM : M.1.cls = own) (hR : cokR M Mc) (hd : decode M.2.1 pc = .ok (.invokevirtual idx, 3)) (hn : As.length = n) (hs0 : slen st ≤ 8) (hf : n1 ≤ M.2.2.2.1.cells ∧ n2 ≤ M.2.2.2.1.slots) (ha : is S k a) (hC : ctN E.1 Mc (aA a :: As) S (pJ P)) (kk : ∀ x S', P x S' → X E M n1 n2 ad S' (pc + 3) lv (aJ x :: st)) : X E M n1 n2 ad S pc lv (As.reverse ++ aA a :: st) := x_callV hc hM hR hd hn hs0 hf ha hC (fun r S' h => by obtain ⟨x, rfl, h⟩ := h; exact kk x S' h)
theorem x_callVR {Mc : mt} {own : String} {idx n : Nat} {a k : Nat} {As : List av} {P : Option Nat → hs → Prop} (hc : cokV own Mc idx n k) (hM : M.1.cls = own) (hR : cokR M Mc) (hd : decode M.2.1 pc = .ok (.invokevirtual idx, 3)) (hn : As.length = n) (hs0 : slen st ≤ 8) (hf : n1 ≤ M.2.2.2.1.cells ∧ n2 ≤ M.2.2.2.1.slots) (ha : is S k a) (hC : ctN E.1 Mc (aA a :: As) S (pR P)) (kk : ∀ x S', P x S' → X E M n1 n2 ad S' (pc + 3) lv (aR x :: st)) : X E M n1 n2 ad S pc lv (As.reverse ++ aA a :: st) := x_callV hc hM hR hd hn hs0 hf ha hC (fun r S' h => by obtain ⟨x, rfl, h⟩ := h; exact kk x S' h)
theorem x_callVV {Mc : mt} {own : String} {idx n : Nat} {a k : Nat} {As : List av} {P : hs → Prop} (hc : cokV own Mc idx n k) (hM : M.1.cls = own) (hR : cokR M Mc) (hd : decode M.2.1 pc = .ok (.invokevirtual idx, 3)) (hn : As.length = n) (hs0 : slen st ≤ 8) (hf : n1 ≤ M.2.2.2.1.cells ∧ n2 ≤ M.2.2.2.1.slots) (ha : is S k a) (hC : ctN E.1 Mc (aA a :: As) S (pV P)) (kk : ∀ S', P S' → X E M n1 n2 ad S' (pc + 3) lv st) : X E M n1 n2 ad S pc lv (As.reverse ++ aA a :: st) := x_callV hc hM hR hd hn hs0 hf ha hC (fun r S' h => by obtain ⟨rfl, h⟩ := h; exact kk S' h)
theorem x_nS (k : ∀ S1, S1 = S → X E M n1 n2 ad S1 pc lv st) : X E M n1 n2 ad S pc lv st := k S rfl
theorem x_un {o : Option Nat} {r : Nat} (h : o = some r) (k : X E M n1 n2 ad S pc lv (aA r :: st)) : X E M n1 n2 ad S pc lv (aR o :: st) := by
  subst h; exact k
theorem x_un1 {o : Option Nat} {r : Nat} {y : av} (h : o = some r) (k : X E M n1 n2 ad S pc lv (y :: aA r :: st)) : X E M n1 n2 ad S pc lv (y :: aR o :: st) := by
  subst h; exact k
end
end
