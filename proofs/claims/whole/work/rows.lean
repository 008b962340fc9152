section
-- ===== PART A: goes FIRST, ahead of the names: the tables' words, and 'selects' of the private methods out of them =====
/-- a private method of a class that the tables say can be made, by its rows of tables_1 -/
def lw_okq (q : MethodName × Nat) : Prop := (q.1.cls ≠ "java/lang/invoke/MethodHandle" ∧ q.1.cls ≠ "java/lang/invoke/VarHandle") ∧ Cond.instantiable q.1.cls q.2 ∈ tables_1 ∧ Cond.privateMethod q.1 ∈ tables_1 ∧ Cond.instanceMethod q.1 ∈ tables_1
theorem lw_p0 : lw_okq (⟨"FerryTimetable", "noted", "(I)I"⟩, 9) := ⟨⟨by decide +kernel, by decide +kernel⟩, List.mem_of_getElem? (i := 14) (by decide +kernel), List.mem_of_getElem? (i := 280) (by decide +kernel), List.mem_of_getElem? (i := 281) (by decide +kernel)⟩
theorem lw_p1 : lw_okq (⟨"FerryTimetable$Text", "findEntries", "()I"⟩, 5) := ⟨⟨by decide +kernel, by decide +kernel⟩, List.mem_of_getElem? (i := 175) (by decide +kernel), List.mem_of_getElem? (i := 406) (by decide +kernel), List.mem_of_getElem? (i := 407) (by decide +kernel)⟩
theorem lw_p2 : lw_okq (⟨"FerryTimetable$Text", "findEntry", "()Z"⟩, 5) := ⟨⟨by decide +kernel, by decide +kernel⟩, List.mem_of_getElem? (i := 175) (by decide +kernel), List.mem_of_getElem? (i := 414) (by decide +kernel), List.mem_of_getElem? (i := 415) (by decide +kernel)⟩
theorem lw_p3 : lw_okq (⟨"FerryTimetable$Text", "signHere", "()I"⟩, 5) := ⟨⟨by decide +kernel, by decide +kernel⟩, List.mem_of_getElem? (i := 175) (by decide +kernel), List.mem_of_getElem? (i := 418) (by decide +kernel), List.mem_of_getElem? (i := 419) (by decide +kernel)⟩
theorem lw_p4 : lw_okq (⟨"FerryTimetable$Text", "passes", "(C)Z"⟩, 5) := ⟨⟨by decide +kernel, by decide +kernel⟩, List.mem_of_getElem? (i := 175) (by decide +kernel), List.mem_of_getElem? (i := 427) (by decide +kernel), List.mem_of_getElem? (i := 428) (by decide +kernel)⟩
theorem lw_p5 : lw_okq (⟨"FerryTimetable$Text", "findNumber", "(III)Z"⟩, 5) := ⟨⟨by decide +kernel, by decide +kernel⟩, List.mem_of_getElem? (i := 175) (by decide +kernel), List.mem_of_getElem? (i := 431) (by decide +kernel), List.mem_of_getElem? (i := 432) (by decide +kernel)⟩
theorem lw_p6 : lw_okq (⟨"FerryTimetable$Text", "makeEntry", "(LFerryTimetable$Port;I)I"⟩, 5) := ⟨⟨by decide +kernel, by decide +kernel⟩, List.mem_of_getElem? (i := 175) (by decide +kernel), List.mem_of_getElem? (i := 436) (by decide +kernel), List.mem_of_getElem? (i := 437) (by decide +kernel)⟩
theorem lw_p7 : lw_okq (⟨"FerryTimetable$Decisions", "decide", "(LFerryTimetable$Port;I)V"⟩, 6) := ⟨⟨by decide +kernel, by decide +kernel⟩, List.mem_of_getElem? (i := 104) (by decide +kernel), List.mem_of_getElem? (i := 479) (by decide +kernel), List.mem_of_getElem? (i := 480) (by decide +kernel)⟩
theorem lw_p8 : lw_okq (⟨"FerryTimetable$Decisions", "firstInTheWay", "(LFerryTimetable$Port;II)I"⟩, 6) := ⟨⟨by decide +kernel, by decide +kernel⟩, List.mem_of_getElem? (i := 104) (by decide +kernel), List.mem_of_getElem? (i := 510) (by decide +kernel), List.mem_of_getElem? (i := 511) (by decide +kernel)⟩
theorem lw_p9 : lw_okq (⟨"FerryTimetable$Decisions", "settleConnections", "(LFerryTimetable$Port;I)V"⟩, 6) := ⟨⟨by decide +kernel, by decide +kernel⟩, List.mem_of_getElem? (i := 104) (by decide +kernel), List.mem_of_getElem? (i := 518) (by decide +kernel), List.mem_of_getElem? (i := 519) (by decide +kernel)⟩
theorem lw_p10 : lw_okq (⟨"FerryTimetable$Loading", "emptyLanes", "(LFerryTimetable$Port;I)V"⟩, 11) := ⟨⟨by decide +kernel, by decide +kernel⟩, List.mem_of_getElem? (i := 132) (by decide +kernel), List.mem_of_getElem? (i := 552) (by decide +kernel), List.mem_of_getElem? (i := 553) (by decide +kernel)⟩
theorem lw_p11 : lw_okq (⟨"FerryTimetable$Loading", "lineUp", "(II)V"⟩, 11) := ⟨⟨by decide +kernel, by decide +kernel⟩, List.mem_of_getElem? (i := 132) (by decide +kernel), List.mem_of_getElem? (i := 561) (by decide +kernel), List.mem_of_getElem? (i := 562) (by decide +kernel)⟩
theorem lw_p12 : lw_okq (⟨"FerryTimetable$Loading", "loadOrShift", "(LFerryTimetable$Port;LFerryTimetable$Decisions;I)V"⟩, 11) := ⟨⟨by decide +kernel, by decide +kernel⟩, List.mem_of_getElem? (i := 132) (by decide +kernel), List.mem_of_getElem? (i := 565) (by decide +kernel), List.mem_of_getElem? (i := 566) (by decide +kernel)⟩
theorem lw_p13 : lw_okq (⟨"FerryTimetable$Loading", "findLane", "(LFerryTimetable$Port;II)I"⟩, 11) := ⟨⟨by decide +kernel, by decide +kernel⟩, List.mem_of_getElem? (i := 132) (by decide +kernel), List.mem_of_getElem? (i := 574) (by decide +kernel), List.mem_of_getElem? (i := 575) (by decide +kernel)⟩
theorem lw_p14 : lw_okq (⟨"FerryTimetable$Loading", "mayStand", "(LFerryTimetable$Port;III)Z"⟩, 11) := ⟨⟨by decide +kernel, by decide +kernel⟩, List.mem_of_getElem? (i := 132) (by decide +kernel), List.mem_of_getElem? (i := 582) (by decide +kernel), List.mem_of_getElem? (i := 583) (by decide +kernel)⟩
theorem lw_p15 : lw_okq (⟨"FerryTimetable$Loading", "board", "(LFerryTimetable$Port;III)V"⟩, 11) := ⟨⟨by decide +kernel, by decide +kernel⟩, List.mem_of_getElem? (i := 132) (by decide +kernel), List.mem_of_getElem? (i := 590) (by decide +kernel), List.mem_of_getElem? (i := 591) (by decide +kernel)⟩
def lw_privs_1 : List (MethodName × Nat) := [(⟨"FerryTimetable", "noted", "(I)I"⟩, 9), (⟨"FerryTimetable$Text", "findEntries", "()I"⟩, 5), (⟨"FerryTimetable$Text", "findEntry", "()Z"⟩, 5), (⟨"FerryTimetable$Text", "signHere", "()I"⟩, 5), (⟨"FerryTimetable$Text", "passes", "(C)Z"⟩, 5), (⟨"FerryTimetable$Text", "findNumber", "(III)Z"⟩, 5), (⟨"FerryTimetable$Text", "makeEntry", "(LFerryTimetable$Port;I)I"⟩, 5), (⟨"FerryTimetable$Decisions", "decide", "(LFerryTimetable$Port;I)V"⟩, 6), (⟨"FerryTimetable$Decisions", "firstInTheWay", "(LFerryTimetable$Port;II)I"⟩, 6), (⟨"FerryTimetable$Decisions", "settleConnections", "(LFerryTimetable$Port;I)V"⟩, 6), (⟨"FerryTimetable$Loading", "emptyLanes", "(LFerryTimetable$Port;I)V"⟩, 11), (⟨"FerryTimetable$Loading", "lineUp", "(II)V"⟩, 11), (⟨"FerryTimetable$Loading", "loadOrShift", "(LFerryTimetable$Port;LFerryTimetable$Decisions;I)V"⟩, 11), (⟨"FerryTimetable$Loading", "findLane", "(LFerryTimetable$Port;II)I"⟩, 11), (⟨"FerryTimetable$Loading", "mayStand", "(LFerryTimetable$Port;III)Z"⟩, 11), (⟨"FerryTimetable$Loading", "board", "(LFerryTimetable$Port;III)V"⟩, 11)]
theorem lw_r1 : ∀ q ∈ lw_privs_1, lw_okq q := List.forall_mem_cons.mpr ⟨lw_p0, List.forall_mem_cons.mpr ⟨lw_p1, List.forall_mem_cons.mpr ⟨lw_p2, List.forall_mem_cons.mpr ⟨lw_p3, List.forall_mem_cons.mpr ⟨lw_p4, List.forall_mem_cons.mpr ⟨lw_p5, List.forall_mem_cons.mpr ⟨lw_p6, List.forall_mem_cons.mpr ⟨lw_p7, List.forall_mem_cons.mpr ⟨lw_p8, List.forall_mem_cons.mpr ⟨lw_p9, List.forall_mem_cons.mpr ⟨lw_p10, List.forall_mem_cons.mpr ⟨lw_p11, List.forall_mem_cons.mpr ⟨lw_p12, List.forall_mem_cons.mpr ⟨lw_p13, List.forall_mem_cons.mpr ⟨lw_p14, List.forall_mem_cons.mpr ⟨lw_p15, fun _ h => absurd h List.not_mem_nil⟩⟩⟩⟩⟩⟩⟩⟩⟩⟩⟩⟩⟩⟩⟩⟩
theorem lw_p16 : lw_okq (⟨"FerryTimetable$Loading", "unloadLane", "(LFerryTimetable$Port;IIII)I"⟩, 11) := ⟨⟨by decide +kernel, by decide +kernel⟩, List.mem_of_getElem? (i := 132) (by decide +kernel), List.mem_of_getElem? (i := 673) (by decide +kernel), List.mem_of_getElem? (i := 674) (by decide +kernel)⟩
theorem lw_p17 : lw_okq (⟨"FerryTimetable$Loading", "countInLane", "(LFerryTimetable$Port;II)I"⟩, 11) := ⟨⟨by decide +kernel, by decide +kernel⟩, List.mem_of_getElem? (i := 132) (by decide +kernel), List.mem_of_getElem? (i := 677) (by decide +kernel), List.mem_of_getElem? (i := 678) (by decide +kernel)⟩
theorem lw_p18 : lw_okq (⟨"FerryTimetable$Loading", "sumMetersInLane", "(LFerryTimetable$Port;II)I"⟩, 11) := ⟨⟨by decide +kernel, by decide +kernel⟩, List.mem_of_getElem? (i := 132) (by decide +kernel), List.mem_of_getElem? (i := 690) (by decide +kernel), List.mem_of_getElem? (i := 691) (by decide +kernel)⟩
theorem lw_p19 : lw_okq (⟨"FerryTimetable$Shelf", "countFilled", "(I)I"⟩, 1) := ⟨⟨by decide +kernel, by decide +kernel⟩, List.mem_of_getElem? (i := 202) (by decide +kernel), List.mem_of_getElem? (i := 756) (by decide +kernel), List.mem_of_getElem? (i := 757) (by decide +kernel)⟩
theorem lw_p20 : lw_okq (⟨"FerryTimetableModel", "remembers", "()V"⟩, 31) := ⟨⟨by decide +kernel, by decide +kernel⟩, List.mem_of_getElem? (i := 791) (by decide +kernel), List.mem_of_getElem? (i := 895) (by decide +kernel), List.mem_of_getElem? (i := 896) (by decide +kernel)⟩
theorem lw_p21 : lw_okq (⟨"FerryTimetableModel", "addsShip", "(IIII)I"⟩, 31) := ⟨⟨by decide +kernel, by decide +kernel⟩, List.mem_of_getElem? (i := 791) (by decide +kernel), List.mem_of_getElem? (i := 899) (by decide +kernel), List.mem_of_getElem? (i := 900) (by decide +kernel)⟩
theorem lw_p22 : lw_okq (⟨"FerryTimetableModel", "kept", "(I)I"⟩, 31) := ⟨⟨by decide +kernel, by decide +kernel⟩, List.mem_of_getElem? (i := 791) (by decide +kernel), List.mem_of_getElem? (i := 906) (by decide +kernel), List.mem_of_getElem? (i := 907) (by decide +kernel)⟩
theorem lw_p23 : lw_okq (⟨"FerryTimetableModel", "addsBerth", "(II)I"⟩, 31) := ⟨⟨by decide +kernel, by decide +kernel⟩, List.mem_of_getElem? (i := 791) (by decide +kernel), List.mem_of_getElem? (i := 917) (by decide +kernel), List.mem_of_getElem? (i := 918) (by decide +kernel)⟩
theorem lw_p24 : lw_okq (⟨"FerryTimetableModel", "addsCrossing", "(IIII)I"⟩, 31) := ⟨⟨by decide +kernel, by decide +kernel⟩, List.mem_of_getElem? (i := 791) (by decide +kernel), List.mem_of_getElem? (i := 925) (by decide +kernel), List.mem_of_getElem? (i := 926) (by decide +kernel)⟩
theorem lw_p25 : lw_okq (⟨"FerryTimetableModel", "isShip", "(I)Z"⟩, 31) := ⟨⟨by decide +kernel, by decide +kernel⟩, List.mem_of_getElem? (i := 791) (by decide +kernel), List.mem_of_getElem? (i := 929) (by decide +kernel), List.mem_of_getElem? (i := 930) (by decide +kernel)⟩
theorem lw_p26 : lw_okq (⟨"FerryTimetableModel", "isBerth", "(I)Z"⟩, 31) := ⟨⟨by decide +kernel, by decide +kernel⟩, List.mem_of_getElem? (i := 791) (by decide +kernel), List.mem_of_getElem? (i := 933) (by decide +kernel), List.mem_of_getElem? (i := 934) (by decide +kernel)⟩
theorem lw_p27 : lw_okq (⟨"FerryTimetableModel", "addsVehicle", "(III)I"⟩, 31) := ⟨⟨by decide +kernel, by decide +kernel⟩, List.mem_of_getElem? (i := 791) (by decide +kernel), List.mem_of_getElem? (i := 941) (by decide +kernel), List.mem_of_getElem? (i := 942) (by decide +kernel)⟩
theorem lw_p28 : lw_okq (⟨"FerryTimetableModel", "isCrossing", "(I)Z"⟩, 31) := ⟨⟨by decide +kernel, by decide +kernel⟩, List.mem_of_getElem? (i := 791) (by decide +kernel), List.mem_of_getElem? (i := 945) (by decide +kernel), List.mem_of_getElem? (i := 946) (by decide +kernel)⟩
theorem lw_p29 : lw_okq (⟨"FerryTimetableModel", "addsConnection", "(IIII)I"⟩, 31) := ⟨⟨by decide +kernel, by decide +kernel⟩, List.mem_of_getElem? (i := 791) (by decide +kernel), List.mem_of_getElem? (i := 953) (by decide +kernel), List.mem_of_getElem? (i := 954) (by decide +kernel)⟩
theorem lw_p30 : lw_okq (⟨"FerryTimetableModel", "cuts", "(IIII)V"⟩, 31) := ⟨⟨by decide +kernel, by decide +kernel⟩, List.mem_of_getElem? (i := 791) (by decide +kernel), List.mem_of_getElem? (i := 961) (by decide +kernel), List.mem_of_getElem? (i := 962) (by decide +kernel)⟩
theorem lw_p31 : lw_okq (⟨"FerryTimetableModel", "berthOf", "(II)I"⟩, 31) := ⟨⟨by decide +kernel, by decide +kernel⟩, List.mem_of_getElem? (i := 791) (by decide +kernel), List.mem_of_getElem? (i := 969) (by decide +kernel), List.mem_of_getElem? (i := 970) (by decide +kernel)⟩
def lw_privs_2 : List (MethodName × Nat) := [(⟨"FerryTimetable$Loading", "unloadLane", "(LFerryTimetable$Port;IIII)I"⟩, 11), (⟨"FerryTimetable$Loading", "countInLane", "(LFerryTimetable$Port;II)I"⟩, 11), (⟨"FerryTimetable$Loading", "sumMetersInLane", "(LFerryTimetable$Port;II)I"⟩, 11), (⟨"FerryTimetable$Shelf", "countFilled", "(I)I"⟩, 1), (⟨"FerryTimetableModel", "remembers", "()V"⟩, 31), (⟨"FerryTimetableModel", "addsShip", "(IIII)I"⟩, 31), (⟨"FerryTimetableModel", "kept", "(I)I"⟩, 31), (⟨"FerryTimetableModel", "addsBerth", "(II)I"⟩, 31), (⟨"FerryTimetableModel", "addsCrossing", "(IIII)I"⟩, 31), (⟨"FerryTimetableModel", "isShip", "(I)Z"⟩, 31), (⟨"FerryTimetableModel", "isBerth", "(I)Z"⟩, 31), (⟨"FerryTimetableModel", "addsVehicle", "(III)I"⟩, 31), (⟨"FerryTimetableModel", "isCrossing", "(I)Z"⟩, 31), (⟨"FerryTimetableModel", "addsConnection", "(IIII)I"⟩, 31), (⟨"FerryTimetableModel", "cuts", "(IIII)V"⟩, 31), (⟨"FerryTimetableModel", "berthOf", "(II)I"⟩, 31)]
theorem lw_r2 : ∀ q ∈ lw_privs_2, lw_okq q := List.forall_mem_cons.mpr ⟨lw_p16, List.forall_mem_cons.mpr ⟨lw_p17, List.forall_mem_cons.mpr ⟨lw_p18, List.forall_mem_cons.mpr ⟨lw_p19, List.forall_mem_cons.mpr ⟨lw_p20, List.forall_mem_cons.mpr ⟨lw_p21, List.forall_mem_cons.mpr ⟨lw_p22, List.forall_mem_cons.mpr ⟨lw_p23, List.forall_mem_cons.mpr ⟨lw_p24, List.forall_mem_cons.mpr ⟨lw_p25, List.forall_mem_cons.mpr ⟨lw_p26, List.forall_mem_cons.mpr ⟨lw_p27, List.forall_mem_cons.mpr ⟨lw_p28, List.forall_mem_cons.mpr ⟨lw_p29, List.forall_mem_cons.mpr ⟨lw_p30, List.forall_mem_cons.mpr ⟨lw_p31, fun _ h => absurd h List.not_mem_nil⟩⟩⟩⟩⟩⟩⟩⟩⟩⟩⟩⟩⟩⟩⟩⟩
theorem lw_p32 : lw_okq (⟨"FerryTimetableModel", "setsTide", "(II)I"⟩, 31) := ⟨⟨by decide +kernel, by decide +kernel⟩, List.mem_of_getElem? (i := 791) (by decide +kernel), List.mem_of_getElem? (i := 977) (by decide +kernel), List.mem_of_getElem? (i := 978) (by decide +kernel)⟩
theorem lw_p33 : lw_okq (⟨"FerryTimetableModel", "setsWind", "(II)I"⟩, 31) := ⟨⟨by decide +kernel, by decide +kernel⟩, List.mem_of_getElem? (i := 791) (by decide +kernel), List.mem_of_getElem? (i := 985) (by decide +kernel), List.mem_of_getElem? (i := 986) (by decide +kernel)⟩
theorem lw_p34 : lw_okq (⟨"FerryTimetableModel", "readsEntry", "()Z"⟩, 31) := ⟨⟨by decide +kernel, by decide +kernel⟩, List.mem_of_getElem? (i := 791) (by decide +kernel), List.mem_of_getElem? (i := 1001) (by decide +kernel), List.mem_of_getElem? (i := 1002) (by decide +kernel)⟩
theorem lw_p35 : lw_okq (⟨"FerryTimetableModel", "readsNumber", "(I)Z"⟩, 31) := ⟨⟨by decide +kernel, by decide +kernel⟩, List.mem_of_getElem? (i := 791) (by decide +kernel), List.mem_of_getElem? (i := 1005) (by decide +kernel), List.mem_of_getElem? (i := 1006) (by decide +kernel)⟩
theorem lw_p36 : lw_okq (⟨"FerryTimetableModel", "eats", "(I)Z"⟩, 31) := ⟨⟨by decide +kernel, by decide +kernel⟩, List.mem_of_getElem? (i := 791) (by decide +kernel), List.mem_of_getElem? (i := 1009) (by decide +kernel), List.mem_of_getElem? (i := 1010) (by decide +kernel)⟩
theorem lw_p37 : lw_okq (⟨"FerryTimetableModel", "does", "()I"⟩, 31) := ⟨⟨by decide +kernel, by decide +kernel⟩, List.mem_of_getElem? (i := 791) (by decide +kernel), List.mem_of_getElem? (i := 1013) (by decide +kernel), List.mem_of_getElem? (i := 1014) (by decide +kernel)⟩
theorem lw_p38 : lw_okq (⟨"FerryTimetableModel", "brings", "()V"⟩, 31) := ⟨⟨by decide +kernel, by decide +kernel⟩, List.mem_of_getElem? (i := 791) (by decide +kernel), List.mem_of_getElem? (i := 1017) (by decide +kernel), List.mem_of_getElem? (i := 1018) (by decide +kernel)⟩
theorem lw_p39 : lw_okq (⟨"FerryTimetableModel", "shipOf", "(II)I"⟩, 31) := ⟨⟨by decide +kernel, by decide +kernel⟩, List.mem_of_getElem? (i := 791) (by decide +kernel), List.mem_of_getElem? (i := 1037) (by decide +kernel), List.mem_of_getElem? (i := 1038) (by decide +kernel)⟩
theorem lw_p40 : lw_okq (⟨"FerryTimetableModel", "sailing", "(II)I"⟩, 31) := ⟨⟨by decide +kernel, by decide +kernel⟩, List.mem_of_getElem? (i := 791) (by decide +kernel), List.mem_of_getElem? (i := 1041) (by decide +kernel), List.mem_of_getElem? (i := 1042) (by decide +kernel)⟩
theorem lw_p41 : lw_okq (⟨"FerryTimetableModel", "tell", "()V"⟩, 31) := ⟨⟨by decide +kernel, by decide +kernel⟩, List.mem_of_getElem? (i := 791) (by decide +kernel), List.mem_of_getElem? (i := 1045) (by decide +kernel), List.mem_of_getElem? (i := 1046) (by decide +kernel)⟩
theorem lw_p42 : lw_okq (⟨"FerryTimetableModel", "sorts", "()V"⟩, 31) := ⟨⟨by decide +kernel, by decide +kernel⟩, List.mem_of_getElem? (i := 791) (by decide +kernel), List.mem_of_getElem? (i := 1049) (by decide +kernel), List.mem_of_getElem? (i := 1050) (by decide +kernel)⟩
theorem lw_p43 : lw_okq (⟨"FerryTimetableModel", "of", "(II)I"⟩, 31) := ⟨⟨by decide +kernel, by decide +kernel⟩, List.mem_of_getElem? (i := 791) (by decide +kernel), List.mem_of_getElem? (i := 1053) (by decide +kernel), List.mem_of_getElem? (i := 1054) (by decide +kernel)⟩
theorem lw_p44 : lw_okq (⟨"FerryTimetableModel", "decides", "(I)V"⟩, 31) := ⟨⟨by decide +kernel, by decide +kernel⟩, List.mem_of_getElem? (i := 791) (by decide +kernel), List.mem_of_getElem? (i := 1057) (by decide +kernel), List.mem_of_getElem? (i := 1058) (by decide +kernel)⟩
theorem lw_p45 : lw_okq (⟨"FerryTimetableModel", "shallow", "(I)I"⟩, 31) := ⟨⟨by decide +kernel, by decide +kernel⟩, List.mem_of_getElem? (i := 791) (by decide +kernel), List.mem_of_getElem? (i := 1061) (by decide +kernel), List.mem_of_getElem? (i := 1062) (by decide +kernel)⟩
theorem lw_p46 : lw_okq (⟨"FerryTimetableModel", "isDeep", "(III)Z"⟩, 31) := ⟨⟨by decide +kernel, by decide +kernel⟩, List.mem_of_getElem? (i := 791) (by decide +kernel), List.mem_of_getElem? (i := 1065) (by decide +kernel), List.mem_of_getElem? (i := 1066) (by decide +kernel)⟩
theorem lw_p47 : lw_okq (⟨"FerryTimetableModel", "waterAt", "(II)I"⟩, 31) := ⟨⟨by decide +kernel, by decide +kernel⟩, List.mem_of_getElem? (i := 791) (by decide +kernel), List.mem_of_getElem? (i := 1069) (by decide +kernel), List.mem_of_getElem? (i := 1070) (by decide +kernel)⟩
def lw_privs_3 : List (MethodName × Nat) := [(⟨"FerryTimetableModel", "setsTide", "(II)I"⟩, 31), (⟨"FerryTimetableModel", "setsWind", "(II)I"⟩, 31), (⟨"FerryTimetableModel", "readsEntry", "()Z"⟩, 31), (⟨"FerryTimetableModel", "readsNumber", "(I)Z"⟩, 31), (⟨"FerryTimetableModel", "eats", "(I)Z"⟩, 31), (⟨"FerryTimetableModel", "does", "()I"⟩, 31), (⟨"FerryTimetableModel", "brings", "()V"⟩, 31), (⟨"FerryTimetableModel", "shipOf", "(II)I"⟩, 31), (⟨"FerryTimetableModel", "sailing", "(II)I"⟩, 31), (⟨"FerryTimetableModel", "tell", "()V"⟩, 31), (⟨"FerryTimetableModel", "sorts", "()V"⟩, 31), (⟨"FerryTimetableModel", "of", "(II)I"⟩, 31), (⟨"FerryTimetableModel", "decides", "(I)V"⟩, 31), (⟨"FerryTimetableModel", "shallow", "(I)I"⟩, 31), (⟨"FerryTimetableModel", "isDeep", "(III)Z"⟩, 31), (⟨"FerryTimetableModel", "waterAt", "(II)I"⟩, 31)]
theorem lw_r3 : ∀ q ∈ lw_privs_3, lw_okq q := List.forall_mem_cons.mpr ⟨lw_p32, List.forall_mem_cons.mpr ⟨lw_p33, List.forall_mem_cons.mpr ⟨lw_p34, List.forall_mem_cons.mpr ⟨lw_p35, List.forall_mem_cons.mpr ⟨lw_p36, List.forall_mem_cons.mpr ⟨lw_p37, List.forall_mem_cons.mpr ⟨lw_p38, List.forall_mem_cons.mpr ⟨lw_p39, List.forall_mem_cons.mpr ⟨lw_p40, List.forall_mem_cons.mpr ⟨lw_p41, List.forall_mem_cons.mpr ⟨lw_p42, List.forall_mem_cons.mpr ⟨lw_p43, List.forall_mem_cons.mpr ⟨lw_p44, List.forall_mem_cons.mpr ⟨lw_p45, List.forall_mem_cons.mpr ⟨lw_p46, List.forall_mem_cons.mpr ⟨lw_p47, fun _ h => absurd h List.not_mem_nil⟩⟩⟩⟩⟩⟩⟩⟩⟩⟩⟩⟩⟩⟩⟩⟩
theorem lw_p48 : lw_okq (⟨"FerryTimetableModel", "heightAt", "(I)I"⟩, 31) := ⟨⟨by decide +kernel, by decide +kernel⟩, List.mem_of_getElem? (i := 791) (by decide +kernel), List.mem_of_getElem? (i := 1073) (by decide +kernel), List.mem_of_getElem? (i := 1074) (by decide +kernel)⟩
theorem lw_p49 : lw_okq (⟨"FerryTimetableModel", "floatHeight", "(I)F"⟩, 31) := ⟨⟨by decide +kernel, by decide +kernel⟩, List.mem_of_getElem? (i := 791) (by decide +kernel), List.mem_of_getElem? (i := 1077) (by decide +kernel), List.mem_of_getElem? (i := 1078) (by decide +kernel)⟩
theorem lw_p50 : lw_okq (⟨"FerryTimetableModel", "blocker", "(II)I"⟩, 31) := ⟨⟨by decide +kernel, by decide +kernel⟩, List.mem_of_getElem? (i := 791) (by decide +kernel), List.mem_of_getElem? (i := 1082) (by decide +kernel), List.mem_of_getElem? (i := 1083) (by decide +kernel)⟩
theorem lw_p51 : lw_okq (⟨"FerryTimetableModel", "isCalm", "(II)Z"⟩, 31) := ⟨⟨by decide +kernel, by decide +kernel⟩, List.mem_of_getElem? (i := 791) (by decide +kernel), List.mem_of_getElem? (i := 1086) (by decide +kernel), List.mem_of_getElem? (i := 1087) (by decide +kernel)⟩
theorem lw_p52 : lw_okq (⟨"FerryTimetableModel", "connectionOf", "(II)I"⟩, 31) := ⟨⟨by decide +kernel, by decide +kernel⟩, List.mem_of_getElem? (i := 791) (by decide +kernel), List.mem_of_getElem? (i := 1090) (by decide +kernel), List.mem_of_getElem? (i := 1091) (by decide +kernel)⟩
theorem lw_p53 : lw_okq (⟨"FerryTimetableModel", "kindOf", "(I)I"⟩, 31) := ⟨⟨by decide +kernel, by decide +kernel⟩, List.mem_of_getElem? (i := 791) (by decide +kernel), List.mem_of_getElem? (i := 1094) (by decide +kernel), List.mem_of_getElem? (i := 1095) (by decide +kernel)⟩
theorem lw_p54 : lw_okq (⟨"FerryTimetableModel", "vehicleOf", "(II)I"⟩, 31) := ⟨⟨by decide +kernel, by decide +kernel⟩, List.mem_of_getElem? (i := 791) (by decide +kernel), List.mem_of_getElem? (i := 1098) (by decide +kernel), List.mem_of_getElem? (i := 1099) (by decide +kernel)⟩
theorem lw_p55 : lw_okq (⟨"FerryTimetableModel", "waitsAt", "(II)V"⟩, 31) := ⟨⟨by decide +kernel, by decide +kernel⟩, List.mem_of_getElem? (i := 791) (by decide +kernel), List.mem_of_getElem? (i := 1102) (by decide +kernel), List.mem_of_getElem? (i := 1103) (by decide +kernel)⟩
theorem lw_p56 : lw_okq (⟨"FerryTimetableModel", "loads", "(II)V"⟩, 31) := ⟨⟨by decide +kernel, by decide +kernel⟩, List.mem_of_getElem? (i := 791) (by decide +kernel), List.mem_of_getElem? (i := 1106) (by decide +kernel), List.mem_of_getElem? (i := 1107) (by decide +kernel)⟩
theorem lw_p57 : lw_okq (⟨"FerryTimetableModel", "laneFor", "(II)I"⟩, 31) := ⟨⟨by decide +kernel, by decide +kernel⟩, List.mem_of_getElem? (i := 791) (by decide +kernel), List.mem_of_getElem? (i := 1110) (by decide +kernel), List.mem_of_getElem? (i := 1111) (by decide +kernel)⟩
theorem lw_p58 : lw_okq (⟨"FerryTimetableModel", "shiftsFrom", "(II)V"⟩, 31) := ⟨⟨by decide +kernel, by decide +kernel⟩, List.mem_of_getElem? (i := 791) (by decide +kernel), List.mem_of_getElem? (i := 1114) (by decide +kernel), List.mem_of_getElem? (i := 1115) (by decide +kernel)⟩
theorem lw_p59 : lw_okq (⟨"FerryTimetableModel", "loaded", "(I)I"⟩, 31) := ⟨⟨by decide +kernel, by decide +kernel⟩, List.mem_of_getElem? (i := 791) (by decide +kernel), List.mem_of_getElem? (i := 1126) (by decide +kernel), List.mem_of_getElem? (i := 1127) (by decide +kernel)⟩
theorem lw_p60 : lw_okq (⟨"FerryTimetableModel", "isLane", "(II)Z"⟩, 31) := ⟨⟨by decide +kernel, by decide +kernel⟩, List.mem_of_getElem? (i := 791) (by decide +kernel), List.mem_of_getElem? (i := 1180) (by decide +kernel), List.mem_of_getElem? (i := 1181) (by decide +kernel)⟩
theorem lw_p61 : lw_okq (⟨"FerryTimetableModel", "tellLeaving", "(I)V"⟩, 31) := ⟨⟨by decide +kernel, by decide +kernel⟩, List.mem_of_getElem? (i := 791) (by decide +kernel), List.mem_of_getElem? (i := 1192) (by decide +kernel), List.mem_of_getElem? (i := 1193) (by decide +kernel)⟩
theorem lw_p62 : lw_okq (⟨"FerryTimetableModel", "passengers", "(Z)I"⟩, 31) := ⟨⟨by decide +kernel, by decide +kernel⟩, List.mem_of_getElem? (i := 791) (by decide +kernel), List.mem_of_getElem? (i := 1204) (by decide +kernel), List.mem_of_getElem? (i := 1205) (by decide +kernel)⟩
theorem lw_p63 : lw_okq (⟨"FerryTimetableModel", "allAboard", "()I"⟩, 31) := ⟨⟨by decide +kernel, by decide +kernel⟩, List.mem_of_getElem? (i := 791) (by decide +kernel), List.mem_of_getElem? (i := 1208) (by decide +kernel), List.mem_of_getElem? (i := 1209) (by decide +kernel)⟩
def lw_privs_4 : List (MethodName × Nat) := [(⟨"FerryTimetableModel", "heightAt", "(I)I"⟩, 31), (⟨"FerryTimetableModel", "floatHeight", "(I)F"⟩, 31), (⟨"FerryTimetableModel", "blocker", "(II)I"⟩, 31), (⟨"FerryTimetableModel", "isCalm", "(II)Z"⟩, 31), (⟨"FerryTimetableModel", "connectionOf", "(II)I"⟩, 31), (⟨"FerryTimetableModel", "kindOf", "(I)I"⟩, 31), (⟨"FerryTimetableModel", "vehicleOf", "(II)I"⟩, 31), (⟨"FerryTimetableModel", "waitsAt", "(II)V"⟩, 31), (⟨"FerryTimetableModel", "loads", "(II)V"⟩, 31), (⟨"FerryTimetableModel", "laneFor", "(II)I"⟩, 31), (⟨"FerryTimetableModel", "shiftsFrom", "(II)V"⟩, 31), (⟨"FerryTimetableModel", "loaded", "(I)I"⟩, 31), (⟨"FerryTimetableModel", "isLane", "(II)Z"⟩, 31), (⟨"FerryTimetableModel", "tellLeaving", "(I)V"⟩, 31), (⟨"FerryTimetableModel", "passengers", "(Z)I"⟩, 31), (⟨"FerryTimetableModel", "allAboard", "()I"⟩, 31)]
theorem lw_r4 : ∀ q ∈ lw_privs_4, lw_okq q := List.forall_mem_cons.mpr ⟨lw_p48, List.forall_mem_cons.mpr ⟨lw_p49, List.forall_mem_cons.mpr ⟨lw_p50, List.forall_mem_cons.mpr ⟨lw_p51, List.forall_mem_cons.mpr ⟨lw_p52, List.forall_mem_cons.mpr ⟨lw_p53, List.forall_mem_cons.mpr ⟨lw_p54, List.forall_mem_cons.mpr ⟨lw_p55, List.forall_mem_cons.mpr ⟨lw_p56, List.forall_mem_cons.mpr ⟨lw_p57, List.forall_mem_cons.mpr ⟨lw_p58, List.forall_mem_cons.mpr ⟨lw_p59, List.forall_mem_cons.mpr ⟨lw_p60, List.forall_mem_cons.mpr ⟨lw_p61, List.forall_mem_cons.mpr ⟨lw_p62, List.forall_mem_cons.mpr ⟨lw_p63, fun _ h => absurd h List.not_mem_nil⟩⟩⟩⟩⟩⟩⟩⟩⟩⟩⟩⟩⟩⟩⟩⟩
theorem lw_p64 : lw_okq (⟨"FerryTimetableModel", "meters", "()I"⟩, 31) := ⟨⟨by decide +kernel, by decide +kernel⟩, List.mem_of_getElem? (i := 791) (by decide +kernel), List.mem_of_getElem? (i := 1212) (by decide +kernel), List.mem_of_getElem? (i := 1213) (by decide +kernel)⟩
theorem lw_p65 : lw_okq (⟨"FerryTimetableModel", "laneMeters", "()I"⟩, 31) := ⟨⟨by decide +kernel, by decide +kernel⟩, List.mem_of_getElem? (i := 791) (by decide +kernel), List.mem_of_getElem? (i := 1216) (by decide +kernel), List.mem_of_getElem? (i := 1217) (by decide +kernel)⟩
def lw_privs_5 : List (MethodName × Nat) := [(⟨"FerryTimetableModel", "meters", "()I"⟩, 31), (⟨"FerryTimetableModel", "laneMeters", "()I"⟩, 31)]
theorem lw_r5 : ∀ q ∈ lw_privs_5, lw_okq q := List.forall_mem_cons.mpr ⟨lw_p64, List.forall_mem_cons.mpr ⟨lw_p65, fun _ h => absurd h List.not_mem_nil⟩⟩
def lw_privs : List (MethodName × Nat) := lw_privs_1 ++ (lw_privs_2 ++ (lw_privs_3 ++ (lw_privs_4 ++ (lw_privs_5))))
def lw_tbl : List Cond := k2_sels lw_privs ++ tables_1
theorem lw_privs_ok : ∀ q ∈ lw_privs, lw_okq q := by
  show ∀ q ∈ lw_privs_1 ++ (lw_privs_2 ++ (lw_privs_3 ++ (lw_privs_4 ++ (lw_privs_5)))), lw_okq q
  exact List.forall_mem_append.mpr ⟨lw_r1, List.forall_mem_append.mpr ⟨lw_r2, List.forall_mem_append.mpr ⟨lw_r3, List.forall_mem_append.mpr ⟨lw_r4, lw_r5⟩⟩⟩⟩
/-- the streams that the claim lets the run draw from -/
abbrev lw_cs : List Choice := [Jvm.Choice.named "NaN.bits"]
theorem lw_bits : nanBits ∈ lw_cs := by first | decide | exact List.mem_cons_self | simp [lw_cs, nanBits]
-- ===== end of PART A; then your names; then what follows =====
end
section
def RX0 : String := "FerryTimetable$Decisions"
def TX0 : u_T := fun k => match k with
  | 0 => ("FerryTimetable$Decisions", "order", "[I", true)
  | 1 => ("FerryTimetable$Decisions", "position", "[I", true)
  | 2 => ("FerryTimetable$Decisions", "reason", "[I", true)
  | 3 => ("FerryTimetable$Decisions", "detail", "[I", true)
  | 4 => ("FerryTimetable$Decisions", "delay", "[I", true)
  | _ => ("FerryTimetable$Decisions", "fate", "[I", true)
def tyX0 : Nat → FieldType := fun k => match k with
  | 0 => .array .int
  | 1 => .array .int
  | 2 => .array .int
  | 3 => .array .int
  | 4 => .array .int
  | _ => .array .int
abbrev wsX00 : List Cond := u_ws RX0 TX0 6
theorem nmX0 : ∀ a, a < 6 → ∀ b, b < 6 → a ≠ b → (TX0 a).2.1 ≠ (TX0 b).2.1 := by decide +kernel
theorem tyX0_ok : ∀ k, k < 6 → parseFieldDescriptor (TX0 k).2.2.1 = some (tyX0 k) := by decide +kernel
abbrev cX0_init : ByteArray := prog_2_method_1_code
def yX0_init : MethodName := ⟨RX0, "<init>", "()V"⟩
abbrev cX0_make : ByteArray := prog_2_method_2_code
def yX0_make : MethodName := ⟨RX0, "make", "(LFerryTimetable$Port;)V"⟩
abbrev cX0_countBefore : ByteArray := prog_2_method_3_code
def yX0_countBefore : MethodName := ⟨RX0, "countBefore", "(LFerryTimetable$Port;I)I"⟩
abbrev cX0_decide : ByteArray := prog_2_method_4_code
def yX0_decide : MethodName := ⟨RX0, "decide", "(LFerryTimetable$Port;I)V"⟩
abbrev cX0_strongWind : ByteArray := prog_2_method_5_code
def yX0_strongWind : MethodName := ⟨RX0, "strongWind", "(LFerryTimetable$Port;I)I"⟩
abbrev cX0_firstShallowTime : ByteArray := prog_2_method_6_code
def yX0_firstShallowTime : MethodName := ⟨RX0, "firstShallowTime", "(LFerryTimetable$Port;I)I"⟩
abbrev cX0_firstInTheWay : ByteArray := prog_2_method_7_code
def yX0_firstInTheWay : MethodName := ⟨RX0, "firstInTheWay", "(LFerryTimetable$Port;II)I"⟩
abbrev cX0_settleConnections : ByteArray := prog_2_method_8_code
def yX0_settleConnections : MethodName := ⟨RX0, "settleConnections", "(LFerryTimetable$Port;I)V"⟩
abbrev cX0_fateOf : ByteArray := prog_2_method_9_code
def yX0_fateOf : MethodName := ⟨RX0, "fateOf", "(LFerryTimetable$Port;II)I"⟩
abbrev cX0_readyTime : ByteArray := prog_2_method_10_code
def yX0_readyTime : MethodName := ⟨RX0, "readyTime", "(LFerryTimetable$Port;I)I"⟩
abbrev cX0_sails : ByteArray := prog_2_method_11_code
def yX0_sails : MethodName := ⟨RX0, "sails", "(I)Z"⟩
abbrev cX0_tell : ByteArray := prog_2_method_12_code
def yX0_tell : MethodName := ⟨RX0, "tell", "(II)I"⟩
abbrev cX0_nextSailing : ByteArray := prog_2_method_13_code
def yX0_nextSailing : MethodName := ⟨RX0, "nextSailing", "(LFerryTimetable$Port;I)I"⟩
abbrev cX0_countSailing : ByteArray := prog_2_method_14_code
def yX0_countSailing : MethodName := ⟨RX0, "countSailing", "(LFerryTimetable$Port;II)I"⟩
abbrev cX0_countAllSailing : ByteArray := prog_2_method_15_code
def yX0_countAllSailing : MethodName := ⟨RX0, "countAllSailing", "(LFerryTimetable$Port;)I"⟩
abbrev cX0_sumPassengers : ByteArray := prog_2_method_16_code
def yX0_sumPassengers : MethodName := ⟨RX0, "sumPassengers", "(LFerryTimetable$Port;Z)I"⟩
abbrev cX0_sumDelays : ByteArray := prog_2_method_17_code
def yX0_sumDelays : MethodName := ⟨RX0, "sumDelays", "(LFerryTimetable$Port;)I"⟩
abbrev cX0_sumLaneMeters : ByteArray := prog_2_method_18_code
def yX0_sumLaneMeters : MethodName := ⟨RX0, "sumLaneMeters", "(LFerryTimetable$Port;)I"⟩
def RX1 : String := "FerryTimetable$History"
def TX1 : u_T := fun k => match k with
  | 0 => ("FerryTimetable$History", "earlier", "[LFerryTimetable$Port;", true)
  | 1 => ("FerryTimetable$History", "next", "I", false)
  | _ => ("FerryTimetable$History", "held", "I", false)
def tyX1 : Nat → FieldType := fun k => match k with
  | 0 => .array (.object "FerryTimetable$Port")
  | 1 => .int
  | _ => .int
abbrev wsX10 : List Cond := u_ws RX1 TX1 3
theorem nmX1 : ∀ a, a < 3 → ∀ b, b < 3 → a ≠ b → (TX1 a).2.1 ≠ (TX1 b).2.1 := by decide +kernel
theorem tyX1_ok : ∀ k, k < 3 → parseFieldDescriptor (TX1 k).2.2.1 = some (tyX1 k) := by decide +kernel
abbrev cX1_init : ByteArray := prog_3_method_1_code
def yX1_init : MethodName := ⟨RX1, "<init>", "()V"⟩
abbrev cX1_keep : ByteArray := prog_3_method_2_code
def yX1_keep : MethodName := ⟨RX1, "keep", "(LFerryTimetable$Port;)V"⟩
abbrev cX1_takeBack : ByteArray := prog_3_method_3_code
def yX1_takeBack : MethodName := ⟨RX1, "takeBack", "(LFerryTimetable$Port;)I"⟩
abbrev cX1_forget : ByteArray := prog_3_method_4_code
def yX1_forget : MethodName := ⟨RX1, "forget", "()V"⟩
def RX2 : String := "FerryTimetable$Loading"
def TX2 : u_T := fun k => match k with
  | 0 => ("FerryTimetable$Loading", "waiting", "[I", true)
  | 1 => ("FerryTimetable$Loading", "left", "[I", true)
  | 2 => ("FerryTimetable$Loading", "leaveOrder", "[I", true)
  | 3 => ("FerryTimetable$Loading", "queue", "[I", true)
  | 4 => ("FerryTimetable$Loading", "standing", "[I", true)
  | 5 => ("FerryTimetable$Loading", "lastPort", "[I", true)
  | 6 => ("FerryTimetable$Loading", "sailsWith", "[I", true)
  | 7 => ("FerryTimetable$Loading", "laneOf", "[I", true)
  | 8 => ("FerryTimetable$Loading", "placeOf", "[I", true)
  | 9 => ("FerryTimetable$Loading", "shifts", "[I", true)
  | _ => ("FerryTimetable$Loading", "gone", "[I", true)
def tyX2 : Nat → FieldType := fun k => match k with
  | 0 => .array .int
  | 1 => .array .int
  | 2 => .array .int
  | 3 => .array .int
  | 4 => .array .int
  | 5 => .array .int
  | 6 => .array .int
  | 7 => .array .int
  | 8 => .array .int
  | 9 => .array .int
  | _ => .array .int
abbrev wsX20 : List Cond := u_ws RX2 TX2 11
theorem nmX2 : ∀ a, a < 11 → ∀ b, b < 11 → a ≠ b → (TX2 a).2.1 ≠ (TX2 b).2.1 := by decide +kernel
theorem tyX2_ok : ∀ k, k < 11 → parseFieldDescriptor (TX2 k).2.2.1 = some (tyX2 k) := by decide +kernel
abbrev cX2_init : ByteArray := prog_4_method_1_code
def yX2_init : MethodName := ⟨RX2, "<init>", "()V"⟩
abbrev cX2_make : ByteArray := prog_4_method_2_code
def yX2_make : MethodName := ⟨RX2, "make", "(LFerryTimetable$Port;LFerryTimetable$Decisions;)V"⟩
abbrev cX2_emptyLanes : ByteArray := prog_4_method_3_code
def yX2_emptyLanes : MethodName := ⟨RX2, "emptyLanes", "(LFerryTimetable$Port;I)V"⟩
abbrev cX2_lineUp : ByteArray := prog_4_method_4_code
def yX2_lineUp : MethodName := ⟨RX2, "lineUp", "(II)V"⟩
abbrev cX2_loadOrShift : ByteArray := prog_4_method_5_code
def yX2_loadOrShift : MethodName := ⟨RX2, "loadOrShift", "(LFerryTimetable$Port;LFerryTimetable$Decisions;I)V"⟩
abbrev cX2_findLane : ByteArray := prog_4_method_6_code
def yX2_findLane : MethodName := ⟨RX2, "findLane", "(LFerryTimetable$Port;II)I"⟩
abbrev cX2_mayStand : ByteArray := prog_4_method_7_code
def yX2_mayStand : MethodName := ⟨RX2, "mayStand", "(LFerryTimetable$Port;III)Z"⟩
abbrev cX2_board : ByteArray := prog_4_method_8_code
def yX2_board : MethodName := ⟨RX2, "board", "(LFerryTimetable$Port;III)V"⟩
abbrev cX2_tell : ByteArray := prog_4_method_9_code
def yX2_tell : MethodName := ⟨RX2, "tell", "(II)I"⟩
abbrev cX2_standingAt : ByteArray := prog_4_method_10_code
def yX2_standingAt : MethodName := ⟨RX2, "standingAt", "(LFerryTimetable$Port;III)I"⟩
abbrev cX2_unload : ByteArray := prog_4_method_11_code
def yX2_unload : MethodName := ⟨RX2, "unload", "(LFerryTimetable$Port;I)I"⟩
abbrev cX2_unloadLane : ByteArray := prog_4_method_12_code
def yX2_unloadLane : MethodName := ⟨RX2, "unloadLane", "(LFerryTimetable$Port;IIII)I"⟩
abbrev cX2_isRight : ByteArray := prog_4_method_13_code
def yX2_isRight : MethodName := ⟨RX2, "isRight", "(LFerryTimetable$Port;I)Z"⟩
abbrev cX2_countInLane : ByteArray := prog_4_method_14_code
def yX2_countInLane : MethodName := ⟨RX2, "countInLane", "(LFerryTimetable$Port;II)I"⟩
abbrev cX2_sumMetersInLane : ByteArray := prog_4_method_15_code
def yX2_sumMetersInLane : MethodName := ⟨RX2, "sumMetersInLane", "(LFerryTimetable$Port;II)I"⟩
abbrev cX2_countAboard : ByteArray := prog_4_method_16_code
def yX2_countAboard : MethodName := ⟨RX2, "countAboard", "(LFerryTimetable$Port;I)I"⟩
abbrev cX2_countAllAboard : ByteArray := prog_4_method_17_code
def yX2_countAllAboard : MethodName := ⟨RX2, "countAllAboard", "(LFerryTimetable$Port;)I"⟩
abbrev cX2_sumMetersAboard : ByteArray := prog_4_method_18_code
def yX2_sumMetersAboard : MethodName := ⟨RX2, "sumMetersAboard", "(LFerryTimetable$Port;)I"⟩
abbrev cX2_sumShifts : ByteArray := prog_4_method_19_code
def yX2_sumShifts : MethodName := ⟨RX2, "sumShifts", "(LFerryTimetable$Port;)I"⟩
def RX3 : String := "FerryTimetable$Port"
def TX3 : u_T := fun k => match k with
  | 0 => ("FerryTimetable$Port", "ships", "LFerryTimetable$Table;", true)
  | 1 => ("FerryTimetable$Port", "berths", "LFerryTimetable$Table;", true)
  | 2 => ("FerryTimetable$Port", "crossings", "LFerryTimetable$Table;", true)
  | 3 => ("FerryTimetable$Port", "vehicles", "LFerryTimetable$Table;", true)
  | 4 => ("FerryTimetable$Port", "connections", "LFerryTimetable$Table;", true)
  | 5 => ("FerryTimetable$Port", "tides", "LFerryTimetable$Table;", true)
  | 6 => ("FerryTimetable$Port", "winds", "LFerryTimetable$Table;", true)
  | _ => ("FerryTimetable$Port", "margin", "I", false)
def tyX3 : Nat → FieldType := fun k => match k with
  | 0 => .object "FerryTimetable$Table"
  | 1 => .object "FerryTimetable$Table"
  | 2 => .object "FerryTimetable$Table"
  | 3 => .object "FerryTimetable$Table"
  | 4 => .object "FerryTimetable$Table"
  | 5 => .object "FerryTimetable$Table"
  | 6 => .object "FerryTimetable$Table"
  | _ => .int
abbrev wsX30 : List Cond := u_ws RX3 TX3 8
theorem nmX3 : ∀ a, a < 8 → ∀ b, b < 8 → a ≠ b → (TX3 a).2.1 ≠ (TX3 b).2.1 := by decide +kernel
theorem tyX3_ok : ∀ k, k < 8 → parseFieldDescriptor (TX3 k).2.2.1 = some (tyX3 k) := by decide +kernel
abbrev cX3_init : ByteArray := prog_5_method_1_code
def yX3_init : MethodName := ⟨RX3, "<init>", "()V"⟩
abbrev cX3_copyFrom : ByteArray := prog_5_method_2_code
def yX3_copyFrom : MethodName := ⟨RX3, "copyFrom", "(LFerryTimetable$Port;)V"⟩
abbrev cX3_enterShip : ByteArray := prog_5_method_3_code
def yX3_enterShip : MethodName := ⟨RX3, "enterShip", "(IIII)I"⟩
abbrev cX3_enterBerth : ByteArray := prog_5_method_4_code
def yX3_enterBerth : MethodName := ⟨RX3, "enterBerth", "(II)I"⟩
abbrev cX3_enterCrossing : ByteArray := prog_5_method_5_code
def yX3_enterCrossing : MethodName := ⟨RX3, "enterCrossing", "(IIII)I"⟩
abbrev cX3_enterVehicle : ByteArray := prog_5_method_6_code
def yX3_enterVehicle : MethodName := ⟨RX3, "enterVehicle", "(III)I"⟩
abbrev cX3_enterConnection : ByteArray := prog_5_method_7_code
def yX3_enterConnection : MethodName := ⟨RX3, "enterConnection", "(IIII)I"⟩
abbrev cX3_dropCrossing : ByteArray := prog_5_method_8_code
def yX3_dropCrossing : MethodName := ⟨RX3, "dropCrossing", "(I)I"⟩
abbrev cX3_dropRowsOf : ByteArray := prog_5_method_9_code
def yX3_dropRowsOf : MethodName := ⟨RX3, "dropRowsOf", "(LFerryTimetable$Table;II)V"⟩
abbrev cX3_changeBerth : ByteArray := prog_5_method_10_code
def yX3_changeBerth : MethodName := ⟨RX3, "changeBerth", "(III)I"⟩
abbrev cX3_changeTide : ByteArray := prog_5_method_11_code
def yX3_changeTide : MethodName := ⟨RX3, "changeTide", "(II)I"⟩
abbrev cX3_changeWind : ByteArray := prog_5_method_12_code
def yX3_changeWind : MethodName := ⟨RX3, "changeWind", "(II)I"⟩
abbrev cX3_changeMargin : ByteArray := prog_5_method_13_code
def yX3_changeMargin : MethodName := ⟨RX3, "changeMargin", "(I)I"⟩
abbrev cX3_isBerth : ByteArray := prog_5_method_14_code
def yX3_isBerth : MethodName := ⟨RX3, "isBerth", "(II)Z"⟩
abbrev cX3_hasLane : ByteArray := prog_5_method_15_code
def yX3_hasLane : MethodName := ⟨RX3, "hasLane", "(II)Z"⟩
abbrev cX3_lanesOf : ByteArray := prog_5_method_16_code
def yX3_lanesOf : MethodName := ⟨RX3, "lanesOf", "(I)I"⟩
abbrev cX3_laneLengthOf : ByteArray := prog_5_method_17_code
def yX3_laneLengthOf : MethodName := ⟨RX3, "laneLengthOf", "(I)I"⟩
abbrev cX3_windLimitOf : ByteArray := prog_5_method_18_code
def yX3_windLimitOf : MethodName := ⟨RX3, "windLimitOf", "(I)I"⟩
abbrev cX3_rampsOf : ByteArray := prog_5_method_19_code
def yX3_rampsOf : MethodName := ⟨RX3, "rampsOf", "(I)I"⟩
abbrev cX3_windAt : ByteArray := prog_5_method_20_code
def yX3_windAt : MethodName := ⟨RX3, "windAt", "(I)I"⟩
abbrev cX3_floatHeightAt : ByteArray := prog_5_method_21_code
def yX3_floatHeightAt : MethodName := ⟨RX3, "floatHeightAt", "(I)F"⟩
abbrev cX3_waterAt : ByteArray := prog_5_method_22_code
def yX3_waterAt : MethodName := ⟨RX3, "waterAt", "(II)I"⟩
abbrev cX3_isDeepEnough : ByteArray := prog_5_method_23_code
def yX3_isDeepEnough : MethodName := ⟨RX3, "isDeepEnough", "(III)Z"⟩
def RX4 : String := "FerryTimetable$Shelf"
def TX4 : u_T := fun k => match k with
  | _ => ("FerryTimetable$Shelf", "copies", "LFerryTimetable$Table;", true)
def tyX4 : Nat → FieldType := fun k => match k with
  | _ => .object "FerryTimetable$Table"
abbrev wsX40 : List Cond := u_ws RX4 TX4 1
theorem nmX4 : ∀ a, a < 1 → ∀ b, b < 1 → a ≠ b → (TX4 a).2.1 ≠ (TX4 b).2.1 := by decide +kernel
theorem tyX4_ok : ∀ k, k < 1 → parseFieldDescriptor (TX4 k).2.2.1 = some (tyX4 k) := by decide +kernel
abbrev cX4_init : ByteArray := prog_6_method_1_code
def yX4_init : MethodName := ⟨RX4, "<init>", "()V"⟩
abbrev cX4_hasPlace : ByteArray := prog_6_method_2_code
def yX4_hasPlace : MethodName := ⟨RX4, "hasPlace", "(II)Z"⟩
abbrev cX4_kindAt : ByteArray := prog_6_method_3_code
def yX4_kindAt : MethodName := ⟨RX4, "kindAt", "(II)I"⟩
abbrev cX4_lay : ByteArray := prog_6_method_4_code
def yX4_lay : MethodName := ⟨RX4, "lay", "(IIILFerryTimetable$Table;I)I"⟩
abbrev cX4_countFilled : ByteArray := prog_6_method_5_code
def yX4_countFilled : MethodName := ⟨RX4, "countFilled", "(I)I"⟩
abbrev cX4_addCopyTo : ByteArray := prog_6_method_6_code
def yX4_addCopyTo : MethodName := ⟨RX4, "addCopyTo", "(LFerryTimetable$Port;II)I"⟩
def RX5 : String := "FerryTimetable$Table"
def TX5 : u_T := fun k => match k with
  | 0 => ("FerryTimetable$Table", "room", "I", true)
  | 1 => ("FerryTimetable$Table", "width", "I", true)
  | 2 => ("FerryTimetable$Table", "cells", "[I", true)
  | _ => ("FerryTimetable$Table", "rows", "I", false)
def tyX5 : Nat → FieldType := fun k => match k with
  | 0 => .int
  | 1 => .int
  | 2 => .array .int
  | _ => .int
abbrev wsX50 : List Cond := u_ws RX5 TX5 4
theorem nmX5 : ∀ a, a < 4 → ∀ b, b < 4 → a ≠ b → (TX5 a).2.1 ≠ (TX5 b).2.1 := by decide +kernel
theorem tyX5_ok : ∀ k, k < 4 → parseFieldDescriptor (TX5 k).2.2.1 = some (tyX5 k) := by decide +kernel
abbrev cX5_init : ByteArray := prog_7_method_1_code
def yX5_init : MethodName := ⟨RX5, "<init>", "(III)V"⟩
abbrev cX5_size : ByteArray := prog_7_method_2_code
def yX5_size : MethodName := ⟨RX5, "size", "()I"⟩
abbrev cX5_has : ByteArray := prog_7_method_3_code
def yX5_has : MethodName := ⟨RX5, "has", "(I)Z"⟩
abbrev cX5_isFull : ByteArray := prog_7_method_4_code
def yX5_isFull : MethodName := ⟨RX5, "isFull", "()Z"⟩
abbrev cX5_at : ByteArray := prog_7_method_5_code
def yX5_at : MethodName := ⟨RX5, "at", "(II)I"⟩
abbrev cX5_put : ByteArray := prog_7_method_6_code
def yX5_put : MethodName := ⟨RX5, "put", "(III)V"⟩
abbrev cX5_addRow : ByteArray := prog_7_method_7_code
def yX5_addRow : MethodName := ⟨RX5, "addRow", "(IIII)I"⟩
abbrev cX5_removeRow : ByteArray := prog_7_method_8_code
def yX5_removeRow : MethodName := ⟨RX5, "removeRow", "(I)V"⟩
abbrev cX5_clearRows : ByteArray := prog_7_method_9_code
def yX5_clearRows : MethodName := ⟨RX5, "clearRows", "()V"⟩
abbrev cX5_copyFrom : ByteArray := prog_7_method_10_code
def yX5_copyFrom : MethodName := ⟨RX5, "copyFrom", "(LFerryTimetable$Table;)V"⟩
def RX6 : String := "FerryTimetable$Text"
def TX6 : u_T := fun k => match k with
  | 0 => ("FerryTimetable$Text", "length", "I", false)
  | 1 => ("FerryTimetable$Text", "fault", "I", false)
  | 2 => ("FerryTimetable$Text", "signs", "[C", true)
  | 3 => ("FerryTimetable$Text", "entries", "LFerryTimetable$Table;", true)
  | _ => ("FerryTimetable$Text", "at", "I", false)
def tyX6 : Nat → FieldType := fun k => match k with
  | 0 => .int
  | 1 => .int
  | 2 => .array .char
  | 3 => .object "FerryTimetable$Table"
  | _ => .int
abbrev wsX60 : List Cond := u_ws RX6 TX6 5
theorem nmX6 : ∀ a, a < 5 → ∀ b, b < 5 → a ≠ b → (TX6 a).2.1 ≠ (TX6 b).2.1 := by decide +kernel
theorem tyX6_ok : ∀ k, k < 5 → parseFieldDescriptor (TX6 k).2.2.1 = some (tyX6 k) := by decide +kernel
abbrev cX6_init : ByteArray := prog_8_method_1_code
def yX6_init : MethodName := ⟨RX6, "<init>", "()V"⟩
abbrev cX6_take : ByteArray := prog_8_method_2_code
def yX6_take : MethodName := ⟨RX6, "take", "(I)I"⟩
abbrev cX6_makeEntries : ByteArray := prog_8_method_3_code
def yX6_makeEntries : MethodName := ⟨RX6, "makeEntries", "(LFerryTimetable$Port;)I"⟩
abbrev cX6_makeEntry : ByteArray := prog_8_method_4_code
def yX6_makeEntry : MethodName := ⟨RX6, "makeEntry", "(LFerryTimetable$Port;I)I"⟩
abbrev cX6_findEntries : ByteArray := prog_8_method_5_code
def yX6_findEntries : MethodName := ⟨RX6, "findEntries", "()I"⟩
abbrev cX6_findEntry : ByteArray := prog_8_method_6_code
def yX6_findEntry : MethodName := ⟨RX6, "findEntry", "()Z"⟩
abbrev cX6_countNumbers : ByteArray := prog_8_method_7_code
def yX6_countNumbers : MethodName := ⟨RX6, "countNumbers", "(I)I"⟩
abbrev cX6_findNumber : ByteArray := prog_8_method_8_code
def yX6_findNumber : MethodName := ⟨RX6, "findNumber", "(III)Z"⟩
abbrev cX6_passes : ByteArray := prog_8_method_9_code
def yX6_passes : MethodName := ⟨RX6, "passes", "(C)Z"⟩
abbrev cX6_signHere : ByteArray := prog_8_method_10_code
def yX6_signHere : MethodName := ⟨RX6, "signHere", "()I"⟩
def RX7 : String := "FerryTimetable"
def TX7 : u_T := fun k => match k with
  | 0 => ("FerryTimetable", "port", "LFerryTimetable$Port;", true)
  | 1 => ("FerryTimetable", "spare", "LFerryTimetable$Port;", true)
  | 2 => ("FerryTimetable", "saved", "LFerryTimetable$Port;", true)
  | 3 => ("FerryTimetable", "history", "LFerryTimetable$History;", true)
  | 4 => ("FerryTimetable", "decisions", "LFerryTimetable$Decisions;", true)
  | 5 => ("FerryTimetable", "loading", "LFerryTimetable$Loading;", true)
  | 6 => ("FerryTimetable", "text", "LFerryTimetable$Text;", true)
  | 7 => ("FerryTimetable", "shelf", "LFerryTimetable$Shelf;", true)
  | _ => ("FerryTimetable", "hasSaved", "Z", false)
def tyX7 : Nat → FieldType := fun k => match k with
  | 0 => .object "FerryTimetable$Port"
  | 1 => .object "FerryTimetable$Port"
  | 2 => .object "FerryTimetable$Port"
  | 3 => .object "FerryTimetable$History"
  | 4 => .object "FerryTimetable$Decisions"
  | 5 => .object "FerryTimetable$Loading"
  | 6 => .object "FerryTimetable$Text"
  | 7 => .object "FerryTimetable$Shelf"
  | _ => .boolean
abbrev wsX70 : List Cond := u_ws RX7 TX7 9
theorem nmX7 : ∀ a, a < 9 → ∀ b, b < 9 → a ≠ b → (TX7 a).2.1 ≠ (TX7 b).2.1 := by decide +kernel
theorem tyX7_ok : ∀ k, k < 9 → parseFieldDescriptor (TX7 k).2.2.1 = some (tyX7 k) := by decide +kernel
abbrev cX7_init : ByteArray := prog_1_method_1_code
def yX7_init : MethodName := ⟨RX7, "<init>", "()V"⟩
abbrev cX7_addShip : ByteArray := prog_1_method_2_code
def yX7_addShip : MethodName := ⟨RX7, "addShip", "(IIII)I"⟩
abbrev cX7_addBerth : ByteArray := prog_1_method_3_code
def yX7_addBerth : MethodName := ⟨RX7, "addBerth", "(II)I"⟩
abbrev cX7_addCrossing : ByteArray := prog_1_method_4_code
def yX7_addCrossing : MethodName := ⟨RX7, "addCrossing", "(IIII)I"⟩
abbrev cX7_addVehicle : ByteArray := prog_1_method_5_code
def yX7_addVehicle : MethodName := ⟨RX7, "addVehicle", "(III)I"⟩
abbrev cX7_addConnection : ByteArray := prog_1_method_6_code
def yX7_addConnection : MethodName := ⟨RX7, "addConnection", "(IIII)I"⟩
abbrev cX7_removeCrossing : ByteArray := prog_1_method_7_code
def yX7_removeCrossing : MethodName := ⟨RX7, "removeCrossing", "(I)I"⟩
abbrev cX7_setBerth : ByteArray := prog_1_method_8_code
def yX7_setBerth : MethodName := ⟨RX7, "setBerth", "(III)I"⟩
abbrev cX7_setTide : ByteArray := prog_1_method_9_code
def yX7_setTide : MethodName := ⟨RX7, "setTide", "(II)I"⟩
abbrev cX7_setWind : ByteArray := prog_1_method_10_code
def yX7_setWind : MethodName := ⟨RX7, "setWind", "(II)I"⟩
abbrev cX7_setMargin : ByteArray := prog_1_method_11_code
def yX7_setMargin : MethodName := ⟨RX7, "setMargin", "(I)I"⟩
abbrev cX7_append : ByteArray := prog_1_method_12_code
def yX7_append : MethodName := ⟨RX7, "append", "(I)I"⟩
abbrev cX7_read : ByteArray := prog_1_method_13_code
def yX7_read : MethodName := ⟨RX7, "read", "()I"⟩
abbrev cX7_faultPosition : ByteArray := prog_1_method_14_code
def yX7_faultPosition : MethodName := ⟨RX7, "faultPosition", "()I"⟩
abbrev cX7_undo : ByteArray := prog_1_method_15_code
def yX7_undo : MethodName := ⟨RX7, "undo", "()I"⟩
abbrev cX7_count : ByteArray := prog_1_method_16_code
def yX7_count : MethodName := ⟨RX7, "count", "(I)I"⟩
abbrev cX7_ship : ByteArray := prog_1_method_17_code
def yX7_ship : MethodName := ⟨RX7, "ship", "(II)I"⟩
abbrev cX7_berth : ByteArray := prog_1_method_18_code
def yX7_berth : MethodName := ⟨RX7, "berth", "(II)I"⟩
abbrev cX7_crossing : ByteArray := prog_1_method_19_code
def yX7_crossing : MethodName := ⟨RX7, "crossing", "(II)I"⟩
abbrev cX7_decided : ByteArray := prog_1_method_20_code
def yX7_decided : MethodName := ⟨RX7, "decided", "(I)I"⟩
abbrev cX7_vehicle : ByteArray := prog_1_method_21_code
def yX7_vehicle : MethodName := ⟨RX7, "vehicle", "(II)I"⟩
abbrev cX7_connection : ByteArray := prog_1_method_22_code
def yX7_connection : MethodName := ⟨RX7, "connection", "(II)I"⟩
abbrev cX7_tide : ByteArray := prog_1_method_23_code
def yX7_tide : MethodName := ⟨RX7, "tide", "(I)I"⟩
abbrev cX7_wind : ByteArray := prog_1_method_24_code
def yX7_wind : MethodName := ⟨RX7, "wind", "(I)I"⟩
abbrev cX7_height : ByteArray := prog_1_method_25_code
def yX7_height : MethodName := ⟨RX7, "height", "(I)I"⟩
abbrev cX7_heightBits : ByteArray := prog_1_method_26_code
def yX7_heightBits : MethodName := ⟨RX7, "heightBits", "(I)I"⟩
abbrev cX7_water : ByteArray := prog_1_method_27_code
def yX7_water : MethodName := ⟨RX7, "water", "(II)I"⟩
abbrev cX7_firstTime : ByteArray := prog_1_method_28_code
def yX7_firstTime : MethodName := ⟨RX7, "firstTime", "(III)I"⟩
abbrev cX7_laneLeft : ByteArray := prog_1_method_29_code
def yX7_laneLeft : MethodName := ⟨RX7, "laneLeft", "(II)I"⟩
abbrev cX7_laneVehicle : ByteArray := prog_1_method_30_code
def yX7_laneVehicle : MethodName := ⟨RX7, "laneVehicle", "(III)I"⟩
abbrev cX7_leaves : ByteArray := prog_1_method_31_code
def yX7_leaves : MethodName := ⟨RX7, "leaves", "(II)I"⟩
abbrev cX7_isOrderly : ByteArray := prog_1_method_32_code
def yX7_isOrderly : MethodName := ⟨RX7, "isOrderly", "()I"⟩
abbrev cX7_account : ByteArray := prog_1_method_33_code
def yX7_account : MethodName := ⟨RX7, "account", "(I)I"⟩
abbrev cX7_loadBits : ByteArray := prog_1_method_34_code
def yX7_loadBits : MethodName := ⟨RX7, "loadBits", "()I"⟩
abbrev cX7_sailingIf : ByteArray := prog_1_method_35_code
def yX7_sailingIf : MethodName := ⟨RX7, "sailingIf", "(I)I"⟩
abbrev cX7_bestBerth : ByteArray := prog_1_method_36_code
def yX7_bestBerth : MethodName := ⟨RX7, "bestBerth", "(I)I"⟩
abbrev cX7_layDown : ByteArray := prog_1_method_37_code
def yX7_layDown : MethodName := ⟨RX7, "layDown", "(IIII)I"⟩
abbrev cX7_takeOut : ByteArray := prog_1_method_38_code
def yX7_takeOut : MethodName := ⟨RX7, "takeOut", "(II)I"⟩
abbrev cX7_lying : ByteArray := prog_1_method_39_code
def yX7_lying : MethodName := ⟨RX7, "lying", "(II)I"⟩
abbrev cX7_save : ByteArray := prog_1_method_40_code
def yX7_save : MethodName := ⟨RX7, "save", "()I"⟩
abbrev cX7_restore : ByteArray := prog_1_method_41_code
def yX7_restore : MethodName := ⟨RX7, "restore", "()I"⟩
abbrev cX7_noted : ByteArray := prog_1_method_42_code
def yX7_noted : MethodName := ⟨RX7, "noted", "(I)I"⟩
abbrev cX7_isError : ByteArray := prog_1_method_43_code
def yX7_isError : MethodName := ⟨RX7, "isError", "(I)Z"⟩
abbrev cX7_isOutside : ByteArray := prog_1_method_44_code
def yX7_isOutside : MethodName := ⟨RX7, "isOutside", "(III)Z"⟩
abbrev cX7_bitsOf : ByteArray := prog_1_method_45_code
def yX7_bitsOf : MethodName := ⟨RX7, "bitsOf", "(F)I"⟩
def RX8 : String := "FerryTimetableModel"
def TX8 : u_T := fun k => match k with
  | 0 => ("FerryTimetableModel", "g", "[I", true)
  | 1 => ("FerryTimetableModel", "ahead", "[I", true)
  | 2 => ("FerryTimetableModel", "history", "[I", true)
  | 3 => ("FerryTimetableModel", "historyMany", "I", false)
  | 4 => ("FerryTimetableModel", "saved", "[I", true)
  | 5 => ("FerryTimetableModel", "hasSaved", "Z", false)
  | 6 => ("FerryTimetableModel", "tape", "[C", true)
  | 7 => ("FerryTimetableModel", "taped", "I", false)
  | 8 => ("FerryTimetableModel", "wrongAt", "I", false)
  | 9 => ("FerryTimetableModel", "at", "I", false)
  | 10 => ("FerryTimetableModel", "letter", "I", false)
  | 11 => ("FerryTimetableModel", "numbers", "[I", true)
  | 12 => ("FerryTimetableModel", "order", "[I", true)
  | 13 => ("FerryTimetableModel", "place", "[I", true)
  | 14 => ("FerryTimetableModel", "reason", "[I", true)
  | 15 => ("FerryTimetableModel", "detail", "[I", true)
  | 16 => ("FerryTimetableModel", "delay", "[I", true)
  | 17 => ("FerryTimetableModel", "waiting", "[I", true)
  | 18 => ("FerryTimetableModel", "waits", "[I", true)
  | 19 => ("FerryTimetableModel", "aboard", "[I", true)
  | 20 => ("FerryTimetableModel", "laneOf", "[I", true)
  | 21 => ("FerryTimetableModel", "spot", "[I", true)
  | 22 => ("FerryTimetableModel", "shifts", "[I", true)
  | 23 => ("FerryTimetableModel", "laneMany", "[I", true)
  | 24 => ("FerryTimetableModel", "lane", "[I", true)
  | 25 => ("FerryTimetableModel", "left", "[I", true)
  | 26 => ("FerryTimetableModel", "leaving", "[I", true)
  | 27 => ("FerryTimetableModel", "leavingMany", "I", false)
  | 28 => ("FerryTimetableModel", "gone", "[I", true)
  | 29 => ("FerryTimetableModel", "kinds", "[I", true)
  | _ => ("FerryTimetableModel", "things", "[I", true)
def tyX8 : Nat → FieldType := fun k => match k with
  | 0 => .array .int
  | 1 => .array .int
  | 2 => .array .int
  | 3 => .int
  | 4 => .array .int
  | 5 => .boolean
  | 6 => .array .char
  | 7 => .int
  | 8 => .int
  | 9 => .int
  | 10 => .int
  | 11 => .array .int
  | 12 => .array .int
  | 13 => .array .int
  | 14 => .array .int
  | 15 => .array .int
  | 16 => .array .int
  | 17 => .array .int
  | 18 => .array .int
  | 19 => .array .int
  | 20 => .array .int
  | 21 => .array .int
  | 22 => .array .int
  | 23 => .array .int
  | 24 => .array .int
  | 25 => .array .int
  | 26 => .array .int
  | 27 => .int
  | 28 => .array .int
  | 29 => .array .int
  | _ => .array .int
abbrev wsX80 : List Cond := u_ws RX8 TX8 31
theorem nmX8 : ∀ a, a < 31 → ∀ b, b < 31 → a ≠ b → (TX8 a).2.1 ≠ (TX8 b).2.1 := by decide +kernel
theorem tyX8_ok : ∀ k, k < 31 → parseFieldDescriptor (TX8 k).2.2.1 = some (tyX8 k) := by decide +kernel
abbrev cX8_init : ByteArray := prog_10_method_1_code
def yX8_init : MethodName := ⟨RX8, "<init>", "()V"⟩
abbrev cX8_in : ByteArray := prog_10_method_2_code
def yX8_in : MethodName := ⟨RX8, "in", "(III)Z"⟩
abbrev cX8_isShip : ByteArray := prog_10_method_3_code
def yX8_isShip : MethodName := ⟨RX8, "isShip", "(I)Z"⟩
abbrev cX8_isBerth : ByteArray := prog_10_method_4_code
def yX8_isBerth : MethodName := ⟨RX8, "isBerth", "(I)Z"⟩
abbrev cX8_isCrossing : ByteArray := prog_10_method_5_code
def yX8_isCrossing : MethodName := ⟨RX8, "isCrossing", "(I)Z"⟩
abbrev cX8_shipOf : ByteArray := prog_10_method_6_code
def yX8_shipOf : MethodName := ⟨RX8, "shipOf", "(II)I"⟩
abbrev cX8_berthOf : ByteArray := prog_10_method_7_code
def yX8_berthOf : MethodName := ⟨RX8, "berthOf", "(II)I"⟩
abbrev cX8_of : ByteArray := prog_10_method_8_code
def yX8_of : MethodName := ⟨RX8, "of", "(II)I"⟩
abbrev cX8_vehicleOf : ByteArray := prog_10_method_9_code
def yX8_vehicleOf : MethodName := ⟨RX8, "vehicleOf", "(II)I"⟩
abbrev cX8_connectionOf : ByteArray := prog_10_method_10_code
def yX8_connectionOf : MethodName := ⟨RX8, "connectionOf", "(II)I"⟩
abbrev cX8_remembers : ByteArray := prog_10_method_11_code
def yX8_remembers : MethodName := ⟨RX8, "remembers", "()V"⟩
abbrev cX8_brings : ByteArray := prog_10_method_12_code
def yX8_brings : MethodName := ⟨RX8, "brings", "()V"⟩
abbrev cX8_errs : ByteArray := prog_10_method_13_code
def yX8_errs : MethodName := ⟨RX8, "errs", "(I)Z"⟩
abbrev cX8_kept : ByteArray := prog_10_method_14_code
def yX8_kept : MethodName := ⟨RX8, "kept", "(I)I"⟩
abbrev cX8_addsShip : ByteArray := prog_10_method_15_code
def yX8_addsShip : MethodName := ⟨RX8, "addsShip", "(IIII)I"⟩
abbrev cX8_addsBerth : ByteArray := prog_10_method_16_code
def yX8_addsBerth : MethodName := ⟨RX8, "addsBerth", "(II)I"⟩
abbrev cX8_addsCrossing : ByteArray := prog_10_method_17_code
def yX8_addsCrossing : MethodName := ⟨RX8, "addsCrossing", "(IIII)I"⟩
abbrev cX8_addsVehicle : ByteArray := prog_10_method_18_code
def yX8_addsVehicle : MethodName := ⟨RX8, "addsVehicle", "(III)I"⟩
abbrev cX8_addsConnection : ByteArray := prog_10_method_19_code
def yX8_addsConnection : MethodName := ⟨RX8, "addsConnection", "(IIII)I"⟩
abbrev cX8_setsTide : ByteArray := prog_10_method_20_code
def yX8_setsTide : MethodName := ⟨RX8, "setsTide", "(II)I"⟩
abbrev cX8_setsWind : ByteArray := prog_10_method_21_code
def yX8_setsWind : MethodName := ⟨RX8, "setsWind", "(II)I"⟩
abbrev cX8_addShip : ByteArray := prog_10_method_22_code
def yX8_addShip : MethodName := ⟨RX8, "addShip", "(IIII)I"⟩
abbrev cX8_addBerth : ByteArray := prog_10_method_23_code
def yX8_addBerth : MethodName := ⟨RX8, "addBerth", "(II)I"⟩
abbrev cX8_addCrossing : ByteArray := prog_10_method_24_code
def yX8_addCrossing : MethodName := ⟨RX8, "addCrossing", "(IIII)I"⟩
abbrev cX8_addVehicle : ByteArray := prog_10_method_25_code
def yX8_addVehicle : MethodName := ⟨RX8, "addVehicle", "(III)I"⟩
abbrev cX8_addConnection : ByteArray := prog_10_method_26_code
def yX8_addConnection : MethodName := ⟨RX8, "addConnection", "(IIII)I"⟩
abbrev cX8_cuts : ByteArray := prog_10_method_27_code
def yX8_cuts : MethodName := ⟨RX8, "cuts", "(IIII)V"⟩
abbrev cX8_removeCrossing : ByteArray := prog_10_method_28_code
def yX8_removeCrossing : MethodName := ⟨RX8, "removeCrossing", "(I)I"⟩
abbrev cX8_setBerth : ByteArray := prog_10_method_29_code
def yX8_setBerth : MethodName := ⟨RX8, "setBerth", "(III)I"⟩
abbrev cX8_setTide : ByteArray := prog_10_method_30_code
def yX8_setTide : MethodName := ⟨RX8, "setTide", "(II)I"⟩
abbrev cX8_setWind : ByteArray := prog_10_method_31_code
def yX8_setWind : MethodName := ⟨RX8, "setWind", "(II)I"⟩
abbrev cX8_setMargin : ByteArray := prog_10_method_32_code
def yX8_setMargin : MethodName := ⟨RX8, "setMargin", "(I)I"⟩
abbrev cX8_append : ByteArray := prog_10_method_33_code
def yX8_append : MethodName := ⟨RX8, "append", "(I)I"⟩
abbrev cX8_eats : ByteArray := prog_10_method_34_code
def yX8_eats : MethodName := ⟨RX8, "eats", "(I)Z"⟩
abbrev cX8_readsNumber : ByteArray := prog_10_method_35_code
def yX8_readsNumber : MethodName := ⟨RX8, "readsNumber", "(I)Z"⟩
abbrev cX8_readsEntry : ByteArray := prog_10_method_36_code
def yX8_readsEntry : MethodName := ⟨RX8, "readsEntry", "()Z"⟩
abbrev cX8_does : ByteArray := prog_10_method_37_code
def yX8_does : MethodName := ⟨RX8, "does", "()I"⟩
abbrev cX8_read : ByteArray := prog_10_method_38_code
def yX8_read : MethodName := ⟨RX8, "read", "()I"⟩
abbrev cX8_faultPosition : ByteArray := prog_10_method_39_code
def yX8_faultPosition : MethodName := ⟨RX8, "faultPosition", "()I"⟩
abbrev cX8_undo : ByteArray := prog_10_method_40_code
def yX8_undo : MethodName := ⟨RX8, "undo", "()I"⟩
abbrev cX8_floatHeight : ByteArray := prog_10_method_41_code
def yX8_floatHeight : MethodName := ⟨RX8, "floatHeight", "(I)F"⟩
abbrev cX8_heightAt : ByteArray := prog_10_method_42_code
def yX8_heightAt : MethodName := ⟨RX8, "heightAt", "(I)I"⟩
abbrev cX8_waterAt : ByteArray := prog_10_method_43_code
def yX8_waterAt : MethodName := ⟨RX8, "waterAt", "(II)I"⟩
abbrev cX8_isDeep : ByteArray := prog_10_method_44_code
def yX8_isDeep : MethodName := ⟨RX8, "isDeep", "(III)Z"⟩
abbrev cX8_isCalm : ByteArray := prog_10_method_45_code
def yX8_isCalm : MethodName := ⟨RX8, "isCalm", "(II)Z"⟩
abbrev cX8_sorts : ByteArray := prog_10_method_46_code
def yX8_sorts : MethodName := ⟨RX8, "sorts", "()V"⟩
abbrev cX8_shallow : ByteArray := prog_10_method_47_code
def yX8_shallow : MethodName := ⟨RX8, "shallow", "(I)I"⟩
abbrev cX8_blocker : ByteArray := prog_10_method_48_code
def yX8_blocker : MethodName := ⟨RX8, "blocker", "(II)I"⟩
abbrev cX8_kindOf : ByteArray := prog_10_method_49_code
def yX8_kindOf : MethodName := ⟨RX8, "kindOf", "(I)I"⟩
abbrev cX8_decides : ByteArray := prog_10_method_50_code
def yX8_decides : MethodName := ⟨RX8, "decides", "(I)V"⟩
abbrev cX8_waitsAt : ByteArray := prog_10_method_51_code
def yX8_waitsAt : MethodName := ⟨RX8, "waitsAt", "(II)V"⟩
abbrev cX8_laneFor : ByteArray := prog_10_method_52_code
def yX8_laneFor : MethodName := ⟨RX8, "laneFor", "(II)I"⟩
abbrev cX8_shiftsFrom : ByteArray := prog_10_method_53_code
def yX8_shiftsFrom : MethodName := ⟨RX8, "shiftsFrom", "(II)V"⟩
abbrev cX8_loads : ByteArray := prog_10_method_54_code
def yX8_loads : MethodName := ⟨RX8, "loads", "(II)V"⟩
abbrev cX8_tell : ByteArray := prog_10_method_55_code
def yX8_tell : MethodName := ⟨RX8, "tell", "()V"⟩
abbrev cX8_count : ByteArray := prog_10_method_56_code
def yX8_count : MethodName := ⟨RX8, "count", "(I)I"⟩
abbrev cX8_sailing : ByteArray := prog_10_method_57_code
def yX8_sailing : MethodName := ⟨RX8, "sailing", "(II)I"⟩
abbrev cX8_ship : ByteArray := prog_10_method_58_code
def yX8_ship : MethodName := ⟨RX8, "ship", "(II)I"⟩
abbrev cX8_berth : ByteArray := prog_10_method_59_code
def yX8_berth : MethodName := ⟨RX8, "berth", "(II)I"⟩
abbrev cX8_loaded : ByteArray := prog_10_method_60_code
def yX8_loaded : MethodName := ⟨RX8, "loaded", "(I)I"⟩
abbrev cX8_crossing : ByteArray := prog_10_method_61_code
def yX8_crossing : MethodName := ⟨RX8, "crossing", "(II)I"⟩
abbrev cX8_decided : ByteArray := prog_10_method_62_code
def yX8_decided : MethodName := ⟨RX8, "decided", "(I)I"⟩
abbrev cX8_vehicle : ByteArray := prog_10_method_63_code
def yX8_vehicle : MethodName := ⟨RX8, "vehicle", "(II)I"⟩
abbrev cX8_connection : ByteArray := prog_10_method_64_code
def yX8_connection : MethodName := ⟨RX8, "connection", "(II)I"⟩
abbrev cX8_tide : ByteArray := prog_10_method_65_code
def yX8_tide : MethodName := ⟨RX8, "tide", "(I)I"⟩
abbrev cX8_wind : ByteArray := prog_10_method_66_code
def yX8_wind : MethodName := ⟨RX8, "wind", "(I)I"⟩
abbrev cX8_height : ByteArray := prog_10_method_67_code
def yX8_height : MethodName := ⟨RX8, "height", "(I)I"⟩
abbrev cX8_heightBits : ByteArray := prog_10_method_68_code
def yX8_heightBits : MethodName := ⟨RX8, "heightBits", "(I)I"⟩
abbrev cX8_water : ByteArray := prog_10_method_69_code
def yX8_water : MethodName := ⟨RX8, "water", "(II)I"⟩
abbrev cX8_firstTime : ByteArray := prog_10_method_70_code
def yX8_firstTime : MethodName := ⟨RX8, "firstTime", "(III)I"⟩
abbrev cX8_isLane : ByteArray := prog_10_method_71_code
def yX8_isLane : MethodName := ⟨RX8, "isLane", "(II)Z"⟩
abbrev cX8_laneLeft : ByteArray := prog_10_method_72_code
def yX8_laneLeft : MethodName := ⟨RX8, "laneLeft", "(II)I"⟩
abbrev cX8_laneVehicle : ByteArray := prog_10_method_73_code
def yX8_laneVehicle : MethodName := ⟨RX8, "laneVehicle", "(III)I"⟩
abbrev cX8_tellLeaving : ByteArray := prog_10_method_74_code
def yX8_tellLeaving : MethodName := ⟨RX8, "tellLeaving", "(I)V"⟩
abbrev cX8_leaves : ByteArray := prog_10_method_75_code
def yX8_leaves : MethodName := ⟨RX8, "leaves", "(II)I"⟩
abbrev cX8_isOrderly : ByteArray := prog_10_method_76_code
def yX8_isOrderly : MethodName := ⟨RX8, "isOrderly", "()I"⟩
abbrev cX8_meters : ByteArray := prog_10_method_77_code
def yX8_meters : MethodName := ⟨RX8, "meters", "()I"⟩
abbrev cX8_laneMeters : ByteArray := prog_10_method_78_code
def yX8_laneMeters : MethodName := ⟨RX8, "laneMeters", "()I"⟩
abbrev cX8_passengers : ByteArray := prog_10_method_79_code
def yX8_passengers : MethodName := ⟨RX8, "passengers", "(Z)I"⟩
abbrev cX8_allAboard : ByteArray := prog_10_method_80_code
def yX8_allAboard : MethodName := ⟨RX8, "allAboard", "()I"⟩
abbrev cX8_account : ByteArray := prog_10_method_81_code
def yX8_account : MethodName := ⟨RX8, "account", "(I)I"⟩
abbrev cX8_loadBits : ByteArray := prog_10_method_82_code
def yX8_loadBits : MethodName := ⟨RX8, "loadBits", "()I"⟩
abbrev cX8_sailingIf : ByteArray := prog_10_method_83_code
def yX8_sailingIf : MethodName := ⟨RX8, "sailingIf", "(I)I"⟩
abbrev cX8_bestBerth : ByteArray := prog_10_method_84_code
def yX8_bestBerth : MethodName := ⟨RX8, "bestBerth", "(I)I"⟩
abbrev cX8_isPlace : ByteArray := prog_10_method_85_code
def yX8_isPlace : MethodName := ⟨RX8, "isPlace", "(II)Z"⟩
abbrev cX8_layDown : ByteArray := prog_10_method_86_code
def yX8_layDown : MethodName := ⟨RX8, "layDown", "(IIII)I"⟩
abbrev cX8_takeOut : ByteArray := prog_10_method_87_code
def yX8_takeOut : MethodName := ⟨RX8, "takeOut", "(II)I"⟩
abbrev cX8_lying : ByteArray := prog_10_method_88_code
def yX8_lying : MethodName := ⟨RX8, "lying", "(II)I"⟩
abbrev cX8_save : ByteArray := prog_10_method_89_code
def yX8_save : MethodName := ⟨RX8, "save", "()I"⟩
abbrev cX8_restore : ByteArray := prog_10_method_90_code
def yX8_restore : MethodName := ⟨RX8, "restore", "()I"⟩
def RJxf58ca : String := "java/lang/Float"
def TJxf58ca : u_T := fun k => match k with
  | _ => ("", "", "", false)
def tyJxf58ca : Nat → FieldType := fun k => match k with
  | _ => .int
abbrev wsJxf58ca0 : List Cond := u_ws RJxf58ca TJxf58ca 0
theorem nmJxf58ca : ∀ a, a < 0 → ∀ b, b < 0 → a ≠ b → (TJxf58ca a).2.1 ≠ (TJxf58ca b).2.1 := by decide +kernel
theorem tyJxf58ca_ok : ∀ k, k < 0 → parseFieldDescriptor (TJxf58ca k).2.2.1 = some (tyJxf58ca k) := by decide +kernel
abbrev cJxf58ca_isNaN_12338 : ByteArray := prog_11_method_6_code
def yJxf58ca_isNaN_12338 : MethodName := ⟨RJxf58ca, "isNaN", "(F)Z"⟩
abbrev cJxf58ca_floatToIntBits_5c35a : ByteArray := prog_11_method_24_code
def yJxf58ca_floatToIntBits_5c35a : MethodName := ⟨RJxf58ca, "floatToIntBits", "(F)I"⟩
def RJ9 : String := "java/lang/Math"
def TJ9 : u_T := fun k => match k with
  | _ => ("", "", "", false)
def tyJ9 : Nat → FieldType := fun k => match k with
  | _ => .int
abbrev wsJ90 : List Cond := u_ws RJ9 TJ9 0
theorem nmJ9 : ∀ a, a < 0 → ∀ b, b < 0 → a ≠ b → (TJ9 a).2.1 ≠ (TJ9 b).2.1 := by decide +kernel
theorem tyJ9_ok : ∀ k, k < 0 → parseFieldDescriptor (TJ9 k).2.2.1 = some (tyJ9 k) := by decide +kernel
abbrev cJ9_max_7cf53 : ByteArray := prog_12_method_65_code
def yJ9_max_7cf53 : MethodName := ⟨RJ9, "max", "(II)I"⟩
abbrev cJ9_min_7cf53 : ByteArray := prog_12_method_69_code
def yJ9_min_7cf53 : MethodName := ⟨RJ9, "min", "(II)I"⟩
def RJ10 : String := "java/lang/System"
def TJ10 : u_T := fun k => match k with
  | _ => ("", "", "", false)
def tyJ10 : Nat → FieldType := fun k => match k with
  | _ => .int
abbrev wsJ100 : List Cond := u_ws RJ10 TJ10 0
theorem nmJ10 : ∀ a, a < 0 → ∀ b, b < 0 → a ≠ b → (TJ10 a).2.1 ≠ (TJ10 b).2.1 := by decide +kernel
theorem tyJ10_ok : ∀ k, k < 0 → parseFieldDescriptor (TJ10 k).2.2.1 = some (tyJ10 k) := by decide +kernel
def RL : String := "FerryTimetableLaw"
abbrev cL_law : ByteArray := code
def yL_law : MethodName := ⟨RL, "law", "([I)Z"⟩
abbrev vwCl : List vw_C := [(RX0, TX0, 6), (RX1, TX1, 3), (RX2, TX2, 11), (RX3, TX3, 8), (RX4, TX4, 1), (RX5, TX5, 4), (RX6, TX6, 5), (RX7, TX7, 9), (RX8, TX8, 31)]
abbrev kI : Type := Nat × Instr × Nat
theorem kd {c : ByteArray} {L : List (Nat × Instr × Nat)} (h : L.all (fun q => decide (decode c q.1 = .ok (q.2.1, q.2.2))) = true) (i : Nat) {pc n : Nat} {x : Instr} (hi : L[i]? = some (pc, x, n)) : decode c pc = .ok (x, n) := by
  have h1 := List.all_eq_true.mp h (pc, x, n) (List.mem_of_getElem? hi)
  exact of_decide_eq_true h1
def iX0_init_0 : List kI := [(0, .aload_n 0, 1), (1, .invokespecial 3, 3), (4, .aload_n 0, 1), (5, .bipush 12, 2), (7, .newarray .int, 2), (9, .putfield 9, 3), (12, .aload_n 0, 1), (13, .bipush 12, 2), (15, .newarray .int, 2), (17, .putfield 15, 3), (20, .aload_n 0, 1), (21, .bipush 12, 2), (23, .newarray .int, 2), (25, .putfield 18, 3), (28, .aload_n 0, 1), (29, .bipush 12, 2), (31, .newarray .int, 2), (33, .putfield 21, 3), (36, .aload_n 0, 1), (37, .bipush 12, 2), (39, .newarray .int, 2), (41, .putfield 24, 3), (44, .aload_n 0, 1), (45, .bipush 8, 2), (47, .newarray .int, 2), (49, .putfield 27, 3), (52, .return_, 1)]
theorem kX0_init_0 : iX0_init_0.all (fun q => decide (decode cX0_init q.1 = .ok (q.2.1, q.2.2))) = true := by decide +kernel
def iX0_make_0 : List kI := [(0, .iconst 0, 1), (1, .istore_n 2, 1), (2, .iload_n 2, 1), (3, .aload_n 1, 1), (4, .getfield 30, 3), (7, .invokevirtual 36, 3), (10, .if_icmp .ge 29, 3), (13, .aload_n 1, 1), (14, .iload_n 2, 1), (15, .invokestatic 42, 3), (18, .istore_n 3, 1), (19, .aload_n 0, 1), (20, .getfield 15, 3), (23, .iload_n 2, 1), (24, .iload_n 3, 1), (25, .iastore, 1), (26, .aload_n 0, 1), (27, .getfield 9, 3), (30, .iload_n 3, 1), (31, .iload_n 2, 1), (32, .iastore, 1), (33, .iinc 2 1, 3), (36, .goto (-34), 3), (39, .iconst 0, 1), (40, .istore_n 2, 1), (41, .iload_n 2, 1), (42, .aload_n 1, 1), (43, .getfield 30, 3), (46, .invokevirtual 36, 3), (49, .if_icmp .ge 26, 3), (52, .aload_n 0, 1), (53, .aload_n 1, 1), (54, .iload_n 2, 1), (55, .invokevirtual 46, 3), (58, .aload_n 0, 1), (59, .aload_n 1, 1), (60, .aload_n 0, 1), (61, .getfield 9, 3), (64, .iload_n 2, 1), (65, .iaload, 1), (66, .invokevirtual 50, 3), (69, .iinc 2 1, 3), (72, .goto (-31), 3), (75, .return_, 1)]
theorem kX0_make_0 : iX0_make_0.all (fun q => decide (decode cX0_make q.1 = .ok (q.2.1, q.2.2))) = true := by decide +kernel
def iX0_countBefore_0 : List kI := [(0, .aload_n 0, 1), (1, .getfield 30, 3), (4, .iload_n 1, 1), (5, .iconst 3, 1), (6, .invokevirtual 53, 3), (9, .istore_n 2, 1), (10, .iconst 0, 1), (11, .istore_n 3, 1), (12, .iconst 0, 1), (13, .istore 4, 2), (15, .iload 4, 2), (17, .aload_n 0, 1), (18, .getfield 30, 3), (21, .invokevirtual 36, 3), (24, .if_icmp .ge 42, 3), (27, .aload_n 0, 1), (28, .getfield 30, 3), (31, .iload 4, 2), (33, .iconst 3, 1), (34, .invokevirtual 53, 3), (37, .istore 5, 2), (39, .iload 5, 2), (41, .iload_n 2, 1), (42, .if_icmp .lt 15, 3), (45, .iload 5, 2), (47, .iload_n 2, 1), (48, .if_icmp .ne 12, 3), (51, .iload 4, 2), (53, .iload_n 1, 1), (54, .if_icmp .ge 6, 3), (57, .iinc 3 1, 3), (60, .iinc 4 1, 3), (63, .goto (-48), 3), (66, .iload_n 3, 1), (67, .ireturn, 1)]
theorem kX0_countBefore_0 : iX0_countBefore_0.all (fun q => decide (decode cX0_countBefore q.1 = .ok (q.2.1, q.2.2))) = true := by decide +kernel
def iX0_decide_0 : List kI := [(0, .aload_n 0, 1), (1, .getfield 9, 3), (4, .iload_n 2, 1), (5, .iaload, 1), (6, .istore_n 3, 1), (7, .iconst 1, 1), (8, .istore 4, 2), (10, .aload_n 1, 1), (11, .iload_n 3, 1), (12, .invokestatic 57, 3), (15, .istore 5, 2), (17, .iload 5, 2), (19, .sipush (-10004), 3), (22, .if_icmp .ne 13, 3), (25, .iconst 2, 1), (26, .istore 4, 2), (28, .aload_n 1, 1), (29, .iload_n 3, 1), (30, .invokestatic 60, 3), (33, .istore 5, 2), (35, .iload 5, 2), (37, .sipush (-10004), 3), (40, .if_icmp .ne 15, 3), (43, .iconst 3, 1), (44, .istore 4, 2), (46, .aload_n 0, 1), (47, .aload_n 1, 1), (48, .iload_n 2, 1), (49, .iconst 1, 1), (50, .invokevirtual 63, 3), (53, .istore 5, 2), (55, .iload 5, 2), (57, .sipush (-10004), 3), (60, .if_icmp .ne 15, 3), (63, .iconst 4, 1), (64, .istore 4, 2), (66, .aload_n 0, 1), (67, .aload_n 1, 1), (68, .iload_n 2, 1), (69, .iconst 0, 1), (70, .invokevirtual 63, 3), (73, .istore 5, 2), (75, .aload_n 0, 1), (76, .getfield 18, 3), (79, .iload_n 3, 1), (80, .iload 5, 2), (82, .sipush (-10004), 3), (85, .if_icmp .ne 7, 3), (88, .iconst 0, 1), (89, .goto 5, 3), (92, .iload 4, 2), (94, .iastore, 1), (95, .aload_n 0, 1), (96, .getfield 21, 3), (99, .iload_n 3, 1), (100, .iload 5, 2), (102, .iastore, 1), (103, .return_, 1)]
theorem kX0_decide_0 : iX0_decide_0.all (fun q => decide (decode cX0_decide q.1 = .ok (q.2.1, q.2.2))) = true := by decide +kernel
def iX0_strongWind_0 : List kI := [(0, .aload_n 0, 1), (1, .aload_n 0, 1), (2, .getfield 30, 3), (5, .iload_n 1, 1), (6, .iconst 3, 1), (7, .invokevirtual 53, 3), (10, .invokevirtual 67, 3), (13, .istore_n 2, 1), (14, .iload_n 2, 1), (15, .aload_n 0, 1), (16, .iload_n 1, 1), (17, .invokevirtual 71, 3), (20, .if_icmp .le 7, 3), (23, .iload_n 2, 1), (24, .goto 6, 3), (27, .sipush (-10004), 3), (30, .ireturn, 1)]
theorem kX0_strongWind_0 : iX0_strongWind_0.all (fun q => decide (decode cX0_strongWind q.1 = .ok (q.2.1, q.2.2))) = true := by decide +kernel
def iX0_firstShallowTime_0 : List kI := [(0, .aload_n 0, 1), (1, .getfield 30, 3), (4, .iload_n 1, 1), (5, .iconst 0, 1), (6, .invokevirtual 53, 3), (9, .istore_n 2, 1), (10, .aload_n 0, 1), (11, .getfield 30, 3), (14, .iload_n 1, 1), (15, .iconst 1, 1), (16, .invokevirtual 53, 3), (19, .istore_n 3, 1), (20, .aload_n 0, 1), (21, .getfield 30, 3), (24, .iload_n 1, 1), (25, .iconst 2, 1), (26, .invokevirtual 53, 3), (29, .istore 4, 2), (31, .aload_n 0, 1), (32, .getfield 30, 3), (35, .iload_n 1, 1), (36, .iconst 3, 1), (37, .invokevirtual 53, 3), (40, .istore 5, 2), (42, .aload_n 0, 1), (43, .iload_n 3, 1), (44, .iload_n 2, 1), (45, .iload 4, 2), (47, .invokevirtual 74, 3), (50, .ifCond .ne 6, 3), (53, .iload 4, 2), (55, .ireturn, 1), (56, .iload 4, 2), (58, .bipush 60, 2), (60, .idiv, 1), (61, .iconst 1, 1), (62, .iadd, 1), (63, .bipush 60, 2), (65, .imul, 1), (66, .istore 6, 2), (68, .iload 6, 2), (70, .iload 5, 2), (72, .if_icmp .ge 23, 3), (75, .aload_n 0, 1), (76, .iload_n 3, 1), (77, .iload_n 2, 1), (78, .iload 6, 2), (80, .invokevirtual 74, 3), (83, .ifCond .ne 6, 3), (86, .iload 6, 2), (88, .ireturn, 1), (89, .iinc 6 60, 3), (92, .goto (-24), 3), (95, .aload_n 0, 1), (96, .iload_n 3, 1), (97, .iload_n 2, 1), (98, .iload 5, 2), (100, .invokevirtual 74, 3), (103, .ifCond .eq 9, 3), (106, .sipush (-10004), 3)]
theorem kX0_firstShallowTime_0 : iX0_firstShallowTime_0.all (fun q => decide (decode cX0_firstShallowTime q.1 = .ok (q.2.1, q.2.2))) = true := by decide +kernel
def iX0_firstShallowTime_1 : List kI := [(109, .goto 5, 3), (112, .iload 5, 2), (114, .ireturn, 1)]
theorem kX0_firstShallowTime_1 : iX0_firstShallowTime_1.all (fun q => decide (decode cX0_firstShallowTime q.1 = .ok (q.2.1, q.2.2))) = true := by decide +kernel
def iX0_firstInTheWay_0 : List kI := [(0, .aload_n 0, 1), (1, .getfield 9, 3), (4, .iload_n 2, 1), (5, .iaload, 1), (6, .istore 4, 2), (8, .aload_n 1, 1), (9, .getfield 30, 3), (12, .iload 4, 2), (14, .iconst 2, 1), (15, .invokevirtual 53, 3), (18, .istore 5, 2), (20, .aload_n 1, 1), (21, .getfield 30, 3), (24, .iload 4, 2), (26, .iconst 3, 1), (27, .invokevirtual 53, 3), (30, .istore 6, 2), (32, .iconst 0, 1), (33, .istore 7, 2), (35, .iload 7, 2), (37, .iload_n 2, 1), (38, .if_icmp .ge 95, 3), (41, .aload_n 0, 1), (42, .getfield 9, 3), (45, .iload 7, 2), (47, .iaload, 1), (48, .istore 8, 2), (50, .aload_n 1, 1), (51, .getfield 30, 3), (54, .iload 8, 2), (56, .iconst 3, 1), (57, .invokevirtual 53, 3), (60, .aload_n 0, 1), (61, .getfield 24, 3), (64, .iload 8, 2), (66, .iaload, 1), (67, .iadd, 1), (68, .istore 9, 2), (70, .aload_n 0, 1), (71, .iload 8, 2), (73, .invokevirtual 78, 3), (76, .ifCond .eq 51, 3), (79, .aload_n 1, 1), (80, .getfield 30, 3), (83, .iload 8, 2), (85, .iload_n 3, 1), (86, .invokevirtual 53, 3), (89, .aload_n 1, 1), (90, .getfield 30, 3), (93, .iload 4, 2), (95, .iload_n 3, 1), (96, .invokevirtual 53, 3), (99, .if_icmp .ne 28, 3), (102, .iload 5, 2), (104, .iload 9, 2), (106, .if_icmp .ge 21, 3), (109, .aload_n 1, 1), (110, .getfield 30, 3), (113, .iload 8, 2), (115, .iconst 2, 1)]
theorem kX0_firstInTheWay_0 : iX0_firstInTheWay_0.all (fun q => decide (decode cX0_firstInTheWay q.1 = .ok (q.2.1, q.2.2))) = true := by decide +kernel
def iX0_firstInTheWay_1 : List kI := [(116, .invokevirtual 53, 3), (119, .iload 6, 2), (121, .if_icmp .ge 6, 3), (124, .iload 8, 2), (126, .ireturn, 1), (127, .iinc 7 1, 3), (130, .goto (-95), 3), (133, .sipush (-10004), 3), (136, .ireturn, 1)]
theorem kX0_firstInTheWay_1 : iX0_firstInTheWay_1.all (fun q => decide (decode cX0_firstInTheWay q.1 = .ok (q.2.1, q.2.2))) = true := by decide +kernel
def iX0_settleConnections_0 : List kI := [(0, .aload_n 1, 1), (1, .getfield 30, 3), (4, .iload_n 2, 1), (5, .iconst 3, 1), (6, .invokevirtual 53, 3), (9, .istore_n 3, 1), (10, .aload_n 0, 1), (11, .getfield 24, 3), (14, .iload_n 2, 1), (15, .iconst 0, 1), (16, .iastore, 1), (17, .iconst 0, 1), (18, .istore 4, 2), (20, .iload 4, 2), (22, .aload_n 1, 1), (23, .getfield 82, 3), (26, .invokevirtual 36, 3), (29, .if_icmp .ge 83, 3), (32, .aload_n 1, 1), (33, .getfield 82, 3), (36, .iload 4, 2), (38, .iconst 0, 1), (39, .invokevirtual 53, 3), (42, .iload_n 2, 1), (43, .if_icmp .ne 63, 3), (46, .aload_n 0, 1), (47, .getfield 27, 3), (50, .iload 4, 2), (52, .aload_n 0, 1), (53, .iload_n 2, 1), (54, .invokevirtual 78, 3), (57, .ifCond .eq 13, 3), (60, .aload_n 1, 1), (61, .iload_n 2, 1), (62, .iload 4, 2), (64, .invokestatic 85, 3), (67, .goto 4, 3), (70, .iconst 2, 1), (71, .iastore, 1), (72, .aload_n 0, 1), (73, .getfield 27, 3), (76, .iload 4, 2), (78, .iaload, 1), (79, .iconst 1, 1), (80, .if_icmp .ne 26, 3), (83, .aload_n 0, 1), (84, .getfield 24, 3), (87, .iload_n 2, 1), (88, .aload_n 0, 1), (89, .getfield 24, 3), (92, .iload_n 2, 1), (93, .iaload, 1), (94, .aload_n 1, 1), (95, .iload 4, 2), (97, .invokestatic 88, 3), (100, .iload_n 3, 1), (101, .isub, 1), (102, .invokestatic 91, 3), (105, .iastore, 1), (106, .iinc 4 1, 3)]
theorem kX0_settleConnections_0 : iX0_settleConnections_0.all (fun q => decide (decode cX0_settleConnections q.1 = .ok (q.2.1, q.2.2))) = true := by decide +kernel
def iX0_settleConnections_1 : List kI := [(109, .goto (-89), 3), (112, .return_, 1)]
theorem kX0_settleConnections_1 : iX0_settleConnections_1.all (fun q => decide (decode cX0_settleConnections q.1 = .ok (q.2.1, q.2.2))) = true := by decide +kernel
def iX0_fateOf_0 : List kI := [(0, .aload_n 0, 1), (1, .getfield 30, 3), (4, .iload_n 1, 1), (5, .iconst 3, 1), (6, .invokevirtual 53, 3), (9, .istore_n 3, 1), (10, .aload_n 0, 1), (11, .iload_n 2, 1), (12, .invokestatic 88, 3), (15, .istore 4, 2), (17, .iload 4, 2), (19, .iload_n 3, 1), (20, .if_icmp .gt 5, 3), (23, .iconst 0, 1), (24, .ireturn, 1), (25, .aload_n 0, 1), (26, .getfield 30, 3), (29, .iload_n 1, 1), (30, .iconst 0, 1), (31, .invokevirtual 53, 3), (34, .istore 5, 2), (36, .aload_n 0, 1), (37, .getfield 30, 3), (40, .iload_n 1, 1), (41, .iconst 1, 1), (42, .invokevirtual 53, 3), (45, .istore 6, 2), (47, .iload 4, 2), (49, .iload_n 3, 1), (50, .aload_n 0, 1), (51, .getfield 82, 3), (54, .iload_n 2, 1), (55, .iconst 2, 1), (56, .invokevirtual 53, 3), (59, .iadd, 1), (60, .if_icmp .gt 34, 3), (63, .aload_n 0, 1), (64, .iload 4, 2), (66, .invokevirtual 67, 3), (69, .aload_n 0, 1), (70, .iload_n 1, 1), (71, .invokevirtual 71, 3), (74, .if_icmp .gt 20, 3), (77, .aload_n 0, 1), (78, .iload 6, 2), (80, .iload 5, 2), (82, .iload 4, 2), (84, .invokevirtual 74, 3), (87, .ifCond .eq 7, 3), (90, .iconst 1, 1), (91, .goto 4, 3), (94, .iconst 0, 1), (95, .istore 7, 2), (97, .iload 7, 2), (99, .ifCond .eq 7, 3), (102, .iconst 1, 1), (103, .goto 4, 3), (106, .iconst 2, 1), (107, .ireturn, 1)]
theorem kX0_fateOf_0 : iX0_fateOf_0.all (fun q => decide (decode cX0_fateOf q.1 = .ok (q.2.1, q.2.2))) = true := by decide +kernel
def iX0_readyTime_0 : List kI := [(0, .aload_n 0, 1), (1, .getfield 82, 3), (4, .iload_n 1, 1), (5, .iconst 1, 1), (6, .invokevirtual 53, 3), (9, .bipush 10, 2), (11, .iadd, 1), (12, .ireturn, 1)]
theorem kX0_readyTime_0 : iX0_readyTime_0.all (fun q => decide (decode cX0_readyTime q.1 = .ok (q.2.1, q.2.2))) = true := by decide +kernel
def iX0_sails_0 : List kI := [(0, .aload_n 0, 1), (1, .getfield 18, 3), (4, .iload_n 1, 1), (5, .iaload, 1), (6, .ifCond .ne 7, 3), (9, .iconst 1, 1), (10, .goto 4, 3), (13, .iconst 0, 1), (14, .ireturn, 1)]
theorem kX0_sails_0 : iX0_sails_0.all (fun q => decide (decode cX0_sails q.1 = .ok (q.2.1, q.2.2))) = true := by decide +kernel
def iX0_tell_0 : List kI := [(0, .iload_n 2, 1), (1, .tableswitch 48 4 6 #[27, 34, 41], 27), (28, .aload_n 0, 1), (29, .getfield 24, 3), (32, .iload_n 1, 1), (33, .iaload, 1), (34, .ireturn, 1), (35, .aload_n 0, 1), (36, .getfield 18, 3), (39, .iload_n 1, 1), (40, .iaload, 1), (41, .ireturn, 1), (42, .aload_n 0, 1), (43, .getfield 21, 3), (46, .iload_n 1, 1), (47, .iaload, 1), (48, .ireturn, 1), (49, .aload_n 0, 1), (50, .getfield 15, 3), (53, .iload_n 1, 1), (54, .iaload, 1), (55, .ireturn, 1)]
theorem kX0_tell_0 : iX0_tell_0.all (fun q => decide (decode cX0_tell q.1 = .ok (q.2.1, q.2.2))) = true := by decide +kernel
def iX0_nextSailing_0 : List kI := [(0, .aload_n 1, 1), (1, .getfield 30, 3), (4, .aload_n 0, 1), (5, .getfield 9, 3), (8, .iload_n 2, 1), (9, .iaload, 1), (10, .iconst 3, 1), (11, .invokevirtual 53, 3), (14, .istore_n 3, 1), (15, .iload_n 2, 1), (16, .iconst 1, 1), (17, .iadd, 1), (18, .istore 4, 2), (20, .iload 4, 2), (22, .aload_n 1, 1), (23, .getfield 30, 3), (26, .invokevirtual 36, 3), (29, .if_icmp .ge 50, 3), (32, .aload_n 0, 1), (33, .aload_n 0, 1), (34, .getfield 9, 3), (37, .iload 4, 2), (39, .iaload, 1), (40, .invokevirtual 78, 3), (43, .ifCond .eq 30, 3), (46, .aload_n 1, 1), (47, .getfield 30, 3), (50, .aload_n 0, 1), (51, .getfield 9, 3), (54, .iload 4, 2), (56, .iaload, 1), (57, .iconst 3, 1), (58, .invokevirtual 53, 3), (61, .iload_n 3, 1), (62, .if_icmp .le 11, 3), (65, .aload_n 0, 1), (66, .getfield 9, 3), (69, .iload 4, 2), (71, .iaload, 1), (72, .ireturn, 1), (73, .iinc 4 1, 3), (76, .goto (-56), 3), (79, .sipush (-10004), 3), (82, .ireturn, 1)]
theorem kX0_nextSailing_0 : iX0_nextSailing_0.all (fun q => decide (decode cX0_nextSailing q.1 = .ok (q.2.1, q.2.2))) = true := by decide +kernel
def iX0_countSailing_0 : List kI := [(0, .iconst 0, 1), (1, .istore 4, 2), (3, .iconst 0, 1), (4, .istore 5, 2), (6, .iload 5, 2), (8, .aload_n 1, 1), (9, .getfield 30, 3), (12, .invokevirtual 36, 3), (15, .if_icmp .ge 35, 3), (18, .aload_n 0, 1), (19, .iload 5, 2), (21, .invokevirtual 78, 3), (24, .ifCond .eq 20, 3), (27, .aload_n 1, 1), (28, .getfield 30, 3), (31, .iload 5, 2), (33, .iload_n 2, 1), (34, .invokevirtual 53, 3), (37, .iload_n 3, 1), (38, .if_icmp .ne 6, 3), (41, .iinc 4 1, 3), (44, .iinc 5 1, 3), (47, .goto (-41), 3), (50, .iload 4, 2), (52, .ireturn, 1)]
theorem kX0_countSailing_0 : iX0_countSailing_0.all (fun q => decide (decode cX0_countSailing q.1 = .ok (q.2.1, q.2.2))) = true := by decide +kernel
def iX0_countAllSailing_0 : List kI := [(0, .iconst 0, 1), (1, .istore_n 2, 1), (2, .iconst 0, 1), (3, .istore_n 3, 1), (4, .iload_n 3, 1), (5, .aload_n 1, 1), (6, .getfield 30, 3), (9, .invokevirtual 36, 3), (12, .if_icmp .ge 20, 3), (15, .aload_n 0, 1), (16, .iload_n 3, 1), (17, .invokevirtual 78, 3), (20, .ifCond .eq 6, 3), (23, .iinc 2 1, 3), (26, .iinc 3 1, 3), (29, .goto (-25), 3), (32, .iload_n 2, 1), (33, .ireturn, 1)]
theorem kX0_countAllSailing_0 : iX0_countAllSailing_0.all (fun q => decide (decode cX0_countAllSailing q.1 = .ok (q.2.1, q.2.2))) = true := by decide +kernel
def iX0_sumPassengers_0 : List kI := [(0, .iconst 0, 1), (1, .istore_n 3, 1), (2, .iconst 0, 1), (3, .istore 4, 2), (5, .iload 4, 2), (7, .aload_n 1, 1), (8, .getfield 82, 3), (11, .invokevirtual 36, 3), (14, .if_icmp .ge 42, 3), (17, .aload_n 0, 1), (18, .getfield 27, 3), (21, .iload 4, 2), (23, .iaload, 1), (24, .iconst 2, 1), (25, .if_icmp .ne 7, 3), (28, .iconst 1, 1), (29, .goto 4, 3), (32, .iconst 0, 1), (33, .iload_n 2, 1), (34, .if_icmp .ne 16, 3), (37, .iload_n 3, 1), (38, .aload_n 1, 1), (39, .getfield 82, 3), (42, .iload 4, 2), (44, .iconst 3, 1), (45, .invokevirtual 53, 3), (48, .iadd, 1), (49, .istore_n 3, 1), (50, .iinc 4 1, 3), (53, .goto (-48), 3), (56, .iload_n 3, 1), (57, .ireturn, 1)]
theorem kX0_sumPassengers_0 : iX0_sumPassengers_0.all (fun q => decide (decode cX0_sumPassengers q.1 = .ok (q.2.1, q.2.2))) = true := by decide +kernel
def iX0_sumDelays_0 : List kI := [(0, .iconst 0, 1), (1, .istore_n 2, 1), (2, .iconst 0, 1), (3, .istore_n 3, 1), (4, .iload_n 3, 1), (5, .aload_n 1, 1), (6, .getfield 30, 3), (9, .invokevirtual 36, 3), (12, .if_icmp .ge 18, 3), (15, .iload_n 2, 1), (16, .aload_n 0, 1), (17, .getfield 24, 3), (20, .iload_n 3, 1), (21, .iaload, 1), (22, .iadd, 1), (23, .istore_n 2, 1), (24, .iinc 3 1, 3), (27, .goto (-23), 3), (30, .iload_n 2, 1), (31, .ireturn, 1)]
theorem kX0_sumDelays_0 : iX0_sumDelays_0.all (fun q => decide (decode cX0_sumDelays q.1 = .ok (q.2.1, q.2.2))) = true := by decide +kernel
def iX0_sumLaneMeters_0 : List kI := [(0, .iconst 0, 1), (1, .istore_n 2, 1), (2, .iconst 0, 1), (3, .istore_n 3, 1), (4, .iload_n 3, 1), (5, .aload_n 1, 1), (6, .getfield 30, 3), (9, .invokevirtual 36, 3), (12, .if_icmp .ge 31, 3), (15, .aload_n 0, 1), (16, .iload_n 3, 1), (17, .invokevirtual 78, 3), (20, .ifCond .eq 17, 3), (23, .iload_n 2, 1), (24, .aload_n 1, 1), (25, .iload_n 3, 1), (26, .invokevirtual 96, 3), (29, .aload_n 1, 1), (30, .iload_n 3, 1), (31, .invokevirtual 99, 3), (34, .imul, 1), (35, .iadd, 1), (36, .istore_n 2, 1), (37, .iinc 3 1, 3), (40, .goto (-36), 3), (43, .iload_n 2, 1), (44, .ireturn, 1)]
theorem kX0_sumLaneMeters_0 : iX0_sumLaneMeters_0.all (fun q => decide (decode cX0_sumLaneMeters q.1 = .ok (q.2.1, q.2.2))) = true := by decide +kernel
def iX1_init_0 : List kI := [(0, .aload_n 0, 1), (1, .invokespecial 3, 3), (4, .aload_n 0, 1), (5, .bipush 6, 2), (7, .anewarray 11, 3), (10, .putfield 13, 3), (13, .iconst 0, 1), (14, .istore_n 1, 1), (15, .iload_n 1, 1), (16, .bipush 6, 2), (18, .if_icmp .ge 22, 3), (21, .aload_n 0, 1), (22, .getfield 13, 3), (25, .iload_n 1, 1), (26, .new 11, 3), (29, .dup, 1), (30, .invokespecial 17, 3), (33, .aastore, 1), (34, .iinc 1 1, 3), (37, .goto (-22), 3), (40, .aload_n 0, 1), (41, .iconst 0, 1), (42, .putfield 18, 3), (45, .aload_n 0, 1), (46, .iconst 0, 1), (47, .putfield 22, 3), (50, .return_, 1)]
theorem kX1_init_0 : iX1_init_0.all (fun q => decide (decode cX1_init q.1 = .ok (q.2.1, q.2.2))) = true := by decide +kernel
def iX1_keep_0 : List kI := [(0, .aload_n 0, 1), (1, .getfield 13, 3), (4, .aload_n 0, 1), (5, .getfield 18, 3), (8, .aaload, 1), (9, .aload_n 1, 1), (10, .invokevirtual 25, 3), (13, .aload_n 0, 1), (14, .aload_n 0, 1), (15, .getfield 18, 3), (18, .iconst 1, 1), (19, .iadd, 1), (20, .bipush 6, 2), (22, .irem, 1), (23, .putfield 18, 3), (26, .aload_n 0, 1), (27, .aload_n 0, 1), (28, .getfield 22, 3), (31, .iconst 1, 1), (32, .iadd, 1), (33, .bipush 6, 2), (35, .invokestatic 29, 3), (38, .putfield 22, 3), (41, .return_, 1)]
theorem kX1_keep_0 : iX1_keep_0.all (fun q => decide (decode cX1_keep q.1 = .ok (q.2.1, q.2.2))) = true := by decide +kernel
def iX1_takeBack_0 : List kI := [(0, .aload_n 0, 1), (1, .getfield 22, 3), (4, .ifCond .ne 7, 3), (7, .sipush (-10004), 3), (10, .ireturn, 1), (11, .aload_n 0, 1), (12, .dup, 1), (13, .getfield 22, 3), (16, .iconst 1, 1), (17, .isub, 1), (18, .putfield 22, 3), (21, .aload_n 0, 1), (22, .aload_n 0, 1), (23, .getfield 18, 3), (26, .bipush 6, 2), (28, .iadd, 1), (29, .iconst 1, 1), (30, .isub, 1), (31, .bipush 6, 2), (33, .irem, 1), (34, .putfield 18, 3), (37, .aload_n 1, 1), (38, .aload_n 0, 1), (39, .getfield 13, 3), (42, .aload_n 0, 1), (43, .getfield 18, 3), (46, .aaload, 1), (47, .invokevirtual 25, 3), (50, .aload_n 0, 1), (51, .getfield 22, 3), (54, .ireturn, 1)]
theorem kX1_takeBack_0 : iX1_takeBack_0.all (fun q => decide (decode cX1_takeBack q.1 = .ok (q.2.1, q.2.2))) = true := by decide +kernel
def iX1_forget_0 : List kI := [(0, .aload_n 0, 1), (1, .iconst 0, 1), (2, .putfield 22, 3), (5, .return_, 1)]
theorem kX1_forget_0 : iX1_forget_0.all (fun q => decide (decode cX1_forget q.1 = .ok (q.2.1, q.2.2))) = true := by decide +kernel
def iX2_init_0 : List kI := [(0, .aload_n 0, 1), (1, .invokespecial 3, 3), (4, .aload_n 0, 1), (5, .bipush 12, 2), (7, .newarray .int, 2), (9, .putfield 9, 3), (12, .aload_n 0, 1), (13, .bipush 48, 2), (15, .newarray .int, 2), (17, .putfield 15, 3), (20, .aload_n 0, 1), (21, .bipush 24, 2), (23, .newarray .int, 2), (25, .putfield 18, 3), (28, .aload_n 0, 1), (29, .sipush 288, 3), (32, .newarray .int, 2), (34, .putfield 21, 3), (37, .aload_n 0, 1), (38, .bipush 48, 2), (40, .newarray .int, 2), (42, .putfield 24, 3), (45, .aload_n 0, 1), (46, .bipush 48, 2), (48, .newarray .int, 2), (50, .putfield 27, 3), (53, .aload_n 0, 1), (54, .bipush 24, 2), (56, .newarray .int, 2), (58, .putfield 30, 3), (61, .aload_n 0, 1), (62, .bipush 24, 2), (64, .newarray .int, 2), (66, .putfield 33, 3), (69, .aload_n 0, 1), (70, .bipush 24, 2), (72, .newarray .int, 2), (74, .putfield 36, 3), (77, .aload_n 0, 1), (78, .bipush 24, 2), (80, .newarray .int, 2), (82, .putfield 39, 3), (85, .aload_n 0, 1), (86, .iconst 4, 1), (87, .newarray .int, 2), (89, .putfield 42, 3), (92, .return_, 1)]
theorem kX2_init_0 : iX2_init_0.all (fun q => decide (decode cX2_init q.1 = .ok (q.2.1, q.2.2))) = true := by decide +kernel
def iX2_make_0 : List kI := [(0, .iconst 0, 1), (1, .istore_n 3, 1), (2, .iload_n 3, 1), (3, .aload_n 1, 1), (4, .getfield 45, 3), (7, .invokevirtual 51, 3), (10, .if_icmp .ge 22, 3), (13, .aload_n 0, 1), (14, .getfield 9, 3), (17, .iload_n 3, 1), (18, .iconst 0, 1), (19, .iastore, 1), (20, .aload_n 0, 1), (21, .aload_n 1, 1), (22, .iload_n 3, 1), (23, .invokevirtual 57, 3), (26, .iinc 3 1, 3), (29, .goto (-27), 3), (32, .iconst 0, 1), (33, .istore_n 3, 1), (34, .iload_n 3, 1), (35, .aload_n 1, 1), (36, .getfield 61, 3), (39, .invokevirtual 51, 3), (42, .if_icmp .ge 57, 3), (45, .aload_n 0, 1), (46, .getfield 30, 3), (49, .iload_n 3, 1), (50, .sipush (-10004), 3), (53, .iastore, 1), (54, .aload_n 0, 1), (55, .getfield 33, 3), (58, .iload_n 3, 1), (59, .sipush (-10004), 3), (62, .iastore, 1), (63, .aload_n 0, 1), (64, .getfield 36, 3), (67, .iload_n 3, 1), (68, .sipush (-10004), 3), (71, .iastore, 1), (72, .aload_n 0, 1), (73, .getfield 39, 3), (76, .iload_n 3, 1), (77, .iconst 0, 1), (78, .iastore, 1), (79, .aload_n 0, 1), (80, .aload_n 1, 1), (81, .getfield 61, 3), (84, .iload_n 3, 1), (85, .iconst 0, 1), (86, .invokevirtual 64, 3), (89, .iload_n 3, 1), (90, .invokevirtual 68, 3), (93, .iinc 3 1, 3), (96, .goto (-62), 3), (99, .iconst 0, 1), (100, .istore_n 3, 1), (101, .iload_n 3, 1), (102, .aload_n 1, 1), (103, .getfield 45, 3)]
theorem kX2_make_0 : iX2_make_0.all (fun q => decide (decode cX2_make q.1 = .ok (q.2.1, q.2.2))) = true := by decide +kernel
def iX2_make_1 : List kI := [(106, .invokevirtual 51, 3), (109, .if_icmp .ge 16, 3), (112, .aload_n 0, 1), (113, .aload_n 1, 1), (114, .aload_n 2, 1), (115, .iload_n 3, 1), (116, .invokevirtual 72, 3), (119, .iinc 3 1, 3), (122, .goto (-21), 3), (125, .return_, 1)]
theorem kX2_make_1 : iX2_make_1.all (fun q => decide (decode cX2_make q.1 = .ok (q.2.1, q.2.2))) = true := by decide +kernel
def iX2_emptyLanes_0 : List kI := [(0, .iconst 0, 1), (1, .istore_n 3, 1), (2, .iload_n 3, 1), (3, .iconst 4, 1), (4, .if_icmp .ge 35, 3), (7, .aload_n 0, 1), (8, .getfield 15, 3), (11, .iload_n 2, 1), (12, .iconst 4, 1), (13, .imul, 1), (14, .iload_n 3, 1), (15, .iadd, 1), (16, .aload_n 1, 1), (17, .iload_n 2, 1), (18, .invokevirtual 76, 3), (21, .iastore, 1), (22, .aload_n 0, 1), (23, .getfield 24, 3), (26, .iload_n 2, 1), (27, .iconst 4, 1), (28, .imul, 1), (29, .iload_n 3, 1), (30, .iadd, 1), (31, .iconst 0, 1), (32, .iastore, 1), (33, .iinc 3 1, 3), (36, .goto (-34), 3), (39, .return_, 1)]
theorem kX2_emptyLanes_0 : iX2_emptyLanes_0.all (fun q => decide (decode cX2_emptyLanes q.1 = .ok (q.2.1, q.2.2))) = true := by decide +kernel
def iX2_lineUp_0 : List kI := [(0, .aload_n 0, 1), (1, .getfield 9, 3), (4, .iload_n 1, 1), (5, .iaload, 1), (6, .istore_n 3, 1), (7, .iload_n 3, 1), (8, .bipush 24, 2), (10, .if_icmp .ge 24, 3), (13, .aload_n 0, 1), (14, .getfield 21, 3), (17, .iload_n 1, 1), (18, .bipush 24, 2), (20, .imul, 1), (21, .iload_n 3, 1), (22, .iadd, 1), (23, .iload_n 2, 1), (24, .iastore, 1), (25, .aload_n 0, 1), (26, .getfield 9, 3), (29, .iload_n 1, 1), (30, .iload_n 3, 1), (31, .iconst 1, 1), (32, .iadd, 1), (33, .iastore, 1), (34, .return_, 1)]
theorem kX2_lineUp_0 : iX2_lineUp_0.all (fun q => decide (decode cX2_lineUp q.1 = .ok (q.2.1, q.2.2))) = true := by decide +kernel
def iX2_loadOrShift_0 : List kI := [(0, .aload_n 2, 1), (1, .getfield 80, 3), (4, .iload_n 3, 1), (5, .iaload, 1), (6, .istore 4, 2), (8, .aload_n 2, 1), (9, .aload_n 1, 1), (10, .iload_n 3, 1), (11, .invokevirtual 85, 3), (14, .istore 5, 2), (16, .iconst 0, 1), (17, .istore 6, 2), (19, .iload 6, 2), (21, .aload_n 0, 1), (22, .getfield 9, 3), (25, .iload 4, 2), (27, .iaload, 1), (28, .if_icmp .ge 99, 3), (31, .aload_n 0, 1), (32, .getfield 21, 3), (35, .iload 4, 2), (37, .bipush 24, 2), (39, .imul, 1), (40, .iload 6, 2), (42, .iadd, 1), (43, .iaload, 1), (44, .istore 7, 2), (46, .aload_n 2, 1), (47, .iload 4, 2), (49, .invokevirtual 89, 3), (52, .ifCond .eq 15, 3), (55, .aload_n 0, 1), (56, .aload_n 1, 1), (57, .iload 4, 2), (59, .iload 7, 2), (61, .invokevirtual 93, 3), (64, .goto 6, 3), (67, .sipush (-10004), 3), (70, .istore 8, 2), (72, .iload 8, 2), (74, .sipush (-10004), 3), (77, .if_icmp .eq 17, 3), (80, .aload_n 0, 1), (81, .aload_n 1, 1), (82, .iload 4, 2), (84, .iload 8, 2), (86, .iload 7, 2), (88, .invokevirtual 97, 3), (91, .goto 30, 3), (94, .iload 5, 2), (96, .sipush (-10004), 3), (99, .if_icmp .eq 22, 3), (102, .aload_n 0, 1), (103, .getfield 39, 3), (106, .iload 7, 2), (108, .dup2, 1), (109, .iaload, 1), (110, .iconst 1, 1), (111, .iadd, 1), (112, .iastore, 1)]
theorem kX2_loadOrShift_0 : iX2_loadOrShift_0.all (fun q => decide (decode cX2_loadOrShift q.1 = .ok (q.2.1, q.2.2))) = true := by decide +kernel
def iX2_loadOrShift_1 : List kI := [(113, .aload_n 0, 1), (114, .iload 5, 2), (116, .iload 7, 2), (118, .invokevirtual 68, 3), (121, .iinc 6 1, 3), (124, .goto (-105), 3), (127, .return_, 1)]
theorem kX2_loadOrShift_1 : iX2_loadOrShift_1.all (fun q => decide (decode cX2_loadOrShift q.1 = .ok (q.2.1, q.2.2))) = true := by decide +kernel
def iX2_findLane_0 : List kI := [(0, .aload_n 1, 1), (1, .getfield 61, 3), (4, .iload_n 3, 1), (5, .iconst 1, 1), (6, .invokevirtual 64, 3), (9, .istore 4, 2), (11, .sipush (-10004), 3), (14, .istore 5, 2), (16, .iconst 0, 1), (17, .istore 6, 2), (19, .iconst 0, 1), (20, .istore 7, 2), (22, .iload 7, 2), (24, .aload_n 1, 1), (25, .iload_n 2, 1), (26, .invokevirtual 101, 3), (29, .if_icmp .ge 64, 3), (32, .aload_n 0, 1), (33, .getfield 15, 3), (36, .iload_n 2, 1), (37, .iconst 4, 1), (38, .imul, 1), (39, .iload 7, 2), (41, .iadd, 1), (42, .iaload, 1), (43, .istore 8, 2), (45, .iload 8, 2), (47, .iload 4, 2), (49, .if_icmp .lt 38, 3), (52, .iload 5, 2), (54, .sipush (-10004), 3), (57, .if_icmp .eq 10, 3), (60, .iload 8, 2), (62, .iload 6, 2), (64, .if_icmp .ge 23, 3), (67, .aload_n 0, 1), (68, .aload_n 1, 1), (69, .iload_n 2, 1), (70, .iload 7, 2), (72, .iload_n 3, 1), (73, .invokevirtual 104, 3), (76, .ifCond .eq 11, 3), (79, .iload 7, 2), (81, .istore 5, 2), (83, .iload 8, 2), (85, .istore 6, 2), (87, .iinc 7 1, 3), (90, .goto (-68), 3), (93, .iload 5, 2), (95, .ireturn, 1)]
theorem kX2_findLane_0 : iX2_findLane_0.all (fun q => decide (decode cX2_findLane q.1 = .ok (q.2.1, q.2.2))) = true := by decide +kernel
def iX2_mayStand_0 : List kI := [(0, .iload_n 2, 1), (1, .iconst 4, 1), (2, .imul, 1), (3, .iload_n 3, 1), (4, .iadd, 1), (5, .istore 5, 2), (7, .aload_n 1, 1), (8, .getfield 61, 3), (11, .iload 4, 2), (13, .iconst 2, 1), (14, .invokevirtual 64, 3), (17, .istore 6, 2), (19, .aload_n 0, 1), (20, .getfield 24, 3), (23, .iload 5, 2), (25, .iaload, 1), (26, .ifCond .ne 5, 3), (29, .iconst 1, 1), (30, .ireturn, 1), (31, .aload_n 1, 1), (32, .iload_n 2, 1), (33, .invokevirtual 108, 3), (36, .iconst 1, 1), (37, .if_icmp .ne 23, 3), (40, .iload 6, 2), (42, .aload_n 0, 1), (43, .getfield 27, 3), (46, .iload 5, 2), (48, .iaload, 1), (49, .if_icmp .gt 7, 3), (52, .iconst 1, 1), (53, .goto 24, 3), (56, .iconst 0, 1), (57, .goto 20, 3), (60, .iload 6, 2), (62, .aload_n 0, 1), (63, .getfield 27, 3), (66, .iload 5, 2), (68, .iaload, 1), (69, .if_icmp .lt 7, 3), (72, .iconst 1, 1), (73, .goto 4, 3), (76, .iconst 0, 1), (77, .ireturn, 1)]
theorem kX2_mayStand_0 : iX2_mayStand_0.all (fun q => decide (decode cX2_mayStand q.1 = .ok (q.2.1, q.2.2))) = true := by decide +kernel
def iX2_board_0 : List kI := [(0, .iload_n 2, 1), (1, .iconst 4, 1), (2, .imul, 1), (3, .iload_n 3, 1), (4, .iadd, 1), (5, .istore 5, 2), (7, .aload_n 0, 1), (8, .getfield 30, 3), (11, .iload 4, 2), (13, .iload_n 2, 1), (14, .iastore, 1), (15, .aload_n 0, 1), (16, .getfield 33, 3), (19, .iload 4, 2), (21, .iload_n 3, 1), (22, .iastore, 1), (23, .aload_n 0, 1), (24, .getfield 36, 3), (27, .iload 4, 2), (29, .aload_n 0, 1), (30, .getfield 24, 3), (33, .iload 5, 2), (35, .iaload, 1), (36, .iastore, 1), (37, .aload_n 0, 1), (38, .getfield 24, 3), (41, .iload 5, 2), (43, .dup2, 1), (44, .iaload, 1), (45, .iconst 1, 1), (46, .iadd, 1), (47, .iastore, 1), (48, .aload_n 0, 1), (49, .getfield 15, 3), (52, .iload 5, 2), (54, .dup2, 1), (55, .iaload, 1), (56, .aload_n 1, 1), (57, .getfield 61, 3), (60, .iload 4, 2), (62, .iconst 1, 1), (63, .invokevirtual 64, 3), (66, .isub, 1), (67, .iastore, 1), (68, .aload_n 0, 1), (69, .getfield 27, 3), (72, .iload 5, 2), (74, .aload_n 1, 1), (75, .getfield 61, 3), (78, .iload 4, 2), (80, .iconst 2, 1), (81, .invokevirtual 64, 3), (84, .iastore, 1), (85, .return_, 1)]
theorem kX2_board_0 : iX2_board_0.all (fun q => decide (decode cX2_board q.1 = .ok (q.2.1, q.2.2))) = true := by decide +kernel
def iX2_tell_0 : List kI := [(0, .iload_n 2, 1), (1, .tableswitch 48 3 5 #[27, 34, 41], 27), (28, .aload_n 0, 1), (29, .getfield 30, 3), (32, .iload_n 1, 1), (33, .iaload, 1), (34, .ireturn, 1), (35, .aload_n 0, 1), (36, .getfield 33, 3), (39, .iload_n 1, 1), (40, .iaload, 1), (41, .ireturn, 1), (42, .aload_n 0, 1), (43, .getfield 36, 3), (46, .iload_n 1, 1), (47, .iaload, 1), (48, .ireturn, 1), (49, .aload_n 0, 1), (50, .getfield 39, 3), (53, .iload_n 1, 1), (54, .iaload, 1), (55, .ireturn, 1)]
theorem kX2_tell_0 : iX2_tell_0.all (fun q => decide (decode cX2_tell q.1 = .ok (q.2.1, q.2.2))) = true := by decide +kernel
def iX2_standingAt_0 : List kI := [(0, .iconst 0, 1), (1, .istore 5, 2), (3, .iload 5, 2), (5, .aload_n 1, 1), (6, .getfield 61, 3), (9, .invokevirtual 51, 3), (12, .if_icmp .ge 46, 3), (15, .aload_n 0, 1), (16, .getfield 30, 3), (19, .iload 5, 2), (21, .iaload, 1), (22, .iload_n 2, 1), (23, .if_icmp .ne 29, 3), (26, .aload_n 0, 1), (27, .getfield 33, 3), (30, .iload 5, 2), (32, .iaload, 1), (33, .iload_n 3, 1), (34, .if_icmp .ne 18, 3), (37, .aload_n 0, 1), (38, .getfield 36, 3), (41, .iload 5, 2), (43, .iaload, 1), (44, .iload 4, 2), (46, .if_icmp .ne 6, 3), (49, .iload 5, 2), (51, .ireturn, 1), (52, .iinc 5 1, 3), (55, .goto (-52), 3), (58, .sipush (-10004), 3), (61, .ireturn, 1)]
theorem kX2_standingAt_0 : iX2_standingAt_0.all (fun q => decide (decode cX2_standingAt q.1 = .ok (q.2.1, q.2.2))) = true := by decide +kernel
def iX2_unload_0 : List kI := [(0, .iconst 0, 1), (1, .istore_n 3, 1), (2, .iload_n 3, 1), (3, .iconst 4, 1), (4, .if_icmp .ge 16, 3), (7, .aload_n 0, 1), (8, .getfield 42, 3), (11, .iload_n 3, 1), (12, .iconst 0, 1), (13, .iastore, 1), (14, .iinc 3 1, 3), (17, .goto (-15), 3), (20, .iconst 0, 1), (21, .istore_n 3, 1), (22, .iconst 0, 1), (23, .istore 4, 2), (25, .iload 4, 2), (27, .iconst 5, 1), (28, .if_icmp .gt 40, 3), (31, .iconst 0, 1), (32, .istore 5, 2), (34, .iload 5, 2), (36, .aload_n 1, 1), (37, .iload_n 2, 1), (38, .invokevirtual 101, 3), (41, .if_icmp .ge 21, 3), (44, .aload_n 0, 1), (45, .aload_n 1, 1), (46, .iload_n 2, 1), (47, .iload 5, 2), (49, .iload 4, 2), (51, .iload_n 3, 1), (52, .invokevirtual 111, 3), (55, .istore_n 3, 1), (56, .iinc 5 1, 3), (59, .goto (-25), 3), (62, .iinc 4 1, 3), (65, .goto (-40), 3), (68, .iload_n 3, 1), (69, .ireturn, 1)]
theorem kX2_unload_0 : iX2_unload_0.all (fun q => decide (decode cX2_unload q.1 = .ok (q.2.1, q.2.2))) = true := by decide +kernel
def iX2_unloadLane_0 : List kI := [(0, .aload_n 0, 1), (1, .aload_n 1, 1), (2, .iload_n 2, 1), (3, .iload_n 3, 1), (4, .invokevirtual 115, 3), (7, .istore 6, 2), (9, .iload 5, 2), (11, .istore 7, 2), (13, .aload_n 0, 1), (14, .getfield 42, 3), (17, .iload_n 3, 1), (18, .iaload, 1), (19, .iload 6, 2), (21, .if_icmp .ge 95, 3), (24, .iload 7, 2), (26, .bipush 24, 2), (28, .if_icmp .ge 88, 3), (31, .aload_n 1, 1), (32, .iload_n 2, 1), (33, .invokevirtual 108, 3), (36, .iconst 1, 1), (37, .if_icmp .ne 17, 3), (40, .iload 6, 2), (42, .iconst 1, 1), (43, .isub, 1), (44, .aload_n 0, 1), (45, .getfield 42, 3), (48, .iload_n 3, 1), (49, .iaload, 1), (50, .isub, 1), (51, .goto 9, 3), (54, .aload_n 0, 1), (55, .getfield 42, 3), (58, .iload_n 3, 1), (59, .iaload, 1), (60, .istore 8, 2), (62, .aload_n 0, 1), (63, .aload_n 1, 1), (64, .iload_n 2, 1), (65, .iload_n 3, 1), (66, .iload 8, 2), (68, .invokevirtual 118, 3), (71, .istore 9, 2), (73, .aload_n 1, 1), (74, .getfield 61, 3), (77, .iload 9, 2), (79, .iconst 2, 1), (80, .invokevirtual 64, 3), (83, .iload 4, 2), (85, .if_icmp .eq 6, 3), (88, .goto 28, 3), (91, .aload_n 0, 1), (92, .getfield 18, 3), (95, .iload 7, 2), (97, .iload 9, 2), (99, .iastore, 1), (100, .iinc 7 1, 3), (103, .aload_n 0, 1), (104, .getfield 42, 3), (107, .iload_n 3, 1)]
theorem kX2_unloadLane_0 : iX2_unloadLane_0.all (fun q => decide (decode cX2_unloadLane q.1 = .ok (q.2.1, q.2.2))) = true := by decide +kernel
def iX2_unloadLane_1 : List kI := [(108, .dup2, 1), (109, .iaload, 1), (110, .iconst 1, 1), (111, .iadd, 1), (112, .iastore, 1), (113, .goto (-100), 3), (116, .iload 7, 2), (118, .ireturn, 1)]
theorem kX2_unloadLane_1 : iX2_unloadLane_1.all (fun q => decide (decode cX2_unloadLane q.1 = .ok (q.2.1, q.2.2))) = true := by decide +kernel
def iX2_isRight_0 : List kI := [(0, .iconst 0, 1), (1, .istore_n 3, 1), (2, .iload_n 3, 1), (3, .aload_n 1, 1), (4, .iload_n 2, 1), (5, .invokevirtual 101, 3), (8, .if_icmp .ge 26, 3), (11, .aload_n 0, 1), (12, .aload_n 1, 1), (13, .iload_n 2, 1), (14, .iload_n 3, 1), (15, .invokevirtual 122, 3), (18, .aload_n 1, 1), (19, .iload_n 2, 1), (20, .invokevirtual 76, 3), (23, .if_icmp .le 5, 3), (26, .iconst 0, 1), (27, .ireturn, 1), (28, .iinc 3 1, 3), (31, .goto (-29), 3), (34, .aload_n 0, 1), (35, .aload_n 1, 1), (36, .iload_n 2, 1), (37, .invokevirtual 125, 3), (40, .aload_n 0, 1), (41, .aload_n 1, 1), (42, .iload_n 2, 1), (43, .invokevirtual 128, 3), (46, .if_icmp .ne 7, 3), (49, .iconst 1, 1), (50, .goto 4, 3), (53, .iconst 0, 1), (54, .ireturn, 1)]
theorem kX2_isRight_0 : iX2_isRight_0.all (fun q => decide (decode cX2_isRight q.1 = .ok (q.2.1, q.2.2))) = true := by decide +kernel
def iX2_countInLane_0 : List kI := [(0, .iconst 0, 1), (1, .istore 4, 2), (3, .iconst 0, 1), (4, .istore 5, 2), (6, .iload 5, 2), (8, .aload_n 1, 1), (9, .getfield 61, 3), (12, .invokevirtual 51, 3), (15, .if_icmp .ge 34, 3), (18, .aload_n 0, 1), (19, .getfield 30, 3), (22, .iload 5, 2), (24, .iaload, 1), (25, .iload_n 2, 1), (26, .if_icmp .ne 17, 3), (29, .aload_n 0, 1), (30, .getfield 33, 3), (33, .iload 5, 2), (35, .iaload, 1), (36, .iload_n 3, 1), (37, .if_icmp .ne 6, 3), (40, .iinc 4 1, 3), (43, .iinc 5 1, 3), (46, .goto (-40), 3), (49, .iload 4, 2), (51, .ireturn, 1)]
theorem kX2_countInLane_0 : iX2_countInLane_0.all (fun q => decide (decode cX2_countInLane q.1 = .ok (q.2.1, q.2.2))) = true := by decide +kernel
def iX2_sumMetersInLane_0 : List kI := [(0, .iconst 0, 1), (1, .istore 4, 2), (3, .iconst 0, 1), (4, .istore 5, 2), (6, .iload 5, 2), (8, .aload_n 1, 1), (9, .getfield 61, 3), (12, .invokevirtual 51, 3), (15, .if_icmp .ge 46, 3), (18, .aload_n 0, 1), (19, .getfield 30, 3), (22, .iload 5, 2), (24, .iaload, 1), (25, .iload_n 2, 1), (26, .if_icmp .ne 29, 3), (29, .aload_n 0, 1), (30, .getfield 33, 3), (33, .iload 5, 2), (35, .iaload, 1), (36, .iload_n 3, 1), (37, .if_icmp .ne 18, 3), (40, .iload 4, 2), (42, .aload_n 1, 1), (43, .getfield 61, 3), (46, .iload 5, 2), (48, .iconst 1, 1), (49, .invokevirtual 64, 3), (52, .iadd, 1), (53, .istore 4, 2), (55, .iinc 5 1, 3), (58, .goto (-52), 3), (61, .iload 4, 2), (63, .ireturn, 1)]
theorem kX2_sumMetersInLane_0 : iX2_sumMetersInLane_0.all (fun q => decide (decode cX2_sumMetersInLane q.1 = .ok (q.2.1, q.2.2))) = true := by decide +kernel
def iX2_countAboard_0 : List kI := [(0, .iconst 0, 1), (1, .istore_n 3, 1), (2, .iconst 0, 1), (3, .istore 4, 2), (5, .iload 4, 2), (7, .aload_n 1, 1), (8, .getfield 61, 3), (11, .invokevirtual 51, 3), (14, .if_icmp .ge 23, 3), (17, .aload_n 0, 1), (18, .getfield 30, 3), (21, .iload 4, 2), (23, .iaload, 1), (24, .iload_n 2, 1), (25, .if_icmp .ne 6, 3), (28, .iinc 3 1, 3), (31, .iinc 4 1, 3), (34, .goto (-29), 3), (37, .iload_n 3, 1), (38, .ireturn, 1)]
theorem kX2_countAboard_0 : iX2_countAboard_0.all (fun q => decide (decode cX2_countAboard q.1 = .ok (q.2.1, q.2.2))) = true := by decide +kernel
def iX2_countAllAboard_0 : List kI := [(0, .iconst 0, 1), (1, .istore_n 2, 1), (2, .iconst 0, 1), (3, .istore_n 3, 1), (4, .iload_n 3, 1), (5, .aload_n 1, 1), (6, .getfield 61, 3), (9, .invokevirtual 51, 3), (12, .if_icmp .ge 24, 3), (15, .aload_n 0, 1), (16, .getfield 30, 3), (19, .iload_n 3, 1), (20, .iaload, 1), (21, .sipush (-10004), 3), (24, .if_icmp .eq 6, 3), (27, .iinc 2 1, 3), (30, .iinc 3 1, 3), (33, .goto (-29), 3), (36, .iload_n 2, 1), (37, .ireturn, 1)]
theorem kX2_countAllAboard_0 : iX2_countAllAboard_0.all (fun q => decide (decode cX2_countAllAboard q.1 = .ok (q.2.1, q.2.2))) = true := by decide +kernel
def iX2_sumMetersAboard_0 : List kI := [(0, .iconst 0, 1), (1, .istore_n 2, 1), (2, .iconst 0, 1), (3, .istore_n 3, 1), (4, .iload_n 3, 1), (5, .aload_n 1, 1), (6, .getfield 61, 3), (9, .invokevirtual 51, 3), (12, .if_icmp .ge 33, 3), (15, .aload_n 0, 1), (16, .getfield 30, 3), (19, .iload_n 3, 1), (20, .iaload, 1), (21, .sipush (-10004), 3), (24, .if_icmp .eq 15, 3), (27, .iload_n 2, 1), (28, .aload_n 1, 1), (29, .getfield 61, 3), (32, .iload_n 3, 1), (33, .iconst 1, 1), (34, .invokevirtual 64, 3), (37, .iadd, 1), (38, .istore_n 2, 1), (39, .iinc 3 1, 3), (42, .goto (-38), 3), (45, .iload_n 2, 1), (46, .ireturn, 1)]
theorem kX2_sumMetersAboard_0 : iX2_sumMetersAboard_0.all (fun q => decide (decode cX2_sumMetersAboard q.1 = .ok (q.2.1, q.2.2))) = true := by decide +kernel
def iX2_sumShifts_0 : List kI := [(0, .iconst 0, 1), (1, .istore_n 2, 1), (2, .iconst 0, 1), (3, .istore_n 3, 1), (4, .iload_n 3, 1), (5, .aload_n 1, 1), (6, .getfield 61, 3), (9, .invokevirtual 51, 3), (12, .if_icmp .ge 18, 3), (15, .iload_n 2, 1), (16, .aload_n 0, 1), (17, .getfield 39, 3), (20, .iload_n 3, 1), (21, .iaload, 1), (22, .iadd, 1), (23, .istore_n 2, 1), (24, .iinc 3 1, 3), (27, .goto (-23), 3), (30, .iload_n 2, 1), (31, .ireturn, 1)]
theorem kX2_sumShifts_0 : iX2_sumShifts_0.all (fun q => decide (decode cX2_sumShifts q.1 = .ok (q.2.1, q.2.2))) = true := by decide +kernel
def iX3_init_0 : List kI := [(0, .aload_n 0, 1), (1, .invokespecial 3, 3), (4, .aload_n 0, 1), (5, .new 9, 3), (8, .dup, 1), (9, .iconst 4, 1), (10, .iconst 4, 1), (11, .iconst 0, 1), (12, .invokespecial 11, 3), (15, .putfield 14, 3), (18, .aload_n 0, 1), (19, .new 9, 3), (22, .dup, 1), (23, .iconst 3, 1), (24, .iconst 2, 1), (25, .iconst 0, 1), (26, .invokespecial 11, 3), (29, .putfield 20, 3), (32, .aload_n 0, 1), (33, .new 9, 3), (36, .dup, 1), (37, .bipush 12, 2), (39, .iconst 4, 1), (40, .iconst 0, 1), (41, .invokespecial 11, 3), (44, .putfield 23, 3), (47, .aload_n 0, 1), (48, .new 9, 3), (51, .dup, 1), (52, .bipush 24, 2), (54, .iconst 3, 1), (55, .iconst 0, 1), (56, .invokespecial 11, 3), (59, .putfield 26, 3), (62, .aload_n 0, 1), (63, .new 9, 3), (66, .dup, 1), (67, .bipush 8, 2), (69, .iconst 4, 1), (70, .iconst 0, 1), (71, .invokespecial 11, 3), (74, .putfield 29, 3), (77, .aload_n 0, 1), (78, .new 9, 3), (81, .dup, 1), (82, .bipush 49, 2), (84, .iconst 1, 1), (85, .bipush 49, 2), (87, .invokespecial 11, 3), (90, .putfield 32, 3), (93, .aload_n 0, 1), (94, .new 9, 3), (97, .dup, 1), (98, .bipush 48, 2), (100, .iconst 1, 1), (101, .bipush 48, 2), (103, .invokespecial 11, 3), (106, .putfield 35, 3), (109, .aload_n 0, 1), (110, .bipush 50, 2)]
theorem kX3_init_0 : iX3_init_0.all (fun q => decide (decode cX3_init q.1 = .ok (q.2.1, q.2.2))) = true := by decide +kernel
def iX3_init_1 : List kI := [(112, .putfield 38, 3), (115, .return_, 1)]
theorem kX3_init_1 : iX3_init_1.all (fun q => decide (decode cX3_init q.1 = .ok (q.2.1, q.2.2))) = true := by decide +kernel
def iX3_copyFrom_0 : List kI := [(0, .aload_n 0, 1), (1, .getfield 14, 3), (4, .aload_n 1, 1), (5, .getfield 14, 3), (8, .invokevirtual 42, 3), (11, .aload_n 0, 1), (12, .getfield 20, 3), (15, .aload_n 1, 1), (16, .getfield 20, 3), (19, .invokevirtual 42, 3), (22, .aload_n 0, 1), (23, .getfield 23, 3), (26, .aload_n 1, 1), (27, .getfield 23, 3), (30, .invokevirtual 42, 3), (33, .aload_n 0, 1), (34, .getfield 26, 3), (37, .aload_n 1, 1), (38, .getfield 26, 3), (41, .invokevirtual 42, 3), (44, .aload_n 0, 1), (45, .getfield 29, 3), (48, .aload_n 1, 1), (49, .getfield 29, 3), (52, .invokevirtual 42, 3), (55, .aload_n 0, 1), (56, .getfield 32, 3), (59, .aload_n 1, 1), (60, .getfield 32, 3), (63, .invokevirtual 42, 3), (66, .aload_n 0, 1), (67, .getfield 35, 3), (70, .aload_n 1, 1), (71, .getfield 35, 3), (74, .invokevirtual 42, 3), (77, .aload_n 0, 1), (78, .aload_n 1, 1), (79, .getfield 38, 3), (82, .putfield 38, 3), (85, .return_, 1)]
theorem kX3_copyFrom_0 : iX3_copyFrom_0.all (fun q => decide (decode cX3_copyFrom q.1 = .ok (q.2.1, q.2.2))) = true := by decide +kernel
def iX3_enterShip_0 : List kI := [(0, .iload_n 1, 1), (1, .bipush 50, 2), (3, .sipush 900, 3), (6, .invokestatic 46, 3), (9, .ifCond .ne 35, 3), (12, .iload_n 2, 1), (13, .iconst 1, 1), (14, .iconst 4, 1), (15, .invokestatic 46, 3), (18, .ifCond .ne 26, 3), (21, .iload_n 3, 1), (22, .bipush 10, 2), (24, .sipush 200, 3), (27, .invokestatic 46, 3), (30, .ifCond .ne 14, 3), (33, .iload 4, 2), (35, .iconst 0, 1), (36, .bipush 99, 2), (38, .invokestatic 46, 3), (41, .ifCond .eq 7, 3), (44, .sipush (-10002), 3), (47, .ireturn, 1), (48, .aload_n 0, 1), (49, .getfield 14, 3), (52, .iload_n 1, 1), (53, .iload_n 2, 1), (54, .iload_n 3, 1), (55, .iload 4, 2), (57, .invokevirtual 50, 3), (60, .ireturn, 1)]
theorem kX3_enterShip_0 : iX3_enterShip_0.all (fun q => decide (decode cX3_enterShip q.1 = .ok (q.2.1, q.2.2))) = true := by decide +kernel
def iX3_enterBerth_0 : List kI := [(0, .iload_n 1, 1), (1, .iload_n 2, 1), (2, .invokestatic 54, 3), (5, .ifCond .eq 17, 3), (8, .aload_n 0, 1), (9, .getfield 20, 3), (12, .iload_n 1, 1), (13, .iload_n 2, 1), (14, .iconst 0, 1), (15, .iconst 0, 1), (16, .invokevirtual 50, 3), (19, .goto 6, 3), (22, .sipush (-10002), 3), (25, .ireturn, 1)]
theorem kX3_enterBerth_0 : iX3_enterBerth_0.all (fun q => decide (decode cX3_enterBerth q.1 = .ok (q.2.1, q.2.2))) = true := by decide +kernel
def iX3_enterCrossing_0 : List kI := [(0, .aload_n 0, 1), (1, .getfield 14, 3), (4, .iload_n 1, 1), (5, .invokevirtual 58, 3), (8, .ifCond .eq 14, 3), (11, .aload_n 0, 1), (12, .getfield 20, 3), (15, .iload_n 2, 1), (16, .invokevirtual 58, 3), (19, .ifCond .ne 7, 3), (22, .sipush (-10001), 3), (25, .ireturn, 1), (26, .iload_n 3, 1), (27, .ifCond .lt 29, 3), (30, .iload 4, 2), (32, .iconst 0, 1), (33, .sipush 2800, 3), (36, .invokestatic 46, 3), (39, .ifCond .ne 17, 3), (42, .iload 4, 2), (44, .iload_n 3, 1), (45, .isub, 1), (46, .iconst 1, 1), (47, .sipush 300, 3), (50, .invokestatic 46, 3), (53, .ifCond .eq 7, 3), (56, .sipush (-10002), 3), (59, .ireturn, 1), (60, .aload_n 0, 1), (61, .getfield 23, 3), (64, .iload_n 1, 1), (65, .iload_n 2, 1), (66, .iload_n 3, 1), (67, .iload 4, 2), (69, .invokevirtual 50, 3), (72, .ireturn, 1)]
theorem kX3_enterCrossing_0 : iX3_enterCrossing_0.all (fun q => decide (decode cX3_enterCrossing q.1 = .ok (q.2.1, q.2.2))) = true := by decide +kernel
def iX3_enterVehicle_0 : List kI := [(0, .aload_n 0, 1), (1, .getfield 23, 3), (4, .iload_n 1, 1), (5, .invokevirtual 58, 3), (8, .ifCond .ne 7, 3), (11, .sipush (-10001), 3), (14, .ireturn, 1), (15, .iload_n 2, 1), (16, .iconst 3, 1), (17, .bipush 30, 2), (19, .invokestatic 46, 3), (22, .ifCond .ne 12, 3), (25, .iload_n 3, 1), (26, .iconst 0, 1), (27, .iconst 5, 1), (28, .invokestatic 46, 3), (31, .ifCond .eq 7, 3), (34, .sipush (-10002), 3), (37, .ireturn, 1), (38, .aload_n 0, 1), (39, .getfield 26, 3), (42, .iload_n 1, 1), (43, .iload_n 2, 1), (44, .iload_n 3, 1), (45, .iconst 0, 1), (46, .invokevirtual 50, 3), (49, .ireturn, 1)]
theorem kX3_enterVehicle_0 : iX3_enterVehicle_0.all (fun q => decide (decode cX3_enterVehicle q.1 = .ok (q.2.1, q.2.2))) = true := by decide +kernel
def iX3_enterConnection_0 : List kI := [(0, .aload_n 0, 1), (1, .getfield 23, 3), (4, .iload_n 1, 1), (5, .invokevirtual 58, 3), (8, .ifCond .ne 7, 3), (11, .sipush (-10001), 3), (14, .ireturn, 1), (15, .iload_n 2, 1), (16, .iconst 0, 1), (17, .sipush 2800, 3), (20, .invokestatic 46, 3), (23, .ifCond .ne 25, 3), (26, .iload_n 3, 1), (27, .iconst 0, 1), (28, .bipush 60, 2), (30, .invokestatic 46, 3), (33, .ifCond .ne 15, 3), (36, .iload 4, 2), (38, .iconst 1, 1), (39, .sipush 999, 3), (42, .invokestatic 46, 3), (45, .ifCond .eq 7, 3), (48, .sipush (-10002), 3), (51, .ireturn, 1), (52, .aload_n 0, 1), (53, .getfield 29, 3), (56, .iload_n 1, 1), (57, .iload_n 2, 1), (58, .iload_n 3, 1), (59, .iload 4, 2), (61, .invokevirtual 50, 3), (64, .ireturn, 1)]
theorem kX3_enterConnection_0 : iX3_enterConnection_0.all (fun q => decide (decode cX3_enterConnection q.1 = .ok (q.2.1, q.2.2))) = true := by decide +kernel
def iX3_dropCrossing_0 : List kI := [(0, .aload_n 0, 1), (1, .getfield 23, 3), (4, .iload_n 1, 1), (5, .invokevirtual 58, 3), (8, .ifCond .ne 7, 3), (11, .sipush (-10001), 3), (14, .ireturn, 1), (15, .aload_n 0, 1), (16, .getfield 23, 3), (19, .iload_n 1, 1), (20, .invokevirtual 62, 3), (23, .aload_n 0, 1), (24, .getfield 26, 3), (27, .iconst 0, 1), (28, .iload_n 1, 1), (29, .invokestatic 66, 3), (32, .aload_n 0, 1), (33, .getfield 29, 3), (36, .iconst 0, 1), (37, .iload_n 1, 1), (38, .invokestatic 66, 3), (41, .aload_n 0, 1), (42, .getfield 23, 3), (45, .invokevirtual 70, 3), (48, .ireturn, 1)]
theorem kX3_dropCrossing_0 : iX3_dropCrossing_0.all (fun q => decide (decode cX3_dropCrossing q.1 = .ok (q.2.1, q.2.2))) = true := by decide +kernel
def iX3_dropRowsOf_0 : List kI := [(0, .aload_n 0, 1), (1, .invokevirtual 70, 3), (4, .iconst 1, 1), (5, .isub, 1), (6, .istore_n 3, 1), (7, .iload_n 3, 1), (8, .ifCond .lt 47, 3), (11, .aload_n 0, 1), (12, .iload_n 3, 1), (13, .iload_n 1, 1), (14, .invokevirtual 74, 3), (17, .istore 4, 2), (19, .iload 4, 2), (21, .iload_n 2, 1), (22, .if_icmp .ne 11, 3), (25, .aload_n 0, 1), (26, .iload_n 3, 1), (27, .invokevirtual 62, 3), (30, .goto 19, 3), (33, .iload 4, 2), (35, .iload_n 2, 1), (36, .if_icmp .le 13, 3), (39, .aload_n 0, 1), (40, .iload_n 3, 1), (41, .iload_n 1, 1), (42, .iload 4, 2), (44, .iconst 1, 1), (45, .isub, 1), (46, .invokevirtual 78, 3), (49, .iinc 3 (-1), 3), (52, .goto (-45), 3), (55, .return_, 1)]
theorem kX3_dropRowsOf_0 : iX3_dropRowsOf_0.all (fun q => decide (decode cX3_dropRowsOf q.1 = .ok (q.2.1, q.2.2))) = true := by decide +kernel
def iX3_changeBerth_0 : List kI := [(0, .aload_n 0, 1), (1, .getfield 20, 3), (4, .iload_n 1, 1), (5, .invokevirtual 58, 3), (8, .ifCond .ne 7, 3), (11, .sipush (-10001), 3), (14, .ireturn, 1), (15, .iload_n 2, 1), (16, .iload_n 3, 1), (17, .invokestatic 54, 3), (20, .ifCond .ne 7, 3), (23, .sipush (-10002), 3), (26, .ireturn, 1), (27, .bipush 10, 2), (29, .aload_n 0, 1), (30, .getfield 20, 3), (33, .iload_n 1, 1), (34, .iconst 0, 1), (35, .invokevirtual 74, 3), (38, .imul, 1), (39, .aload_n 0, 1), (40, .getfield 20, 3), (43, .iload_n 1, 1), (44, .iconst 1, 1), (45, .invokevirtual 74, 3), (48, .iadd, 1), (49, .istore 4, 2), (51, .aload_n 0, 1), (52, .getfield 20, 3), (55, .iload_n 1, 1), (56, .iconst 0, 1), (57, .iload_n 2, 1), (58, .invokevirtual 78, 3), (61, .aload_n 0, 1), (62, .getfield 20, 3), (65, .iload_n 1, 1), (66, .iconst 1, 1), (67, .iload_n 3, 1), (68, .invokevirtual 78, 3), (71, .iload 4, 2), (73, .ireturn, 1)]
theorem kX3_changeBerth_0 : iX3_changeBerth_0.all (fun q => decide (decode cX3_changeBerth q.1 = .ok (q.2.1, q.2.2))) = true := by decide +kernel
def iX3_changeTide_0 : List kI := [(0, .aload_n 0, 1), (1, .getfield 32, 3), (4, .iload_n 1, 1), (5, .invokevirtual 58, 3), (8, .ifCond .ne 7, 3), (11, .sipush (-10001), 3), (14, .ireturn, 1), (15, .iload_n 2, 1), (16, .sipush (-999), 3), (19, .sipush 999, 3), (22, .invokestatic 46, 3), (25, .ifCond .eq 7, 3), (28, .sipush (-10002), 3), (31, .ireturn, 1), (32, .aload_n 0, 1), (33, .getfield 32, 3), (36, .iload_n 1, 1), (37, .iconst 0, 1), (38, .invokevirtual 74, 3), (41, .istore_n 3, 1), (42, .aload_n 0, 1), (43, .getfield 32, 3), (46, .iload_n 1, 1), (47, .iconst 0, 1), (48, .iload_n 2, 1), (49, .invokevirtual 78, 3), (52, .iload_n 3, 1), (53, .ireturn, 1)]
theorem kX3_changeTide_0 : iX3_changeTide_0.all (fun q => decide (decode cX3_changeTide q.1 = .ok (q.2.1, q.2.2))) = true := by decide +kernel
def iX3_changeWind_0 : List kI := [(0, .aload_n 0, 1), (1, .getfield 35, 3), (4, .iload_n 1, 1), (5, .invokevirtual 58, 3), (8, .ifCond .ne 7, 3), (11, .sipush (-10001), 3), (14, .ireturn, 1), (15, .iload_n 2, 1), (16, .iconst 0, 1), (17, .bipush 99, 2), (19, .invokestatic 46, 3), (22, .ifCond .eq 7, 3), (25, .sipush (-10002), 3), (28, .ireturn, 1), (29, .aload_n 0, 1), (30, .getfield 35, 3), (33, .iload_n 1, 1), (34, .iconst 0, 1), (35, .invokevirtual 74, 3), (38, .istore_n 3, 1), (39, .aload_n 0, 1), (40, .getfield 35, 3), (43, .iload_n 1, 1), (44, .iconst 0, 1), (45, .iload_n 2, 1), (46, .invokevirtual 78, 3), (49, .iload_n 3, 1), (50, .ireturn, 1)]
theorem kX3_changeWind_0 : iX3_changeWind_0.all (fun q => decide (decode cX3_changeWind q.1 = .ok (q.2.1, q.2.2))) = true := by decide +kernel
def iX3_changeMargin_0 : List kI := [(0, .iload_n 1, 1), (1, .iconst 0, 1), (2, .sipush 200, 3), (5, .invokestatic 46, 3), (8, .ifCond .eq 7, 3), (11, .sipush (-10002), 3), (14, .ireturn, 1), (15, .aload_n 0, 1), (16, .getfield 38, 3), (19, .istore_n 2, 1), (20, .aload_n 0, 1), (21, .iload_n 1, 1), (22, .putfield 38, 3), (25, .iload_n 2, 1), (26, .ireturn, 1)]
theorem kX3_changeMargin_0 : iX3_changeMargin_0.all (fun q => decide (decode cX3_changeMargin q.1 = .ok (q.2.1, q.2.2))) = true := by decide +kernel
def iX3_isBerth_0 : List kI := [(0, .iload_n 0, 1), (1, .iconst 0, 1), (2, .sipush 999, 3), (5, .invokestatic 46, 3), (8, .ifCond .ne 16, 3), (11, .iload_n 1, 1), (12, .iconst 1, 1), (13, .iconst 2, 1), (14, .invokestatic 46, 3), (17, .ifCond .ne 7, 3), (20, .iconst 1, 1), (21, .goto 4, 3), (24, .iconst 0, 1), (25, .ireturn, 1)]
theorem kX3_isBerth_0 : iX3_isBerth_0.all (fun q => decide (decode cX3_isBerth q.1 = .ok (q.2.1, q.2.2))) = true := by decide +kernel
def iX3_hasLane_0 : List kI := [(0, .aload_n 0, 1), (1, .getfield 23, 3), (4, .iload_n 1, 1), (5, .invokevirtual 58, 3), (8, .ifCond .eq 20, 3), (11, .iload_n 2, 1), (12, .ifCond .lt 16, 3), (15, .iload_n 2, 1), (16, .aload_n 0, 1), (17, .iload_n 1, 1), (18, .invokevirtual 81, 3), (21, .if_icmp .ge 7, 3), (24, .iconst 1, 1), (25, .goto 4, 3), (28, .iconst 0, 1), (29, .ireturn, 1)]
theorem kX3_hasLane_0 : iX3_hasLane_0.all (fun q => decide (decode cX3_hasLane q.1 = .ok (q.2.1, q.2.2))) = true := by decide +kernel
def iX3_lanesOf_0 : List kI := [(0, .aload_n 0, 1), (1, .getfield 14, 3), (4, .aload_n 0, 1), (5, .getfield 23, 3), (8, .iload_n 1, 1), (9, .iconst 0, 1), (10, .invokevirtual 74, 3), (13, .iconst 1, 1), (14, .invokevirtual 74, 3), (17, .ireturn, 1)]
theorem kX3_lanesOf_0 : iX3_lanesOf_0.all (fun q => decide (decode cX3_lanesOf q.1 = .ok (q.2.1, q.2.2))) = true := by decide +kernel
def iX3_laneLengthOf_0 : List kI := [(0, .aload_n 0, 1), (1, .getfield 14, 3), (4, .aload_n 0, 1), (5, .getfield 23, 3), (8, .iload_n 1, 1), (9, .iconst 0, 1), (10, .invokevirtual 74, 3), (13, .iconst 2, 1), (14, .invokevirtual 74, 3), (17, .ireturn, 1)]
theorem kX3_laneLengthOf_0 : iX3_laneLengthOf_0.all (fun q => decide (decode cX3_laneLengthOf q.1 = .ok (q.2.1, q.2.2))) = true := by decide +kernel
def iX3_windLimitOf_0 : List kI := [(0, .aload_n 0, 1), (1, .getfield 14, 3), (4, .aload_n 0, 1), (5, .getfield 23, 3), (8, .iload_n 1, 1), (9, .iconst 0, 1), (10, .invokevirtual 74, 3), (13, .iconst 3, 1), (14, .invokevirtual 74, 3), (17, .ireturn, 1)]
theorem kX3_windLimitOf_0 : iX3_windLimitOf_0.all (fun q => decide (decode cX3_windLimitOf q.1 = .ok (q.2.1, q.2.2))) = true := by decide +kernel
def iX3_rampsOf_0 : List kI := [(0, .aload_n 0, 1), (1, .getfield 20, 3), (4, .aload_n 0, 1), (5, .getfield 23, 3), (8, .iload_n 1, 1), (9, .iconst 1, 1), (10, .invokevirtual 74, 3), (13, .iconst 1, 1), (14, .invokevirtual 74, 3), (17, .ireturn, 1)]
theorem kX3_rampsOf_0 : iX3_rampsOf_0.all (fun q => decide (decode cX3_rampsOf q.1 = .ok (q.2.1, q.2.2))) = true := by decide +kernel
def iX3_windAt_0 : List kI := [(0, .aload_n 0, 1), (1, .getfield 35, 3), (4, .iload_n 1, 1), (5, .bipush 60, 2), (7, .idiv, 1), (8, .iconst 0, 1), (9, .invokevirtual 74, 3), (12, .ireturn, 1)]
theorem kX3_windAt_0 : iX3_windAt_0.all (fun q => decide (decode cX3_windAt q.1 = .ok (q.2.1, q.2.2))) = true := by decide +kernel
def iX3_floatHeightAt_0 : List kI := [(0, .iload_n 1, 1), (1, .bipush 60, 2), (3, .idiv, 1), (4, .istore_n 2, 1), (5, .aload_n 0, 1), (6, .getfield 32, 3), (9, .iload_n 2, 1), (10, .iconst 0, 1), (11, .invokevirtual 74, 3), (14, .i2f, 1), (15, .fstore_n 3, 1), (16, .aload_n 0, 1), (17, .getfield 32, 3), (20, .iload_n 2, 1), (21, .iconst 1, 1), (22, .iadd, 1), (23, .iconst 0, 1), (24, .invokevirtual 74, 3), (27, .i2f, 1), (28, .fstore 4, 2), (30, .fload_n 3, 1), (31, .fload 4, 2), (33, .fload_n 3, 1), (34, .fsub, 1), (35, .iload_n 1, 1), (36, .bipush 60, 2), (38, .iload_n 2, 1), (39, .imul, 1), (40, .isub, 1), (41, .i2f, 1), (42, .ldc 85, 2), (44, .fdiv, 1), (45, .fmul, 1), (46, .fadd, 1), (47, .freturn, 1)]
theorem kX3_floatHeightAt_0 : iX3_floatHeightAt_0.all (fun q => decide (decode cX3_floatHeightAt q.1 = .ok (q.2.1, q.2.2))) = true := by decide +kernel
def iX3_waterAt_0 : List kI := [(0, .aload_n 0, 1), (1, .getfield 20, 3), (4, .iload_n 1, 1), (5, .iconst 0, 1), (6, .invokevirtual 74, 3), (9, .aload_n 0, 1), (10, .iload_n 2, 1), (11, .invokevirtual 86, 3), (14, .f2i, 1), (15, .iadd, 1), (16, .ireturn, 1)]
theorem kX3_waterAt_0 : iX3_waterAt_0.all (fun q => decide (decode cX3_waterAt q.1 = .ok (q.2.1, q.2.2))) = true := by decide +kernel
def iX3_isDeepEnough_0 : List kI := [(0, .aload_n 0, 1), (1, .iload_n 1, 1), (2, .iload_n 3, 1), (3, .invokevirtual 90, 3), (6, .aload_n 0, 1), (7, .getfield 14, 3), (10, .iload_n 2, 1), (11, .iconst 0, 1), (12, .invokevirtual 74, 3), (15, .aload_n 0, 1), (16, .getfield 38, 3), (19, .iadd, 1), (20, .if_icmp .lt 7, 3), (23, .iconst 1, 1), (24, .goto 4, 3), (27, .iconst 0, 1), (28, .ireturn, 1)]
theorem kX3_isDeepEnough_0 : iX3_isDeepEnough_0.all (fun q => decide (decode cX3_isDeepEnough q.1 = .ok (q.2.1, q.2.2))) = true := by decide +kernel
def iX4_init_0 : List kI := [(0, .aload_n 0, 1), (1, .invokespecial 3, 3), (4, .aload_n 0, 1), (5, .new 9, 3), (8, .dup, 1), (9, .bipush 9, 2), (11, .iconst 5, 1), (12, .bipush 9, 2), (14, .invokespecial 13, 3), (17, .putfield 16, 3), (20, .iconst 0, 1), (21, .istore_n 1, 1), (22, .iload_n 1, 1), (23, .bipush 9, 2), (25, .if_icmp .ge 21, 3), (28, .aload_n 0, 1), (29, .getfield 16, 3), (32, .iload_n 1, 1), (33, .iconst 4, 1), (34, .sipush (-10004), 3), (37, .invokevirtual 20, 3), (40, .iinc 1 1, 3), (43, .goto (-21), 3), (46, .return_, 1)]
theorem kX4_init_0 : iX4_init_0.all (fun q => decide (decode cX4_init q.1 = .ok (q.2.1, q.2.2))) = true := by decide +kernel
def iX4_hasPlace_0 : List kI := [(0, .iload_n 1, 1), (1, .ifCond .lt 21, 3), (4, .iload_n 1, 1), (5, .iconst 3, 1), (6, .if_icmp .ge 16, 3), (9, .iload_n 2, 1), (10, .ifCond .lt 12, 3), (13, .iload_n 2, 1), (14, .iconst 3, 1), (15, .if_icmp .ge 7, 3), (18, .iconst 1, 1), (19, .goto 4, 3), (22, .iconst 0, 1), (23, .ireturn, 1)]
theorem kX4_hasPlace_0 : iX4_hasPlace_0.all (fun q => decide (decode cX4_hasPlace q.1 = .ok (q.2.1, q.2.2))) = true := by decide +kernel
def iX4_kindAt_0 : List kI := [(0, .aload_n 0, 1), (1, .getfield 16, 3), (4, .iload_n 1, 1), (5, .iconst 3, 1), (6, .imul, 1), (7, .iload_n 2, 1), (8, .iadd, 1), (9, .iconst 4, 1), (10, .invokevirtual 23, 3), (13, .ireturn, 1)]
theorem kX4_kindAt_0 : iX4_kindAt_0.all (fun q => decide (decode cX4_kindAt q.1 = .ok (q.2.1, q.2.2))) = true := by decide +kernel
def iX4_lay_0 : List kI := [(0, .iload_n 1, 1), (1, .ifCond .ne 7, 3), (4, .iload_n 3, 1), (5, .ifCond .ne 13, 3), (8, .iload_n 1, 1), (9, .iconst 1, 1), (10, .if_icmp .ne 12, 3), (13, .iload_n 3, 1), (14, .iconst 1, 1), (15, .if_icmp .eq 7, 3), (18, .sipush (-10006), 3), (21, .ireturn, 1), (22, .iconst 0, 1), (23, .istore 6, 2), (25, .iload 6, 2), (27, .iconst 4, 1), (28, .if_icmp .ge 32, 3), (31, .aload_n 0, 1), (32, .getfield 16, 3), (35, .iload_n 1, 1), (36, .iconst 3, 1), (37, .imul, 1), (38, .iload_n 2, 1), (39, .iadd, 1), (40, .iload 6, 2), (42, .aload 4, 2), (44, .iload 5, 2), (46, .iload 6, 2), (48, .invokevirtual 23, 3), (51, .invokevirtual 20, 3), (54, .iinc 6 1, 3), (57, .goto (-32), 3), (60, .aload_n 0, 1), (61, .getfield 16, 3), (64, .iload_n 1, 1), (65, .iconst 3, 1), (66, .imul, 1), (67, .iload_n 2, 1), (68, .iadd, 1), (69, .iconst 4, 1), (70, .iload_n 3, 1), (71, .invokevirtual 20, 3), (74, .aload_n 0, 1), (75, .iload_n 1, 1), (76, .invokevirtual 27, 3), (79, .ireturn, 1)]
theorem kX4_lay_0 : iX4_lay_0.all (fun q => decide (decode cX4_lay q.1 = .ok (q.2.1, q.2.2))) = true := by decide +kernel
def iX4_countFilled_0 : List kI := [(0, .iconst 0, 1), (1, .istore_n 2, 1), (2, .iconst 0, 1), (3, .istore_n 3, 1), (4, .iload_n 3, 1), (5, .iconst 3, 1), (6, .if_icmp .ge 24, 3), (9, .aload_n 0, 1), (10, .iload_n 1, 1), (11, .iload_n 3, 1), (12, .invokevirtual 31, 3), (15, .sipush (-10004), 3), (18, .if_icmp .eq 6, 3), (21, .iinc 2 1, 3), (24, .iinc 3 1, 3), (27, .goto (-23), 3), (30, .iload_n 2, 1), (31, .ireturn, 1)]
theorem kX4_countFilled_0 : iX4_countFilled_0.all (fun q => decide (decode cX4_countFilled q.1 = .ok (q.2.1, q.2.2))) = true := by decide +kernel
def iX4_addCopyTo_0 : List kI := [(0, .iload_n 2, 1), (1, .iconst 3, 1), (2, .imul, 1), (3, .iload_n 3, 1), (4, .iadd, 1), (5, .istore 4, 2), (7, .aload_n 0, 1), (8, .getfield 16, 3), (11, .iload 4, 2), (13, .iconst 4, 1), (14, .invokevirtual 23, 3), (17, .lookupswitch 97 #[(0, 27), (1, 72)], 27), (44, .aload_n 1, 1), (45, .aload_n 0, 1), (46, .getfield 16, 3), (49, .iload 4, 2), (51, .iconst 0, 1), (52, .invokevirtual 23, 3), (55, .aload_n 0, 1), (56, .getfield 16, 3), (59, .iload 4, 2), (61, .iconst 1, 1), (62, .invokevirtual 23, 3), (65, .aload_n 0, 1), (66, .getfield 16, 3), (69, .iload 4, 2), (71, .iconst 2, 1), (72, .invokevirtual 23, 3), (75, .aload_n 0, 1), (76, .getfield 16, 3), (79, .iload 4, 2), (81, .iconst 3, 1), (82, .invokevirtual 23, 3), (85, .invokevirtual 36, 3), (88, .ireturn, 1), (89, .aload_n 1, 1), (90, .aload_n 0, 1), (91, .getfield 16, 3), (94, .iload 4, 2), (96, .iconst 0, 1), (97, .invokevirtual 23, 3), (100, .aload_n 0, 1), (101, .getfield 16, 3), (104, .iload 4, 2), (106, .iconst 1, 1), (107, .invokevirtual 23, 3), (110, .invokevirtual 40, 3), (113, .ireturn, 1), (114, .sipush (-10004), 3), (117, .ireturn, 1)]
theorem kX4_addCopyTo_0 : iX4_addCopyTo_0.all (fun q => decide (decode cX4_addCopyTo q.1 = .ok (q.2.1, q.2.2))) = true := by decide +kernel
def iX5_init_0 : List kI := [(0, .aload_n 0, 1), (1, .invokespecial 3, 3), (4, .aload_n 0, 1), (5, .iload_n 1, 1), (6, .putfield 9, 3), (9, .aload_n 0, 1), (10, .iload_n 2, 1), (11, .putfield 15, 3), (14, .aload_n 0, 1), (15, .iload_n 3, 1), (16, .putfield 18, 3), (19, .aload_n 0, 1), (20, .iload_n 1, 1), (21, .iload_n 2, 1), (22, .imul, 1), (23, .newarray .int, 2), (25, .putfield 21, 3), (28, .return_, 1)]
theorem kX5_init_0 : iX5_init_0.all (fun q => decide (decode cX5_init q.1 = .ok (q.2.1, q.2.2))) = true := by decide +kernel
def iX5_size_0 : List kI := [(0, .aload_n 0, 1), (1, .getfield 18, 3), (4, .ireturn, 1)]
theorem kX5_size_0 : iX5_size_0.all (fun q => decide (decode cX5_size q.1 = .ok (q.2.1, q.2.2))) = true := by decide +kernel
def iX5_has_0 : List kI := [(0, .iload_n 1, 1), (1, .ifCond .lt 15, 3), (4, .iload_n 1, 1), (5, .aload_n 0, 1), (6, .getfield 18, 3), (9, .if_icmp .ge 7, 3), (12, .iconst 1, 1), (13, .goto 4, 3), (16, .iconst 0, 1), (17, .ireturn, 1)]
theorem kX5_has_0 : iX5_has_0.all (fun q => decide (decode cX5_has q.1 = .ok (q.2.1, q.2.2))) = true := by decide +kernel
def iX5_isFull_0 : List kI := [(0, .aload_n 0, 1), (1, .getfield 18, 3), (4, .aload_n 0, 1), (5, .getfield 9, 3), (8, .if_icmp .lt 7, 3), (11, .iconst 1, 1), (12, .goto 4, 3), (15, .iconst 0, 1), (16, .ireturn, 1)]
theorem kX5_isFull_0 : iX5_isFull_0.all (fun q => decide (decode cX5_isFull q.1 = .ok (q.2.1, q.2.2))) = true := by decide +kernel
def iX5_at_0 : List kI := [(0, .iload_n 1, 1), (1, .ifCond .lt 23, 3), (4, .iload_n 1, 1), (5, .aload_n 0, 1), (6, .getfield 18, 3), (9, .if_icmp .ge 15, 3), (12, .iload_n 2, 1), (13, .ifCond .lt 11, 3), (16, .iload_n 2, 1), (17, .aload_n 0, 1), (18, .getfield 15, 3), (21, .if_icmp .lt 5, 3), (24, .iconst 0, 1), (25, .ireturn, 1), (26, .aload_n 0, 1), (27, .getfield 21, 3), (30, .iload_n 1, 1), (31, .aload_n 0, 1), (32, .getfield 15, 3), (35, .imul, 1), (36, .iload_n 2, 1), (37, .iadd, 1), (38, .iaload, 1), (39, .ireturn, 1)]
theorem kX5_at_0 : iX5_at_0.all (fun q => decide (decode cX5_at q.1 = .ok (q.2.1, q.2.2))) = true := by decide +kernel
def iX5_put_0 : List kI := [(0, .iload_n 1, 1), (1, .ifCond .lt 23, 3), (4, .iload_n 1, 1), (5, .aload_n 0, 1), (6, .getfield 18, 3), (9, .if_icmp .ge 15, 3), (12, .iload_n 2, 1), (13, .ifCond .lt 11, 3), (16, .iload_n 2, 1), (17, .aload_n 0, 1), (18, .getfield 15, 3), (21, .if_icmp .lt 4, 3), (24, .return_, 1), (25, .aload_n 0, 1), (26, .getfield 21, 3), (29, .iload_n 1, 1), (30, .aload_n 0, 1), (31, .getfield 15, 3), (34, .imul, 1), (35, .iload_n 2, 1), (36, .iadd, 1), (37, .iload_n 3, 1), (38, .iastore, 1), (39, .return_, 1)]
theorem kX5_put_0 : iX5_put_0.all (fun q => decide (decode cX5_put q.1 = .ok (q.2.1, q.2.2))) = true := by decide +kernel
def iX5_addRow_0 : List kI := [(0, .aload_n 0, 1), (1, .invokevirtual 25, 3), (4, .ifCond .eq 7, 3), (7, .sipush (-10003), 3), (10, .ireturn, 1), (11, .aload_n 0, 1), (12, .getfield 18, 3), (15, .istore 5, 2), (17, .aload_n 0, 1), (18, .dup, 1), (19, .getfield 18, 3), (22, .iconst 1, 1), (23, .iadd, 1), (24, .putfield 18, 3), (27, .aload_n 0, 1), (28, .iload 5, 2), (30, .iconst 0, 1), (31, .iload_n 1, 1), (32, .invokevirtual 29, 3), (35, .aload_n 0, 1), (36, .iload 5, 2), (38, .iconst 1, 1), (39, .iload_n 2, 1), (40, .invokevirtual 29, 3), (43, .aload_n 0, 1), (44, .iload 5, 2), (46, .iconst 2, 1), (47, .iload_n 3, 1), (48, .invokevirtual 29, 3), (51, .aload_n 0, 1), (52, .iload 5, 2), (54, .iconst 3, 1), (55, .iload 4, 2), (57, .invokevirtual 29, 3), (60, .iload 5, 2), (62, .ireturn, 1)]
theorem kX5_addRow_0 : iX5_addRow_0.all (fun q => decide (decode cX5_addRow q.1 = .ok (q.2.1, q.2.2))) = true := by decide +kernel
def iX5_removeRow_0 : List kI := [(0, .aload_n 0, 1), (1, .iload_n 1, 1), (2, .invokevirtual 33, 3), (5, .ifCond .ne 4, 3), (8, .return_, 1), (9, .iload_n 1, 1), (10, .aload_n 0, 1), (11, .getfield 15, 3), (14, .imul, 1), (15, .istore_n 2, 1), (16, .iload_n 2, 1), (17, .aload_n 0, 1), (18, .getfield 18, 3), (21, .iconst 1, 1), (22, .isub, 1), (23, .aload_n 0, 1), (24, .getfield 15, 3), (27, .imul, 1), (28, .if_icmp .ge 26, 3), (31, .aload_n 0, 1), (32, .getfield 21, 3), (35, .iload_n 2, 1), (36, .aload_n 0, 1), (37, .getfield 21, 3), (40, .iload_n 2, 1), (41, .aload_n 0, 1), (42, .getfield 15, 3), (45, .iadd, 1), (46, .iaload, 1), (47, .iastore, 1), (48, .iinc 2 1, 3), (51, .goto (-35), 3), (54, .aload_n 0, 1), (55, .dup, 1), (56, .getfield 18, 3), (59, .iconst 1, 1), (60, .isub, 1), (61, .putfield 18, 3), (64, .return_, 1)]
theorem kX5_removeRow_0 : iX5_removeRow_0.all (fun q => decide (decode cX5_removeRow q.1 = .ok (q.2.1, q.2.2))) = true := by decide +kernel
def iX5_clearRows_0 : List kI := [(0, .aload_n 0, 1), (1, .iconst 0, 1), (2, .putfield 18, 3), (5, .return_, 1)]
theorem kX5_clearRows_0 : iX5_clearRows_0.all (fun q => decide (decode cX5_clearRows q.1 = .ok (q.2.1, q.2.2))) = true := by decide +kernel
def iX5_copyFrom_0 : List kI := [(0, .aload_n 0, 1), (1, .aload_n 1, 1), (2, .getfield 18, 3), (5, .aload_n 0, 1), (6, .getfield 9, 3), (9, .invokestatic 37, 3), (12, .putfield 18, 3), (15, .aload_n 1, 1), (16, .getfield 21, 3), (19, .iconst 0, 1), (20, .aload_n 0, 1), (21, .getfield 21, 3), (24, .iconst 0, 1), (25, .aload_n 0, 1), (26, .getfield 21, 3), (29, .arraylength, 1), (30, .aload_n 1, 1), (31, .getfield 21, 3), (34, .arraylength, 1), (35, .invokestatic 37, 3), (38, .invokestatic 43, 3), (41, .return_, 1)]
theorem kX5_copyFrom_0 : iX5_copyFrom_0.all (fun q => decide (decode cX5_copyFrom q.1 = .ok (q.2.1, q.2.2))) = true := by decide +kernel
def iX6_init_0 : List kI := [(0, .aload_n 0, 1), (1, .invokespecial 3, 3), (4, .aload_n 0, 1), (5, .bipush 60, 2), (7, .newarray .char, 2), (9, .putfield 11, 3), (12, .aload_n 0, 1), (13, .new 15, 3), (16, .dup, 1), (17, .bipush 12, 2), (19, .bipush 6, 2), (21, .iconst 0, 1), (22, .invokespecial 17, 3), (25, .putfield 20, 3), (28, .aload_n 0, 1), (29, .iconst 0, 1), (30, .putfield 24, 3), (33, .aload_n 0, 1), (34, .iconst 0, 1), (35, .putfield 28, 3), (38, .aload_n 0, 1), (39, .sipush (-10004), 3), (42, .putfield 31, 3), (45, .return_, 1)]
theorem kX6_init_0 : iX6_init_0.all (fun q => decide (decode cX6_init q.1 = .ok (q.2.1, q.2.2))) = true := by decide +kernel
def iX6_take_0 : List kI := [(0, .iconst 0, 1), (1, .istore_n 2, 1), (2, .bipush 24, 2), (4, .istore_n 3, 1), (5, .iload_n 3, 1), (6, .ifCond .lt 52, 3), (9, .iload_n 1, 1), (10, .iload_n 3, 1), (11, .iushr, 1), (12, .sipush 255, 3), (15, .iand, 1), (16, .istore 4, 2), (18, .iload 4, 2), (20, .ifCond .eq 19, 3), (23, .iload 4, 2), (25, .bipush 33, 2), (27, .bipush 126, 2), (29, .invokestatic 34, 3), (32, .ifCond .eq 7, 3), (35, .sipush (-10002), 3), (38, .ireturn, 1), (39, .iload_n 2, 1), (40, .iload 4, 2), (42, .ifCond .ne 7, 3), (45, .iconst 0, 1), (46, .goto 4, 3), (49, .iconst 1, 1), (50, .iadd, 1), (51, .istore_n 2, 1), (52, .iinc 3 (-8), 3), (55, .goto (-50), 3), (58, .aload_n 0, 1), (59, .getfield 24, 3), (62, .iload_n 2, 1), (63, .iadd, 1), (64, .bipush 60, 2), (66, .if_icmp .le 7, 3), (69, .sipush (-10003), 3), (72, .ireturn, 1), (73, .bipush 24, 2), (75, .istore_n 3, 1), (76, .iload_n 3, 1), (77, .ifCond .lt 45, 3), (80, .iload_n 1, 1), (81, .iload_n 3, 1), (82, .iushr, 1), (83, .sipush 255, 3), (86, .iand, 1), (87, .istore 4, 2), (89, .iload 4, 2), (91, .ifCond .eq 25, 3), (94, .aload_n 0, 1), (95, .getfield 11, 3), (98, .aload_n 0, 1), (99, .getfield 24, 3), (102, .iload 4, 2), (104, .i2c, 1), (105, .castore, 1), (106, .aload_n 0, 1), (107, .dup, 1)]
theorem kX6_take_0 : iX6_take_0.all (fun q => decide (decode cX6_take q.1 = .ok (q.2.1, q.2.2))) = true := by decide +kernel
def iX6_take_1 : List kI := [(108, .getfield 24, 3), (111, .iconst 1, 1), (112, .iadd, 1), (113, .putfield 24, 3), (116, .iinc 3 (-8), 3), (119, .goto (-43), 3), (122, .aload_n 0, 1), (123, .getfield 24, 3), (126, .ireturn, 1)]
theorem kX6_take_1 : iX6_take_1.all (fun q => decide (decode cX6_take q.1 = .ok (q.2.1, q.2.2))) = true := by decide +kernel
def iX6_makeEntries_0 : List kI := [(0, .aload_n 0, 1), (1, .aload_n 0, 1), (2, .invokevirtual 38, 3), (5, .putfield 31, 3), (8, .aload_n 0, 1), (9, .iconst 0, 1), (10, .putfield 24, 3), (13, .aload_n 0, 1), (14, .getfield 31, 3), (17, .sipush (-10004), 3), (20, .if_icmp .eq 7, 3), (23, .sipush (-10002), 3), (26, .ireturn, 1), (27, .iconst 0, 1), (28, .istore_n 2, 1), (29, .iload_n 2, 1), (30, .aload_n 0, 1), (31, .getfield 20, 3), (34, .invokevirtual 42, 3), (37, .if_icmp .ge 38, 3), (40, .aload_n 0, 1), (41, .aload_n 1, 1), (42, .iload_n 2, 1), (43, .invokevirtual 45, 3), (46, .invokestatic 49, 3), (49, .ifCond .eq 20, 3), (52, .aload_n 0, 1), (53, .aload_n 0, 1), (54, .getfield 20, 3), (57, .iload_n 2, 1), (58, .iconst 5, 1), (59, .invokevirtual 53, 3), (62, .putfield 31, 3), (65, .sipush (-10005), 3), (68, .ireturn, 1), (69, .iinc 2 1, 3), (72, .goto (-43), 3), (75, .aload_n 0, 1), (76, .getfield 20, 3), (79, .invokevirtual 42, 3), (82, .ireturn, 1)]
theorem kX6_makeEntries_0 : iX6_makeEntries_0.all (fun q => decide (decode cX6_makeEntries q.1 = .ok (q.2.1, q.2.2))) = true := by decide +kernel
def iX6_makeEntry_0 : List kI := [(0, .aload_n 0, 1), (1, .getfield 20, 3), (4, .iload_n 2, 1), (5, .iconst 0, 1), (6, .invokevirtual 53, 3), (9, .istore_n 3, 1), (10, .aload_n 0, 1), (11, .getfield 20, 3), (14, .iload_n 2, 1), (15, .iconst 1, 1), (16, .invokevirtual 53, 3), (19, .istore 4, 2), (21, .aload_n 0, 1), (22, .getfield 20, 3), (25, .iload_n 2, 1), (26, .iconst 2, 1), (27, .invokevirtual 53, 3), (30, .istore 5, 2), (32, .aload_n 0, 1), (33, .getfield 20, 3), (36, .iload_n 2, 1), (37, .iconst 3, 1), (38, .invokevirtual 53, 3), (41, .istore 6, 2), (43, .aload_n 0, 1), (44, .getfield 20, 3), (47, .iload_n 2, 1), (48, .iconst 4, 1), (49, .invokevirtual 53, 3), (52, .lookupswitch 66 #[(99, 36), (116, 58), (118, 48)], 36), (88, .aload_n 1, 1), (89, .iload_n 3, 1), (90, .iload 4, 2), (92, .iload 5, 2), (94, .iload 6, 2), (96, .invokevirtual 56, 3), (99, .ireturn, 1), (100, .aload_n 1, 1), (101, .iload_n 3, 1), (102, .iload 4, 2), (104, .iload 5, 2), (106, .invokevirtual 62, 3), (109, .ireturn, 1), (110, .aload_n 1, 1), (111, .iload_n 3, 1), (112, .iload 4, 2), (114, .invokevirtual 66, 3), (117, .ireturn, 1), (118, .aload_n 1, 1), (119, .iload_n 3, 1), (120, .iload 4, 2), (122, .invokevirtual 69, 3), (125, .ireturn, 1)]
theorem kX6_makeEntry_0 : iX6_makeEntry_0.all (fun q => decide (decode cX6_makeEntry q.1 = .ok (q.2.1, q.2.2))) = true := by decide +kernel
def iX6_findEntries_0 : List kI := [(0, .aload_n 0, 1), (1, .getfield 20, 3), (4, .invokevirtual 72, 3), (7, .aload_n 0, 1), (8, .iconst 0, 1), (9, .putfield 28, 3), (12, .iconst 0, 1), (13, .istore_n 1, 1), (14, .iload_n 1, 1), (15, .bipush 12, 2), (17, .if_icmp .ge 50, 3), (20, .aload_n 0, 1), (21, .invokevirtual 75, 3), (24, .ifCond .ne 8, 3), (27, .aload_n 0, 1), (28, .getfield 28, 3), (31, .ireturn, 1), (32, .aload_n 0, 1), (33, .getfield 28, 3), (36, .aload_n 0, 1), (37, .getfield 24, 3), (40, .if_icmp .ne 7, 3), (43, .sipush (-10004), 3), (46, .ireturn, 1), (47, .aload_n 0, 1), (48, .bipush 59, 2), (50, .invokevirtual 79, 3), (53, .ifCond .ne 8, 3), (56, .aload_n 0, 1), (57, .getfield 28, 3), (60, .ireturn, 1), (61, .iinc 1 1, 3), (64, .goto (-50), 3), (67, .aload_n 0, 1), (68, .getfield 28, 3), (71, .ireturn, 1)]
theorem kX6_findEntries_0 : iX6_findEntries_0.all (fun q => decide (decode cX6_findEntries q.1 = .ok (q.2.1, q.2.2))) = true := by decide +kernel
def iX6_findEntry_0 : List kI := [(0, .aload_n 0, 1), (1, .getfield 28, 3), (4, .istore_n 1, 1), (5, .aload_n 0, 1), (6, .invokevirtual 83, 3), (9, .istore_n 2, 1), (10, .iload_n 2, 1), (11, .invokestatic 86, 3), (14, .istore_n 3, 1), (15, .iload_n 3, 1), (16, .ifCond .ne 5, 3), (19, .iconst 0, 1), (20, .ireturn, 1), (21, .aload_n 0, 1), (22, .dup, 1), (23, .getfield 28, 3), (26, .iconst 1, 1), (27, .iadd, 1), (28, .putfield 28, 3), (31, .aload_n 0, 1), (32, .getfield 20, 3), (35, .iconst 0, 1), (36, .iconst 0, 1), (37, .iconst 0, 1), (38, .iconst 0, 1), (39, .invokevirtual 90, 3), (42, .istore 4, 2), (44, .aload_n 0, 1), (45, .getfield 20, 3), (48, .iload 4, 2), (50, .iconst 4, 1), (51, .iload_n 2, 1), (52, .invokevirtual 93, 3), (55, .aload_n 0, 1), (56, .getfield 20, 3), (59, .iload 4, 2), (61, .iconst 5, 1), (62, .iload_n 1, 1), (63, .invokevirtual 93, 3), (66, .iconst 0, 1), (67, .istore 5, 2), (69, .iload 5, 2), (71, .iload_n 3, 1), (72, .if_icmp .ge 86, 3), (75, .iload 5, 2), (77, .ifCond .le 24, 3), (80, .aload_n 0, 1), (81, .iload_n 3, 1), (82, .iconst 2, 1), (83, .if_icmp .ne 8, 3), (86, .bipush 61, 2), (88, .goto 5, 3), (91, .bipush 44, 2), (93, .invokevirtual 79, 3), (96, .ifCond .ne 5, 3), (99, .iconst 0, 1), (100, .ireturn, 1), (101, .iload_n 2, 1), (102, .bipush 116, 2), (104, .if_icmp .ne 22, 3)]
theorem kX6_findEntry_0 : iX6_findEntry_0.all (fun q => decide (decode cX6_findEntry q.1 = .ok (q.2.1, q.2.2))) = true := by decide +kernel
def iX6_findEntry_1 : List kI := [(107, .iload 5, 2), (109, .iconst 1, 1), (110, .if_icmp .ne 16, 3), (113, .aload_n 0, 1), (114, .bipush 45, 2), (116, .invokevirtual 79, 3), (119, .ifCond .eq 7, 3), (122, .iconst 1, 1), (123, .goto 4, 3), (126, .iconst 0, 1), (127, .istore 6, 2), (129, .aload_n 0, 1), (130, .iload 4, 2), (132, .iload 5, 2), (134, .iload 6, 2), (136, .ifCond .eq 7, 3), (139, .iconst (-1), 1), (140, .goto 4, 3), (143, .iconst 1, 1), (144, .invokevirtual 96, 3), (147, .ifCond .ne 5, 3), (150, .iconst 0, 1), (151, .ireturn, 1), (152, .iinc 5 1, 3), (155, .goto (-86), 3), (158, .iconst 1, 1), (159, .ireturn, 1)]
theorem kX6_findEntry_1 : iX6_findEntry_1.all (fun q => decide (decode cX6_findEntry q.1 = .ok (q.2.1, q.2.2))) = true := by decide +kernel
def iX6_countNumbers_0 : List kI := [(0, .iload_n 0, 1), (1, .lookupswitch 51 #[(99, 43), (116, 47), (118, 45), (119, 49)], 43), (44, .iconst 4, 1), (45, .ireturn, 1), (46, .iconst 3, 1), (47, .ireturn, 1), (48, .iconst 2, 1), (49, .ireturn, 1), (50, .iconst 2, 1), (51, .ireturn, 1), (52, .iconst 0, 1), (53, .ireturn, 1)]
theorem kX6_countNumbers_0 : iX6_countNumbers_0.all (fun q => decide (decode cX6_countNumbers q.1 = .ok (q.2.1, q.2.2))) = true := by decide +kernel
def iX6_findNumber_0 : List kI := [(0, .iconst 0, 1), (1, .istore 4, 2), (3, .iconst 0, 1), (4, .istore 5, 2), (6, .iload 5, 2), (8, .iconst 4, 1), (9, .if_icmp .ge 48, 3), (12, .aload_n 0, 1), (13, .invokevirtual 83, 3), (16, .bipush 48, 2), (18, .bipush 57, 2), (20, .invokestatic 34, 3), (23, .ifCond .ne 34, 3), (26, .iload 4, 2), (28, .bipush 10, 2), (30, .imul, 1), (31, .aload_n 0, 1), (32, .invokevirtual 83, 3), (35, .iadd, 1), (36, .bipush 48, 2), (38, .isub, 1), (39, .istore 4, 2), (41, .iinc 5 1, 3), (44, .aload_n 0, 1), (45, .dup, 1), (46, .getfield 28, 3), (49, .iconst 1, 1), (50, .iadd, 1), (51, .putfield 28, 3), (54, .goto (-48), 3), (57, .aload_n 0, 1), (58, .getfield 20, 3), (61, .iload_n 1, 1), (62, .iload_n 2, 1), (63, .iload_n 3, 1), (64, .iload 4, 2), (66, .imul, 1), (67, .invokevirtual 93, 3), (70, .iload 5, 2), (72, .ifCond .le 7, 3), (75, .iconst 1, 1), (76, .goto 4, 3), (79, .iconst 0, 1), (80, .ireturn, 1)]
theorem kX6_findNumber_0 : iX6_findNumber_0.all (fun q => decide (decode cX6_findNumber q.1 = .ok (q.2.1, q.2.2))) = true := by decide +kernel
def iX6_passes_0 : List kI := [(0, .aload_n 0, 1), (1, .invokevirtual 83, 3), (4, .iload_n 1, 1), (5, .if_icmp .eq 5, 3), (8, .iconst 0, 1), (9, .ireturn, 1), (10, .aload_n 0, 1), (11, .dup, 1), (12, .getfield 28, 3), (15, .iconst 1, 1), (16, .iadd, 1), (17, .putfield 28, 3), (20, .iconst 1, 1), (21, .ireturn, 1)]
theorem kX6_passes_0 : iX6_passes_0.all (fun q => decide (decode cX6_passes q.1 = .ok (q.2.1, q.2.2))) = true := by decide +kernel
def iX6_signHere_0 : List kI := [(0, .aload_n 0, 1), (1, .getfield 28, 3), (4, .aload_n 0, 1), (5, .getfield 24, 3), (8, .if_icmp .ge 15, 3), (11, .aload_n 0, 1), (12, .getfield 11, 3), (15, .aload_n 0, 1), (16, .getfield 28, 3), (19, .caload, 1), (20, .goto 4, 3), (23, .iconst 0, 1), (24, .ireturn, 1)]
theorem kX6_signHere_0 : iX6_signHere_0.all (fun q => decide (decode cX6_signHere q.1 = .ok (q.2.1, q.2.2))) = true := by decide +kernel
def iX7_init_0 : List kI := [(0, .aload_n 0, 1), (1, .invokespecial 1, 3), (4, .aload_n 0, 1), (5, .new 7, 3), (8, .dup, 1), (9, .invokespecial 9, 3), (12, .putfield 10, 3), (15, .aload_n 0, 1), (16, .new 7, 3), (19, .dup, 1), (20, .invokespecial 9, 3), (23, .putfield 16, 3), (26, .aload_n 0, 1), (27, .new 7, 3), (30, .dup, 1), (31, .invokespecial 9, 3), (34, .putfield 19, 3), (37, .aload_n 0, 1), (38, .new 22, 3), (41, .dup, 1), (42, .invokespecial 24, 3), (45, .putfield 25, 3), (48, .aload_n 0, 1), (49, .new 29, 3), (52, .dup, 1), (53, .invokespecial 31, 3), (56, .putfield 32, 3), (59, .aload_n 0, 1), (60, .new 36, 3), (63, .dup, 1), (64, .invokespecial 38, 3), (67, .putfield 39, 3), (70, .aload_n 0, 1), (71, .new 43, 3), (74, .dup, 1), (75, .invokespecial 45, 3), (78, .putfield 46, 3), (81, .aload_n 0, 1), (82, .new 50, 3), (85, .dup, 1), (86, .invokespecial 52, 3), (89, .putfield 53, 3), (92, .aload_n 0, 1), (93, .iconst 0, 1), (94, .putfield 57, 3), (97, .return_, 1)]
theorem kX7_init_0 : iX7_init_0.all (fun q => decide (decode cX7_init q.1 = .ok (q.2.1, q.2.2))) = true := by decide +kernel
def iX7_addShip_0 : List kI := [(0, .aload_n 0, 1), (1, .getfield 16, 3), (4, .aload_n 0, 1), (5, .getfield 10, 3), (8, .invokevirtual 61, 3), (11, .aload_n 0, 1), (12, .aload_n 0, 1), (13, .getfield 10, 3), (16, .iload_n 1, 1), (17, .iload_n 2, 1), (18, .iload_n 3, 1), (19, .iload 4, 2), (21, .invokevirtual 65, 3), (24, .invokevirtual 69, 3), (27, .ireturn, 1)]
theorem kX7_addShip_0 : iX7_addShip_0.all (fun q => decide (decode cX7_addShip q.1 = .ok (q.2.1, q.2.2))) = true := by decide +kernel
def iX7_addBerth_0 : List kI := [(0, .aload_n 0, 1), (1, .getfield 16, 3), (4, .aload_n 0, 1), (5, .getfield 10, 3), (8, .invokevirtual 61, 3), (11, .aload_n 0, 1), (12, .aload_n 0, 1), (13, .getfield 10, 3), (16, .iload_n 1, 1), (17, .iload_n 2, 1), (18, .invokevirtual 73, 3), (21, .invokevirtual 69, 3), (24, .ireturn, 1)]
theorem kX7_addBerth_0 : iX7_addBerth_0.all (fun q => decide (decode cX7_addBerth q.1 = .ok (q.2.1, q.2.2))) = true := by decide +kernel
def iX7_addCrossing_0 : List kI := [(0, .aload_n 0, 1), (1, .getfield 16, 3), (4, .aload_n 0, 1), (5, .getfield 10, 3), (8, .invokevirtual 61, 3), (11, .aload_n 0, 1), (12, .aload_n 0, 1), (13, .getfield 10, 3), (16, .iload_n 1, 1), (17, .iload_n 2, 1), (18, .iload_n 3, 1), (19, .iload 4, 2), (21, .invokevirtual 77, 3), (24, .invokevirtual 69, 3), (27, .ireturn, 1)]
theorem kX7_addCrossing_0 : iX7_addCrossing_0.all (fun q => decide (decode cX7_addCrossing q.1 = .ok (q.2.1, q.2.2))) = true := by decide +kernel
def iX7_addVehicle_0 : List kI := [(0, .aload_n 0, 1), (1, .getfield 16, 3), (4, .aload_n 0, 1), (5, .getfield 10, 3), (8, .invokevirtual 61, 3), (11, .aload_n 0, 1), (12, .aload_n 0, 1), (13, .getfield 10, 3), (16, .iload_n 1, 1), (17, .iload_n 2, 1), (18, .iload_n 3, 1), (19, .invokevirtual 80, 3), (22, .invokevirtual 69, 3), (25, .ireturn, 1)]
theorem kX7_addVehicle_0 : iX7_addVehicle_0.all (fun q => decide (decode cX7_addVehicle q.1 = .ok (q.2.1, q.2.2))) = true := by decide +kernel
def iX7_addConnection_0 : List kI := [(0, .aload_n 0, 1), (1, .getfield 16, 3), (4, .aload_n 0, 1), (5, .getfield 10, 3), (8, .invokevirtual 61, 3), (11, .aload_n 0, 1), (12, .aload_n 0, 1), (13, .getfield 10, 3), (16, .iload_n 1, 1), (17, .iload_n 2, 1), (18, .iload_n 3, 1), (19, .iload 4, 2), (21, .invokevirtual 84, 3), (24, .invokevirtual 69, 3), (27, .ireturn, 1)]
theorem kX7_addConnection_0 : iX7_addConnection_0.all (fun q => decide (decode cX7_addConnection q.1 = .ok (q.2.1, q.2.2))) = true := by decide +kernel
def iX7_removeCrossing_0 : List kI := [(0, .aload_n 0, 1), (1, .getfield 16, 3), (4, .aload_n 0, 1), (5, .getfield 10, 3), (8, .invokevirtual 61, 3), (11, .aload_n 0, 1), (12, .aload_n 0, 1), (13, .getfield 10, 3), (16, .iload_n 1, 1), (17, .invokevirtual 87, 3), (20, .invokevirtual 69, 3), (23, .ireturn, 1)]
theorem kX7_removeCrossing_0 : iX7_removeCrossing_0.all (fun q => decide (decode cX7_removeCrossing q.1 = .ok (q.2.1, q.2.2))) = true := by decide +kernel
def iX7_setBerth_0 : List kI := [(0, .aload_n 0, 1), (1, .getfield 16, 3), (4, .aload_n 0, 1), (5, .getfield 10, 3), (8, .invokevirtual 61, 3), (11, .aload_n 0, 1), (12, .aload_n 0, 1), (13, .getfield 10, 3), (16, .iload_n 1, 1), (17, .iload_n 2, 1), (18, .iload_n 3, 1), (19, .invokevirtual 90, 3), (22, .invokevirtual 69, 3), (25, .ireturn, 1)]
theorem kX7_setBerth_0 : iX7_setBerth_0.all (fun q => decide (decode cX7_setBerth q.1 = .ok (q.2.1, q.2.2))) = true := by decide +kernel
def iX7_setTide_0 : List kI := [(0, .aload_n 0, 1), (1, .getfield 16, 3), (4, .aload_n 0, 1), (5, .getfield 10, 3), (8, .invokevirtual 61, 3), (11, .aload_n 0, 1), (12, .aload_n 0, 1), (13, .getfield 10, 3), (16, .iload_n 1, 1), (17, .iload_n 2, 1), (18, .invokevirtual 93, 3), (21, .invokevirtual 69, 3), (24, .ireturn, 1)]
theorem kX7_setTide_0 : iX7_setTide_0.all (fun q => decide (decode cX7_setTide q.1 = .ok (q.2.1, q.2.2))) = true := by decide +kernel
def iX7_setWind_0 : List kI := [(0, .aload_n 0, 1), (1, .getfield 16, 3), (4, .aload_n 0, 1), (5, .getfield 10, 3), (8, .invokevirtual 61, 3), (11, .aload_n 0, 1), (12, .aload_n 0, 1), (13, .getfield 10, 3), (16, .iload_n 1, 1), (17, .iload_n 2, 1), (18, .invokevirtual 96, 3), (21, .invokevirtual 69, 3), (24, .ireturn, 1)]
theorem kX7_setWind_0 : iX7_setWind_0.all (fun q => decide (decode cX7_setWind q.1 = .ok (q.2.1, q.2.2))) = true := by decide +kernel
def iX7_setMargin_0 : List kI := [(0, .aload_n 0, 1), (1, .getfield 16, 3), (4, .aload_n 0, 1), (5, .getfield 10, 3), (8, .invokevirtual 61, 3), (11, .aload_n 0, 1), (12, .aload_n 0, 1), (13, .getfield 10, 3), (16, .iload_n 1, 1), (17, .invokevirtual 99, 3), (20, .invokevirtual 69, 3), (23, .ireturn, 1)]
theorem kX7_setMargin_0 : iX7_setMargin_0.all (fun q => decide (decode cX7_setMargin q.1 = .ok (q.2.1, q.2.2))) = true := by decide +kernel
def iX7_append_0 : List kI := [(0, .aload_n 0, 1), (1, .getfield 46, 3), (4, .iload_n 1, 1), (5, .invokevirtual 102, 3), (8, .ireturn, 1)]
theorem kX7_append_0 : iX7_append_0.all (fun q => decide (decode cX7_append q.1 = .ok (q.2.1, q.2.2))) = true := by decide +kernel
def iX7_read_0 : List kI := [(0, .aload_n 0, 1), (1, .getfield 16, 3), (4, .aload_n 0, 1), (5, .getfield 10, 3), (8, .invokevirtual 61, 3), (11, .aload_n 0, 1), (12, .getfield 46, 3), (15, .aload_n 0, 1), (16, .getfield 10, 3), (19, .invokevirtual 105, 3), (22, .istore_n 1, 1), (23, .iload_n 1, 1), (24, .sipush (-10005), 3), (27, .if_icmp .ne 14, 3), (30, .aload_n 0, 1), (31, .getfield 10, 3), (34, .aload_n 0, 1), (35, .getfield 16, 3), (38, .invokevirtual 61, 3), (41, .aload_n 0, 1), (42, .iload_n 1, 1), (43, .invokevirtual 69, 3), (46, .ireturn, 1)]
theorem kX7_read_0 : iX7_read_0.all (fun q => decide (decode cX7_read q.1 = .ok (q.2.1, q.2.2))) = true := by decide +kernel
def iX7_faultPosition_0 : List kI := [(0, .aload_n 0, 1), (1, .getfield 46, 3), (4, .getfield 109, 3), (7, .ireturn, 1)]
theorem kX7_faultPosition_0 : iX7_faultPosition_0.all (fun q => decide (decode cX7_faultPosition q.1 = .ok (q.2.1, q.2.2))) = true := by decide +kernel
def iX7_undo_0 : List kI := [(0, .aload_n 0, 1), (1, .getfield 25, 3), (4, .aload_n 0, 1), (5, .getfield 10, 3), (8, .invokevirtual 113, 3), (11, .ireturn, 1)]
theorem kX7_undo_0 : iX7_undo_0.all (fun q => decide (decode cX7_undo q.1 = .ok (q.2.1, q.2.2))) = true := by decide +kernel
def iX7_count_0 : List kI := [(0, .iload_n 1, 1), (1, .tableswitch 114 0 6 #[43, 54, 65, 76, 87, 98, 106], 43), (44, .aload_n 0, 1), (45, .getfield 10, 3), (48, .getfield 116, 3), (51, .invokevirtual 120, 3), (54, .ireturn, 1), (55, .aload_n 0, 1), (56, .getfield 10, 3), (59, .getfield 126, 3), (62, .invokevirtual 120, 3), (65, .ireturn, 1), (66, .aload_n 0, 1), (67, .getfield 10, 3), (70, .getfield 129, 3), (73, .invokevirtual 120, 3), (76, .ireturn, 1), (77, .aload_n 0, 1), (78, .getfield 10, 3), (81, .getfield 132, 3), (84, .invokevirtual 120, 3), (87, .ireturn, 1), (88, .aload_n 0, 1), (89, .getfield 10, 3), (92, .getfield 135, 3), (95, .invokevirtual 120, 3), (98, .ireturn, 1), (99, .aload_n 0, 1), (100, .getfield 46, 3), (103, .getfield 138, 3), (106, .ireturn, 1), (107, .aload_n 0, 1), (108, .getfield 10, 3), (111, .getfield 141, 3), (114, .ireturn, 1), (115, .sipush (-10002), 3), (118, .ireturn, 1)]
theorem kX7_count_0 : iX7_count_0.all (fun q => decide (decode cX7_count q.1 = .ok (q.2.1, q.2.2))) = true := by decide +kernel
def iX7_ship_0 : List kI := [(0, .aload_n 0, 1), (1, .getfield 10, 3), (4, .getfield 116, 3), (7, .iload_n 1, 1), (8, .invokevirtual 144, 3), (11, .ifCond .ne 7, 3), (14, .sipush (-10001), 3), (17, .ireturn, 1), (18, .iload_n 2, 1), (19, .iconst 0, 1), (20, .iconst 4, 1), (21, .invokestatic 148, 3), (24, .ifCond .eq 7, 3), (27, .sipush (-10002), 3), (30, .ireturn, 1), (31, .iload_n 2, 1), (32, .iconst 4, 1), (33, .if_icmp .ge 16, 3), (36, .aload_n 0, 1), (37, .getfield 10, 3), (40, .getfield 116, 3), (43, .iload_n 1, 1), (44, .iload_n 2, 1), (45, .invokevirtual 152, 3), (48, .ireturn, 1), (49, .aload_n 0, 1), (50, .getfield 32, 3), (53, .aload_n 0, 1), (54, .getfield 10, 3), (57, .invokevirtual 155, 3), (60, .aload_n 0, 1), (61, .getfield 32, 3), (64, .aload_n 0, 1), (65, .getfield 10, 3), (68, .iconst 0, 1), (69, .iload_n 1, 1), (70, .invokevirtual 158, 3), (73, .ireturn, 1)]
theorem kX7_ship_0 : iX7_ship_0.all (fun q => decide (decode cX7_ship q.1 = .ok (q.2.1, q.2.2))) = true := by decide +kernel
def iX7_berth_0 : List kI := [(0, .aload_n 0, 1), (1, .getfield 10, 3), (4, .getfield 126, 3), (7, .iload_n 1, 1), (8, .invokevirtual 144, 3), (11, .ifCond .ne 7, 3), (14, .sipush (-10001), 3), (17, .ireturn, 1), (18, .iload_n 2, 1), (19, .iconst 0, 1), (20, .iconst 2, 1), (21, .invokestatic 148, 3), (24, .ifCond .eq 7, 3), (27, .sipush (-10002), 3), (30, .ireturn, 1), (31, .iload_n 2, 1), (32, .iconst 2, 1), (33, .if_icmp .ge 16, 3), (36, .aload_n 0, 1), (37, .getfield 10, 3), (40, .getfield 126, 3), (43, .iload_n 1, 1), (44, .iload_n 2, 1), (45, .invokevirtual 152, 3), (48, .ireturn, 1), (49, .aload_n 0, 1), (50, .getfield 32, 3), (53, .aload_n 0, 1), (54, .getfield 10, 3), (57, .invokevirtual 155, 3), (60, .aload_n 0, 1), (61, .getfield 32, 3), (64, .aload_n 0, 1), (65, .getfield 10, 3), (68, .iconst 1, 1), (69, .iload_n 1, 1), (70, .invokevirtual 158, 3), (73, .ireturn, 1)]
theorem kX7_berth_0 : iX7_berth_0.all (fun q => decide (decode cX7_berth q.1 = .ok (q.2.1, q.2.2))) = true := by decide +kernel
def iX7_crossing_0 : List kI := [(0, .aload_n 0, 1), (1, .getfield 10, 3), (4, .getfield 129, 3), (7, .iload_n 1, 1), (8, .invokevirtual 144, 3), (11, .ifCond .ne 7, 3), (14, .sipush (-10001), 3), (17, .ireturn, 1), (18, .iload_n 2, 1), (19, .iconst 0, 1), (20, .bipush 9, 2), (22, .invokestatic 148, 3), (25, .ifCond .eq 7, 3), (28, .sipush (-10002), 3), (31, .ireturn, 1), (32, .iload_n 2, 1), (33, .iconst 4, 1), (34, .if_icmp .ge 16, 3), (37, .aload_n 0, 1), (38, .getfield 10, 3), (41, .getfield 129, 3), (44, .iload_n 1, 1), (45, .iload_n 2, 1), (46, .invokevirtual 152, 3), (49, .ireturn, 1), (50, .aload_n 0, 1), (51, .getfield 32, 3), (54, .aload_n 0, 1), (55, .getfield 10, 3), (58, .invokevirtual 155, 3), (61, .iload_n 2, 1), (62, .bipush 8, 2), (64, .if_icmp .ge 13, 3), (67, .aload_n 0, 1), (68, .getfield 32, 3), (71, .iload_n 1, 1), (72, .iload_n 2, 1), (73, .invokevirtual 162, 3), (76, .ireturn, 1), (77, .aload_n 0, 1), (78, .getfield 39, 3), (81, .aload_n 0, 1), (82, .getfield 10, 3), (85, .aload_n 0, 1), (86, .getfield 32, 3), (89, .invokevirtual 165, 3), (92, .iload_n 2, 1), (93, .bipush 8, 2), (95, .if_icmp .ne 18, 3), (98, .aload_n 0, 1), (99, .getfield 39, 3), (102, .aload_n 0, 1), (103, .getfield 10, 3), (106, .iload_n 1, 1), (107, .invokevirtual 168, 3), (110, .goto 12, 3), (113, .aload_n 0, 1), (114, .getfield 39, 3), (117, .getfield 172, 3), (120, .iload_n 1, 1)]
theorem kX7_crossing_0 : iX7_crossing_0.all (fun q => decide (decode cX7_crossing q.1 = .ok (q.2.1, q.2.2))) = true := by decide +kernel
def iX7_crossing_1 : List kI := [(121, .iaload, 1), (122, .ireturn, 1)]
theorem kX7_crossing_1 : iX7_crossing_1.all (fun q => decide (decode cX7_crossing q.1 = .ok (q.2.1, q.2.2))) = true := by decide +kernel
def iX7_decided_0 : List kI := [(0, .aload_n 0, 1), (1, .getfield 10, 3), (4, .getfield 129, 3), (7, .iload_n 1, 1), (8, .invokevirtual 144, 3), (11, .ifCond .ne 7, 3), (14, .sipush (-10001), 3), (17, .ireturn, 1), (18, .aload_n 0, 1), (19, .getfield 32, 3), (22, .aload_n 0, 1), (23, .getfield 10, 3), (26, .invokevirtual 155, 3), (29, .aload_n 0, 1), (30, .getfield 32, 3), (33, .getfield 176, 3), (36, .iload_n 1, 1), (37, .iaload, 1), (38, .ireturn, 1)]
theorem kX7_decided_0 : iX7_decided_0.all (fun q => decide (decode cX7_decided q.1 = .ok (q.2.1, q.2.2))) = true := by decide +kernel
def iX7_vehicle_0 : List kI := [(0, .aload_n 0, 1), (1, .getfield 10, 3), (4, .getfield 132, 3), (7, .iload_n 1, 1), (8, .invokevirtual 144, 3), (11, .ifCond .ne 7, 3), (14, .sipush (-10001), 3), (17, .ireturn, 1), (18, .iload_n 2, 1), (19, .iconst 0, 1), (20, .bipush 6, 2), (22, .invokestatic 148, 3), (25, .ifCond .eq 7, 3), (28, .sipush (-10002), 3), (31, .ireturn, 1), (32, .iload_n 2, 1), (33, .iconst 3, 1), (34, .if_icmp .ge 16, 3), (37, .aload_n 0, 1), (38, .getfield 10, 3), (41, .getfield 132, 3), (44, .iload_n 1, 1), (45, .iload_n 2, 1), (46, .invokevirtual 152, 3), (49, .ireturn, 1), (50, .aload_n 0, 1), (51, .getfield 32, 3), (54, .aload_n 0, 1), (55, .getfield 10, 3), (58, .invokevirtual 155, 3), (61, .aload_n 0, 1), (62, .getfield 39, 3), (65, .aload_n 0, 1), (66, .getfield 10, 3), (69, .aload_n 0, 1), (70, .getfield 32, 3), (73, .invokevirtual 165, 3), (76, .aload_n 0, 1), (77, .getfield 39, 3), (80, .iload_n 1, 1), (81, .iload_n 2, 1), (82, .invokevirtual 179, 3), (85, .ireturn, 1)]
theorem kX7_vehicle_0 : iX7_vehicle_0.all (fun q => decide (decode cX7_vehicle q.1 = .ok (q.2.1, q.2.2))) = true := by decide +kernel
def iX7_connection_0 : List kI := [(0, .aload_n 0, 1), (1, .getfield 10, 3), (4, .getfield 135, 3), (7, .iload_n 1, 1), (8, .invokevirtual 144, 3), (11, .ifCond .ne 7, 3), (14, .sipush (-10001), 3), (17, .ireturn, 1), (18, .iload_n 2, 1), (19, .iconst 0, 1), (20, .iconst 4, 1), (21, .invokestatic 148, 3), (24, .ifCond .eq 7, 3), (27, .sipush (-10002), 3), (30, .ireturn, 1), (31, .iload_n 2, 1), (32, .iconst 4, 1), (33, .if_icmp .ge 16, 3), (36, .aload_n 0, 1), (37, .getfield 10, 3), (40, .getfield 135, 3), (43, .iload_n 1, 1), (44, .iload_n 2, 1), (45, .invokevirtual 152, 3), (48, .ireturn, 1), (49, .aload_n 0, 1), (50, .getfield 32, 3), (53, .aload_n 0, 1), (54, .getfield 10, 3), (57, .invokevirtual 155, 3), (60, .aload_n 0, 1), (61, .getfield 32, 3), (64, .getfield 180, 3), (67, .iload_n 1, 1), (68, .iaload, 1), (69, .ireturn, 1)]
theorem kX7_connection_0 : iX7_connection_0.all (fun q => decide (decode cX7_connection q.1 = .ok (q.2.1, q.2.2))) = true := by decide +kernel
def iX7_tide_0 : List kI := [(0, .aload_n 0, 1), (1, .getfield 10, 3), (4, .getfield 183, 3), (7, .iload_n 1, 1), (8, .invokevirtual 144, 3), (11, .ifCond .eq 18, 3), (14, .aload_n 0, 1), (15, .getfield 10, 3), (18, .getfield 183, 3), (21, .iload_n 1, 1), (22, .iconst 0, 1), (23, .invokevirtual 152, 3), (26, .goto 6, 3), (29, .sipush (-10001), 3), (32, .ireturn, 1)]
theorem kX7_tide_0 : iX7_tide_0.all (fun q => decide (decode cX7_tide q.1 = .ok (q.2.1, q.2.2))) = true := by decide +kernel
def iX7_wind_0 : List kI := [(0, .aload_n 0, 1), (1, .getfield 10, 3), (4, .getfield 186, 3), (7, .iload_n 1, 1), (8, .invokevirtual 144, 3), (11, .ifCond .eq 18, 3), (14, .aload_n 0, 1), (15, .getfield 10, 3), (18, .getfield 186, 3), (21, .iload_n 1, 1), (22, .iconst 0, 1), (23, .invokevirtual 152, 3), (26, .goto 6, 3), (29, .sipush (-10001), 3), (32, .ireturn, 1)]
theorem kX7_wind_0 : iX7_wind_0.all (fun q => decide (decode cX7_wind q.1 = .ok (q.2.1, q.2.2))) = true := by decide +kernel
def iX7_height_0 : List kI := [(0, .iload_n 1, 1), (1, .iconst 0, 1), (2, .sipush 2879, 3), (5, .invokestatic 148, 3), (8, .ifCond .eq 9, 3), (11, .sipush (-10002), 3), (14, .goto 12, 3), (17, .aload_n 0, 1), (18, .getfield 10, 3), (21, .iload_n 1, 1), (22, .invokevirtual 189, 3), (25, .f2i, 1), (26, .ireturn, 1)]
theorem kX7_height_0 : iX7_height_0.all (fun q => decide (decode cX7_height q.1 = .ok (q.2.1, q.2.2))) = true := by decide +kernel
def iX7_heightBits_0 : List kI := [(0, .iload_n 1, 1), (1, .iconst 0, 1), (2, .sipush 2879, 3), (5, .invokestatic 148, 3), (8, .ifCond .eq 7, 3), (11, .iconst 1, 1), (12, .goto 14, 3), (15, .aload_n 0, 1), (16, .getfield 10, 3), (19, .iload_n 1, 1), (20, .invokevirtual 189, 3), (23, .invokestatic 193, 3), (26, .ireturn, 1)]
theorem kX7_heightBits_0 : iX7_heightBits_0.all (fun q => decide (decode cX7_heightBits q.1 = .ok (q.2.1, q.2.2))) = true := by decide +kernel
def iX7_water_0 : List kI := [(0, .aload_n 0, 1), (1, .getfield 10, 3), (4, .getfield 126, 3), (7, .iload_n 1, 1), (8, .invokevirtual 144, 3), (11, .ifCond .ne 7, 3), (14, .sipush (-10001), 3), (17, .ireturn, 1), (18, .iload_n 2, 1), (19, .iconst 0, 1), (20, .sipush 2879, 3), (23, .invokestatic 148, 3), (26, .ifCond .eq 9, 3), (29, .sipush (-10002), 3), (32, .goto 12, 3), (35, .aload_n 0, 1), (36, .getfield 10, 3), (39, .iload_n 1, 1), (40, .iload_n 2, 1), (41, .invokevirtual 197, 3), (44, .ireturn, 1)]
theorem kX7_water_0 : iX7_water_0.all (fun q => decide (decode cX7_water q.1 = .ok (q.2.1, q.2.2))) = true := by decide +kernel
def iX7_firstTime_0 : List kI := [(0, .aload_n 0, 1), (1, .getfield 10, 3), (4, .getfield 126, 3), (7, .iload_n 1, 1), (8, .invokevirtual 144, 3), (11, .ifCond .eq 17, 3), (14, .aload_n 0, 1), (15, .getfield 10, 3), (18, .getfield 116, 3), (21, .iload_n 2, 1), (22, .invokevirtual 144, 3), (25, .ifCond .ne 7, 3), (28, .sipush (-10001), 3), (31, .ireturn, 1), (32, .iload_n 3, 1), (33, .iconst 0, 1), (34, .sipush 2879, 3), (37, .invokestatic 148, 3), (40, .ifCond .eq 7, 3), (43, .sipush (-10002), 3), (46, .ireturn, 1), (47, .iload_n 3, 1), (48, .istore 4, 2), (50, .iload 4, 2), (52, .sipush 2879, 3), (55, .if_icmp .gt 26, 3), (58, .aload_n 0, 1), (59, .getfield 10, 3), (62, .iload_n 1, 1), (63, .iload_n 2, 1), (64, .iload 4, 2), (66, .invokevirtual 200, 3), (69, .ifCond .eq 6, 3), (72, .iload 4, 2), (74, .ireturn, 1), (75, .iinc 4 1, 3), (78, .goto (-28), 3), (81, .sipush (-10004), 3), (84, .ireturn, 1)]
theorem kX7_firstTime_0 : iX7_firstTime_0.all (fun q => decide (decode cX7_firstTime q.1 = .ok (q.2.1, q.2.2))) = true := by decide +kernel
def iX7_laneLeft_0 : List kI := [(0, .aload_n 0, 1), (1, .getfield 10, 3), (4, .iload_n 1, 1), (5, .iload_n 2, 1), (6, .invokevirtual 203, 3), (9, .ifCond .ne 7, 3), (12, .sipush (-10001), 3), (15, .ireturn, 1), (16, .aload_n 0, 1), (17, .getfield 32, 3), (20, .aload_n 0, 1), (21, .getfield 10, 3), (24, .invokevirtual 155, 3), (27, .aload_n 0, 1), (28, .getfield 32, 3), (31, .iload_n 1, 1), (32, .invokevirtual 207, 3), (35, .ifCond .ne 7, 3), (38, .sipush (-10005), 3), (41, .ireturn, 1), (42, .aload_n 0, 1), (43, .getfield 39, 3), (46, .aload_n 0, 1), (47, .getfield 10, 3), (50, .aload_n 0, 1), (51, .getfield 32, 3), (54, .invokevirtual 165, 3), (57, .aload_n 0, 1), (58, .getfield 39, 3), (61, .getfield 210, 3), (64, .iload_n 1, 1), (65, .iconst 4, 1), (66, .imul, 1), (67, .iload_n 2, 1), (68, .iadd, 1), (69, .iaload, 1), (70, .ireturn, 1)]
theorem kX7_laneLeft_0 : iX7_laneLeft_0.all (fun q => decide (decode cX7_laneLeft q.1 = .ok (q.2.1, q.2.2))) = true := by decide +kernel
def iX7_laneVehicle_0 : List kI := [(0, .aload_n 0, 1), (1, .getfield 10, 3), (4, .iload_n 1, 1), (5, .iload_n 2, 1), (6, .invokevirtual 203, 3), (9, .ifCond .ne 7, 3), (12, .sipush (-10001), 3), (15, .ireturn, 1), (16, .aload_n 0, 1), (17, .getfield 32, 3), (20, .aload_n 0, 1), (21, .getfield 10, 3), (24, .invokevirtual 155, 3), (27, .aload_n 0, 1), (28, .getfield 39, 3), (31, .aload_n 0, 1), (32, .getfield 10, 3), (35, .aload_n 0, 1), (36, .getfield 32, 3), (39, .invokevirtual 165, 3), (42, .aload_n 0, 1), (43, .getfield 39, 3), (46, .aload_n 0, 1), (47, .getfield 10, 3), (50, .iload_n 1, 1), (51, .iload_n 2, 1), (52, .iload_n 3, 1), (53, .invokevirtual 213, 3), (56, .ireturn, 1)]
theorem kX7_laneVehicle_0 : iX7_laneVehicle_0.all (fun q => decide (decode cX7_laneVehicle q.1 = .ok (q.2.1, q.2.2))) = true := by decide +kernel
def iX7_leaves_0 : List kI := [(0, .aload_n 0, 1), (1, .getfield 10, 3), (4, .getfield 129, 3), (7, .iload_n 1, 1), (8, .invokevirtual 144, 3), (11, .ifCond .ne 7, 3), (14, .sipush (-10001), 3), (17, .ireturn, 1), (18, .aload_n 0, 1), (19, .getfield 32, 3), (22, .aload_n 0, 1), (23, .getfield 10, 3), (26, .invokevirtual 155, 3), (29, .aload_n 0, 1), (30, .getfield 39, 3), (33, .aload_n 0, 1), (34, .getfield 10, 3), (37, .aload_n 0, 1), (38, .getfield 32, 3), (41, .invokevirtual 165, 3), (44, .aload_n 0, 1), (45, .getfield 39, 3), (48, .aload_n 0, 1), (49, .getfield 10, 3), (52, .iload_n 1, 1), (53, .invokevirtual 217, 3), (56, .istore_n 3, 1), (57, .iload_n 2, 1), (58, .iconst 0, 1), (59, .iload_n 3, 1), (60, .iconst 1, 1), (61, .isub, 1), (62, .invokestatic 148, 3), (65, .ifCond .eq 9, 3), (68, .sipush (-10004), 3), (71, .goto 12, 3), (74, .aload_n 0, 1), (75, .getfield 39, 3), (78, .getfield 220, 3), (81, .iload_n 2, 1), (82, .iaload, 1), (83, .ireturn, 1)]
theorem kX7_leaves_0 : iX7_leaves_0.all (fun q => decide (decode cX7_leaves q.1 = .ok (q.2.1, q.2.2))) = true := by decide +kernel
def iX7_isOrderly_0 : List kI := [(0, .aload_n 0, 1), (1, .getfield 32, 3), (4, .aload_n 0, 1), (5, .getfield 10, 3), (8, .invokevirtual 155, 3), (11, .aload_n 0, 1), (12, .getfield 39, 3), (15, .aload_n 0, 1), (16, .getfield 10, 3), (19, .aload_n 0, 1), (20, .getfield 32, 3), (23, .invokevirtual 165, 3), (26, .iconst 0, 1), (27, .istore_n 1, 1), (28, .iload_n 1, 1), (29, .aload_n 0, 1), (30, .getfield 10, 3), (33, .getfield 129, 3), (36, .invokevirtual 120, 3), (39, .if_icmp .ge 26, 3), (42, .aload_n 0, 1), (43, .getfield 39, 3), (46, .aload_n 0, 1), (47, .getfield 10, 3), (50, .iload_n 1, 1), (51, .invokevirtual 223, 3), (54, .ifCond .ne 5, 3), (57, .iconst 0, 1), (58, .ireturn, 1), (59, .iinc 1 1, 3), (62, .goto (-34), 3), (65, .iconst 1, 1), (66, .ireturn, 1)]
theorem kX7_isOrderly_0 : iX7_isOrderly_0.all (fun q => decide (decode cX7_isOrderly q.1 = .ok (q.2.1, q.2.2))) = true := by decide +kernel
def iX7_account_0 : List kI := [(0, .iload_n 1, 1), (1, .iconst 0, 1), (2, .bipush 9, 2), (4, .invokestatic 148, 3), (7, .ifCond .eq 7, 3), (10, .sipush (-10002), 3), (13, .ireturn, 1), (14, .aload_n 0, 1), (15, .getfield 32, 3), (18, .aload_n 0, 1), (19, .getfield 10, 3), (22, .invokevirtual 155, 3), (25, .aload_n 0, 1), (26, .getfield 39, 3), (29, .aload_n 0, 1), (30, .getfield 10, 3), (33, .aload_n 0, 1), (34, .getfield 32, 3), (37, .invokevirtual 165, 3), (40, .iload_n 1, 1), (41, .tableswitch 183 0 8 #[51, 63, 86, 99, 112, 124, 147, 159, 171], 51), (92, .aload_n 0, 1), (93, .getfield 32, 3), (96, .aload_n 0, 1), (97, .getfield 10, 3), (100, .invokevirtual 227, 3), (103, .ireturn, 1), (104, .aload_n 0, 1), (105, .getfield 10, 3), (108, .getfield 129, 3), (111, .invokevirtual 120, 3), (114, .aload_n 0, 1), (115, .getfield 32, 3), (118, .aload_n 0, 1), (119, .getfield 10, 3), (122, .invokevirtual 227, 3), (125, .isub, 1), (126, .ireturn, 1), (127, .aload_n 0, 1), (128, .getfield 32, 3), (131, .aload_n 0, 1), (132, .getfield 10, 3), (135, .iconst 0, 1), (136, .invokevirtual 230, 3), (139, .ireturn, 1), (140, .aload_n 0, 1), (141, .getfield 32, 3), (144, .aload_n 0, 1), (145, .getfield 10, 3), (148, .iconst 1, 1), (149, .invokevirtual 230, 3), (152, .ireturn, 1), (153, .aload_n 0, 1), (154, .getfield 39, 3), (157, .aload_n 0, 1), (158, .getfield 10, 3), (161, .invokevirtual 234, 3), (164, .ireturn, 1), (165, .aload_n 0, 1), (166, .getfield 10, 3)]
theorem kX7_account_0 : iX7_account_0.all (fun q => decide (decode cX7_account q.1 = .ok (q.2.1, q.2.2))) = true := by decide +kernel
def iX7_account_1 : List kI := [(169, .getfield 132, 3), (172, .invokevirtual 120, 3), (175, .aload_n 0, 1), (176, .getfield 39, 3), (179, .aload_n 0, 1), (180, .getfield 10, 3), (183, .invokevirtual 234, 3), (186, .isub, 1), (187, .ireturn, 1), (188, .aload_n 0, 1), (189, .getfield 32, 3), (192, .aload_n 0, 1), (193, .getfield 10, 3), (196, .invokevirtual 237, 3), (199, .ireturn, 1), (200, .aload_n 0, 1), (201, .getfield 39, 3), (204, .aload_n 0, 1), (205, .getfield 10, 3), (208, .invokevirtual 240, 3), (211, .ireturn, 1), (212, .aload_n 0, 1), (213, .getfield 32, 3), (216, .aload_n 0, 1), (217, .getfield 10, 3), (220, .invokevirtual 243, 3), (223, .ireturn, 1), (224, .aload_n 0, 1), (225, .getfield 39, 3), (228, .aload_n 0, 1), (229, .getfield 10, 3), (232, .invokevirtual 246, 3), (235, .ireturn, 1)]
theorem kX7_account_1 : iX7_account_1.all (fun q => decide (decode cX7_account q.1 = .ok (q.2.1, q.2.2))) = true := by decide +kernel
def iX7_loadBits_0 : List kI := [(0, .aload_n 0, 1), (1, .getfield 32, 3), (4, .aload_n 0, 1), (5, .getfield 10, 3), (8, .invokevirtual 155, 3), (11, .aload_n 0, 1), (12, .getfield 39, 3), (15, .aload_n 0, 1), (16, .getfield 10, 3), (19, .aload_n 0, 1), (20, .getfield 32, 3), (23, .invokevirtual 165, 3), (26, .aload_n 0, 1), (27, .getfield 32, 3), (30, .aload_n 0, 1), (31, .getfield 10, 3), (34, .invokevirtual 243, 3), (37, .istore_n 1, 1), (38, .iload_n 1, 1), (39, .ifCond .ne 7, 3), (42, .sipush (-10004), 3), (45, .ireturn, 1), (46, .aload_n 0, 1), (47, .getfield 39, 3), (50, .aload_n 0, 1), (51, .getfield 10, 3), (54, .invokevirtual 240, 3), (57, .i2f, 1), (58, .iload_n 1, 1), (59, .i2f, 1), (60, .fdiv, 1), (61, .invokestatic 193, 3), (64, .ireturn, 1)]
theorem kX7_loadBits_0 : iX7_loadBits_0.all (fun q => decide (decode cX7_loadBits q.1 = .ok (q.2.1, q.2.2))) = true := by decide +kernel
def iX7_sailingIf_0 : List kI := [(0, .iload_n 1, 1), (1, .iconst 0, 1), (2, .sipush 200, 3), (5, .invokestatic 148, 3), (8, .ifCond .eq 7, 3), (11, .sipush (-10002), 3), (14, .ireturn, 1), (15, .aload_n 0, 1), (16, .getfield 16, 3), (19, .aload_n 0, 1), (20, .getfield 10, 3), (23, .invokevirtual 61, 3), (26, .aload_n 0, 1), (27, .getfield 16, 3), (30, .iload_n 1, 1), (31, .putfield 141, 3), (34, .aload_n 0, 1), (35, .getfield 32, 3), (38, .aload_n 0, 1), (39, .getfield 16, 3), (42, .invokevirtual 155, 3), (45, .aload_n 0, 1), (46, .getfield 32, 3), (49, .aload_n 0, 1), (50, .getfield 16, 3), (53, .invokevirtual 227, 3), (56, .ireturn, 1)]
theorem kX7_sailingIf_0 : iX7_sailingIf_0.all (fun q => decide (decode cX7_sailingIf q.1 = .ok (q.2.1, q.2.2))) = true := by decide +kernel
def iX7_bestBerth_0 : List kI := [(0, .aload_n 0, 1), (1, .getfield 10, 3), (4, .getfield 129, 3), (7, .iload_n 1, 1), (8, .invokevirtual 144, 3), (11, .ifCond .ne 7, 3), (14, .sipush (-10001), 3), (17, .ireturn, 1), (18, .iconst 0, 1), (19, .istore_n 2, 1), (20, .iconst (-1), 1), (21, .istore_n 3, 1), (22, .aload_n 0, 1), (23, .getfield 16, 3), (26, .aload_n 0, 1), (27, .getfield 10, 3), (30, .invokevirtual 61, 3), (33, .iconst 0, 1), (34, .istore 4, 2), (36, .iload 4, 2), (38, .aload_n 0, 1), (39, .getfield 16, 3), (42, .getfield 126, 3), (45, .invokevirtual 120, 3), (48, .if_icmp .ge 74, 3), (51, .aload_n 0, 1), (52, .getfield 16, 3), (55, .getfield 129, 3), (58, .iload_n 1, 1), (59, .iconst 1, 1), (60, .iload 4, 2), (62, .invokevirtual 249, 3), (65, .aload_n 0, 1), (66, .getfield 32, 3), (69, .aload_n 0, 1), (70, .getfield 16, 3), (73, .invokevirtual 155, 3), (76, .aload_n 0, 1), (77, .getfield 39, 3), (80, .aload_n 0, 1), (81, .getfield 16, 3), (84, .aload_n 0, 1), (85, .getfield 32, 3), (88, .invokevirtual 165, 3), (91, .aload_n 0, 1), (92, .getfield 39, 3), (95, .aload_n 0, 1), (96, .getfield 16, 3), (99, .invokevirtual 234, 3), (102, .istore 5, 2), (104, .iload 5, 2), (106, .iload_n 3, 1), (107, .if_icmp .le 9, 3), (110, .iload 5, 2), (112, .istore_n 3, 1), (113, .iload 4, 2), (115, .istore_n 2, 1), (116, .iinc 4 1, 3), (119, .goto (-83), 3), (122, .iload_n 2, 1)]
theorem kX7_bestBerth_0 : iX7_bestBerth_0.all (fun q => decide (decode cX7_bestBerth q.1 = .ok (q.2.1, q.2.2))) = true := by decide +kernel
def iX7_bestBerth_1 : List kI := [(123, .ireturn, 1)]
theorem kX7_bestBerth_1 : iX7_bestBerth_1.all (fun q => decide (decode cX7_bestBerth q.1 = .ok (q.2.1, q.2.2))) = true := by decide +kernel
def iX7_layDown_0 : List kI := [(0, .aload_n 0, 1), (1, .getfield 53, 3), (4, .iload_n 1, 1), (5, .iload_n 2, 1), (6, .invokevirtual 253, 3), (9, .ifCond .ne 7, 3), (12, .sipush (-10001), 3), (15, .ireturn, 1), (16, .iload_n 3, 1), (17, .ifCond .eq 12, 3), (20, .iload_n 3, 1), (21, .iconst 1, 1), (22, .if_icmp .eq 7, 3), (25, .sipush (-10002), 3), (28, .ireturn, 1), (29, .iload_n 3, 1), (30, .ifCond .ne 13, 3), (33, .aload_n 0, 1), (34, .getfield 10, 3), (37, .getfield 116, 3), (40, .goto 10, 3), (43, .aload_n 0, 1), (44, .getfield 10, 3), (47, .getfield 126, 3), (50, .astore 5, 2), (52, .aload 5, 2), (54, .iload 4, 2), (56, .invokevirtual 144, 3), (59, .ifCond .ne 7, 3), (62, .sipush (-10001), 3), (65, .ireturn, 1), (66, .aload_n 0, 1), (67, .getfield 53, 3), (70, .iload_n 1, 1), (71, .iload_n 2, 1), (72, .iload_n 3, 1), (73, .aload 5, 2), (75, .iload 4, 2), (77, .invokevirtual 256, 3), (80, .ireturn, 1)]
theorem kX7_layDown_0 : iX7_layDown_0.all (fun q => decide (decode cX7_layDown q.1 = .ok (q.2.1, q.2.2))) = true := by decide +kernel
def iX7_takeOut_0 : List kI := [(0, .aload_n 0, 1), (1, .getfield 53, 3), (4, .iload_n 1, 1), (5, .iload_n 2, 1), (6, .invokevirtual 253, 3), (9, .ifCond .ne 7, 3), (12, .sipush (-10001), 3), (15, .ireturn, 1), (16, .aload_n 0, 1), (17, .getfield 16, 3), (20, .aload_n 0, 1), (21, .getfield 10, 3), (24, .invokevirtual 61, 3), (27, .aload_n 0, 1), (28, .aload_n 0, 1), (29, .getfield 53, 3), (32, .aload_n 0, 1), (33, .getfield 10, 3), (36, .iload_n 1, 1), (37, .iload_n 2, 1), (38, .invokevirtual 260, 3), (41, .invokevirtual 69, 3), (44, .ireturn, 1)]
theorem kX7_takeOut_0 : iX7_takeOut_0.all (fun q => decide (decode cX7_takeOut q.1 = .ok (q.2.1, q.2.2))) = true := by decide +kernel
def iX7_lying_0 : List kI := [(0, .aload_n 0, 1), (1, .getfield 53, 3), (4, .iload_n 1, 1), (5, .iload_n 2, 1), (6, .invokevirtual 253, 3), (9, .ifCond .eq 15, 3), (12, .aload_n 0, 1), (13, .getfield 53, 3), (16, .iload_n 1, 1), (17, .iload_n 2, 1), (18, .invokevirtual 263, 3), (21, .goto 6, 3), (24, .sipush (-10001), 3), (27, .ireturn, 1)]
theorem kX7_lying_0 : iX7_lying_0.all (fun q => decide (decode cX7_lying q.1 = .ok (q.2.1, q.2.2))) = true := by decide +kernel
def iX7_save_0 : List kI := [(0, .aload_n 0, 1), (1, .getfield 19, 3), (4, .aload_n 0, 1), (5, .getfield 10, 3), (8, .invokevirtual 61, 3), (11, .aload_n 0, 1), (12, .iconst 1, 1), (13, .putfield 57, 3), (16, .aload_n 0, 1), (17, .getfield 10, 3), (20, .getfield 129, 3), (23, .invokevirtual 120, 3), (26, .ireturn, 1)]
theorem kX7_save_0 : iX7_save_0.all (fun q => decide (decode cX7_save q.1 = .ok (q.2.1, q.2.2))) = true := by decide +kernel
def iX7_restore_0 : List kI := [(0, .aload_n 0, 1), (1, .getfield 57, 3), (4, .ifCond .ne 7, 3), (7, .sipush (-10005), 3), (10, .ireturn, 1), (11, .aload_n 0, 1), (12, .getfield 10, 3), (15, .aload_n 0, 1), (16, .getfield 19, 3), (19, .invokevirtual 61, 3), (22, .aload_n 0, 1), (23, .getfield 25, 3), (26, .invokevirtual 266, 3), (29, .aload_n 0, 1), (30, .getfield 10, 3), (33, .getfield 129, 3), (36, .invokevirtual 120, 3), (39, .ireturn, 1)]
theorem kX7_restore_0 : iX7_restore_0.all (fun q => decide (decode cX7_restore q.1 = .ok (q.2.1, q.2.2))) = true := by decide +kernel
def iX7_noted_0 : List kI := [(0, .iload_n 1, 1), (1, .invokestatic 269, 3), (4, .ifCond .ne 14, 3), (7, .aload_n 0, 1), (8, .getfield 25, 3), (11, .aload_n 0, 1), (12, .getfield 16, 3), (15, .invokevirtual 272, 3), (18, .iload_n 1, 1), (19, .ireturn, 1)]
theorem kX7_noted_0 : iX7_noted_0.all (fun q => decide (decode cX7_noted q.1 = .ok (q.2.1, q.2.2))) = true := by decide +kernel
def iX7_isError_0 : List kI := [(0, .iload_n 0, 1), (1, .sipush (-10006), 3), (4, .if_icmp .lt 14, 3), (7, .iload_n 0, 1), (8, .sipush (-10001), 3), (11, .if_icmp .gt 7, 3), (14, .iconst 1, 1), (15, .goto 4, 3), (18, .iconst 0, 1), (19, .ireturn, 1)]
theorem kX7_isError_0 : iX7_isError_0.all (fun q => decide (decode cX7_isError q.1 = .ok (q.2.1, q.2.2))) = true := by decide +kernel
def iX7_isOutside_0 : List kI := [(0, .iload_n 0, 1), (1, .iload_n 1, 1), (2, .if_icmp .lt 8, 3), (5, .iload_n 0, 1), (6, .iload_n 2, 1), (7, .if_icmp .le 7, 3), (10, .iconst 1, 1), (11, .goto 4, 3), (14, .iconst 0, 1), (15, .ireturn, 1)]
theorem kX7_isOutside_0 : iX7_isOutside_0.all (fun q => decide (decode cX7_isOutside q.1 = .ok (q.2.1, q.2.2))) = true := by decide +kernel
def iX7_bitsOf_0 : List kI := [(0, .fload_n 0, 1), (1, .fconst 0, 1), (2, .fcmp .l, 1), (3, .ifCond .ne 5, 3), (6, .iconst 0, 1), (7, .ireturn, 1), (8, .fload_n 0, 1), (9, .fconst 0, 1), (10, .fcmp .g, 1), (11, .ifCond .ge 8, 3), (14, .fload_n 0, 1), (15, .fneg, 1), (16, .goto 4, 3), (19, .fload_n 0, 1), (20, .fstore_n 1, 1), (21, .bipush 127, 2), (23, .istore_n 2, 1), (24, .iconst 0, 1), (25, .istore_n 3, 1), (26, .iload_n 3, 1), (27, .bipush 127, 2), (29, .if_icmp .ge 22, 3), (32, .fload_n 1, 1), (33, .fconst 2, 1), (34, .fcmp .l, 1), (35, .ifCond .lt 16, 3), (38, .fload_n 1, 1), (39, .fconst 2, 1), (40, .fdiv, 1), (41, .fstore_n 1, 1), (42, .iinc 2 1, 3), (45, .iinc 3 1, 3), (48, .goto (-22), 3), (51, .iconst 0, 1), (52, .istore_n 3, 1), (53, .iload_n 3, 1), (54, .bipush 126, 2), (56, .if_icmp .ge 22, 3), (59, .fload_n 1, 1), (60, .fconst 1, 1), (61, .fcmp .g, 1), (62, .ifCond .ge 16, 3), (65, .fload_n 1, 1), (66, .fconst 2, 1), (67, .fmul, 1), (68, .fstore_n 1, 1), (69, .iinc 2 (-1), 3), (72, .iinc 3 1, 3), (75, .goto (-22), 3), (78, .fload_n 1, 1), (79, .ldc_w 275, 3), (82, .fmul, 1), (83, .f2i, 1), (84, .ldc_w 276, 3), (87, .isub, 1), (88, .istore_n 3, 1), (89, .fload_n 0, 1), (90, .fconst 0, 1), (91, .fcmp .g, 1), (92, .ifCond .ge 9, 3)]
theorem kX7_bitsOf_0 : iX7_bitsOf_0.all (fun q => decide (decode cX7_bitsOf q.1 = .ok (q.2.1, q.2.2))) = true := by decide +kernel
def iX7_bitsOf_1 : List kI := [(95, .ldc_w 277, 3), (98, .goto 4, 3), (101, .iconst 0, 1), (102, .istore 4, 2), (104, .iload 4, 2), (106, .iload_n 2, 1), (107, .bipush 23, 2), (109, .ishl, 1), (110, .ior, 1), (111, .iload_n 3, 1), (112, .ior, 1), (113, .ireturn, 1)]
theorem kX7_bitsOf_1 : iX7_bitsOf_1.all (fun q => decide (decode cX7_bitsOf q.1 = .ok (q.2.1, q.2.2))) = true := by decide +kernel
def iX8_init_0 : List kI := [(0, .aload_n 0, 1), (1, .invokespecial 1, 3), (4, .aload_n 0, 1), (5, .sipush 277, 3), (8, .newarray .int, 2), (10, .putfield 7, 3), (13, .aload_n 0, 1), (14, .sipush 277, 3), (17, .newarray .int, 2), (19, .putfield 13, 3), (22, .aload_n 0, 1), (23, .sipush 1662, 3), (26, .newarray .int, 2), (28, .putfield 16, 3), (31, .aload_n 0, 1), (32, .sipush 277, 3), (35, .newarray .int, 2), (37, .putfield 19, 3), (40, .aload_n 0, 1), (41, .bipush 60, 2), (43, .newarray .char, 2), (45, .putfield 22, 3), (48, .aload_n 0, 1), (49, .sipush (-10004), 3), (52, .putfield 26, 3), (55, .aload_n 0, 1), (56, .iconst 4, 1), (57, .newarray .int, 2), (59, .putfield 30, 3), (62, .aload_n 0, 1), (63, .bipush 12, 2), (65, .newarray .int, 2), (67, .putfield 33, 3), (70, .aload_n 0, 1), (71, .bipush 12, 2), (73, .newarray .int, 2), (75, .putfield 36, 3), (78, .aload_n 0, 1), (79, .bipush 12, 2), (81, .newarray .int, 2), (83, .putfield 39, 3), (86, .aload_n 0, 1), (87, .bipush 12, 2), (89, .newarray .int, 2), (91, .putfield 42, 3), (94, .aload_n 0, 1), (95, .bipush 12, 2), (97, .newarray .int, 2), (99, .putfield 45, 3), (102, .aload_n 0, 1), (103, .sipush 288, 3), (106, .newarray .int, 2), (108, .putfield 48, 3), (111, .aload_n 0, 1), (112, .bipush 12, 2), (114, .newarray .int, 2), (116, .putfield 51, 3), (119, .aload_n 0, 1), (120, .bipush 24, 2), (122, .newarray .int, 2)]
theorem kX8_init_0 : iX8_init_0.all (fun q => decide (decode cX8_init q.1 = .ok (q.2.1, q.2.2))) = true := by decide +kernel
def iX8_init_1 : List kI := [(124, .putfield 54, 3), (127, .aload_n 0, 1), (128, .bipush 24, 2), (130, .newarray .int, 2), (132, .putfield 57, 3), (135, .aload_n 0, 1), (136, .bipush 24, 2), (138, .newarray .int, 2), (140, .putfield 60, 3), (143, .aload_n 0, 1), (144, .bipush 24, 2), (146, .newarray .int, 2), (148, .putfield 63, 3), (151, .aload_n 0, 1), (152, .bipush 48, 2), (154, .newarray .int, 2), (156, .putfield 66, 3), (159, .aload_n 0, 1), (160, .sipush 1152, 3), (163, .newarray .int, 2), (165, .putfield 69, 3), (168, .aload_n 0, 1), (169, .bipush 48, 2), (171, .newarray .int, 2), (173, .putfield 72, 3), (176, .aload_n 0, 1), (177, .bipush 24, 2), (179, .newarray .int, 2), (181, .putfield 75, 3), (184, .aload_n 0, 1), (185, .iconst 4, 1), (186, .newarray .int, 2), (188, .putfield 78, 3), (191, .aload_n 0, 1), (192, .bipush 9, 2), (194, .newarray .int, 2), (196, .dup, 1), (197, .iconst 0, 1), (198, .iconst (-1), 1), (199, .iastore, 1), (200, .dup, 1), (201, .iconst 1, 1), (202, .iconst (-1), 1), (203, .iastore, 1), (204, .dup, 1), (205, .iconst 2, 1), (206, .iconst (-1), 1), (207, .iastore, 1), (208, .dup, 1), (209, .iconst 3, 1), (210, .iconst (-1), 1), (211, .iastore, 1), (212, .dup, 1), (213, .iconst 4, 1), (214, .iconst (-1), 1), (215, .iastore, 1), (216, .dup, 1), (217, .iconst 5, 1), (218, .iconst (-1), 1), (219, .iastore, 1)]
theorem kX8_init_1 : iX8_init_1.all (fun q => decide (decode cX8_init q.1 = .ok (q.2.1, q.2.2))) = true := by decide +kernel
def iX8_init_2 : List kI := [(220, .dup, 1), (221, .bipush 6, 2), (223, .iconst (-1), 1), (224, .iastore, 1), (225, .dup, 1), (226, .bipush 7, 2), (228, .iconst (-1), 1), (229, .iastore, 1), (230, .dup, 1), (231, .bipush 8, 2), (233, .iconst (-1), 1), (234, .iastore, 1), (235, .putfield 81, 3), (238, .aload_n 0, 1), (239, .bipush 36, 2), (241, .newarray .int, 2), (243, .putfield 84, 3), (246, .aload_n 0, 1), (247, .getfield 7, 3), (250, .bipush 97, 2), (252, .bipush 50, 2), (254, .iastore, 1), (255, .return_, 1)]
theorem kX8_init_2 : iX8_init_2.all (fun q => decide (decode cX8_init q.1 = .ok (q.2.1, q.2.2))) = true := by decide +kernel
def iX8_in_0 : List kI := [(0, .iload_n 0, 1), (1, .iload_n 1, 1), (2, .if_icmp .lt 12, 3), (5, .iload_n 0, 1), (6, .iload_n 2, 1), (7, .if_icmp .gt 7, 3), (10, .iconst 1, 1), (11, .goto 4, 3), (14, .iconst 0, 1), (15, .ireturn, 1)]
theorem kX8_in_0 : iX8_in_0.all (fun q => decide (decode cX8_in q.1 = .ok (q.2.1, q.2.2))) = true := by decide +kernel
def iX8_isShip_0 : List kI := [(0, .iload_n 1, 1), (1, .iconst 0, 1), (2, .aload_n 0, 1), (3, .getfield 7, 3), (6, .bipush 98, 2), (8, .iaload, 1), (9, .iconst 1, 1), (10, .isub, 1), (11, .invokestatic 87, 3), (14, .ireturn, 1)]
theorem kX8_isShip_0 : iX8_isShip_0.all (fun q => decide (decode cX8_isShip q.1 = .ok (q.2.1, q.2.2))) = true := by decide +kernel
def iX8_isBerth_0 : List kI := [(0, .iload_n 1, 1), (1, .iconst 0, 1), (2, .aload_n 0, 1), (3, .getfield 7, 3), (6, .bipush 115, 2), (8, .iaload, 1), (9, .iconst 1, 1), (10, .isub, 1), (11, .invokestatic 87, 3), (14, .ireturn, 1)]
theorem kX8_isBerth_0 : iX8_isBerth_0.all (fun q => decide (decode cX8_isBerth q.1 = .ok (q.2.1, q.2.2))) = true := by decide +kernel
def iX8_isCrossing_0 : List kI := [(0, .iload_n 1, 1), (1, .iconst 0, 1), (2, .aload_n 0, 1), (3, .getfield 7, 3), (6, .bipush 122, 2), (8, .iaload, 1), (9, .iconst 1, 1), (10, .isub, 1), (11, .invokestatic 87, 3), (14, .ireturn, 1)]
theorem kX8_isCrossing_0 : iX8_isCrossing_0.all (fun q => decide (decode cX8_isCrossing q.1 = .ok (q.2.1, q.2.2))) = true := by decide +kernel
def iX8_shipOf_0 : List kI := [(0, .aload_n 0, 1), (1, .getfield 7, 3), (4, .bipush 99, 2), (6, .iconst 4, 1), (7, .iload_n 1, 1), (8, .imul, 1), (9, .iadd, 1), (10, .iload_n 2, 1), (11, .iadd, 1), (12, .iaload, 1), (13, .ireturn, 1)]
theorem kX8_shipOf_0 : iX8_shipOf_0.all (fun q => decide (decode cX8_shipOf q.1 = .ok (q.2.1, q.2.2))) = true := by decide +kernel
def iX8_berthOf_0 : List kI := [(0, .aload_n 0, 1), (1, .getfield 7, 3), (4, .bipush 116, 2), (6, .iconst 2, 1), (7, .iload_n 1, 1), (8, .imul, 1), (9, .iadd, 1), (10, .iload_n 2, 1), (11, .iadd, 1), (12, .iaload, 1), (13, .ireturn, 1)]
theorem kX8_berthOf_0 : iX8_berthOf_0.all (fun q => decide (decode cX8_berthOf q.1 = .ok (q.2.1, q.2.2))) = true := by decide +kernel
def iX8_of_0 : List kI := [(0, .aload_n 0, 1), (1, .getfield 7, 3), (4, .bipush 123, 2), (6, .iconst 4, 1), (7, .iload_n 1, 1), (8, .imul, 1), (9, .iadd, 1), (10, .iload_n 2, 1), (11, .iadd, 1), (12, .iaload, 1), (13, .ireturn, 1)]
theorem kX8_of_0 : iX8_of_0.all (fun q => decide (decode cX8_of q.1 = .ok (q.2.1, q.2.2))) = true := by decide +kernel
def iX8_vehicleOf_0 : List kI := [(0, .aload_n 0, 1), (1, .getfield 7, 3), (4, .sipush 172, 3), (7, .iconst 3, 1), (8, .iload_n 1, 1), (9, .imul, 1), (10, .iadd, 1), (11, .iload_n 2, 1), (12, .iadd, 1), (13, .iaload, 1), (14, .ireturn, 1)]
theorem kX8_vehicleOf_0 : iX8_vehicleOf_0.all (fun q => decide (decode cX8_vehicleOf q.1 = .ok (q.2.1, q.2.2))) = true := by decide +kernel
def iX8_connectionOf_0 : List kI := [(0, .aload_n 0, 1), (1, .getfield 7, 3), (4, .sipush 245, 3), (7, .iconst 4, 1), (8, .iload_n 1, 1), (9, .imul, 1), (10, .iadd, 1), (11, .iload_n 2, 1), (12, .iadd, 1), (13, .iaload, 1), (14, .ireturn, 1)]
theorem kX8_connectionOf_0 : iX8_connectionOf_0.all (fun q => decide (decode cX8_connectionOf q.1 = .ok (q.2.1, q.2.2))) = true := by decide +kernel
def iX8_remembers_0 : List kI := [(0, .iconst 0, 1), (1, .istore_n 1, 1), (2, .iload_n 1, 1), (3, .sipush 277, 3), (6, .if_icmp .ge 21, 3), (9, .aload_n 0, 1), (10, .getfield 13, 3), (13, .iload_n 1, 1), (14, .aload_n 0, 1), (15, .getfield 7, 3), (18, .iload_n 1, 1), (19, .iaload, 1), (20, .iastore, 1), (21, .iinc 1 1, 3), (24, .goto (-22), 3), (27, .return_, 1)]
theorem kX8_remembers_0 : iX8_remembers_0.all (fun q => decide (decode cX8_remembers q.1 = .ok (q.2.1, q.2.2))) = true := by decide +kernel
def iX8_brings_0 : List kI := [(0, .iconst 0, 1), (1, .istore_n 1, 1), (2, .iload_n 1, 1), (3, .sipush 277, 3), (6, .if_icmp .ge 21, 3), (9, .aload_n 0, 1), (10, .getfield 7, 3), (13, .iload_n 1, 1), (14, .aload_n 0, 1), (15, .getfield 13, 3), (18, .iload_n 1, 1), (19, .iaload, 1), (20, .iastore, 1), (21, .iinc 1 1, 3), (24, .goto (-22), 3), (27, .return_, 1)]
theorem kX8_brings_0 : iX8_brings_0.all (fun q => decide (decode cX8_brings q.1 = .ok (q.2.1, q.2.2))) = true := by decide +kernel
def iX8_errs_0 : List kI := [(0, .iload_n 0, 1), (1, .sipush (-10006), 3), (4, .sipush (-10001), 3), (7, .invokestatic 87, 3), (10, .ireturn, 1)]
theorem kX8_errs_0 : iX8_errs_0.all (fun q => decide (decode cX8_errs q.1 = .ok (q.2.1, q.2.2))) = true := by decide +kernel
def iX8_kept_0 : List kI := [(0, .iload_n 1, 1), (1, .invokestatic 91, 3), (4, .ifCond .eq 5, 3), (7, .iload_n 1, 1), (8, .ireturn, 1), (9, .aload_n 0, 1), (10, .getfield 95, 3), (13, .bipush 6, 2), (15, .if_icmp .ne 44, 3), (18, .iconst 0, 1), (19, .istore_n 2, 1), (20, .iload_n 2, 1), (21, .sipush 1385, 3), (24, .if_icmp .ge 25, 3), (27, .aload_n 0, 1), (28, .getfield 16, 3), (31, .iload_n 2, 1), (32, .aload_n 0, 1), (33, .getfield 16, 3), (36, .iload_n 2, 1), (37, .sipush 277, 3), (40, .iadd, 1), (41, .iaload, 1), (42, .iastore, 1), (43, .iinc 2 1, 3), (46, .goto (-26), 3), (49, .aload_n 0, 1), (50, .dup, 1), (51, .getfield 95, 3), (54, .iconst 1, 1), (55, .isub, 1), (56, .putfield 95, 3), (59, .iconst 0, 1), (60, .istore_n 2, 1), (61, .iload_n 2, 1), (62, .sipush 277, 3), (65, .if_icmp .ge 30, 3), (68, .aload_n 0, 1), (69, .getfield 16, 3), (72, .sipush 277, 3), (75, .aload_n 0, 1), (76, .getfield 95, 3), (79, .imul, 1), (80, .iload_n 2, 1), (81, .iadd, 1), (82, .aload_n 0, 1), (83, .getfield 13, 3), (86, .iload_n 2, 1), (87, .iaload, 1), (88, .iastore, 1), (89, .iinc 2 1, 3), (92, .goto (-31), 3), (95, .aload_n 0, 1), (96, .dup, 1), (97, .getfield 95, 3), (100, .iconst 1, 1), (101, .iadd, 1), (102, .putfield 95, 3), (105, .iload_n 1, 1), (106, .ireturn, 1)]
theorem kX8_kept_0 : iX8_kept_0.all (fun q => decide (decode cX8_kept q.1 = .ok (q.2.1, q.2.2))) = true := by decide +kernel
def iX8_addsShip_0 : List kI := [(0, .iload_n 1, 1), (1, .bipush 50, 2), (3, .sipush 900, 3), (6, .invokestatic 87, 3), (9, .ifCond .eq 35, 3), (12, .iload_n 2, 1), (13, .iconst 1, 1), (14, .iconst 4, 1), (15, .invokestatic 87, 3), (18, .ifCond .eq 26, 3), (21, .iload_n 3, 1), (22, .bipush 10, 2), (24, .sipush 200, 3), (27, .invokestatic 87, 3), (30, .ifCond .eq 14, 3), (33, .iload 4, 2), (35, .iconst 0, 1), (36, .bipush 99, 2), (38, .invokestatic 87, 3), (41, .ifCond .ne 7, 3), (44, .sipush (-10002), 3), (47, .ireturn, 1), (48, .aload_n 0, 1), (49, .getfield 7, 3), (52, .bipush 98, 2), (54, .iaload, 1), (55, .iconst 4, 1), (56, .if_icmp .ne 7, 3), (59, .sipush (-10003), 3), (62, .ireturn, 1), (63, .bipush 99, 2), (65, .iconst 4, 1), (66, .aload_n 0, 1), (67, .getfield 7, 3), (70, .bipush 98, 2), (72, .iaload, 1), (73, .imul, 1), (74, .iadd, 1), (75, .istore 5, 2), (77, .aload_n 0, 1), (78, .getfield 7, 3), (81, .iload 5, 2), (83, .iload_n 1, 1), (84, .iastore, 1), (85, .aload_n 0, 1), (86, .getfield 7, 3), (89, .iload 5, 2), (91, .iconst 1, 1), (92, .iadd, 1), (93, .iload_n 2, 1), (94, .iastore, 1), (95, .aload_n 0, 1), (96, .getfield 7, 3), (99, .iload 5, 2), (101, .iconst 2, 1), (102, .iadd, 1), (103, .iload_n 3, 1), (104, .iastore, 1), (105, .aload_n 0, 1), (106, .getfield 7, 3)]
theorem kX8_addsShip_0 : iX8_addsShip_0.all (fun q => decide (decode cX8_addsShip q.1 = .ok (q.2.1, q.2.2))) = true := by decide +kernel
def iX8_addsShip_1 : List kI := [(109, .iload 5, 2), (111, .iconst 3, 1), (112, .iadd, 1), (113, .iload 4, 2), (115, .iastore, 1), (116, .aload_n 0, 1), (117, .getfield 7, 3), (120, .bipush 98, 2), (122, .dup2, 1), (123, .iaload, 1), (124, .iconst 1, 1), (125, .iadd, 1), (126, .iastore, 1), (127, .aload_n 0, 1), (128, .getfield 7, 3), (131, .bipush 98, 2), (133, .iaload, 1), (134, .iconst 1, 1), (135, .isub, 1), (136, .ireturn, 1)]
theorem kX8_addsShip_1 : iX8_addsShip_1.all (fun q => decide (decode cX8_addsShip q.1 = .ok (q.2.1, q.2.2))) = true := by decide +kernel
def iX8_addsBerth_0 : List kI := [(0, .iload_n 1, 1), (1, .iconst 0, 1), (2, .sipush 999, 3), (5, .invokestatic 87, 3), (8, .ifCond .eq 12, 3), (11, .iload_n 2, 1), (12, .iconst 1, 1), (13, .iconst 2, 1), (14, .invokestatic 87, 3), (17, .ifCond .ne 7, 3), (20, .sipush (-10002), 3), (23, .ireturn, 1), (24, .aload_n 0, 1), (25, .getfield 7, 3), (28, .bipush 115, 2), (30, .iaload, 1), (31, .iconst 3, 1), (32, .if_icmp .ne 7, 3), (35, .sipush (-10003), 3), (38, .ireturn, 1), (39, .aload_n 0, 1), (40, .getfield 7, 3), (43, .bipush 116, 2), (45, .iconst 2, 1), (46, .aload_n 0, 1), (47, .getfield 7, 3), (50, .bipush 115, 2), (52, .iaload, 1), (53, .imul, 1), (54, .iadd, 1), (55, .iload_n 1, 1), (56, .iastore, 1), (57, .aload_n 0, 1), (58, .getfield 7, 3), (61, .bipush 116, 2), (63, .iconst 2, 1), (64, .aload_n 0, 1), (65, .getfield 7, 3), (68, .bipush 115, 2), (70, .iaload, 1), (71, .imul, 1), (72, .iadd, 1), (73, .iconst 1, 1), (74, .iadd, 1), (75, .iload_n 2, 1), (76, .iastore, 1), (77, .aload_n 0, 1), (78, .getfield 7, 3), (81, .bipush 115, 2), (83, .dup2, 1), (84, .iaload, 1), (85, .iconst 1, 1), (86, .iadd, 1), (87, .iastore, 1), (88, .aload_n 0, 1), (89, .getfield 7, 3), (92, .bipush 115, 2), (94, .iaload, 1), (95, .iconst 1, 1), (96, .isub, 1)]
theorem kX8_addsBerth_0 : iX8_addsBerth_0.all (fun q => decide (decode cX8_addsBerth q.1 = .ok (q.2.1, q.2.2))) = true := by decide +kernel
def iX8_addsBerth_1 : List kI := [(97, .ireturn, 1)]
theorem kX8_addsBerth_1 : iX8_addsBerth_1.all (fun q => decide (decode cX8_addsBerth q.1 = .ok (q.2.1, q.2.2))) = true := by decide +kernel
def iX8_addsCrossing_0 : List kI := [(0, .aload_n 0, 1), (1, .iload_n 1, 1), (2, .invokevirtual 98, 3), (5, .ifCond .eq 11, 3), (8, .aload_n 0, 1), (9, .iload_n 2, 1), (10, .invokevirtual 101, 3), (13, .ifCond .ne 7, 3), (16, .sipush (-10001), 3), (19, .ireturn, 1), (20, .iload_n 3, 1), (21, .iconst 0, 1), (22, .sipush 2799, 3), (25, .invokestatic 87, 3), (28, .ifCond .eq 27, 3), (31, .iload 4, 2), (33, .iload_n 3, 1), (34, .iconst 1, 1), (35, .iadd, 1), (36, .iload_n 3, 1), (37, .sipush 300, 3), (40, .iadd, 1), (41, .invokestatic 87, 3), (44, .ifCond .eq 11, 3), (47, .iload 4, 2), (49, .sipush 2800, 3), (52, .if_icmp .le 7, 3), (55, .sipush (-10002), 3), (58, .ireturn, 1), (59, .aload_n 0, 1), (60, .getfield 7, 3), (63, .bipush 122, 2), (65, .iaload, 1), (66, .bipush 12, 2), (68, .if_icmp .ne 7, 3), (71, .sipush (-10003), 3), (74, .ireturn, 1), (75, .bipush 123, 2), (77, .iconst 4, 1), (78, .aload_n 0, 1), (79, .getfield 7, 3), (82, .bipush 122, 2), (84, .iaload, 1), (85, .imul, 1), (86, .iadd, 1), (87, .istore 5, 2), (89, .aload_n 0, 1), (90, .getfield 7, 3), (93, .iload 5, 2), (95, .iload_n 1, 1), (96, .iastore, 1), (97, .aload_n 0, 1), (98, .getfield 7, 3), (101, .iload 5, 2), (103, .iconst 1, 1), (104, .iadd, 1), (105, .iload_n 2, 1), (106, .iastore, 1), (107, .aload_n 0, 1), (108, .getfield 7, 3)]
theorem kX8_addsCrossing_0 : iX8_addsCrossing_0.all (fun q => decide (decode cX8_addsCrossing q.1 = .ok (q.2.1, q.2.2))) = true := by decide +kernel
def iX8_addsCrossing_1 : List kI := [(111, .iload 5, 2), (113, .iconst 2, 1), (114, .iadd, 1), (115, .iload_n 3, 1), (116, .iastore, 1), (117, .aload_n 0, 1), (118, .getfield 7, 3), (121, .iload 5, 2), (123, .iconst 3, 1), (124, .iadd, 1), (125, .iload 4, 2), (127, .iastore, 1), (128, .aload_n 0, 1), (129, .getfield 7, 3), (132, .bipush 122, 2), (134, .dup2, 1), (135, .iaload, 1), (136, .iconst 1, 1), (137, .iadd, 1), (138, .iastore, 1), (139, .aload_n 0, 1), (140, .getfield 7, 3), (143, .bipush 122, 2), (145, .iaload, 1), (146, .iconst 1, 1), (147, .isub, 1), (148, .ireturn, 1)]
theorem kX8_addsCrossing_1 : iX8_addsCrossing_1.all (fun q => decide (decode cX8_addsCrossing q.1 = .ok (q.2.1, q.2.2))) = true := by decide +kernel
def iX8_addsVehicle_0 : List kI := [(0, .aload_n 0, 1), (1, .iload_n 1, 1), (2, .invokevirtual 104, 3), (5, .ifCond .ne 7, 3), (8, .sipush (-10001), 3), (11, .ireturn, 1), (12, .iload_n 2, 1), (13, .iconst 3, 1), (14, .bipush 30, 2), (16, .invokestatic 87, 3), (19, .ifCond .eq 12, 3), (22, .iload_n 3, 1), (23, .iconst 0, 1), (24, .iconst 5, 1), (25, .invokestatic 87, 3), (28, .ifCond .ne 7, 3), (31, .sipush (-10002), 3), (34, .ireturn, 1), (35, .aload_n 0, 1), (36, .getfield 7, 3), (39, .sipush 171, 3), (42, .iaload, 1), (43, .bipush 24, 2), (45, .if_icmp .ne 7, 3), (48, .sipush (-10003), 3), (51, .ireturn, 1), (52, .sipush 172, 3), (55, .iconst 3, 1), (56, .aload_n 0, 1), (57, .getfield 7, 3), (60, .sipush 171, 3), (63, .iaload, 1), (64, .imul, 1), (65, .iadd, 1), (66, .istore 4, 2), (68, .aload_n 0, 1), (69, .getfield 7, 3), (72, .iload 4, 2), (74, .iload_n 1, 1), (75, .iastore, 1), (76, .aload_n 0, 1), (77, .getfield 7, 3), (80, .iload 4, 2), (82, .iconst 1, 1), (83, .iadd, 1), (84, .iload_n 2, 1), (85, .iastore, 1), (86, .aload_n 0, 1), (87, .getfield 7, 3), (90, .iload 4, 2), (92, .iconst 2, 1), (93, .iadd, 1), (94, .iload_n 3, 1), (95, .iastore, 1), (96, .aload_n 0, 1), (97, .getfield 7, 3), (100, .sipush 171, 3), (103, .dup2, 1), (104, .iaload, 1), (105, .iconst 1, 1)]
theorem kX8_addsVehicle_0 : iX8_addsVehicle_0.all (fun q => decide (decode cX8_addsVehicle q.1 = .ok (q.2.1, q.2.2))) = true := by decide +kernel
def iX8_addsVehicle_1 : List kI := [(106, .iadd, 1), (107, .iastore, 1), (108, .aload_n 0, 1), (109, .getfield 7, 3), (112, .sipush 171, 3), (115, .iaload, 1), (116, .iconst 1, 1), (117, .isub, 1), (118, .ireturn, 1)]
theorem kX8_addsVehicle_1 : iX8_addsVehicle_1.all (fun q => decide (decode cX8_addsVehicle q.1 = .ok (q.2.1, q.2.2))) = true := by decide +kernel
def iX8_addsConnection_0 : List kI := [(0, .aload_n 0, 1), (1, .iload_n 1, 1), (2, .invokevirtual 104, 3), (5, .ifCond .ne 7, 3), (8, .sipush (-10001), 3), (11, .ireturn, 1), (12, .iload_n 2, 1), (13, .iconst 0, 1), (14, .sipush 2800, 3), (17, .invokestatic 87, 3), (20, .ifCond .eq 25, 3), (23, .iload_n 3, 1), (24, .iconst 0, 1), (25, .bipush 60, 2), (27, .invokestatic 87, 3), (30, .ifCond .eq 15, 3), (33, .iload 4, 2), (35, .iconst 1, 1), (36, .sipush 999, 3), (39, .invokestatic 87, 3), (42, .ifCond .ne 7, 3), (45, .sipush (-10002), 3), (48, .ireturn, 1), (49, .aload_n 0, 1), (50, .getfield 7, 3), (53, .sipush 244, 3), (56, .iaload, 1), (57, .bipush 8, 2), (59, .if_icmp .ne 7, 3), (62, .sipush (-10003), 3), (65, .ireturn, 1), (66, .sipush 245, 3), (69, .iconst 4, 1), (70, .aload_n 0, 1), (71, .getfield 7, 3), (74, .sipush 244, 3), (77, .iaload, 1), (78, .imul, 1), (79, .iadd, 1), (80, .istore 5, 2), (82, .aload_n 0, 1), (83, .getfield 7, 3), (86, .iload 5, 2), (88, .iload_n 1, 1), (89, .iastore, 1), (90, .aload_n 0, 1), (91, .getfield 7, 3), (94, .iload 5, 2), (96, .iconst 1, 1), (97, .iadd, 1), (98, .iload_n 2, 1), (99, .iastore, 1), (100, .aload_n 0, 1), (101, .getfield 7, 3), (104, .iload 5, 2), (106, .iconst 2, 1), (107, .iadd, 1), (108, .iload_n 3, 1), (109, .iastore, 1), (110, .aload_n 0, 1)]
theorem kX8_addsConnection_0 : iX8_addsConnection_0.all (fun q => decide (decode cX8_addsConnection q.1 = .ok (q.2.1, q.2.2))) = true := by decide +kernel
def iX8_addsConnection_1 : List kI := [(111, .getfield 7, 3), (114, .iload 5, 2), (116, .iconst 3, 1), (117, .iadd, 1), (118, .iload 4, 2), (120, .iastore, 1), (121, .aload_n 0, 1), (122, .getfield 7, 3), (125, .sipush 244, 3), (128, .dup2, 1), (129, .iaload, 1), (130, .iconst 1, 1), (131, .iadd, 1), (132, .iastore, 1), (133, .aload_n 0, 1), (134, .getfield 7, 3), (137, .sipush 244, 3), (140, .iaload, 1), (141, .iconst 1, 1), (142, .isub, 1), (143, .ireturn, 1)]
theorem kX8_addsConnection_1 : iX8_addsConnection_1.all (fun q => decide (decode cX8_addsConnection q.1 = .ok (q.2.1, q.2.2))) = true := by decide +kernel
def iX8_setsTide_0 : List kI := [(0, .iload_n 1, 1), (1, .iconst 0, 1), (2, .bipush 48, 2), (4, .invokestatic 87, 3), (7, .ifCond .ne 7, 3), (10, .sipush (-10001), 3), (13, .ireturn, 1), (14, .iload_n 2, 1), (15, .sipush (-999), 3), (18, .sipush 999, 3), (21, .invokestatic 87, 3), (24, .ifCond .ne 7, 3), (27, .sipush (-10002), 3), (30, .ireturn, 1), (31, .aload_n 0, 1), (32, .getfield 7, 3), (35, .iconst 0, 1), (36, .iload_n 1, 1), (37, .iadd, 1), (38, .iaload, 1), (39, .istore_n 3, 1), (40, .aload_n 0, 1), (41, .getfield 7, 3), (44, .iconst 0, 1), (45, .iload_n 1, 1), (46, .iadd, 1), (47, .iload_n 2, 1), (48, .iastore, 1), (49, .iload_n 3, 1), (50, .ireturn, 1)]
theorem kX8_setsTide_0 : iX8_setsTide_0.all (fun q => decide (decode cX8_setsTide q.1 = .ok (q.2.1, q.2.2))) = true := by decide +kernel
def iX8_setsWind_0 : List kI := [(0, .iload_n 1, 1), (1, .iconst 0, 1), (2, .bipush 47, 2), (4, .invokestatic 87, 3), (7, .ifCond .ne 7, 3), (10, .sipush (-10001), 3), (13, .ireturn, 1), (14, .iload_n 2, 1), (15, .iconst 0, 1), (16, .bipush 99, 2), (18, .invokestatic 87, 3), (21, .ifCond .ne 7, 3), (24, .sipush (-10002), 3), (27, .ireturn, 1), (28, .aload_n 0, 1), (29, .getfield 7, 3), (32, .bipush 49, 2), (34, .iload_n 1, 1), (35, .iadd, 1), (36, .iaload, 1), (37, .istore_n 3, 1), (38, .aload_n 0, 1), (39, .getfield 7, 3), (42, .bipush 49, 2), (44, .iload_n 1, 1), (45, .iadd, 1), (46, .iload_n 2, 1), (47, .iastore, 1), (48, .iload_n 3, 1), (49, .ireturn, 1)]
theorem kX8_setsWind_0 : iX8_setsWind_0.all (fun q => decide (decode cX8_setsWind q.1 = .ok (q.2.1, q.2.2))) = true := by decide +kernel
def iX8_addShip_0 : List kI := [(0, .aload_n 0, 1), (1, .invokevirtual 107, 3), (4, .aload_n 0, 1), (5, .aload_n 0, 1), (6, .iload_n 1, 1), (7, .iload_n 2, 1), (8, .iload_n 3, 1), (9, .iload 4, 2), (11, .invokevirtual 110, 3), (14, .invokevirtual 114, 3), (17, .ireturn, 1)]
theorem kX8_addShip_0 : iX8_addShip_0.all (fun q => decide (decode cX8_addShip q.1 = .ok (q.2.1, q.2.2))) = true := by decide +kernel
def iX8_addBerth_0 : List kI := [(0, .aload_n 0, 1), (1, .invokevirtual 107, 3), (4, .aload_n 0, 1), (5, .aload_n 0, 1), (6, .iload_n 1, 1), (7, .iload_n 2, 1), (8, .invokevirtual 118, 3), (11, .invokevirtual 114, 3), (14, .ireturn, 1)]
theorem kX8_addBerth_0 : iX8_addBerth_0.all (fun q => decide (decode cX8_addBerth q.1 = .ok (q.2.1, q.2.2))) = true := by decide +kernel
def iX8_addCrossing_0 : List kI := [(0, .aload_n 0, 1), (1, .invokevirtual 107, 3), (4, .aload_n 0, 1), (5, .aload_n 0, 1), (6, .iload_n 1, 1), (7, .iload_n 2, 1), (8, .iload_n 3, 1), (9, .iload 4, 2), (11, .invokevirtual 122, 3), (14, .invokevirtual 114, 3), (17, .ireturn, 1)]
theorem kX8_addCrossing_0 : iX8_addCrossing_0.all (fun q => decide (decode cX8_addCrossing q.1 = .ok (q.2.1, q.2.2))) = true := by decide +kernel
def iX8_addVehicle_0 : List kI := [(0, .aload_n 0, 1), (1, .invokevirtual 107, 3), (4, .aload_n 0, 1), (5, .aload_n 0, 1), (6, .iload_n 1, 1), (7, .iload_n 2, 1), (8, .iload_n 3, 1), (9, .invokevirtual 125, 3), (12, .invokevirtual 114, 3), (15, .ireturn, 1)]
theorem kX8_addVehicle_0 : iX8_addVehicle_0.all (fun q => decide (decode cX8_addVehicle q.1 = .ok (q.2.1, q.2.2))) = true := by decide +kernel
def iX8_addConnection_0 : List kI := [(0, .aload_n 0, 1), (1, .invokevirtual 107, 3), (4, .aload_n 0, 1), (5, .aload_n 0, 1), (6, .iload_n 1, 1), (7, .iload_n 2, 1), (8, .iload_n 3, 1), (9, .iload 4, 2), (11, .invokevirtual 129, 3), (14, .invokevirtual 114, 3), (17, .ireturn, 1)]
theorem kX8_addConnection_0 : iX8_addConnection_0.all (fun q => decide (decode cX8_addConnection q.1 = .ok (q.2.1, q.2.2))) = true := by decide +kernel
def iX8_cuts_0 : List kI := [(0, .iconst 0, 1), (1, .istore 5, 2), (3, .iconst 0, 1), (4, .istore 6, 2), (6, .iload 6, 2), (8, .aload_n 0, 1), (9, .getfield 7, 3), (12, .iload_n 1, 1), (13, .iaload, 1), (14, .if_icmp .ge 102, 3), (17, .aload_n 0, 1), (18, .getfield 7, 3), (21, .iload_n 2, 1), (22, .iload_n 3, 1), (23, .iload 6, 2), (25, .imul, 1), (26, .iadd, 1), (27, .iaload, 1), (28, .istore 7, 2), (30, .iload 7, 2), (32, .iload 4, 2), (34, .if_icmp .eq 76, 3), (37, .iconst 0, 1), (38, .istore 8, 2), (40, .iload 8, 2), (42, .iload_n 3, 1), (43, .if_icmp .ge 37, 3), (46, .aload_n 0, 1), (47, .getfield 7, 3), (50, .iload_n 2, 1), (51, .iload_n 3, 1), (52, .iload 5, 2), (54, .imul, 1), (55, .iadd, 1), (56, .iload 8, 2), (58, .iadd, 1), (59, .aload_n 0, 1), (60, .getfield 7, 3), (63, .iload_n 2, 1), (64, .iload_n 3, 1), (65, .iload 6, 2), (67, .imul, 1), (68, .iadd, 1), (69, .iload 8, 2), (71, .iadd, 1), (72, .iaload, 1), (73, .iastore, 1), (74, .iinc 8 1, 3), (77, .goto (-37), 3), (80, .aload_n 0, 1), (81, .getfield 7, 3), (84, .iload_n 2, 1), (85, .iload_n 3, 1), (86, .iload 5, 2), (88, .imul, 1), (89, .iadd, 1), (90, .iload 7, 2), (92, .iload 4, 2), (94, .if_icmp .le 10, 3), (97, .iload 7, 2)]
theorem kX8_cuts_0 : iX8_cuts_0.all (fun q => decide (decode cX8_cuts q.1 = .ok (q.2.1, q.2.2))) = true := by decide +kernel
def iX8_cuts_1 : List kI := [(99, .iconst 1, 1), (100, .isub, 1), (101, .goto 5, 3), (104, .iload 7, 2), (106, .iastore, 1), (107, .iinc 5 1, 3), (110, .iinc 6 1, 3), (113, .goto (-107), 3), (116, .aload_n 0, 1), (117, .getfield 7, 3), (120, .iload_n 1, 1), (121, .iload 5, 2), (123, .iastore, 1), (124, .return_, 1)]
theorem kX8_cuts_1 : iX8_cuts_1.all (fun q => decide (decode cX8_cuts q.1 = .ok (q.2.1, q.2.2))) = true := by decide +kernel
def iX8_removeCrossing_0 : List kI := [(0, .aload_n 0, 1), (1, .iload_n 1, 1), (2, .invokevirtual 104, 3), (5, .ifCond .ne 7, 3), (8, .sipush (-10001), 3), (11, .ireturn, 1), (12, .aload_n 0, 1), (13, .invokevirtual 107, 3), (16, .aload_n 0, 1), (17, .sipush 171, 3), (20, .sipush 172, 3), (23, .iconst 3, 1), (24, .iload_n 1, 1), (25, .invokevirtual 132, 3), (28, .aload_n 0, 1), (29, .sipush 244, 3), (32, .sipush 245, 3), (35, .iconst 4, 1), (36, .iload_n 1, 1), (37, .invokevirtual 132, 3), (40, .aload_n 0, 1), (41, .getfield 7, 3), (44, .bipush 122, 2), (46, .dup2, 1), (47, .iaload, 1), (48, .iconst 1, 1), (49, .isub, 1), (50, .iastore, 1), (51, .iconst 4, 1), (52, .iload_n 1, 1), (53, .imul, 1), (54, .istore_n 2, 1), (55, .iload_n 2, 1), (56, .iconst 4, 1), (57, .aload_n 0, 1), (58, .getfield 7, 3), (61, .bipush 122, 2), (63, .iaload, 1), (64, .imul, 1), (65, .if_icmp .ge 29, 3), (68, .aload_n 0, 1), (69, .getfield 7, 3), (72, .bipush 123, 2), (74, .iload_n 2, 1), (75, .iadd, 1), (76, .aload_n 0, 1), (77, .getfield 7, 3), (80, .bipush 123, 2), (82, .iload_n 2, 1), (83, .iadd, 1), (84, .iconst 4, 1), (85, .iadd, 1), (86, .iaload, 1), (87, .iastore, 1), (88, .iinc 2 1, 3), (91, .goto (-36), 3), (94, .aload_n 0, 1), (95, .aload_n 0, 1), (96, .getfield 7, 3), (99, .bipush 122, 2)]
theorem kX8_removeCrossing_0 : iX8_removeCrossing_0.all (fun q => decide (decode cX8_removeCrossing q.1 = .ok (q.2.1, q.2.2))) = true := by decide +kernel
def iX8_removeCrossing_1 : List kI := [(101, .iaload, 1), (102, .invokevirtual 114, 3), (105, .ireturn, 1)]
theorem kX8_removeCrossing_1 : iX8_removeCrossing_1.all (fun q => decide (decode cX8_removeCrossing q.1 = .ok (q.2.1, q.2.2))) = true := by decide +kernel
def iX8_setBerth_0 : List kI := [(0, .aload_n 0, 1), (1, .iload_n 1, 1), (2, .invokevirtual 101, 3), (5, .ifCond .ne 7, 3), (8, .sipush (-10001), 3), (11, .ireturn, 1), (12, .iload_n 2, 1), (13, .iconst 0, 1), (14, .sipush 999, 3), (17, .invokestatic 87, 3), (20, .ifCond .eq 12, 3), (23, .iload_n 3, 1), (24, .iconst 1, 1), (25, .iconst 2, 1), (26, .invokestatic 87, 3), (29, .ifCond .ne 7, 3), (32, .sipush (-10002), 3), (35, .ireturn, 1), (36, .aload_n 0, 1), (37, .invokevirtual 107, 3), (40, .bipush 10, 2), (42, .aload_n 0, 1), (43, .iload_n 1, 1), (44, .iconst 0, 1), (45, .invokevirtual 136, 3), (48, .imul, 1), (49, .aload_n 0, 1), (50, .iload_n 1, 1), (51, .iconst 1, 1), (52, .invokevirtual 136, 3), (55, .iadd, 1), (56, .istore 4, 2), (58, .aload_n 0, 1), (59, .getfield 7, 3), (62, .bipush 116, 2), (64, .iconst 2, 1), (65, .iload_n 1, 1), (66, .imul, 1), (67, .iadd, 1), (68, .iload_n 2, 1), (69, .iastore, 1), (70, .aload_n 0, 1), (71, .getfield 7, 3), (74, .bipush 116, 2), (76, .iconst 2, 1), (77, .iload_n 1, 1), (78, .imul, 1), (79, .iadd, 1), (80, .iconst 1, 1), (81, .iadd, 1), (82, .iload_n 3, 1), (83, .iastore, 1), (84, .aload_n 0, 1), (85, .iload 4, 2), (87, .invokevirtual 114, 3), (90, .ireturn, 1)]
theorem kX8_setBerth_0 : iX8_setBerth_0.all (fun q => decide (decode cX8_setBerth q.1 = .ok (q.2.1, q.2.2))) = true := by decide +kernel
def iX8_setTide_0 : List kI := [(0, .aload_n 0, 1), (1, .invokevirtual 107, 3), (4, .aload_n 0, 1), (5, .aload_n 0, 1), (6, .iload_n 1, 1), (7, .iload_n 2, 1), (8, .invokevirtual 139, 3), (11, .invokevirtual 114, 3), (14, .ireturn, 1)]
theorem kX8_setTide_0 : iX8_setTide_0.all (fun q => decide (decode cX8_setTide q.1 = .ok (q.2.1, q.2.2))) = true := by decide +kernel
def iX8_setWind_0 : List kI := [(0, .aload_n 0, 1), (1, .invokevirtual 107, 3), (4, .aload_n 0, 1), (5, .aload_n 0, 1), (6, .iload_n 1, 1), (7, .iload_n 2, 1), (8, .invokevirtual 142, 3), (11, .invokevirtual 114, 3), (14, .ireturn, 1)]
theorem kX8_setWind_0 : iX8_setWind_0.all (fun q => decide (decode cX8_setWind q.1 = .ok (q.2.1, q.2.2))) = true := by decide +kernel
def iX8_setMargin_0 : List kI := [(0, .iload_n 1, 1), (1, .iconst 0, 1), (2, .sipush 200, 3), (5, .invokestatic 87, 3), (8, .ifCond .ne 7, 3), (11, .sipush (-10002), 3), (14, .ireturn, 1), (15, .aload_n 0, 1), (16, .invokevirtual 107, 3), (19, .aload_n 0, 1), (20, .getfield 7, 3), (23, .bipush 97, 2), (25, .iaload, 1), (26, .istore_n 2, 1), (27, .aload_n 0, 1), (28, .getfield 7, 3), (31, .bipush 97, 2), (33, .iload_n 1, 1), (34, .iastore, 1), (35, .aload_n 0, 1), (36, .iload_n 2, 1), (37, .invokevirtual 114, 3), (40, .ireturn, 1)]
theorem kX8_setMargin_0 : iX8_setMargin_0.all (fun q => decide (decode cX8_setMargin q.1 = .ok (q.2.1, q.2.2))) = true := by decide +kernel
def iX8_append_0 : List kI := [(0, .iconst 0, 1), (1, .istore_n 2, 1), (2, .bipush 24, 2), (4, .istore_n 3, 1), (5, .iload_n 3, 1), (6, .ifCond .lt 52, 3), (9, .iload_n 1, 1), (10, .iload_n 3, 1), (11, .iushr, 1), (12, .sipush 255, 3), (15, .iand, 1), (16, .istore 4, 2), (18, .iload 4, 2), (20, .ifCond .eq 19, 3), (23, .iload 4, 2), (25, .bipush 33, 2), (27, .bipush 126, 2), (29, .invokestatic 87, 3), (32, .ifCond .ne 7, 3), (35, .sipush (-10002), 3), (38, .ireturn, 1), (39, .iload_n 2, 1), (40, .iload 4, 2), (42, .ifCond .eq 7, 3), (45, .iconst 1, 1), (46, .goto 4, 3), (49, .iconst 0, 1), (50, .iadd, 1), (51, .istore_n 2, 1), (52, .iinc 3 (-8), 3), (55, .goto (-50), 3), (58, .aload_n 0, 1), (59, .getfield 145, 3), (62, .iload_n 2, 1), (63, .iadd, 1), (64, .bipush 60, 2), (66, .if_icmp .le 7, 3), (69, .sipush (-10003), 3), (72, .ireturn, 1), (73, .bipush 24, 2), (75, .istore_n 3, 1), (76, .iload_n 3, 1), (77, .ifCond .lt 45, 3), (80, .iload_n 1, 1), (81, .iload_n 3, 1), (82, .iushr, 1), (83, .sipush 255, 3), (86, .iand, 1), (87, .istore 4, 2), (89, .iload 4, 2), (91, .ifCond .eq 25, 3), (94, .aload_n 0, 1), (95, .getfield 22, 3), (98, .aload_n 0, 1), (99, .getfield 145, 3), (102, .iload 4, 2), (104, .i2c, 1), (105, .castore, 1), (106, .aload_n 0, 1), (107, .dup, 1)]
theorem kX8_append_0 : iX8_append_0.all (fun q => decide (decode cX8_append q.1 = .ok (q.2.1, q.2.2))) = true := by decide +kernel
def iX8_append_1 : List kI := [(108, .getfield 145, 3), (111, .iconst 1, 1), (112, .iadd, 1), (113, .putfield 145, 3), (116, .iinc 3 (-8), 3), (119, .goto (-43), 3), (122, .aload_n 0, 1), (123, .getfield 145, 3), (126, .ireturn, 1)]
theorem kX8_append_1 : iX8_append_1.all (fun q => decide (decode cX8_append q.1 = .ok (q.2.1, q.2.2))) = true := by decide +kernel
def iX8_eats_0 : List kI := [(0, .aload_n 0, 1), (1, .getfield 148, 3), (4, .aload_n 0, 1), (5, .getfield 145, 3), (8, .if_icmp .ge 16, 3), (11, .aload_n 0, 1), (12, .getfield 22, 3), (15, .aload_n 0, 1), (16, .getfield 148, 3), (19, .caload, 1), (20, .iload_n 1, 1), (21, .if_icmp .eq 5, 3), (24, .iconst 0, 1), (25, .ireturn, 1), (26, .aload_n 0, 1), (27, .dup, 1), (28, .getfield 148, 3), (31, .iconst 1, 1), (32, .iadd, 1), (33, .putfield 148, 3), (36, .iconst 1, 1), (37, .ireturn, 1)]
theorem kX8_eats_0 : iX8_eats_0.all (fun q => decide (decode cX8_eats q.1 = .ok (q.2.1, q.2.2))) = true := by decide +kernel
def iX8_readsNumber_0 : List kI := [(0, .aload_n 0, 1), (1, .getfield 148, 3), (4, .istore_n 2, 1), (5, .aload_n 0, 1), (6, .getfield 30, 3), (9, .iload_n 1, 1), (10, .iconst 0, 1), (11, .iastore, 1), (12, .aload_n 0, 1), (13, .getfield 148, 3), (16, .aload_n 0, 1), (17, .getfield 145, 3), (20, .if_icmp .ge 73, 3), (23, .aload_n 0, 1), (24, .getfield 148, 3), (27, .iload_n 2, 1), (28, .isub, 1), (29, .iconst 4, 1), (30, .if_icmp .ge 63, 3), (33, .aload_n 0, 1), (34, .getfield 22, 3), (37, .aload_n 0, 1), (38, .getfield 148, 3), (41, .caload, 1), (42, .bipush 48, 2), (44, .bipush 57, 2), (46, .invokestatic 87, 3), (49, .ifCond .eq 44, 3), (52, .aload_n 0, 1), (53, .getfield 30, 3), (56, .iload_n 1, 1), (57, .bipush 10, 2), (59, .aload_n 0, 1), (60, .getfield 30, 3), (63, .iload_n 1, 1), (64, .iaload, 1), (65, .imul, 1), (66, .aload_n 0, 1), (67, .getfield 22, 3), (70, .aload_n 0, 1), (71, .getfield 148, 3), (74, .caload, 1), (75, .iadd, 1), (76, .bipush 48, 2), (78, .isub, 1), (79, .iastore, 1), (80, .aload_n 0, 1), (81, .dup, 1), (82, .getfield 148, 3), (85, .iconst 1, 1), (86, .iadd, 1), (87, .putfield 148, 3), (90, .goto (-78), 3), (93, .aload_n 0, 1), (94, .getfield 148, 3), (97, .iload_n 2, 1), (98, .if_icmp .le 7, 3), (101, .iconst 1, 1), (102, .goto 4, 3), (105, .iconst 0, 1)]
theorem kX8_readsNumber_0 : iX8_readsNumber_0.all (fun q => decide (decode cX8_readsNumber q.1 = .ok (q.2.1, q.2.2))) = true := by decide +kernel
def iX8_readsNumber_1 : List kI := [(106, .ireturn, 1)]
theorem kX8_readsNumber_1 : iX8_readsNumber_1.all (fun q => decide (decode cX8_readsNumber q.1 = .ok (q.2.1, q.2.2))) = true := by decide +kernel
def iX8_readsEntry_0 : List kI := [(0, .aload_n 0, 1), (1, .aload_n 0, 1), (2, .getfield 148, 3), (5, .aload_n 0, 1), (6, .getfield 145, 3), (9, .if_icmp .ge 15, 3), (12, .aload_n 0, 1), (13, .getfield 22, 3), (16, .aload_n 0, 1), (17, .getfield 148, 3), (20, .caload, 1), (21, .goto 4, 3), (24, .iconst 0, 1), (25, .putfield 151, 3), (28, .aload_n 0, 1), (29, .getfield 151, 3), (32, .bipush 99, 2), (34, .if_icmp .eq 32, 3), (37, .aload_n 0, 1), (38, .getfield 151, 3), (41, .bipush 118, 2), (43, .if_icmp .eq 23, 3), (46, .aload_n 0, 1), (47, .getfield 151, 3), (50, .bipush 116, 2), (52, .if_icmp .eq 14, 3), (55, .aload_n 0, 1), (56, .getfield 151, 3), (59, .bipush 119, 2), (61, .if_icmp .eq 5, 3), (64, .iconst 0, 1), (65, .ireturn, 1), (66, .aload_n 0, 1), (67, .dup, 1), (68, .getfield 148, 3), (71, .iconst 1, 1), (72, .iadd, 1), (73, .putfield 148, 3), (76, .aload_n 0, 1), (77, .getfield 151, 3), (80, .bipush 116, 2), (82, .if_icmp .eq 12, 3), (85, .aload_n 0, 1), (86, .getfield 151, 3), (89, .bipush 119, 2), (91, .if_icmp .ne 80, 3), (94, .aload_n 0, 1), (95, .iconst 0, 1), (96, .invokevirtual 154, 3), (99, .ifCond .eq 12, 3), (102, .aload_n 0, 1), (103, .bipush 61, 2), (105, .invokevirtual 157, 3), (108, .ifCond .ne 5, 3), (111, .iconst 0, 1), (112, .ireturn, 1), (113, .aload_n 0, 1), (114, .getfield 151, 3), (117, .bipush 116, 2), (119, .if_icmp .ne 16, 3)]
theorem kX8_readsEntry_0 : iX8_readsEntry_0.all (fun q => decide (decode cX8_readsEntry q.1 = .ok (q.2.1, q.2.2))) = true := by decide +kernel
def iX8_readsEntry_1 : List kI := [(122, .aload_n 0, 1), (123, .bipush 45, 2), (125, .invokevirtual 157, 3), (128, .ifCond .eq 7, 3), (131, .iconst 1, 1), (132, .goto 4, 3), (135, .iconst 0, 1), (136, .istore_n 1, 1), (137, .aload_n 0, 1), (138, .iconst 1, 1), (139, .invokevirtual 154, 3), (142, .istore_n 2, 1), (143, .aload_n 0, 1), (144, .getfield 30, 3), (147, .iconst 1, 1), (148, .iload_n 1, 1), (149, .ifCond .eq 13, 3), (152, .aload_n 0, 1), (153, .getfield 30, 3), (156, .iconst 1, 1), (157, .iaload, 1), (158, .ineg, 1), (159, .goto 9, 3), (162, .aload_n 0, 1), (163, .getfield 30, 3), (166, .iconst 1, 1), (167, .iaload, 1), (168, .iastore, 1), (169, .iload_n 2, 1), (170, .ireturn, 1), (171, .iconst 0, 1), (172, .istore_n 1, 1), (173, .iload_n 1, 1), (174, .aload_n 0, 1), (175, .getfield 151, 3), (178, .bipush 99, 2), (180, .if_icmp .ne 7, 3), (183, .iconst 4, 1), (184, .goto 4, 3), (187, .iconst 3, 1), (188, .if_icmp .ge 32, 3), (191, .iload_n 1, 1), (192, .ifCond .le 12, 3), (195, .aload_n 0, 1), (196, .bipush 44, 2), (198, .invokevirtual 157, 3), (201, .ifCond .eq 11, 3), (204, .aload_n 0, 1), (205, .iload_n 1, 1), (206, .invokevirtual 154, 3), (209, .ifCond .ne 5, 3), (212, .iconst 0, 1), (213, .ireturn, 1), (214, .iinc 1 1, 3), (217, .goto (-44), 3), (220, .iconst 1, 1), (221, .ireturn, 1)]
theorem kX8_readsEntry_1 : iX8_readsEntry_1.all (fun q => decide (decode cX8_readsEntry q.1 = .ok (q.2.1, q.2.2))) = true := by decide +kernel
def iX8_does_0 : List kI := [(0, .aload_n 0, 1), (1, .getfield 151, 3), (4, .lookupswitch 105 #[(99, 36), (116, 88), (118, 65)], 36), (40, .aload_n 0, 1), (41, .aload_n 0, 1), (42, .getfield 30, 3), (45, .iconst 0, 1), (46, .iaload, 1), (47, .aload_n 0, 1), (48, .getfield 30, 3), (51, .iconst 1, 1), (52, .iaload, 1), (53, .aload_n 0, 1), (54, .getfield 30, 3), (57, .iconst 2, 1), (58, .iaload, 1), (59, .aload_n 0, 1), (60, .getfield 30, 3), (63, .iconst 3, 1), (64, .iaload, 1), (65, .invokevirtual 122, 3), (68, .ireturn, 1), (69, .aload_n 0, 1), (70, .aload_n 0, 1), (71, .getfield 30, 3), (74, .iconst 0, 1), (75, .iaload, 1), (76, .aload_n 0, 1), (77, .getfield 30, 3), (80, .iconst 1, 1), (81, .iaload, 1), (82, .aload_n 0, 1), (83, .getfield 30, 3), (86, .iconst 2, 1), (87, .iaload, 1), (88, .invokevirtual 125, 3), (91, .ireturn, 1), (92, .aload_n 0, 1), (93, .aload_n 0, 1), (94, .getfield 30, 3), (97, .iconst 0, 1), (98, .iaload, 1), (99, .aload_n 0, 1), (100, .getfield 30, 3), (103, .iconst 1, 1), (104, .iaload, 1), (105, .invokevirtual 139, 3), (108, .ireturn, 1), (109, .aload_n 0, 1), (110, .aload_n 0, 1), (111, .getfield 30, 3), (114, .iconst 0, 1), (115, .iaload, 1), (116, .aload_n 0, 1), (117, .getfield 30, 3), (120, .iconst 1, 1), (121, .iaload, 1), (122, .invokevirtual 142, 3), (125, .ireturn, 1)]
theorem kX8_does_0 : iX8_does_0.all (fun q => decide (decode cX8_does q.1 = .ok (q.2.1, q.2.2))) = true := by decide +kernel
def iX8_read_0 : List kI := [(0, .aload_n 0, 1), (1, .iconst 0, 1), (2, .putfield 148, 3), (5, .aload_n 0, 1), (6, .invokevirtual 160, 3), (9, .istore_n 1, 1), (10, .iload_n 1, 1), (11, .ifCond .eq 20, 3), (14, .aload_n 0, 1), (15, .bipush 59, 2), (17, .invokevirtual 157, 3), (20, .ifCond .eq 11, 3), (23, .aload_n 0, 1), (24, .invokevirtual 160, 3), (27, .istore_n 1, 1), (28, .goto (-18), 3), (31, .iload_n 1, 1), (32, .ifCond .eq 14, 3), (35, .aload_n 0, 1), (36, .getfield 148, 3), (39, .aload_n 0, 1), (40, .getfield 145, 3), (43, .if_icmp .ge 20, 3), (46, .aload_n 0, 1), (47, .aload_n 0, 1), (48, .getfield 148, 3), (51, .putfield 26, 3), (54, .aload_n 0, 1), (55, .iconst 0, 1), (56, .putfield 145, 3), (59, .sipush (-10002), 3), (62, .ireturn, 1), (63, .aload_n 0, 1), (64, .invokevirtual 107, 3), (67, .aload_n 0, 1), (68, .iconst 0, 1), (69, .putfield 148, 3), (72, .iconst 0, 1), (73, .istore_n 2, 1), (74, .aload_n 0, 1), (75, .getfield 148, 3), (78, .aload_n 0, 1), (79, .getfield 145, 3), (82, .if_icmp .ge 54, 3), (85, .aload_n 0, 1), (86, .getfield 148, 3), (89, .istore_n 3, 1), (90, .aload_n 0, 1), (91, .invokevirtual 160, 3), (94, .istore_n 1, 1), (95, .aload_n 0, 1), (96, .invokevirtual 164, 3), (99, .invokestatic 91, 3), (102, .ifCond .eq 21, 3), (105, .aload_n 0, 1), (106, .invokevirtual 168, 3), (109, .aload_n 0, 1), (110, .iload_n 3, 1), (111, .putfield 26, 3), (114, .aload_n 0, 1)]
theorem kX8_read_0 : iX8_read_0.all (fun q => decide (decode cX8_read q.1 = .ok (q.2.1, q.2.2))) = true := by decide +kernel
def iX8_read_1 : List kI := [(115, .iconst 0, 1), (116, .putfield 145, 3), (119, .sipush (-10005), 3), (122, .ireturn, 1), (123, .iinc 2 1, 3), (126, .aload_n 0, 1), (127, .bipush 59, 2), (129, .invokevirtual 157, 3), (132, .istore_n 1, 1), (133, .goto (-59), 3), (136, .aload_n 0, 1), (137, .sipush (-10004), 3), (140, .putfield 26, 3), (143, .aload_n 0, 1), (144, .iconst 0, 1), (145, .putfield 145, 3), (148, .aload_n 0, 1), (149, .iload_n 2, 1), (150, .invokevirtual 114, 3), (153, .ireturn, 1)]
theorem kX8_read_1 : iX8_read_1.all (fun q => decide (decode cX8_read q.1 = .ok (q.2.1, q.2.2))) = true := by decide +kernel
def iX8_faultPosition_0 : List kI := [(0, .aload_n 0, 1), (1, .getfield 26, 3), (4, .ireturn, 1)]
theorem kX8_faultPosition_0 : iX8_faultPosition_0.all (fun q => decide (decode cX8_faultPosition q.1 = .ok (q.2.1, q.2.2))) = true := by decide +kernel
def iX8_undo_0 : List kI := [(0, .aload_n 0, 1), (1, .getfield 95, 3), (4, .ifCond .ne 7, 3), (7, .sipush (-10004), 3), (10, .ireturn, 1), (11, .aload_n 0, 1), (12, .dup, 1), (13, .getfield 95, 3), (16, .iconst 1, 1), (17, .isub, 1), (18, .putfield 95, 3), (21, .iconst 0, 1), (22, .istore_n 1, 1), (23, .iload_n 1, 1), (24, .sipush 277, 3), (27, .if_icmp .ge 30, 3), (30, .aload_n 0, 1), (31, .getfield 7, 3), (34, .iload_n 1, 1), (35, .aload_n 0, 1), (36, .getfield 16, 3), (39, .sipush 277, 3), (42, .aload_n 0, 1), (43, .getfield 95, 3), (46, .imul, 1), (47, .iload_n 1, 1), (48, .iadd, 1), (49, .iaload, 1), (50, .iastore, 1), (51, .iinc 1 1, 3), (54, .goto (-31), 3), (57, .aload_n 0, 1), (58, .getfield 95, 3), (61, .ireturn, 1)]
theorem kX8_undo_0 : iX8_undo_0.all (fun q => decide (decode cX8_undo q.1 = .ok (q.2.1, q.2.2))) = true := by decide +kernel
def iX8_floatHeight_0 : List kI := [(0, .iload_n 1, 1), (1, .bipush 60, 2), (3, .idiv, 1), (4, .istore_n 2, 1), (5, .aload_n 0, 1), (6, .getfield 7, 3), (9, .iconst 0, 1), (10, .iload_n 2, 1), (11, .iadd, 1), (12, .iaload, 1), (13, .i2f, 1), (14, .fstore_n 3, 1), (15, .aload_n 0, 1), (16, .getfield 7, 3), (19, .iconst 0, 1), (20, .iload_n 2, 1), (21, .iadd, 1), (22, .iconst 1, 1), (23, .iadd, 1), (24, .iaload, 1), (25, .i2f, 1), (26, .fstore 4, 2), (28, .fload_n 3, 1), (29, .fload 4, 2), (31, .fload_n 3, 1), (32, .fsub, 1), (33, .iload_n 1, 1), (34, .bipush 60, 2), (36, .iload_n 2, 1), (37, .imul, 1), (38, .isub, 1), (39, .i2f, 1), (40, .ldc 171, 2), (42, .fdiv, 1), (43, .fmul, 1), (44, .fadd, 1), (45, .freturn, 1)]
theorem kX8_floatHeight_0 : iX8_floatHeight_0.all (fun q => decide (decode cX8_floatHeight q.1 = .ok (q.2.1, q.2.2))) = true := by decide +kernel
def iX8_heightAt_0 : List kI := [(0, .aload_n 0, 1), (1, .iload_n 1, 1), (2, .invokevirtual 172, 3), (5, .f2i, 1), (6, .ireturn, 1)]
theorem kX8_heightAt_0 : iX8_heightAt_0.all (fun q => decide (decode cX8_heightAt q.1 = .ok (q.2.1, q.2.2))) = true := by decide +kernel
def iX8_waterAt_0 : List kI := [(0, .aload_n 0, 1), (1, .iload_n 1, 1), (2, .iconst 0, 1), (3, .invokevirtual 136, 3), (6, .aload_n 0, 1), (7, .iload_n 2, 1), (8, .invokevirtual 176, 3), (11, .iadd, 1), (12, .ireturn, 1)]
theorem kX8_waterAt_0 : iX8_waterAt_0.all (fun q => decide (decode cX8_waterAt q.1 = .ok (q.2.1, q.2.2))) = true := by decide +kernel
def iX8_isDeep_0 : List kI := [(0, .aload_n 0, 1), (1, .iload_n 2, 1), (2, .iload_n 3, 1), (3, .invokevirtual 179, 3), (6, .aload_n 0, 1), (7, .iload_n 1, 1), (8, .iconst 0, 1), (9, .invokevirtual 182, 3), (12, .aload_n 0, 1), (13, .getfield 7, 3), (16, .bipush 97, 2), (18, .iaload, 1), (19, .iadd, 1), (20, .if_icmp .lt 7, 3), (23, .iconst 1, 1), (24, .goto 4, 3), (27, .iconst 0, 1), (28, .ireturn, 1)]
theorem kX8_isDeep_0 : iX8_isDeep_0.all (fun q => decide (decode cX8_isDeep q.1 = .ok (q.2.1, q.2.2))) = true := by decide +kernel
def iX8_isCalm_0 : List kI := [(0, .aload_n 0, 1), (1, .getfield 7, 3), (4, .bipush 49, 2), (6, .iload_n 2, 1), (7, .bipush 60, 2), (9, .idiv, 1), (10, .iadd, 1), (11, .iaload, 1), (12, .aload_n 0, 1), (13, .iload_n 1, 1), (14, .iconst 3, 1), (15, .invokevirtual 182, 3), (18, .if_icmp .gt 7, 3), (21, .iconst 1, 1), (22, .goto 4, 3), (25, .iconst 0, 1), (26, .ireturn, 1)]
theorem kX8_isCalm_0 : iX8_isCalm_0.all (fun q => decide (decode cX8_isCalm q.1 = .ok (q.2.1, q.2.2))) = true := by decide +kernel
def iX8_sorts_0 : List kI := [(0, .iconst 0, 1), (1, .istore_n 1, 1), (2, .iload_n 1, 1), (3, .aload_n 0, 1), (4, .getfield 7, 3), (7, .bipush 122, 2), (9, .iaload, 1), (10, .if_icmp .ge 87, 3), (13, .iconst 0, 1), (14, .istore_n 2, 1), (15, .iconst 0, 1), (16, .istore_n 3, 1), (17, .iload_n 3, 1), (18, .aload_n 0, 1), (19, .getfield 7, 3), (22, .bipush 122, 2), (24, .iaload, 1), (25, .if_icmp .ge 52, 3), (28, .iload_n 2, 1), (29, .aload_n 0, 1), (30, .iload_n 3, 1), (31, .iconst 3, 1), (32, .invokevirtual 185, 3), (35, .aload_n 0, 1), (36, .iload_n 1, 1), (37, .iconst 3, 1), (38, .invokevirtual 185, 3), (41, .if_icmp .lt 23, 3), (44, .aload_n 0, 1), (45, .iload_n 3, 1), (46, .iconst 3, 1), (47, .invokevirtual 185, 3), (50, .aload_n 0, 1), (51, .iload_n 1, 1), (52, .iconst 3, 1), (53, .invokevirtual 185, 3), (56, .if_icmp .ne 12, 3), (59, .iload_n 3, 1), (60, .iload_n 1, 1), (61, .if_icmp .ge 7, 3), (64, .iconst 1, 1), (65, .goto 4, 3), (68, .iconst 0, 1), (69, .iadd, 1), (70, .istore_n 2, 1), (71, .iinc 3 1, 3), (74, .goto (-57), 3), (77, .aload_n 0, 1), (78, .getfield 36, 3), (81, .iload_n 1, 1), (82, .iload_n 2, 1), (83, .iastore, 1), (84, .aload_n 0, 1), (85, .getfield 33, 3), (88, .iload_n 2, 1), (89, .iload_n 1, 1), (90, .iastore, 1), (91, .iinc 1 1, 3), (94, .goto (-92), 3), (97, .return_, 1)]
theorem kX8_sorts_0 : iX8_sorts_0.all (fun q => decide (decode cX8_sorts q.1 = .ok (q.2.1, q.2.2))) = true := by decide +kernel
def iX8_shallow_0 : List kI := [(0, .aload_n 0, 1), (1, .iload_n 1, 1), (2, .iconst 2, 1), (3, .invokevirtual 185, 3), (6, .istore_n 2, 1), (7, .iload_n 2, 1), (8, .aload_n 0, 1), (9, .iload_n 1, 1), (10, .iconst 3, 1), (11, .invokevirtual 185, 3), (14, .if_icmp .gt 68, 3), (17, .iload_n 2, 1), (18, .aload_n 0, 1), (19, .iload_n 1, 1), (20, .iconst 2, 1), (21, .invokevirtual 185, 3), (24, .if_icmp .eq 20, 3), (27, .iload_n 2, 1), (28, .aload_n 0, 1), (29, .iload_n 1, 1), (30, .iconst 3, 1), (31, .invokevirtual 185, 3), (34, .if_icmp .eq 10, 3), (37, .iload_n 2, 1), (38, .bipush 60, 2), (40, .irem, 1), (41, .ifCond .ne 7, 3), (44, .iconst 1, 1), (45, .goto 4, 3), (48, .iconst 0, 1), (49, .istore_n 3, 1), (50, .iload_n 3, 1), (51, .ifCond .eq 25, 3), (54, .aload_n 0, 1), (55, .aload_n 0, 1), (56, .iload_n 1, 1), (57, .iconst 0, 1), (58, .invokevirtual 185, 3), (61, .aload_n 0, 1), (62, .iload_n 1, 1), (63, .iconst 1, 1), (64, .invokevirtual 185, 3), (67, .iload_n 2, 1), (68, .invokevirtual 188, 3), (71, .ifCond .ne 5, 3), (74, .iload_n 2, 1), (75, .ireturn, 1), (76, .iinc 2 1, 3), (79, .goto (-72), 3), (82, .iconst (-1), 1), (83, .ireturn, 1)]
theorem kX8_shallow_0 : iX8_shallow_0.all (fun q => decide (decode cX8_shallow q.1 = .ok (q.2.1, q.2.2))) = true := by decide +kernel
def iX8_blocker_0 : List kI := [(0, .iconst 0, 1), (1, .istore_n 3, 1), (2, .iload_n 3, 1), (3, .aload_n 0, 1), (4, .getfield 36, 3), (7, .iload_n 1, 1), (8, .iaload, 1), (9, .if_icmp .ge 98, 3), (12, .aload_n 0, 1), (13, .getfield 33, 3), (16, .iload_n 3, 1), (17, .iaload, 1), (18, .istore 4, 2), (20, .aload_n 0, 1), (21, .iload 4, 2), (23, .iconst 2, 1), (24, .invokevirtual 185, 3), (27, .aload_n 0, 1), (28, .iload_n 1, 1), (29, .iconst 3, 1), (30, .invokevirtual 185, 3), (33, .if_icmp .ge 31, 3), (36, .aload_n 0, 1), (37, .iload_n 1, 1), (38, .iconst 2, 1), (39, .invokevirtual 185, 3), (42, .aload_n 0, 1), (43, .iload 4, 2), (45, .iconst 3, 1), (46, .invokevirtual 185, 3), (49, .aload_n 0, 1), (50, .getfield 45, 3), (53, .iload 4, 2), (55, .iaload, 1), (56, .iadd, 1), (57, .if_icmp .ge 7, 3), (60, .iconst 1, 1), (61, .goto 4, 3), (64, .iconst 0, 1), (65, .istore 5, 2), (67, .aload_n 0, 1), (68, .getfield 39, 3), (71, .iload 4, 2), (73, .iaload, 1), (74, .ifCond .ne 27, 3), (77, .aload_n 0, 1), (78, .iload 4, 2), (80, .iload_n 2, 1), (81, .invokevirtual 185, 3), (84, .aload_n 0, 1), (85, .iload_n 1, 1), (86, .iload_n 2, 1), (87, .invokevirtual 185, 3), (90, .if_icmp .ne 11, 3), (93, .iload 5, 2), (95, .ifCond .eq 6, 3), (98, .iload 4, 2), (100, .ireturn, 1), (101, .iinc 3 1, 3), (104, .goto (-102), 3)]
theorem kX8_blocker_0 : iX8_blocker_0.all (fun q => decide (decode cX8_blocker q.1 = .ok (q.2.1, q.2.2))) = true := by decide +kernel
def iX8_blocker_1 : List kI := [(107, .iconst (-1), 1), (108, .ireturn, 1)]
theorem kX8_blocker_1 : iX8_blocker_1.all (fun q => decide (decode cX8_blocker q.1 = .ok (q.2.1, q.2.2))) = true := by decide +kernel
def iX8_kindOf_0 : List kI := [(0, .aload_n 0, 1), (1, .iload_n 1, 1), (2, .iconst 0, 1), (3, .invokevirtual 191, 3), (6, .istore_n 2, 1), (7, .aload_n 0, 1), (8, .iload_n 1, 1), (9, .iconst 1, 1), (10, .invokevirtual 191, 3), (13, .bipush 10, 2), (15, .iadd, 1), (16, .istore_n 3, 1), (17, .aload_n 0, 1), (18, .getfield 39, 3), (21, .iload_n 2, 1), (22, .iaload, 1), (23, .ifCond .eq 5, 3), (26, .iconst 2, 1), (27, .ireturn, 1), (28, .iload_n 3, 1), (29, .aload_n 0, 1), (30, .iload_n 2, 1), (31, .iconst 3, 1), (32, .invokevirtual 185, 3), (35, .if_icmp .gt 5, 3), (38, .iconst 0, 1), (39, .ireturn, 1), (40, .iload_n 3, 1), (41, .aload_n 0, 1), (42, .iload_n 2, 1), (43, .iconst 3, 1), (44, .invokevirtual 185, 3), (47, .aload_n 0, 1), (48, .iload_n 1, 1), (49, .iconst 2, 1), (50, .invokevirtual 191, 3), (53, .iadd, 1), (54, .if_icmp .gt 7, 3), (57, .iconst 1, 1), (58, .goto 4, 3), (61, .iconst 0, 1), (62, .istore 4, 2), (64, .iload 4, 2), (66, .ifCond .eq 41, 3), (69, .aload_n 0, 1), (70, .aload_n 0, 1), (71, .iload_n 2, 1), (72, .iconst 0, 1), (73, .invokevirtual 185, 3), (76, .iload_n 3, 1), (77, .invokevirtual 194, 3), (80, .ifCond .eq 27, 3), (83, .aload_n 0, 1), (84, .aload_n 0, 1), (85, .iload_n 2, 1), (86, .iconst 0, 1), (87, .invokevirtual 185, 3), (90, .aload_n 0, 1), (91, .iload_n 2, 1), (92, .iconst 1, 1)]
theorem kX8_kindOf_0 : iX8_kindOf_0.all (fun q => decide (decode cX8_kindOf q.1 = .ok (q.2.1, q.2.2))) = true := by decide +kernel
def iX8_kindOf_1 : List kI := [(93, .invokevirtual 185, 3), (96, .iload_n 3, 1), (97, .invokevirtual 188, 3), (100, .ifCond .eq 7, 3), (103, .iconst 1, 1), (104, .goto 4, 3), (107, .iconst 2, 1), (108, .ireturn, 1)]
theorem kX8_kindOf_1 : iX8_kindOf_1.all (fun q => decide (decode cX8_kindOf q.1 = .ok (q.2.1, q.2.2))) = true := by decide +kernel
def iX8_decides_0 : List kI := [(0, .aload_n 0, 1), (1, .getfield 45, 3), (4, .iload_n 1, 1), (5, .iconst 0, 1), (6, .iastore, 1), (7, .aload_n 0, 1), (8, .getfield 39, 3), (11, .iload_n 1, 1), (12, .iconst 0, 1), (13, .iastore, 1), (14, .aload_n 0, 1), (15, .getfield 42, 3), (18, .iload_n 1, 1), (19, .sipush (-10004), 3), (22, .iastore, 1), (23, .aload_n 0, 1), (24, .iload_n 1, 1), (25, .invokevirtual 198, 3), (28, .istore_n 2, 1), (29, .aload_n 0, 1), (30, .iload_n 1, 1), (31, .iconst 1, 1), (32, .invokevirtual 201, 3), (35, .istore_n 3, 1), (36, .aload_n 0, 1), (37, .iload_n 1, 1), (38, .iconst 0, 1), (39, .invokevirtual 201, 3), (42, .istore 4, 2), (44, .aload_n 0, 1), (45, .aload_n 0, 1), (46, .iload_n 1, 1), (47, .iconst 0, 1), (48, .invokevirtual 185, 3), (51, .aload_n 0, 1), (52, .iload_n 1, 1), (53, .iconst 3, 1), (54, .invokevirtual 185, 3), (57, .invokevirtual 194, 3), (60, .ifCond .ne 36, 3), (63, .aload_n 0, 1), (64, .getfield 39, 3), (67, .iload_n 1, 1), (68, .iconst 1, 1), (69, .iastore, 1), (70, .aload_n 0, 1), (71, .getfield 42, 3), (74, .iload_n 1, 1), (75, .aload_n 0, 1), (76, .getfield 7, 3), (79, .bipush 49, 2), (81, .aload_n 0, 1), (82, .iload_n 1, 1), (83, .iconst 3, 1), (84, .invokevirtual 185, 3), (87, .bipush 60, 2), (89, .idiv, 1), (90, .iadd, 1), (91, .iaload, 1), (92, .iastore, 1)]
theorem kX8_decides_0 : iX8_decides_0.all (fun q => decide (decode cX8_decides q.1 = .ok (q.2.1, q.2.2))) = true := by decide +kernel
def iX8_decides_1 : List kI := [(93, .goto 65, 3), (96, .iload_n 2, 1), (97, .ifCond .lt 20, 3), (100, .aload_n 0, 1), (101, .getfield 39, 3), (104, .iload_n 1, 1), (105, .iconst 2, 1), (106, .iastore, 1), (107, .aload_n 0, 1), (108, .getfield 42, 3), (111, .iload_n 1, 1), (112, .iload_n 2, 1), (113, .iastore, 1), (114, .goto 44, 3), (117, .iload_n 3, 1), (118, .ifCond .lt 20, 3), (121, .aload_n 0, 1), (122, .getfield 39, 3), (125, .iload_n 1, 1), (126, .iconst 3, 1), (127, .iastore, 1), (128, .aload_n 0, 1), (129, .getfield 42, 3), (132, .iload_n 1, 1), (133, .iload_n 3, 1), (134, .iastore, 1), (135, .goto 23, 3), (138, .iload 4, 2), (140, .ifCond .lt 18, 3), (143, .aload_n 0, 1), (144, .getfield 39, 3), (147, .iload_n 1, 1), (148, .iconst 4, 1), (149, .iastore, 1), (150, .aload_n 0, 1), (151, .getfield 42, 3), (154, .iload_n 1, 1), (155, .iload 4, 2), (157, .iastore, 1), (158, .iconst 0, 1), (159, .istore 5, 2), (161, .iload 5, 2), (163, .aload_n 0, 1), (164, .getfield 7, 3), (167, .sipush 244, 3), (170, .iaload, 1), (171, .if_icmp .ge 77, 3), (174, .aload_n 0, 1), (175, .iload 5, 2), (177, .iconst 0, 1), (178, .invokevirtual 191, 3), (181, .iload_n 1, 1), (182, .if_icmp .ne 60, 3), (185, .aload_n 0, 1), (186, .iload 5, 2), (188, .invokevirtual 204, 3), (191, .iconst 1, 1), (192, .if_icmp .ne 50, 3), (195, .aload_n 0, 1), (196, .iload 5, 2)]
theorem kX8_decides_1 : iX8_decides_1.all (fun q => decide (decode cX8_decides q.1 = .ok (q.2.1, q.2.2))) = true := by decide +kernel
def iX8_decides_2 : List kI := [(198, .iconst 1, 1), (199, .invokevirtual 191, 3), (202, .bipush 10, 2), (204, .iadd, 1), (205, .aload_n 0, 1), (206, .iload_n 1, 1), (207, .iconst 3, 1), (208, .invokevirtual 185, 3), (211, .isub, 1), (212, .istore 6, 2), (214, .aload_n 0, 1), (215, .getfield 45, 3), (218, .iload_n 1, 1), (219, .iload 6, 2), (221, .aload_n 0, 1), (222, .getfield 45, 3), (225, .iload_n 1, 1), (226, .iaload, 1), (227, .if_icmp .le 8, 3), (230, .iload 6, 2), (232, .goto 9, 3), (235, .aload_n 0, 1), (236, .getfield 45, 3), (239, .iload_n 1, 1), (240, .iaload, 1), (241, .iastore, 1), (242, .iinc 5 1, 3), (245, .goto (-84), 3), (248, .return_, 1)]
theorem kX8_decides_2 : iX8_decides_2.all (fun q => decide (decode cX8_decides q.1 = .ok (q.2.1, q.2.2))) = true := by decide +kernel
def iX8_waitsAt_0 : List kI := [(0, .aload_n 0, 1), (1, .getfield 48, 3), (4, .bipush 24, 2), (6, .iload_n 1, 1), (7, .imul, 1), (8, .aload_n 0, 1), (9, .getfield 51, 3), (12, .iload_n 1, 1), (13, .iaload, 1), (14, .iadd, 1), (15, .iload_n 2, 1), (16, .iastore, 1), (17, .aload_n 0, 1), (18, .getfield 51, 3), (21, .iload_n 1, 1), (22, .dup2, 1), (23, .iaload, 1), (24, .iconst 1, 1), (25, .iadd, 1), (26, .iastore, 1), (27, .return_, 1)]
theorem kX8_waitsAt_0 : iX8_waitsAt_0.all (fun q => decide (decode cX8_waitsAt q.1 = .ok (q.2.1, q.2.2))) = true := by decide +kernel
def iX8_laneFor_0 : List kI := [(0, .iconst (-1), 1), (1, .istore_n 3, 1), (2, .iconst 0, 1), (3, .istore 4, 2), (5, .iload 4, 2), (7, .aload_n 0, 1), (8, .aload_n 0, 1), (9, .iload_n 1, 1), (10, .iconst 0, 1), (11, .invokevirtual 185, 3), (14, .iconst 1, 1), (15, .invokevirtual 182, 3), (18, .if_icmp .ge 160, 3), (21, .iconst 4, 1), (22, .iload_n 1, 1), (23, .imul, 1), (24, .iload 4, 2), (26, .iadd, 1), (27, .istore 5, 2), (29, .aload_n 0, 1), (30, .getfield 66, 3), (33, .iload 5, 2), (35, .iaload, 1), (36, .ifCond .ne 7, 3), (39, .iconst (-1), 1), (40, .goto 28, 3), (43, .aload_n 0, 1), (44, .aload_n 0, 1), (45, .getfield 69, 3), (48, .bipush 24, 2), (50, .iload 5, 2), (52, .imul, 1), (53, .aload_n 0, 1), (54, .getfield 66, 3), (57, .iload 5, 2), (59, .iaload, 1), (60, .iadd, 1), (61, .iconst 1, 1), (62, .isub, 1), (63, .iaload, 1), (64, .iconst 2, 1), (65, .invokevirtual 207, 3), (68, .istore 6, 2), (70, .aload_n 0, 1), (71, .iload_n 2, 1), (72, .iconst 2, 1), (73, .invokevirtual 207, 3), (76, .istore 7, 2), (78, .iload 6, 2), (80, .iconst (-1), 1), (81, .if_icmp .eq 35, 3), (84, .aload_n 0, 1), (85, .aload_n 0, 1), (86, .iload_n 1, 1), (87, .iconst 1, 1), (88, .invokevirtual 185, 3), (91, .iconst 1, 1), (92, .invokevirtual 136, 3), (95, .iconst 1, 1), (96, .if_icmp .ne 13, 3)]
theorem kX8_laneFor_0 : iX8_laneFor_0.all (fun q => decide (decode cX8_laneFor q.1 = .ok (q.2.1, q.2.2))) = true := by decide +kernel
def iX8_laneFor_1 : List kI := [(99, .iload 7, 2), (101, .iload 6, 2), (103, .if_icmp .gt 17, 3), (106, .goto 10, 3), (109, .iload 7, 2), (111, .iload 6, 2), (113, .if_icmp .lt 7, 3), (116, .iconst 1, 1), (117, .goto 4, 3), (120, .iconst 0, 1), (121, .istore 8, 2), (123, .iload 8, 2), (125, .ifCond .eq 47, 3), (128, .aload_n 0, 1), (129, .getfield 72, 3), (132, .iload 5, 2), (134, .iaload, 1), (135, .aload_n 0, 1), (136, .iload_n 2, 1), (137, .iconst 1, 1), (138, .invokevirtual 207, 3), (141, .if_icmp .lt 31, 3), (144, .iload_n 3, 1), (145, .iconst (-1), 1), (146, .if_icmp .eq 23, 3), (149, .aload_n 0, 1), (150, .getfield 72, 3), (153, .iload 5, 2), (155, .iaload, 1), (156, .aload_n 0, 1), (157, .getfield 72, 3), (160, .iconst 4, 1), (161, .iload_n 1, 1), (162, .imul, 1), (163, .iload_n 3, 1), (164, .iadd, 1), (165, .iaload, 1), (166, .if_icmp .ge 6, 3), (169, .iload 4, 2), (171, .istore_n 3, 1), (172, .iinc 4 1, 3), (175, .goto (-170), 3), (178, .iload_n 3, 1), (179, .ireturn, 1)]
theorem kX8_laneFor_1 : iX8_laneFor_1.all (fun q => decide (decode cX8_laneFor q.1 = .ok (q.2.1, q.2.2))) = true := by decide +kernel
def iX8_shiftsFrom_0 : List kI := [(0, .aload_n 0, 1), (1, .getfield 36, 3), (4, .iload_n 1, 1), (5, .iaload, 1), (6, .iconst 1, 1), (7, .iadd, 1), (8, .istore_n 3, 1), (9, .iload_n 3, 1), (10, .aload_n 0, 1), (11, .getfield 7, 3), (14, .bipush 122, 2), (16, .iaload, 1), (17, .if_icmp .ge 61, 3), (20, .aload_n 0, 1), (21, .getfield 33, 3), (24, .iload_n 3, 1), (25, .iaload, 1), (26, .istore 4, 2), (28, .aload_n 0, 1), (29, .getfield 39, 3), (32, .iload 4, 2), (34, .iaload, 1), (35, .ifCond .ne 37, 3), (38, .aload_n 0, 1), (39, .iload 4, 2), (41, .iconst 3, 1), (42, .invokevirtual 185, 3), (45, .aload_n 0, 1), (46, .iload_n 1, 1), (47, .iconst 3, 1), (48, .invokevirtual 185, 3), (51, .if_icmp .le 21, 3), (54, .aload_n 0, 1), (55, .iload 4, 2), (57, .iload_n 2, 1), (58, .invokevirtual 210, 3), (61, .aload_n 0, 1), (62, .getfield 63, 3), (65, .iload_n 2, 1), (66, .dup2, 1), (67, .iaload, 1), (68, .iconst 1, 1), (69, .iadd, 1), (70, .iastore, 1), (71, .return_, 1), (72, .iinc 3 1, 3), (75, .goto (-66), 3), (78, .return_, 1)]
theorem kX8_shiftsFrom_0 : iX8_shiftsFrom_0.all (fun q => decide (decode cX8_shiftsFrom q.1 = .ok (q.2.1, q.2.2))) = true := by decide +kernel
def iX8_loads_0 : List kI := [(0, .aload_n 0, 1), (1, .getfield 39, 3), (4, .iload_n 1, 1), (5, .iaload, 1), (6, .ifCond .ne 12, 3), (9, .aload_n 0, 1), (10, .iload_n 1, 1), (11, .iload_n 2, 1), (12, .invokevirtual 214, 3), (15, .goto 4, 3), (18, .iconst (-1), 1), (19, .istore_n 3, 1), (20, .iload_n 3, 1), (21, .iconst (-1), 1), (22, .if_icmp .ne 10, 3), (25, .aload_n 0, 1), (26, .iload_n 1, 1), (27, .iload_n 2, 1), (28, .invokevirtual 217, 3), (31, .return_, 1), (32, .iconst 4, 1), (33, .iload_n 1, 1), (34, .imul, 1), (35, .iload_n 3, 1), (36, .iadd, 1), (37, .istore 4, 2), (39, .aload_n 0, 1), (40, .getfield 54, 3), (43, .iload_n 2, 1), (44, .iload_n 1, 1), (45, .iastore, 1), (46, .aload_n 0, 1), (47, .getfield 57, 3), (50, .iload_n 2, 1), (51, .iload_n 3, 1), (52, .iastore, 1), (53, .aload_n 0, 1), (54, .getfield 60, 3), (57, .iload_n 2, 1), (58, .aload_n 0, 1), (59, .getfield 66, 3), (62, .iload 4, 2), (64, .iaload, 1), (65, .iastore, 1), (66, .aload_n 0, 1), (67, .getfield 69, 3), (70, .bipush 24, 2), (72, .iload 4, 2), (74, .imul, 1), (75, .aload_n 0, 1), (76, .getfield 66, 3), (79, .iload 4, 2), (81, .iaload, 1), (82, .iadd, 1), (83, .iload_n 2, 1), (84, .iastore, 1), (85, .aload_n 0, 1), (86, .getfield 66, 3), (89, .iload 4, 2), (91, .dup2, 1)]
theorem kX8_loads_0 : iX8_loads_0.all (fun q => decide (decode cX8_loads q.1 = .ok (q.2.1, q.2.2))) = true := by decide +kernel
def iX8_loads_1 : List kI := [(92, .iaload, 1), (93, .iconst 1, 1), (94, .iadd, 1), (95, .iastore, 1), (96, .aload_n 0, 1), (97, .getfield 72, 3), (100, .iload 4, 2), (102, .dup2, 1), (103, .iaload, 1), (104, .aload_n 0, 1), (105, .iload_n 2, 1), (106, .iconst 1, 1), (107, .invokevirtual 207, 3), (110, .isub, 1), (111, .iastore, 1), (112, .return_, 1)]
theorem kX8_loads_1 : iX8_loads_1.all (fun q => decide (decode cX8_loads q.1 = .ok (q.2.1, q.2.2))) = true := by decide +kernel
def iX8_tell_0 : List kI := [(0, .aload_n 0, 1), (1, .invokevirtual 220, 3), (4, .iconst 0, 1), (5, .istore_n 1, 1), (6, .iload_n 1, 1), (7, .aload_n 0, 1), (8, .getfield 7, 3), (11, .bipush 122, 2), (13, .iaload, 1), (14, .if_icmp .ge 19, 3), (17, .aload_n 0, 1), (18, .aload_n 0, 1), (19, .getfield 33, 3), (22, .iload_n 1, 1), (23, .iaload, 1), (24, .invokevirtual 223, 3), (27, .iinc 1 1, 3), (30, .goto (-24), 3), (33, .iconst 0, 1), (34, .istore_n 1, 1), (35, .iload_n 1, 1), (36, .aload_n 0, 1), (37, .getfield 7, 3), (40, .bipush 122, 2), (42, .iaload, 1), (43, .if_icmp .ge 61, 3), (46, .aload_n 0, 1), (47, .getfield 51, 3), (50, .iload_n 1, 1), (51, .iconst 0, 1), (52, .iastore, 1), (53, .iconst 0, 1), (54, .istore_n 2, 1), (55, .iload_n 2, 1), (56, .iconst 4, 1), (57, .if_icmp .ge 41, 3), (60, .aload_n 0, 1), (61, .getfield 66, 3), (64, .iconst 4, 1), (65, .iload_n 1, 1), (66, .imul, 1), (67, .iload_n 2, 1), (68, .iadd, 1), (69, .iconst 0, 1), (70, .iastore, 1), (71, .aload_n 0, 1), (72, .getfield 72, 3), (75, .iconst 4, 1), (76, .iload_n 1, 1), (77, .imul, 1), (78, .iload_n 2, 1), (79, .iadd, 1), (80, .aload_n 0, 1), (81, .aload_n 0, 1), (82, .iload_n 1, 1), (83, .iconst 0, 1), (84, .invokevirtual 185, 3), (87, .iconst 2, 1), (88, .invokevirtual 182, 3), (91, .iastore, 1)]
theorem kX8_tell_0 : iX8_tell_0.all (fun q => decide (decode cX8_tell q.1 = .ok (q.2.1, q.2.2))) = true := by decide +kernel
def iX8_tell_1 : List kI := [(92, .iinc 2 1, 3), (95, .goto (-40), 3), (98, .iinc 1 1, 3), (101, .goto (-66), 3), (104, .iconst 0, 1), (105, .istore_n 1, 1), (106, .iload_n 1, 1), (107, .aload_n 0, 1), (108, .getfield 7, 3), (111, .sipush 171, 3), (114, .iaload, 1), (115, .if_icmp .ge 54, 3), (118, .aload_n 0, 1), (119, .getfield 54, 3), (122, .iload_n 1, 1), (123, .sipush (-10004), 3), (126, .iastore, 1), (127, .aload_n 0, 1), (128, .getfield 57, 3), (131, .iload_n 1, 1), (132, .sipush (-10004), 3), (135, .iastore, 1), (136, .aload_n 0, 1), (137, .getfield 60, 3), (140, .iload_n 1, 1), (141, .sipush (-10004), 3), (144, .iastore, 1), (145, .aload_n 0, 1), (146, .getfield 63, 3), (149, .iload_n 1, 1), (150, .iconst 0, 1), (151, .iastore, 1), (152, .aload_n 0, 1), (153, .aload_n 0, 1), (154, .iload_n 1, 1), (155, .iconst 0, 1), (156, .invokevirtual 207, 3), (159, .iload_n 1, 1), (160, .invokevirtual 210, 3), (163, .iinc 1 1, 3), (166, .goto (-60), 3), (169, .iconst 0, 1), (170, .istore_n 1, 1), (171, .iload_n 1, 1), (172, .aload_n 0, 1), (173, .getfield 7, 3), (176, .bipush 122, 2), (178, .iaload, 1), (179, .if_icmp .ge 50, 3), (182, .aload_n 0, 1), (183, .getfield 33, 3), (186, .iload_n 1, 1), (187, .iaload, 1), (188, .istore_n 2, 1), (189, .iconst 0, 1), (190, .istore_n 3, 1), (191, .iload_n 3, 1), (192, .aload_n 0, 1), (193, .getfield 51, 3), (196, .iload_n 2, 1)]
theorem kX8_tell_1 : iX8_tell_1.all (fun q => decide (decode cX8_tell q.1 = .ok (q.2.1, q.2.2))) = true := by decide +kernel
def iX8_tell_2 : List kI := [(197, .iaload, 1), (198, .if_icmp .ge 25, 3), (201, .aload_n 0, 1), (202, .iload_n 2, 1), (203, .aload_n 0, 1), (204, .getfield 48, 3), (207, .bipush 24, 2), (209, .iload_n 2, 1), (210, .imul, 1), (211, .iload_n 3, 1), (212, .iadd, 1), (213, .iaload, 1), (214, .invokevirtual 227, 3), (217, .iinc 3 1, 3), (220, .goto (-29), 3), (223, .iinc 1 1, 3), (226, .goto (-55), 3), (229, .return_, 1)]
theorem kX8_tell_2 : iX8_tell_2.all (fun q => decide (decode cX8_tell q.1 = .ok (q.2.1, q.2.2))) = true := by decide +kernel
def iX8_count_0 : List kI := [(0, .iload_n 1, 1), (1, .tableswitch 98 0 6 #[43, 51, 59, 67, 76, 85, 90], 43), (44, .aload_n 0, 1), (45, .getfield 7, 3), (48, .bipush 98, 2), (50, .iaload, 1), (51, .ireturn, 1), (52, .aload_n 0, 1), (53, .getfield 7, 3), (56, .bipush 115, 2), (58, .iaload, 1), (59, .ireturn, 1), (60, .aload_n 0, 1), (61, .getfield 7, 3), (64, .bipush 122, 2), (66, .iaload, 1), (67, .ireturn, 1), (68, .aload_n 0, 1), (69, .getfield 7, 3), (72, .sipush 171, 3), (75, .iaload, 1), (76, .ireturn, 1), (77, .aload_n 0, 1), (78, .getfield 7, 3), (81, .sipush 244, 3), (84, .iaload, 1), (85, .ireturn, 1), (86, .aload_n 0, 1), (87, .getfield 145, 3), (90, .ireturn, 1), (91, .aload_n 0, 1), (92, .getfield 7, 3), (95, .bipush 97, 2), (97, .iaload, 1), (98, .ireturn, 1), (99, .sipush (-10002), 3), (102, .ireturn, 1)]
theorem kX8_count_0 : iX8_count_0.all (fun q => decide (decode cX8_count q.1 = .ok (q.2.1, q.2.2))) = true := by decide +kernel
def iX8_sailing_0 : List kI := [(0, .aload_n 0, 1), (1, .invokevirtual 230, 3), (4, .iconst 0, 1), (5, .istore_n 3, 1), (6, .iconst 0, 1), (7, .istore 4, 2), (9, .iload 4, 2), (11, .aload_n 0, 1), (12, .getfield 7, 3), (15, .bipush 122, 2), (17, .iaload, 1), (18, .if_icmp .ge 43, 3), (21, .iload_n 3, 1), (22, .aload_n 0, 1), (23, .getfield 39, 3), (26, .iload 4, 2), (28, .iaload, 1), (29, .ifCond .ne 23, 3), (32, .iload_n 1, 1), (33, .iconst 2, 1), (34, .if_icmp .eq 14, 3), (37, .aload_n 0, 1), (38, .iload 4, 2), (40, .iload_n 1, 1), (41, .invokevirtual 185, 3), (44, .iload_n 2, 1), (45, .if_icmp .ne 7, 3), (48, .iconst 1, 1), (49, .goto 4, 3), (52, .iconst 0, 1), (53, .iadd, 1), (54, .istore_n 3, 1), (55, .iinc 4 1, 3), (58, .goto (-49), 3), (61, .iload_n 3, 1), (62, .ireturn, 1)]
theorem kX8_sailing_0 : iX8_sailing_0.all (fun q => decide (decode cX8_sailing q.1 = .ok (q.2.1, q.2.2))) = true := by decide +kernel
def iX8_ship_0 : List kI := [(0, .aload_n 0, 1), (1, .iload_n 1, 1), (2, .invokevirtual 98, 3), (5, .ifCond .ne 7, 3), (8, .sipush (-10001), 3), (11, .ireturn, 1), (12, .iload_n 2, 1), (13, .iconst 0, 1), (14, .iconst 3, 1), (15, .invokestatic 87, 3), (18, .ifCond .eq 12, 3), (21, .aload_n 0, 1), (22, .iload_n 1, 1), (23, .iload_n 2, 1), (24, .invokevirtual 182, 3), (27, .goto 20, 3), (30, .iload_n 2, 1), (31, .iconst 4, 1), (32, .if_icmp .ne 12, 3), (35, .aload_n 0, 1), (36, .iconst 0, 1), (37, .iload_n 1, 1), (38, .invokevirtual 233, 3), (41, .goto 6, 3), (44, .sipush (-10002), 3), (47, .ireturn, 1)]
theorem kX8_ship_0 : iX8_ship_0.all (fun q => decide (decode cX8_ship q.1 = .ok (q.2.1, q.2.2))) = true := by decide +kernel
def iX8_berth_0 : List kI := [(0, .aload_n 0, 1), (1, .iload_n 1, 1), (2, .invokevirtual 101, 3), (5, .ifCond .ne 7, 3), (8, .sipush (-10001), 3), (11, .ireturn, 1), (12, .iload_n 2, 1), (13, .iconst 0, 1), (14, .iconst 1, 1), (15, .invokestatic 87, 3), (18, .ifCond .eq 12, 3), (21, .aload_n 0, 1), (22, .iload_n 1, 1), (23, .iload_n 2, 1), (24, .invokevirtual 136, 3), (27, .goto 20, 3), (30, .iload_n 2, 1), (31, .iconst 2, 1), (32, .if_icmp .ne 12, 3), (35, .aload_n 0, 1), (36, .iconst 1, 1), (37, .iload_n 1, 1), (38, .invokevirtual 233, 3), (41, .goto 6, 3), (44, .sipush (-10002), 3), (47, .ireturn, 1)]
theorem kX8_berth_0 : iX8_berth_0.all (fun q => decide (decode cX8_berth q.1 = .ok (q.2.1, q.2.2))) = true := by decide +kernel
def iX8_loaded_0 : List kI := [(0, .iconst 0, 1), (1, .istore_n 2, 1), (2, .iconst 0, 1), (3, .istore_n 3, 1), (4, .iload_n 3, 1), (5, .aload_n 0, 1), (6, .getfield 7, 3), (9, .sipush 171, 3), (12, .iaload, 1), (13, .if_icmp .ge 27, 3), (16, .iload_n 2, 1), (17, .aload_n 0, 1), (18, .getfield 54, 3), (21, .iload_n 3, 1), (22, .iaload, 1), (23, .iload_n 1, 1), (24, .if_icmp .ne 7, 3), (27, .iconst 1, 1), (28, .goto 4, 3), (31, .iconst 0, 1), (32, .iadd, 1), (33, .istore_n 2, 1), (34, .iinc 3 1, 3), (37, .goto (-33), 3), (40, .iload_n 2, 1), (41, .ireturn, 1)]
theorem kX8_loaded_0 : iX8_loaded_0.all (fun q => decide (decode cX8_loaded q.1 = .ok (q.2.1, q.2.2))) = true := by decide +kernel
def iX8_crossing_0 : List kI := [(0, .aload_n 0, 1), (1, .iload_n 1, 1), (2, .invokevirtual 104, 3), (5, .ifCond .ne 7, 3), (8, .sipush (-10001), 3), (11, .ireturn, 1), (12, .aload_n 0, 1), (13, .invokevirtual 230, 3), (16, .iload_n 2, 1), (17, .tableswitch 103 0 9 #[55, 55, 55, 55, 62, 69, 76, 83, 90, 96], 55), (72, .aload_n 0, 1), (73, .iload_n 1, 1), (74, .iload_n 2, 1), (75, .invokevirtual 185, 3), (78, .ireturn, 1), (79, .aload_n 0, 1), (80, .getfield 45, 3), (83, .iload_n 1, 1), (84, .iaload, 1), (85, .ireturn, 1), (86, .aload_n 0, 1), (87, .getfield 39, 3), (90, .iload_n 1, 1), (91, .iaload, 1), (92, .ireturn, 1), (93, .aload_n 0, 1), (94, .getfield 42, 3), (97, .iload_n 1, 1), (98, .iaload, 1), (99, .ireturn, 1), (100, .aload_n 0, 1), (101, .getfield 36, 3), (104, .iload_n 1, 1), (105, .iaload, 1), (106, .ireturn, 1), (107, .aload_n 0, 1), (108, .iload_n 1, 1), (109, .invokevirtual 236, 3), (112, .ireturn, 1), (113, .aload_n 0, 1), (114, .getfield 51, 3), (117, .iload_n 1, 1), (118, .iaload, 1), (119, .ireturn, 1), (120, .sipush (-10002), 3), (123, .ireturn, 1)]
theorem kX8_crossing_0 : iX8_crossing_0.all (fun q => decide (decode cX8_crossing q.1 = .ok (q.2.1, q.2.2))) = true := by decide +kernel
def iX8_decided_0 : List kI := [(0, .aload_n 0, 1), (1, .invokevirtual 230, 3), (4, .iload_n 1, 1), (5, .iconst 0, 1), (6, .aload_n 0, 1), (7, .getfield 7, 3), (10, .bipush 122, 2), (12, .iaload, 1), (13, .iconst 1, 1), (14, .isub, 1), (15, .invokestatic 87, 3), (18, .ifCond .eq 12, 3), (21, .aload_n 0, 1), (22, .getfield 33, 3), (25, .iload_n 1, 1), (26, .iaload, 1), (27, .goto 6, 3), (30, .sipush (-10001), 3), (33, .ireturn, 1)]
theorem kX8_decided_0 : iX8_decided_0.all (fun q => decide (decode cX8_decided q.1 = .ok (q.2.1, q.2.2))) = true := by decide +kernel
def iX8_vehicle_0 : List kI := [(0, .iload_n 1, 1), (1, .iconst 0, 1), (2, .aload_n 0, 1), (3, .getfield 7, 3), (6, .sipush 171, 3), (9, .iaload, 1), (10, .iconst 1, 1), (11, .isub, 1), (12, .invokestatic 87, 3), (15, .ifCond .ne 7, 3), (18, .sipush (-10001), 3), (21, .ireturn, 1), (22, .aload_n 0, 1), (23, .invokevirtual 230, 3), (26, .iload_n 2, 1), (27, .tableswitch 76 0 6 #[41, 41, 41, 48, 55, 62, 69], 41), (68, .aload_n 0, 1), (69, .iload_n 1, 1), (70, .iload_n 2, 1), (71, .invokevirtual 207, 3), (74, .ireturn, 1), (75, .aload_n 0, 1), (76, .getfield 54, 3), (79, .iload_n 1, 1), (80, .iaload, 1), (81, .ireturn, 1), (82, .aload_n 0, 1), (83, .getfield 57, 3), (86, .iload_n 1, 1), (87, .iaload, 1), (88, .ireturn, 1), (89, .aload_n 0, 1), (90, .getfield 60, 3), (93, .iload_n 1, 1), (94, .iaload, 1), (95, .ireturn, 1), (96, .aload_n 0, 1), (97, .getfield 63, 3), (100, .iload_n 1, 1), (101, .iaload, 1), (102, .ireturn, 1), (103, .sipush (-10002), 3), (106, .ireturn, 1)]
theorem kX8_vehicle_0 : iX8_vehicle_0.all (fun q => decide (decode cX8_vehicle q.1 = .ok (q.2.1, q.2.2))) = true := by decide +kernel
def iX8_connection_0 : List kI := [(0, .iload_n 1, 1), (1, .iconst 0, 1), (2, .aload_n 0, 1), (3, .getfield 7, 3), (6, .sipush 244, 3), (9, .iaload, 1), (10, .iconst 1, 1), (11, .isub, 1), (12, .invokestatic 87, 3), (15, .ifCond .ne 7, 3), (18, .sipush (-10001), 3), (21, .ireturn, 1), (22, .aload_n 0, 1), (23, .invokevirtual 230, 3), (26, .iload_n 2, 1), (27, .iconst 0, 1), (28, .iconst 3, 1), (29, .invokestatic 87, 3), (32, .ifCond .eq 12, 3), (35, .aload_n 0, 1), (36, .iload_n 1, 1), (37, .iload_n 2, 1), (38, .invokevirtual 191, 3), (41, .goto 19, 3), (44, .iload_n 2, 1), (45, .iconst 4, 1), (46, .if_icmp .ne 11, 3), (49, .aload_n 0, 1), (50, .iload_n 1, 1), (51, .invokevirtual 204, 3), (54, .goto 6, 3), (57, .sipush (-10002), 3), (60, .ireturn, 1)]
theorem kX8_connection_0 : iX8_connection_0.all (fun q => decide (decode cX8_connection q.1 = .ok (q.2.1, q.2.2))) = true := by decide +kernel
def iX8_tide_0 : List kI := [(0, .iload_n 1, 1), (1, .iconst 0, 1), (2, .bipush 48, 2), (4, .invokestatic 87, 3), (7, .ifCond .eq 14, 3), (10, .aload_n 0, 1), (11, .getfield 7, 3), (14, .iconst 0, 1), (15, .iload_n 1, 1), (16, .iadd, 1), (17, .iaload, 1), (18, .goto 6, 3), (21, .sipush (-10001), 3), (24, .ireturn, 1)]
theorem kX8_tide_0 : iX8_tide_0.all (fun q => decide (decode cX8_tide q.1 = .ok (q.2.1, q.2.2))) = true := by decide +kernel
def iX8_wind_0 : List kI := [(0, .iload_n 1, 1), (1, .iconst 0, 1), (2, .bipush 47, 2), (4, .invokestatic 87, 3), (7, .ifCond .eq 15, 3), (10, .aload_n 0, 1), (11, .getfield 7, 3), (14, .bipush 49, 2), (16, .iload_n 1, 1), (17, .iadd, 1), (18, .iaload, 1), (19, .goto 6, 3), (22, .sipush (-10001), 3), (25, .ireturn, 1)]
theorem kX8_wind_0 : iX8_wind_0.all (fun q => decide (decode cX8_wind q.1 = .ok (q.2.1, q.2.2))) = true := by decide +kernel
def iX8_height_0 : List kI := [(0, .iload_n 1, 1), (1, .iconst 0, 1), (2, .sipush 2879, 3), (5, .invokestatic 87, 3), (8, .ifCond .eq 11, 3), (11, .aload_n 0, 1), (12, .iload_n 1, 1), (13, .invokevirtual 176, 3), (16, .goto 6, 3), (19, .sipush (-10002), 3), (22, .ireturn, 1)]
theorem kX8_height_0 : iX8_height_0.all (fun q => decide (decode cX8_height q.1 = .ok (q.2.1, q.2.2))) = true := by decide +kernel
def iX8_heightBits_0 : List kI := [(0, .iload_n 1, 1), (1, .iconst 0, 1), (2, .sipush 2879, 3), (5, .invokestatic 87, 3), (8, .ifCond .eq 14, 3), (11, .aload_n 0, 1), (12, .iload_n 1, 1), (13, .invokevirtual 172, 3), (16, .invokestatic 239, 3), (19, .goto 4, 3), (22, .iconst 1, 1), (23, .ireturn, 1)]
theorem kX8_heightBits_0 : iX8_heightBits_0.all (fun q => decide (decode cX8_heightBits q.1 = .ok (q.2.1, q.2.2))) = true := by decide +kernel
def iX8_water_0 : List kI := [(0, .aload_n 0, 1), (1, .iload_n 1, 1), (2, .invokevirtual 101, 3), (5, .ifCond .ne 7, 3), (8, .sipush (-10001), 3), (11, .ireturn, 1), (12, .iload_n 2, 1), (13, .iconst 0, 1), (14, .sipush 2879, 3), (17, .invokestatic 87, 3), (20, .ifCond .eq 12, 3), (23, .aload_n 0, 1), (24, .iload_n 1, 1), (25, .iload_n 2, 1), (26, .invokevirtual 179, 3), (29, .goto 6, 3), (32, .sipush (-10002), 3), (35, .ireturn, 1)]
theorem kX8_water_0 : iX8_water_0.all (fun q => decide (decode cX8_water q.1 = .ok (q.2.1, q.2.2))) = true := by decide +kernel
def iX8_firstTime_0 : List kI := [(0, .aload_n 0, 1), (1, .iload_n 1, 1), (2, .invokevirtual 101, 3), (5, .ifCond .eq 11, 3), (8, .aload_n 0, 1), (9, .iload_n 2, 1), (10, .invokevirtual 98, 3), (13, .ifCond .ne 7, 3), (16, .sipush (-10001), 3), (19, .ireturn, 1), (20, .iload_n 3, 1), (21, .iconst 0, 1), (22, .sipush 2879, 3), (25, .invokestatic 87, 3), (28, .ifCond .ne 7, 3), (31, .sipush (-10002), 3), (34, .ireturn, 1), (35, .iload_n 3, 1), (36, .istore 4, 2), (38, .iload 4, 2), (40, .sipush 2879, 3), (43, .if_icmp .gt 23, 3), (46, .aload_n 0, 1), (47, .iload_n 2, 1), (48, .iload_n 1, 1), (49, .iload 4, 2), (51, .invokevirtual 188, 3), (54, .ifCond .eq 6, 3), (57, .iload 4, 2), (59, .ireturn, 1), (60, .iinc 4 1, 3), (63, .goto (-25), 3), (66, .sipush (-10004), 3), (69, .ireturn, 1)]
theorem kX8_firstTime_0 : iX8_firstTime_0.all (fun q => decide (decode cX8_firstTime q.1 = .ok (q.2.1, q.2.2))) = true := by decide +kernel
def iX8_isLane_0 : List kI := [(0, .aload_n 0, 1), (1, .iload_n 1, 1), (2, .invokevirtual 104, 3), (5, .ifCond .eq 28, 3), (8, .iload_n 2, 1), (9, .iconst 0, 1), (10, .aload_n 0, 1), (11, .aload_n 0, 1), (12, .iload_n 1, 1), (13, .iconst 0, 1), (14, .invokevirtual 185, 3), (17, .iconst 1, 1), (18, .invokevirtual 182, 3), (21, .iconst 1, 1), (22, .isub, 1), (23, .invokestatic 87, 3), (26, .ifCond .eq 7, 3), (29, .iconst 1, 1), (30, .goto 4, 3), (33, .iconst 0, 1), (34, .ireturn, 1)]
theorem kX8_isLane_0 : iX8_isLane_0.all (fun q => decide (decode cX8_isLane q.1 = .ok (q.2.1, q.2.2))) = true := by decide +kernel
def iX8_laneLeft_0 : List kI := [(0, .aload_n 0, 1), (1, .iload_n 1, 1), (2, .iload_n 2, 1), (3, .invokevirtual 245, 3), (6, .ifCond .ne 7, 3), (9, .sipush (-10001), 3), (12, .ireturn, 1), (13, .aload_n 0, 1), (14, .invokevirtual 230, 3), (17, .aload_n 0, 1), (18, .getfield 39, 3), (21, .iload_n 1, 1), (22, .iaload, 1), (23, .ifCond .eq 9, 3), (26, .sipush (-10005), 3), (29, .goto 13, 3), (32, .aload_n 0, 1), (33, .getfield 72, 3), (36, .iconst 4, 1), (37, .iload_n 1, 1), (38, .imul, 1), (39, .iload_n 2, 1), (40, .iadd, 1), (41, .iaload, 1), (42, .ireturn, 1)]
theorem kX8_laneLeft_0 : iX8_laneLeft_0.all (fun q => decide (decode cX8_laneLeft q.1 = .ok (q.2.1, q.2.2))) = true := by decide +kernel
def iX8_laneVehicle_0 : List kI := [(0, .aload_n 0, 1), (1, .iload_n 1, 1), (2, .iload_n 2, 1), (3, .invokevirtual 245, 3), (6, .ifCond .ne 7, 3), (9, .sipush (-10001), 3), (12, .ireturn, 1), (13, .aload_n 0, 1), (14, .invokevirtual 230, 3), (17, .iconst 4, 1), (18, .iload_n 1, 1), (19, .imul, 1), (20, .iload_n 2, 1), (21, .iadd, 1), (22, .istore 4, 2), (24, .iload_n 3, 1), (25, .iconst 0, 1), (26, .aload_n 0, 1), (27, .getfield 66, 3), (30, .iload 4, 2), (32, .iaload, 1), (33, .iconst 1, 1), (34, .isub, 1), (35, .invokestatic 87, 3), (38, .ifCond .eq 18, 3), (41, .aload_n 0, 1), (42, .getfield 69, 3), (45, .bipush 24, 2), (47, .iload 4, 2), (49, .imul, 1), (50, .iload_n 3, 1), (51, .iadd, 1), (52, .iaload, 1), (53, .goto 6, 3), (56, .sipush (-10004), 3), (59, .ireturn, 1)]
theorem kX8_laneVehicle_0 : iX8_laneVehicle_0.all (fun q => decide (decode cX8_laneVehicle q.1 = .ok (q.2.1, q.2.2))) = true := by decide +kernel
def iX8_tellLeaving_0 : List kI := [(0, .aload_n 0, 1), (1, .iconst 0, 1), (2, .putfield 248, 3), (5, .aload_n 0, 1), (6, .aload_n 0, 1), (7, .iload_n 1, 1), (8, .iconst 1, 1), (9, .invokevirtual 185, 3), (12, .iconst 1, 1), (13, .invokevirtual 136, 3), (16, .iconst 1, 1), (17, .if_icmp .ne 7, 3), (20, .iconst 1, 1), (21, .goto 4, 3), (24, .iconst 0, 1), (25, .istore_n 2, 1), (26, .iconst 0, 1), (27, .istore_n 3, 1), (28, .iload_n 3, 1), (29, .iconst 4, 1), (30, .if_icmp .ge 16, 3), (33, .aload_n 0, 1), (34, .getfield 78, 3), (37, .iload_n 3, 1), (38, .iconst 0, 1), (39, .iastore, 1), (40, .iinc 3 1, 3), (43, .goto (-15), 3), (46, .iconst 0, 1), (47, .istore_n 3, 1), (48, .iload_n 3, 1), (49, .bipush 6, 2), (51, .if_icmp .ge 159, 3), (54, .iconst 0, 1), (55, .istore 4, 2), (57, .iload 4, 2), (59, .iconst 4, 1), (60, .if_icmp .ge 144, 3), (63, .iconst 4, 1), (64, .iload_n 1, 1), (65, .imul, 1), (66, .iload 4, 2), (68, .iadd, 1), (69, .istore 5, 2), (71, .iconst 1, 1), (72, .istore 6, 2), (74, .iload 6, 2), (76, .ifCond .eq 122, 3), (79, .aload_n 0, 1), (80, .getfield 78, 3), (83, .iload 4, 2), (85, .iaload, 1), (86, .aload_n 0, 1), (87, .getfield 66, 3), (90, .iload 5, 2), (92, .iaload, 1), (93, .if_icmp .ge 105, 3), (96, .aload_n 0, 1), (97, .getfield 69, 3), (100, .bipush 24, 2)]
theorem kX8_tellLeaving_0 : iX8_tellLeaving_0.all (fun q => decide (decode cX8_tellLeaving q.1 = .ok (q.2.1, q.2.2))) = true := by decide +kernel
def iX8_tellLeaving_1 : List kI := [(102, .iload 5, 2), (104, .imul, 1), (105, .iload_n 2, 1), (106, .ifCond .eq 23, 3), (109, .aload_n 0, 1), (110, .getfield 66, 3), (113, .iload 5, 2), (115, .iaload, 1), (116, .iconst 1, 1), (117, .isub, 1), (118, .aload_n 0, 1), (119, .getfield 78, 3), (122, .iload 4, 2), (124, .iaload, 1), (125, .isub, 1), (126, .goto 10, 3), (129, .aload_n 0, 1), (130, .getfield 78, 3), (133, .iload 4, 2), (135, .iaload, 1), (136, .iadd, 1), (137, .iaload, 1), (138, .istore 7, 2), (140, .aload_n 0, 1), (141, .iload 7, 2), (143, .iconst 2, 1), (144, .invokevirtual 207, 3), (147, .iload_n 3, 1), (148, .if_icmp .ne 7, 3), (151, .iconst 1, 1), (152, .goto 4, 3), (155, .iconst 0, 1), (156, .istore 6, 2), (158, .iload 6, 2), (160, .ifCond .eq 35, 3), (163, .aload_n 0, 1), (164, .getfield 75, 3), (167, .aload_n 0, 1), (168, .getfield 248, 3), (171, .iload 7, 2), (173, .iastore, 1), (174, .aload_n 0, 1), (175, .dup, 1), (176, .getfield 248, 3), (179, .iconst 1, 1), (180, .iadd, 1), (181, .putfield 248, 3), (184, .aload_n 0, 1), (185, .getfield 78, 3), (188, .iload 4, 2), (190, .dup2, 1), (191, .iaload, 1), (192, .iconst 1, 1), (193, .iadd, 1), (194, .iastore, 1), (195, .goto (-121), 3), (198, .iinc 4 1, 3), (201, .goto (-144), 3), (204, .iinc 3 1, 3), (207, .goto (-159), 3)]
theorem kX8_tellLeaving_1 : iX8_tellLeaving_1.all (fun q => decide (decode cX8_tellLeaving q.1 = .ok (q.2.1, q.2.2))) = true := by decide +kernel
def iX8_tellLeaving_2 : List kI := [(210, .return_, 1)]
theorem kX8_tellLeaving_2 : iX8_tellLeaving_2.all (fun q => decide (decode cX8_tellLeaving q.1 = .ok (q.2.1, q.2.2))) = true := by decide +kernel
def iX8_leaves_0 : List kI := [(0, .aload_n 0, 1), (1, .iload_n 1, 1), (2, .invokevirtual 104, 3), (5, .ifCond .ne 7, 3), (8, .sipush (-10001), 3), (11, .ireturn, 1), (12, .aload_n 0, 1), (13, .invokevirtual 230, 3), (16, .aload_n 0, 1), (17, .iload_n 1, 1), (18, .invokevirtual 251, 3), (21, .iload_n 2, 1), (22, .iconst 0, 1), (23, .aload_n 0, 1), (24, .getfield 248, 3), (27, .iconst 1, 1), (28, .isub, 1), (29, .invokestatic 87, 3), (32, .ifCond .eq 12, 3), (35, .aload_n 0, 1), (36, .getfield 75, 3), (39, .iload_n 2, 1), (40, .iaload, 1), (41, .goto 6, 3), (44, .sipush (-10004), 3), (47, .ireturn, 1)]
theorem kX8_leaves_0 : iX8_leaves_0.all (fun q => decide (decode cX8_leaves q.1 = .ok (q.2.1, q.2.2))) = true := by decide +kernel
def iX8_isOrderly_0 : List kI := [(0, .aload_n 0, 1), (1, .invokevirtual 230, 3), (4, .iconst 1, 1), (5, .istore_n 1, 1), (6, .iconst 0, 1), (7, .istore_n 2, 1), (8, .iload_n 2, 1), (9, .aload_n 0, 1), (10, .getfield 7, 3), (13, .bipush 122, 2), (15, .iaload, 1), (16, .if_icmp .ge 72, 3), (19, .aload_n 0, 1), (20, .iload_n 2, 1), (21, .invokevirtual 251, 3), (24, .iload_n 1, 1), (25, .ifCond .eq 19, 3), (28, .aload_n 0, 1), (29, .getfield 248, 3), (32, .aload_n 0, 1), (33, .iload_n 2, 1), (34, .invokevirtual 236, 3), (37, .if_icmp .ne 7, 3), (40, .iconst 1, 1), (41, .goto 4, 3), (44, .iconst 0, 1), (45, .istore_n 1, 1), (46, .iconst 0, 1), (47, .istore_n 3, 1), (48, .iload_n 3, 1), (49, .iconst 4, 1), (50, .if_icmp .ge 32, 3), (53, .iload_n 1, 1), (54, .ifCond .eq 20, 3), (57, .aload_n 0, 1), (58, .getfield 72, 3), (61, .iconst 4, 1), (62, .iload_n 2, 1), (63, .imul, 1), (64, .iload_n 3, 1), (65, .iadd, 1), (66, .iaload, 1), (67, .ifCond .lt 7, 3), (70, .iconst 1, 1), (71, .goto 4, 3), (74, .iconst 0, 1), (75, .istore_n 1, 1), (76, .iinc 3 1, 3), (79, .goto (-31), 3), (82, .iinc 2 1, 3), (85, .goto (-77), 3), (88, .iload_n 1, 1), (89, .ifCond .eq 7, 3), (92, .iconst 1, 1), (93, .goto 4, 3), (96, .iconst 0, 1), (97, .ireturn, 1)]
theorem kX8_isOrderly_0 : iX8_isOrderly_0.all (fun q => decide (decode cX8_isOrderly q.1 = .ok (q.2.1, q.2.2))) = true := by decide +kernel
def iX8_meters_0 : List kI := [(0, .iconst 0, 1), (1, .istore_n 1, 1), (2, .iconst 0, 1), (3, .istore_n 2, 1), (4, .iload_n 2, 1), (5, .aload_n 0, 1), (6, .getfield 7, 3), (9, .sipush 171, 3), (12, .iaload, 1), (13, .if_icmp .ge 34, 3), (16, .iload_n 1, 1), (17, .aload_n 0, 1), (18, .getfield 54, 3), (21, .iload_n 2, 1), (22, .iaload, 1), (23, .sipush (-10004), 3), (26, .if_icmp .ne 7, 3), (29, .iconst 0, 1), (30, .goto 9, 3), (33, .aload_n 0, 1), (34, .iload_n 2, 1), (35, .iconst 1, 1), (36, .invokevirtual 207, 3), (39, .iadd, 1), (40, .istore_n 1, 1), (41, .iinc 2 1, 3), (44, .goto (-40), 3), (47, .iload_n 1, 1), (48, .ireturn, 1)]
theorem kX8_meters_0 : iX8_meters_0.all (fun q => decide (decode cX8_meters q.1 = .ok (q.2.1, q.2.2))) = true := by decide +kernel
def iX8_laneMeters_0 : List kI := [(0, .iconst 0, 1), (1, .istore_n 1, 1), (2, .iconst 0, 1), (3, .istore_n 2, 1), (4, .iload_n 2, 1), (5, .aload_n 0, 1), (6, .getfield 7, 3), (9, .bipush 122, 2), (11, .iaload, 1), (12, .if_icmp .ge 48, 3), (15, .iload_n 1, 1), (16, .aload_n 0, 1), (17, .getfield 39, 3), (20, .iload_n 2, 1), (21, .iaload, 1), (22, .ifCond .ne 29, 3), (25, .aload_n 0, 1), (26, .aload_n 0, 1), (27, .iload_n 2, 1), (28, .iconst 0, 1), (29, .invokevirtual 185, 3), (32, .iconst 1, 1), (33, .invokevirtual 182, 3), (36, .aload_n 0, 1), (37, .aload_n 0, 1), (38, .iload_n 2, 1), (39, .iconst 0, 1), (40, .invokevirtual 185, 3), (43, .iconst 2, 1), (44, .invokevirtual 182, 3), (47, .imul, 1), (48, .goto 4, 3), (51, .iconst 0, 1), (52, .iadd, 1), (53, .istore_n 1, 1), (54, .iinc 2 1, 3), (57, .goto (-53), 3), (60, .iload_n 1, 1), (61, .ireturn, 1)]
theorem kX8_laneMeters_0 : iX8_laneMeters_0.all (fun q => decide (decode cX8_laneMeters q.1 = .ok (q.2.1, q.2.2))) = true := by decide +kernel
def iX8_passengers_0 : List kI := [(0, .iconst 0, 1), (1, .istore_n 2, 1), (2, .iconst 0, 1), (3, .istore_n 3, 1), (4, .iload_n 3, 1), (5, .aload_n 0, 1), (6, .getfield 7, 3), (9, .sipush 244, 3), (12, .iaload, 1), (13, .if_icmp .ge 40, 3), (16, .iload_n 2, 1), (17, .aload_n 0, 1), (18, .iload_n 3, 1), (19, .invokevirtual 204, 3), (22, .iconst 2, 1), (23, .if_icmp .eq 7, 3), (26, .iconst 1, 1), (27, .goto 4, 3), (30, .iconst 0, 1), (31, .iload_n 1, 1), (32, .if_icmp .ne 12, 3), (35, .aload_n 0, 1), (36, .iload_n 3, 1), (37, .iconst 3, 1), (38, .invokevirtual 191, 3), (41, .goto 4, 3), (44, .iconst 0, 1), (45, .iadd, 1), (46, .istore_n 2, 1), (47, .iinc 3 1, 3), (50, .goto (-46), 3), (53, .iload_n 2, 1), (54, .ireturn, 1)]
theorem kX8_passengers_0 : iX8_passengers_0.all (fun q => decide (decode cX8_passengers q.1 = .ok (q.2.1, q.2.2))) = true := by decide +kernel
def iX8_allAboard_0 : List kI := [(0, .iconst 0, 1), (1, .istore_n 1, 1), (2, .iconst 0, 1), (3, .istore_n 2, 1), (4, .iload_n 2, 1), (5, .aload_n 0, 1), (6, .getfield 7, 3), (9, .sipush 171, 3), (12, .iaload, 1), (13, .if_icmp .ge 29, 3), (16, .iload_n 1, 1), (17, .aload_n 0, 1), (18, .getfield 54, 3), (21, .iload_n 2, 1), (22, .iaload, 1), (23, .sipush (-10004), 3), (26, .if_icmp .ne 7, 3), (29, .iconst 0, 1), (30, .goto 4, 3), (33, .iconst 1, 1), (34, .iadd, 1), (35, .istore_n 1, 1), (36, .iinc 2 1, 3), (39, .goto (-35), 3), (42, .iload_n 1, 1), (43, .ireturn, 1)]
theorem kX8_allAboard_0 : iX8_allAboard_0.all (fun q => decide (decode cX8_allAboard q.1 = .ok (q.2.1, q.2.2))) = true := by decide +kernel
def iX8_account_0 : List kI := [(0, .aload_n 0, 1), (1, .iconst 2, 1), (2, .iconst 0, 1), (3, .invokevirtual 233, 3), (6, .istore_n 2, 1), (7, .iconst 0, 1), (8, .istore_n 3, 1), (9, .iload_n 1, 1), (10, .tableswitch 174 0 9 #[54, 56, 66, 72, 78, 83, 97, 130, 135, 140], 54), (64, .iload_n 2, 1), (65, .ireturn, 1), (66, .aload_n 0, 1), (67, .getfield 7, 3), (70, .bipush 122, 2), (72, .iaload, 1), (73, .iload_n 2, 1), (74, .isub, 1), (75, .ireturn, 1), (76, .aload_n 0, 1), (77, .iconst 1, 1), (78, .invokevirtual 254, 3), (81, .ireturn, 1), (82, .aload_n 0, 1), (83, .iconst 0, 1), (84, .invokevirtual 254, 3), (87, .ireturn, 1), (88, .aload_n 0, 1), (89, .invokevirtual 258, 3), (92, .ireturn, 1), (93, .aload_n 0, 1), (94, .getfield 7, 3), (97, .sipush 171, 3), (100, .iaload, 1), (101, .aload_n 0, 1), (102, .invokevirtual 258, 3), (105, .isub, 1), (106, .ireturn, 1), (107, .iconst 0, 1), (108, .istore 4, 2), (110, .iload 4, 2), (112, .aload_n 0, 1), (113, .getfield 7, 3), (116, .bipush 122, 2), (118, .iaload, 1), (119, .if_icmp .ge 19, 3), (122, .iload_n 3, 1), (123, .aload_n 0, 1), (124, .getfield 45, 3), (127, .iload 4, 2), (129, .iaload, 1), (130, .iadd, 1), (131, .istore_n 3, 1), (132, .iinc 4 1, 3), (135, .goto (-25), 3), (138, .iload_n 3, 1), (139, .ireturn, 1), (140, .aload_n 0, 1), (141, .invokevirtual 261, 3), (144, .ireturn, 1), (145, .aload_n 0, 1)]
theorem kX8_account_0 : iX8_account_0.all (fun q => decide (decode cX8_account q.1 = .ok (q.2.1, q.2.2))) = true := by decide +kernel
def iX8_account_1 : List kI := [(146, .invokevirtual 264, 3), (149, .ireturn, 1), (150, .iconst 0, 1), (151, .istore 4, 2), (153, .iload 4, 2), (155, .aload_n 0, 1), (156, .getfield 7, 3), (159, .sipush 171, 3), (162, .iaload, 1), (163, .if_icmp .ge 19, 3), (166, .iload_n 3, 1), (167, .aload_n 0, 1), (168, .getfield 63, 3), (171, .iload 4, 2), (173, .iaload, 1), (174, .iadd, 1), (175, .istore_n 3, 1), (176, .iinc 4 1, 3), (179, .goto (-26), 3), (182, .iload_n 3, 1), (183, .ireturn, 1), (184, .sipush (-10002), 3), (187, .ireturn, 1)]
theorem kX8_account_1 : iX8_account_1.all (fun q => decide (decode cX8_account q.1 = .ok (q.2.1, q.2.2))) = true := by decide +kernel
def iX8_loadBits_0 : List kI := [(0, .aload_n 0, 1), (1, .iconst 2, 1), (2, .iconst 0, 1), (3, .invokevirtual 233, 3), (6, .ifCond .ne 9, 3), (9, .sipush (-10004), 3), (12, .goto 17, 3), (15, .aload_n 0, 1), (16, .invokevirtual 261, 3), (19, .i2f, 1), (20, .aload_n 0, 1), (21, .invokevirtual 264, 3), (24, .i2f, 1), (25, .fdiv, 1), (26, .invokestatic 239, 3), (29, .ireturn, 1)]
theorem kX8_loadBits_0 : iX8_loadBits_0.all (fun q => decide (decode cX8_loadBits q.1 = .ok (q.2.1, q.2.2))) = true := by decide +kernel
def iX8_sailingIf_0 : List kI := [(0, .iload_n 1, 1), (1, .iconst 0, 1), (2, .sipush 200, 3), (5, .invokestatic 87, 3), (8, .ifCond .ne 7, 3), (11, .sipush (-10002), 3), (14, .ireturn, 1), (15, .aload_n 0, 1), (16, .getfield 7, 3), (19, .bipush 97, 2), (21, .iaload, 1), (22, .istore_n 2, 1), (23, .aload_n 0, 1), (24, .getfield 7, 3), (27, .bipush 97, 2), (29, .iload_n 1, 1), (30, .iastore, 1), (31, .aload_n 0, 1), (32, .iconst 2, 1), (33, .iconst 0, 1), (34, .invokevirtual 233, 3), (37, .istore_n 3, 1), (38, .aload_n 0, 1), (39, .getfield 7, 3), (42, .bipush 97, 2), (44, .iload_n 2, 1), (45, .iastore, 1), (46, .iload_n 3, 1), (47, .ireturn, 1)]
theorem kX8_sailingIf_0 : iX8_sailingIf_0.all (fun q => decide (decode cX8_sailingIf q.1 = .ok (q.2.1, q.2.2))) = true := by decide +kernel
def iX8_bestBerth_0 : List kI := [(0, .aload_n 0, 1), (1, .iload_n 1, 1), (2, .invokevirtual 104, 3), (5, .ifCond .ne 7, 3), (8, .sipush (-10001), 3), (11, .ireturn, 1), (12, .aload_n 0, 1), (13, .iload_n 1, 1), (14, .iconst 1, 1), (15, .invokevirtual 185, 3), (18, .istore_n 2, 1), (19, .iconst (-1), 1), (20, .istore_n 3, 1), (21, .iconst (-1), 1), (22, .istore 4, 2), (24, .iconst 0, 1), (25, .istore 5, 2), (27, .iload 5, 2), (29, .aload_n 0, 1), (30, .getfield 7, 3), (33, .bipush 115, 2), (35, .iaload, 1), (36, .if_icmp .ge 46, 3), (39, .aload_n 0, 1), (40, .getfield 7, 3), (43, .bipush 123, 2), (45, .iconst 4, 1), (46, .iload_n 1, 1), (47, .imul, 1), (48, .iadd, 1), (49, .iconst 1, 1), (50, .iadd, 1), (51, .iload 5, 2), (53, .iastore, 1), (54, .aload_n 0, 1), (55, .invokevirtual 230, 3), (58, .aload_n 0, 1), (59, .invokevirtual 258, 3), (62, .iload 4, 2), (64, .if_icmp .le 12, 3), (67, .aload_n 0, 1), (68, .invokevirtual 258, 3), (71, .istore 4, 2), (73, .iload 5, 2), (75, .istore_n 3, 1), (76, .iinc 5 1, 3), (79, .goto (-52), 3), (82, .aload_n 0, 1), (83, .getfield 7, 3), (86, .bipush 123, 2), (88, .iconst 4, 1), (89, .iload_n 1, 1), (90, .imul, 1), (91, .iadd, 1), (92, .iconst 1, 1), (93, .iadd, 1), (94, .iload_n 2, 1), (95, .iastore, 1), (96, .iload_n 3, 1), (97, .ireturn, 1)]
theorem kX8_bestBerth_0 : iX8_bestBerth_0.all (fun q => decide (decode cX8_bestBerth q.1 = .ok (q.2.1, q.2.2))) = true := by decide +kernel
def iX8_isPlace_0 : List kI := [(0, .iload_n 0, 1), (1, .iconst 0, 1), (2, .iconst 2, 1), (3, .invokestatic 87, 3), (6, .ifCond .eq 16, 3), (9, .iload_n 1, 1), (10, .iconst 0, 1), (11, .iconst 2, 1), (12, .invokestatic 87, 3), (15, .ifCond .eq 7, 3), (18, .iconst 1, 1), (19, .goto 4, 3), (22, .iconst 0, 1), (23, .ireturn, 1)]
theorem kX8_isPlace_0 : iX8_isPlace_0.all (fun q => decide (decode cX8_isPlace q.1 = .ok (q.2.1, q.2.2))) = true := by decide +kernel
def iX8_layDown_0 : List kI := [(0, .iload_n 1, 1), (1, .iload_n 2, 1), (2, .invokestatic 267, 3), (5, .ifCond .ne 7, 3), (8, .sipush (-10001), 3), (11, .ireturn, 1), (12, .iload_n 3, 1), (13, .iconst 0, 1), (14, .iconst 1, 1), (15, .invokestatic 87, 3), (18, .ifCond .ne 7, 3), (21, .sipush (-10002), 3), (24, .ireturn, 1), (25, .iload_n 3, 1), (26, .ifCond .ne 15, 3), (29, .aload_n 0, 1), (30, .iload 4, 2), (32, .invokevirtual 98, 3), (35, .ifCond .eq 15, 3), (38, .goto 16, 3), (41, .aload_n 0, 1), (42, .iload 4, 2), (44, .invokevirtual 101, 3), (47, .ifCond .ne 7, 3), (50, .sipush (-10001), 3), (53, .ireturn, 1), (54, .iload_n 1, 1), (55, .iconst 2, 1), (56, .if_icmp .eq 12, 3), (59, .iload_n 1, 1), (60, .iload_n 3, 1), (61, .if_icmp .eq 7, 3), (64, .sipush (-10006), 3), (67, .ireturn, 1), (68, .iconst 3, 1), (69, .iload_n 1, 1), (70, .imul, 1), (71, .iload_n 2, 1), (72, .iadd, 1), (73, .istore 5, 2), (75, .aload_n 0, 1), (76, .getfield 81, 3), (79, .iload 5, 2), (81, .iload_n 3, 1), (82, .iastore, 1), (83, .iconst 0, 1), (84, .istore 6, 2), (86, .iload 6, 2), (88, .iload_n 3, 1), (89, .ifCond .ne 7, 3), (92, .iconst 4, 1), (93, .goto 4, 3), (96, .iconst 2, 1), (97, .if_icmp .ge 44, 3), (100, .aload_n 0, 1), (101, .getfield 84, 3), (104, .iconst 4, 1), (105, .iload 5, 2), (107, .imul, 1), (108, .iload 6, 2)]
theorem kX8_layDown_0 : iX8_layDown_0.all (fun q => decide (decode cX8_layDown q.1 = .ok (q.2.1, q.2.2))) = true := by decide +kernel
def iX8_layDown_1 : List kI := [(110, .iadd, 1), (111, .iload_n 3, 1), (112, .ifCond .ne 14, 3), (115, .aload_n 0, 1), (116, .iload 4, 2), (118, .iload 6, 2), (120, .invokevirtual 182, 3), (123, .goto 11, 3), (126, .aload_n 0, 1), (127, .iload 4, 2), (129, .iload 6, 2), (131, .invokevirtual 136, 3), (134, .iastore, 1), (135, .iinc 6 1, 3), (138, .goto (-52), 3), (141, .iconst 0, 1), (142, .istore 6, 2), (144, .iconst 0, 1), (145, .istore 7, 2), (147, .iload 7, 2), (149, .iconst 3, 1), (150, .if_icmp .ge 33, 3), (153, .iload 6, 2), (155, .aload_n 0, 1), (156, .getfield 81, 3), (159, .iconst 3, 1), (160, .iload_n 1, 1), (161, .imul, 1), (162, .iload 7, 2), (164, .iadd, 1), (165, .iaload, 1), (166, .ifCond .lt 7, 3), (169, .iconst 1, 1), (170, .goto 4, 3), (173, .iconst 0, 1), (174, .iadd, 1), (175, .istore 6, 2), (177, .iinc 7 1, 3), (180, .goto (-33), 3), (183, .iload 6, 2), (185, .ireturn, 1)]
theorem kX8_layDown_1 : iX8_layDown_1.all (fun q => decide (decode cX8_layDown q.1 = .ok (q.2.1, q.2.2))) = true := by decide +kernel
def iX8_takeOut_0 : List kI := [(0, .iload_n 1, 1), (1, .iload_n 2, 1), (2, .invokestatic 267, 3), (5, .ifCond .ne 7, 3), (8, .sipush (-10001), 3), (11, .ireturn, 1), (12, .iconst 3, 1), (13, .iload_n 1, 1), (14, .imul, 1), (15, .iload_n 2, 1), (16, .iadd, 1), (17, .istore_n 3, 1), (18, .aload_n 0, 1), (19, .getfield 81, 3), (22, .iload_n 3, 1), (23, .iaload, 1), (24, .iconst (-1), 1), (25, .if_icmp .ne 7, 3), (28, .sipush (-10004), 3), (31, .ireturn, 1), (32, .aload_n 0, 1), (33, .invokevirtual 107, 3), (36, .aload_n 0, 1), (37, .aload_n 0, 1), (38, .getfield 81, 3), (41, .iload_n 3, 1), (42, .iaload, 1), (43, .ifCond .ne 48, 3), (46, .aload_n 0, 1), (47, .aload_n 0, 1), (48, .getfield 84, 3), (51, .iconst 4, 1), (52, .iload_n 3, 1), (53, .imul, 1), (54, .iaload, 1), (55, .aload_n 0, 1), (56, .getfield 84, 3), (59, .iconst 4, 1), (60, .iload_n 3, 1), (61, .imul, 1), (62, .iconst 1, 1), (63, .iadd, 1), (64, .iaload, 1), (65, .aload_n 0, 1), (66, .getfield 84, 3), (69, .iconst 4, 1), (70, .iload_n 3, 1), (71, .imul, 1), (72, .iconst 2, 1), (73, .iadd, 1), (74, .iaload, 1), (75, .aload_n 0, 1), (76, .getfield 84, 3), (79, .iconst 4, 1), (80, .iload_n 3, 1), (81, .imul, 1), (82, .iconst 3, 1), (83, .iadd, 1), (84, .iaload, 1), (85, .invokevirtual 110, 3)]
theorem kX8_takeOut_0 : iX8_takeOut_0.all (fun q => decide (decode cX8_takeOut q.1 = .ok (q.2.1, q.2.2))) = true := by decide +kernel
def iX8_takeOut_1 : List kI := [(88, .goto 25, 3), (91, .aload_n 0, 1), (92, .aload_n 0, 1), (93, .getfield 84, 3), (96, .iconst 4, 1), (97, .iload_n 3, 1), (98, .imul, 1), (99, .iaload, 1), (100, .aload_n 0, 1), (101, .getfield 84, 3), (104, .iconst 4, 1), (105, .iload_n 3, 1), (106, .imul, 1), (107, .iconst 1, 1), (108, .iadd, 1), (109, .iaload, 1), (110, .invokevirtual 118, 3), (113, .invokevirtual 114, 3), (116, .ireturn, 1)]
theorem kX8_takeOut_1 : iX8_takeOut_1.all (fun q => decide (decode cX8_takeOut q.1 = .ok (q.2.1, q.2.2))) = true := by decide +kernel
def iX8_lying_0 : List kI := [(0, .iload_n 1, 1), (1, .iload_n 2, 1), (2, .invokestatic 267, 3), (5, .ifCond .ne 7, 3), (8, .sipush (-10001), 3), (11, .ireturn, 1), (12, .aload_n 0, 1), (13, .getfield 81, 3), (16, .iconst 3, 1), (17, .iload_n 1, 1), (18, .imul, 1), (19, .iload_n 2, 1), (20, .iadd, 1), (21, .iaload, 1), (22, .istore_n 3, 1), (23, .iload_n 3, 1), (24, .iconst (-1), 1), (25, .if_icmp .ne 9, 3), (28, .sipush (-10004), 3), (31, .goto 4, 3), (34, .iload_n 3, 1), (35, .ireturn, 1)]
theorem kX8_lying_0 : iX8_lying_0.all (fun q => decide (decode cX8_lying q.1 = .ok (q.2.1, q.2.2))) = true := by decide +kernel
def iX8_save_0 : List kI := [(0, .aload_n 0, 1), (1, .iconst 1, 1), (2, .putfield 270, 3), (5, .iconst 0, 1), (6, .istore_n 1, 1), (7, .iload_n 1, 1), (8, .sipush 277, 3), (11, .if_icmp .ge 21, 3), (14, .aload_n 0, 1), (15, .getfield 19, 3), (18, .iload_n 1, 1), (19, .aload_n 0, 1), (20, .getfield 7, 3), (23, .iload_n 1, 1), (24, .iaload, 1), (25, .iastore, 1), (26, .iinc 1 1, 3), (29, .goto (-22), 3), (32, .aload_n 0, 1), (33, .getfield 7, 3), (36, .bipush 122, 2), (38, .iaload, 1), (39, .ireturn, 1)]
theorem kX8_save_0 : iX8_save_0.all (fun q => decide (decode cX8_save q.1 = .ok (q.2.1, q.2.2))) = true := by decide +kernel
def iX8_restore_0 : List kI := [(0, .aload_n 0, 1), (1, .getfield 270, 3), (4, .ifCond .ne 7, 3), (7, .sipush (-10005), 3), (10, .ireturn, 1), (11, .iconst 0, 1), (12, .istore_n 1, 1), (13, .iload_n 1, 1), (14, .sipush 277, 3), (17, .if_icmp .ge 21, 3), (20, .aload_n 0, 1), (21, .getfield 7, 3), (24, .iload_n 1, 1), (25, .aload_n 0, 1), (26, .getfield 19, 3), (29, .iload_n 1, 1), (30, .iaload, 1), (31, .iastore, 1), (32, .iinc 1 1, 3), (35, .goto (-22), 3), (38, .aload_n 0, 1), (39, .iconst 0, 1), (40, .putfield 95, 3), (43, .aload_n 0, 1), (44, .getfield 7, 3), (47, .bipush 122, 2), (49, .iaload, 1), (50, .ireturn, 1)]
theorem kX8_restore_0 : iX8_restore_0.all (fun q => decide (decode cX8_restore q.1 = .ok (q.2.1, q.2.2))) = true := by decide +kernel
def iJxf58ca_isNaN_12338_0 : List kI := [(0, .fload_n 0, 1), (1, .fload_n 0, 1), (2, .fcmp .l, 1), (3, .ifCond .eq 7, 3), (6, .iconst 1, 1), (7, .goto 4, 3), (10, .iconst 0, 1), (11, .ireturn, 1)]
theorem kJxf58ca_isNaN_12338_0 : iJxf58ca_isNaN_12338_0.all (fun q => decide (decode cJxf58ca_isNaN_12338 q.1 = .ok (q.2.1, q.2.2))) = true := by decide +kernel
def iJxf58ca_floatToIntBits_5c35a_0 : List kI := [(0, .fload_n 0, 1), (1, .invokestatic 59, 3), (4, .ifCond .ne 8, 3), (7, .fload_n 0, 1), (8, .invokestatic 74, 3), (11, .ireturn, 1), (12, .ldc 77, 2), (14, .ireturn, 1)]
theorem kJxf58ca_floatToIntBits_5c35a_0 : iJxf58ca_floatToIntBits_5c35a_0.all (fun q => decide (decode cJxf58ca_floatToIntBits_5c35a q.1 = .ok (q.2.1, q.2.2))) = true := by decide +kernel
def iJ9_max_7cf53_0 : List kI := [(0, .iload_n 0, 1), (1, .iload_n 1, 1), (2, .if_icmp .lt 7, 3), (5, .iload_n 0, 1), (6, .goto 4, 3), (9, .iload_n 1, 1), (10, .ireturn, 1)]
theorem kJ9_max_7cf53_0 : iJ9_max_7cf53_0.all (fun q => decide (decode cJ9_max_7cf53 q.1 = .ok (q.2.1, q.2.2))) = true := by decide +kernel
def iJ9_min_7cf53_0 : List kI := [(0, .iload_n 0, 1), (1, .iload_n 1, 1), (2, .if_icmp .gt 7, 3), (5, .iload_n 0, 1), (6, .goto 4, 3), (9, .iload_n 1, 1), (10, .ireturn, 1)]
theorem kJ9_min_7cf53_0 : iJ9_min_7cf53_0.all (fun q => decide (decode cJ9_min_7cf53 q.1 = .ok (q.2.1, q.2.2))) = true := by decide +kernel
def iL_law_0 : List kI := [(0, .new 7, 3), (3, .dup, 1), (4, .invokespecial 9, 3), (7, .astore_n 1, 1), (8, .new 10, 3), (11, .dup, 1), (12, .invokespecial 12, 3), (15, .astore_n 2, 1), (16, .iconst 0, 1), (17, .istore_n 3, 1), (18, .iload_n 3, 1), (19, .aload_n 0, 1), (20, .arraylength, 1), (21, .iconst 5, 1), (22, .isub, 1), (23, .if_icmp .gt 1371, 3), (26, .aload_n 0, 1), (27, .iload_n 3, 1), (28, .iaload, 1), (29, .bipush 63, 2), (31, .iand, 1), (32, .tableswitch 1356 0 39 #[176, 229, 262, 315, 358, 411, 434, 477, 510, 543, 566, 589, 602, 615, 628, 651, 684, 717, 750, 773, 806, 839, 862, 885, 908, 931, 964, 1007, 1040, 1083, 1116, 1129, 1152, 1165, 1188, 1211, 1264, 1297, 1330, 1343], 176), (208, .aload_n 1, 1), (209, .aload_n 0, 1), (210, .iload_n 3, 1), (211, .iconst 1, 1), (212, .iadd, 1), (213, .iaload, 1), (214, .aload_n 0, 1), (215, .iload_n 3, 1), (216, .iconst 2, 1), (217, .iadd, 1), (218, .iaload, 1), (219, .aload_n 0, 1), (220, .iload_n 3, 1), (221, .iconst 3, 1), (222, .iadd, 1), (223, .iaload, 1), (224, .aload_n 0, 1), (225, .iload_n 3, 1), (226, .iconst 4, 1), (227, .iadd, 1), (228, .iaload, 1), (229, .invokevirtual 13, 3), (232, .aload_n 2, 1), (233, .aload_n 0, 1), (234, .iload_n 3, 1), (235, .iconst 1, 1), (236, .iadd, 1), (237, .iaload, 1), (238, .aload_n 0, 1), (239, .iload_n 3, 1), (240, .iconst 2, 1), (241, .iadd, 1), (242, .iaload, 1), (243, .aload_n 0, 1), (244, .iload_n 3, 1), (245, .iconst 3, 1), (246, .iadd, 1), (247, .iaload, 1)]
theorem kL_law_0 : iL_law_0.all (fun q => decide (decode cL_law q.1 = .ok (q.2.1, q.2.2))) = true := by decide +kernel
def iL_law_1 : List kI := [(248, .aload_n 0, 1), (249, .iload_n 3, 1), (250, .iconst 4, 1), (251, .iadd, 1), (252, .iaload, 1), (253, .invokevirtual 17, 3), (256, .if_icmp .eq 1132, 3), (259, .iconst 0, 1), (260, .ireturn, 1), (261, .aload_n 1, 1), (262, .aload_n 0, 1), (263, .iload_n 3, 1), (264, .iconst 1, 1), (265, .iadd, 1), (266, .iaload, 1), (267, .aload_n 0, 1), (268, .iload_n 3, 1), (269, .iconst 2, 1), (270, .iadd, 1), (271, .iaload, 1), (272, .invokevirtual 18, 3), (275, .aload_n 2, 1), (276, .aload_n 0, 1), (277, .iload_n 3, 1), (278, .iconst 1, 1), (279, .iadd, 1), (280, .iaload, 1), (281, .aload_n 0, 1), (282, .iload_n 3, 1), (283, .iconst 2, 1), (284, .iadd, 1), (285, .iaload, 1), (286, .invokevirtual 22, 3), (289, .if_icmp .eq 1099, 3), (292, .iconst 0, 1), (293, .ireturn, 1), (294, .aload_n 1, 1), (295, .aload_n 0, 1), (296, .iload_n 3, 1), (297, .iconst 1, 1), (298, .iadd, 1), (299, .iaload, 1), (300, .aload_n 0, 1), (301, .iload_n 3, 1), (302, .iconst 2, 1), (303, .iadd, 1), (304, .iaload, 1), (305, .aload_n 0, 1), (306, .iload_n 3, 1), (307, .iconst 3, 1), (308, .iadd, 1), (309, .iaload, 1), (310, .aload_n 0, 1), (311, .iload_n 3, 1), (312, .iconst 4, 1), (313, .iadd, 1), (314, .iaload, 1), (315, .invokevirtual 23, 3), (318, .aload_n 2, 1), (319, .aload_n 0, 1)]
theorem kL_law_1 : iL_law_1.all (fun q => decide (decode cL_law q.1 = .ok (q.2.1, q.2.2))) = true := by decide +kernel
def iL_law_2 : List kI := [(320, .iload_n 3, 1), (321, .iconst 1, 1), (322, .iadd, 1), (323, .iaload, 1), (324, .aload_n 0, 1), (325, .iload_n 3, 1), (326, .iconst 2, 1), (327, .iadd, 1), (328, .iaload, 1), (329, .aload_n 0, 1), (330, .iload_n 3, 1), (331, .iconst 3, 1), (332, .iadd, 1), (333, .iaload, 1), (334, .aload_n 0, 1), (335, .iload_n 3, 1), (336, .iconst 4, 1), (337, .iadd, 1), (338, .iaload, 1), (339, .invokevirtual 26, 3), (342, .if_icmp .eq 1046, 3), (345, .iconst 0, 1), (346, .ireturn, 1), (347, .aload_n 1, 1), (348, .aload_n 0, 1), (349, .iload_n 3, 1), (350, .iconst 1, 1), (351, .iadd, 1), (352, .iaload, 1), (353, .aload_n 0, 1), (354, .iload_n 3, 1), (355, .iconst 2, 1), (356, .iadd, 1), (357, .iaload, 1), (358, .aload_n 0, 1), (359, .iload_n 3, 1), (360, .iconst 3, 1), (361, .iadd, 1), (362, .iaload, 1), (363, .invokevirtual 27, 3), (366, .aload_n 2, 1), (367, .aload_n 0, 1), (368, .iload_n 3, 1), (369, .iconst 1, 1), (370, .iadd, 1), (371, .iaload, 1), (372, .aload_n 0, 1), (373, .iload_n 3, 1), (374, .iconst 2, 1), (375, .iadd, 1), (376, .iaload, 1), (377, .aload_n 0, 1), (378, .iload_n 3, 1), (379, .iconst 3, 1), (380, .iadd, 1), (381, .iaload, 1), (382, .invokevirtual 31, 3), (385, .if_icmp .eq 1003, 3), (388, .iconst 0, 1), (389, .ireturn, 1)]
theorem kL_law_2 : iL_law_2.all (fun q => decide (decode cL_law q.1 = .ok (q.2.1, q.2.2))) = true := by decide +kernel
def iL_law_3 : List kI := [(390, .aload_n 1, 1), (391, .aload_n 0, 1), (392, .iload_n 3, 1), (393, .iconst 1, 1), (394, .iadd, 1), (395, .iaload, 1), (396, .aload_n 0, 1), (397, .iload_n 3, 1), (398, .iconst 2, 1), (399, .iadd, 1), (400, .iaload, 1), (401, .aload_n 0, 1), (402, .iload_n 3, 1), (403, .iconst 3, 1), (404, .iadd, 1), (405, .iaload, 1), (406, .aload_n 0, 1), (407, .iload_n 3, 1), (408, .iconst 4, 1), (409, .iadd, 1), (410, .iaload, 1), (411, .invokevirtual 32, 3), (414, .aload_n 2, 1), (415, .aload_n 0, 1), (416, .iload_n 3, 1), (417, .iconst 1, 1), (418, .iadd, 1), (419, .iaload, 1), (420, .aload_n 0, 1), (421, .iload_n 3, 1), (422, .iconst 2, 1), (423, .iadd, 1), (424, .iaload, 1), (425, .aload_n 0, 1), (426, .iload_n 3, 1), (427, .iconst 3, 1), (428, .iadd, 1), (429, .iaload, 1), (430, .aload_n 0, 1), (431, .iload_n 3, 1), (432, .iconst 4, 1), (433, .iadd, 1), (434, .iaload, 1), (435, .invokevirtual 35, 3), (438, .if_icmp .eq 950, 3), (441, .iconst 0, 1), (442, .ireturn, 1), (443, .aload_n 1, 1), (444, .aload_n 0, 1), (445, .iload_n 3, 1), (446, .iconst 1, 1), (447, .iadd, 1), (448, .iaload, 1), (449, .invokevirtual 36, 3), (452, .aload_n 2, 1), (453, .aload_n 0, 1), (454, .iload_n 3, 1), (455, .iconst 1, 1), (456, .iadd, 1), (457, .iaload, 1)]
theorem kL_law_3 : iL_law_3.all (fun q => decide (decode cL_law q.1 = .ok (q.2.1, q.2.2))) = true := by decide +kernel
def iL_law_4 : List kI := [(458, .invokevirtual 40, 3), (461, .if_icmp .eq 927, 3), (464, .iconst 0, 1), (465, .ireturn, 1), (466, .aload_n 1, 1), (467, .aload_n 0, 1), (468, .iload_n 3, 1), (469, .iconst 1, 1), (470, .iadd, 1), (471, .iaload, 1), (472, .aload_n 0, 1), (473, .iload_n 3, 1), (474, .iconst 2, 1), (475, .iadd, 1), (476, .iaload, 1), (477, .aload_n 0, 1), (478, .iload_n 3, 1), (479, .iconst 3, 1), (480, .iadd, 1), (481, .iaload, 1), (482, .invokevirtual 41, 3), (485, .aload_n 2, 1), (486, .aload_n 0, 1), (487, .iload_n 3, 1), (488, .iconst 1, 1), (489, .iadd, 1), (490, .iaload, 1), (491, .aload_n 0, 1), (492, .iload_n 3, 1), (493, .iconst 2, 1), (494, .iadd, 1), (495, .iaload, 1), (496, .aload_n 0, 1), (497, .iload_n 3, 1), (498, .iconst 3, 1), (499, .iadd, 1), (500, .iaload, 1), (501, .invokevirtual 44, 3), (504, .if_icmp .eq 884, 3), (507, .iconst 0, 1), (508, .ireturn, 1), (509, .aload_n 1, 1), (510, .aload_n 0, 1), (511, .iload_n 3, 1), (512, .iconst 1, 1), (513, .iadd, 1), (514, .iaload, 1), (515, .aload_n 0, 1), (516, .iload_n 3, 1), (517, .iconst 2, 1), (518, .iadd, 1), (519, .iaload, 1), (520, .invokevirtual 45, 3), (523, .aload_n 2, 1), (524, .aload_n 0, 1), (525, .iload_n 3, 1), (526, .iconst 1, 1), (527, .iadd, 1), (528, .iaload, 1), (529, .aload_n 0, 1)]
theorem kL_law_4 : iL_law_4.all (fun q => decide (decode cL_law q.1 = .ok (q.2.1, q.2.2))) = true := by decide +kernel
def iL_law_5 : List kI := [(530, .iload_n 3, 1), (531, .iconst 2, 1), (532, .iadd, 1), (533, .iaload, 1), (534, .invokevirtual 48, 3), (537, .if_icmp .eq 851, 3), (540, .iconst 0, 1), (541, .ireturn, 1), (542, .aload_n 1, 1), (543, .aload_n 0, 1), (544, .iload_n 3, 1), (545, .iconst 1, 1), (546, .iadd, 1), (547, .iaload, 1), (548, .aload_n 0, 1), (549, .iload_n 3, 1), (550, .iconst 2, 1), (551, .iadd, 1), (552, .iaload, 1), (553, .invokevirtual 49, 3), (556, .aload_n 2, 1), (557, .aload_n 0, 1), (558, .iload_n 3, 1), (559, .iconst 1, 1), (560, .iadd, 1), (561, .iaload, 1), (562, .aload_n 0, 1), (563, .iload_n 3, 1), (564, .iconst 2, 1), (565, .iadd, 1), (566, .iaload, 1), (567, .invokevirtual 52, 3), (570, .if_icmp .eq 818, 3), (573, .iconst 0, 1), (574, .ireturn, 1), (575, .aload_n 1, 1), (576, .aload_n 0, 1), (577, .iload_n 3, 1), (578, .iconst 1, 1), (579, .iadd, 1), (580, .iaload, 1), (581, .invokevirtual 53, 3), (584, .aload_n 2, 1), (585, .aload_n 0, 1), (586, .iload_n 3, 1), (587, .iconst 1, 1), (588, .iadd, 1), (589, .iaload, 1), (590, .invokevirtual 56, 3), (593, .if_icmp .eq 795, 3), (596, .iconst 0, 1), (597, .ireturn, 1), (598, .aload_n 1, 1), (599, .aload_n 0, 1), (600, .iload_n 3, 1), (601, .iconst 1, 1), (602, .iadd, 1), (603, .iaload, 1), (604, .invokevirtual 57, 3), (607, .aload_n 2, 1)]
theorem kL_law_5 : iL_law_5.all (fun q => decide (decode cL_law q.1 = .ok (q.2.1, q.2.2))) = true := by decide +kernel
def iL_law_6 : List kI := [(608, .aload_n 0, 1), (609, .iload_n 3, 1), (610, .iconst 1, 1), (611, .iadd, 1), (612, .iaload, 1), (613, .invokevirtual 60, 3), (616, .if_icmp .eq 772, 3), (619, .iconst 0, 1), (620, .ireturn, 1), (621, .aload_n 1, 1), (622, .invokevirtual 61, 3), (625, .aload_n 2, 1), (626, .invokevirtual 65, 3), (629, .if_icmp .eq 759, 3), (632, .iconst 0, 1), (633, .ireturn, 1), (634, .aload_n 1, 1), (635, .invokevirtual 66, 3), (638, .aload_n 2, 1), (639, .invokevirtual 69, 3), (642, .if_icmp .eq 746, 3), (645, .iconst 0, 1), (646, .ireturn, 1), (647, .aload_n 1, 1), (648, .invokevirtual 70, 3), (651, .aload_n 2, 1), (652, .invokevirtual 73, 3), (655, .if_icmp .eq 733, 3), (658, .iconst 0, 1), (659, .ireturn, 1), (660, .aload_n 1, 1), (661, .aload_n 0, 1), (662, .iload_n 3, 1), (663, .iconst 1, 1), (664, .iadd, 1), (665, .iaload, 1), (666, .invokevirtual 74, 3), (669, .aload_n 2, 1), (670, .aload_n 0, 1), (671, .iload_n 3, 1), (672, .iconst 1, 1), (673, .iadd, 1), (674, .iaload, 1), (675, .invokevirtual 77, 3), (678, .if_icmp .eq 710, 3), (681, .iconst 0, 1), (682, .ireturn, 1), (683, .aload_n 1, 1), (684, .aload_n 0, 1), (685, .iload_n 3, 1), (686, .iconst 1, 1), (687, .iadd, 1), (688, .iaload, 1), (689, .aload_n 0, 1), (690, .iload_n 3, 1), (691, .iconst 2, 1), (692, .iadd, 1), (693, .iaload, 1), (694, .invokevirtual 78, 3), (697, .aload_n 2, 1)]
theorem kL_law_6 : iL_law_6.all (fun q => decide (decode cL_law q.1 = .ok (q.2.1, q.2.2))) = true := by decide +kernel
def iL_law_7 : List kI := [(698, .aload_n 0, 1), (699, .iload_n 3, 1), (700, .iconst 1, 1), (701, .iadd, 1), (702, .iaload, 1), (703, .aload_n 0, 1), (704, .iload_n 3, 1), (705, .iconst 2, 1), (706, .iadd, 1), (707, .iaload, 1), (708, .invokevirtual 81, 3), (711, .if_icmp .eq 677, 3), (714, .iconst 0, 1), (715, .ireturn, 1), (716, .aload_n 1, 1), (717, .aload_n 0, 1), (718, .iload_n 3, 1), (719, .iconst 1, 1), (720, .iadd, 1), (721, .iaload, 1), (722, .aload_n 0, 1), (723, .iload_n 3, 1), (724, .iconst 2, 1), (725, .iadd, 1), (726, .iaload, 1), (727, .invokevirtual 82, 3), (730, .aload_n 2, 1), (731, .aload_n 0, 1), (732, .iload_n 3, 1), (733, .iconst 1, 1), (734, .iadd, 1), (735, .iaload, 1), (736, .aload_n 0, 1), (737, .iload_n 3, 1), (738, .iconst 2, 1), (739, .iadd, 1), (740, .iaload, 1), (741, .invokevirtual 85, 3), (744, .if_icmp .eq 644, 3), (747, .iconst 0, 1), (748, .ireturn, 1), (749, .aload_n 1, 1), (750, .aload_n 0, 1), (751, .iload_n 3, 1), (752, .iconst 1, 1), (753, .iadd, 1), (754, .iaload, 1), (755, .aload_n 0, 1), (756, .iload_n 3, 1), (757, .iconst 2, 1), (758, .iadd, 1), (759, .iaload, 1), (760, .invokevirtual 86, 3), (763, .aload_n 2, 1), (764, .aload_n 0, 1), (765, .iload_n 3, 1), (766, .iconst 1, 1), (767, .iadd, 1), (768, .iaload, 1), (769, .aload_n 0, 1)]
theorem kL_law_7 : iL_law_7.all (fun q => decide (decode cL_law q.1 = .ok (q.2.1, q.2.2))) = true := by decide +kernel
def iL_law_8 : List kI := [(770, .iload_n 3, 1), (771, .iconst 2, 1), (772, .iadd, 1), (773, .iaload, 1), (774, .invokevirtual 89, 3), (777, .if_icmp .eq 611, 3), (780, .iconst 0, 1), (781, .ireturn, 1), (782, .aload_n 1, 1), (783, .aload_n 0, 1), (784, .iload_n 3, 1), (785, .iconst 1, 1), (786, .iadd, 1), (787, .iaload, 1), (788, .invokevirtual 90, 3), (791, .aload_n 2, 1), (792, .aload_n 0, 1), (793, .iload_n 3, 1), (794, .iconst 1, 1), (795, .iadd, 1), (796, .iaload, 1), (797, .invokevirtual 93, 3), (800, .if_icmp .eq 588, 3), (803, .iconst 0, 1), (804, .ireturn, 1), (805, .aload_n 1, 1), (806, .aload_n 0, 1), (807, .iload_n 3, 1), (808, .iconst 1, 1), (809, .iadd, 1), (810, .iaload, 1), (811, .aload_n 0, 1), (812, .iload_n 3, 1), (813, .iconst 2, 1), (814, .iadd, 1), (815, .iaload, 1), (816, .invokevirtual 94, 3), (819, .aload_n 2, 1), (820, .aload_n 0, 1), (821, .iload_n 3, 1), (822, .iconst 1, 1), (823, .iadd, 1), (824, .iaload, 1), (825, .aload_n 0, 1), (826, .iload_n 3, 1), (827, .iconst 2, 1), (828, .iadd, 1), (829, .iaload, 1), (830, .invokevirtual 97, 3), (833, .if_icmp .eq 555, 3), (836, .iconst 0, 1), (837, .ireturn, 1), (838, .aload_n 1, 1), (839, .aload_n 0, 1), (840, .iload_n 3, 1), (841, .iconst 1, 1), (842, .iadd, 1), (843, .iaload, 1), (844, .aload_n 0, 1), (845, .iload_n 3, 1)]
theorem kL_law_8 : iL_law_8.all (fun q => decide (decode cL_law q.1 = .ok (q.2.1, q.2.2))) = true := by decide +kernel
def iL_law_9 : List kI := [(846, .iconst 2, 1), (847, .iadd, 1), (848, .iaload, 1), (849, .invokevirtual 98, 3), (852, .aload_n 2, 1), (853, .aload_n 0, 1), (854, .iload_n 3, 1), (855, .iconst 1, 1), (856, .iadd, 1), (857, .iaload, 1), (858, .aload_n 0, 1), (859, .iload_n 3, 1), (860, .iconst 2, 1), (861, .iadd, 1), (862, .iaload, 1), (863, .invokevirtual 101, 3), (866, .if_icmp .eq 522, 3), (869, .iconst 0, 1), (870, .ireturn, 1), (871, .aload_n 1, 1), (872, .aload_n 0, 1), (873, .iload_n 3, 1), (874, .iconst 1, 1), (875, .iadd, 1), (876, .iaload, 1), (877, .invokevirtual 102, 3), (880, .aload_n 2, 1), (881, .aload_n 0, 1), (882, .iload_n 3, 1), (883, .iconst 1, 1), (884, .iadd, 1), (885, .iaload, 1), (886, .invokevirtual 105, 3), (889, .if_icmp .eq 499, 3), (892, .iconst 0, 1), (893, .ireturn, 1), (894, .aload_n 1, 1), (895, .aload_n 0, 1), (896, .iload_n 3, 1), (897, .iconst 1, 1), (898, .iadd, 1), (899, .iaload, 1), (900, .invokevirtual 106, 3), (903, .aload_n 2, 1), (904, .aload_n 0, 1), (905, .iload_n 3, 1), (906, .iconst 1, 1), (907, .iadd, 1), (908, .iaload, 1), (909, .invokevirtual 109, 3), (912, .if_icmp .eq 476, 3), (915, .iconst 0, 1), (916, .ireturn, 1), (917, .aload_n 1, 1), (918, .aload_n 0, 1), (919, .iload_n 3, 1), (920, .iconst 1, 1), (921, .iadd, 1), (922, .iaload, 1), (923, .invokevirtual 110, 3)]
theorem kL_law_9 : iL_law_9.all (fun q => decide (decode cL_law q.1 = .ok (q.2.1, q.2.2))) = true := by decide +kernel
def iL_law_10 : List kI := [(926, .aload_n 2, 1), (927, .aload_n 0, 1), (928, .iload_n 3, 1), (929, .iconst 1, 1), (930, .iadd, 1), (931, .iaload, 1), (932, .invokevirtual 113, 3), (935, .if_icmp .eq 453, 3), (938, .iconst 0, 1), (939, .ireturn, 1), (940, .aload_n 1, 1), (941, .aload_n 0, 1), (942, .iload_n 3, 1), (943, .iconst 1, 1), (944, .iadd, 1), (945, .iaload, 1), (946, .invokevirtual 114, 3), (949, .aload_n 2, 1), (950, .aload_n 0, 1), (951, .iload_n 3, 1), (952, .iconst 1, 1), (953, .iadd, 1), (954, .iaload, 1), (955, .invokevirtual 117, 3), (958, .if_icmp .eq 430, 3), (961, .iconst 0, 1), (962, .ireturn, 1), (963, .aload_n 1, 1), (964, .aload_n 0, 1), (965, .iload_n 3, 1), (966, .iconst 1, 1), (967, .iadd, 1), (968, .iaload, 1), (969, .aload_n 0, 1), (970, .iload_n 3, 1), (971, .iconst 2, 1), (972, .iadd, 1), (973, .iaload, 1), (974, .invokevirtual 118, 3), (977, .aload_n 2, 1), (978, .aload_n 0, 1), (979, .iload_n 3, 1), (980, .iconst 1, 1), (981, .iadd, 1), (982, .iaload, 1), (983, .aload_n 0, 1), (984, .iload_n 3, 1), (985, .iconst 2, 1), (986, .iadd, 1), (987, .iaload, 1), (988, .invokevirtual 121, 3), (991, .if_icmp .eq 397, 3), (994, .iconst 0, 1), (995, .ireturn, 1), (996, .aload_n 1, 1), (997, .aload_n 0, 1), (998, .iload_n 3, 1), (999, .iconst 1, 1), (1000, .iadd, 1), (1001, .iaload, 1)]
theorem kL_law_10 : iL_law_10.all (fun q => decide (decode cL_law q.1 = .ok (q.2.1, q.2.2))) = true := by decide +kernel
def iL_law_11 : List kI := [(1002, .aload_n 0, 1), (1003, .iload_n 3, 1), (1004, .iconst 2, 1), (1005, .iadd, 1), (1006, .iaload, 1), (1007, .aload_n 0, 1), (1008, .iload_n 3, 1), (1009, .iconst 3, 1), (1010, .iadd, 1), (1011, .iaload, 1), (1012, .invokevirtual 122, 3), (1015, .aload_n 2, 1), (1016, .aload_n 0, 1), (1017, .iload_n 3, 1), (1018, .iconst 1, 1), (1019, .iadd, 1), (1020, .iaload, 1), (1021, .aload_n 0, 1), (1022, .iload_n 3, 1), (1023, .iconst 2, 1), (1024, .iadd, 1), (1025, .iaload, 1), (1026, .aload_n 0, 1), (1027, .iload_n 3, 1), (1028, .iconst 3, 1), (1029, .iadd, 1), (1030, .iaload, 1), (1031, .invokevirtual 125, 3), (1034, .if_icmp .eq 354, 3), (1037, .iconst 0, 1), (1038, .ireturn, 1), (1039, .aload_n 1, 1), (1040, .aload_n 0, 1), (1041, .iload_n 3, 1), (1042, .iconst 1, 1), (1043, .iadd, 1), (1044, .iaload, 1), (1045, .aload_n 0, 1), (1046, .iload_n 3, 1), (1047, .iconst 2, 1), (1048, .iadd, 1), (1049, .iaload, 1), (1050, .invokevirtual 126, 3), (1053, .aload_n 2, 1), (1054, .aload_n 0, 1), (1055, .iload_n 3, 1), (1056, .iconst 1, 1), (1057, .iadd, 1), (1058, .iaload, 1), (1059, .aload_n 0, 1), (1060, .iload_n 3, 1), (1061, .iconst 2, 1), (1062, .iadd, 1), (1063, .iaload, 1), (1064, .invokevirtual 129, 3), (1067, .if_icmp .eq 321, 3), (1070, .iconst 0, 1), (1071, .ireturn, 1), (1072, .aload_n 1, 1), (1073, .aload_n 0, 1)]
theorem kL_law_11 : iL_law_11.all (fun q => decide (decode cL_law q.1 = .ok (q.2.1, q.2.2))) = true := by decide +kernel
def iL_law_12 : List kI := [(1074, .iload_n 3, 1), (1075, .iconst 1, 1), (1076, .iadd, 1), (1077, .iaload, 1), (1078, .aload_n 0, 1), (1079, .iload_n 3, 1), (1080, .iconst 2, 1), (1081, .iadd, 1), (1082, .iaload, 1), (1083, .aload_n 0, 1), (1084, .iload_n 3, 1), (1085, .iconst 3, 1), (1086, .iadd, 1), (1087, .iaload, 1), (1088, .invokevirtual 130, 3), (1091, .aload_n 2, 1), (1092, .aload_n 0, 1), (1093, .iload_n 3, 1), (1094, .iconst 1, 1), (1095, .iadd, 1), (1096, .iaload, 1), (1097, .aload_n 0, 1), (1098, .iload_n 3, 1), (1099, .iconst 2, 1), (1100, .iadd, 1), (1101, .iaload, 1), (1102, .aload_n 0, 1), (1103, .iload_n 3, 1), (1104, .iconst 3, 1), (1105, .iadd, 1), (1106, .iaload, 1), (1107, .invokevirtual 133, 3), (1110, .if_icmp .eq 278, 3), (1113, .iconst 0, 1), (1114, .ireturn, 1), (1115, .aload_n 1, 1), (1116, .aload_n 0, 1), (1117, .iload_n 3, 1), (1118, .iconst 1, 1), (1119, .iadd, 1), (1120, .iaload, 1), (1121, .aload_n 0, 1), (1122, .iload_n 3, 1), (1123, .iconst 2, 1), (1124, .iadd, 1), (1125, .iaload, 1), (1126, .invokevirtual 134, 3), (1129, .aload_n 2, 1), (1130, .aload_n 0, 1), (1131, .iload_n 3, 1), (1132, .iconst 1, 1), (1133, .iadd, 1), (1134, .iaload, 1), (1135, .aload_n 0, 1), (1136, .iload_n 3, 1), (1137, .iconst 2, 1), (1138, .iadd, 1), (1139, .iaload, 1), (1140, .invokevirtual 137, 3), (1143, .if_icmp .eq 245, 3)]
theorem kL_law_12 : iL_law_12.all (fun q => decide (decode cL_law q.1 = .ok (q.2.1, q.2.2))) = true := by decide +kernel
def iL_law_13 : List kI := [(1146, .iconst 0, 1), (1147, .ireturn, 1), (1148, .aload_n 1, 1), (1149, .invokevirtual 138, 3), (1152, .aload_n 2, 1), (1153, .invokevirtual 141, 3), (1156, .if_icmp .eq 232, 3), (1159, .iconst 0, 1), (1160, .ireturn, 1), (1161, .aload_n 1, 1), (1162, .aload_n 0, 1), (1163, .iload_n 3, 1), (1164, .iconst 1, 1), (1165, .iadd, 1), (1166, .iaload, 1), (1167, .invokevirtual 142, 3), (1170, .aload_n 2, 1), (1171, .aload_n 0, 1), (1172, .iload_n 3, 1), (1173, .iconst 1, 1), (1174, .iadd, 1), (1175, .iaload, 1), (1176, .invokevirtual 145, 3), (1179, .if_icmp .eq 209, 3), (1182, .iconst 0, 1), (1183, .ireturn, 1), (1184, .aload_n 1, 1), (1185, .invokevirtual 146, 3), (1188, .aload_n 2, 1), (1189, .invokevirtual 149, 3), (1192, .if_icmp .eq 196, 3), (1195, .iconst 0, 1), (1196, .ireturn, 1), (1197, .aload_n 1, 1), (1198, .aload_n 0, 1), (1199, .iload_n 3, 1), (1200, .iconst 1, 1), (1201, .iadd, 1), (1202, .iaload, 1), (1203, .invokevirtual 150, 3), (1206, .aload_n 2, 1), (1207, .aload_n 0, 1), (1208, .iload_n 3, 1), (1209, .iconst 1, 1), (1210, .iadd, 1), (1211, .iaload, 1), (1212, .invokevirtual 153, 3), (1215, .if_icmp .eq 173, 3), (1218, .iconst 0, 1), (1219, .ireturn, 1), (1220, .aload_n 1, 1), (1221, .aload_n 0, 1), (1222, .iload_n 3, 1), (1223, .iconst 1, 1), (1224, .iadd, 1), (1225, .iaload, 1), (1226, .invokevirtual 154, 3), (1229, .aload_n 2, 1), (1230, .aload_n 0, 1), (1231, .iload_n 3, 1)]
theorem kL_law_13 : iL_law_13.all (fun q => decide (decode cL_law q.1 = .ok (q.2.1, q.2.2))) = true := by decide +kernel
def iL_law_14 : List kI := [(1232, .iconst 1, 1), (1233, .iadd, 1), (1234, .iaload, 1), (1235, .invokevirtual 157, 3), (1238, .if_icmp .eq 150, 3), (1241, .iconst 0, 1), (1242, .ireturn, 1), (1243, .aload_n 1, 1), (1244, .aload_n 0, 1), (1245, .iload_n 3, 1), (1246, .iconst 1, 1), (1247, .iadd, 1), (1248, .iaload, 1), (1249, .aload_n 0, 1), (1250, .iload_n 3, 1), (1251, .iconst 2, 1), (1252, .iadd, 1), (1253, .iaload, 1), (1254, .aload_n 0, 1), (1255, .iload_n 3, 1), (1256, .iconst 3, 1), (1257, .iadd, 1), (1258, .iaload, 1), (1259, .aload_n 0, 1), (1260, .iload_n 3, 1), (1261, .iconst 4, 1), (1262, .iadd, 1), (1263, .iaload, 1), (1264, .invokevirtual 158, 3), (1267, .aload_n 2, 1), (1268, .aload_n 0, 1), (1269, .iload_n 3, 1), (1270, .iconst 1, 1), (1271, .iadd, 1), (1272, .iaload, 1), (1273, .aload_n 0, 1), (1274, .iload_n 3, 1), (1275, .iconst 2, 1), (1276, .iadd, 1), (1277, .iaload, 1), (1278, .aload_n 0, 1), (1279, .iload_n 3, 1), (1280, .iconst 3, 1), (1281, .iadd, 1), (1282, .iaload, 1), (1283, .aload_n 0, 1), (1284, .iload_n 3, 1), (1285, .iconst 4, 1), (1286, .iadd, 1), (1287, .iaload, 1), (1288, .invokevirtual 161, 3), (1291, .if_icmp .eq 97, 3), (1294, .iconst 0, 1), (1295, .ireturn, 1), (1296, .aload_n 1, 1), (1297, .aload_n 0, 1), (1298, .iload_n 3, 1), (1299, .iconst 1, 1), (1300, .iadd, 1), (1301, .iaload, 1)]
theorem kL_law_14 : iL_law_14.all (fun q => decide (decode cL_law q.1 = .ok (q.2.1, q.2.2))) = true := by decide +kernel
def iL_law_15 : List kI := [(1302, .aload_n 0, 1), (1303, .iload_n 3, 1), (1304, .iconst 2, 1), (1305, .iadd, 1), (1306, .iaload, 1), (1307, .invokevirtual 162, 3), (1310, .aload_n 2, 1), (1311, .aload_n 0, 1), (1312, .iload_n 3, 1), (1313, .iconst 1, 1), (1314, .iadd, 1), (1315, .iaload, 1), (1316, .aload_n 0, 1), (1317, .iload_n 3, 1), (1318, .iconst 2, 1), (1319, .iadd, 1), (1320, .iaload, 1), (1321, .invokevirtual 165, 3), (1324, .if_icmp .eq 64, 3), (1327, .iconst 0, 1), (1328, .ireturn, 1), (1329, .aload_n 1, 1), (1330, .aload_n 0, 1), (1331, .iload_n 3, 1), (1332, .iconst 1, 1), (1333, .iadd, 1), (1334, .iaload, 1), (1335, .aload_n 0, 1), (1336, .iload_n 3, 1), (1337, .iconst 2, 1), (1338, .iadd, 1), (1339, .iaload, 1), (1340, .invokevirtual 166, 3), (1343, .aload_n 2, 1), (1344, .aload_n 0, 1), (1345, .iload_n 3, 1), (1346, .iconst 1, 1), (1347, .iadd, 1), (1348, .iaload, 1), (1349, .aload_n 0, 1), (1350, .iload_n 3, 1), (1351, .iconst 2, 1), (1352, .iadd, 1), (1353, .iaload, 1), (1354, .invokevirtual 169, 3), (1357, .if_icmp .eq 31, 3), (1360, .iconst 0, 1), (1361, .ireturn, 1), (1362, .aload_n 1, 1), (1363, .invokevirtual 170, 3), (1366, .aload_n 2, 1), (1367, .invokevirtual 173, 3), (1370, .if_icmp .eq 18, 3), (1373, .iconst 0, 1), (1374, .ireturn, 1), (1375, .aload_n 1, 1), (1376, .invokevirtual 174, 3), (1379, .aload_n 2, 1), (1380, .invokevirtual 177, 3), (1383, .if_icmp .eq 5, 3)]
theorem kL_law_15 : iL_law_15.all (fun q => decide (decode cL_law q.1 = .ok (q.2.1, q.2.2))) = true := by decide +kernel
def iL_law_16 : List kI := [(1386, .iconst 0, 1), (1387, .ireturn, 1), (1388, .iinc 3 5, 3), (1391, .goto (-1373), 3), (1394, .iconst 1, 1), (1395, .ireturn, 1)]
theorem kL_law_16 : iL_law_16.all (fun q => decide (decode cL_law q.1 = .ok (q.2.1, q.2.2))) = true := by decide +kernel
end
section
/-! ===== the flat state: 189 cells; what may change is ints alone ===== -/
abbrev fS : Type := Nat → Nat → Int32
abbrev fGm : Type := (Nat → Nat) × (ClassId × ClassId × ClassId) × va_G
def fTab : List (Nat × Nat × Nat) := [(5, 0, 0), (3, 0, 0), (2, 4, 4), (1, 16, 0), (2, 3, 2), (1, 6, 0), (2, 12, 4), (1, 48, 0), (2, 24, 3), (1, 72, 0), (2, 8, 4), (1, 32, 0), (2, 49, 1), (1, 49, 0), (2, 48, 1), (1, 48, 0), (3, 0, 0), (2, 4, 4), (1, 16, 0), (2, 3, 2), (1, 6, 0), (2, 12, 4), (1, 48, 0), (2, 24, 3), (1, 72, 0), (2, 8, 4), (1, 32, 0), (2, 49, 1), (1, 49, 0), (2, 48, 1), (1, 48, 0), (3, 0, 0), (2, 4, 4), (1, 16, 0), (2, 3, 2), (1, 6, 0), (2, 12, 4), (1, 48, 0), (2, 24, 3), (1, 72, 0), (2, 8, 4), (1, 32, 0), (2, 49, 1), (1, 49, 0), (2, 48, 1), (1, 48, 0), (6, 0, 0), (7, 6, 0), (3, 0, 0), (2, 4, 4), (1, 16, 0), (2, 3, 2), (1, 6, 0), (2, 12, 4), (1, 48, 0), (2, 24, 3), (1, 72, 0), (2, 8, 4), (1, 32, 0), (2, 49, 1), (1, 49, 0), (2, 48, 1), (1, 48, 0), (3, 0, 0), (2, 4, 4), (1, 16, 0), (2, 3, 2), (1, 6, 0), (2, 12, 4), (1, 48, 0), (2, 24, 3), (1, 72, 0), (2, 8, 4), (1, 32, 0), (2, 49, 1), (1, 49, 0), (2, 48, 1), (1, 48, 0), (3, 0, 0), (2, 4, 4), (1, 16, 0), (2, 3, 2), (1, 6, 0), (2, 12, 4), (1, 48, 0), (2, 24, 3), (1, 72, 0), (2, 8, 4), (1, 32, 0), (2, 49, 1), (1, 49, 0), (2, 48, 1), (1, 48, 0), (3, 0, 0), (2, 4, 4), (1, 16, 0), (2, 3, 2), (1, 6, 0), (2, 12, 4), (1, 48, 0), (2, 24, 3), (1, 72, 0), (2, 8, 4), (1, 32, 0), (2, 49, 1), (1, 49, 0), (2, 48, 1), (1, 48, 0), (3, 0, 0), (2, 4, 4), (1, 16, 0), (2, 3, 2), (1, 6, 0), (2, 12, 4), (1, 48, 0), (2, 24, 3), (1, 72, 0), (2, 8, 4), (1, 32, 0), (2, 49, 1), (1, 49, 0), (2, 48, 1), (1, 48, 0), (3, 0, 0), (2, 4, 4), (1, 16, 0), (2, 3, 2), (1, 6, 0), (2, 12, 4), (1, 48, 0), (2, 24, 3), (1, 72, 0), (2, 8, 4), (1, 32, 0), (2, 49, 1), (1, 49, 0), (2, 48, 1), (1, 48, 0), (8, 0, 0), (1, 12, 0), (1, 12, 0), (1, 12, 0), (1, 12, 0), (1, 12, 0), (1, 8, 0), (9, 0, 0), (1, 12, 0), (1, 48, 0), (1, 24, 0), (1, 288, 0), (1, 48, 0), (1, 48, 0), (1, 24, 0), (1, 24, 0), (1, 24, 0), (1, 24, 0), (1, 4, 0), (10, 0, 0), (4, 60, 0), (2, 12, 6), (1, 72, 0), (11, 0, 0), (2, 9, 5), (1, 45, 0), (12, 0, 0), (1, 277, 0), (1, 277, 0), (1, 1662, 0), (1, 277, 0), (4, 60, 0), (1, 4, 0), (1, 12, 0), (1, 12, 0), (1, 12, 0), (1, 12, 0), (1, 12, 0), (1, 288, 0), (1, 12, 0), (1, 24, 0), (1, 24, 0), (1, 24, 0), (1, 24, 0), (1, 48, 0), (1, 1152, 0), (1, 48, 0), (1, 24, 0), (1, 4, 0), (1, 9, 0), (1, 36, 0)]
def fD (k : Nat) : Nat × Nat × Nat := fTab.getD k (0, 0, 0)
def fcell (Γ : fGm) (k : Nat) (f : Nat → Int32) : va_E :=
  match fD k with
  | (1, n, _) => .inl (Γ.2.1.1, n, .inl f)
  | (2, r, w) => .inr (5, [.int (Int32.ofNat r), .int (Int32.ofNat w), .ref (Γ.1 (k + 1)), .int (f 3)])
  | (3, _, _) => .inr (3, [.ref (Γ.1 (k + 1)), .ref (Γ.1 (k + 3)), .ref (Γ.1 (k + 5)), .ref (Γ.1 (k + 7)), .ref (Γ.1 (k + 9)), .ref (Γ.1 (k + 11)), .ref (Γ.1 (k + 13)), .int (f 7)])
  | (4, n, _) => .inl (Γ.2.1.2.1, n, .inl f)
  | (5, _, _) => .inr (7, [.ref (Γ.1 1), .ref (Γ.1 16), .ref (Γ.1 31), .ref (Γ.1 46), .ref (Γ.1 138), .ref (Γ.1 145), .ref (Γ.1 157), .ref (Γ.1 161), .int (f 8)])
  | (6, _, _) => .inr (1, [.ref (Γ.1 47), .int (f 1), .int (f 2)])
  | (7, n, _) => .inl (Γ.2.1.2.2, n, .inr (.inr (.inr (.inr (fun i => some (Γ.1 (48 + 15 * i)))))))
  | (8, _, _) => .inr (0, [.ref (Γ.1 139), .ref (Γ.1 140), .ref (Γ.1 141), .ref (Γ.1 142), .ref (Γ.1 143), .ref (Γ.1 144)])
  | (9, _, _) => .inr (2, [.ref (Γ.1 146), .ref (Γ.1 147), .ref (Γ.1 148), .ref (Γ.1 149), .ref (Γ.1 150), .ref (Γ.1 151), .ref (Γ.1 152), .ref (Γ.1 153), .ref (Γ.1 154), .ref (Γ.1 155), .ref (Γ.1 156)])
  | (10, _, _) => .inr (6, [.int (f 0), .int (f 1), .ref (Γ.1 158), .ref (Γ.1 159), .int (f 4)])
  | (11, _, _) => .inr (4, [.ref (Γ.1 162)])
  | (12, _, _) => .inr (8, [.ref (Γ.1 165), .ref (Γ.1 166), .ref (Γ.1 167), .int (f 3), .ref (Γ.1 168), .int (f 5), .ref (Γ.1 169), .int (f 7), .int (f 8), .int (f 9), .int (f 10), .ref (Γ.1 170), .ref (Γ.1 171), .ref (Γ.1 172), .ref (Γ.1 173), .ref (Γ.1 174), .ref (Γ.1 175), .ref (Γ.1 176), .ref (Γ.1 177), .ref (Γ.1 178), .ref (Γ.1 179), .ref (Γ.1 180), .ref (Γ.1 181), .ref (Γ.1 182), .ref (Γ.1 183), .ref (Γ.1 184), .ref (Γ.1 185), .int (f 27), .ref (Γ.1 186), .ref (Γ.1 187), .ref (Γ.1 188)])
  | _ => .inl (Γ.2.1.1, 0, .inl f)
theorem fe_A {Γ : fGm} {k n z : Nat} {f : Nat → Int32} (h : fD k = (1, n, z)) : fcell Γ k f = .inl (Γ.2.1.1, n, .inl f) := by simp only [fcell, h]
theorem fe_T {Γ : fGm} {k r w : Nat} {f : Nat → Int32} (h : fD k = (2, r, w)) : fcell Γ k f = .inr (5, [.int (Int32.ofNat r), .int (Int32.ofNat w), .ref (Γ.1 (k + 1)), .int (f 3)]) := by simp only [fcell, h]
theorem fe_P {Γ : fGm} {k y z : Nat} {f : Nat → Int32} (h : fD k = (3, y, z)) : fcell Γ k f = .inr (3, [.ref (Γ.1 (k + 1)), .ref (Γ.1 (k + 3)), .ref (Γ.1 (k + 5)), .ref (Γ.1 (k + 7)), .ref (Γ.1 (k + 9)), .ref (Γ.1 (k + 11)), .ref (Γ.1 (k + 13)), .int (f 7)]) := by simp only [fcell, h]
theorem fe_C {Γ : fGm} {k n z : Nat} {f : Nat → Int32} (h : fD k = (4, n, z)) : fcell Γ k f = .inl (Γ.2.1.2.1, n, .inl f) := by simp only [fcell, h]
theorem fD_lt {k a b c : Nat} (h : fD k = (a + 1, b, c)) : k < 189 := by
  rcases Nat.lt_or_ge k 189 with q | q
  · exact q
  · have h2 : fD k = (0, 0, 0) := by
      unfold fD
      rw [List.getD_eq_getElem?_getD, List.getElem?_eq_none (by exact q)]
      rfl
    rw [h2] at h
    cases h
theorem fD_tabB : (List.range 189).all (fun k => (fD k).1 != 2 || fD (k + 1) == (1, (fD k).2.1 * (fD k).2.2, 0)) = true := by decide +kernel
theorem fD_prtB : (List.range 189).all (fun k => (fD k).1 != 3 || (fD (k + 1) == (2, 4, 4) && fD (k + 3) == (2, 3, 2) && fD (k + 5) == (2, 12, 4) && fD (k + 7) == (2, 24, 3) && fD (k + 9) == (2, 8, 4) && fD (k + 11) == (2, 49, 1) && fD (k + 13) == (2, 48, 1))) = true := by decide +kernel
theorem fD_tab {k r w : Nat} (h : fD k = (2, r, w)) : fD (k + 1) = (1, r * w, 0) := by
  have h1 := List.all_eq_true.mp fD_tabB k (List.mem_range.mpr (fD_lt h))
  simpa [h] using h1
theorem fD_prt {k : Nat} (h : fD k = (3, 0, 0)) : fD (k + 1) = (2, 4, 4) ∧ fD (k + 3) = (2, 3, 2) ∧ fD (k + 5) = (2, 12, 4) ∧ fD (k + 7) = (2, 24, 3) ∧ fD (k + 9) = (2, 8, 4) ∧ fD (k + 11) = (2, 49, 1) ∧ fD (k + 13) = (2, 48, 1) := by
  have h1 := List.all_eq_true.mp fD_prtB k (List.mem_range.mpr (fD_lt h))
  simp only [h, bne_self_eq_false, Bool.false_or, Bool.and_eq_true, beq_iff_eq] at h1
  exact ⟨h1.1.1.1.1.1.1, h1.1.1.1.1.1.2, h1.1.1.1.1.2, h1.1.1.1.2, h1.1.1.2, h1.1.2, h1.2⟩
def fws (Γ : fGm) (σ : fS) : va_W := (List.range 189).map (fun k => (Γ.1 k, fcell Γ k (σ k)))
theorem fws_get {Γ : fGm} {σ : fS} {k : Nat} (h : k < 189) : (fws Γ σ)[k]? = some (Γ.1 k, fcell Γ k (σ k)) := by
  unfold fws
  rw [List.getElem?_map, List.getElem?_range h]
  rfl
theorem fws_inv {Γ : fGm} {σ : fS} {k : Nat} {q : Nat × va_E} (h : (fws Γ σ)[k]? = some q) : k < 189 ∧ q = (Γ.1 k, fcell Γ k (σ k)) := by
  have hl : k < 189 := by
    have := (List.getElem?_eq_some_iff.mp h).1
    unfold fws at this
    simpa using this
  rw [fws_get hl] at h
  exact ⟨hl, (Option.some.inj h).symm⟩
theorem fws_set {Γ : fGm} {σ : fS} {k : Nat} {f : Nat → Int32} (h : k < 189) : (fws Γ σ).set k (Γ.1 k, fcell Γ k f) = fws Γ (va_up σ k f) := by
  apply List.ext_getElem?
  intro i
  by_cases hi : i < 189
  · by_cases hik : i = k
    · subst hik
      rw [List.getElem?_set_self (by unfold fws; simpa using h), fws_get h]
      simp [va_up]
    · rw [List.getElem?_set_ne (Ne.symm hik), fws_get hi, fws_get hi]
      simp [va_up, hik]
  · rw [List.getElem?_eq_none (by unfold fws; simp; omega), List.getElem?_eq_none (by unfold fws; simp; omega)]
def ftys (Γ : fGm) : List (ClassId × FieldType) := [(Γ.2.1.1, .int), (Γ.2.1.2.1, .char), (Γ.2.1.2.2, .object "FerryTimetable$Port")]
def fAd (Γ : fGm) : Nat → Prop := fun q => ∃ k, k < 189 ∧ Γ.1 k = q
def fI (Γ : fGm) : Prop := ∀ i j, i < 189 → j < 189 → Γ.1 i = Γ.1 j → i = j
def fH (Γ : fGm) (σ : fS) (H : Heap) : Prop := va_P Γ.2.2 vwCl (fws Γ σ) H
theorem fws_D {Γ : fGm} (hI : fI Γ) (σ : fS) : va_D (fAd Γ) (fws Γ σ) := by
  refine ⟨fun i j p q hi hj h => ?_, fun k q hk => ?_⟩
  · obtain ⟨h1, rfl⟩ := fws_inv hi
    obtain ⟨h2, rfl⟩ := fws_inv hj
    exact hI i j h1 h2 h
  · obtain ⟨h1, rfl⟩ := fws_inv hk
    exact ⟨k, h1, rfl⟩
def fu (σ : fS) (c k : Nat) (v : Int32) : fS := va_up σ c (upd (σ c) k v)
def lw_g : List Cond := lw_tbl.filter goodWord
def fn1 : Cond := .methodLinkNest RX3 46 yX7_isOutside RX7
def fn2 : Cond := .methodLinkNest RX6 34 yX7_isOutside RX7
def fn3 : Cond := .methodLinkNest RX6 49 yX7_isError RX7
def fK (Γ : fGm) (U : State) : Prop := va_K Γ.2.2 vwCl (ftys Γ) U ∧ va_Nw fn1 U ∧ va_Nw fn2 U ∧ va_Nw fn3 U
theorem fK.warm {Γ : fGm} {s U : State} (h : fK Γ s) (hW : s.WarmedH U.vm) : fK Γ U := ⟨va_K.moved hW.alike h.1, va_Nw.warmM hW h.2.1, va_Nw.warmM hW h.2.2.1, va_Nw.warmM hW h.2.2.2⟩
def fC (Γ : fGm) (p : Program) (s : State) (m : MethodId) (args : Array Value) (meth : Method) (c : Code) (cc : ByteArray) (ret : Option FieldType) (own : String) (nL : Nat) : Prop :=
  p.tables.exec = Jvm.exec ∧ c.code = cc ∧ meth.sig.returnType = ret ∧ c.maxLocals = nL ∧ s.vm.findClass own = some m.cls ∧ (∀ w ∈ lw_g, w.before args s = true) ∧ meth.locks = false ∧ fK Γ s ∧ fI Γ
def fPre (Γ : fGm) (av : List Value) (σ : fS) : Array Value → State → Prop := va_Pc av (fun U => fH Γ σ U.heap ∧ fK Γ U)
def fB (Γ : fGm) (σ : fS) (t : State) : Prop := fH Γ σ t.heap
def fQi (Γ : fGm) (r : Int32) (σ' : fS) : Array Value → State → Outcome → State → Prop := va_Qi (fun (r2 : Int32) (σ2 : fS) => r2 = r ∧ σ2 = σ') (fB Γ) (fAd Γ)
def fQf (Γ : fGm) (r : UInt32) (σ' : fS) : Array Value → State → Outcome → State → Prop := va_Qf (fun (r2 : UInt32) (σ2 : fS) => r2 = r ∧ σ2 = σ') (fB Γ) (fAd Γ)
def fQv (Γ : fGm) (σ' : fS) : Array Value → State → Outcome → State → Prop := va_Qv (fun (σ2 : fS) => σ2 = σ') (fB Γ) (fAd Γ)
theorem fPre_blind (Γ : fGm) (av : List Value) (σ : fS) : FrameBlind (fPre Γ av σ) := fun a U g mk q => by
  obtain ⟨q0, qP, qK, n1, n2, n3⟩ := q
  exact ⟨q0, qP, va_K.moved (u := U) (U := U.calling g mk a) (Vm.Alike.refl U.vm) qK, va_Nw.same (u := U) (U := U.calling g mk a) rfl rfl n1, va_Nw.same (u := U) (U := U.calling g mk a) rfl rfl n2, va_Nw.same (u := U) (U := U.calling g mk a) rfl rfl n3⟩
theorem fw_g {w : Cond} (h : w ∈ lw_tbl) (hg : goodWord w = true) : w ∈ lw_g := List.mem_filter.mpr ⟨h, hg⟩
theorem goodIn_sub0 {ws : List Cond} (hm : ∀ w ∈ ws, w ∈ lw_g) : GoodIn lw_g ws := fun w hw => ⟨hm w hw, good_of_word (List.mem_filter.mp (hm w hw)).2⟩
theorem fgV {own C : String} {index : Nat} {y : MethodName} {b : ByteArray} {n : Nat} {rt : Option FieldType} (h1 : Cond.methodLink own index y ∈ lw_g) (h2 : Cond.instanceMethod y ∈ lw_g) (h3 : Cond.selects C y y ∈ lw_g) (h4 : Cond.initialized C ∈ lw_g) (h5 : Cond.code y b n rt ∈ lw_g) : GoodIn lw_g (wsV own index C y (.code y b n rt :: lw_g)) := by
  refine goodIn_sub0 ?_
  intro w hw
  rcases List.mem_append.mp hw with h | h
  · simp only [List.mem_cons, List.not_mem_nil, or_false] at h
    rcases h with rfl | rfl | rfl | rfl <;> assumption
  · rcases List.mem_cons.mp h with rfl | h
    · exact h5
    · exact h
theorem fgS {own : String} {index : Nat} {y : MethodName} {b : ByteArray} {n : Nat} {rt : Option FieldType} (h1 : Cond.methodLink own index y ∈ lw_g) (h2 : Cond.static y ∈ lw_g) (h4 : Cond.initialized y.cls ∈ lw_g) (h5 : Cond.code y b n rt ∈ lw_g) : GoodIn lw_g (va_wsS own index y (.code y b n rt :: lw_g)) := by
  refine goodIn_sub0 ?_
  intro w hw
  rcases List.mem_append.mp hw with h | h
  · simp only [List.mem_cons, List.not_mem_nil, or_false] at h
    rcases h with rfl | rfl | rfl <;> assumption
  · rcases List.mem_cons.mp h with rfl | h
    · exact h5
    · exact h
theorem fgN {y : MethodName} {b : ByteArray} {n : Nat} {rt : Option FieldType} (h5 : Cond.code y b n rt ∈ lw_g) : GoodIn lw_g (.code y b n rt :: lw_g) := by
  refine goodIn_sub0 ?_
  intro w hw
  rcases List.mem_cons.mp hw with rfl | h
  · exact h5
  · exact h
end
section
/-! ===== rows over the flat state ===== -/
section FL
variable {p : Program} {l : Launch} {e : Env} {R : Room} {s : State} {m : MethodId} {args : Array Value} {below : List Frame} {meth : Method} {c : Code} {H : Heap} {locs : List Loc} {Q : State → Prop}
variable {Γ : fGm} {cc : ByteArray} {ret : Option FieldType} {own : String} {nL pc : Nat} {ls : Array Slot} {rest : List Value} {σ : fS}
theorem fl_get (C : fC Γ p s m args meth c cc ret own nL) (hP : fH Γ σ H) {k ci j N index : Nat} {fs : List Value} {Cn : String} {T : u_T} {v : Value} (he : fcell Γ k (σ k) = .inr (ci, fs)) (hk : k < 189) (hc : vwCl[ci]? = some (Cn, T, N)) (hin : ∀ w ∈ u_ws Cn T N, w ∈ lw_g) (hj : j < N) (hlink : Cond.fieldLink own index (T j).1 (T j).2.1 (T j).2.2.1 ∈ lw_g) (hv : fs[j]? = some v) (hdg : decode cc pc = .ok (.getfield index, 3)) (kk : W p l e R s m args below meth c H locs 0 0 Q (F0 m (pc + 3) ls (v :: rest))) : W p l e R s m args below meth c H locs 0 0 Q (F0 m pc ls (.ref (Γ.1 k) :: rest)) :=
  va_get (D := Γ.2.2) C.1 C.2.1 C.2.2.2.2.2.1 hin C.2.2.2.2.1 C.2.2.2.2.2.2.2.1.1 hP k (by rw [fws_get hk, he]) hc j hj (C.2.2.2.2.2.1 _ hlink) (fun _ h => h) hv hdg kk
theorem fl_put (C : fC Γ p s m args meth c cc ret own nL) (hP : fH Γ σ H) (hS : va_S (fAd Γ) s.heap H locs) {k ci j N index : Nat} {fs : List Value} {Cn : String} {T : u_T} {x : Int32} (he : fcell Γ k (σ k) = .inr (ci, fs)) (he2 : fcell Γ k (upd (σ k) j x) = .inr (ci, fs.set j (.int x))) (hk : k < 189) (hc : vwCl[ci]? = some (Cn, T, N)) (hin : ∀ w ∈ u_ws Cn T N, w ∈ lw_g) (ty0 : Nat → FieldType) (hty : ∀ k, k < N → parseFieldDescriptor (T k).2.2.1 = some (ty0 k)) (hnm : ∀ a, a < N → ∀ b, b < N → a ≠ b → (T a).2.1 ≠ (T b).2.1) (hj : j < N) (hlink : Cond.fieldLink own index (T j).1 (T j).2.1 (T j).2.2.1 ∈ lw_g) (hfin : (T j).2.2.2 = false) (hn : narrow (ty0 j) (.int x) = .int x) (hfit : fits (ty0 j) (.int x) = true) (hl : j < fs.length) (hdg : decode cc pc = .ok (.putfield index, 3))
    (kk : ∀ (H1 : Heap) (locs1 : List Loc), fH Γ (fu σ k j x) H1 → va_S (fAd Γ) s.heap H1 locs1 → W p l e R s m args below meth c H1 locs1 0 0 Q (F0 m (pc + 3) ls rest)) : W p l e R s m args below meth c H locs 0 0 Q (F0 m pc ls (.int x :: .ref (Γ.1 k) :: rest)) := by
  refine va_put (D := Γ.2.2) C.1 C.2.1 C.2.2.2.2.2.1 hin ty0 hty hnm C.2.2.2.2.1 C.2.2.2.2.2.2.2.1.1 hP (fws_D C.2.2.2.2.2.2.2.2 σ) hS k (by rw [fws_get hk, he]) hc j hj (C.2.2.2.2.2.1 _ hlink) (fun _ h => h) hfin (hty j hj) hn hfit hl hdg (fun H1 locs1 hP1 _ hS1 => kk H1 locs1 ?_ hS1)
  rw [← he2, fws_set hk] at hP1
  exact hP1
theorem fl_iald (C : fC Γ p s m args meth c cc ret own nL) (hP : fH Γ σ H) {k n z : Nat} (ha : fD k = (1, n, z)) {i : Int32} (hin : vp_in i n) (hdg : decode cc pc = .ok (.iaload, 1)) (kk : W p l e R s m args below meth c H locs 0 0 Q (F0 m (pc + 1) ls (.int (σ k i.toNatClampNeg) :: rest))) : W p l e R s m args below meth c H locs 0 0 Q (F0 m pc ls (.int i :: .ref (Γ.1 k) :: rest)) :=
  va_iald (D := Γ.2.2) C.1 C.2.1 C.2.2.2.2.2.2.2.1.1 hP k 0 (by rw [fws_get (fD_lt ha), fe_A ha]) rfl hin hdg kk
theorem fl_cald (C : fC Γ p s m args meth c cc ret own nL) (hP : fH Γ σ H) {k n z : Nat} (ha : fD k = (4, n, z)) {i : Int32} (hin : vp_in i n) (hdg : decode cc pc = .ok (.caload, 1)) (kk : W p l e R s m args below meth c H locs 0 0 Q (F0 m (pc + 1) ls (.int (σ k i.toNatClampNeg) :: rest))) : W p l e R s m args below meth c H locs 0 0 Q (F0 m pc ls (.int i :: .ref (Γ.1 k) :: rest)) :=
  va_cald (D := Γ.2.2) C.1 C.2.1 C.2.2.2.2.2.2.2.1.1 hP k 1 (by rw [fws_get (fD_lt ha), fe_C ha]) rfl hin hdg kk
theorem fl_iast (C : fC Γ p s m args meth c cc ret own nL) (hP : fH Γ σ H) (hS : va_S (fAd Γ) s.heap H locs) {k n z : Nat} (ha : fD k = (1, n, z)) {i x : Int32} (hin : vp_in i n) (hdg : decode cc pc = .ok (.iastore, 1)) (kk : ∀ (H1 : Heap) (locs1 : List Loc), fH Γ (fu σ k i.toNatClampNeg x) H1 → va_S (fAd Γ) s.heap H1 locs1 → W p l e R s m args below meth c H1 locs1 0 0 Q (F0 m (pc + 1) ls rest)) : W p l e R s m args below meth c H locs 0 0 Q (F0 m pc ls (.int x :: .int i :: .ref (Γ.1 k) :: rest)) := by
  refine va_iast (D := Γ.2.2) C.1 C.2.1 C.2.2.2.2.2.2.2.1.1 hP (fws_D C.2.2.2.2.2.2.2.2 σ) hS k 0 (by rw [fws_get (fD_lt ha), fe_A ha]) rfl hin hdg (fun H1 locs1 hP1 _ hS1 => kk H1 locs1 ?_ hS1)
  rw [← fe_A (Γ := Γ) (f := upd (σ k) i.toNatClampNeg x) ha, fws_set (fD_lt ha)] at hP1
  exact hP1
theorem fl_cast (C : fC Γ p s m args meth c cc ret own nL) (hP : fH Γ σ H) (hS : va_S (fAd Γ) s.heap H locs) {k n z : Nat} (ha : fD k = (4, n, z)) {i x : Int32} (hin : vp_in i n) (hdg : decode cc pc = .ok (.castore, 1)) (kk : ∀ (H1 : Heap) (locs1 : List Loc), fH Γ (fu σ k i.toNatClampNeg (vp_nar .char x)) H1 → va_S (fAd Γ) s.heap H1 locs1 → W p l e R s m args below meth c H1 locs1 0 0 Q (F0 m (pc + 1) ls rest)) : W p l e R s m args below meth c H locs 0 0 Q (F0 m pc ls (.int x :: .int i :: .ref (Γ.1 k) :: rest)) := by
  refine va_cast (D := Γ.2.2) C.1 C.2.1 C.2.2.2.2.2.2.2.1.1 hP (fws_D C.2.2.2.2.2.2.2.2 σ) hS k 1 (by rw [fws_get (fD_lt ha), fe_C ha]) rfl hin hdg (fun H1 locs1 hP1 _ hS1 => kk H1 locs1 ?_ hS1)
  rw [← fe_C (Γ := Γ) (f := upd (σ k) i.toNatClampNeg (vp_nar .char x)) ha, fws_set (fD_lt ha)] at hP1
  exact hP1
theorem fl_aald (C : fC Γ p s m args meth c cc ret own nL) (hP : fH Γ σ H) {i : Int32} (hin : vp_in i 6) (hdg : decode cc pc = .ok (.aaload, 1)) (kk : W p l e R s m args below meth c H locs 0 0 Q (F0 m (pc + 1) ls (.ref (Γ.1 (48 + 15 * i.toNatClampNeg)) :: rest))) : W p l e R s m args below meth c H locs 0 0 Q (F0 m pc ls (.int i :: .ref (Γ.1 47) :: rest)) :=
  va_aldq (D := Γ.2.2) (f := fun i => some (Γ.1 (48 + 15 * i))) C.1 C.2.1 C.2.2.2.2.2.2.2.1.1 hP 47 2 (by rw [fws_get (Nat.le_of_ble_eq_true rfl)]; rfl) rfl hin hdg kk
theorem fl_alen (C : fC Γ p s m args meth c cc ret own nL) (hP : fH Γ σ H) {k n z : Nat} (ha : fD k = (1, n, z)) (hdg : decode cc pc = .ok (.arraylength, 1)) (kk : W p l e R s m args below meth c H locs 0 0 Q (F0 m (pc + 1) ls (.int (Int32.ofNat n) :: rest))) : W p l e R s m args below meth c H locs 0 0 Q (F0 m pc ls (.ref (Γ.1 k) :: rest)) :=
  va_alen (D := Γ.2.2) C.1 C.2.1 C.2.2.2.2.2.2.2.1.1 hP k 0 (by rw [fws_get (fD_lt ha), fe_A ha]) rfl rfl hdg kk
def fcp (σ : fS) (a b : Nat) (sp dp n : Int32) : fS := va_up σ b (va_cpy (σ a) (σ b) sp.toNatClampNeg dp.toNatClampNeg n.toNatClampNeg)
abbrev fcpOK (n0 n1 : Nat) (sp dp n : Int32) : Prop := ¬ sp < 0 ∧ ¬ dp < 0 ∧ ¬ n < 0 ∧ sp.toNatClampNeg + n.toNatClampNeg ≤ n0 ∧ dp.toNatClampNeg + n.toNatClampNeg ≤ n1
theorem fl_copy (C : fC Γ p s m args meth c cc ret own nL) (hP : fH Γ σ H) (hS : va_S (fAd Γ) s.heap H locs) (hsz : ls.size = nL) {index k0 k1 n0 n1 z0 z1 : Nat} (ha0 : fD k0 = (1, n0, z0)) (ha1 : fD k1 = (1, n1, z1)) (hlink : Cond.methodLink own index arraycopyName ∈ lw_g) (hnat : Cond.native arraycopyName ∈ lw_g) (hstat : Cond.static arraycopyName ∈ lw_g) (hini : Cond.initialized "java/lang/System" ∈ lw_g) {sp dp n : Int32} (hok : fcpOK n0 n1 sp dp n) (hframes : 1 ≤ R.frames) (hlocals : (rest.map fun v => v.category).sum + (nativeFrameWords "java/lang/System" "arraycopy" 5 + 11) ≤ R.locals) (hdg : decode cc pc = .ok (.invokestatic index, 3))
    (kk : ∀ (H1 : Heap) (locs1 : List Loc), fH Γ (fcp σ k0 k1 sp dp n) H1 → va_S (fAd Γ) s.heap H1 locs1 → W p l e R s m args below meth c H1 locs1 0 0 Q (F0 m (pc + 3) ls rest)) : W p l e R s m args below meth c H locs 0 0 Q (F0 m pc ls (.int n :: .int dp :: .ref (Γ.1 k1) :: .int sp :: .ref (Γ.1 k0) :: rest)) := by
  obtain ⟨h1, h2, h3, h4, h5⟩ := hok
  refine va_copyi (D := Γ.2.2) (ty := .int) C.1 C.2.1 (C.2.2.2.1.trans hsz.symm) C.2.2.2.2.1 (C.2.2.2.2.2.1 _ hlink) (C.2.2.2.2.2.1 _ hnat) (C.2.2.2.2.2.1 _ hstat) (C.2.2.2.2.2.1 _ hini) C.2.2.2.2.2.2.2.1.1 hP (fws_D C.2.2.2.2.2.2.2.2 σ) hS k0 k1 0 0 (by rw [fws_get (fD_lt ha0), fe_A ha0]) (by rw [fws_get (fD_lt ha1), fe_A ha1]) rfl rfl rfl h1 h2 h3 h4 h5 (fun _ _ => rfl) hframes hlocals hdg (fun H1 locs1 hP1 _ hS1 => kk H1 locs1 ?_ hS1)
  rw [← fe_A (Γ := Γ) (f := va_cpy (σ k0) (σ k1) sp.toNatClampNeg dp.toNatClampNeg n.toNatClampNeg) ha1, fws_set (fD_lt ha1)] at hP1
  exact hP1
theorem fl_max (C : fC Γ p s m args meth c cc ret own nL) (hsz : ls.size = nL) {index : Nat} (hlink : Cond.methodLink own index Lib.Math.max.name ∈ lw_g) (hstat : Cond.static Lib.Math.max.name ∈ lw_g) (hini : Cond.initialized "java/lang/Math" ∈ lw_g) (hcode : Cond.code Lib.Math.max.name Lib.Math.max.code 2 (some .int) ∈ lw_g) (hframes : 1 ≤ R.frames) (hlocals : (rest.map fun v => v.category).sum + 13 ≤ R.locals) {x y : Int32} (hdg : decode cc pc = .ok (.invokestatic index, 3)) (kk : W p l e R s m args below meth c H locs 0 0 Q (F0 m (pc + 3) ls (.int (if x < y then y else x) :: rest))) : W p l e R s m args below meth c H locs 0 0 Q (F0 m pc ls (.int y :: .int x :: rest)) :=
  va_mmax C.1 C.2.1 (C.2.2.2.1.trans hsz.symm) C.2.2.2.2.1 (C.2.2.2.2.2.1 _ hlink) (C.2.2.2.2.2.1 _ hstat) (C.2.2.2.2.2.1 _ hini) (C.2.2.2.2.2.1 _ hcode) hframes hlocals (Nat.zero_le _) (Nat.zero_le _) hdg kk
theorem fl_min (C : fC Γ p s m args meth c cc ret own nL) (hsz : ls.size = nL) {index : Nat} (hlink : Cond.methodLink own index Lib.Math.min.name ∈ lw_g) (hstat : Cond.static Lib.Math.min.name ∈ lw_g) (hini : Cond.initialized "java/lang/Math" ∈ lw_g) (hcode : Cond.code Lib.Math.min.name Lib.Math.min.code 2 (some .int) ∈ lw_g) (hframes : 1 ≤ R.frames) (hlocals : (rest.map fun v => v.category).sum + 13 ≤ R.locals) {x y : Int32} (hdg : decode cc pc = .ok (.invokestatic index, 3)) (kk : W p l e R s m args below meth c H locs 0 0 Q (F0 m (pc + 3) ls (.int (if y < x then y else x) :: rest))) : W p l e R s m args below meth c H locs 0 0 Q (F0 m pc ls (.int y :: .int x :: rest)) :=
  va_mmin C.1 C.2.1 (C.2.2.2.1.trans hsz.symm) C.2.2.2.2.1 (C.2.2.2.2.2.1 _ hlink) (C.2.2.2.2.2.1 _ hstat) (C.2.2.2.2.2.1 _ hini) (C.2.2.2.2.2.1 _ hcode) hframes hlocals (Nat.zero_le _) (Nat.zero_le _) hdg kk
variable {y : MethodName} {bytes : ByteArray} {maxL index n : Nat} {rt : Option FieldType} {rm : Room} {As : List Value} {σ' : fS} {st0 : List Value}
theorem fl_runV {Qc : Array Value → State → Outcome → State → Prop} (C : fC Γ p s m args meth c cc ret own nL) (hP : fH Γ σ H) {k ci N : Nat} {fs : List Value} {Cn : String} {T : u_T} (he : fcell Γ k (σ k) = .inr (ci, fs)) (hk : k < 189) (hc : vwCl[ci]? = some (Cn, T, N)) (hM : Met l y (.code y bytes maxL rt :: lw_g) rm (fPre Γ (.ref (Γ.1 k) :: As) σ) Qc 0 0 (fAd Γ)) (hG : GoodIn lw_g (wsV own index Cn y (.code y bytes maxL rt :: lw_g))) (hd : y.cls = Cn ∧ y.cls ≠ "java/lang/invoke/MethodHandle" ∧ y.cls ≠ "java/lang/invoke/VarHandle" ∧ (parseMethodDescriptor y.desc).map (fun d => d.parameters.length) = some n) (hR : rm.cells = 0 ∧ rm.slots = 0 ∧ rm.frames + 1 ≤ R.frames ∧ 8 + (maxL + 11) + rm.locals ≤ R.locals) (hn : As.length = n) (hsz : ls.size = nL) (hstack : st0 = As.reverse ++ .ref (Γ.1 k) :: rest) (hrest : (rest.map fun v => v.category).sum ≤ 8) (hdg : decode cc pc = .ok (.invokevirtual index, 3)) :
    va_Run p l e R s m args below meth c H locs 0 0 0 0 (F0 m pc ls st0) rest (Qc (Value.ref (Γ.1 k) :: As).toArray) (fAd Γ) := by
  subst hstack
  exact va_runV (Ts := lw_g) (own := own) (C := Cn) (n := n) ⟨C.1, C.2.1, C.2.2.2.1, C.2.2.2.2.1, C.2.2.2.2.2.1⟩ hM (cwV n C.2.2.2.2.2.1 hG rfl hR.1 hR.2.1 hd hR.2.2) ⟨fPre_blind Γ _ σ, va_recv C.2.2.2.2.2.2.2.1.1 hP (q0 := k) hc (by rw [fws_get hk, he]), fun U hU hW => ⟨rfl, by rw [hU]; exact hP, C.2.2.2.2.2.2.2.1.warm hW⟩⟩ rfl hn hsz rfl (lv_room hrest) hdg ⟨Nat.zero_le _, Nat.zero_le _⟩
theorem fl_runS {Qc : Array Value → State → Outcome → State → Prop} (C : fC Γ p s m args meth c cc ret own nL) (hP : fH Γ σ H) (hM : Met l y (.code y bytes maxL rt :: lw_g) rm (fPre Γ As σ) Qc 0 0 (fAd Γ)) (hG : GoodIn lw_g (va_wsS own index y (.code y bytes maxL rt :: lw_g))) (hd : y.cls ≠ "java/lang/invoke/MethodHandle" ∧ y.cls ≠ "java/lang/invoke/VarHandle" ∧ (parseMethodDescriptor y.desc).map (fun d => d.parameters.length) = some n) (hR : rm.cells = 0 ∧ rm.slots = 0 ∧ rm.frames + 1 ≤ R.frames ∧ 8 + (maxL + 11) + rm.locals ≤ R.locals) (hn : As.length = n) (hsz : ls.size = nL) (hstack : st0 = As.reverse ++ rest) (hrest : (rest.map fun v => v.category).sum ≤ 8) (hdg : decode cc pc = .ok (.invokestatic index, 3)) :
    va_Run p l e R s m args below meth c H locs 0 0 0 0 (F0 m pc ls st0) rest (Qc As.toArray) (fAd Γ) := by
  subst hstack
  exact va_runS (Ts := lw_g) (own := own) (n := n) ⟨C.1, C.2.1, C.2.2.2.1, C.2.2.2.2.1, C.2.2.2.2.2.1⟩ hM (va_cwS n C.2.2.2.2.2.1 hG rfl hR.1 hR.2.1 hd hR.2.2) ⟨fPre_blind Γ _ σ, fun U hU hW => ⟨rfl, by rw [hU]; exact hP, C.2.2.2.2.2.2.2.1.warm hW⟩⟩ rfl hn hsz rfl (lv_room hrest) hdg ⟨Nat.zero_le _, Nat.zero_le _⟩
theorem fl_runN {Qc : Array Value → State → Outcome → State → Prop} {host : String} (C : fC Γ p s m args meth c cc ret own nL) (hP : fH Γ σ H) (hM : Met l y (.code y bytes maxL rt :: lw_g) rm (fPre Γ As σ) Qc 0 0 (fAd Γ)) (hG : GoodIn lw_g (.code y bytes maxL rt :: lw_g)) (hl : va_Nw (.methodLinkNest own index y host) s) (hini : Cond.initialized y.cls ∈ lw_g) (hst : Cond.static y ∈ lw_g) (hd : y.cls ≠ "java/lang/invoke/MethodHandle" ∧ y.cls ≠ "java/lang/invoke/VarHandle" ∧ (parseMethodDescriptor y.desc).map (fun d => d.parameters.length) = some n) (hR : rm.cells = 0 ∧ rm.slots = 0 ∧ rm.frames + 1 ≤ R.frames ∧ 8 + (maxL + 11) + rm.locals ≤ R.locals) (hn : As.length = n) (hsz : ls.size = nL) (hstack : st0 = As.reverse ++ rest) (hrest : (rest.map fun v => v.category).sum ≤ 8) (hdg : decode cc pc = .ok (.invokestatic index, 3)) :
    va_Run p l e R s m args below meth c H locs 0 0 0 0 (F0 m pc ls st0) rest (Qc As.toArray) (fAd Γ) := by
  subst hstack
  exact va_runSN (Ts := lw_g) (own := own) (n := n) ⟨C.1, C.2.1, C.2.2.2.1, C.2.2.2.2.1, C.2.2.2.2.2.1⟩ hM ⟨va_cnB n C.2.2.2.2.2.1 hG rfl hR.1 hR.2.1 hl (C.2.2.2.2.2.1 _ hini) hd hR.2.2, C.2.2.2.2.2.1 _ hst, trivial⟩ ⟨fPre_blind Γ _ σ, fun U hU hW => ⟨rfl, by rw [hU]; exact hP, C.2.2.2.2.2.2.2.1.warm hW⟩⟩ rfl hn hsz rfl (lv_room hrest) hdg ⟨Nat.zero_le _, Nat.zero_le _⟩
theorem fl_i {a : Array Value} {r : Int32} (hS : va_S (fAd Γ) s.heap H locs) (hr : va_Run p l e R s m args below meth c H locs 0 0 0 0 (F0 m pc ls st0) rest (fQi Γ r σ' a) (fAd Γ)) (kk : ∀ (H1 : Heap) (locs1 : List Loc), fH Γ σ' H1 → va_S (fAd Γ) s.heap H1 locs1 → W p l e R s m args below meth c H1 locs1 0 0 Q (F0 m (pc + 3) ls (.int r :: rest))) : W p l e R s m args below meth c H locs 0 0 Q (F0 m pc ls st0) := by
  refine va_calli hr hS (fun q _ h => h) (fun q h => h) (fun r2 u t H1 locs1 ht _ hw hB _ _ hS1 => ?_)
  obtain ⟨rfl, rfl⟩ := hw
  have hB : fH Γ u t.heap := hB
  rw [ht] at hB
  exact kk H1 locs1 hB hS1
theorem fl_f {a : Array Value} {r : UInt32} (hS : va_S (fAd Γ) s.heap H locs) (hr : va_Run p l e R s m args below meth c H locs 0 0 0 0 (F0 m pc ls st0) rest (fQf Γ r σ' a) (fAd Γ)) (kk : ∀ (H1 : Heap) (locs1 : List Loc), fH Γ σ' H1 → va_S (fAd Γ) s.heap H1 locs1 → W p l e R s m args below meth c H1 locs1 0 0 Q (F0 m (pc + 3) ls (.float r :: rest))) : W p l e R s m args below meth c H locs 0 0 Q (F0 m pc ls st0) := by
  refine va_callf hr hS (fun q _ h => h) (fun q h => h) (fun r2 u t H1 locs1 ht _ hw hB _ _ hS1 => ?_)
  obtain ⟨rfl, rfl⟩ := hw
  have hB : fH Γ u t.heap := hB
  rw [ht] at hB
  exact kk H1 locs1 hB hS1
theorem fl_v {a : Array Value} (hS : va_S (fAd Γ) s.heap H locs) (hr : va_Run p l e R s m args below meth c H locs 0 0 0 0 (F0 m pc ls st0) rest (fQv Γ σ' a) (fAd Γ)) (kk : ∀ (H1 : Heap) (locs1 : List Loc), fH Γ σ' H1 → va_S (fAd Γ) s.heap H1 locs1 → W p l e R s m args below meth c H1 locs1 0 0 Q (F0 m (pc + 3) ls rest)) : W p l e R s m args below meth c H locs 0 0 Q (F0 m pc ls st0) := by
  refine va_callv hr hS (fun q _ h => h) (fun q h => h) (fun u t H1 locs1 ht _ hw hB _ _ hS1 => ?_)
  obtain rfl := hw
  have hB : fH Γ u t.heap := hB
  rw [ht] at hB
  exact kk H1 locs1 hB hS1
theorem fl_iret {v r : Int32} (C : fC Γ p s m args meth c cc (some .int) own nL) (hP : fH Γ σ H) (hS : va_S (fAd Γ) s.heap H locs) (hf : some (v, σ) = some (r, σ')) (hdg : decode cc pc = .ok (.ireturn, 1)) : W p l e R s m args below meth c H locs 0 0 (MQ below (fQi Γ r σ') args s 0 0 (fAd Γ)) (F0 m pc ls [.int v]) := by
  cases hf
  exact W.iret C.1 C.2.1 C.2.2.1 (fun t ht _ => ⟨⟨_, _, rfl, ⟨rfl, rfl⟩, by show fH Γ σ t.heap; rw [ht]; exact hP⟩, hS.F ht⟩) hS.2.2 hdg C.2.2.2.2.2.2.1
theorem fl_zret {v r : Int32} (C : fC Γ p s m args meth c cc (some .boolean) own nL) (hP : fH Γ σ H) (hS : va_S (fAd Γ) s.heap H locs) (hz : narrow .boolean (.int v) = .int v) (hf : some (v, σ) = some (r, σ')) (hdg : decode cc pc = .ok (.ireturn, 1)) : W p l e R s m args below meth c H locs 0 0 (MQ below (fQi Γ r σ') args s 0 0 (fAd Γ)) (F0 m pc ls [.int v]) := by
  cases hf
  exact W.zret C.1 C.2.1 C.2.2.1 hz (fun t ht _ => ⟨⟨_, _, rfl, ⟨rfl, rfl⟩, by show fH Γ σ t.heap; rw [ht]; exact hP⟩, hS.F ht⟩) hS.2.2 hdg C.2.2.2.2.2.2.1
theorem fl_fret {v r : UInt32} (C : fC Γ p s m args meth c cc (some .float) own nL) (hP : fH Γ σ H) (hS : va_S (fAd Γ) s.heap H locs) (hf : some (v, σ) = some (r, σ')) (hdg : decode cc pc = .ok (.freturn, 1)) : W p l e R s m args below meth c H locs 0 0 (MQ below (fQf Γ r σ') args s 0 0 (fAd Γ)) (F0 m pc ls [.float v]) := by
  cases hf
  exact W.fret C.1 C.2.1 C.2.2.1 (fun t ht _ => ⟨⟨_, _, rfl, ⟨rfl, rfl⟩, by show fH Γ σ t.heap; rw [ht]; exact hP⟩, hS.F ht⟩) hS.2.2 hdg C.2.2.2.2.2.2.1
theorem fl_vret (C : fC Γ p s m args meth c cc none own nL) (hP : fH Γ σ H) (hS : va_S (fAd Γ) s.heap H locs) (hf : some σ = some σ') (hdg : decode cc pc = .ok (.return_, 1)) : W p l e R s m args below meth c H locs 0 0 (MQ below (fQv Γ σ') args s 0 0 (fAd Γ)) (F0 m pc ls []) := by
  cases hf
  exact W.vret C.1 C.2.1 C.2.2.1 (fun t ht _ => ⟨⟨_, rfl, rfl, by show fH Γ σ t.heap; rw [ht]; exact hP⟩, hS.F ht⟩) hS.2.2 hdg C.2.2.2.2.2.2.1
end FL
theorem fl_enter {Γ : fGm} (hI : fI Γ) {l : Launch} {y : MethodName} {cc : ByteArray} {maxL : Nat} {ret : Option FieldType} {rm : Room} {av : List Value} {σ : fS} {Qc : Array Value → State → Outcome → State → Prop} {own : String} (hy : plainName y.cls = true) (hown : y.cls = own) (hn : (lg_sl av).length ≤ maxL)
    (body : ∀ (p : Program) (e : Env) (s : State) (m : MethodId) (args : Array Value) (below : List Frame) (meth : Method) (c : Code) (ls : Array Slot), fC Γ p s m args meth c cc ret own maxL → lv_has ls maxL (lv_args 0 av) → fH Γ σ s.heap → va_S (fAd Γ) s.heap s.heap [] → W p l e rm s m args below meth c s.heap [] 0 0 (MQ below Qc args s 0 0 (fAd Γ)) (F0 m 0 ls [])) : Met l y (.code y cc maxL ret :: lw_g) rm (fPre Γ av σ) Qc 0 0 (fAd Γ) := by
  refine Met.ofW (cc := cc) (maxL := maxL) (ret := ret) hy rfl ?_
  intro p e s m args below meth c s₁ B hml hv
  obtain ⟨rfl, hP, hK⟩ := hv
  have hts := atoms_spec (ws := Cond.code y cc maxL ret :: lw_g) B.pre
  have hl := lv_entry av (n := maxL) hn
  rw [lg_entry_eq]
  exact body p e s m av.toArray below meth c _ ⟨B.exec, B.bytes, B.returns, hml, by rw [← hown]; exact findClass_of_methodNamed B.named, fun w h => hts w (List.mem_cons_of_mem _ h), B.notSynchronized, hK, hI⟩ hl hP va_S.rf
/-! ===== the pure side's words ===== -/
def fb {α : Type} (i : Int32) (n : Nat) (k : Option α) : Option α := if i < 0 ∨ n ≤ i.toNatClampNeg then none else k
theorem fb_some {α : Type} {i : Int32} {n : Nat} {k : Option α} {x : α} (h : fb i n k = some x) : vp_in i n ∧ k = some x := by
  unfold fb at h
  split at h
  · cases h
  · exact ⟨by assumption, h⟩
def fg {α : Type} (c : Prop) [Decidable c] (k : Option α) : Option α := if c then k else none
theorem fg_some {α : Type} {c : Prop} [Decidable c] {k : Option α} {x : α} (h : fg c k = some x) : c ∧ k = some x := by
  unfold fg at h
  split at h
  · exact ⟨by assumption, h⟩
  · cases h
theorem fbind {α β : Type} {o : Option α} {k : α → Option β} {x : β} (h : o.bind k = some x) : ∃ a, o = some a ∧ k a = some x := by
  cases o with
  | none => cases h
  | some a => exact ⟨a, rfl, h⟩
def fL {α β : Type} (a : α) (k : α → β) : β := k a
end
section
theorem tw_0 : Cond.selects "FerryTimetable" (⟨"FerryTimetable", "noted", "(I)I"⟩ : MethodName) (⟨"FerryTimetable", "noted", "(I)I"⟩ : MethodName) ∈ lw_g := fw_g (List.mem_of_getElem? (i := 0) (by decide +kernel)) (by decide +kernel)
theorem tw_1 : Cond.selects "FerryTimetable$Text" (⟨"FerryTimetable$Text", "findEntries", "()I"⟩ : MethodName) (⟨"FerryTimetable$Text", "findEntries", "()I"⟩ : MethodName) ∈ lw_g := fw_g (List.mem_of_getElem? (i := 1) (by decide +kernel)) (by decide +kernel)
theorem tw_2 : Cond.selects "FerryTimetable$Text" (⟨"FerryTimetable$Text", "findEntry", "()Z"⟩ : MethodName) (⟨"FerryTimetable$Text", "findEntry", "()Z"⟩ : MethodName) ∈ lw_g := fw_g (List.mem_of_getElem? (i := 2) (by decide +kernel)) (by decide +kernel)
theorem tw_3 : Cond.selects "FerryTimetable$Text" (⟨"FerryTimetable$Text", "signHere", "()I"⟩ : MethodName) (⟨"FerryTimetable$Text", "signHere", "()I"⟩ : MethodName) ∈ lw_g := fw_g (List.mem_of_getElem? (i := 3) (by decide +kernel)) (by decide +kernel)
theorem tw_4 : Cond.selects "FerryTimetable$Text" (⟨"FerryTimetable$Text", "passes", "(C)Z"⟩ : MethodName) (⟨"FerryTimetable$Text", "passes", "(C)Z"⟩ : MethodName) ∈ lw_g := fw_g (List.mem_of_getElem? (i := 4) (by decide +kernel)) (by decide +kernel)
theorem tw_5 : Cond.selects "FerryTimetable$Text" (⟨"FerryTimetable$Text", "findNumber", "(III)Z"⟩ : MethodName) (⟨"FerryTimetable$Text", "findNumber", "(III)Z"⟩ : MethodName) ∈ lw_g := fw_g (List.mem_of_getElem? (i := 5) (by decide +kernel)) (by decide +kernel)
theorem tw_6 : Cond.selects "FerryTimetable$Text" (⟨"FerryTimetable$Text", "makeEntry", "(LFerryTimetable$Port;I)I"⟩ : MethodName) (⟨"FerryTimetable$Text", "makeEntry", "(LFerryTimetable$Port;I)I"⟩ : MethodName) ∈ lw_g := fw_g (List.mem_of_getElem? (i := 6) (by decide +kernel)) (by decide +kernel)
theorem tw_7 : Cond.selects "FerryTimetable$Decisions" (⟨"FerryTimetable$Decisions", "decide", "(LFerryTimetable$Port;I)V"⟩ : MethodName) (⟨"FerryTimetable$Decisions", "decide", "(LFerryTimetable$Port;I)V"⟩ : MethodName) ∈ lw_g := fw_g (List.mem_of_getElem? (i := 7) (by decide +kernel)) (by decide +kernel)
theorem tw_8 : Cond.selects "FerryTimetable$Decisions" (⟨"FerryTimetable$Decisions", "firstInTheWay", "(LFerryTimetable$Port;II)I"⟩ : MethodName) (⟨"FerryTimetable$Decisions", "firstInTheWay", "(LFerryTimetable$Port;II)I"⟩ : MethodName) ∈ lw_g := fw_g (List.mem_of_getElem? (i := 8) (by decide +kernel)) (by decide +kernel)
theorem tw_9 : Cond.selects "FerryTimetable$Decisions" (⟨"FerryTimetable$Decisions", "settleConnections", "(LFerryTimetable$Port;I)V"⟩ : MethodName) (⟨"FerryTimetable$Decisions", "settleConnections", "(LFerryTimetable$Port;I)V"⟩ : MethodName) ∈ lw_g := fw_g (List.mem_of_getElem? (i := 9) (by decide +kernel)) (by decide +kernel)
theorem tw_10 : Cond.selects "FerryTimetable$Loading" (⟨"FerryTimetable$Loading", "emptyLanes", "(LFerryTimetable$Port;I)V"⟩ : MethodName) (⟨"FerryTimetable$Loading", "emptyLanes", "(LFerryTimetable$Port;I)V"⟩ : MethodName) ∈ lw_g := fw_g (List.mem_of_getElem? (i := 10) (by decide +kernel)) (by decide +kernel)
theorem tw_11 : Cond.selects "FerryTimetable$Loading" (⟨"FerryTimetable$Loading", "lineUp", "(II)V"⟩ : MethodName) (⟨"FerryTimetable$Loading", "lineUp", "(II)V"⟩ : MethodName) ∈ lw_g := fw_g (List.mem_of_getElem? (i := 11) (by decide +kernel)) (by decide +kernel)
theorem tw_12 : Cond.selects "FerryTimetable$Loading" (⟨"FerryTimetable$Loading", "loadOrShift", "(LFerryTimetable$Port;LFerryTimetable$Decisions;I)V"⟩ : MethodName) (⟨"FerryTimetable$Loading", "loadOrShift", "(LFerryTimetable$Port;LFerryTimetable$Decisions;I)V"⟩ : MethodName) ∈ lw_g := fw_g (List.mem_of_getElem? (i := 12) (by decide +kernel)) (by decide +kernel)
theorem tw_13 : Cond.selects "FerryTimetable$Loading" (⟨"FerryTimetable$Loading", "findLane", "(LFerryTimetable$Port;II)I"⟩ : MethodName) (⟨"FerryTimetable$Loading", "findLane", "(LFerryTimetable$Port;II)I"⟩ : MethodName) ∈ lw_g := fw_g (List.mem_of_getElem? (i := 13) (by decide +kernel)) (by decide +kernel)
theorem tw_14 : Cond.selects "FerryTimetable$Loading" (⟨"FerryTimetable$Loading", "mayStand", "(LFerryTimetable$Port;III)Z"⟩ : MethodName) (⟨"FerryTimetable$Loading", "mayStand", "(LFerryTimetable$Port;III)Z"⟩ : MethodName) ∈ lw_g := fw_g (List.mem_of_getElem? (i := 14) (by decide +kernel)) (by decide +kernel)
theorem tw_15 : Cond.selects "FerryTimetable$Loading" (⟨"FerryTimetable$Loading", "board", "(LFerryTimetable$Port;III)V"⟩ : MethodName) (⟨"FerryTimetable$Loading", "board", "(LFerryTimetable$Port;III)V"⟩ : MethodName) ∈ lw_g := fw_g (List.mem_of_getElem? (i := 15) (by decide +kernel)) (by decide +kernel)
theorem tw_16 : Cond.selects "FerryTimetable$Loading" (⟨"FerryTimetable$Loading", "unloadLane", "(LFerryTimetable$Port;IIII)I"⟩ : MethodName) (⟨"FerryTimetable$Loading", "unloadLane", "(LFerryTimetable$Port;IIII)I"⟩ : MethodName) ∈ lw_g := fw_g (List.mem_of_getElem? (i := 16) (by decide +kernel)) (by decide +kernel)
theorem tw_17 : Cond.selects "FerryTimetable$Loading" (⟨"FerryTimetable$Loading", "countInLane", "(LFerryTimetable$Port;II)I"⟩ : MethodName) (⟨"FerryTimetable$Loading", "countInLane", "(LFerryTimetable$Port;II)I"⟩ : MethodName) ∈ lw_g := fw_g (List.mem_of_getElem? (i := 17) (by decide +kernel)) (by decide +kernel)
theorem tw_18 : Cond.selects "FerryTimetable$Loading" (⟨"FerryTimetable$Loading", "sumMetersInLane", "(LFerryTimetable$Port;II)I"⟩ : MethodName) (⟨"FerryTimetable$Loading", "sumMetersInLane", "(LFerryTimetable$Port;II)I"⟩ : MethodName) ∈ lw_g := fw_g (List.mem_of_getElem? (i := 18) (by decide +kernel)) (by decide +kernel)
theorem tw_19 : Cond.selects "FerryTimetable$Shelf" (⟨"FerryTimetable$Shelf", "countFilled", "(I)I"⟩ : MethodName) (⟨"FerryTimetable$Shelf", "countFilled", "(I)I"⟩ : MethodName) ∈ lw_g := fw_g (List.mem_of_getElem? (i := 19) (by decide +kernel)) (by decide +kernel)
theorem tw_20 : Cond.selects "FerryTimetableModel" (⟨"FerryTimetableModel", "remembers", "()V"⟩ : MethodName) (⟨"FerryTimetableModel", "remembers", "()V"⟩ : MethodName) ∈ lw_g := fw_g (List.mem_of_getElem? (i := 20) (by decide +kernel)) (by decide +kernel)
theorem tw_21 : Cond.selects "FerryTimetableModel" (⟨"FerryTimetableModel", "addsShip", "(IIII)I"⟩ : MethodName) (⟨"FerryTimetableModel", "addsShip", "(IIII)I"⟩ : MethodName) ∈ lw_g := fw_g (List.mem_of_getElem? (i := 21) (by decide +kernel)) (by decide +kernel)
theorem tw_22 : Cond.selects "FerryTimetableModel" (⟨"FerryTimetableModel", "kept", "(I)I"⟩ : MethodName) (⟨"FerryTimetableModel", "kept", "(I)I"⟩ : MethodName) ∈ lw_g := fw_g (List.mem_of_getElem? (i := 22) (by decide +kernel)) (by decide +kernel)
theorem tw_23 : Cond.selects "FerryTimetableModel" (⟨"FerryTimetableModel", "addsBerth", "(II)I"⟩ : MethodName) (⟨"FerryTimetableModel", "addsBerth", "(II)I"⟩ : MethodName) ∈ lw_g := fw_g (List.mem_of_getElem? (i := 23) (by decide +kernel)) (by decide +kernel)
theorem tw_24 : Cond.selects "FerryTimetableModel" (⟨"FerryTimetableModel", "addsCrossing", "(IIII)I"⟩ : MethodName) (⟨"FerryTimetableModel", "addsCrossing", "(IIII)I"⟩ : MethodName) ∈ lw_g := fw_g (List.mem_of_getElem? (i := 24) (by decide +kernel)) (by decide +kernel)
theorem tw_25 : Cond.selects "FerryTimetableModel" (⟨"FerryTimetableModel", "isShip", "(I)Z"⟩ : MethodName) (⟨"FerryTimetableModel", "isShip", "(I)Z"⟩ : MethodName) ∈ lw_g := fw_g (List.mem_of_getElem? (i := 25) (by decide +kernel)) (by decide +kernel)
theorem tw_26 : Cond.selects "FerryTimetableModel" (⟨"FerryTimetableModel", "isBerth", "(I)Z"⟩ : MethodName) (⟨"FerryTimetableModel", "isBerth", "(I)Z"⟩ : MethodName) ∈ lw_g := fw_g (List.mem_of_getElem? (i := 26) (by decide +kernel)) (by decide +kernel)
theorem tw_27 : Cond.selects "FerryTimetableModel" (⟨"FerryTimetableModel", "addsVehicle", "(III)I"⟩ : MethodName) (⟨"FerryTimetableModel", "addsVehicle", "(III)I"⟩ : MethodName) ∈ lw_g := fw_g (List.mem_of_getElem? (i := 27) (by decide +kernel)) (by decide +kernel)
theorem tw_28 : Cond.selects "FerryTimetableModel" (⟨"FerryTimetableModel", "isCrossing", "(I)Z"⟩ : MethodName) (⟨"FerryTimetableModel", "isCrossing", "(I)Z"⟩ : MethodName) ∈ lw_g := fw_g (List.mem_of_getElem? (i := 28) (by decide +kernel)) (by decide +kernel)
theorem tw_29 : Cond.selects "FerryTimetableModel" (⟨"FerryTimetableModel", "addsConnection", "(IIII)I"⟩ : MethodName) (⟨"FerryTimetableModel", "addsConnection", "(IIII)I"⟩ : MethodName) ∈ lw_g := fw_g (List.mem_of_getElem? (i := 29) (by decide +kernel)) (by decide +kernel)
theorem tw_30 : Cond.selects "FerryTimetableModel" (⟨"FerryTimetableModel", "cuts", "(IIII)V"⟩ : MethodName) (⟨"FerryTimetableModel", "cuts", "(IIII)V"⟩ : MethodName) ∈ lw_g := fw_g (List.mem_of_getElem? (i := 30) (by decide +kernel)) (by decide +kernel)
theorem tw_31 : Cond.selects "FerryTimetableModel" (⟨"FerryTimetableModel", "berthOf", "(II)I"⟩ : MethodName) (⟨"FerryTimetableModel", "berthOf", "(II)I"⟩ : MethodName) ∈ lw_g := fw_g (List.mem_of_getElem? (i := 31) (by decide +kernel)) (by decide +kernel)
theorem tw_32 : Cond.selects "FerryTimetableModel" (⟨"FerryTimetableModel", "setsTide", "(II)I"⟩ : MethodName) (⟨"FerryTimetableModel", "setsTide", "(II)I"⟩ : MethodName) ∈ lw_g := fw_g (List.mem_of_getElem? (i := 32) (by decide +kernel)) (by decide +kernel)
theorem tw_33 : Cond.selects "FerryTimetableModel" (⟨"FerryTimetableModel", "setsWind", "(II)I"⟩ : MethodName) (⟨"FerryTimetableModel", "setsWind", "(II)I"⟩ : MethodName) ∈ lw_g := fw_g (List.mem_of_getElem? (i := 33) (by decide +kernel)) (by decide +kernel)
theorem tw_34 : Cond.selects "FerryTimetableModel" (⟨"FerryTimetableModel", "readsEntry", "()Z"⟩ : MethodName) (⟨"FerryTimetableModel", "readsEntry", "()Z"⟩ : MethodName) ∈ lw_g := fw_g (List.mem_of_getElem? (i := 34) (by decide +kernel)) (by decide +kernel)
theorem tw_35 : Cond.selects "FerryTimetableModel" (⟨"FerryTimetableModel", "readsNumber", "(I)Z"⟩ : MethodName) (⟨"FerryTimetableModel", "readsNumber", "(I)Z"⟩ : MethodName) ∈ lw_g := fw_g (List.mem_of_getElem? (i := 35) (by decide +kernel)) (by decide +kernel)
theorem tw_36 : Cond.selects "FerryTimetableModel" (⟨"FerryTimetableModel", "eats", "(I)Z"⟩ : MethodName) (⟨"FerryTimetableModel", "eats", "(I)Z"⟩ : MethodName) ∈ lw_g := fw_g (List.mem_of_getElem? (i := 36) (by decide +kernel)) (by decide +kernel)
theorem tw_37 : Cond.selects "FerryTimetableModel" (⟨"FerryTimetableModel", "does", "()I"⟩ : MethodName) (⟨"FerryTimetableModel", "does", "()I"⟩ : MethodName) ∈ lw_g := fw_g (List.mem_of_getElem? (i := 37) (by decide +kernel)) (by decide +kernel)
theorem tw_38 : Cond.selects "FerryTimetableModel" (⟨"FerryTimetableModel", "brings", "()V"⟩ : MethodName) (⟨"FerryTimetableModel", "brings", "()V"⟩ : MethodName) ∈ lw_g := fw_g (List.mem_of_getElem? (i := 38) (by decide +kernel)) (by decide +kernel)
theorem tw_39 : Cond.selects "FerryTimetableModel" (⟨"FerryTimetableModel", "shipOf", "(II)I"⟩ : MethodName) (⟨"FerryTimetableModel", "shipOf", "(II)I"⟩ : MethodName) ∈ lw_g := fw_g (List.mem_of_getElem? (i := 39) (by decide +kernel)) (by decide +kernel)
theorem tw_40 : Cond.selects "FerryTimetableModel" (⟨"FerryTimetableModel", "sailing", "(II)I"⟩ : MethodName) (⟨"FerryTimetableModel", "sailing", "(II)I"⟩ : MethodName) ∈ lw_g := fw_g (List.mem_of_getElem? (i := 40) (by decide +kernel)) (by decide +kernel)
theorem tw_41 : Cond.selects "FerryTimetableModel" (⟨"FerryTimetableModel", "tell", "()V"⟩ : MethodName) (⟨"FerryTimetableModel", "tell", "()V"⟩ : MethodName) ∈ lw_g := fw_g (List.mem_of_getElem? (i := 41) (by decide +kernel)) (by decide +kernel)
theorem tw_42 : Cond.selects "FerryTimetableModel" (⟨"FerryTimetableModel", "sorts", "()V"⟩ : MethodName) (⟨"FerryTimetableModel", "sorts", "()V"⟩ : MethodName) ∈ lw_g := fw_g (List.mem_of_getElem? (i := 42) (by decide +kernel)) (by decide +kernel)
theorem tw_43 : Cond.selects "FerryTimetableModel" (⟨"FerryTimetableModel", "of", "(II)I"⟩ : MethodName) (⟨"FerryTimetableModel", "of", "(II)I"⟩ : MethodName) ∈ lw_g := fw_g (List.mem_of_getElem? (i := 43) (by decide +kernel)) (by decide +kernel)
theorem tw_44 : Cond.selects "FerryTimetableModel" (⟨"FerryTimetableModel", "decides", "(I)V"⟩ : MethodName) (⟨"FerryTimetableModel", "decides", "(I)V"⟩ : MethodName) ∈ lw_g := fw_g (List.mem_of_getElem? (i := 44) (by decide +kernel)) (by decide +kernel)
theorem tw_45 : Cond.selects "FerryTimetableModel" (⟨"FerryTimetableModel", "shallow", "(I)I"⟩ : MethodName) (⟨"FerryTimetableModel", "shallow", "(I)I"⟩ : MethodName) ∈ lw_g := fw_g (List.mem_of_getElem? (i := 45) (by decide +kernel)) (by decide +kernel)
theorem tw_46 : Cond.selects "FerryTimetableModel" (⟨"FerryTimetableModel", "isDeep", "(III)Z"⟩ : MethodName) (⟨"FerryTimetableModel", "isDeep", "(III)Z"⟩ : MethodName) ∈ lw_g := fw_g (List.mem_of_getElem? (i := 46) (by decide +kernel)) (by decide +kernel)
theorem tw_47 : Cond.selects "FerryTimetableModel" (⟨"FerryTimetableModel", "waterAt", "(II)I"⟩ : MethodName) (⟨"FerryTimetableModel", "waterAt", "(II)I"⟩ : MethodName) ∈ lw_g := fw_g (List.mem_of_getElem? (i := 47) (by decide +kernel)) (by decide +kernel)
theorem tw_48 : Cond.selects "FerryTimetableModel" (⟨"FerryTimetableModel", "heightAt", "(I)I"⟩ : MethodName) (⟨"FerryTimetableModel", "heightAt", "(I)I"⟩ : MethodName) ∈ lw_g := fw_g (List.mem_of_getElem? (i := 48) (by decide +kernel)) (by decide +kernel)
theorem tw_49 : Cond.selects "FerryTimetableModel" (⟨"FerryTimetableModel", "floatHeight", "(I)F"⟩ : MethodName) (⟨"FerryTimetableModel", "floatHeight", "(I)F"⟩ : MethodName) ∈ lw_g := fw_g (List.mem_of_getElem? (i := 49) (by decide +kernel)) (by decide +kernel)
theorem tw_50 : Cond.selects "FerryTimetableModel" (⟨"FerryTimetableModel", "blocker", "(II)I"⟩ : MethodName) (⟨"FerryTimetableModel", "blocker", "(II)I"⟩ : MethodName) ∈ lw_g := fw_g (List.mem_of_getElem? (i := 50) (by decide +kernel)) (by decide +kernel)
theorem tw_51 : Cond.selects "FerryTimetableModel" (⟨"FerryTimetableModel", "isCalm", "(II)Z"⟩ : MethodName) (⟨"FerryTimetableModel", "isCalm", "(II)Z"⟩ : MethodName) ∈ lw_g := fw_g (List.mem_of_getElem? (i := 51) (by decide +kernel)) (by decide +kernel)
theorem tw_52 : Cond.selects "FerryTimetableModel" (⟨"FerryTimetableModel", "connectionOf", "(II)I"⟩ : MethodName) (⟨"FerryTimetableModel", "connectionOf", "(II)I"⟩ : MethodName) ∈ lw_g := fw_g (List.mem_of_getElem? (i := 52) (by decide +kernel)) (by decide +kernel)
theorem tw_53 : Cond.selects "FerryTimetableModel" (⟨"FerryTimetableModel", "kindOf", "(I)I"⟩ : MethodName) (⟨"FerryTimetableModel", "kindOf", "(I)I"⟩ : MethodName) ∈ lw_g := fw_g (List.mem_of_getElem? (i := 53) (by decide +kernel)) (by decide +kernel)
theorem tw_54 : Cond.selects "FerryTimetableModel" (⟨"FerryTimetableModel", "vehicleOf", "(II)I"⟩ : MethodName) (⟨"FerryTimetableModel", "vehicleOf", "(II)I"⟩ : MethodName) ∈ lw_g := fw_g (List.mem_of_getElem? (i := 54) (by decide +kernel)) (by decide +kernel)
theorem tw_55 : Cond.selects "FerryTimetableModel" (⟨"FerryTimetableModel", "waitsAt", "(II)V"⟩ : MethodName) (⟨"FerryTimetableModel", "waitsAt", "(II)V"⟩ : MethodName) ∈ lw_g := fw_g (List.mem_of_getElem? (i := 55) (by decide +kernel)) (by decide +kernel)
theorem tw_56 : Cond.selects "FerryTimetableModel" (⟨"FerryTimetableModel", "loads", "(II)V"⟩ : MethodName) (⟨"FerryTimetableModel", "loads", "(II)V"⟩ : MethodName) ∈ lw_g := fw_g (List.mem_of_getElem? (i := 56) (by decide +kernel)) (by decide +kernel)
theorem tw_57 : Cond.selects "FerryTimetableModel" (⟨"FerryTimetableModel", "laneFor", "(II)I"⟩ : MethodName) (⟨"FerryTimetableModel", "laneFor", "(II)I"⟩ : MethodName) ∈ lw_g := fw_g (List.mem_of_getElem? (i := 57) (by decide +kernel)) (by decide +kernel)
theorem tw_58 : Cond.selects "FerryTimetableModel" (⟨"FerryTimetableModel", "shiftsFrom", "(II)V"⟩ : MethodName) (⟨"FerryTimetableModel", "shiftsFrom", "(II)V"⟩ : MethodName) ∈ lw_g := fw_g (List.mem_of_getElem? (i := 58) (by decide +kernel)) (by decide +kernel)
theorem tw_59 : Cond.selects "FerryTimetableModel" (⟨"FerryTimetableModel", "loaded", "(I)I"⟩ : MethodName) (⟨"FerryTimetableModel", "loaded", "(I)I"⟩ : MethodName) ∈ lw_g := fw_g (List.mem_of_getElem? (i := 59) (by decide +kernel)) (by decide +kernel)
theorem tw_60 : Cond.selects "FerryTimetableModel" (⟨"FerryTimetableModel", "isLane", "(II)Z"⟩ : MethodName) (⟨"FerryTimetableModel", "isLane", "(II)Z"⟩ : MethodName) ∈ lw_g := fw_g (List.mem_of_getElem? (i := 60) (by decide +kernel)) (by decide +kernel)
theorem tw_61 : Cond.selects "FerryTimetableModel" (⟨"FerryTimetableModel", "tellLeaving", "(I)V"⟩ : MethodName) (⟨"FerryTimetableModel", "tellLeaving", "(I)V"⟩ : MethodName) ∈ lw_g := fw_g (List.mem_of_getElem? (i := 61) (by decide +kernel)) (by decide +kernel)
theorem tw_62 : Cond.selects "FerryTimetableModel" (⟨"FerryTimetableModel", "passengers", "(Z)I"⟩ : MethodName) (⟨"FerryTimetableModel", "passengers", "(Z)I"⟩ : MethodName) ∈ lw_g := fw_g (List.mem_of_getElem? (i := 62) (by decide +kernel)) (by decide +kernel)
theorem tw_63 : Cond.selects "FerryTimetableModel" (⟨"FerryTimetableModel", "allAboard", "()I"⟩ : MethodName) (⟨"FerryTimetableModel", "allAboard", "()I"⟩ : MethodName) ∈ lw_g := fw_g (List.mem_of_getElem? (i := 63) (by decide +kernel)) (by decide +kernel)
theorem tw_64 : Cond.selects "FerryTimetableModel" (⟨"FerryTimetableModel", "meters", "()I"⟩ : MethodName) (⟨"FerryTimetableModel", "meters", "()I"⟩ : MethodName) ∈ lw_g := fw_g (List.mem_of_getElem? (i := 64) (by decide +kernel)) (by decide +kernel)
theorem tw_65 : Cond.selects "FerryTimetableModel" (⟨"FerryTimetableModel", "laneMeters", "()I"⟩ : MethodName) (⟨"FerryTimetableModel", "laneMeters", "()I"⟩ : MethodName) ∈ lw_g := fw_g (List.mem_of_getElem? (i := 65) (by decide +kernel)) (by decide +kernel)
theorem tw_67 : Cond.initialized "FerryTimetable" ∈ lw_g := fw_g (List.mem_of_getElem? (i := 67) (by decide +kernel)) (by decide +kernel)
theorem tw_68 : Cond.initialized "FerryTimetable$Port" ∈ lw_g := fw_g (List.mem_of_getElem? (i := 68) (by decide +kernel)) (by decide +kernel)
theorem tw_69 : Cond.initialized "FerryTimetable$Table" ∈ lw_g := fw_g (List.mem_of_getElem? (i := 69) (by decide +kernel)) (by decide +kernel)
theorem tw_70 : Cond.initialized "FerryTimetable$History" ∈ lw_g := fw_g (List.mem_of_getElem? (i := 70) (by decide +kernel)) (by decide +kernel)
theorem tw_71 : Cond.initialized "FerryTimetable$Decisions" ∈ lw_g := fw_g (List.mem_of_getElem? (i := 71) (by decide +kernel)) (by decide +kernel)
theorem tw_72 : Cond.initialized "FerryTimetable$Loading" ∈ lw_g := fw_g (List.mem_of_getElem? (i := 72) (by decide +kernel)) (by decide +kernel)
theorem tw_73 : Cond.initialized "FerryTimetable$Text" ∈ lw_g := fw_g (List.mem_of_getElem? (i := 73) (by decide +kernel)) (by decide +kernel)
theorem tw_74 : Cond.initialized "FerryTimetable$Shelf" ∈ lw_g := fw_g (List.mem_of_getElem? (i := 74) (by decide +kernel)) (by decide +kernel)
theorem tw_75 : Cond.initialized "FerryTimetableModel" ∈ lw_g := fw_g (List.mem_of_getElem? (i := 75) (by decide +kernel)) (by decide +kernel)
theorem tw_76 : Cond.initialized "java/lang/Math" ∈ lw_g := fw_g (List.mem_of_getElem? (i := 76) (by decide +kernel)) (by decide +kernel)
theorem tw_77 : Cond.initialized "java/lang/System" ∈ lw_g := fw_g (List.mem_of_getElem? (i := 77) (by decide +kernel)) (by decide +kernel)
theorem tw_78 : Cond.initialized "java/lang/Float" ∈ lw_g := fw_g (List.mem_of_getElem? (i := 78) (by decide +kernel)) (by decide +kernel)
theorem tw_99 : Cond.fieldLink "FerryTimetable$Table" 9 "FerryTimetable$Table" "room" "I" ∈ lw_g := fw_g (List.mem_of_getElem? (i := 99) (by decide +kernel)) (by decide +kernel)
theorem tw_100 : Cond.fieldLink "FerryTimetable$Table" 15 "FerryTimetable$Table" "width" "I" ∈ lw_g := fw_g (List.mem_of_getElem? (i := 100) (by decide +kernel)) (by decide +kernel)
theorem tw_101 : Cond.fieldLink "FerryTimetable$Table" 21 "FerryTimetable$Table" "cells" "[I" ∈ lw_g := fw_g (List.mem_of_getElem? (i := 101) (by decide +kernel)) (by decide +kernel)
theorem tw_102 : Cond.fieldLink "FerryTimetable$Table" 18 "FerryTimetable$Table" "rows" "I" ∈ lw_g := fw_g (List.mem_of_getElem? (i := 102) (by decide +kernel)) (by decide +kernel)
theorem tw_113 : Cond.fieldLink "FerryTimetable$Port" 14 "FerryTimetable$Port" "ships" "LFerryTimetable$Table;" ∈ lw_g := fw_g (List.mem_of_getElem? (i := 113) (by decide +kernel)) (by decide +kernel)
theorem tw_114 : Cond.fieldLink "FerryTimetable" 116 "FerryTimetable$Port" "ships" "LFerryTimetable$Table;" ∈ lw_g := fw_g (List.mem_of_getElem? (i := 114) (by decide +kernel)) (by decide +kernel)
theorem tw_115 : Cond.fieldLink "FerryTimetable$Port" 20 "FerryTimetable$Port" "berths" "LFerryTimetable$Table;" ∈ lw_g := fw_g (List.mem_of_getElem? (i := 115) (by decide +kernel)) (by decide +kernel)
theorem tw_116 : Cond.fieldLink "FerryTimetable" 126 "FerryTimetable$Port" "berths" "LFerryTimetable$Table;" ∈ lw_g := fw_g (List.mem_of_getElem? (i := 116) (by decide +kernel)) (by decide +kernel)
theorem tw_117 : Cond.fieldLink "FerryTimetable$Port" 23 "FerryTimetable$Port" "crossings" "LFerryTimetable$Table;" ∈ lw_g := fw_g (List.mem_of_getElem? (i := 117) (by decide +kernel)) (by decide +kernel)
theorem tw_118 : Cond.fieldLink "FerryTimetable$Decisions" 30 "FerryTimetable$Port" "crossings" "LFerryTimetable$Table;" ∈ lw_g := fw_g (List.mem_of_getElem? (i := 118) (by decide +kernel)) (by decide +kernel)
theorem tw_119 : Cond.fieldLink "FerryTimetable$Loading" 45 "FerryTimetable$Port" "crossings" "LFerryTimetable$Table;" ∈ lw_g := fw_g (List.mem_of_getElem? (i := 119) (by decide +kernel)) (by decide +kernel)
theorem tw_120 : Cond.fieldLink "FerryTimetable" 129 "FerryTimetable$Port" "crossings" "LFerryTimetable$Table;" ∈ lw_g := fw_g (List.mem_of_getElem? (i := 120) (by decide +kernel)) (by decide +kernel)
theorem tw_121 : Cond.fieldLink "FerryTimetable$Port" 26 "FerryTimetable$Port" "vehicles" "LFerryTimetable$Table;" ∈ lw_g := fw_g (List.mem_of_getElem? (i := 121) (by decide +kernel)) (by decide +kernel)
theorem tw_122 : Cond.fieldLink "FerryTimetable$Loading" 61 "FerryTimetable$Port" "vehicles" "LFerryTimetable$Table;" ∈ lw_g := fw_g (List.mem_of_getElem? (i := 122) (by decide +kernel)) (by decide +kernel)
theorem tw_123 : Cond.fieldLink "FerryTimetable" 132 "FerryTimetable$Port" "vehicles" "LFerryTimetable$Table;" ∈ lw_g := fw_g (List.mem_of_getElem? (i := 123) (by decide +kernel)) (by decide +kernel)
theorem tw_124 : Cond.fieldLink "FerryTimetable$Port" 29 "FerryTimetable$Port" "connections" "LFerryTimetable$Table;" ∈ lw_g := fw_g (List.mem_of_getElem? (i := 124) (by decide +kernel)) (by decide +kernel)
theorem tw_125 : Cond.fieldLink "FerryTimetable$Decisions" 82 "FerryTimetable$Port" "connections" "LFerryTimetable$Table;" ∈ lw_g := fw_g (List.mem_of_getElem? (i := 125) (by decide +kernel)) (by decide +kernel)
theorem tw_126 : Cond.fieldLink "FerryTimetable" 135 "FerryTimetable$Port" "connections" "LFerryTimetable$Table;" ∈ lw_g := fw_g (List.mem_of_getElem? (i := 126) (by decide +kernel)) (by decide +kernel)
theorem tw_127 : Cond.fieldLink "FerryTimetable$Port" 32 "FerryTimetable$Port" "tides" "LFerryTimetable$Table;" ∈ lw_g := fw_g (List.mem_of_getElem? (i := 127) (by decide +kernel)) (by decide +kernel)
theorem tw_128 : Cond.fieldLink "FerryTimetable" 183 "FerryTimetable$Port" "tides" "LFerryTimetable$Table;" ∈ lw_g := fw_g (List.mem_of_getElem? (i := 128) (by decide +kernel)) (by decide +kernel)
theorem tw_129 : Cond.fieldLink "FerryTimetable$Port" 35 "FerryTimetable$Port" "winds" "LFerryTimetable$Table;" ∈ lw_g := fw_g (List.mem_of_getElem? (i := 129) (by decide +kernel)) (by decide +kernel)
theorem tw_130 : Cond.fieldLink "FerryTimetable" 186 "FerryTimetable$Port" "winds" "LFerryTimetable$Table;" ∈ lw_g := fw_g (List.mem_of_getElem? (i := 130) (by decide +kernel)) (by decide +kernel)
theorem tw_131 : Cond.fieldLink "FerryTimetable$Port" 38 "FerryTimetable$Port" "margin" "I" ∈ lw_g := fw_g (List.mem_of_getElem? (i := 131) (by decide +kernel)) (by decide +kernel)
theorem tw_132 : Cond.fieldLink "FerryTimetable" 141 "FerryTimetable$Port" "margin" "I" ∈ lw_g := fw_g (List.mem_of_getElem? (i := 132) (by decide +kernel)) (by decide +kernel)
theorem tw_159 : Cond.fieldLink "FerryTimetable$History" 13 "FerryTimetable$History" "earlier" "[LFerryTimetable$Port;" ∈ lw_g := fw_g (List.mem_of_getElem? (i := 159) (by decide +kernel)) (by decide +kernel)
theorem tw_160 : Cond.fieldLink "FerryTimetable$History" 18 "FerryTimetable$History" "next" "I" ∈ lw_g := fw_g (List.mem_of_getElem? (i := 160) (by decide +kernel)) (by decide +kernel)
theorem tw_161 : Cond.fieldLink "FerryTimetable$History" 22 "FerryTimetable$History" "held" "I" ∈ lw_g := fw_g (List.mem_of_getElem? (i := 161) (by decide +kernel)) (by decide +kernel)
theorem tw_175 : Cond.fieldLink "FerryTimetable$Decisions" 9 "FerryTimetable$Decisions" "order" "[I" ∈ lw_g := fw_g (List.mem_of_getElem? (i := 175) (by decide +kernel)) (by decide +kernel)
theorem tw_176 : Cond.fieldLink "FerryTimetable$Loading" 80 "FerryTimetable$Decisions" "order" "[I" ∈ lw_g := fw_g (List.mem_of_getElem? (i := 176) (by decide +kernel)) (by decide +kernel)
theorem tw_177 : Cond.fieldLink "FerryTimetable" 176 "FerryTimetable$Decisions" "order" "[I" ∈ lw_g := fw_g (List.mem_of_getElem? (i := 177) (by decide +kernel)) (by decide +kernel)
theorem tw_178 : Cond.fieldLink "FerryTimetable$Decisions" 15 "FerryTimetable$Decisions" "position" "[I" ∈ lw_g := fw_g (List.mem_of_getElem? (i := 178) (by decide +kernel)) (by decide +kernel)
theorem tw_179 : Cond.fieldLink "FerryTimetable$Decisions" 18 "FerryTimetable$Decisions" "reason" "[I" ∈ lw_g := fw_g (List.mem_of_getElem? (i := 179) (by decide +kernel)) (by decide +kernel)
theorem tw_180 : Cond.fieldLink "FerryTimetable$Decisions" 21 "FerryTimetable$Decisions" "detail" "[I" ∈ lw_g := fw_g (List.mem_of_getElem? (i := 180) (by decide +kernel)) (by decide +kernel)
theorem tw_181 : Cond.fieldLink "FerryTimetable$Decisions" 24 "FerryTimetable$Decisions" "delay" "[I" ∈ lw_g := fw_g (List.mem_of_getElem? (i := 181) (by decide +kernel)) (by decide +kernel)
theorem tw_182 : Cond.fieldLink "FerryTimetable$Decisions" 27 "FerryTimetable$Decisions" "fate" "[I" ∈ lw_g := fw_g (List.mem_of_getElem? (i := 182) (by decide +kernel)) (by decide +kernel)
theorem tw_183 : Cond.fieldLink "FerryTimetable" 180 "FerryTimetable$Decisions" "fate" "[I" ∈ lw_g := fw_g (List.mem_of_getElem? (i := 183) (by decide +kernel)) (by decide +kernel)
theorem tw_203 : Cond.fieldLink "FerryTimetable$Loading" 9 "FerryTimetable$Loading" "waiting" "[I" ∈ lw_g := fw_g (List.mem_of_getElem? (i := 203) (by decide +kernel)) (by decide +kernel)
theorem tw_204 : Cond.fieldLink "FerryTimetable" 172 "FerryTimetable$Loading" "waiting" "[I" ∈ lw_g := fw_g (List.mem_of_getElem? (i := 204) (by decide +kernel)) (by decide +kernel)
theorem tw_205 : Cond.fieldLink "FerryTimetable$Loading" 15 "FerryTimetable$Loading" "left" "[I" ∈ lw_g := fw_g (List.mem_of_getElem? (i := 205) (by decide +kernel)) (by decide +kernel)
theorem tw_206 : Cond.fieldLink "FerryTimetable" 210 "FerryTimetable$Loading" "left" "[I" ∈ lw_g := fw_g (List.mem_of_getElem? (i := 206) (by decide +kernel)) (by decide +kernel)
theorem tw_207 : Cond.fieldLink "FerryTimetable$Loading" 18 "FerryTimetable$Loading" "leaveOrder" "[I" ∈ lw_g := fw_g (List.mem_of_getElem? (i := 207) (by decide +kernel)) (by decide +kernel)
theorem tw_208 : Cond.fieldLink "FerryTimetable" 220 "FerryTimetable$Loading" "leaveOrder" "[I" ∈ lw_g := fw_g (List.mem_of_getElem? (i := 208) (by decide +kernel)) (by decide +kernel)
theorem tw_209 : Cond.fieldLink "FerryTimetable$Loading" 21 "FerryTimetable$Loading" "queue" "[I" ∈ lw_g := fw_g (List.mem_of_getElem? (i := 209) (by decide +kernel)) (by decide +kernel)
theorem tw_210 : Cond.fieldLink "FerryTimetable$Loading" 24 "FerryTimetable$Loading" "standing" "[I" ∈ lw_g := fw_g (List.mem_of_getElem? (i := 210) (by decide +kernel)) (by decide +kernel)
theorem tw_211 : Cond.fieldLink "FerryTimetable$Loading" 27 "FerryTimetable$Loading" "lastPort" "[I" ∈ lw_g := fw_g (List.mem_of_getElem? (i := 211) (by decide +kernel)) (by decide +kernel)
theorem tw_212 : Cond.fieldLink "FerryTimetable$Loading" 30 "FerryTimetable$Loading" "sailsWith" "[I" ∈ lw_g := fw_g (List.mem_of_getElem? (i := 212) (by decide +kernel)) (by decide +kernel)
theorem tw_213 : Cond.fieldLink "FerryTimetable$Loading" 33 "FerryTimetable$Loading" "laneOf" "[I" ∈ lw_g := fw_g (List.mem_of_getElem? (i := 213) (by decide +kernel)) (by decide +kernel)
theorem tw_214 : Cond.fieldLink "FerryTimetable$Loading" 36 "FerryTimetable$Loading" "placeOf" "[I" ∈ lw_g := fw_g (List.mem_of_getElem? (i := 214) (by decide +kernel)) (by decide +kernel)
theorem tw_215 : Cond.fieldLink "FerryTimetable$Loading" 39 "FerryTimetable$Loading" "shifts" "[I" ∈ lw_g := fw_g (List.mem_of_getElem? (i := 215) (by decide +kernel)) (by decide +kernel)
theorem tw_216 : Cond.fieldLink "FerryTimetable$Loading" 42 "FerryTimetable$Loading" "gone" "[I" ∈ lw_g := fw_g (List.mem_of_getElem? (i := 216) (by decide +kernel)) (by decide +kernel)
theorem tw_248 : Cond.fieldLink "FerryTimetable$Text" 24 "FerryTimetable$Text" "length" "I" ∈ lw_g := fw_g (List.mem_of_getElem? (i := 248) (by decide +kernel)) (by decide +kernel)
theorem tw_249 : Cond.fieldLink "FerryTimetable" 138 "FerryTimetable$Text" "length" "I" ∈ lw_g := fw_g (List.mem_of_getElem? (i := 249) (by decide +kernel)) (by decide +kernel)
theorem tw_250 : Cond.fieldLink "FerryTimetable$Text" 31 "FerryTimetable$Text" "fault" "I" ∈ lw_g := fw_g (List.mem_of_getElem? (i := 250) (by decide +kernel)) (by decide +kernel)
theorem tw_251 : Cond.fieldLink "FerryTimetable" 109 "FerryTimetable$Text" "fault" "I" ∈ lw_g := fw_g (List.mem_of_getElem? (i := 251) (by decide +kernel)) (by decide +kernel)
theorem tw_252 : Cond.fieldLink "FerryTimetable$Text" 11 "FerryTimetable$Text" "signs" "[C" ∈ lw_g := fw_g (List.mem_of_getElem? (i := 252) (by decide +kernel)) (by decide +kernel)
theorem tw_253 : Cond.fieldLink "FerryTimetable$Text" 20 "FerryTimetable$Text" "entries" "LFerryTimetable$Table;" ∈ lw_g := fw_g (List.mem_of_getElem? (i := 253) (by decide +kernel)) (by decide +kernel)
theorem tw_254 : Cond.fieldLink "FerryTimetable$Text" 28 "FerryTimetable$Text" "at" "I" ∈ lw_g := fw_g (List.mem_of_getElem? (i := 254) (by decide +kernel)) (by decide +kernel)
theorem tw_275 : Cond.methodLink "FerryTimetable$Shelf" 20 (⟨"FerryTimetable$Table", "put", "(III)V"⟩ : MethodName) ∈ lw_g := fw_g (List.mem_of_getElem? (i := 275) (by decide +kernel)) (by decide +kernel)
theorem tw_276 : Cond.instanceMethod (⟨"FerryTimetable$Table", "put", "(III)V"⟩ : MethodName) ∈ lw_g := fw_g (List.mem_of_getElem? (i := 276) (by decide +kernel)) (by decide +kernel)
theorem tw_277 : Cond.selects "FerryTimetable$Table" (⟨"FerryTimetable$Table", "put", "(III)V"⟩ : MethodName) (⟨"FerryTimetable$Table", "put", "(III)V"⟩ : MethodName) ∈ lw_g := fw_g (List.mem_of_getElem? (i := 277) (by decide +kernel)) (by decide +kernel)
theorem tw_278 : Cond.code (⟨"FerryTimetable$Table", "put", "(III)V"⟩ : MethodName) prog_7_method_6_code 4 (Option.none : Option Jvm.ClassFile.FieldType) ∈ lw_g := fw_g (List.mem_of_getElem? (i := 278) (by decide +kernel)) (by decide +kernel)
theorem tw_279 : Cond.fieldLink "FerryTimetable$Shelf" 16 "FerryTimetable$Shelf" "copies" "LFerryTimetable$Table;" ∈ lw_g := fw_g (List.mem_of_getElem? (i := 279) (by decide +kernel)) (by decide +kernel)
theorem tw_283 : Cond.fieldLink "FerryTimetable" 10 "FerryTimetable" "port" "LFerryTimetable$Port;" ∈ lw_g := fw_g (List.mem_of_getElem? (i := 283) (by decide +kernel)) (by decide +kernel)
theorem tw_284 : Cond.fieldLink "FerryTimetable" 16 "FerryTimetable" "spare" "LFerryTimetable$Port;" ∈ lw_g := fw_g (List.mem_of_getElem? (i := 284) (by decide +kernel)) (by decide +kernel)
theorem tw_285 : Cond.fieldLink "FerryTimetable" 19 "FerryTimetable" "saved" "LFerryTimetable$Port;" ∈ lw_g := fw_g (List.mem_of_getElem? (i := 285) (by decide +kernel)) (by decide +kernel)
theorem tw_286 : Cond.fieldLink "FerryTimetable" 25 "FerryTimetable" "history" "LFerryTimetable$History;" ∈ lw_g := fw_g (List.mem_of_getElem? (i := 286) (by decide +kernel)) (by decide +kernel)
theorem tw_287 : Cond.fieldLink "FerryTimetable" 32 "FerryTimetable" "decisions" "LFerryTimetable$Decisions;" ∈ lw_g := fw_g (List.mem_of_getElem? (i := 287) (by decide +kernel)) (by decide +kernel)
theorem tw_288 : Cond.fieldLink "FerryTimetable" 39 "FerryTimetable" "loading" "LFerryTimetable$Loading;" ∈ lw_g := fw_g (List.mem_of_getElem? (i := 288) (by decide +kernel)) (by decide +kernel)
theorem tw_289 : Cond.fieldLink "FerryTimetable" 46 "FerryTimetable" "text" "LFerryTimetable$Text;" ∈ lw_g := fw_g (List.mem_of_getElem? (i := 289) (by decide +kernel)) (by decide +kernel)
theorem tw_290 : Cond.fieldLink "FerryTimetable" 53 "FerryTimetable" "shelf" "LFerryTimetable$Shelf;" ∈ lw_g := fw_g (List.mem_of_getElem? (i := 290) (by decide +kernel)) (by decide +kernel)
theorem tw_291 : Cond.fieldLink "FerryTimetable" 57 "FerryTimetable" "hasSaved" "Z" ∈ lw_g := fw_g (List.mem_of_getElem? (i := 291) (by decide +kernel)) (by decide +kernel)
theorem tw_315 : Cond.methodLink "FerryTimetable" 61 (⟨"FerryTimetable$Port", "copyFrom", "(LFerryTimetable$Port;)V"⟩ : MethodName) ∈ lw_g := fw_g (List.mem_of_getElem? (i := 315) (by decide +kernel)) (by decide +kernel)
theorem tw_316 : Cond.instanceMethod (⟨"FerryTimetable$Port", "copyFrom", "(LFerryTimetable$Port;)V"⟩ : MethodName) ∈ lw_g := fw_g (List.mem_of_getElem? (i := 316) (by decide +kernel)) (by decide +kernel)
theorem tw_317 : Cond.selects "FerryTimetable$Port" (⟨"FerryTimetable$Port", "copyFrom", "(LFerryTimetable$Port;)V"⟩ : MethodName) (⟨"FerryTimetable$Port", "copyFrom", "(LFerryTimetable$Port;)V"⟩ : MethodName) ∈ lw_g := fw_g (List.mem_of_getElem? (i := 317) (by decide +kernel)) (by decide +kernel)
theorem tw_318 : Cond.code (⟨"FerryTimetable$Port", "copyFrom", "(LFerryTimetable$Port;)V"⟩ : MethodName) prog_5_method_2_code 2 (Option.none : Option Jvm.ClassFile.FieldType) ∈ lw_g := fw_g (List.mem_of_getElem? (i := 318) (by decide +kernel)) (by decide +kernel)
theorem tw_319 : Cond.methodLink "FerryTimetable$Port" 42 (⟨"FerryTimetable$Table", "copyFrom", "(LFerryTimetable$Table;)V"⟩ : MethodName) ∈ lw_g := fw_g (List.mem_of_getElem? (i := 319) (by decide +kernel)) (by decide +kernel)
theorem tw_320 : Cond.instanceMethod (⟨"FerryTimetable$Table", "copyFrom", "(LFerryTimetable$Table;)V"⟩ : MethodName) ∈ lw_g := fw_g (List.mem_of_getElem? (i := 320) (by decide +kernel)) (by decide +kernel)
theorem tw_321 : Cond.selects "FerryTimetable$Table" (⟨"FerryTimetable$Table", "copyFrom", "(LFerryTimetable$Table;)V"⟩ : MethodName) (⟨"FerryTimetable$Table", "copyFrom", "(LFerryTimetable$Table;)V"⟩ : MethodName) ∈ lw_g := fw_g (List.mem_of_getElem? (i := 321) (by decide +kernel)) (by decide +kernel)
theorem tw_322 : Cond.code (⟨"FerryTimetable$Table", "copyFrom", "(LFerryTimetable$Table;)V"⟩ : MethodName) prog_7_method_10_code 2 (Option.none : Option Jvm.ClassFile.FieldType) ∈ lw_g := fw_g (List.mem_of_getElem? (i := 322) (by decide +kernel)) (by decide +kernel)
theorem tw_323 : Cond.methodLink "FerryTimetable$Table" 37 (⟨"java/lang/Math", "min", "(II)I"⟩ : MethodName) ∈ lw_g := fw_g (List.mem_of_getElem? (i := 323) (by decide +kernel)) (by decide +kernel)
theorem tw_324 : Cond.static (⟨"java/lang/Math", "min", "(II)I"⟩ : MethodName) ∈ lw_g := fw_g (List.mem_of_getElem? (i := 324) (by decide +kernel)) (by decide +kernel)
theorem tw_325 : Cond.code (⟨"java/lang/Math", "min", "(II)I"⟩ : MethodName) prog_12_method_69_code 2 (Option.some Jvm.ClassFile.FieldType.int) ∈ lw_g := fw_g (List.mem_of_getElem? (i := 325) (by decide +kernel)) (by decide +kernel)
theorem tw_326 : Cond.methodLink "FerryTimetable$Table" 43 (⟨"java/lang/System", "arraycopy", "(Ljava/lang/Object;ILjava/lang/Object;II)V"⟩ : MethodName) ∈ lw_g := fw_g (List.mem_of_getElem? (i := 326) (by decide +kernel)) (by decide +kernel)
theorem tw_327 : Cond.static (⟨"java/lang/System", "arraycopy", "(Ljava/lang/Object;ILjava/lang/Object;II)V"⟩ : MethodName) ∈ lw_g := fw_g (List.mem_of_getElem? (i := 327) (by decide +kernel)) (by decide +kernel)
theorem tw_328 : Cond.native (⟨"java/lang/System", "arraycopy", "(Ljava/lang/Object;ILjava/lang/Object;II)V"⟩ : MethodName) ∈ lw_g := fw_g (List.mem_of_getElem? (i := 328) (by decide +kernel)) (by decide +kernel)
theorem tw_329 : Cond.methodLink "FerryTimetable" 65 (⟨"FerryTimetable$Port", "enterShip", "(IIII)I"⟩ : MethodName) ∈ lw_g := fw_g (List.mem_of_getElem? (i := 329) (by decide +kernel)) (by decide +kernel)
theorem tw_330 : Cond.instanceMethod (⟨"FerryTimetable$Port", "enterShip", "(IIII)I"⟩ : MethodName) ∈ lw_g := fw_g (List.mem_of_getElem? (i := 330) (by decide +kernel)) (by decide +kernel)
theorem tw_331 : Cond.selects "FerryTimetable$Port" (⟨"FerryTimetable$Port", "enterShip", "(IIII)I"⟩ : MethodName) (⟨"FerryTimetable$Port", "enterShip", "(IIII)I"⟩ : MethodName) ∈ lw_g := fw_g (List.mem_of_getElem? (i := 331) (by decide +kernel)) (by decide +kernel)
theorem tw_332 : Cond.code (⟨"FerryTimetable$Port", "enterShip", "(IIII)I"⟩ : MethodName) prog_5_method_3_code 5 (Option.some Jvm.ClassFile.FieldType.int) ∈ lw_g := fw_g (List.mem_of_getElem? (i := 332) (by decide +kernel)) (by decide +kernel)
theorem tw_334 : Cond.static (⟨"FerryTimetable", "isOutside", "(III)Z"⟩ : MethodName) ∈ lw_g := fw_g (List.mem_of_getElem? (i := 334) (by decide +kernel)) (by decide +kernel)
theorem tw_335 : Cond.code (⟨"FerryTimetable", "isOutside", "(III)Z"⟩ : MethodName) prog_1_method_44_code 3 (Option.some Jvm.ClassFile.FieldType.boolean) ∈ lw_g := fw_g (List.mem_of_getElem? (i := 335) (by decide +kernel)) (by decide +kernel)
theorem tw_336 : Cond.methodLink "FerryTimetable$Port" 50 (⟨"FerryTimetable$Table", "addRow", "(IIII)I"⟩ : MethodName) ∈ lw_g := fw_g (List.mem_of_getElem? (i := 336) (by decide +kernel)) (by decide +kernel)
theorem tw_337 : Cond.instanceMethod (⟨"FerryTimetable$Table", "addRow", "(IIII)I"⟩ : MethodName) ∈ lw_g := fw_g (List.mem_of_getElem? (i := 337) (by decide +kernel)) (by decide +kernel)
theorem tw_338 : Cond.selects "FerryTimetable$Table" (⟨"FerryTimetable$Table", "addRow", "(IIII)I"⟩ : MethodName) (⟨"FerryTimetable$Table", "addRow", "(IIII)I"⟩ : MethodName) ∈ lw_g := fw_g (List.mem_of_getElem? (i := 338) (by decide +kernel)) (by decide +kernel)
theorem tw_339 : Cond.code (⟨"FerryTimetable$Table", "addRow", "(IIII)I"⟩ : MethodName) prog_7_method_7_code 6 (Option.some Jvm.ClassFile.FieldType.int) ∈ lw_g := fw_g (List.mem_of_getElem? (i := 339) (by decide +kernel)) (by decide +kernel)
theorem tw_340 : Cond.methodLink "FerryTimetable$Table" 25 (⟨"FerryTimetable$Table", "isFull", "()Z"⟩ : MethodName) ∈ lw_g := fw_g (List.mem_of_getElem? (i := 340) (by decide +kernel)) (by decide +kernel)
theorem tw_341 : Cond.instanceMethod (⟨"FerryTimetable$Table", "isFull", "()Z"⟩ : MethodName) ∈ lw_g := fw_g (List.mem_of_getElem? (i := 341) (by decide +kernel)) (by decide +kernel)
theorem tw_342 : Cond.selects "FerryTimetable$Table" (⟨"FerryTimetable$Table", "isFull", "()Z"⟩ : MethodName) (⟨"FerryTimetable$Table", "isFull", "()Z"⟩ : MethodName) ∈ lw_g := fw_g (List.mem_of_getElem? (i := 342) (by decide +kernel)) (by decide +kernel)
theorem tw_343 : Cond.code (⟨"FerryTimetable$Table", "isFull", "()Z"⟩ : MethodName) prog_7_method_4_code 1 (Option.some Jvm.ClassFile.FieldType.boolean) ∈ lw_g := fw_g (List.mem_of_getElem? (i := 343) (by decide +kernel)) (by decide +kernel)
theorem tw_344 : Cond.methodLink "FerryTimetable$Table" 29 (⟨"FerryTimetable$Table", "put", "(III)V"⟩ : MethodName) ∈ lw_g := fw_g (List.mem_of_getElem? (i := 344) (by decide +kernel)) (by decide +kernel)
theorem tw_345 : Cond.methodLink "FerryTimetable" 69 (⟨"FerryTimetable", "noted", "(I)I"⟩ : MethodName) ∈ lw_g := fw_g (List.mem_of_getElem? (i := 345) (by decide +kernel)) (by decide +kernel)
theorem tw_347 : Cond.instanceMethod (⟨"FerryTimetable", "noted", "(I)I"⟩ : MethodName) ∈ lw_g := fw_g (List.mem_of_getElem? (i := 347) (by decide +kernel)) (by decide +kernel)
theorem tw_348 : Cond.code (⟨"FerryTimetable", "noted", "(I)I"⟩ : MethodName) prog_1_method_42_code 2 (Option.some Jvm.ClassFile.FieldType.int) ∈ lw_g := fw_g (List.mem_of_getElem? (i := 348) (by decide +kernel)) (by decide +kernel)
theorem tw_349 : Cond.methodLink "FerryTimetable" 269 (⟨"FerryTimetable", "isError", "(I)Z"⟩ : MethodName) ∈ lw_g := fw_g (List.mem_of_getElem? (i := 349) (by decide +kernel)) (by decide +kernel)
theorem tw_350 : Cond.static (⟨"FerryTimetable", "isError", "(I)Z"⟩ : MethodName) ∈ lw_g := fw_g (List.mem_of_getElem? (i := 350) (by decide +kernel)) (by decide +kernel)
theorem tw_351 : Cond.code (⟨"FerryTimetable", "isError", "(I)Z"⟩ : MethodName) prog_1_method_43_code 1 (Option.some Jvm.ClassFile.FieldType.boolean) ∈ lw_g := fw_g (List.mem_of_getElem? (i := 351) (by decide +kernel)) (by decide +kernel)
theorem tw_352 : Cond.methodLink "FerryTimetable" 272 (⟨"FerryTimetable$History", "keep", "(LFerryTimetable$Port;)V"⟩ : MethodName) ∈ lw_g := fw_g (List.mem_of_getElem? (i := 352) (by decide +kernel)) (by decide +kernel)
theorem tw_353 : Cond.instanceMethod (⟨"FerryTimetable$History", "keep", "(LFerryTimetable$Port;)V"⟩ : MethodName) ∈ lw_g := fw_g (List.mem_of_getElem? (i := 353) (by decide +kernel)) (by decide +kernel)
theorem tw_354 : Cond.selects "FerryTimetable$History" (⟨"FerryTimetable$History", "keep", "(LFerryTimetable$Port;)V"⟩ : MethodName) (⟨"FerryTimetable$History", "keep", "(LFerryTimetable$Port;)V"⟩ : MethodName) ∈ lw_g := fw_g (List.mem_of_getElem? (i := 354) (by decide +kernel)) (by decide +kernel)
theorem tw_355 : Cond.code (⟨"FerryTimetable$History", "keep", "(LFerryTimetable$Port;)V"⟩ : MethodName) prog_3_method_2_code 2 (Option.none : Option Jvm.ClassFile.FieldType) ∈ lw_g := fw_g (List.mem_of_getElem? (i := 355) (by decide +kernel)) (by decide +kernel)
theorem tw_356 : Cond.methodLink "FerryTimetable$History" 25 (⟨"FerryTimetable$Port", "copyFrom", "(LFerryTimetable$Port;)V"⟩ : MethodName) ∈ lw_g := fw_g (List.mem_of_getElem? (i := 356) (by decide +kernel)) (by decide +kernel)
theorem tw_357 : Cond.methodLink "FerryTimetable$History" 29 (⟨"java/lang/Math", "min", "(II)I"⟩ : MethodName) ∈ lw_g := fw_g (List.mem_of_getElem? (i := 357) (by decide +kernel)) (by decide +kernel)
theorem tw_362 : Cond.methodLink "FerryTimetable" 73 (⟨"FerryTimetable$Port", "enterBerth", "(II)I"⟩ : MethodName) ∈ lw_g := fw_g (List.mem_of_getElem? (i := 362) (by decide +kernel)) (by decide +kernel)
theorem tw_363 : Cond.instanceMethod (⟨"FerryTimetable$Port", "enterBerth", "(II)I"⟩ : MethodName) ∈ lw_g := fw_g (List.mem_of_getElem? (i := 363) (by decide +kernel)) (by decide +kernel)
theorem tw_364 : Cond.selects "FerryTimetable$Port" (⟨"FerryTimetable$Port", "enterBerth", "(II)I"⟩ : MethodName) (⟨"FerryTimetable$Port", "enterBerth", "(II)I"⟩ : MethodName) ∈ lw_g := fw_g (List.mem_of_getElem? (i := 364) (by decide +kernel)) (by decide +kernel)
theorem tw_365 : Cond.code (⟨"FerryTimetable$Port", "enterBerth", "(II)I"⟩ : MethodName) prog_5_method_4_code 3 (Option.some Jvm.ClassFile.FieldType.int) ∈ lw_g := fw_g (List.mem_of_getElem? (i := 365) (by decide +kernel)) (by decide +kernel)
theorem tw_366 : Cond.methodLink "FerryTimetable$Port" 54 (⟨"FerryTimetable$Port", "isBerth", "(II)Z"⟩ : MethodName) ∈ lw_g := fw_g (List.mem_of_getElem? (i := 366) (by decide +kernel)) (by decide +kernel)
theorem tw_367 : Cond.static (⟨"FerryTimetable$Port", "isBerth", "(II)Z"⟩ : MethodName) ∈ lw_g := fw_g (List.mem_of_getElem? (i := 367) (by decide +kernel)) (by decide +kernel)
theorem tw_368 : Cond.code (⟨"FerryTimetable$Port", "isBerth", "(II)Z"⟩ : MethodName) prog_5_method_14_code 2 (Option.some Jvm.ClassFile.FieldType.boolean) ∈ lw_g := fw_g (List.mem_of_getElem? (i := 368) (by decide +kernel)) (by decide +kernel)
theorem tw_373 : Cond.methodLink "FerryTimetable" 77 (⟨"FerryTimetable$Port", "enterCrossing", "(IIII)I"⟩ : MethodName) ∈ lw_g := fw_g (List.mem_of_getElem? (i := 373) (by decide +kernel)) (by decide +kernel)
theorem tw_374 : Cond.instanceMethod (⟨"FerryTimetable$Port", "enterCrossing", "(IIII)I"⟩ : MethodName) ∈ lw_g := fw_g (List.mem_of_getElem? (i := 374) (by decide +kernel)) (by decide +kernel)
theorem tw_375 : Cond.selects "FerryTimetable$Port" (⟨"FerryTimetable$Port", "enterCrossing", "(IIII)I"⟩ : MethodName) (⟨"FerryTimetable$Port", "enterCrossing", "(IIII)I"⟩ : MethodName) ∈ lw_g := fw_g (List.mem_of_getElem? (i := 375) (by decide +kernel)) (by decide +kernel)
theorem tw_376 : Cond.code (⟨"FerryTimetable$Port", "enterCrossing", "(IIII)I"⟩ : MethodName) prog_5_method_5_code 5 (Option.some Jvm.ClassFile.FieldType.int) ∈ lw_g := fw_g (List.mem_of_getElem? (i := 376) (by decide +kernel)) (by decide +kernel)
theorem tw_377 : Cond.methodLink "FerryTimetable$Port" 58 (⟨"FerryTimetable$Table", "has", "(I)Z"⟩ : MethodName) ∈ lw_g := fw_g (List.mem_of_getElem? (i := 377) (by decide +kernel)) (by decide +kernel)
theorem tw_378 : Cond.instanceMethod (⟨"FerryTimetable$Table", "has", "(I)Z"⟩ : MethodName) ∈ lw_g := fw_g (List.mem_of_getElem? (i := 378) (by decide +kernel)) (by decide +kernel)
theorem tw_379 : Cond.selects "FerryTimetable$Table" (⟨"FerryTimetable$Table", "has", "(I)Z"⟩ : MethodName) (⟨"FerryTimetable$Table", "has", "(I)Z"⟩ : MethodName) ∈ lw_g := fw_g (List.mem_of_getElem? (i := 379) (by decide +kernel)) (by decide +kernel)
theorem tw_380 : Cond.code (⟨"FerryTimetable$Table", "has", "(I)Z"⟩ : MethodName) prog_7_method_3_code 2 (Option.some Jvm.ClassFile.FieldType.boolean) ∈ lw_g := fw_g (List.mem_of_getElem? (i := 380) (by decide +kernel)) (by decide +kernel)
theorem tw_385 : Cond.methodLink "FerryTimetable" 80 (⟨"FerryTimetable$Port", "enterVehicle", "(III)I"⟩ : MethodName) ∈ lw_g := fw_g (List.mem_of_getElem? (i := 385) (by decide +kernel)) (by decide +kernel)
theorem tw_386 : Cond.instanceMethod (⟨"FerryTimetable$Port", "enterVehicle", "(III)I"⟩ : MethodName) ∈ lw_g := fw_g (List.mem_of_getElem? (i := 386) (by decide +kernel)) (by decide +kernel)
theorem tw_387 : Cond.selects "FerryTimetable$Port" (⟨"FerryTimetable$Port", "enterVehicle", "(III)I"⟩ : MethodName) (⟨"FerryTimetable$Port", "enterVehicle", "(III)I"⟩ : MethodName) ∈ lw_g := fw_g (List.mem_of_getElem? (i := 387) (by decide +kernel)) (by decide +kernel)
theorem tw_388 : Cond.code (⟨"FerryTimetable$Port", "enterVehicle", "(III)I"⟩ : MethodName) prog_5_method_6_code 4 (Option.some Jvm.ClassFile.FieldType.int) ∈ lw_g := fw_g (List.mem_of_getElem? (i := 388) (by decide +kernel)) (by decide +kernel)
theorem tw_393 : Cond.methodLink "FerryTimetable" 84 (⟨"FerryTimetable$Port", "enterConnection", "(IIII)I"⟩ : MethodName) ∈ lw_g := fw_g (List.mem_of_getElem? (i := 393) (by decide +kernel)) (by decide +kernel)
theorem tw_394 : Cond.instanceMethod (⟨"FerryTimetable$Port", "enterConnection", "(IIII)I"⟩ : MethodName) ∈ lw_g := fw_g (List.mem_of_getElem? (i := 394) (by decide +kernel)) (by decide +kernel)
theorem tw_395 : Cond.selects "FerryTimetable$Port" (⟨"FerryTimetable$Port", "enterConnection", "(IIII)I"⟩ : MethodName) (⟨"FerryTimetable$Port", "enterConnection", "(IIII)I"⟩ : MethodName) ∈ lw_g := fw_g (List.mem_of_getElem? (i := 395) (by decide +kernel)) (by decide +kernel)
theorem tw_396 : Cond.code (⟨"FerryTimetable$Port", "enterConnection", "(IIII)I"⟩ : MethodName) prog_5_method_7_code 5 (Option.some Jvm.ClassFile.FieldType.int) ∈ lw_g := fw_g (List.mem_of_getElem? (i := 396) (by decide +kernel)) (by decide +kernel)
theorem tw_401 : Cond.methodLink "FerryTimetable" 87 (⟨"FerryTimetable$Port", "dropCrossing", "(I)I"⟩ : MethodName) ∈ lw_g := fw_g (List.mem_of_getElem? (i := 401) (by decide +kernel)) (by decide +kernel)
theorem tw_402 : Cond.instanceMethod (⟨"FerryTimetable$Port", "dropCrossing", "(I)I"⟩ : MethodName) ∈ lw_g := fw_g (List.mem_of_getElem? (i := 402) (by decide +kernel)) (by decide +kernel)
theorem tw_403 : Cond.selects "FerryTimetable$Port" (⟨"FerryTimetable$Port", "dropCrossing", "(I)I"⟩ : MethodName) (⟨"FerryTimetable$Port", "dropCrossing", "(I)I"⟩ : MethodName) ∈ lw_g := fw_g (List.mem_of_getElem? (i := 403) (by decide +kernel)) (by decide +kernel)
theorem tw_404 : Cond.code (⟨"FerryTimetable$Port", "dropCrossing", "(I)I"⟩ : MethodName) prog_5_method_8_code 2 (Option.some Jvm.ClassFile.FieldType.int) ∈ lw_g := fw_g (List.mem_of_getElem? (i := 404) (by decide +kernel)) (by decide +kernel)
theorem tw_405 : Cond.methodLink "FerryTimetable$Port" 62 (⟨"FerryTimetable$Table", "removeRow", "(I)V"⟩ : MethodName) ∈ lw_g := fw_g (List.mem_of_getElem? (i := 405) (by decide +kernel)) (by decide +kernel)
theorem tw_406 : Cond.instanceMethod (⟨"FerryTimetable$Table", "removeRow", "(I)V"⟩ : MethodName) ∈ lw_g := fw_g (List.mem_of_getElem? (i := 406) (by decide +kernel)) (by decide +kernel)
theorem tw_407 : Cond.selects "FerryTimetable$Table" (⟨"FerryTimetable$Table", "removeRow", "(I)V"⟩ : MethodName) (⟨"FerryTimetable$Table", "removeRow", "(I)V"⟩ : MethodName) ∈ lw_g := fw_g (List.mem_of_getElem? (i := 407) (by decide +kernel)) (by decide +kernel)
theorem tw_408 : Cond.code (⟨"FerryTimetable$Table", "removeRow", "(I)V"⟩ : MethodName) prog_7_method_8_code 3 (Option.none : Option Jvm.ClassFile.FieldType) ∈ lw_g := fw_g (List.mem_of_getElem? (i := 408) (by decide +kernel)) (by decide +kernel)
theorem tw_409 : Cond.methodLink "FerryTimetable$Table" 33 (⟨"FerryTimetable$Table", "has", "(I)Z"⟩ : MethodName) ∈ lw_g := fw_g (List.mem_of_getElem? (i := 409) (by decide +kernel)) (by decide +kernel)
theorem tw_410 : Cond.methodLink "FerryTimetable$Port" 66 (⟨"FerryTimetable$Port", "dropRowsOf", "(LFerryTimetable$Table;II)V"⟩ : MethodName) ∈ lw_g := fw_g (List.mem_of_getElem? (i := 410) (by decide +kernel)) (by decide +kernel)
theorem tw_411 : Cond.static (⟨"FerryTimetable$Port", "dropRowsOf", "(LFerryTimetable$Table;II)V"⟩ : MethodName) ∈ lw_g := fw_g (List.mem_of_getElem? (i := 411) (by decide +kernel)) (by decide +kernel)
theorem tw_412 : Cond.code (⟨"FerryTimetable$Port", "dropRowsOf", "(LFerryTimetable$Table;II)V"⟩ : MethodName) prog_5_method_9_code 5 (Option.none : Option Jvm.ClassFile.FieldType) ∈ lw_g := fw_g (List.mem_of_getElem? (i := 412) (by decide +kernel)) (by decide +kernel)
theorem tw_413 : Cond.methodLink "FerryTimetable$Port" 70 (⟨"FerryTimetable$Table", "size", "()I"⟩ : MethodName) ∈ lw_g := fw_g (List.mem_of_getElem? (i := 413) (by decide +kernel)) (by decide +kernel)
theorem tw_414 : Cond.instanceMethod (⟨"FerryTimetable$Table", "size", "()I"⟩ : MethodName) ∈ lw_g := fw_g (List.mem_of_getElem? (i := 414) (by decide +kernel)) (by decide +kernel)
theorem tw_415 : Cond.selects "FerryTimetable$Table" (⟨"FerryTimetable$Table", "size", "()I"⟩ : MethodName) (⟨"FerryTimetable$Table", "size", "()I"⟩ : MethodName) ∈ lw_g := fw_g (List.mem_of_getElem? (i := 415) (by decide +kernel)) (by decide +kernel)
theorem tw_416 : Cond.code (⟨"FerryTimetable$Table", "size", "()I"⟩ : MethodName) prog_7_method_2_code 1 (Option.some Jvm.ClassFile.FieldType.int) ∈ lw_g := fw_g (List.mem_of_getElem? (i := 416) (by decide +kernel)) (by decide +kernel)
theorem tw_417 : Cond.methodLink "FerryTimetable$Port" 74 (⟨"FerryTimetable$Table", "at", "(II)I"⟩ : MethodName) ∈ lw_g := fw_g (List.mem_of_getElem? (i := 417) (by decide +kernel)) (by decide +kernel)
theorem tw_418 : Cond.instanceMethod (⟨"FerryTimetable$Table", "at", "(II)I"⟩ : MethodName) ∈ lw_g := fw_g (List.mem_of_getElem? (i := 418) (by decide +kernel)) (by decide +kernel)
theorem tw_419 : Cond.selects "FerryTimetable$Table" (⟨"FerryTimetable$Table", "at", "(II)I"⟩ : MethodName) (⟨"FerryTimetable$Table", "at", "(II)I"⟩ : MethodName) ∈ lw_g := fw_g (List.mem_of_getElem? (i := 419) (by decide +kernel)) (by decide +kernel)
theorem tw_420 : Cond.code (⟨"FerryTimetable$Table", "at", "(II)I"⟩ : MethodName) prog_7_method_5_code 3 (Option.some Jvm.ClassFile.FieldType.int) ∈ lw_g := fw_g (List.mem_of_getElem? (i := 420) (by decide +kernel)) (by decide +kernel)
theorem tw_421 : Cond.methodLink "FerryTimetable$Port" 78 (⟨"FerryTimetable$Table", "put", "(III)V"⟩ : MethodName) ∈ lw_g := fw_g (List.mem_of_getElem? (i := 421) (by decide +kernel)) (by decide +kernel)
theorem tw_426 : Cond.methodLink "FerryTimetable" 90 (⟨"FerryTimetable$Port", "changeBerth", "(III)I"⟩ : MethodName) ∈ lw_g := fw_g (List.mem_of_getElem? (i := 426) (by decide +kernel)) (by decide +kernel)
theorem tw_427 : Cond.instanceMethod (⟨"FerryTimetable$Port", "changeBerth", "(III)I"⟩ : MethodName) ∈ lw_g := fw_g (List.mem_of_getElem? (i := 427) (by decide +kernel)) (by decide +kernel)
theorem tw_428 : Cond.selects "FerryTimetable$Port" (⟨"FerryTimetable$Port", "changeBerth", "(III)I"⟩ : MethodName) (⟨"FerryTimetable$Port", "changeBerth", "(III)I"⟩ : MethodName) ∈ lw_g := fw_g (List.mem_of_getElem? (i := 428) (by decide +kernel)) (by decide +kernel)
theorem tw_429 : Cond.code (⟨"FerryTimetable$Port", "changeBerth", "(III)I"⟩ : MethodName) prog_5_method_10_code 5 (Option.some Jvm.ClassFile.FieldType.int) ∈ lw_g := fw_g (List.mem_of_getElem? (i := 429) (by decide +kernel)) (by decide +kernel)
theorem tw_434 : Cond.methodLink "FerryTimetable" 93 (⟨"FerryTimetable$Port", "changeTide", "(II)I"⟩ : MethodName) ∈ lw_g := fw_g (List.mem_of_getElem? (i := 434) (by decide +kernel)) (by decide +kernel)
theorem tw_435 : Cond.instanceMethod (⟨"FerryTimetable$Port", "changeTide", "(II)I"⟩ : MethodName) ∈ lw_g := fw_g (List.mem_of_getElem? (i := 435) (by decide +kernel)) (by decide +kernel)
theorem tw_436 : Cond.selects "FerryTimetable$Port" (⟨"FerryTimetable$Port", "changeTide", "(II)I"⟩ : MethodName) (⟨"FerryTimetable$Port", "changeTide", "(II)I"⟩ : MethodName) ∈ lw_g := fw_g (List.mem_of_getElem? (i := 436) (by decide +kernel)) (by decide +kernel)
theorem tw_437 : Cond.code (⟨"FerryTimetable$Port", "changeTide", "(II)I"⟩ : MethodName) prog_5_method_11_code 4 (Option.some Jvm.ClassFile.FieldType.int) ∈ lw_g := fw_g (List.mem_of_getElem? (i := 437) (by decide +kernel)) (by decide +kernel)
theorem tw_442 : Cond.methodLink "FerryTimetable" 96 (⟨"FerryTimetable$Port", "changeWind", "(II)I"⟩ : MethodName) ∈ lw_g := fw_g (List.mem_of_getElem? (i := 442) (by decide +kernel)) (by decide +kernel)
theorem tw_443 : Cond.instanceMethod (⟨"FerryTimetable$Port", "changeWind", "(II)I"⟩ : MethodName) ∈ lw_g := fw_g (List.mem_of_getElem? (i := 443) (by decide +kernel)) (by decide +kernel)
theorem tw_444 : Cond.selects "FerryTimetable$Port" (⟨"FerryTimetable$Port", "changeWind", "(II)I"⟩ : MethodName) (⟨"FerryTimetable$Port", "changeWind", "(II)I"⟩ : MethodName) ∈ lw_g := fw_g (List.mem_of_getElem? (i := 444) (by decide +kernel)) (by decide +kernel)
theorem tw_445 : Cond.code (⟨"FerryTimetable$Port", "changeWind", "(II)I"⟩ : MethodName) prog_5_method_12_code 4 (Option.some Jvm.ClassFile.FieldType.int) ∈ lw_g := fw_g (List.mem_of_getElem? (i := 445) (by decide +kernel)) (by decide +kernel)
theorem tw_450 : Cond.methodLink "FerryTimetable" 99 (⟨"FerryTimetable$Port", "changeMargin", "(I)I"⟩ : MethodName) ∈ lw_g := fw_g (List.mem_of_getElem? (i := 450) (by decide +kernel)) (by decide +kernel)
theorem tw_451 : Cond.instanceMethod (⟨"FerryTimetable$Port", "changeMargin", "(I)I"⟩ : MethodName) ∈ lw_g := fw_g (List.mem_of_getElem? (i := 451) (by decide +kernel)) (by decide +kernel)
theorem tw_452 : Cond.selects "FerryTimetable$Port" (⟨"FerryTimetable$Port", "changeMargin", "(I)I"⟩ : MethodName) (⟨"FerryTimetable$Port", "changeMargin", "(I)I"⟩ : MethodName) ∈ lw_g := fw_g (List.mem_of_getElem? (i := 452) (by decide +kernel)) (by decide +kernel)
theorem tw_453 : Cond.code (⟨"FerryTimetable$Port", "changeMargin", "(I)I"⟩ : MethodName) prog_5_method_13_code 3 (Option.some Jvm.ClassFile.FieldType.int) ∈ lw_g := fw_g (List.mem_of_getElem? (i := 453) (by decide +kernel)) (by decide +kernel)
theorem tw_458 : Cond.methodLink "FerryTimetable" 102 (⟨"FerryTimetable$Text", "take", "(I)I"⟩ : MethodName) ∈ lw_g := fw_g (List.mem_of_getElem? (i := 458) (by decide +kernel)) (by decide +kernel)
theorem tw_459 : Cond.instanceMethod (⟨"FerryTimetable$Text", "take", "(I)I"⟩ : MethodName) ∈ lw_g := fw_g (List.mem_of_getElem? (i := 459) (by decide +kernel)) (by decide +kernel)
theorem tw_460 : Cond.selects "FerryTimetable$Text" (⟨"FerryTimetable$Text", "take", "(I)I"⟩ : MethodName) (⟨"FerryTimetable$Text", "take", "(I)I"⟩ : MethodName) ∈ lw_g := fw_g (List.mem_of_getElem? (i := 460) (by decide +kernel)) (by decide +kernel)
theorem tw_461 : Cond.code (⟨"FerryTimetable$Text", "take", "(I)I"⟩ : MethodName) prog_8_method_2_code 5 (Option.some Jvm.ClassFile.FieldType.int) ∈ lw_g := fw_g (List.mem_of_getElem? (i := 461) (by decide +kernel)) (by decide +kernel)
theorem tw_467 : Cond.methodLink "FerryTimetable" 105 (⟨"FerryTimetable$Text", "makeEntries", "(LFerryTimetable$Port;)I"⟩ : MethodName) ∈ lw_g := fw_g (List.mem_of_getElem? (i := 467) (by decide +kernel)) (by decide +kernel)
theorem tw_468 : Cond.instanceMethod (⟨"FerryTimetable$Text", "makeEntries", "(LFerryTimetable$Port;)I"⟩ : MethodName) ∈ lw_g := fw_g (List.mem_of_getElem? (i := 468) (by decide +kernel)) (by decide +kernel)
theorem tw_469 : Cond.selects "FerryTimetable$Text" (⟨"FerryTimetable$Text", "makeEntries", "(LFerryTimetable$Port;)I"⟩ : MethodName) (⟨"FerryTimetable$Text", "makeEntries", "(LFerryTimetable$Port;)I"⟩ : MethodName) ∈ lw_g := fw_g (List.mem_of_getElem? (i := 469) (by decide +kernel)) (by decide +kernel)
theorem tw_470 : Cond.code (⟨"FerryTimetable$Text", "makeEntries", "(LFerryTimetable$Port;)I"⟩ : MethodName) prog_8_method_3_code 3 (Option.some Jvm.ClassFile.FieldType.int) ∈ lw_g := fw_g (List.mem_of_getElem? (i := 470) (by decide +kernel)) (by decide +kernel)
theorem tw_471 : Cond.methodLink "FerryTimetable$Text" 38 (⟨"FerryTimetable$Text", "findEntries", "()I"⟩ : MethodName) ∈ lw_g := fw_g (List.mem_of_getElem? (i := 471) (by decide +kernel)) (by decide +kernel)
theorem tw_473 : Cond.instanceMethod (⟨"FerryTimetable$Text", "findEntries", "()I"⟩ : MethodName) ∈ lw_g := fw_g (List.mem_of_getElem? (i := 473) (by decide +kernel)) (by decide +kernel)
theorem tw_474 : Cond.code (⟨"FerryTimetable$Text", "findEntries", "()I"⟩ : MethodName) prog_8_method_5_code 2 (Option.some Jvm.ClassFile.FieldType.int) ∈ lw_g := fw_g (List.mem_of_getElem? (i := 474) (by decide +kernel)) (by decide +kernel)
theorem tw_475 : Cond.methodLink "FerryTimetable$Text" 72 (⟨"FerryTimetable$Table", "clearRows", "()V"⟩ : MethodName) ∈ lw_g := fw_g (List.mem_of_getElem? (i := 475) (by decide +kernel)) (by decide +kernel)
theorem tw_476 : Cond.instanceMethod (⟨"FerryTimetable$Table", "clearRows", "()V"⟩ : MethodName) ∈ lw_g := fw_g (List.mem_of_getElem? (i := 476) (by decide +kernel)) (by decide +kernel)
theorem tw_477 : Cond.selects "FerryTimetable$Table" (⟨"FerryTimetable$Table", "clearRows", "()V"⟩ : MethodName) (⟨"FerryTimetable$Table", "clearRows", "()V"⟩ : MethodName) ∈ lw_g := fw_g (List.mem_of_getElem? (i := 477) (by decide +kernel)) (by decide +kernel)
theorem tw_478 : Cond.code (⟨"FerryTimetable$Table", "clearRows", "()V"⟩ : MethodName) prog_7_method_9_code 1 (Option.none : Option Jvm.ClassFile.FieldType) ∈ lw_g := fw_g (List.mem_of_getElem? (i := 478) (by decide +kernel)) (by decide +kernel)
theorem tw_479 : Cond.methodLink "FerryTimetable$Text" 75 (⟨"FerryTimetable$Text", "findEntry", "()Z"⟩ : MethodName) ∈ lw_g := fw_g (List.mem_of_getElem? (i := 479) (by decide +kernel)) (by decide +kernel)
theorem tw_481 : Cond.instanceMethod (⟨"FerryTimetable$Text", "findEntry", "()Z"⟩ : MethodName) ∈ lw_g := fw_g (List.mem_of_getElem? (i := 481) (by decide +kernel)) (by decide +kernel)
theorem tw_482 : Cond.code (⟨"FerryTimetable$Text", "findEntry", "()Z"⟩ : MethodName) prog_8_method_6_code 7 (Option.some Jvm.ClassFile.FieldType.boolean) ∈ lw_g := fw_g (List.mem_of_getElem? (i := 482) (by decide +kernel)) (by decide +kernel)
theorem tw_483 : Cond.methodLink "FerryTimetable$Text" 83 (⟨"FerryTimetable$Text", "signHere", "()I"⟩ : MethodName) ∈ lw_g := fw_g (List.mem_of_getElem? (i := 483) (by decide +kernel)) (by decide +kernel)
theorem tw_485 : Cond.instanceMethod (⟨"FerryTimetable$Text", "signHere", "()I"⟩ : MethodName) ∈ lw_g := fw_g (List.mem_of_getElem? (i := 485) (by decide +kernel)) (by decide +kernel)
theorem tw_486 : Cond.code (⟨"FerryTimetable$Text", "signHere", "()I"⟩ : MethodName) prog_8_method_10_code 1 (Option.some Jvm.ClassFile.FieldType.int) ∈ lw_g := fw_g (List.mem_of_getElem? (i := 486) (by decide +kernel)) (by decide +kernel)
theorem tw_487 : Cond.methodLink "FerryTimetable$Text" 86 (⟨"FerryTimetable$Text", "countNumbers", "(I)I"⟩ : MethodName) ∈ lw_g := fw_g (List.mem_of_getElem? (i := 487) (by decide +kernel)) (by decide +kernel)
theorem tw_488 : Cond.static (⟨"FerryTimetable$Text", "countNumbers", "(I)I"⟩ : MethodName) ∈ lw_g := fw_g (List.mem_of_getElem? (i := 488) (by decide +kernel)) (by decide +kernel)
theorem tw_489 : Cond.code (⟨"FerryTimetable$Text", "countNumbers", "(I)I"⟩ : MethodName) prog_8_method_7_code 1 (Option.some Jvm.ClassFile.FieldType.int) ∈ lw_g := fw_g (List.mem_of_getElem? (i := 489) (by decide +kernel)) (by decide +kernel)
theorem tw_490 : Cond.methodLink "FerryTimetable$Text" 90 (⟨"FerryTimetable$Table", "addRow", "(IIII)I"⟩ : MethodName) ∈ lw_g := fw_g (List.mem_of_getElem? (i := 490) (by decide +kernel)) (by decide +kernel)
theorem tw_491 : Cond.methodLink "FerryTimetable$Text" 93 (⟨"FerryTimetable$Table", "put", "(III)V"⟩ : MethodName) ∈ lw_g := fw_g (List.mem_of_getElem? (i := 491) (by decide +kernel)) (by decide +kernel)
theorem tw_492 : Cond.methodLink "FerryTimetable$Text" 79 (⟨"FerryTimetable$Text", "passes", "(C)Z"⟩ : MethodName) ∈ lw_g := fw_g (List.mem_of_getElem? (i := 492) (by decide +kernel)) (by decide +kernel)
theorem tw_494 : Cond.instanceMethod (⟨"FerryTimetable$Text", "passes", "(C)Z"⟩ : MethodName) ∈ lw_g := fw_g (List.mem_of_getElem? (i := 494) (by decide +kernel)) (by decide +kernel)
theorem tw_495 : Cond.code (⟨"FerryTimetable$Text", "passes", "(C)Z"⟩ : MethodName) prog_8_method_9_code 2 (Option.some Jvm.ClassFile.FieldType.boolean) ∈ lw_g := fw_g (List.mem_of_getElem? (i := 495) (by decide +kernel)) (by decide +kernel)
theorem tw_496 : Cond.methodLink "FerryTimetable$Text" 96 (⟨"FerryTimetable$Text", "findNumber", "(III)Z"⟩ : MethodName) ∈ lw_g := fw_g (List.mem_of_getElem? (i := 496) (by decide +kernel)) (by decide +kernel)
theorem tw_498 : Cond.instanceMethod (⟨"FerryTimetable$Text", "findNumber", "(III)Z"⟩ : MethodName) ∈ lw_g := fw_g (List.mem_of_getElem? (i := 498) (by decide +kernel)) (by decide +kernel)
theorem tw_499 : Cond.code (⟨"FerryTimetable$Text", "findNumber", "(III)Z"⟩ : MethodName) prog_8_method_8_code 6 (Option.some Jvm.ClassFile.FieldType.boolean) ∈ lw_g := fw_g (List.mem_of_getElem? (i := 499) (by decide +kernel)) (by decide +kernel)
theorem tw_500 : Cond.methodLink "FerryTimetable$Text" 42 (⟨"FerryTimetable$Table", "size", "()I"⟩ : MethodName) ∈ lw_g := fw_g (List.mem_of_getElem? (i := 500) (by decide +kernel)) (by decide +kernel)
theorem tw_501 : Cond.methodLink "FerryTimetable$Text" 45 (⟨"FerryTimetable$Text", "makeEntry", "(LFerryTimetable$Port;I)I"⟩ : MethodName) ∈ lw_g := fw_g (List.mem_of_getElem? (i := 501) (by decide +kernel)) (by decide +kernel)
theorem tw_503 : Cond.instanceMethod (⟨"FerryTimetable$Text", "makeEntry", "(LFerryTimetable$Port;I)I"⟩ : MethodName) ∈ lw_g := fw_g (List.mem_of_getElem? (i := 503) (by decide +kernel)) (by decide +kernel)
theorem tw_504 : Cond.code (⟨"FerryTimetable$Text", "makeEntry", "(LFerryTimetable$Port;I)I"⟩ : MethodName) prog_8_method_4_code 7 (Option.some Jvm.ClassFile.FieldType.int) ∈ lw_g := fw_g (List.mem_of_getElem? (i := 504) (by decide +kernel)) (by decide +kernel)
theorem tw_505 : Cond.methodLink "FerryTimetable$Text" 53 (⟨"FerryTimetable$Table", "at", "(II)I"⟩ : MethodName) ∈ lw_g := fw_g (List.mem_of_getElem? (i := 505) (by decide +kernel)) (by decide +kernel)
theorem tw_506 : Cond.methodLink "FerryTimetable$Text" 56 (⟨"FerryTimetable$Port", "enterCrossing", "(IIII)I"⟩ : MethodName) ∈ lw_g := fw_g (List.mem_of_getElem? (i := 506) (by decide +kernel)) (by decide +kernel)
theorem tw_507 : Cond.methodLink "FerryTimetable$Text" 62 (⟨"FerryTimetable$Port", "enterVehicle", "(III)I"⟩ : MethodName) ∈ lw_g := fw_g (List.mem_of_getElem? (i := 507) (by decide +kernel)) (by decide +kernel)
theorem tw_508 : Cond.methodLink "FerryTimetable$Text" 66 (⟨"FerryTimetable$Port", "changeTide", "(II)I"⟩ : MethodName) ∈ lw_g := fw_g (List.mem_of_getElem? (i := 508) (by decide +kernel)) (by decide +kernel)
theorem tw_509 : Cond.methodLink "FerryTimetable$Text" 69 (⟨"FerryTimetable$Port", "changeWind", "(II)I"⟩ : MethodName) ∈ lw_g := fw_g (List.mem_of_getElem? (i := 509) (by decide +kernel)) (by decide +kernel)
theorem tw_519 : Cond.methodLink "FerryTimetable" 113 (⟨"FerryTimetable$History", "takeBack", "(LFerryTimetable$Port;)I"⟩ : MethodName) ∈ lw_g := fw_g (List.mem_of_getElem? (i := 519) (by decide +kernel)) (by decide +kernel)
theorem tw_520 : Cond.instanceMethod (⟨"FerryTimetable$History", "takeBack", "(LFerryTimetable$Port;)I"⟩ : MethodName) ∈ lw_g := fw_g (List.mem_of_getElem? (i := 520) (by decide +kernel)) (by decide +kernel)
theorem tw_521 : Cond.selects "FerryTimetable$History" (⟨"FerryTimetable$History", "takeBack", "(LFerryTimetable$Port;)I"⟩ : MethodName) (⟨"FerryTimetable$History", "takeBack", "(LFerryTimetable$Port;)I"⟩ : MethodName) ∈ lw_g := fw_g (List.mem_of_getElem? (i := 521) (by decide +kernel)) (by decide +kernel)
theorem tw_522 : Cond.code (⟨"FerryTimetable$History", "takeBack", "(LFerryTimetable$Port;)I"⟩ : MethodName) prog_3_method_3_code 2 (Option.some Jvm.ClassFile.FieldType.int) ∈ lw_g := fw_g (List.mem_of_getElem? (i := 522) (by decide +kernel)) (by decide +kernel)
theorem tw_527 : Cond.methodLink "FerryTimetable" 120 (⟨"FerryTimetable$Table", "size", "()I"⟩ : MethodName) ∈ lw_g := fw_g (List.mem_of_getElem? (i := 527) (by decide +kernel)) (by decide +kernel)
theorem tw_532 : Cond.methodLink "FerryTimetable" 144 (⟨"FerryTimetable$Table", "has", "(I)Z"⟩ : MethodName) ∈ lw_g := fw_g (List.mem_of_getElem? (i := 532) (by decide +kernel)) (by decide +kernel)
theorem tw_533 : Cond.methodLink "FerryTimetable" 148 (⟨"FerryTimetable", "isOutside", "(III)Z"⟩ : MethodName) ∈ lw_g := fw_g (List.mem_of_getElem? (i := 533) (by decide +kernel)) (by decide +kernel)
theorem tw_534 : Cond.methodLink "FerryTimetable" 152 (⟨"FerryTimetable$Table", "at", "(II)I"⟩ : MethodName) ∈ lw_g := fw_g (List.mem_of_getElem? (i := 534) (by decide +kernel)) (by decide +kernel)
theorem tw_535 : Cond.methodLink "FerryTimetable" 155 (⟨"FerryTimetable$Decisions", "make", "(LFerryTimetable$Port;)V"⟩ : MethodName) ∈ lw_g := fw_g (List.mem_of_getElem? (i := 535) (by decide +kernel)) (by decide +kernel)
theorem tw_536 : Cond.instanceMethod (⟨"FerryTimetable$Decisions", "make", "(LFerryTimetable$Port;)V"⟩ : MethodName) ∈ lw_g := fw_g (List.mem_of_getElem? (i := 536) (by decide +kernel)) (by decide +kernel)
theorem tw_537 : Cond.selects "FerryTimetable$Decisions" (⟨"FerryTimetable$Decisions", "make", "(LFerryTimetable$Port;)V"⟩ : MethodName) (⟨"FerryTimetable$Decisions", "make", "(LFerryTimetable$Port;)V"⟩ : MethodName) ∈ lw_g := fw_g (List.mem_of_getElem? (i := 537) (by decide +kernel)) (by decide +kernel)
theorem tw_538 : Cond.code (⟨"FerryTimetable$Decisions", "make", "(LFerryTimetable$Port;)V"⟩ : MethodName) prog_2_method_2_code 4 (Option.none : Option Jvm.ClassFile.FieldType) ∈ lw_g := fw_g (List.mem_of_getElem? (i := 538) (by decide +kernel)) (by decide +kernel)
theorem tw_539 : Cond.methodLink "FerryTimetable$Decisions" 36 (⟨"FerryTimetable$Table", "size", "()I"⟩ : MethodName) ∈ lw_g := fw_g (List.mem_of_getElem? (i := 539) (by decide +kernel)) (by decide +kernel)
theorem tw_540 : Cond.methodLink "FerryTimetable$Decisions" 42 (⟨"FerryTimetable$Decisions", "countBefore", "(LFerryTimetable$Port;I)I"⟩ : MethodName) ∈ lw_g := fw_g (List.mem_of_getElem? (i := 540) (by decide +kernel)) (by decide +kernel)
theorem tw_541 : Cond.static (⟨"FerryTimetable$Decisions", "countBefore", "(LFerryTimetable$Port;I)I"⟩ : MethodName) ∈ lw_g := fw_g (List.mem_of_getElem? (i := 541) (by decide +kernel)) (by decide +kernel)
theorem tw_542 : Cond.code (⟨"FerryTimetable$Decisions", "countBefore", "(LFerryTimetable$Port;I)I"⟩ : MethodName) prog_2_method_3_code 6 (Option.some Jvm.ClassFile.FieldType.int) ∈ lw_g := fw_g (List.mem_of_getElem? (i := 542) (by decide +kernel)) (by decide +kernel)
theorem tw_543 : Cond.methodLink "FerryTimetable$Decisions" 53 (⟨"FerryTimetable$Table", "at", "(II)I"⟩ : MethodName) ∈ lw_g := fw_g (List.mem_of_getElem? (i := 543) (by decide +kernel)) (by decide +kernel)
theorem tw_544 : Cond.methodLink "FerryTimetable$Decisions" 46 (⟨"FerryTimetable$Decisions", "decide", "(LFerryTimetable$Port;I)V"⟩ : MethodName) ∈ lw_g := fw_g (List.mem_of_getElem? (i := 544) (by decide +kernel)) (by decide +kernel)
theorem tw_546 : Cond.instanceMethod (⟨"FerryTimetable$Decisions", "decide", "(LFerryTimetable$Port;I)V"⟩ : MethodName) ∈ lw_g := fw_g (List.mem_of_getElem? (i := 546) (by decide +kernel)) (by decide +kernel)
theorem tw_547 : Cond.code (⟨"FerryTimetable$Decisions", "decide", "(LFerryTimetable$Port;I)V"⟩ : MethodName) prog_2_method_4_code 6 (Option.none : Option Jvm.ClassFile.FieldType) ∈ lw_g := fw_g (List.mem_of_getElem? (i := 547) (by decide +kernel)) (by decide +kernel)
theorem tw_548 : Cond.methodLink "FerryTimetable$Decisions" 57 (⟨"FerryTimetable$Decisions", "strongWind", "(LFerryTimetable$Port;I)I"⟩ : MethodName) ∈ lw_g := fw_g (List.mem_of_getElem? (i := 548) (by decide +kernel)) (by decide +kernel)
theorem tw_549 : Cond.static (⟨"FerryTimetable$Decisions", "strongWind", "(LFerryTimetable$Port;I)I"⟩ : MethodName) ∈ lw_g := fw_g (List.mem_of_getElem? (i := 549) (by decide +kernel)) (by decide +kernel)
theorem tw_550 : Cond.code (⟨"FerryTimetable$Decisions", "strongWind", "(LFerryTimetable$Port;I)I"⟩ : MethodName) prog_2_method_5_code 3 (Option.some Jvm.ClassFile.FieldType.int) ∈ lw_g := fw_g (List.mem_of_getElem? (i := 550) (by decide +kernel)) (by decide +kernel)
theorem tw_551 : Cond.methodLink "FerryTimetable$Decisions" 67 (⟨"FerryTimetable$Port", "windAt", "(I)I"⟩ : MethodName) ∈ lw_g := fw_g (List.mem_of_getElem? (i := 551) (by decide +kernel)) (by decide +kernel)
theorem tw_552 : Cond.instanceMethod (⟨"FerryTimetable$Port", "windAt", "(I)I"⟩ : MethodName) ∈ lw_g := fw_g (List.mem_of_getElem? (i := 552) (by decide +kernel)) (by decide +kernel)
theorem tw_553 : Cond.selects "FerryTimetable$Port" (⟨"FerryTimetable$Port", "windAt", "(I)I"⟩ : MethodName) (⟨"FerryTimetable$Port", "windAt", "(I)I"⟩ : MethodName) ∈ lw_g := fw_g (List.mem_of_getElem? (i := 553) (by decide +kernel)) (by decide +kernel)
theorem tw_554 : Cond.code (⟨"FerryTimetable$Port", "windAt", "(I)I"⟩ : MethodName) prog_5_method_20_code 2 (Option.some Jvm.ClassFile.FieldType.int) ∈ lw_g := fw_g (List.mem_of_getElem? (i := 554) (by decide +kernel)) (by decide +kernel)
theorem tw_555 : Cond.methodLink "FerryTimetable$Decisions" 71 (⟨"FerryTimetable$Port", "windLimitOf", "(I)I"⟩ : MethodName) ∈ lw_g := fw_g (List.mem_of_getElem? (i := 555) (by decide +kernel)) (by decide +kernel)
theorem tw_556 : Cond.instanceMethod (⟨"FerryTimetable$Port", "windLimitOf", "(I)I"⟩ : MethodName) ∈ lw_g := fw_g (List.mem_of_getElem? (i := 556) (by decide +kernel)) (by decide +kernel)
theorem tw_557 : Cond.selects "FerryTimetable$Port" (⟨"FerryTimetable$Port", "windLimitOf", "(I)I"⟩ : MethodName) (⟨"FerryTimetable$Port", "windLimitOf", "(I)I"⟩ : MethodName) ∈ lw_g := fw_g (List.mem_of_getElem? (i := 557) (by decide +kernel)) (by decide +kernel)
theorem tw_558 : Cond.code (⟨"FerryTimetable$Port", "windLimitOf", "(I)I"⟩ : MethodName) prog_5_method_18_code 2 (Option.some Jvm.ClassFile.FieldType.int) ∈ lw_g := fw_g (List.mem_of_getElem? (i := 558) (by decide +kernel)) (by decide +kernel)
theorem tw_559 : Cond.methodLink "FerryTimetable$Decisions" 60 (⟨"FerryTimetable$Decisions", "firstShallowTime", "(LFerryTimetable$Port;I)I"⟩ : MethodName) ∈ lw_g := fw_g (List.mem_of_getElem? (i := 559) (by decide +kernel)) (by decide +kernel)
theorem tw_560 : Cond.static (⟨"FerryTimetable$Decisions", "firstShallowTime", "(LFerryTimetable$Port;I)I"⟩ : MethodName) ∈ lw_g := fw_g (List.mem_of_getElem? (i := 560) (by decide +kernel)) (by decide +kernel)
theorem tw_561 : Cond.code (⟨"FerryTimetable$Decisions", "firstShallowTime", "(LFerryTimetable$Port;I)I"⟩ : MethodName) prog_2_method_6_code 7 (Option.some Jvm.ClassFile.FieldType.int) ∈ lw_g := fw_g (List.mem_of_getElem? (i := 561) (by decide +kernel)) (by decide +kernel)
theorem tw_562 : Cond.methodLink "FerryTimetable$Decisions" 74 (⟨"FerryTimetable$Port", "isDeepEnough", "(III)Z"⟩ : MethodName) ∈ lw_g := fw_g (List.mem_of_getElem? (i := 562) (by decide +kernel)) (by decide +kernel)
theorem tw_563 : Cond.instanceMethod (⟨"FerryTimetable$Port", "isDeepEnough", "(III)Z"⟩ : MethodName) ∈ lw_g := fw_g (List.mem_of_getElem? (i := 563) (by decide +kernel)) (by decide +kernel)
theorem tw_564 : Cond.selects "FerryTimetable$Port" (⟨"FerryTimetable$Port", "isDeepEnough", "(III)Z"⟩ : MethodName) (⟨"FerryTimetable$Port", "isDeepEnough", "(III)Z"⟩ : MethodName) ∈ lw_g := fw_g (List.mem_of_getElem? (i := 564) (by decide +kernel)) (by decide +kernel)
theorem tw_565 : Cond.code (⟨"FerryTimetable$Port", "isDeepEnough", "(III)Z"⟩ : MethodName) prog_5_method_23_code 4 (Option.some Jvm.ClassFile.FieldType.boolean) ∈ lw_g := fw_g (List.mem_of_getElem? (i := 565) (by decide +kernel)) (by decide +kernel)
theorem tw_566 : Cond.methodLink "FerryTimetable$Port" 90 (⟨"FerryTimetable$Port", "waterAt", "(II)I"⟩ : MethodName) ∈ lw_g := fw_g (List.mem_of_getElem? (i := 566) (by decide +kernel)) (by decide +kernel)
theorem tw_567 : Cond.instanceMethod (⟨"FerryTimetable$Port", "waterAt", "(II)I"⟩ : MethodName) ∈ lw_g := fw_g (List.mem_of_getElem? (i := 567) (by decide +kernel)) (by decide +kernel)
theorem tw_568 : Cond.selects "FerryTimetable$Port" (⟨"FerryTimetable$Port", "waterAt", "(II)I"⟩ : MethodName) (⟨"FerryTimetable$Port", "waterAt", "(II)I"⟩ : MethodName) ∈ lw_g := fw_g (List.mem_of_getElem? (i := 568) (by decide +kernel)) (by decide +kernel)
theorem tw_569 : Cond.code (⟨"FerryTimetable$Port", "waterAt", "(II)I"⟩ : MethodName) prog_5_method_22_code 3 (Option.some Jvm.ClassFile.FieldType.int) ∈ lw_g := fw_g (List.mem_of_getElem? (i := 569) (by decide +kernel)) (by decide +kernel)
theorem tw_570 : Cond.methodLink "FerryTimetable$Port" 86 (⟨"FerryTimetable$Port", "floatHeightAt", "(I)F"⟩ : MethodName) ∈ lw_g := fw_g (List.mem_of_getElem? (i := 570) (by decide +kernel)) (by decide +kernel)
theorem tw_571 : Cond.instanceMethod (⟨"FerryTimetable$Port", "floatHeightAt", "(I)F"⟩ : MethodName) ∈ lw_g := fw_g (List.mem_of_getElem? (i := 571) (by decide +kernel)) (by decide +kernel)
theorem tw_572 : Cond.selects "FerryTimetable$Port" (⟨"FerryTimetable$Port", "floatHeightAt", "(I)F"⟩ : MethodName) (⟨"FerryTimetable$Port", "floatHeightAt", "(I)F"⟩ : MethodName) ∈ lw_g := fw_g (List.mem_of_getElem? (i := 572) (by decide +kernel)) (by decide +kernel)
theorem tw_573 : Cond.code (⟨"FerryTimetable$Port", "floatHeightAt", "(I)F"⟩ : MethodName) prog_5_method_21_code 5 (Option.some Jvm.ClassFile.FieldType.float) ∈ lw_g := fw_g (List.mem_of_getElem? (i := 573) (by decide +kernel)) (by decide +kernel)
theorem tw_574 : Cond.constantFloat "FerryTimetable$Port" 85 1114636288 ∈ lw_g := fw_g (List.mem_of_getElem? (i := 574) (by decide +kernel)) (by decide +kernel)
theorem tw_575 : Cond.methodLink "FerryTimetable$Decisions" 63 (⟨"FerryTimetable$Decisions", "firstInTheWay", "(LFerryTimetable$Port;II)I"⟩ : MethodName) ∈ lw_g := fw_g (List.mem_of_getElem? (i := 575) (by decide +kernel)) (by decide +kernel)
theorem tw_577 : Cond.instanceMethod (⟨"FerryTimetable$Decisions", "firstInTheWay", "(LFerryTimetable$Port;II)I"⟩ : MethodName) ∈ lw_g := fw_g (List.mem_of_getElem? (i := 577) (by decide +kernel)) (by decide +kernel)
theorem tw_578 : Cond.code (⟨"FerryTimetable$Decisions", "firstInTheWay", "(LFerryTimetable$Port;II)I"⟩ : MethodName) prog_2_method_7_code 10 (Option.some Jvm.ClassFile.FieldType.int) ∈ lw_g := fw_g (List.mem_of_getElem? (i := 578) (by decide +kernel)) (by decide +kernel)
theorem tw_579 : Cond.methodLink "FerryTimetable$Decisions" 78 (⟨"FerryTimetable$Decisions", "sails", "(I)Z"⟩ : MethodName) ∈ lw_g := fw_g (List.mem_of_getElem? (i := 579) (by decide +kernel)) (by decide +kernel)
theorem tw_580 : Cond.instanceMethod (⟨"FerryTimetable$Decisions", "sails", "(I)Z"⟩ : MethodName) ∈ lw_g := fw_g (List.mem_of_getElem? (i := 580) (by decide +kernel)) (by decide +kernel)
theorem tw_581 : Cond.selects "FerryTimetable$Decisions" (⟨"FerryTimetable$Decisions", "sails", "(I)Z"⟩ : MethodName) (⟨"FerryTimetable$Decisions", "sails", "(I)Z"⟩ : MethodName) ∈ lw_g := fw_g (List.mem_of_getElem? (i := 581) (by decide +kernel)) (by decide +kernel)
theorem tw_582 : Cond.code (⟨"FerryTimetable$Decisions", "sails", "(I)Z"⟩ : MethodName) prog_2_method_11_code 2 (Option.some Jvm.ClassFile.FieldType.boolean) ∈ lw_g := fw_g (List.mem_of_getElem? (i := 582) (by decide +kernel)) (by decide +kernel)
theorem tw_583 : Cond.methodLink "FerryTimetable$Decisions" 50 (⟨"FerryTimetable$Decisions", "settleConnections", "(LFerryTimetable$Port;I)V"⟩ : MethodName) ∈ lw_g := fw_g (List.mem_of_getElem? (i := 583) (by decide +kernel)) (by decide +kernel)
theorem tw_585 : Cond.instanceMethod (⟨"FerryTimetable$Decisions", "settleConnections", "(LFerryTimetable$Port;I)V"⟩ : MethodName) ∈ lw_g := fw_g (List.mem_of_getElem? (i := 585) (by decide +kernel)) (by decide +kernel)
theorem tw_586 : Cond.code (⟨"FerryTimetable$Decisions", "settleConnections", "(LFerryTimetable$Port;I)V"⟩ : MethodName) prog_2_method_8_code 5 (Option.none : Option Jvm.ClassFile.FieldType) ∈ lw_g := fw_g (List.mem_of_getElem? (i := 586) (by decide +kernel)) (by decide +kernel)
theorem tw_587 : Cond.methodLink "FerryTimetable$Decisions" 85 (⟨"FerryTimetable$Decisions", "fateOf", "(LFerryTimetable$Port;II)I"⟩ : MethodName) ∈ lw_g := fw_g (List.mem_of_getElem? (i := 587) (by decide +kernel)) (by decide +kernel)
theorem tw_588 : Cond.static (⟨"FerryTimetable$Decisions", "fateOf", "(LFerryTimetable$Port;II)I"⟩ : MethodName) ∈ lw_g := fw_g (List.mem_of_getElem? (i := 588) (by decide +kernel)) (by decide +kernel)
theorem tw_589 : Cond.code (⟨"FerryTimetable$Decisions", "fateOf", "(LFerryTimetable$Port;II)I"⟩ : MethodName) prog_2_method_9_code 8 (Option.some Jvm.ClassFile.FieldType.int) ∈ lw_g := fw_g (List.mem_of_getElem? (i := 589) (by decide +kernel)) (by decide +kernel)
theorem tw_590 : Cond.methodLink "FerryTimetable$Decisions" 88 (⟨"FerryTimetable$Decisions", "readyTime", "(LFerryTimetable$Port;I)I"⟩ : MethodName) ∈ lw_g := fw_g (List.mem_of_getElem? (i := 590) (by decide +kernel)) (by decide +kernel)
theorem tw_591 : Cond.static (⟨"FerryTimetable$Decisions", "readyTime", "(LFerryTimetable$Port;I)I"⟩ : MethodName) ∈ lw_g := fw_g (List.mem_of_getElem? (i := 591) (by decide +kernel)) (by decide +kernel)
theorem tw_592 : Cond.code (⟨"FerryTimetable$Decisions", "readyTime", "(LFerryTimetable$Port;I)I"⟩ : MethodName) prog_2_method_10_code 2 (Option.some Jvm.ClassFile.FieldType.int) ∈ lw_g := fw_g (List.mem_of_getElem? (i := 592) (by decide +kernel)) (by decide +kernel)
theorem tw_593 : Cond.methodLink "FerryTimetable$Decisions" 91 (⟨"java/lang/Math", "max", "(II)I"⟩ : MethodName) ∈ lw_g := fw_g (List.mem_of_getElem? (i := 593) (by decide +kernel)) (by decide +kernel)
theorem tw_594 : Cond.static (⟨"java/lang/Math", "max", "(II)I"⟩ : MethodName) ∈ lw_g := fw_g (List.mem_of_getElem? (i := 594) (by decide +kernel)) (by decide +kernel)
theorem tw_595 : Cond.code (⟨"java/lang/Math", "max", "(II)I"⟩ : MethodName) prog_12_method_65_code 2 (Option.some Jvm.ClassFile.FieldType.int) ∈ lw_g := fw_g (List.mem_of_getElem? (i := 595) (by decide +kernel)) (by decide +kernel)
theorem tw_596 : Cond.methodLink "FerryTimetable" 158 (⟨"FerryTimetable$Decisions", "countSailing", "(LFerryTimetable$Port;II)I"⟩ : MethodName) ∈ lw_g := fw_g (List.mem_of_getElem? (i := 596) (by decide +kernel)) (by decide +kernel)
theorem tw_597 : Cond.instanceMethod (⟨"FerryTimetable$Decisions", "countSailing", "(LFerryTimetable$Port;II)I"⟩ : MethodName) ∈ lw_g := fw_g (List.mem_of_getElem? (i := 597) (by decide +kernel)) (by decide +kernel)
theorem tw_598 : Cond.selects "FerryTimetable$Decisions" (⟨"FerryTimetable$Decisions", "countSailing", "(LFerryTimetable$Port;II)I"⟩ : MethodName) (⟨"FerryTimetable$Decisions", "countSailing", "(LFerryTimetable$Port;II)I"⟩ : MethodName) ∈ lw_g := fw_g (List.mem_of_getElem? (i := 598) (by decide +kernel)) (by decide +kernel)
theorem tw_599 : Cond.code (⟨"FerryTimetable$Decisions", "countSailing", "(LFerryTimetable$Port;II)I"⟩ : MethodName) prog_2_method_14_code 6 (Option.some Jvm.ClassFile.FieldType.int) ∈ lw_g := fw_g (List.mem_of_getElem? (i := 599) (by decide +kernel)) (by decide +kernel)
theorem tw_608 : Cond.methodLink "FerryTimetable" 162 (⟨"FerryTimetable$Decisions", "tell", "(II)I"⟩ : MethodName) ∈ lw_g := fw_g (List.mem_of_getElem? (i := 608) (by decide +kernel)) (by decide +kernel)
theorem tw_609 : Cond.instanceMethod (⟨"FerryTimetable$Decisions", "tell", "(II)I"⟩ : MethodName) ∈ lw_g := fw_g (List.mem_of_getElem? (i := 609) (by decide +kernel)) (by decide +kernel)
theorem tw_610 : Cond.selects "FerryTimetable$Decisions" (⟨"FerryTimetable$Decisions", "tell", "(II)I"⟩ : MethodName) (⟨"FerryTimetable$Decisions", "tell", "(II)I"⟩ : MethodName) ∈ lw_g := fw_g (List.mem_of_getElem? (i := 610) (by decide +kernel)) (by decide +kernel)
theorem tw_611 : Cond.code (⟨"FerryTimetable$Decisions", "tell", "(II)I"⟩ : MethodName) prog_2_method_12_code 3 (Option.some Jvm.ClassFile.FieldType.int) ∈ lw_g := fw_g (List.mem_of_getElem? (i := 611) (by decide +kernel)) (by decide +kernel)
theorem tw_612 : Cond.methodLink "FerryTimetable" 165 (⟨"FerryTimetable$Loading", "make", "(LFerryTimetable$Port;LFerryTimetable$Decisions;)V"⟩ : MethodName) ∈ lw_g := fw_g (List.mem_of_getElem? (i := 612) (by decide +kernel)) (by decide +kernel)
theorem tw_613 : Cond.instanceMethod (⟨"FerryTimetable$Loading", "make", "(LFerryTimetable$Port;LFerryTimetable$Decisions;)V"⟩ : MethodName) ∈ lw_g := fw_g (List.mem_of_getElem? (i := 613) (by decide +kernel)) (by decide +kernel)
theorem tw_614 : Cond.selects "FerryTimetable$Loading" (⟨"FerryTimetable$Loading", "make", "(LFerryTimetable$Port;LFerryTimetable$Decisions;)V"⟩ : MethodName) (⟨"FerryTimetable$Loading", "make", "(LFerryTimetable$Port;LFerryTimetable$Decisions;)V"⟩ : MethodName) ∈ lw_g := fw_g (List.mem_of_getElem? (i := 614) (by decide +kernel)) (by decide +kernel)
theorem tw_615 : Cond.code (⟨"FerryTimetable$Loading", "make", "(LFerryTimetable$Port;LFerryTimetable$Decisions;)V"⟩ : MethodName) prog_4_method_2_code 4 (Option.none : Option Jvm.ClassFile.FieldType) ∈ lw_g := fw_g (List.mem_of_getElem? (i := 615) (by decide +kernel)) (by decide +kernel)
theorem tw_616 : Cond.methodLink "FerryTimetable$Loading" 51 (⟨"FerryTimetable$Table", "size", "()I"⟩ : MethodName) ∈ lw_g := fw_g (List.mem_of_getElem? (i := 616) (by decide +kernel)) (by decide +kernel)
theorem tw_617 : Cond.methodLink "FerryTimetable$Loading" 57 (⟨"FerryTimetable$Loading", "emptyLanes", "(LFerryTimetable$Port;I)V"⟩ : MethodName) ∈ lw_g := fw_g (List.mem_of_getElem? (i := 617) (by decide +kernel)) (by decide +kernel)
theorem tw_619 : Cond.instanceMethod (⟨"FerryTimetable$Loading", "emptyLanes", "(LFerryTimetable$Port;I)V"⟩ : MethodName) ∈ lw_g := fw_g (List.mem_of_getElem? (i := 619) (by decide +kernel)) (by decide +kernel)
theorem tw_620 : Cond.code (⟨"FerryTimetable$Loading", "emptyLanes", "(LFerryTimetable$Port;I)V"⟩ : MethodName) prog_4_method_3_code 4 (Option.none : Option Jvm.ClassFile.FieldType) ∈ lw_g := fw_g (List.mem_of_getElem? (i := 620) (by decide +kernel)) (by decide +kernel)
theorem tw_621 : Cond.methodLink "FerryTimetable$Loading" 76 (⟨"FerryTimetable$Port", "laneLengthOf", "(I)I"⟩ : MethodName) ∈ lw_g := fw_g (List.mem_of_getElem? (i := 621) (by decide +kernel)) (by decide +kernel)
theorem tw_622 : Cond.instanceMethod (⟨"FerryTimetable$Port", "laneLengthOf", "(I)I"⟩ : MethodName) ∈ lw_g := fw_g (List.mem_of_getElem? (i := 622) (by decide +kernel)) (by decide +kernel)
theorem tw_623 : Cond.selects "FerryTimetable$Port" (⟨"FerryTimetable$Port", "laneLengthOf", "(I)I"⟩ : MethodName) (⟨"FerryTimetable$Port", "laneLengthOf", "(I)I"⟩ : MethodName) ∈ lw_g := fw_g (List.mem_of_getElem? (i := 623) (by decide +kernel)) (by decide +kernel)
theorem tw_624 : Cond.code (⟨"FerryTimetable$Port", "laneLengthOf", "(I)I"⟩ : MethodName) prog_5_method_17_code 2 (Option.some Jvm.ClassFile.FieldType.int) ∈ lw_g := fw_g (List.mem_of_getElem? (i := 624) (by decide +kernel)) (by decide +kernel)
theorem tw_625 : Cond.methodLink "FerryTimetable$Loading" 64 (⟨"FerryTimetable$Table", "at", "(II)I"⟩ : MethodName) ∈ lw_g := fw_g (List.mem_of_getElem? (i := 625) (by decide +kernel)) (by decide +kernel)
theorem tw_626 : Cond.methodLink "FerryTimetable$Loading" 68 (⟨"FerryTimetable$Loading", "lineUp", "(II)V"⟩ : MethodName) ∈ lw_g := fw_g (List.mem_of_getElem? (i := 626) (by decide +kernel)) (by decide +kernel)
theorem tw_628 : Cond.instanceMethod (⟨"FerryTimetable$Loading", "lineUp", "(II)V"⟩ : MethodName) ∈ lw_g := fw_g (List.mem_of_getElem? (i := 628) (by decide +kernel)) (by decide +kernel)
theorem tw_629 : Cond.code (⟨"FerryTimetable$Loading", "lineUp", "(II)V"⟩ : MethodName) prog_4_method_4_code 4 (Option.none : Option Jvm.ClassFile.FieldType) ∈ lw_g := fw_g (List.mem_of_getElem? (i := 629) (by decide +kernel)) (by decide +kernel)
theorem tw_630 : Cond.methodLink "FerryTimetable$Loading" 72 (⟨"FerryTimetable$Loading", "loadOrShift", "(LFerryTimetable$Port;LFerryTimetable$Decisions;I)V"⟩ : MethodName) ∈ lw_g := fw_g (List.mem_of_getElem? (i := 630) (by decide +kernel)) (by decide +kernel)
theorem tw_632 : Cond.instanceMethod (⟨"FerryTimetable$Loading", "loadOrShift", "(LFerryTimetable$Port;LFerryTimetable$Decisions;I)V"⟩ : MethodName) ∈ lw_g := fw_g (List.mem_of_getElem? (i := 632) (by decide +kernel)) (by decide +kernel)
theorem tw_633 : Cond.code (⟨"FerryTimetable$Loading", "loadOrShift", "(LFerryTimetable$Port;LFerryTimetable$Decisions;I)V"⟩ : MethodName) prog_4_method_5_code 9 (Option.none : Option Jvm.ClassFile.FieldType) ∈ lw_g := fw_g (List.mem_of_getElem? (i := 633) (by decide +kernel)) (by decide +kernel)
theorem tw_634 : Cond.methodLink "FerryTimetable$Loading" 85 (⟨"FerryTimetable$Decisions", "nextSailing", "(LFerryTimetable$Port;I)I"⟩ : MethodName) ∈ lw_g := fw_g (List.mem_of_getElem? (i := 634) (by decide +kernel)) (by decide +kernel)
theorem tw_635 : Cond.instanceMethod (⟨"FerryTimetable$Decisions", "nextSailing", "(LFerryTimetable$Port;I)I"⟩ : MethodName) ∈ lw_g := fw_g (List.mem_of_getElem? (i := 635) (by decide +kernel)) (by decide +kernel)
theorem tw_636 : Cond.selects "FerryTimetable$Decisions" (⟨"FerryTimetable$Decisions", "nextSailing", "(LFerryTimetable$Port;I)I"⟩ : MethodName) (⟨"FerryTimetable$Decisions", "nextSailing", "(LFerryTimetable$Port;I)I"⟩ : MethodName) ∈ lw_g := fw_g (List.mem_of_getElem? (i := 636) (by decide +kernel)) (by decide +kernel)
theorem tw_637 : Cond.code (⟨"FerryTimetable$Decisions", "nextSailing", "(LFerryTimetable$Port;I)I"⟩ : MethodName) prog_2_method_13_code 5 (Option.some Jvm.ClassFile.FieldType.int) ∈ lw_g := fw_g (List.mem_of_getElem? (i := 637) (by decide +kernel)) (by decide +kernel)
theorem tw_638 : Cond.methodLink "FerryTimetable$Loading" 89 (⟨"FerryTimetable$Decisions", "sails", "(I)Z"⟩ : MethodName) ∈ lw_g := fw_g (List.mem_of_getElem? (i := 638) (by decide +kernel)) (by decide +kernel)
theorem tw_639 : Cond.methodLink "FerryTimetable$Loading" 93 (⟨"FerryTimetable$Loading", "findLane", "(LFerryTimetable$Port;II)I"⟩ : MethodName) ∈ lw_g := fw_g (List.mem_of_getElem? (i := 639) (by decide +kernel)) (by decide +kernel)
theorem tw_641 : Cond.instanceMethod (⟨"FerryTimetable$Loading", "findLane", "(LFerryTimetable$Port;II)I"⟩ : MethodName) ∈ lw_g := fw_g (List.mem_of_getElem? (i := 641) (by decide +kernel)) (by decide +kernel)
theorem tw_642 : Cond.code (⟨"FerryTimetable$Loading", "findLane", "(LFerryTimetable$Port;II)I"⟩ : MethodName) prog_4_method_6_code 9 (Option.some Jvm.ClassFile.FieldType.int) ∈ lw_g := fw_g (List.mem_of_getElem? (i := 642) (by decide +kernel)) (by decide +kernel)
theorem tw_643 : Cond.methodLink "FerryTimetable$Loading" 101 (⟨"FerryTimetable$Port", "lanesOf", "(I)I"⟩ : MethodName) ∈ lw_g := fw_g (List.mem_of_getElem? (i := 643) (by decide +kernel)) (by decide +kernel)
theorem tw_644 : Cond.instanceMethod (⟨"FerryTimetable$Port", "lanesOf", "(I)I"⟩ : MethodName) ∈ lw_g := fw_g (List.mem_of_getElem? (i := 644) (by decide +kernel)) (by decide +kernel)
theorem tw_645 : Cond.selects "FerryTimetable$Port" (⟨"FerryTimetable$Port", "lanesOf", "(I)I"⟩ : MethodName) (⟨"FerryTimetable$Port", "lanesOf", "(I)I"⟩ : MethodName) ∈ lw_g := fw_g (List.mem_of_getElem? (i := 645) (by decide +kernel)) (by decide +kernel)
theorem tw_646 : Cond.code (⟨"FerryTimetable$Port", "lanesOf", "(I)I"⟩ : MethodName) prog_5_method_16_code 2 (Option.some Jvm.ClassFile.FieldType.int) ∈ lw_g := fw_g (List.mem_of_getElem? (i := 646) (by decide +kernel)) (by decide +kernel)
theorem tw_647 : Cond.methodLink "FerryTimetable$Loading" 104 (⟨"FerryTimetable$Loading", "mayStand", "(LFerryTimetable$Port;III)Z"⟩ : MethodName) ∈ lw_g := fw_g (List.mem_of_getElem? (i := 647) (by decide +kernel)) (by decide +kernel)
theorem tw_649 : Cond.instanceMethod (⟨"FerryTimetable$Loading", "mayStand", "(LFerryTimetable$Port;III)Z"⟩ : MethodName) ∈ lw_g := fw_g (List.mem_of_getElem? (i := 649) (by decide +kernel)) (by decide +kernel)
theorem tw_650 : Cond.code (⟨"FerryTimetable$Loading", "mayStand", "(LFerryTimetable$Port;III)Z"⟩ : MethodName) prog_4_method_7_code 7 (Option.some Jvm.ClassFile.FieldType.boolean) ∈ lw_g := fw_g (List.mem_of_getElem? (i := 650) (by decide +kernel)) (by decide +kernel)
theorem tw_651 : Cond.methodLink "FerryTimetable$Loading" 108 (⟨"FerryTimetable$Port", "rampsOf", "(I)I"⟩ : MethodName) ∈ lw_g := fw_g (List.mem_of_getElem? (i := 651) (by decide +kernel)) (by decide +kernel)
theorem tw_652 : Cond.instanceMethod (⟨"FerryTimetable$Port", "rampsOf", "(I)I"⟩ : MethodName) ∈ lw_g := fw_g (List.mem_of_getElem? (i := 652) (by decide +kernel)) (by decide +kernel)
theorem tw_653 : Cond.selects "FerryTimetable$Port" (⟨"FerryTimetable$Port", "rampsOf", "(I)I"⟩ : MethodName) (⟨"FerryTimetable$Port", "rampsOf", "(I)I"⟩ : MethodName) ∈ lw_g := fw_g (List.mem_of_getElem? (i := 653) (by decide +kernel)) (by decide +kernel)
theorem tw_654 : Cond.code (⟨"FerryTimetable$Port", "rampsOf", "(I)I"⟩ : MethodName) prog_5_method_19_code 2 (Option.some Jvm.ClassFile.FieldType.int) ∈ lw_g := fw_g (List.mem_of_getElem? (i := 654) (by decide +kernel)) (by decide +kernel)
theorem tw_655 : Cond.methodLink "FerryTimetable$Loading" 97 (⟨"FerryTimetable$Loading", "board", "(LFerryTimetable$Port;III)V"⟩ : MethodName) ∈ lw_g := fw_g (List.mem_of_getElem? (i := 655) (by decide +kernel)) (by decide +kernel)
theorem tw_657 : Cond.instanceMethod (⟨"FerryTimetable$Loading", "board", "(LFerryTimetable$Port;III)V"⟩ : MethodName) ∈ lw_g := fw_g (List.mem_of_getElem? (i := 657) (by decide +kernel)) (by decide +kernel)
theorem tw_658 : Cond.code (⟨"FerryTimetable$Loading", "board", "(LFerryTimetable$Port;III)V"⟩ : MethodName) prog_4_method_8_code 6 (Option.none : Option Jvm.ClassFile.FieldType) ∈ lw_g := fw_g (List.mem_of_getElem? (i := 658) (by decide +kernel)) (by decide +kernel)
theorem tw_659 : Cond.methodLink "FerryTimetable" 168 (⟨"FerryTimetable$Loading", "countAboard", "(LFerryTimetable$Port;I)I"⟩ : MethodName) ∈ lw_g := fw_g (List.mem_of_getElem? (i := 659) (by decide +kernel)) (by decide +kernel)
theorem tw_660 : Cond.instanceMethod (⟨"FerryTimetable$Loading", "countAboard", "(LFerryTimetable$Port;I)I"⟩ : MethodName) ∈ lw_g := fw_g (List.mem_of_getElem? (i := 660) (by decide +kernel)) (by decide +kernel)
theorem tw_661 : Cond.selects "FerryTimetable$Loading" (⟨"FerryTimetable$Loading", "countAboard", "(LFerryTimetable$Port;I)I"⟩ : MethodName) (⟨"FerryTimetable$Loading", "countAboard", "(LFerryTimetable$Port;I)I"⟩ : MethodName) ∈ lw_g := fw_g (List.mem_of_getElem? (i := 661) (by decide +kernel)) (by decide +kernel)
theorem tw_662 : Cond.code (⟨"FerryTimetable$Loading", "countAboard", "(LFerryTimetable$Port;I)I"⟩ : MethodName) prog_4_method_16_code 5 (Option.some Jvm.ClassFile.FieldType.int) ∈ lw_g := fw_g (List.mem_of_getElem? (i := 662) (by decide +kernel)) (by decide +kernel)
theorem tw_671 : Cond.methodLink "FerryTimetable" 179 (⟨"FerryTimetable$Loading", "tell", "(II)I"⟩ : MethodName) ∈ lw_g := fw_g (List.mem_of_getElem? (i := 671) (by decide +kernel)) (by decide +kernel)
theorem tw_672 : Cond.instanceMethod (⟨"FerryTimetable$Loading", "tell", "(II)I"⟩ : MethodName) ∈ lw_g := fw_g (List.mem_of_getElem? (i := 672) (by decide +kernel)) (by decide +kernel)
theorem tw_673 : Cond.selects "FerryTimetable$Loading" (⟨"FerryTimetable$Loading", "tell", "(II)I"⟩ : MethodName) (⟨"FerryTimetable$Loading", "tell", "(II)I"⟩ : MethodName) ∈ lw_g := fw_g (List.mem_of_getElem? (i := 673) (by decide +kernel)) (by decide +kernel)
theorem tw_674 : Cond.code (⟨"FerryTimetable$Loading", "tell", "(II)I"⟩ : MethodName) prog_4_method_9_code 3 (Option.some Jvm.ClassFile.FieldType.int) ∈ lw_g := fw_g (List.mem_of_getElem? (i := 674) (by decide +kernel)) (by decide +kernel)
theorem tw_691 : Cond.methodLink "FerryTimetable" 189 (⟨"FerryTimetable$Port", "floatHeightAt", "(I)F"⟩ : MethodName) ∈ lw_g := fw_g (List.mem_of_getElem? (i := 691) (by decide +kernel)) (by decide +kernel)
theorem tw_696 : Cond.methodLink "FerryTimetable" 193 (⟨"FerryTimetable", "bitsOf", "(F)I"⟩ : MethodName) ∈ lw_g := fw_g (List.mem_of_getElem? (i := 696) (by decide +kernel)) (by decide +kernel)
theorem tw_697 : Cond.static (⟨"FerryTimetable", "bitsOf", "(F)I"⟩ : MethodName) ∈ lw_g := fw_g (List.mem_of_getElem? (i := 697) (by decide +kernel)) (by decide +kernel)
theorem tw_698 : Cond.code (⟨"FerryTimetable", "bitsOf", "(F)I"⟩ : MethodName) prog_1_method_45_code 5 (Option.some Jvm.ClassFile.FieldType.int) ∈ lw_g := fw_g (List.mem_of_getElem? (i := 698) (by decide +kernel)) (by decide +kernel)
theorem tw_699 : Cond.constantFloat "FerryTimetable" 275 1258291200 ∈ lw_g := fw_g (List.mem_of_getElem? (i := 699) (by decide +kernel)) (by decide +kernel)
theorem tw_700 : Cond.constant "FerryTimetable" 276 8388608 ∈ lw_g := fw_g (List.mem_of_getElem? (i := 700) (by decide +kernel)) (by decide +kernel)
theorem tw_701 : Cond.constant "FerryTimetable" 277 (-2147483648) ∈ lw_g := fw_g (List.mem_of_getElem? (i := 701) (by decide +kernel)) (by decide +kernel)
theorem tw_706 : Cond.methodLink "FerryTimetable" 197 (⟨"FerryTimetable$Port", "waterAt", "(II)I"⟩ : MethodName) ∈ lw_g := fw_g (List.mem_of_getElem? (i := 706) (by decide +kernel)) (by decide +kernel)
theorem tw_711 : Cond.methodLink "FerryTimetable" 200 (⟨"FerryTimetable$Port", "isDeepEnough", "(III)Z"⟩ : MethodName) ∈ lw_g := fw_g (List.mem_of_getElem? (i := 711) (by decide +kernel)) (by decide +kernel)
theorem tw_716 : Cond.methodLink "FerryTimetable" 203 (⟨"FerryTimetable$Port", "hasLane", "(II)Z"⟩ : MethodName) ∈ lw_g := fw_g (List.mem_of_getElem? (i := 716) (by decide +kernel)) (by decide +kernel)
theorem tw_717 : Cond.instanceMethod (⟨"FerryTimetable$Port", "hasLane", "(II)Z"⟩ : MethodName) ∈ lw_g := fw_g (List.mem_of_getElem? (i := 717) (by decide +kernel)) (by decide +kernel)
theorem tw_718 : Cond.selects "FerryTimetable$Port" (⟨"FerryTimetable$Port", "hasLane", "(II)Z"⟩ : MethodName) (⟨"FerryTimetable$Port", "hasLane", "(II)Z"⟩ : MethodName) ∈ lw_g := fw_g (List.mem_of_getElem? (i := 718) (by decide +kernel)) (by decide +kernel)
theorem tw_719 : Cond.code (⟨"FerryTimetable$Port", "hasLane", "(II)Z"⟩ : MethodName) prog_5_method_15_code 3 (Option.some Jvm.ClassFile.FieldType.boolean) ∈ lw_g := fw_g (List.mem_of_getElem? (i := 719) (by decide +kernel)) (by decide +kernel)
theorem tw_720 : Cond.methodLink "FerryTimetable$Port" 81 (⟨"FerryTimetable$Port", "lanesOf", "(I)I"⟩ : MethodName) ∈ lw_g := fw_g (List.mem_of_getElem? (i := 720) (by decide +kernel)) (by decide +kernel)
theorem tw_721 : Cond.methodLink "FerryTimetable" 207 (⟨"FerryTimetable$Decisions", "sails", "(I)Z"⟩ : MethodName) ∈ lw_g := fw_g (List.mem_of_getElem? (i := 721) (by decide +kernel)) (by decide +kernel)
theorem tw_726 : Cond.methodLink "FerryTimetable" 213 (⟨"FerryTimetable$Loading", "standingAt", "(LFerryTimetable$Port;III)I"⟩ : MethodName) ∈ lw_g := fw_g (List.mem_of_getElem? (i := 726) (by decide +kernel)) (by decide +kernel)
theorem tw_727 : Cond.instanceMethod (⟨"FerryTimetable$Loading", "standingAt", "(LFerryTimetable$Port;III)I"⟩ : MethodName) ∈ lw_g := fw_g (List.mem_of_getElem? (i := 727) (by decide +kernel)) (by decide +kernel)
theorem tw_728 : Cond.selects "FerryTimetable$Loading" (⟨"FerryTimetable$Loading", "standingAt", "(LFerryTimetable$Port;III)I"⟩ : MethodName) (⟨"FerryTimetable$Loading", "standingAt", "(LFerryTimetable$Port;III)I"⟩ : MethodName) ∈ lw_g := fw_g (List.mem_of_getElem? (i := 728) (by decide +kernel)) (by decide +kernel)
theorem tw_729 : Cond.code (⟨"FerryTimetable$Loading", "standingAt", "(LFerryTimetable$Port;III)I"⟩ : MethodName) prog_4_method_10_code 6 (Option.some Jvm.ClassFile.FieldType.int) ∈ lw_g := fw_g (List.mem_of_getElem? (i := 729) (by decide +kernel)) (by decide +kernel)
theorem tw_734 : Cond.methodLink "FerryTimetable" 217 (⟨"FerryTimetable$Loading", "unload", "(LFerryTimetable$Port;I)I"⟩ : MethodName) ∈ lw_g := fw_g (List.mem_of_getElem? (i := 734) (by decide +kernel)) (by decide +kernel)
theorem tw_735 : Cond.instanceMethod (⟨"FerryTimetable$Loading", "unload", "(LFerryTimetable$Port;I)I"⟩ : MethodName) ∈ lw_g := fw_g (List.mem_of_getElem? (i := 735) (by decide +kernel)) (by decide +kernel)
theorem tw_736 : Cond.selects "FerryTimetable$Loading" (⟨"FerryTimetable$Loading", "unload", "(LFerryTimetable$Port;I)I"⟩ : MethodName) (⟨"FerryTimetable$Loading", "unload", "(LFerryTimetable$Port;I)I"⟩ : MethodName) ∈ lw_g := fw_g (List.mem_of_getElem? (i := 736) (by decide +kernel)) (by decide +kernel)
theorem tw_737 : Cond.code (⟨"FerryTimetable$Loading", "unload", "(LFerryTimetable$Port;I)I"⟩ : MethodName) prog_4_method_11_code 6 (Option.some Jvm.ClassFile.FieldType.int) ∈ lw_g := fw_g (List.mem_of_getElem? (i := 737) (by decide +kernel)) (by decide +kernel)
theorem tw_738 : Cond.methodLink "FerryTimetable$Loading" 111 (⟨"FerryTimetable$Loading", "unloadLane", "(LFerryTimetable$Port;IIII)I"⟩ : MethodName) ∈ lw_g := fw_g (List.mem_of_getElem? (i := 738) (by decide +kernel)) (by decide +kernel)
theorem tw_740 : Cond.instanceMethod (⟨"FerryTimetable$Loading", "unloadLane", "(LFerryTimetable$Port;IIII)I"⟩ : MethodName) ∈ lw_g := fw_g (List.mem_of_getElem? (i := 740) (by decide +kernel)) (by decide +kernel)
theorem tw_741 : Cond.code (⟨"FerryTimetable$Loading", "unloadLane", "(LFerryTimetable$Port;IIII)I"⟩ : MethodName) prog_4_method_12_code 10 (Option.some Jvm.ClassFile.FieldType.int) ∈ lw_g := fw_g (List.mem_of_getElem? (i := 741) (by decide +kernel)) (by decide +kernel)
theorem tw_742 : Cond.methodLink "FerryTimetable$Loading" 115 (⟨"FerryTimetable$Loading", "countInLane", "(LFerryTimetable$Port;II)I"⟩ : MethodName) ∈ lw_g := fw_g (List.mem_of_getElem? (i := 742) (by decide +kernel)) (by decide +kernel)
theorem tw_744 : Cond.instanceMethod (⟨"FerryTimetable$Loading", "countInLane", "(LFerryTimetable$Port;II)I"⟩ : MethodName) ∈ lw_g := fw_g (List.mem_of_getElem? (i := 744) (by decide +kernel)) (by decide +kernel)
theorem tw_745 : Cond.code (⟨"FerryTimetable$Loading", "countInLane", "(LFerryTimetable$Port;II)I"⟩ : MethodName) prog_4_method_14_code 6 (Option.some Jvm.ClassFile.FieldType.int) ∈ lw_g := fw_g (List.mem_of_getElem? (i := 745) (by decide +kernel)) (by decide +kernel)
theorem tw_746 : Cond.methodLink "FerryTimetable$Loading" 118 (⟨"FerryTimetable$Loading", "standingAt", "(LFerryTimetable$Port;III)I"⟩ : MethodName) ∈ lw_g := fw_g (List.mem_of_getElem? (i := 746) (by decide +kernel)) (by decide +kernel)
theorem tw_751 : Cond.methodLink "FerryTimetable" 223 (⟨"FerryTimetable$Loading", "isRight", "(LFerryTimetable$Port;I)Z"⟩ : MethodName) ∈ lw_g := fw_g (List.mem_of_getElem? (i := 751) (by decide +kernel)) (by decide +kernel)
theorem tw_752 : Cond.instanceMethod (⟨"FerryTimetable$Loading", "isRight", "(LFerryTimetable$Port;I)Z"⟩ : MethodName) ∈ lw_g := fw_g (List.mem_of_getElem? (i := 752) (by decide +kernel)) (by decide +kernel)
theorem tw_753 : Cond.selects "FerryTimetable$Loading" (⟨"FerryTimetable$Loading", "isRight", "(LFerryTimetable$Port;I)Z"⟩ : MethodName) (⟨"FerryTimetable$Loading", "isRight", "(LFerryTimetable$Port;I)Z"⟩ : MethodName) ∈ lw_g := fw_g (List.mem_of_getElem? (i := 753) (by decide +kernel)) (by decide +kernel)
theorem tw_754 : Cond.code (⟨"FerryTimetable$Loading", "isRight", "(LFerryTimetable$Port;I)Z"⟩ : MethodName) prog_4_method_13_code 4 (Option.some Jvm.ClassFile.FieldType.boolean) ∈ lw_g := fw_g (List.mem_of_getElem? (i := 754) (by decide +kernel)) (by decide +kernel)
theorem tw_755 : Cond.methodLink "FerryTimetable$Loading" 122 (⟨"FerryTimetable$Loading", "sumMetersInLane", "(LFerryTimetable$Port;II)I"⟩ : MethodName) ∈ lw_g := fw_g (List.mem_of_getElem? (i := 755) (by decide +kernel)) (by decide +kernel)
theorem tw_757 : Cond.instanceMethod (⟨"FerryTimetable$Loading", "sumMetersInLane", "(LFerryTimetable$Port;II)I"⟩ : MethodName) ∈ lw_g := fw_g (List.mem_of_getElem? (i := 757) (by decide +kernel)) (by decide +kernel)
theorem tw_758 : Cond.code (⟨"FerryTimetable$Loading", "sumMetersInLane", "(LFerryTimetable$Port;II)I"⟩ : MethodName) prog_4_method_15_code 6 (Option.some Jvm.ClassFile.FieldType.int) ∈ lw_g := fw_g (List.mem_of_getElem? (i := 758) (by decide +kernel)) (by decide +kernel)
theorem tw_759 : Cond.methodLink "FerryTimetable$Loading" 125 (⟨"FerryTimetable$Loading", "unload", "(LFerryTimetable$Port;I)I"⟩ : MethodName) ∈ lw_g := fw_g (List.mem_of_getElem? (i := 759) (by decide +kernel)) (by decide +kernel)
theorem tw_760 : Cond.methodLink "FerryTimetable$Loading" 128 (⟨"FerryTimetable$Loading", "countAboard", "(LFerryTimetable$Port;I)I"⟩ : MethodName) ∈ lw_g := fw_g (List.mem_of_getElem? (i := 760) (by decide +kernel)) (by decide +kernel)
theorem tw_765 : Cond.methodLink "FerryTimetable" 227 (⟨"FerryTimetable$Decisions", "countAllSailing", "(LFerryTimetable$Port;)I"⟩ : MethodName) ∈ lw_g := fw_g (List.mem_of_getElem? (i := 765) (by decide +kernel)) (by decide +kernel)
theorem tw_766 : Cond.instanceMethod (⟨"FerryTimetable$Decisions", "countAllSailing", "(LFerryTimetable$Port;)I"⟩ : MethodName) ∈ lw_g := fw_g (List.mem_of_getElem? (i := 766) (by decide +kernel)) (by decide +kernel)
theorem tw_767 : Cond.selects "FerryTimetable$Decisions" (⟨"FerryTimetable$Decisions", "countAllSailing", "(LFerryTimetable$Port;)I"⟩ : MethodName) (⟨"FerryTimetable$Decisions", "countAllSailing", "(LFerryTimetable$Port;)I"⟩ : MethodName) ∈ lw_g := fw_g (List.mem_of_getElem? (i := 767) (by decide +kernel)) (by decide +kernel)
theorem tw_768 : Cond.code (⟨"FerryTimetable$Decisions", "countAllSailing", "(LFerryTimetable$Port;)I"⟩ : MethodName) prog_2_method_15_code 4 (Option.some Jvm.ClassFile.FieldType.int) ∈ lw_g := fw_g (List.mem_of_getElem? (i := 768) (by decide +kernel)) (by decide +kernel)
theorem tw_769 : Cond.methodLink "FerryTimetable" 230 (⟨"FerryTimetable$Decisions", "sumPassengers", "(LFerryTimetable$Port;Z)I"⟩ : MethodName) ∈ lw_g := fw_g (List.mem_of_getElem? (i := 769) (by decide +kernel)) (by decide +kernel)
theorem tw_770 : Cond.instanceMethod (⟨"FerryTimetable$Decisions", "sumPassengers", "(LFerryTimetable$Port;Z)I"⟩ : MethodName) ∈ lw_g := fw_g (List.mem_of_getElem? (i := 770) (by decide +kernel)) (by decide +kernel)
theorem tw_771 : Cond.selects "FerryTimetable$Decisions" (⟨"FerryTimetable$Decisions", "sumPassengers", "(LFerryTimetable$Port;Z)I"⟩ : MethodName) (⟨"FerryTimetable$Decisions", "sumPassengers", "(LFerryTimetable$Port;Z)I"⟩ : MethodName) ∈ lw_g := fw_g (List.mem_of_getElem? (i := 771) (by decide +kernel)) (by decide +kernel)
theorem tw_772 : Cond.code (⟨"FerryTimetable$Decisions", "sumPassengers", "(LFerryTimetable$Port;Z)I"⟩ : MethodName) prog_2_method_16_code 5 (Option.some Jvm.ClassFile.FieldType.int) ∈ lw_g := fw_g (List.mem_of_getElem? (i := 772) (by decide +kernel)) (by decide +kernel)
theorem tw_773 : Cond.methodLink "FerryTimetable" 234 (⟨"FerryTimetable$Loading", "countAllAboard", "(LFerryTimetable$Port;)I"⟩ : MethodName) ∈ lw_g := fw_g (List.mem_of_getElem? (i := 773) (by decide +kernel)) (by decide +kernel)
theorem tw_774 : Cond.instanceMethod (⟨"FerryTimetable$Loading", "countAllAboard", "(LFerryTimetable$Port;)I"⟩ : MethodName) ∈ lw_g := fw_g (List.mem_of_getElem? (i := 774) (by decide +kernel)) (by decide +kernel)
theorem tw_775 : Cond.selects "FerryTimetable$Loading" (⟨"FerryTimetable$Loading", "countAllAboard", "(LFerryTimetable$Port;)I"⟩ : MethodName) (⟨"FerryTimetable$Loading", "countAllAboard", "(LFerryTimetable$Port;)I"⟩ : MethodName) ∈ lw_g := fw_g (List.mem_of_getElem? (i := 775) (by decide +kernel)) (by decide +kernel)
theorem tw_776 : Cond.code (⟨"FerryTimetable$Loading", "countAllAboard", "(LFerryTimetable$Port;)I"⟩ : MethodName) prog_4_method_17_code 4 (Option.some Jvm.ClassFile.FieldType.int) ∈ lw_g := fw_g (List.mem_of_getElem? (i := 776) (by decide +kernel)) (by decide +kernel)
theorem tw_777 : Cond.methodLink "FerryTimetable" 237 (⟨"FerryTimetable$Decisions", "sumDelays", "(LFerryTimetable$Port;)I"⟩ : MethodName) ∈ lw_g := fw_g (List.mem_of_getElem? (i := 777) (by decide +kernel)) (by decide +kernel)
theorem tw_778 : Cond.instanceMethod (⟨"FerryTimetable$Decisions", "sumDelays", "(LFerryTimetable$Port;)I"⟩ : MethodName) ∈ lw_g := fw_g (List.mem_of_getElem? (i := 778) (by decide +kernel)) (by decide +kernel)
theorem tw_779 : Cond.selects "FerryTimetable$Decisions" (⟨"FerryTimetable$Decisions", "sumDelays", "(LFerryTimetable$Port;)I"⟩ : MethodName) (⟨"FerryTimetable$Decisions", "sumDelays", "(LFerryTimetable$Port;)I"⟩ : MethodName) ∈ lw_g := fw_g (List.mem_of_getElem? (i := 779) (by decide +kernel)) (by decide +kernel)
theorem tw_780 : Cond.code (⟨"FerryTimetable$Decisions", "sumDelays", "(LFerryTimetable$Port;)I"⟩ : MethodName) prog_2_method_17_code 4 (Option.some Jvm.ClassFile.FieldType.int) ∈ lw_g := fw_g (List.mem_of_getElem? (i := 780) (by decide +kernel)) (by decide +kernel)
theorem tw_781 : Cond.methodLink "FerryTimetable" 240 (⟨"FerryTimetable$Loading", "sumMetersAboard", "(LFerryTimetable$Port;)I"⟩ : MethodName) ∈ lw_g := fw_g (List.mem_of_getElem? (i := 781) (by decide +kernel)) (by decide +kernel)
theorem tw_782 : Cond.instanceMethod (⟨"FerryTimetable$Loading", "sumMetersAboard", "(LFerryTimetable$Port;)I"⟩ : MethodName) ∈ lw_g := fw_g (List.mem_of_getElem? (i := 782) (by decide +kernel)) (by decide +kernel)
theorem tw_783 : Cond.selects "FerryTimetable$Loading" (⟨"FerryTimetable$Loading", "sumMetersAboard", "(LFerryTimetable$Port;)I"⟩ : MethodName) (⟨"FerryTimetable$Loading", "sumMetersAboard", "(LFerryTimetable$Port;)I"⟩ : MethodName) ∈ lw_g := fw_g (List.mem_of_getElem? (i := 783) (by decide +kernel)) (by decide +kernel)
theorem tw_784 : Cond.code (⟨"FerryTimetable$Loading", "sumMetersAboard", "(LFerryTimetable$Port;)I"⟩ : MethodName) prog_4_method_18_code 4 (Option.some Jvm.ClassFile.FieldType.int) ∈ lw_g := fw_g (List.mem_of_getElem? (i := 784) (by decide +kernel)) (by decide +kernel)
theorem tw_785 : Cond.methodLink "FerryTimetable" 243 (⟨"FerryTimetable$Decisions", "sumLaneMeters", "(LFerryTimetable$Port;)I"⟩ : MethodName) ∈ lw_g := fw_g (List.mem_of_getElem? (i := 785) (by decide +kernel)) (by decide +kernel)
theorem tw_786 : Cond.instanceMethod (⟨"FerryTimetable$Decisions", "sumLaneMeters", "(LFerryTimetable$Port;)I"⟩ : MethodName) ∈ lw_g := fw_g (List.mem_of_getElem? (i := 786) (by decide +kernel)) (by decide +kernel)
theorem tw_787 : Cond.selects "FerryTimetable$Decisions" (⟨"FerryTimetable$Decisions", "sumLaneMeters", "(LFerryTimetable$Port;)I"⟩ : MethodName) (⟨"FerryTimetable$Decisions", "sumLaneMeters", "(LFerryTimetable$Port;)I"⟩ : MethodName) ∈ lw_g := fw_g (List.mem_of_getElem? (i := 787) (by decide +kernel)) (by decide +kernel)
theorem tw_788 : Cond.code (⟨"FerryTimetable$Decisions", "sumLaneMeters", "(LFerryTimetable$Port;)I"⟩ : MethodName) prog_2_method_18_code 4 (Option.some Jvm.ClassFile.FieldType.int) ∈ lw_g := fw_g (List.mem_of_getElem? (i := 788) (by decide +kernel)) (by decide +kernel)
theorem tw_789 : Cond.methodLink "FerryTimetable$Decisions" 96 (⟨"FerryTimetable$Port", "lanesOf", "(I)I"⟩ : MethodName) ∈ lw_g := fw_g (List.mem_of_getElem? (i := 789) (by decide +kernel)) (by decide +kernel)
theorem tw_790 : Cond.methodLink "FerryTimetable$Decisions" 99 (⟨"FerryTimetable$Port", "laneLengthOf", "(I)I"⟩ : MethodName) ∈ lw_g := fw_g (List.mem_of_getElem? (i := 790) (by decide +kernel)) (by decide +kernel)
theorem tw_791 : Cond.methodLink "FerryTimetable" 246 (⟨"FerryTimetable$Loading", "sumShifts", "(LFerryTimetable$Port;)I"⟩ : MethodName) ∈ lw_g := fw_g (List.mem_of_getElem? (i := 791) (by decide +kernel)) (by decide +kernel)
theorem tw_792 : Cond.instanceMethod (⟨"FerryTimetable$Loading", "sumShifts", "(LFerryTimetable$Port;)I"⟩ : MethodName) ∈ lw_g := fw_g (List.mem_of_getElem? (i := 792) (by decide +kernel)) (by decide +kernel)
theorem tw_793 : Cond.selects "FerryTimetable$Loading" (⟨"FerryTimetable$Loading", "sumShifts", "(LFerryTimetable$Port;)I"⟩ : MethodName) (⟨"FerryTimetable$Loading", "sumShifts", "(LFerryTimetable$Port;)I"⟩ : MethodName) ∈ lw_g := fw_g (List.mem_of_getElem? (i := 793) (by decide +kernel)) (by decide +kernel)
theorem tw_794 : Cond.code (⟨"FerryTimetable$Loading", "sumShifts", "(LFerryTimetable$Port;)I"⟩ : MethodName) prog_4_method_19_code 4 (Option.some Jvm.ClassFile.FieldType.int) ∈ lw_g := fw_g (List.mem_of_getElem? (i := 794) (by decide +kernel)) (by decide +kernel)
theorem tw_807 : Cond.methodLink "FerryTimetable" 249 (⟨"FerryTimetable$Table", "put", "(III)V"⟩ : MethodName) ∈ lw_g := fw_g (List.mem_of_getElem? (i := 807) (by decide +kernel)) (by decide +kernel)
theorem tw_812 : Cond.methodLink "FerryTimetable" 253 (⟨"FerryTimetable$Shelf", "hasPlace", "(II)Z"⟩ : MethodName) ∈ lw_g := fw_g (List.mem_of_getElem? (i := 812) (by decide +kernel)) (by decide +kernel)
theorem tw_813 : Cond.instanceMethod (⟨"FerryTimetable$Shelf", "hasPlace", "(II)Z"⟩ : MethodName) ∈ lw_g := fw_g (List.mem_of_getElem? (i := 813) (by decide +kernel)) (by decide +kernel)
theorem tw_814 : Cond.selects "FerryTimetable$Shelf" (⟨"FerryTimetable$Shelf", "hasPlace", "(II)Z"⟩ : MethodName) (⟨"FerryTimetable$Shelf", "hasPlace", "(II)Z"⟩ : MethodName) ∈ lw_g := fw_g (List.mem_of_getElem? (i := 814) (by decide +kernel)) (by decide +kernel)
theorem tw_815 : Cond.code (⟨"FerryTimetable$Shelf", "hasPlace", "(II)Z"⟩ : MethodName) prog_6_method_2_code 3 (Option.some Jvm.ClassFile.FieldType.boolean) ∈ lw_g := fw_g (List.mem_of_getElem? (i := 815) (by decide +kernel)) (by decide +kernel)
theorem tw_816 : Cond.methodLink "FerryTimetable" 256 (⟨"FerryTimetable$Shelf", "lay", "(IIILFerryTimetable$Table;I)I"⟩ : MethodName) ∈ lw_g := fw_g (List.mem_of_getElem? (i := 816) (by decide +kernel)) (by decide +kernel)
theorem tw_817 : Cond.instanceMethod (⟨"FerryTimetable$Shelf", "lay", "(IIILFerryTimetable$Table;I)I"⟩ : MethodName) ∈ lw_g := fw_g (List.mem_of_getElem? (i := 817) (by decide +kernel)) (by decide +kernel)
theorem tw_818 : Cond.selects "FerryTimetable$Shelf" (⟨"FerryTimetable$Shelf", "lay", "(IIILFerryTimetable$Table;I)I"⟩ : MethodName) (⟨"FerryTimetable$Shelf", "lay", "(IIILFerryTimetable$Table;I)I"⟩ : MethodName) ∈ lw_g := fw_g (List.mem_of_getElem? (i := 818) (by decide +kernel)) (by decide +kernel)
theorem tw_819 : Cond.code (⟨"FerryTimetable$Shelf", "lay", "(IIILFerryTimetable$Table;I)I"⟩ : MethodName) prog_6_method_4_code 7 (Option.some Jvm.ClassFile.FieldType.int) ∈ lw_g := fw_g (List.mem_of_getElem? (i := 819) (by decide +kernel)) (by decide +kernel)
theorem tw_820 : Cond.methodLink "FerryTimetable$Shelf" 23 (⟨"FerryTimetable$Table", "at", "(II)I"⟩ : MethodName) ∈ lw_g := fw_g (List.mem_of_getElem? (i := 820) (by decide +kernel)) (by decide +kernel)
theorem tw_821 : Cond.methodLink "FerryTimetable$Shelf" 27 (⟨"FerryTimetable$Shelf", "countFilled", "(I)I"⟩ : MethodName) ∈ lw_g := fw_g (List.mem_of_getElem? (i := 821) (by decide +kernel)) (by decide +kernel)
theorem tw_823 : Cond.instanceMethod (⟨"FerryTimetable$Shelf", "countFilled", "(I)I"⟩ : MethodName) ∈ lw_g := fw_g (List.mem_of_getElem? (i := 823) (by decide +kernel)) (by decide +kernel)
theorem tw_824 : Cond.code (⟨"FerryTimetable$Shelf", "countFilled", "(I)I"⟩ : MethodName) prog_6_method_5_code 4 (Option.some Jvm.ClassFile.FieldType.int) ∈ lw_g := fw_g (List.mem_of_getElem? (i := 824) (by decide +kernel)) (by decide +kernel)
theorem tw_825 : Cond.methodLink "FerryTimetable$Shelf" 31 (⟨"FerryTimetable$Shelf", "kindAt", "(II)I"⟩ : MethodName) ∈ lw_g := fw_g (List.mem_of_getElem? (i := 825) (by decide +kernel)) (by decide +kernel)
theorem tw_826 : Cond.instanceMethod (⟨"FerryTimetable$Shelf", "kindAt", "(II)I"⟩ : MethodName) ∈ lw_g := fw_g (List.mem_of_getElem? (i := 826) (by decide +kernel)) (by decide +kernel)
theorem tw_827 : Cond.selects "FerryTimetable$Shelf" (⟨"FerryTimetable$Shelf", "kindAt", "(II)I"⟩ : MethodName) (⟨"FerryTimetable$Shelf", "kindAt", "(II)I"⟩ : MethodName) ∈ lw_g := fw_g (List.mem_of_getElem? (i := 827) (by decide +kernel)) (by decide +kernel)
theorem tw_828 : Cond.code (⟨"FerryTimetable$Shelf", "kindAt", "(II)I"⟩ : MethodName) prog_6_method_3_code 3 (Option.some Jvm.ClassFile.FieldType.int) ∈ lw_g := fw_g (List.mem_of_getElem? (i := 828) (by decide +kernel)) (by decide +kernel)
theorem tw_833 : Cond.methodLink "FerryTimetable" 260 (⟨"FerryTimetable$Shelf", "addCopyTo", "(LFerryTimetable$Port;II)I"⟩ : MethodName) ∈ lw_g := fw_g (List.mem_of_getElem? (i := 833) (by decide +kernel)) (by decide +kernel)
theorem tw_834 : Cond.instanceMethod (⟨"FerryTimetable$Shelf", "addCopyTo", "(LFerryTimetable$Port;II)I"⟩ : MethodName) ∈ lw_g := fw_g (List.mem_of_getElem? (i := 834) (by decide +kernel)) (by decide +kernel)
theorem tw_835 : Cond.selects "FerryTimetable$Shelf" (⟨"FerryTimetable$Shelf", "addCopyTo", "(LFerryTimetable$Port;II)I"⟩ : MethodName) (⟨"FerryTimetable$Shelf", "addCopyTo", "(LFerryTimetable$Port;II)I"⟩ : MethodName) ∈ lw_g := fw_g (List.mem_of_getElem? (i := 835) (by decide +kernel)) (by decide +kernel)
theorem tw_836 : Cond.code (⟨"FerryTimetable$Shelf", "addCopyTo", "(LFerryTimetable$Port;II)I"⟩ : MethodName) prog_6_method_6_code 5 (Option.some Jvm.ClassFile.FieldType.int) ∈ lw_g := fw_g (List.mem_of_getElem? (i := 836) (by decide +kernel)) (by decide +kernel)
theorem tw_837 : Cond.methodLink "FerryTimetable$Shelf" 36 (⟨"FerryTimetable$Port", "enterShip", "(IIII)I"⟩ : MethodName) ∈ lw_g := fw_g (List.mem_of_getElem? (i := 837) (by decide +kernel)) (by decide +kernel)
theorem tw_838 : Cond.methodLink "FerryTimetable$Shelf" 40 (⟨"FerryTimetable$Port", "enterBerth", "(II)I"⟩ : MethodName) ∈ lw_g := fw_g (List.mem_of_getElem? (i := 838) (by decide +kernel)) (by decide +kernel)
theorem tw_843 : Cond.methodLink "FerryTimetable" 263 (⟨"FerryTimetable$Shelf", "kindAt", "(II)I"⟩ : MethodName) ∈ lw_g := fw_g (List.mem_of_getElem? (i := 843) (by decide +kernel)) (by decide +kernel)
theorem tw_852 : Cond.methodLink "FerryTimetable" 266 (⟨"FerryTimetable$History", "forget", "()V"⟩ : MethodName) ∈ lw_g := fw_g (List.mem_of_getElem? (i := 852) (by decide +kernel)) (by decide +kernel)
theorem tw_853 : Cond.instanceMethod (⟨"FerryTimetable$History", "forget", "()V"⟩ : MethodName) ∈ lw_g := fw_g (List.mem_of_getElem? (i := 853) (by decide +kernel)) (by decide +kernel)
theorem tw_854 : Cond.selects "FerryTimetable$History" (⟨"FerryTimetable$History", "forget", "()V"⟩ : MethodName) (⟨"FerryTimetable$History", "forget", "()V"⟩ : MethodName) ∈ lw_g := fw_g (List.mem_of_getElem? (i := 854) (by decide +kernel)) (by decide +kernel)
theorem tw_855 : Cond.code (⟨"FerryTimetable$History", "forget", "()V"⟩ : MethodName) prog_3_method_4_code 1 (Option.none : Option Jvm.ClassFile.FieldType) ∈ lw_g := fw_g (List.mem_of_getElem? (i := 855) (by decide +kernel)) (by decide +kernel)
theorem tw_862 : Cond.fieldLink "FerryTimetableModel" 7 "FerryTimetableModel" "g" "[I" ∈ lw_g := fw_g (List.mem_of_getElem? (i := 862) (by decide +kernel)) (by decide +kernel)
theorem tw_863 : Cond.fieldLink "FerryTimetableModel" 13 "FerryTimetableModel" "ahead" "[I" ∈ lw_g := fw_g (List.mem_of_getElem? (i := 863) (by decide +kernel)) (by decide +kernel)
theorem tw_864 : Cond.fieldLink "FerryTimetableModel" 16 "FerryTimetableModel" "history" "[I" ∈ lw_g := fw_g (List.mem_of_getElem? (i := 864) (by decide +kernel)) (by decide +kernel)
theorem tw_865 : Cond.fieldLink "FerryTimetableModel" 95 "FerryTimetableModel" "historyMany" "I" ∈ lw_g := fw_g (List.mem_of_getElem? (i := 865) (by decide +kernel)) (by decide +kernel)
theorem tw_866 : Cond.fieldLink "FerryTimetableModel" 19 "FerryTimetableModel" "saved" "[I" ∈ lw_g := fw_g (List.mem_of_getElem? (i := 866) (by decide +kernel)) (by decide +kernel)
theorem tw_867 : Cond.fieldLink "FerryTimetableModel" 270 "FerryTimetableModel" "hasSaved" "Z" ∈ lw_g := fw_g (List.mem_of_getElem? (i := 867) (by decide +kernel)) (by decide +kernel)
theorem tw_868 : Cond.fieldLink "FerryTimetableModel" 22 "FerryTimetableModel" "tape" "[C" ∈ lw_g := fw_g (List.mem_of_getElem? (i := 868) (by decide +kernel)) (by decide +kernel)
theorem tw_869 : Cond.fieldLink "FerryTimetableModel" 145 "FerryTimetableModel" "taped" "I" ∈ lw_g := fw_g (List.mem_of_getElem? (i := 869) (by decide +kernel)) (by decide +kernel)
theorem tw_870 : Cond.fieldLink "FerryTimetableModel" 26 "FerryTimetableModel" "wrongAt" "I" ∈ lw_g := fw_g (List.mem_of_getElem? (i := 870) (by decide +kernel)) (by decide +kernel)
theorem tw_871 : Cond.fieldLink "FerryTimetableModel" 148 "FerryTimetableModel" "at" "I" ∈ lw_g := fw_g (List.mem_of_getElem? (i := 871) (by decide +kernel)) (by decide +kernel)
theorem tw_872 : Cond.fieldLink "FerryTimetableModel" 151 "FerryTimetableModel" "letter" "I" ∈ lw_g := fw_g (List.mem_of_getElem? (i := 872) (by decide +kernel)) (by decide +kernel)
theorem tw_873 : Cond.fieldLink "FerryTimetableModel" 30 "FerryTimetableModel" "numbers" "[I" ∈ lw_g := fw_g (List.mem_of_getElem? (i := 873) (by decide +kernel)) (by decide +kernel)
theorem tw_874 : Cond.fieldLink "FerryTimetableModel" 33 "FerryTimetableModel" "order" "[I" ∈ lw_g := fw_g (List.mem_of_getElem? (i := 874) (by decide +kernel)) (by decide +kernel)
theorem tw_875 : Cond.fieldLink "FerryTimetableModel" 36 "FerryTimetableModel" "place" "[I" ∈ lw_g := fw_g (List.mem_of_getElem? (i := 875) (by decide +kernel)) (by decide +kernel)
theorem tw_876 : Cond.fieldLink "FerryTimetableModel" 39 "FerryTimetableModel" "reason" "[I" ∈ lw_g := fw_g (List.mem_of_getElem? (i := 876) (by decide +kernel)) (by decide +kernel)
theorem tw_877 : Cond.fieldLink "FerryTimetableModel" 42 "FerryTimetableModel" "detail" "[I" ∈ lw_g := fw_g (List.mem_of_getElem? (i := 877) (by decide +kernel)) (by decide +kernel)
theorem tw_878 : Cond.fieldLink "FerryTimetableModel" 45 "FerryTimetableModel" "delay" "[I" ∈ lw_g := fw_g (List.mem_of_getElem? (i := 878) (by decide +kernel)) (by decide +kernel)
theorem tw_879 : Cond.fieldLink "FerryTimetableModel" 48 "FerryTimetableModel" "waiting" "[I" ∈ lw_g := fw_g (List.mem_of_getElem? (i := 879) (by decide +kernel)) (by decide +kernel)
theorem tw_880 : Cond.fieldLink "FerryTimetableModel" 51 "FerryTimetableModel" "waits" "[I" ∈ lw_g := fw_g (List.mem_of_getElem? (i := 880) (by decide +kernel)) (by decide +kernel)
theorem tw_881 : Cond.fieldLink "FerryTimetableModel" 54 "FerryTimetableModel" "aboard" "[I" ∈ lw_g := fw_g (List.mem_of_getElem? (i := 881) (by decide +kernel)) (by decide +kernel)
theorem tw_882 : Cond.fieldLink "FerryTimetableModel" 57 "FerryTimetableModel" "laneOf" "[I" ∈ lw_g := fw_g (List.mem_of_getElem? (i := 882) (by decide +kernel)) (by decide +kernel)
theorem tw_883 : Cond.fieldLink "FerryTimetableModel" 60 "FerryTimetableModel" "spot" "[I" ∈ lw_g := fw_g (List.mem_of_getElem? (i := 883) (by decide +kernel)) (by decide +kernel)
theorem tw_884 : Cond.fieldLink "FerryTimetableModel" 63 "FerryTimetableModel" "shifts" "[I" ∈ lw_g := fw_g (List.mem_of_getElem? (i := 884) (by decide +kernel)) (by decide +kernel)
theorem tw_885 : Cond.fieldLink "FerryTimetableModel" 66 "FerryTimetableModel" "laneMany" "[I" ∈ lw_g := fw_g (List.mem_of_getElem? (i := 885) (by decide +kernel)) (by decide +kernel)
theorem tw_886 : Cond.fieldLink "FerryTimetableModel" 69 "FerryTimetableModel" "lane" "[I" ∈ lw_g := fw_g (List.mem_of_getElem? (i := 886) (by decide +kernel)) (by decide +kernel)
theorem tw_887 : Cond.fieldLink "FerryTimetableModel" 72 "FerryTimetableModel" "left" "[I" ∈ lw_g := fw_g (List.mem_of_getElem? (i := 887) (by decide +kernel)) (by decide +kernel)
theorem tw_888 : Cond.fieldLink "FerryTimetableModel" 75 "FerryTimetableModel" "leaving" "[I" ∈ lw_g := fw_g (List.mem_of_getElem? (i := 888) (by decide +kernel)) (by decide +kernel)
theorem tw_889 : Cond.fieldLink "FerryTimetableModel" 248 "FerryTimetableModel" "leavingMany" "I" ∈ lw_g := fw_g (List.mem_of_getElem? (i := 889) (by decide +kernel)) (by decide +kernel)
theorem tw_890 : Cond.fieldLink "FerryTimetableModel" 78 "FerryTimetableModel" "gone" "[I" ∈ lw_g := fw_g (List.mem_of_getElem? (i := 890) (by decide +kernel)) (by decide +kernel)
theorem tw_891 : Cond.fieldLink "FerryTimetableModel" 81 "FerryTimetableModel" "kinds" "[I" ∈ lw_g := fw_g (List.mem_of_getElem? (i := 891) (by decide +kernel)) (by decide +kernel)
theorem tw_892 : Cond.fieldLink "FerryTimetableModel" 84 "FerryTimetableModel" "things" "[I" ∈ lw_g := fw_g (List.mem_of_getElem? (i := 892) (by decide +kernel)) (by decide +kernel)
theorem tw_960 : Cond.methodLink "FerryTimetableModel" 107 (⟨"FerryTimetableModel", "remembers", "()V"⟩ : MethodName) ∈ lw_g := fw_g (List.mem_of_getElem? (i := 960) (by decide +kernel)) (by decide +kernel)
theorem tw_962 : Cond.instanceMethod (⟨"FerryTimetableModel", "remembers", "()V"⟩ : MethodName) ∈ lw_g := fw_g (List.mem_of_getElem? (i := 962) (by decide +kernel)) (by decide +kernel)
theorem tw_963 : Cond.code (⟨"FerryTimetableModel", "remembers", "()V"⟩ : MethodName) prog_10_method_11_code 2 (Option.none : Option Jvm.ClassFile.FieldType) ∈ lw_g := fw_g (List.mem_of_getElem? (i := 963) (by decide +kernel)) (by decide +kernel)
theorem tw_964 : Cond.methodLink "FerryTimetableModel" 110 (⟨"FerryTimetableModel", "addsShip", "(IIII)I"⟩ : MethodName) ∈ lw_g := fw_g (List.mem_of_getElem? (i := 964) (by decide +kernel)) (by decide +kernel)
theorem tw_966 : Cond.instanceMethod (⟨"FerryTimetableModel", "addsShip", "(IIII)I"⟩ : MethodName) ∈ lw_g := fw_g (List.mem_of_getElem? (i := 966) (by decide +kernel)) (by decide +kernel)
theorem tw_967 : Cond.code (⟨"FerryTimetableModel", "addsShip", "(IIII)I"⟩ : MethodName) prog_10_method_15_code 6 (Option.some Jvm.ClassFile.FieldType.int) ∈ lw_g := fw_g (List.mem_of_getElem? (i := 967) (by decide +kernel)) (by decide +kernel)
theorem tw_968 : Cond.methodLink "FerryTimetableModel" 87 (⟨"FerryTimetableModel", "in", "(III)Z"⟩ : MethodName) ∈ lw_g := fw_g (List.mem_of_getElem? (i := 968) (by decide +kernel)) (by decide +kernel)
theorem tw_969 : Cond.static (⟨"FerryTimetableModel", "in", "(III)Z"⟩ : MethodName) ∈ lw_g := fw_g (List.mem_of_getElem? (i := 969) (by decide +kernel)) (by decide +kernel)
theorem tw_970 : Cond.code (⟨"FerryTimetableModel", "in", "(III)Z"⟩ : MethodName) prog_10_method_2_code 3 (Option.some Jvm.ClassFile.FieldType.boolean) ∈ lw_g := fw_g (List.mem_of_getElem? (i := 970) (by decide +kernel)) (by decide +kernel)
theorem tw_971 : Cond.methodLink "FerryTimetableModel" 114 (⟨"FerryTimetableModel", "kept", "(I)I"⟩ : MethodName) ∈ lw_g := fw_g (List.mem_of_getElem? (i := 971) (by decide +kernel)) (by decide +kernel)
theorem tw_973 : Cond.instanceMethod (⟨"FerryTimetableModel", "kept", "(I)I"⟩ : MethodName) ∈ lw_g := fw_g (List.mem_of_getElem? (i := 973) (by decide +kernel)) (by decide +kernel)
theorem tw_974 : Cond.code (⟨"FerryTimetableModel", "kept", "(I)I"⟩ : MethodName) prog_10_method_14_code 3 (Option.some Jvm.ClassFile.FieldType.int) ∈ lw_g := fw_g (List.mem_of_getElem? (i := 974) (by decide +kernel)) (by decide +kernel)
theorem tw_975 : Cond.methodLink "FerryTimetableModel" 91 (⟨"FerryTimetableModel", "errs", "(I)Z"⟩ : MethodName) ∈ lw_g := fw_g (List.mem_of_getElem? (i := 975) (by decide +kernel)) (by decide +kernel)
theorem tw_976 : Cond.static (⟨"FerryTimetableModel", "errs", "(I)Z"⟩ : MethodName) ∈ lw_g := fw_g (List.mem_of_getElem? (i := 976) (by decide +kernel)) (by decide +kernel)
theorem tw_977 : Cond.code (⟨"FerryTimetableModel", "errs", "(I)Z"⟩ : MethodName) prog_10_method_13_code 1 (Option.some Jvm.ClassFile.FieldType.boolean) ∈ lw_g := fw_g (List.mem_of_getElem? (i := 977) (by decide +kernel)) (by decide +kernel)
theorem tw_982 : Cond.methodLink "FerryTimetableModel" 118 (⟨"FerryTimetableModel", "addsBerth", "(II)I"⟩ : MethodName) ∈ lw_g := fw_g (List.mem_of_getElem? (i := 982) (by decide +kernel)) (by decide +kernel)
theorem tw_984 : Cond.instanceMethod (⟨"FerryTimetableModel", "addsBerth", "(II)I"⟩ : MethodName) ∈ lw_g := fw_g (List.mem_of_getElem? (i := 984) (by decide +kernel)) (by decide +kernel)
theorem tw_985 : Cond.code (⟨"FerryTimetableModel", "addsBerth", "(II)I"⟩ : MethodName) prog_10_method_16_code 3 (Option.some Jvm.ClassFile.FieldType.int) ∈ lw_g := fw_g (List.mem_of_getElem? (i := 985) (by decide +kernel)) (by decide +kernel)
theorem tw_990 : Cond.methodLink "FerryTimetableModel" 122 (⟨"FerryTimetableModel", "addsCrossing", "(IIII)I"⟩ : MethodName) ∈ lw_g := fw_g (List.mem_of_getElem? (i := 990) (by decide +kernel)) (by decide +kernel)
theorem tw_992 : Cond.instanceMethod (⟨"FerryTimetableModel", "addsCrossing", "(IIII)I"⟩ : MethodName) ∈ lw_g := fw_g (List.mem_of_getElem? (i := 992) (by decide +kernel)) (by decide +kernel)
theorem tw_993 : Cond.code (⟨"FerryTimetableModel", "addsCrossing", "(IIII)I"⟩ : MethodName) prog_10_method_17_code 6 (Option.some Jvm.ClassFile.FieldType.int) ∈ lw_g := fw_g (List.mem_of_getElem? (i := 993) (by decide +kernel)) (by decide +kernel)
theorem tw_994 : Cond.methodLink "FerryTimetableModel" 98 (⟨"FerryTimetableModel", "isShip", "(I)Z"⟩ : MethodName) ∈ lw_g := fw_g (List.mem_of_getElem? (i := 994) (by decide +kernel)) (by decide +kernel)
theorem tw_996 : Cond.instanceMethod (⟨"FerryTimetableModel", "isShip", "(I)Z"⟩ : MethodName) ∈ lw_g := fw_g (List.mem_of_getElem? (i := 996) (by decide +kernel)) (by decide +kernel)
theorem tw_997 : Cond.code (⟨"FerryTimetableModel", "isShip", "(I)Z"⟩ : MethodName) prog_10_method_3_code 2 (Option.some Jvm.ClassFile.FieldType.boolean) ∈ lw_g := fw_g (List.mem_of_getElem? (i := 997) (by decide +kernel)) (by decide +kernel)
theorem tw_998 : Cond.methodLink "FerryTimetableModel" 101 (⟨"FerryTimetableModel", "isBerth", "(I)Z"⟩ : MethodName) ∈ lw_g := fw_g (List.mem_of_getElem? (i := 998) (by decide +kernel)) (by decide +kernel)
theorem tw_1000 : Cond.instanceMethod (⟨"FerryTimetableModel", "isBerth", "(I)Z"⟩ : MethodName) ∈ lw_g := fw_g (List.mem_of_getElem? (i := 1000) (by decide +kernel)) (by decide +kernel)
theorem tw_1001 : Cond.code (⟨"FerryTimetableModel", "isBerth", "(I)Z"⟩ : MethodName) prog_10_method_4_code 2 (Option.some Jvm.ClassFile.FieldType.boolean) ∈ lw_g := fw_g (List.mem_of_getElem? (i := 1001) (by decide +kernel)) (by decide +kernel)
theorem tw_1006 : Cond.methodLink "FerryTimetableModel" 125 (⟨"FerryTimetableModel", "addsVehicle", "(III)I"⟩ : MethodName) ∈ lw_g := fw_g (List.mem_of_getElem? (i := 1006) (by decide +kernel)) (by decide +kernel)
theorem tw_1008 : Cond.instanceMethod (⟨"FerryTimetableModel", "addsVehicle", "(III)I"⟩ : MethodName) ∈ lw_g := fw_g (List.mem_of_getElem? (i := 1008) (by decide +kernel)) (by decide +kernel)
theorem tw_1009 : Cond.code (⟨"FerryTimetableModel", "addsVehicle", "(III)I"⟩ : MethodName) prog_10_method_18_code 5 (Option.some Jvm.ClassFile.FieldType.int) ∈ lw_g := fw_g (List.mem_of_getElem? (i := 1009) (by decide +kernel)) (by decide +kernel)
theorem tw_1010 : Cond.methodLink "FerryTimetableModel" 104 (⟨"FerryTimetableModel", "isCrossing", "(I)Z"⟩ : MethodName) ∈ lw_g := fw_g (List.mem_of_getElem? (i := 1010) (by decide +kernel)) (by decide +kernel)
theorem tw_1012 : Cond.instanceMethod (⟨"FerryTimetableModel", "isCrossing", "(I)Z"⟩ : MethodName) ∈ lw_g := fw_g (List.mem_of_getElem? (i := 1012) (by decide +kernel)) (by decide +kernel)
theorem tw_1013 : Cond.code (⟨"FerryTimetableModel", "isCrossing", "(I)Z"⟩ : MethodName) prog_10_method_5_code 2 (Option.some Jvm.ClassFile.FieldType.boolean) ∈ lw_g := fw_g (List.mem_of_getElem? (i := 1013) (by decide +kernel)) (by decide +kernel)
theorem tw_1018 : Cond.methodLink "FerryTimetableModel" 129 (⟨"FerryTimetableModel", "addsConnection", "(IIII)I"⟩ : MethodName) ∈ lw_g := fw_g (List.mem_of_getElem? (i := 1018) (by decide +kernel)) (by decide +kernel)
theorem tw_1020 : Cond.instanceMethod (⟨"FerryTimetableModel", "addsConnection", "(IIII)I"⟩ : MethodName) ∈ lw_g := fw_g (List.mem_of_getElem? (i := 1020) (by decide +kernel)) (by decide +kernel)
theorem tw_1021 : Cond.code (⟨"FerryTimetableModel", "addsConnection", "(IIII)I"⟩ : MethodName) prog_10_method_19_code 6 (Option.some Jvm.ClassFile.FieldType.int) ∈ lw_g := fw_g (List.mem_of_getElem? (i := 1021) (by decide +kernel)) (by decide +kernel)
theorem tw_1026 : Cond.methodLink "FerryTimetableModel" 132 (⟨"FerryTimetableModel", "cuts", "(IIII)V"⟩ : MethodName) ∈ lw_g := fw_g (List.mem_of_getElem? (i := 1026) (by decide +kernel)) (by decide +kernel)
theorem tw_1028 : Cond.instanceMethod (⟨"FerryTimetableModel", "cuts", "(IIII)V"⟩ : MethodName) ∈ lw_g := fw_g (List.mem_of_getElem? (i := 1028) (by decide +kernel)) (by decide +kernel)
theorem tw_1029 : Cond.code (⟨"FerryTimetableModel", "cuts", "(IIII)V"⟩ : MethodName) prog_10_method_27_code 9 (Option.none : Option Jvm.ClassFile.FieldType) ∈ lw_g := fw_g (List.mem_of_getElem? (i := 1029) (by decide +kernel)) (by decide +kernel)
theorem tw_1034 : Cond.methodLink "FerryTimetableModel" 136 (⟨"FerryTimetableModel", "berthOf", "(II)I"⟩ : MethodName) ∈ lw_g := fw_g (List.mem_of_getElem? (i := 1034) (by decide +kernel)) (by decide +kernel)
theorem tw_1036 : Cond.instanceMethod (⟨"FerryTimetableModel", "berthOf", "(II)I"⟩ : MethodName) ∈ lw_g := fw_g (List.mem_of_getElem? (i := 1036) (by decide +kernel)) (by decide +kernel)
theorem tw_1037 : Cond.code (⟨"FerryTimetableModel", "berthOf", "(II)I"⟩ : MethodName) prog_10_method_7_code 3 (Option.some Jvm.ClassFile.FieldType.int) ∈ lw_g := fw_g (List.mem_of_getElem? (i := 1037) (by decide +kernel)) (by decide +kernel)
theorem tw_1042 : Cond.methodLink "FerryTimetableModel" 139 (⟨"FerryTimetableModel", "setsTide", "(II)I"⟩ : MethodName) ∈ lw_g := fw_g (List.mem_of_getElem? (i := 1042) (by decide +kernel)) (by decide +kernel)
theorem tw_1044 : Cond.instanceMethod (⟨"FerryTimetableModel", "setsTide", "(II)I"⟩ : MethodName) ∈ lw_g := fw_g (List.mem_of_getElem? (i := 1044) (by decide +kernel)) (by decide +kernel)
theorem tw_1045 : Cond.code (⟨"FerryTimetableModel", "setsTide", "(II)I"⟩ : MethodName) prog_10_method_20_code 4 (Option.some Jvm.ClassFile.FieldType.int) ∈ lw_g := fw_g (List.mem_of_getElem? (i := 1045) (by decide +kernel)) (by decide +kernel)
theorem tw_1050 : Cond.methodLink "FerryTimetableModel" 142 (⟨"FerryTimetableModel", "setsWind", "(II)I"⟩ : MethodName) ∈ lw_g := fw_g (List.mem_of_getElem? (i := 1050) (by decide +kernel)) (by decide +kernel)
theorem tw_1052 : Cond.instanceMethod (⟨"FerryTimetableModel", "setsWind", "(II)I"⟩ : MethodName) ∈ lw_g := fw_g (List.mem_of_getElem? (i := 1052) (by decide +kernel)) (by decide +kernel)
theorem tw_1053 : Cond.code (⟨"FerryTimetableModel", "setsWind", "(II)I"⟩ : MethodName) prog_10_method_21_code 4 (Option.some Jvm.ClassFile.FieldType.int) ∈ lw_g := fw_g (List.mem_of_getElem? (i := 1053) (by decide +kernel)) (by decide +kernel)
theorem tw_1066 : Cond.methodLink "FerryTimetableModel" 160 (⟨"FerryTimetableModel", "readsEntry", "()Z"⟩ : MethodName) ∈ lw_g := fw_g (List.mem_of_getElem? (i := 1066) (by decide +kernel)) (by decide +kernel)
theorem tw_1068 : Cond.instanceMethod (⟨"FerryTimetableModel", "readsEntry", "()Z"⟩ : MethodName) ∈ lw_g := fw_g (List.mem_of_getElem? (i := 1068) (by decide +kernel)) (by decide +kernel)
theorem tw_1069 : Cond.code (⟨"FerryTimetableModel", "readsEntry", "()Z"⟩ : MethodName) prog_10_method_36_code 3 (Option.some Jvm.ClassFile.FieldType.boolean) ∈ lw_g := fw_g (List.mem_of_getElem? (i := 1069) (by decide +kernel)) (by decide +kernel)
theorem tw_1070 : Cond.methodLink "FerryTimetableModel" 154 (⟨"FerryTimetableModel", "readsNumber", "(I)Z"⟩ : MethodName) ∈ lw_g := fw_g (List.mem_of_getElem? (i := 1070) (by decide +kernel)) (by decide +kernel)
theorem tw_1072 : Cond.instanceMethod (⟨"FerryTimetableModel", "readsNumber", "(I)Z"⟩ : MethodName) ∈ lw_g := fw_g (List.mem_of_getElem? (i := 1072) (by decide +kernel)) (by decide +kernel)
theorem tw_1073 : Cond.code (⟨"FerryTimetableModel", "readsNumber", "(I)Z"⟩ : MethodName) prog_10_method_35_code 3 (Option.some Jvm.ClassFile.FieldType.boolean) ∈ lw_g := fw_g (List.mem_of_getElem? (i := 1073) (by decide +kernel)) (by decide +kernel)
theorem tw_1074 : Cond.methodLink "FerryTimetableModel" 157 (⟨"FerryTimetableModel", "eats", "(I)Z"⟩ : MethodName) ∈ lw_g := fw_g (List.mem_of_getElem? (i := 1074) (by decide +kernel)) (by decide +kernel)
theorem tw_1076 : Cond.instanceMethod (⟨"FerryTimetableModel", "eats", "(I)Z"⟩ : MethodName) ∈ lw_g := fw_g (List.mem_of_getElem? (i := 1076) (by decide +kernel)) (by decide +kernel)
theorem tw_1077 : Cond.code (⟨"FerryTimetableModel", "eats", "(I)Z"⟩ : MethodName) prog_10_method_34_code 2 (Option.some Jvm.ClassFile.FieldType.boolean) ∈ lw_g := fw_g (List.mem_of_getElem? (i := 1077) (by decide +kernel)) (by decide +kernel)
theorem tw_1078 : Cond.methodLink "FerryTimetableModel" 164 (⟨"FerryTimetableModel", "does", "()I"⟩ : MethodName) ∈ lw_g := fw_g (List.mem_of_getElem? (i := 1078) (by decide +kernel)) (by decide +kernel)
theorem tw_1080 : Cond.instanceMethod (⟨"FerryTimetableModel", "does", "()I"⟩ : MethodName) ∈ lw_g := fw_g (List.mem_of_getElem? (i := 1080) (by decide +kernel)) (by decide +kernel)
theorem tw_1081 : Cond.code (⟨"FerryTimetableModel", "does", "()I"⟩ : MethodName) prog_10_method_37_code 1 (Option.some Jvm.ClassFile.FieldType.int) ∈ lw_g := fw_g (List.mem_of_getElem? (i := 1081) (by decide +kernel)) (by decide +kernel)
theorem tw_1082 : Cond.methodLink "FerryTimetableModel" 168 (⟨"FerryTimetableModel", "brings", "()V"⟩ : MethodName) ∈ lw_g := fw_g (List.mem_of_getElem? (i := 1082) (by decide +kernel)) (by decide +kernel)
theorem tw_1084 : Cond.instanceMethod (⟨"FerryTimetableModel", "brings", "()V"⟩ : MethodName) ∈ lw_g := fw_g (List.mem_of_getElem? (i := 1084) (by decide +kernel)) (by decide +kernel)
theorem tw_1085 : Cond.code (⟨"FerryTimetableModel", "brings", "()V"⟩ : MethodName) prog_10_method_12_code 2 (Option.none : Option Jvm.ClassFile.FieldType) ∈ lw_g := fw_g (List.mem_of_getElem? (i := 1085) (by decide +kernel)) (by decide +kernel)
theorem tw_1102 : Cond.methodLink "FerryTimetableModel" 182 (⟨"FerryTimetableModel", "shipOf", "(II)I"⟩ : MethodName) ∈ lw_g := fw_g (List.mem_of_getElem? (i := 1102) (by decide +kernel)) (by decide +kernel)
theorem tw_1104 : Cond.instanceMethod (⟨"FerryTimetableModel", "shipOf", "(II)I"⟩ : MethodName) ∈ lw_g := fw_g (List.mem_of_getElem? (i := 1104) (by decide +kernel)) (by decide +kernel)
theorem tw_1105 : Cond.code (⟨"FerryTimetableModel", "shipOf", "(II)I"⟩ : MethodName) prog_10_method_6_code 3 (Option.some Jvm.ClassFile.FieldType.int) ∈ lw_g := fw_g (List.mem_of_getElem? (i := 1105) (by decide +kernel)) (by decide +kernel)
theorem tw_1106 : Cond.methodLink "FerryTimetableModel" 233 (⟨"FerryTimetableModel", "sailing", "(II)I"⟩ : MethodName) ∈ lw_g := fw_g (List.mem_of_getElem? (i := 1106) (by decide +kernel)) (by decide +kernel)
theorem tw_1108 : Cond.instanceMethod (⟨"FerryTimetableModel", "sailing", "(II)I"⟩ : MethodName) ∈ lw_g := fw_g (List.mem_of_getElem? (i := 1108) (by decide +kernel)) (by decide +kernel)
theorem tw_1109 : Cond.code (⟨"FerryTimetableModel", "sailing", "(II)I"⟩ : MethodName) prog_10_method_57_code 5 (Option.some Jvm.ClassFile.FieldType.int) ∈ lw_g := fw_g (List.mem_of_getElem? (i := 1109) (by decide +kernel)) (by decide +kernel)
theorem tw_1110 : Cond.methodLink "FerryTimetableModel" 230 (⟨"FerryTimetableModel", "tell", "()V"⟩ : MethodName) ∈ lw_g := fw_g (List.mem_of_getElem? (i := 1110) (by decide +kernel)) (by decide +kernel)
theorem tw_1112 : Cond.instanceMethod (⟨"FerryTimetableModel", "tell", "()V"⟩ : MethodName) ∈ lw_g := fw_g (List.mem_of_getElem? (i := 1112) (by decide +kernel)) (by decide +kernel)
theorem tw_1113 : Cond.code (⟨"FerryTimetableModel", "tell", "()V"⟩ : MethodName) prog_10_method_55_code 4 (Option.none : Option Jvm.ClassFile.FieldType) ∈ lw_g := fw_g (List.mem_of_getElem? (i := 1113) (by decide +kernel)) (by decide +kernel)
theorem tw_1114 : Cond.methodLink "FerryTimetableModel" 220 (⟨"FerryTimetableModel", "sorts", "()V"⟩ : MethodName) ∈ lw_g := fw_g (List.mem_of_getElem? (i := 1114) (by decide +kernel)) (by decide +kernel)
theorem tw_1116 : Cond.instanceMethod (⟨"FerryTimetableModel", "sorts", "()V"⟩ : MethodName) ∈ lw_g := fw_g (List.mem_of_getElem? (i := 1116) (by decide +kernel)) (by decide +kernel)
theorem tw_1117 : Cond.code (⟨"FerryTimetableModel", "sorts", "()V"⟩ : MethodName) prog_10_method_46_code 4 (Option.none : Option Jvm.ClassFile.FieldType) ∈ lw_g := fw_g (List.mem_of_getElem? (i := 1117) (by decide +kernel)) (by decide +kernel)
theorem tw_1118 : Cond.methodLink "FerryTimetableModel" 185 (⟨"FerryTimetableModel", "of", "(II)I"⟩ : MethodName) ∈ lw_g := fw_g (List.mem_of_getElem? (i := 1118) (by decide +kernel)) (by decide +kernel)
theorem tw_1120 : Cond.instanceMethod (⟨"FerryTimetableModel", "of", "(II)I"⟩ : MethodName) ∈ lw_g := fw_g (List.mem_of_getElem? (i := 1120) (by decide +kernel)) (by decide +kernel)
theorem tw_1121 : Cond.code (⟨"FerryTimetableModel", "of", "(II)I"⟩ : MethodName) prog_10_method_8_code 3 (Option.some Jvm.ClassFile.FieldType.int) ∈ lw_g := fw_g (List.mem_of_getElem? (i := 1121) (by decide +kernel)) (by decide +kernel)
theorem tw_1122 : Cond.methodLink "FerryTimetableModel" 223 (⟨"FerryTimetableModel", "decides", "(I)V"⟩ : MethodName) ∈ lw_g := fw_g (List.mem_of_getElem? (i := 1122) (by decide +kernel)) (by decide +kernel)
theorem tw_1124 : Cond.instanceMethod (⟨"FerryTimetableModel", "decides", "(I)V"⟩ : MethodName) ∈ lw_g := fw_g (List.mem_of_getElem? (i := 1124) (by decide +kernel)) (by decide +kernel)
theorem tw_1125 : Cond.code (⟨"FerryTimetableModel", "decides", "(I)V"⟩ : MethodName) prog_10_method_50_code 7 (Option.none : Option Jvm.ClassFile.FieldType) ∈ lw_g := fw_g (List.mem_of_getElem? (i := 1125) (by decide +kernel)) (by decide +kernel)
theorem tw_1126 : Cond.methodLink "FerryTimetableModel" 198 (⟨"FerryTimetableModel", "shallow", "(I)I"⟩ : MethodName) ∈ lw_g := fw_g (List.mem_of_getElem? (i := 1126) (by decide +kernel)) (by decide +kernel)
theorem tw_1128 : Cond.instanceMethod (⟨"FerryTimetableModel", "shallow", "(I)I"⟩ : MethodName) ∈ lw_g := fw_g (List.mem_of_getElem? (i := 1128) (by decide +kernel)) (by decide +kernel)
theorem tw_1129 : Cond.code (⟨"FerryTimetableModel", "shallow", "(I)I"⟩ : MethodName) prog_10_method_47_code 4 (Option.some Jvm.ClassFile.FieldType.int) ∈ lw_g := fw_g (List.mem_of_getElem? (i := 1129) (by decide +kernel)) (by decide +kernel)
theorem tw_1130 : Cond.methodLink "FerryTimetableModel" 188 (⟨"FerryTimetableModel", "isDeep", "(III)Z"⟩ : MethodName) ∈ lw_g := fw_g (List.mem_of_getElem? (i := 1130) (by decide +kernel)) (by decide +kernel)
theorem tw_1132 : Cond.instanceMethod (⟨"FerryTimetableModel", "isDeep", "(III)Z"⟩ : MethodName) ∈ lw_g := fw_g (List.mem_of_getElem? (i := 1132) (by decide +kernel)) (by decide +kernel)
theorem tw_1133 : Cond.code (⟨"FerryTimetableModel", "isDeep", "(III)Z"⟩ : MethodName) prog_10_method_44_code 4 (Option.some Jvm.ClassFile.FieldType.boolean) ∈ lw_g := fw_g (List.mem_of_getElem? (i := 1133) (by decide +kernel)) (by decide +kernel)
theorem tw_1134 : Cond.methodLink "FerryTimetableModel" 179 (⟨"FerryTimetableModel", "waterAt", "(II)I"⟩ : MethodName) ∈ lw_g := fw_g (List.mem_of_getElem? (i := 1134) (by decide +kernel)) (by decide +kernel)
theorem tw_1136 : Cond.instanceMethod (⟨"FerryTimetableModel", "waterAt", "(II)I"⟩ : MethodName) ∈ lw_g := fw_g (List.mem_of_getElem? (i := 1136) (by decide +kernel)) (by decide +kernel)
theorem tw_1137 : Cond.code (⟨"FerryTimetableModel", "waterAt", "(II)I"⟩ : MethodName) prog_10_method_43_code 3 (Option.some Jvm.ClassFile.FieldType.int) ∈ lw_g := fw_g (List.mem_of_getElem? (i := 1137) (by decide +kernel)) (by decide +kernel)
theorem tw_1138 : Cond.methodLink "FerryTimetableModel" 176 (⟨"FerryTimetableModel", "heightAt", "(I)I"⟩ : MethodName) ∈ lw_g := fw_g (List.mem_of_getElem? (i := 1138) (by decide +kernel)) (by decide +kernel)
theorem tw_1140 : Cond.instanceMethod (⟨"FerryTimetableModel", "heightAt", "(I)I"⟩ : MethodName) ∈ lw_g := fw_g (List.mem_of_getElem? (i := 1140) (by decide +kernel)) (by decide +kernel)
theorem tw_1141 : Cond.code (⟨"FerryTimetableModel", "heightAt", "(I)I"⟩ : MethodName) prog_10_method_42_code 2 (Option.some Jvm.ClassFile.FieldType.int) ∈ lw_g := fw_g (List.mem_of_getElem? (i := 1141) (by decide +kernel)) (by decide +kernel)
theorem tw_1142 : Cond.methodLink "FerryTimetableModel" 172 (⟨"FerryTimetableModel", "floatHeight", "(I)F"⟩ : MethodName) ∈ lw_g := fw_g (List.mem_of_getElem? (i := 1142) (by decide +kernel)) (by decide +kernel)
theorem tw_1144 : Cond.instanceMethod (⟨"FerryTimetableModel", "floatHeight", "(I)F"⟩ : MethodName) ∈ lw_g := fw_g (List.mem_of_getElem? (i := 1144) (by decide +kernel)) (by decide +kernel)
theorem tw_1145 : Cond.code (⟨"FerryTimetableModel", "floatHeight", "(I)F"⟩ : MethodName) prog_10_method_41_code 5 (Option.some Jvm.ClassFile.FieldType.float) ∈ lw_g := fw_g (List.mem_of_getElem? (i := 1145) (by decide +kernel)) (by decide +kernel)
theorem tw_1146 : Cond.constantFloat "FerryTimetableModel" 171 1114636288 ∈ lw_g := fw_g (List.mem_of_getElem? (i := 1146) (by decide +kernel)) (by decide +kernel)
theorem tw_1147 : Cond.methodLink "FerryTimetableModel" 201 (⟨"FerryTimetableModel", "blocker", "(II)I"⟩ : MethodName) ∈ lw_g := fw_g (List.mem_of_getElem? (i := 1147) (by decide +kernel)) (by decide +kernel)
theorem tw_1149 : Cond.instanceMethod (⟨"FerryTimetableModel", "blocker", "(II)I"⟩ : MethodName) ∈ lw_g := fw_g (List.mem_of_getElem? (i := 1149) (by decide +kernel)) (by decide +kernel)
theorem tw_1150 : Cond.code (⟨"FerryTimetableModel", "blocker", "(II)I"⟩ : MethodName) prog_10_method_48_code 6 (Option.some Jvm.ClassFile.FieldType.int) ∈ lw_g := fw_g (List.mem_of_getElem? (i := 1150) (by decide +kernel)) (by decide +kernel)
theorem tw_1151 : Cond.methodLink "FerryTimetableModel" 194 (⟨"FerryTimetableModel", "isCalm", "(II)Z"⟩ : MethodName) ∈ lw_g := fw_g (List.mem_of_getElem? (i := 1151) (by decide +kernel)) (by decide +kernel)
theorem tw_1153 : Cond.instanceMethod (⟨"FerryTimetableModel", "isCalm", "(II)Z"⟩ : MethodName) ∈ lw_g := fw_g (List.mem_of_getElem? (i := 1153) (by decide +kernel)) (by decide +kernel)
theorem tw_1154 : Cond.code (⟨"FerryTimetableModel", "isCalm", "(II)Z"⟩ : MethodName) prog_10_method_45_code 3 (Option.some Jvm.ClassFile.FieldType.boolean) ∈ lw_g := fw_g (List.mem_of_getElem? (i := 1154) (by decide +kernel)) (by decide +kernel)
theorem tw_1155 : Cond.methodLink "FerryTimetableModel" 191 (⟨"FerryTimetableModel", "connectionOf", "(II)I"⟩ : MethodName) ∈ lw_g := fw_g (List.mem_of_getElem? (i := 1155) (by decide +kernel)) (by decide +kernel)
theorem tw_1157 : Cond.instanceMethod (⟨"FerryTimetableModel", "connectionOf", "(II)I"⟩ : MethodName) ∈ lw_g := fw_g (List.mem_of_getElem? (i := 1157) (by decide +kernel)) (by decide +kernel)
theorem tw_1158 : Cond.code (⟨"FerryTimetableModel", "connectionOf", "(II)I"⟩ : MethodName) prog_10_method_10_code 3 (Option.some Jvm.ClassFile.FieldType.int) ∈ lw_g := fw_g (List.mem_of_getElem? (i := 1158) (by decide +kernel)) (by decide +kernel)
theorem tw_1159 : Cond.methodLink "FerryTimetableModel" 204 (⟨"FerryTimetableModel", "kindOf", "(I)I"⟩ : MethodName) ∈ lw_g := fw_g (List.mem_of_getElem? (i := 1159) (by decide +kernel)) (by decide +kernel)
theorem tw_1161 : Cond.instanceMethod (⟨"FerryTimetableModel", "kindOf", "(I)I"⟩ : MethodName) ∈ lw_g := fw_g (List.mem_of_getElem? (i := 1161) (by decide +kernel)) (by decide +kernel)
theorem tw_1162 : Cond.code (⟨"FerryTimetableModel", "kindOf", "(I)I"⟩ : MethodName) prog_10_method_49_code 5 (Option.some Jvm.ClassFile.FieldType.int) ∈ lw_g := fw_g (List.mem_of_getElem? (i := 1162) (by decide +kernel)) (by decide +kernel)
theorem tw_1163 : Cond.methodLink "FerryTimetableModel" 207 (⟨"FerryTimetableModel", "vehicleOf", "(II)I"⟩ : MethodName) ∈ lw_g := fw_g (List.mem_of_getElem? (i := 1163) (by decide +kernel)) (by decide +kernel)
theorem tw_1165 : Cond.instanceMethod (⟨"FerryTimetableModel", "vehicleOf", "(II)I"⟩ : MethodName) ∈ lw_g := fw_g (List.mem_of_getElem? (i := 1165) (by decide +kernel)) (by decide +kernel)
theorem tw_1166 : Cond.code (⟨"FerryTimetableModel", "vehicleOf", "(II)I"⟩ : MethodName) prog_10_method_9_code 3 (Option.some Jvm.ClassFile.FieldType.int) ∈ lw_g := fw_g (List.mem_of_getElem? (i := 1166) (by decide +kernel)) (by decide +kernel)
theorem tw_1167 : Cond.methodLink "FerryTimetableModel" 210 (⟨"FerryTimetableModel", "waitsAt", "(II)V"⟩ : MethodName) ∈ lw_g := fw_g (List.mem_of_getElem? (i := 1167) (by decide +kernel)) (by decide +kernel)
theorem tw_1169 : Cond.instanceMethod (⟨"FerryTimetableModel", "waitsAt", "(II)V"⟩ : MethodName) ∈ lw_g := fw_g (List.mem_of_getElem? (i := 1169) (by decide +kernel)) (by decide +kernel)
theorem tw_1170 : Cond.code (⟨"FerryTimetableModel", "waitsAt", "(II)V"⟩ : MethodName) prog_10_method_51_code 3 (Option.none : Option Jvm.ClassFile.FieldType) ∈ lw_g := fw_g (List.mem_of_getElem? (i := 1170) (by decide +kernel)) (by decide +kernel)
theorem tw_1171 : Cond.methodLink "FerryTimetableModel" 227 (⟨"FerryTimetableModel", "loads", "(II)V"⟩ : MethodName) ∈ lw_g := fw_g (List.mem_of_getElem? (i := 1171) (by decide +kernel)) (by decide +kernel)
theorem tw_1173 : Cond.instanceMethod (⟨"FerryTimetableModel", "loads", "(II)V"⟩ : MethodName) ∈ lw_g := fw_g (List.mem_of_getElem? (i := 1173) (by decide +kernel)) (by decide +kernel)
theorem tw_1174 : Cond.code (⟨"FerryTimetableModel", "loads", "(II)V"⟩ : MethodName) prog_10_method_54_code 5 (Option.none : Option Jvm.ClassFile.FieldType) ∈ lw_g := fw_g (List.mem_of_getElem? (i := 1174) (by decide +kernel)) (by decide +kernel)
theorem tw_1175 : Cond.methodLink "FerryTimetableModel" 214 (⟨"FerryTimetableModel", "laneFor", "(II)I"⟩ : MethodName) ∈ lw_g := fw_g (List.mem_of_getElem? (i := 1175) (by decide +kernel)) (by decide +kernel)
theorem tw_1177 : Cond.instanceMethod (⟨"FerryTimetableModel", "laneFor", "(II)I"⟩ : MethodName) ∈ lw_g := fw_g (List.mem_of_getElem? (i := 1177) (by decide +kernel)) (by decide +kernel)
theorem tw_1178 : Cond.code (⟨"FerryTimetableModel", "laneFor", "(II)I"⟩ : MethodName) prog_10_method_52_code 9 (Option.some Jvm.ClassFile.FieldType.int) ∈ lw_g := fw_g (List.mem_of_getElem? (i := 1178) (by decide +kernel)) (by decide +kernel)
theorem tw_1179 : Cond.methodLink "FerryTimetableModel" 217 (⟨"FerryTimetableModel", "shiftsFrom", "(II)V"⟩ : MethodName) ∈ lw_g := fw_g (List.mem_of_getElem? (i := 1179) (by decide +kernel)) (by decide +kernel)
theorem tw_1181 : Cond.instanceMethod (⟨"FerryTimetableModel", "shiftsFrom", "(II)V"⟩ : MethodName) ∈ lw_g := fw_g (List.mem_of_getElem? (i := 1181) (by decide +kernel)) (by decide +kernel)
theorem tw_1182 : Cond.code (⟨"FerryTimetableModel", "shiftsFrom", "(II)V"⟩ : MethodName) prog_10_method_53_code 5 (Option.none : Option Jvm.ClassFile.FieldType) ∈ lw_g := fw_g (List.mem_of_getElem? (i := 1182) (by decide +kernel)) (by decide +kernel)
theorem tw_1191 : Cond.methodLink "FerryTimetableModel" 236 (⟨"FerryTimetableModel", "loaded", "(I)I"⟩ : MethodName) ∈ lw_g := fw_g (List.mem_of_getElem? (i := 1191) (by decide +kernel)) (by decide +kernel)
theorem tw_1193 : Cond.instanceMethod (⟨"FerryTimetableModel", "loaded", "(I)I"⟩ : MethodName) ∈ lw_g := fw_g (List.mem_of_getElem? (i := 1193) (by decide +kernel)) (by decide +kernel)
theorem tw_1194 : Cond.code (⟨"FerryTimetableModel", "loaded", "(I)I"⟩ : MethodName) prog_10_method_60_code 4 (Option.some Jvm.ClassFile.FieldType.int) ∈ lw_g := fw_g (List.mem_of_getElem? (i := 1194) (by decide +kernel)) (by decide +kernel)
theorem tw_1223 : Cond.methodLink "FerryTimetableModel" 239 (⟨"java/lang/Float", "floatToIntBits", "(F)I"⟩ : MethodName) ∈ lw_g := fw_g (List.mem_of_getElem? (i := 1223) (by decide +kernel)) (by decide +kernel)
theorem tw_1224 : Cond.static (⟨"java/lang/Float", "floatToIntBits", "(F)I"⟩ : MethodName) ∈ lw_g := fw_g (List.mem_of_getElem? (i := 1224) (by decide +kernel)) (by decide +kernel)
theorem tw_1225 : Cond.code (⟨"java/lang/Float", "floatToIntBits", "(F)I"⟩ : MethodName) prog_11_method_24_code 1 (Option.some Jvm.ClassFile.FieldType.int) ∈ lw_g := fw_g (List.mem_of_getElem? (i := 1225) (by decide +kernel)) (by decide +kernel)
theorem tw_1226 : Cond.methodLink "java/lang/Float" 59 (⟨"java/lang/Float", "isNaN", "(F)Z"⟩ : MethodName) ∈ lw_g := fw_g (List.mem_of_getElem? (i := 1226) (by decide +kernel)) (by decide +kernel)
theorem tw_1227 : Cond.static (⟨"java/lang/Float", "isNaN", "(F)Z"⟩ : MethodName) ∈ lw_g := fw_g (List.mem_of_getElem? (i := 1227) (by decide +kernel)) (by decide +kernel)
theorem tw_1228 : Cond.code (⟨"java/lang/Float", "isNaN", "(F)Z"⟩ : MethodName) prog_11_method_6_code 1 (Option.some Jvm.ClassFile.FieldType.boolean) ∈ lw_g := fw_g (List.mem_of_getElem? (i := 1228) (by decide +kernel)) (by decide +kernel)
theorem tw_1229 : Cond.methodLink "java/lang/Float" 74 (⟨"java/lang/Float", "floatToRawIntBits", "(F)I"⟩ : MethodName) ∈ lw_g := fw_g (List.mem_of_getElem? (i := 1229) (by decide +kernel)) (by decide +kernel)
theorem tw_1230 : Cond.static (⟨"java/lang/Float", "floatToRawIntBits", "(F)I"⟩ : MethodName) ∈ lw_g := fw_g (List.mem_of_getElem? (i := 1230) (by decide +kernel)) (by decide +kernel)
theorem tw_1231 : Cond.native (⟨"java/lang/Float", "floatToRawIntBits", "(F)I"⟩ : MethodName) ∈ lw_g := fw_g (List.mem_of_getElem? (i := 1231) (by decide +kernel)) (by decide +kernel)
theorem tw_1232 : Cond.constant "java/lang/Float" 77 2143289344 ∈ lw_g := fw_g (List.mem_of_getElem? (i := 1232) (by decide +kernel)) (by decide +kernel)
theorem tw_1245 : Cond.methodLink "FerryTimetableModel" 245 (⟨"FerryTimetableModel", "isLane", "(II)Z"⟩ : MethodName) ∈ lw_g := fw_g (List.mem_of_getElem? (i := 1245) (by decide +kernel)) (by decide +kernel)
theorem tw_1247 : Cond.instanceMethod (⟨"FerryTimetableModel", "isLane", "(II)Z"⟩ : MethodName) ∈ lw_g := fw_g (List.mem_of_getElem? (i := 1247) (by decide +kernel)) (by decide +kernel)
theorem tw_1248 : Cond.code (⟨"FerryTimetableModel", "isLane", "(II)Z"⟩ : MethodName) prog_10_method_71_code 3 (Option.some Jvm.ClassFile.FieldType.boolean) ∈ lw_g := fw_g (List.mem_of_getElem? (i := 1248) (by decide +kernel)) (by decide +kernel)
theorem tw_1257 : Cond.methodLink "FerryTimetableModel" 251 (⟨"FerryTimetableModel", "tellLeaving", "(I)V"⟩ : MethodName) ∈ lw_g := fw_g (List.mem_of_getElem? (i := 1257) (by decide +kernel)) (by decide +kernel)
theorem tw_1259 : Cond.instanceMethod (⟨"FerryTimetableModel", "tellLeaving", "(I)V"⟩ : MethodName) ∈ lw_g := fw_g (List.mem_of_getElem? (i := 1259) (by decide +kernel)) (by decide +kernel)
theorem tw_1260 : Cond.code (⟨"FerryTimetableModel", "tellLeaving", "(I)V"⟩ : MethodName) prog_10_method_74_code 8 (Option.none : Option Jvm.ClassFile.FieldType) ∈ lw_g := fw_g (List.mem_of_getElem? (i := 1260) (by decide +kernel)) (by decide +kernel)
theorem tw_1269 : Cond.methodLink "FerryTimetableModel" 254 (⟨"FerryTimetableModel", "passengers", "(Z)I"⟩ : MethodName) ∈ lw_g := fw_g (List.mem_of_getElem? (i := 1269) (by decide +kernel)) (by decide +kernel)
theorem tw_1271 : Cond.instanceMethod (⟨"FerryTimetableModel", "passengers", "(Z)I"⟩ : MethodName) ∈ lw_g := fw_g (List.mem_of_getElem? (i := 1271) (by decide +kernel)) (by decide +kernel)
theorem tw_1272 : Cond.code (⟨"FerryTimetableModel", "passengers", "(Z)I"⟩ : MethodName) prog_10_method_79_code 4 (Option.some Jvm.ClassFile.FieldType.int) ∈ lw_g := fw_g (List.mem_of_getElem? (i := 1272) (by decide +kernel)) (by decide +kernel)
theorem tw_1273 : Cond.methodLink "FerryTimetableModel" 258 (⟨"FerryTimetableModel", "allAboard", "()I"⟩ : MethodName) ∈ lw_g := fw_g (List.mem_of_getElem? (i := 1273) (by decide +kernel)) (by decide +kernel)
theorem tw_1275 : Cond.instanceMethod (⟨"FerryTimetableModel", "allAboard", "()I"⟩ : MethodName) ∈ lw_g := fw_g (List.mem_of_getElem? (i := 1275) (by decide +kernel)) (by decide +kernel)
theorem tw_1276 : Cond.code (⟨"FerryTimetableModel", "allAboard", "()I"⟩ : MethodName) prog_10_method_80_code 3 (Option.some Jvm.ClassFile.FieldType.int) ∈ lw_g := fw_g (List.mem_of_getElem? (i := 1276) (by decide +kernel)) (by decide +kernel)
theorem tw_1277 : Cond.methodLink "FerryTimetableModel" 261 (⟨"FerryTimetableModel", "meters", "()I"⟩ : MethodName) ∈ lw_g := fw_g (List.mem_of_getElem? (i := 1277) (by decide +kernel)) (by decide +kernel)
theorem tw_1279 : Cond.instanceMethod (⟨"FerryTimetableModel", "meters", "()I"⟩ : MethodName) ∈ lw_g := fw_g (List.mem_of_getElem? (i := 1279) (by decide +kernel)) (by decide +kernel)
theorem tw_1280 : Cond.code (⟨"FerryTimetableModel", "meters", "()I"⟩ : MethodName) prog_10_method_77_code 3 (Option.some Jvm.ClassFile.FieldType.int) ∈ lw_g := fw_g (List.mem_of_getElem? (i := 1280) (by decide +kernel)) (by decide +kernel)
theorem tw_1281 : Cond.methodLink "FerryTimetableModel" 264 (⟨"FerryTimetableModel", "laneMeters", "()I"⟩ : MethodName) ∈ lw_g := fw_g (List.mem_of_getElem? (i := 1281) (by decide +kernel)) (by decide +kernel)
theorem tw_1283 : Cond.instanceMethod (⟨"FerryTimetableModel", "laneMeters", "()I"⟩ : MethodName) ∈ lw_g := fw_g (List.mem_of_getElem? (i := 1283) (by decide +kernel)) (by decide +kernel)
theorem tw_1284 : Cond.code (⟨"FerryTimetableModel", "laneMeters", "()I"⟩ : MethodName) prog_10_method_78_code 3 (Option.some Jvm.ClassFile.FieldType.int) ∈ lw_g := fw_g (List.mem_of_getElem? (i := 1284) (by decide +kernel)) (by decide +kernel)
theorem tw_1301 : Cond.methodLink "FerryTimetableModel" 267 (⟨"FerryTimetableModel", "isPlace", "(II)Z"⟩ : MethodName) ∈ lw_g := fw_g (List.mem_of_getElem? (i := 1301) (by decide +kernel)) (by decide +kernel)
theorem tw_1302 : Cond.static (⟨"FerryTimetableModel", "isPlace", "(II)Z"⟩ : MethodName) ∈ lw_g := fw_g (List.mem_of_getElem? (i := 1302) (by decide +kernel)) (by decide +kernel)
theorem tw_1303 : Cond.code (⟨"FerryTimetableModel", "isPlace", "(II)Z"⟩ : MethodName) prog_10_method_85_code 2 (Option.some Jvm.ClassFile.FieldType.boolean) ∈ lw_g := fw_g (List.mem_of_getElem? (i := 1303) (by decide +kernel)) (by decide +kernel)
theorem inX0 : ∀ w ∈ wsX00, w ∈ lw_g := by decide +kernel
theorem inX1 : ∀ w ∈ wsX10, w ∈ lw_g := by decide +kernel
theorem inX2 : ∀ w ∈ wsX20, w ∈ lw_g := by decide +kernel
theorem inX3 : ∀ w ∈ wsX30, w ∈ lw_g := by decide +kernel
theorem inX4 : ∀ w ∈ wsX40, w ∈ lw_g := by decide +kernel
theorem inX5 : ∀ w ∈ wsX50, w ∈ lw_g := by decide +kernel
theorem inX6 : ∀ w ∈ wsX60, w ∈ lw_g := by decide +kernel
theorem inX7 : ∀ w ∈ wsX70, w ∈ lw_g := by decide +kernel
theorem inX8 : ∀ w ∈ wsX80, w ∈ lw_g := by decide +kernel
theorem hd_X5_size : yX5_size.cls = RX5 ∧ yX5_size.cls ≠ "java/lang/invoke/MethodHandle" ∧ yX5_size.cls ≠ "java/lang/invoke/VarHandle" ∧ (parseMethodDescriptor yX5_size.desc).map (fun d => d.parameters.length) = some 0 := by decide +kernel
theorem hd_X5_at : yX5_at.cls = RX5 ∧ yX5_at.cls ≠ "java/lang/invoke/MethodHandle" ∧ yX5_at.cls ≠ "java/lang/invoke/VarHandle" ∧ (parseMethodDescriptor yX5_at.desc).map (fun d => d.parameters.length) = some 2 := by decide +kernel
theorem hs_X0_countBefore : yX0_countBefore.cls ≠ "java/lang/invoke/MethodHandle" ∧ yX0_countBefore.cls ≠ "java/lang/invoke/VarHandle" ∧ (parseMethodDescriptor yX0_countBefore.desc).map (fun d => d.parameters.length) = some 2 := by decide +kernel
theorem hd_X3_windAt : yX3_windAt.cls = RX3 ∧ yX3_windAt.cls ≠ "java/lang/invoke/MethodHandle" ∧ yX3_windAt.cls ≠ "java/lang/invoke/VarHandle" ∧ (parseMethodDescriptor yX3_windAt.desc).map (fun d => d.parameters.length) = some 1 := by decide +kernel
theorem hd_X3_windLimitOf : yX3_windLimitOf.cls = RX3 ∧ yX3_windLimitOf.cls ≠ "java/lang/invoke/MethodHandle" ∧ yX3_windLimitOf.cls ≠ "java/lang/invoke/VarHandle" ∧ (parseMethodDescriptor yX3_windLimitOf.desc).map (fun d => d.parameters.length) = some 1 := by decide +kernel
theorem hs_X0_strongWind : yX0_strongWind.cls ≠ "java/lang/invoke/MethodHandle" ∧ yX0_strongWind.cls ≠ "java/lang/invoke/VarHandle" ∧ (parseMethodDescriptor yX0_strongWind.desc).map (fun d => d.parameters.length) = some 2 := by decide +kernel
theorem hd_X3_floatHeightAt : yX3_floatHeightAt.cls = RX3 ∧ yX3_floatHeightAt.cls ≠ "java/lang/invoke/MethodHandle" ∧ yX3_floatHeightAt.cls ≠ "java/lang/invoke/VarHandle" ∧ (parseMethodDescriptor yX3_floatHeightAt.desc).map (fun d => d.parameters.length) = some 1 := by decide +kernel
theorem hd_X3_waterAt : yX3_waterAt.cls = RX3 ∧ yX3_waterAt.cls ≠ "java/lang/invoke/MethodHandle" ∧ yX3_waterAt.cls ≠ "java/lang/invoke/VarHandle" ∧ (parseMethodDescriptor yX3_waterAt.desc).map (fun d => d.parameters.length) = some 2 := by decide +kernel
theorem hd_X3_isDeepEnough : yX3_isDeepEnough.cls = RX3 ∧ yX3_isDeepEnough.cls ≠ "java/lang/invoke/MethodHandle" ∧ yX3_isDeepEnough.cls ≠ "java/lang/invoke/VarHandle" ∧ (parseMethodDescriptor yX3_isDeepEnough.desc).map (fun d => d.parameters.length) = some 3 := by decide +kernel
theorem hs_X0_firstShallowTime : yX0_firstShallowTime.cls ≠ "java/lang/invoke/MethodHandle" ∧ yX0_firstShallowTime.cls ≠ "java/lang/invoke/VarHandle" ∧ (parseMethodDescriptor yX0_firstShallowTime.desc).map (fun d => d.parameters.length) = some 2 := by decide +kernel
theorem hd_X0_sails : yX0_sails.cls = RX0 ∧ yX0_sails.cls ≠ "java/lang/invoke/MethodHandle" ∧ yX0_sails.cls ≠ "java/lang/invoke/VarHandle" ∧ (parseMethodDescriptor yX0_sails.desc).map (fun d => d.parameters.length) = some 1 := by decide +kernel
theorem hd_X0_firstInTheWay : yX0_firstInTheWay.cls = RX0 ∧ yX0_firstInTheWay.cls ≠ "java/lang/invoke/MethodHandle" ∧ yX0_firstInTheWay.cls ≠ "java/lang/invoke/VarHandle" ∧ (parseMethodDescriptor yX0_firstInTheWay.desc).map (fun d => d.parameters.length) = some 3 := by decide +kernel
theorem hd_X0_decide : yX0_decide.cls = RX0 ∧ yX0_decide.cls ≠ "java/lang/invoke/MethodHandle" ∧ yX0_decide.cls ≠ "java/lang/invoke/VarHandle" ∧ (parseMethodDescriptor yX0_decide.desc).map (fun d => d.parameters.length) = some 2 := by decide +kernel
theorem hs_X0_readyTime : yX0_readyTime.cls ≠ "java/lang/invoke/MethodHandle" ∧ yX0_readyTime.cls ≠ "java/lang/invoke/VarHandle" ∧ (parseMethodDescriptor yX0_readyTime.desc).map (fun d => d.parameters.length) = some 2 := by decide +kernel
theorem hs_X0_fateOf : yX0_fateOf.cls ≠ "java/lang/invoke/MethodHandle" ∧ yX0_fateOf.cls ≠ "java/lang/invoke/VarHandle" ∧ (parseMethodDescriptor yX0_fateOf.desc).map (fun d => d.parameters.length) = some 3 := by decide +kernel
theorem hd_X0_settleConnections : yX0_settleConnections.cls = RX0 ∧ yX0_settleConnections.cls ≠ "java/lang/invoke/MethodHandle" ∧ yX0_settleConnections.cls ≠ "java/lang/invoke/VarHandle" ∧ (parseMethodDescriptor yX0_settleConnections.desc).map (fun d => d.parameters.length) = some 2 := by decide +kernel
theorem hd_X0_make : yX0_make.cls = RX0 ∧ yX0_make.cls ≠ "java/lang/invoke/MethodHandle" ∧ yX0_make.cls ≠ "java/lang/invoke/VarHandle" ∧ (parseMethodDescriptor yX0_make.desc).map (fun d => d.parameters.length) = some 1 := by decide +kernel
theorem hd_X0_tell : yX0_tell.cls = RX0 ∧ yX0_tell.cls ≠ "java/lang/invoke/MethodHandle" ∧ yX0_tell.cls ≠ "java/lang/invoke/VarHandle" ∧ (parseMethodDescriptor yX0_tell.desc).map (fun d => d.parameters.length) = some 2 := by decide +kernel
theorem hd_X0_nextSailing : yX0_nextSailing.cls = RX0 ∧ yX0_nextSailing.cls ≠ "java/lang/invoke/MethodHandle" ∧ yX0_nextSailing.cls ≠ "java/lang/invoke/VarHandle" ∧ (parseMethodDescriptor yX0_nextSailing.desc).map (fun d => d.parameters.length) = some 2 := by decide +kernel
theorem hd_X0_countSailing : yX0_countSailing.cls = RX0 ∧ yX0_countSailing.cls ≠ "java/lang/invoke/MethodHandle" ∧ yX0_countSailing.cls ≠ "java/lang/invoke/VarHandle" ∧ (parseMethodDescriptor yX0_countSailing.desc).map (fun d => d.parameters.length) = some 3 := by decide +kernel
theorem hd_X0_countAllSailing : yX0_countAllSailing.cls = RX0 ∧ yX0_countAllSailing.cls ≠ "java/lang/invoke/MethodHandle" ∧ yX0_countAllSailing.cls ≠ "java/lang/invoke/VarHandle" ∧ (parseMethodDescriptor yX0_countAllSailing.desc).map (fun d => d.parameters.length) = some 1 := by decide +kernel
theorem hd_X0_sumPassengers : yX0_sumPassengers.cls = RX0 ∧ yX0_sumPassengers.cls ≠ "java/lang/invoke/MethodHandle" ∧ yX0_sumPassengers.cls ≠ "java/lang/invoke/VarHandle" ∧ (parseMethodDescriptor yX0_sumPassengers.desc).map (fun d => d.parameters.length) = some 2 := by decide +kernel
theorem hd_X0_sumDelays : yX0_sumDelays.cls = RX0 ∧ yX0_sumDelays.cls ≠ "java/lang/invoke/MethodHandle" ∧ yX0_sumDelays.cls ≠ "java/lang/invoke/VarHandle" ∧ (parseMethodDescriptor yX0_sumDelays.desc).map (fun d => d.parameters.length) = some 1 := by decide +kernel
theorem hd_X3_lanesOf : yX3_lanesOf.cls = RX3 ∧ yX3_lanesOf.cls ≠ "java/lang/invoke/MethodHandle" ∧ yX3_lanesOf.cls ≠ "java/lang/invoke/VarHandle" ∧ (parseMethodDescriptor yX3_lanesOf.desc).map (fun d => d.parameters.length) = some 1 := by decide +kernel
theorem hd_X3_laneLengthOf : yX3_laneLengthOf.cls = RX3 ∧ yX3_laneLengthOf.cls ≠ "java/lang/invoke/MethodHandle" ∧ yX3_laneLengthOf.cls ≠ "java/lang/invoke/VarHandle" ∧ (parseMethodDescriptor yX3_laneLengthOf.desc).map (fun d => d.parameters.length) = some 1 := by decide +kernel
theorem hd_X0_sumLaneMeters : yX0_sumLaneMeters.cls = RX0 ∧ yX0_sumLaneMeters.cls ≠ "java/lang/invoke/MethodHandle" ∧ yX0_sumLaneMeters.cls ≠ "java/lang/invoke/VarHandle" ∧ (parseMethodDescriptor yX0_sumLaneMeters.desc).map (fun d => d.parameters.length) = some 1 := by decide +kernel
theorem hd_X5_copyFrom : yX5_copyFrom.cls = RX5 ∧ yX5_copyFrom.cls ≠ "java/lang/invoke/MethodHandle" ∧ yX5_copyFrom.cls ≠ "java/lang/invoke/VarHandle" ∧ (parseMethodDescriptor yX5_copyFrom.desc).map (fun d => d.parameters.length) = some 1 := by decide +kernel
theorem hd_X3_copyFrom : yX3_copyFrom.cls = RX3 ∧ yX3_copyFrom.cls ≠ "java/lang/invoke/MethodHandle" ∧ yX3_copyFrom.cls ≠ "java/lang/invoke/VarHandle" ∧ (parseMethodDescriptor yX3_copyFrom.desc).map (fun d => d.parameters.length) = some 1 := by decide +kernel
theorem hd_X1_keep : yX1_keep.cls = RX1 ∧ yX1_keep.cls ≠ "java/lang/invoke/MethodHandle" ∧ yX1_keep.cls ≠ "java/lang/invoke/VarHandle" ∧ (parseMethodDescriptor yX1_keep.desc).map (fun d => d.parameters.length) = some 1 := by decide +kernel
theorem hd_X1_takeBack : yX1_takeBack.cls = RX1 ∧ yX1_takeBack.cls ≠ "java/lang/invoke/MethodHandle" ∧ yX1_takeBack.cls ≠ "java/lang/invoke/VarHandle" ∧ (parseMethodDescriptor yX1_takeBack.desc).map (fun d => d.parameters.length) = some 1 := by decide +kernel
theorem hd_X1_forget : yX1_forget.cls = RX1 ∧ yX1_forget.cls ≠ "java/lang/invoke/MethodHandle" ∧ yX1_forget.cls ≠ "java/lang/invoke/VarHandle" ∧ (parseMethodDescriptor yX1_forget.desc).map (fun d => d.parameters.length) = some 0 := by decide +kernel
theorem hd_X2_emptyLanes : yX2_emptyLanes.cls = RX2 ∧ yX2_emptyLanes.cls ≠ "java/lang/invoke/MethodHandle" ∧ yX2_emptyLanes.cls ≠ "java/lang/invoke/VarHandle" ∧ (parseMethodDescriptor yX2_emptyLanes.desc).map (fun d => d.parameters.length) = some 2 := by decide +kernel
theorem hd_X2_lineUp : yX2_lineUp.cls = RX2 ∧ yX2_lineUp.cls ≠ "java/lang/invoke/MethodHandle" ∧ yX2_lineUp.cls ≠ "java/lang/invoke/VarHandle" ∧ (parseMethodDescriptor yX2_lineUp.desc).map (fun d => d.parameters.length) = some 2 := by decide +kernel
theorem hd_X3_rampsOf : yX3_rampsOf.cls = RX3 ∧ yX3_rampsOf.cls ≠ "java/lang/invoke/MethodHandle" ∧ yX3_rampsOf.cls ≠ "java/lang/invoke/VarHandle" ∧ (parseMethodDescriptor yX3_rampsOf.desc).map (fun d => d.parameters.length) = some 1 := by decide +kernel
theorem hd_X2_mayStand : yX2_mayStand.cls = RX2 ∧ yX2_mayStand.cls ≠ "java/lang/invoke/MethodHandle" ∧ yX2_mayStand.cls ≠ "java/lang/invoke/VarHandle" ∧ (parseMethodDescriptor yX2_mayStand.desc).map (fun d => d.parameters.length) = some 4 := by decide +kernel
theorem hd_X2_findLane : yX2_findLane.cls = RX2 ∧ yX2_findLane.cls ≠ "java/lang/invoke/MethodHandle" ∧ yX2_findLane.cls ≠ "java/lang/invoke/VarHandle" ∧ (parseMethodDescriptor yX2_findLane.desc).map (fun d => d.parameters.length) = some 3 := by decide +kernel
theorem hd_X2_board : yX2_board.cls = RX2 ∧ yX2_board.cls ≠ "java/lang/invoke/MethodHandle" ∧ yX2_board.cls ≠ "java/lang/invoke/VarHandle" ∧ (parseMethodDescriptor yX2_board.desc).map (fun d => d.parameters.length) = some 4 := by decide +kernel
theorem hd_X2_loadOrShift : yX2_loadOrShift.cls = RX2 ∧ yX2_loadOrShift.cls ≠ "java/lang/invoke/MethodHandle" ∧ yX2_loadOrShift.cls ≠ "java/lang/invoke/VarHandle" ∧ (parseMethodDescriptor yX2_loadOrShift.desc).map (fun d => d.parameters.length) = some 3 := by decide +kernel
theorem hd_X2_make : yX2_make.cls = RX2 ∧ yX2_make.cls ≠ "java/lang/invoke/MethodHandle" ∧ yX2_make.cls ≠ "java/lang/invoke/VarHandle" ∧ (parseMethodDescriptor yX2_make.desc).map (fun d => d.parameters.length) = some 2 := by decide +kernel
theorem hd_X2_tell : yX2_tell.cls = RX2 ∧ yX2_tell.cls ≠ "java/lang/invoke/MethodHandle" ∧ yX2_tell.cls ≠ "java/lang/invoke/VarHandle" ∧ (parseMethodDescriptor yX2_tell.desc).map (fun d => d.parameters.length) = some 2 := by decide +kernel
theorem hd_X2_standingAt : yX2_standingAt.cls = RX2 ∧ yX2_standingAt.cls ≠ "java/lang/invoke/MethodHandle" ∧ yX2_standingAt.cls ≠ "java/lang/invoke/VarHandle" ∧ (parseMethodDescriptor yX2_standingAt.desc).map (fun d => d.parameters.length) = some 4 := by decide +kernel
theorem hd_X2_countInLane : yX2_countInLane.cls = RX2 ∧ yX2_countInLane.cls ≠ "java/lang/invoke/MethodHandle" ∧ yX2_countInLane.cls ≠ "java/lang/invoke/VarHandle" ∧ (parseMethodDescriptor yX2_countInLane.desc).map (fun d => d.parameters.length) = some 3 := by decide +kernel
theorem hd_X2_unloadLane : yX2_unloadLane.cls = RX2 ∧ yX2_unloadLane.cls ≠ "java/lang/invoke/MethodHandle" ∧ yX2_unloadLane.cls ≠ "java/lang/invoke/VarHandle" ∧ (parseMethodDescriptor yX2_unloadLane.desc).map (fun d => d.parameters.length) = some 5 := by decide +kernel
theorem hd_X2_unload : yX2_unload.cls = RX2 ∧ yX2_unload.cls ≠ "java/lang/invoke/MethodHandle" ∧ yX2_unload.cls ≠ "java/lang/invoke/VarHandle" ∧ (parseMethodDescriptor yX2_unload.desc).map (fun d => d.parameters.length) = some 2 := by decide +kernel
theorem hd_X2_sumMetersInLane : yX2_sumMetersInLane.cls = RX2 ∧ yX2_sumMetersInLane.cls ≠ "java/lang/invoke/MethodHandle" ∧ yX2_sumMetersInLane.cls ≠ "java/lang/invoke/VarHandle" ∧ (parseMethodDescriptor yX2_sumMetersInLane.desc).map (fun d => d.parameters.length) = some 3 := by decide +kernel
theorem hd_X2_countAboard : yX2_countAboard.cls = RX2 ∧ yX2_countAboard.cls ≠ "java/lang/invoke/MethodHandle" ∧ yX2_countAboard.cls ≠ "java/lang/invoke/VarHandle" ∧ (parseMethodDescriptor yX2_countAboard.desc).map (fun d => d.parameters.length) = some 2 := by decide +kernel
theorem hd_X2_isRight : yX2_isRight.cls = RX2 ∧ yX2_isRight.cls ≠ "java/lang/invoke/MethodHandle" ∧ yX2_isRight.cls ≠ "java/lang/invoke/VarHandle" ∧ (parseMethodDescriptor yX2_isRight.desc).map (fun d => d.parameters.length) = some 2 := by decide +kernel
theorem hd_X2_countAllAboard : yX2_countAllAboard.cls = RX2 ∧ yX2_countAllAboard.cls ≠ "java/lang/invoke/MethodHandle" ∧ yX2_countAllAboard.cls ≠ "java/lang/invoke/VarHandle" ∧ (parseMethodDescriptor yX2_countAllAboard.desc).map (fun d => d.parameters.length) = some 1 := by decide +kernel
theorem hd_X2_sumMetersAboard : yX2_sumMetersAboard.cls = RX2 ∧ yX2_sumMetersAboard.cls ≠ "java/lang/invoke/MethodHandle" ∧ yX2_sumMetersAboard.cls ≠ "java/lang/invoke/VarHandle" ∧ (parseMethodDescriptor yX2_sumMetersAboard.desc).map (fun d => d.parameters.length) = some 1 := by decide +kernel
theorem hd_X2_sumShifts : yX2_sumShifts.cls = RX2 ∧ yX2_sumShifts.cls ≠ "java/lang/invoke/MethodHandle" ∧ yX2_sumShifts.cls ≠ "java/lang/invoke/VarHandle" ∧ (parseMethodDescriptor yX2_sumShifts.desc).map (fun d => d.parameters.length) = some 1 := by decide +kernel
theorem hs_X7_isOutside : yX7_isOutside.cls ≠ "java/lang/invoke/MethodHandle" ∧ yX7_isOutside.cls ≠ "java/lang/invoke/VarHandle" ∧ (parseMethodDescriptor yX7_isOutside.desc).map (fun d => d.parameters.length) = some 3 := by decide +kernel
theorem hd_X5_isFull : yX5_isFull.cls = RX5 ∧ yX5_isFull.cls ≠ "java/lang/invoke/MethodHandle" ∧ yX5_isFull.cls ≠ "java/lang/invoke/VarHandle" ∧ (parseMethodDescriptor yX5_isFull.desc).map (fun d => d.parameters.length) = some 0 := by decide +kernel
theorem hd_X5_put : yX5_put.cls = RX5 ∧ yX5_put.cls ≠ "java/lang/invoke/MethodHandle" ∧ yX5_put.cls ≠ "java/lang/invoke/VarHandle" ∧ (parseMethodDescriptor yX5_put.desc).map (fun d => d.parameters.length) = some 3 := by decide +kernel
theorem hd_X5_addRow : yX5_addRow.cls = RX5 ∧ yX5_addRow.cls ≠ "java/lang/invoke/MethodHandle" ∧ yX5_addRow.cls ≠ "java/lang/invoke/VarHandle" ∧ (parseMethodDescriptor yX5_addRow.desc).map (fun d => d.parameters.length) = some 4 := by decide +kernel
theorem hd_X3_enterShip : yX3_enterShip.cls = RX3 ∧ yX3_enterShip.cls ≠ "java/lang/invoke/MethodHandle" ∧ yX3_enterShip.cls ≠ "java/lang/invoke/VarHandle" ∧ (parseMethodDescriptor yX3_enterShip.desc).map (fun d => d.parameters.length) = some 4 := by decide +kernel
theorem hs_X3_isBerth : yX3_isBerth.cls ≠ "java/lang/invoke/MethodHandle" ∧ yX3_isBerth.cls ≠ "java/lang/invoke/VarHandle" ∧ (parseMethodDescriptor yX3_isBerth.desc).map (fun d => d.parameters.length) = some 2 := by decide +kernel
theorem hd_X3_enterBerth : yX3_enterBerth.cls = RX3 ∧ yX3_enterBerth.cls ≠ "java/lang/invoke/MethodHandle" ∧ yX3_enterBerth.cls ≠ "java/lang/invoke/VarHandle" ∧ (parseMethodDescriptor yX3_enterBerth.desc).map (fun d => d.parameters.length) = some 2 := by decide +kernel
theorem hd_X5_has : yX5_has.cls = RX5 ∧ yX5_has.cls ≠ "java/lang/invoke/MethodHandle" ∧ yX5_has.cls ≠ "java/lang/invoke/VarHandle" ∧ (parseMethodDescriptor yX5_has.desc).map (fun d => d.parameters.length) = some 1 := by decide +kernel
theorem hd_X3_enterCrossing : yX3_enterCrossing.cls = RX3 ∧ yX3_enterCrossing.cls ≠ "java/lang/invoke/MethodHandle" ∧ yX3_enterCrossing.cls ≠ "java/lang/invoke/VarHandle" ∧ (parseMethodDescriptor yX3_enterCrossing.desc).map (fun d => d.parameters.length) = some 4 := by decide +kernel
theorem hd_X3_enterVehicle : yX3_enterVehicle.cls = RX3 ∧ yX3_enterVehicle.cls ≠ "java/lang/invoke/MethodHandle" ∧ yX3_enterVehicle.cls ≠ "java/lang/invoke/VarHandle" ∧ (parseMethodDescriptor yX3_enterVehicle.desc).map (fun d => d.parameters.length) = some 3 := by decide +kernel
theorem hd_X3_enterConnection : yX3_enterConnection.cls = RX3 ∧ yX3_enterConnection.cls ≠ "java/lang/invoke/MethodHandle" ∧ yX3_enterConnection.cls ≠ "java/lang/invoke/VarHandle" ∧ (parseMethodDescriptor yX3_enterConnection.desc).map (fun d => d.parameters.length) = some 4 := by decide +kernel
theorem hd_X5_removeRow : yX5_removeRow.cls = RX5 ∧ yX5_removeRow.cls ≠ "java/lang/invoke/MethodHandle" ∧ yX5_removeRow.cls ≠ "java/lang/invoke/VarHandle" ∧ (parseMethodDescriptor yX5_removeRow.desc).map (fun d => d.parameters.length) = some 1 := by decide +kernel
theorem hs_X3_dropRowsOf : yX3_dropRowsOf.cls ≠ "java/lang/invoke/MethodHandle" ∧ yX3_dropRowsOf.cls ≠ "java/lang/invoke/VarHandle" ∧ (parseMethodDescriptor yX3_dropRowsOf.desc).map (fun d => d.parameters.length) = some 3 := by decide +kernel
theorem hd_X3_dropCrossing : yX3_dropCrossing.cls = RX3 ∧ yX3_dropCrossing.cls ≠ "java/lang/invoke/MethodHandle" ∧ yX3_dropCrossing.cls ≠ "java/lang/invoke/VarHandle" ∧ (parseMethodDescriptor yX3_dropCrossing.desc).map (fun d => d.parameters.length) = some 1 := by decide +kernel
theorem hd_X3_changeBerth : yX3_changeBerth.cls = RX3 ∧ yX3_changeBerth.cls ≠ "java/lang/invoke/MethodHandle" ∧ yX3_changeBerth.cls ≠ "java/lang/invoke/VarHandle" ∧ (parseMethodDescriptor yX3_changeBerth.desc).map (fun d => d.parameters.length) = some 3 := by decide +kernel
theorem hd_X3_changeTide : yX3_changeTide.cls = RX3 ∧ yX3_changeTide.cls ≠ "java/lang/invoke/MethodHandle" ∧ yX3_changeTide.cls ≠ "java/lang/invoke/VarHandle" ∧ (parseMethodDescriptor yX3_changeTide.desc).map (fun d => d.parameters.length) = some 2 := by decide +kernel
theorem hd_X3_changeWind : yX3_changeWind.cls = RX3 ∧ yX3_changeWind.cls ≠ "java/lang/invoke/MethodHandle" ∧ yX3_changeWind.cls ≠ "java/lang/invoke/VarHandle" ∧ (parseMethodDescriptor yX3_changeWind.desc).map (fun d => d.parameters.length) = some 2 := by decide +kernel
theorem hd_X3_changeMargin : yX3_changeMargin.cls = RX3 ∧ yX3_changeMargin.cls ≠ "java/lang/invoke/MethodHandle" ∧ yX3_changeMargin.cls ≠ "java/lang/invoke/VarHandle" ∧ (parseMethodDescriptor yX3_changeMargin.desc).map (fun d => d.parameters.length) = some 1 := by decide +kernel
theorem hd_X3_hasLane : yX3_hasLane.cls = RX3 ∧ yX3_hasLane.cls ≠ "java/lang/invoke/MethodHandle" ∧ yX3_hasLane.cls ≠ "java/lang/invoke/VarHandle" ∧ (parseMethodDescriptor yX3_hasLane.desc).map (fun d => d.parameters.length) = some 2 := by decide +kernel
theorem hd_X4_hasPlace : yX4_hasPlace.cls = RX4 ∧ yX4_hasPlace.cls ≠ "java/lang/invoke/MethodHandle" ∧ yX4_hasPlace.cls ≠ "java/lang/invoke/VarHandle" ∧ (parseMethodDescriptor yX4_hasPlace.desc).map (fun d => d.parameters.length) = some 2 := by decide +kernel
theorem hd_X4_kindAt : yX4_kindAt.cls = RX4 ∧ yX4_kindAt.cls ≠ "java/lang/invoke/MethodHandle" ∧ yX4_kindAt.cls ≠ "java/lang/invoke/VarHandle" ∧ (parseMethodDescriptor yX4_kindAt.desc).map (fun d => d.parameters.length) = some 2 := by decide +kernel
theorem hd_X4_countFilled : yX4_countFilled.cls = RX4 ∧ yX4_countFilled.cls ≠ "java/lang/invoke/MethodHandle" ∧ yX4_countFilled.cls ≠ "java/lang/invoke/VarHandle" ∧ (parseMethodDescriptor yX4_countFilled.desc).map (fun d => d.parameters.length) = some 1 := by decide +kernel
theorem hd_X4_lay : yX4_lay.cls = RX4 ∧ yX4_lay.cls ≠ "java/lang/invoke/MethodHandle" ∧ yX4_lay.cls ≠ "java/lang/invoke/VarHandle" ∧ (parseMethodDescriptor yX4_lay.desc).map (fun d => d.parameters.length) = some 5 := by decide +kernel
theorem hd_X4_addCopyTo : yX4_addCopyTo.cls = RX4 ∧ yX4_addCopyTo.cls ≠ "java/lang/invoke/MethodHandle" ∧ yX4_addCopyTo.cls ≠ "java/lang/invoke/VarHandle" ∧ (parseMethodDescriptor yX4_addCopyTo.desc).map (fun d => d.parameters.length) = some 3 := by decide +kernel
theorem hd_X5_clearRows : yX5_clearRows.cls = RX5 ∧ yX5_clearRows.cls ≠ "java/lang/invoke/MethodHandle" ∧ yX5_clearRows.cls ≠ "java/lang/invoke/VarHandle" ∧ (parseMethodDescriptor yX5_clearRows.desc).map (fun d => d.parameters.length) = some 0 := by decide +kernel
theorem hd_X6_take : yX6_take.cls = RX6 ∧ yX6_take.cls ≠ "java/lang/invoke/MethodHandle" ∧ yX6_take.cls ≠ "java/lang/invoke/VarHandle" ∧ (parseMethodDescriptor yX6_take.desc).map (fun d => d.parameters.length) = some 1 := by decide +kernel
theorem hd_X6_signHere : yX6_signHere.cls = RX6 ∧ yX6_signHere.cls ≠ "java/lang/invoke/MethodHandle" ∧ yX6_signHere.cls ≠ "java/lang/invoke/VarHandle" ∧ (parseMethodDescriptor yX6_signHere.desc).map (fun d => d.parameters.length) = some 0 := by decide +kernel
theorem hs_X6_countNumbers : yX6_countNumbers.cls ≠ "java/lang/invoke/MethodHandle" ∧ yX6_countNumbers.cls ≠ "java/lang/invoke/VarHandle" ∧ (parseMethodDescriptor yX6_countNumbers.desc).map (fun d => d.parameters.length) = some 1 := by decide +kernel
theorem hd_X6_passes : yX6_passes.cls = RX6 ∧ yX6_passes.cls ≠ "java/lang/invoke/MethodHandle" ∧ yX6_passes.cls ≠ "java/lang/invoke/VarHandle" ∧ (parseMethodDescriptor yX6_passes.desc).map (fun d => d.parameters.length) = some 1 := by decide +kernel
theorem hd_X6_findNumber : yX6_findNumber.cls = RX6 ∧ yX6_findNumber.cls ≠ "java/lang/invoke/MethodHandle" ∧ yX6_findNumber.cls ≠ "java/lang/invoke/VarHandle" ∧ (parseMethodDescriptor yX6_findNumber.desc).map (fun d => d.parameters.length) = some 3 := by decide +kernel
theorem hd_X6_findEntry : yX6_findEntry.cls = RX6 ∧ yX6_findEntry.cls ≠ "java/lang/invoke/MethodHandle" ∧ yX6_findEntry.cls ≠ "java/lang/invoke/VarHandle" ∧ (parseMethodDescriptor yX6_findEntry.desc).map (fun d => d.parameters.length) = some 0 := by decide +kernel
theorem hd_X6_findEntries : yX6_findEntries.cls = RX6 ∧ yX6_findEntries.cls ≠ "java/lang/invoke/MethodHandle" ∧ yX6_findEntries.cls ≠ "java/lang/invoke/VarHandle" ∧ (parseMethodDescriptor yX6_findEntries.desc).map (fun d => d.parameters.length) = some 0 := by decide +kernel
theorem hd_X6_makeEntry : yX6_makeEntry.cls = RX6 ∧ yX6_makeEntry.cls ≠ "java/lang/invoke/MethodHandle" ∧ yX6_makeEntry.cls ≠ "java/lang/invoke/VarHandle" ∧ (parseMethodDescriptor yX6_makeEntry.desc).map (fun d => d.parameters.length) = some 2 := by decide +kernel
theorem hs_X7_isError : yX7_isError.cls ≠ "java/lang/invoke/MethodHandle" ∧ yX7_isError.cls ≠ "java/lang/invoke/VarHandle" ∧ (parseMethodDescriptor yX7_isError.desc).map (fun d => d.parameters.length) = some 1 := by decide +kernel
theorem hd_X6_makeEntries : yX6_makeEntries.cls = RX6 ∧ yX6_makeEntries.cls ≠ "java/lang/invoke/MethodHandle" ∧ yX6_makeEntries.cls ≠ "java/lang/invoke/VarHandle" ∧ (parseMethodDescriptor yX6_makeEntries.desc).map (fun d => d.parameters.length) = some 1 := by decide +kernel
theorem hd_X7_noted : yX7_noted.cls = RX7 ∧ yX7_noted.cls ≠ "java/lang/invoke/MethodHandle" ∧ yX7_noted.cls ≠ "java/lang/invoke/VarHandle" ∧ (parseMethodDescriptor yX7_noted.desc).map (fun d => d.parameters.length) = some 1 := by decide +kernel
theorem hd_X7_addShip : yX7_addShip.cls = RX7 ∧ yX7_addShip.cls ≠ "java/lang/invoke/MethodHandle" ∧ yX7_addShip.cls ≠ "java/lang/invoke/VarHandle" ∧ (parseMethodDescriptor yX7_addShip.desc).map (fun d => d.parameters.length) = some 4 := by decide +kernel
theorem hd_X7_addBerth : yX7_addBerth.cls = RX7 ∧ yX7_addBerth.cls ≠ "java/lang/invoke/MethodHandle" ∧ yX7_addBerth.cls ≠ "java/lang/invoke/VarHandle" ∧ (parseMethodDescriptor yX7_addBerth.desc).map (fun d => d.parameters.length) = some 2 := by decide +kernel
theorem hd_X7_addCrossing : yX7_addCrossing.cls = RX7 ∧ yX7_addCrossing.cls ≠ "java/lang/invoke/MethodHandle" ∧ yX7_addCrossing.cls ≠ "java/lang/invoke/VarHandle" ∧ (parseMethodDescriptor yX7_addCrossing.desc).map (fun d => d.parameters.length) = some 4 := by decide +kernel
theorem hd_X7_addVehicle : yX7_addVehicle.cls = RX7 ∧ yX7_addVehicle.cls ≠ "java/lang/invoke/MethodHandle" ∧ yX7_addVehicle.cls ≠ "java/lang/invoke/VarHandle" ∧ (parseMethodDescriptor yX7_addVehicle.desc).map (fun d => d.parameters.length) = some 3 := by decide +kernel
theorem hd_X7_addConnection : yX7_addConnection.cls = RX7 ∧ yX7_addConnection.cls ≠ "java/lang/invoke/MethodHandle" ∧ yX7_addConnection.cls ≠ "java/lang/invoke/VarHandle" ∧ (parseMethodDescriptor yX7_addConnection.desc).map (fun d => d.parameters.length) = some 4 := by decide +kernel
theorem hd_X7_removeCrossing : yX7_removeCrossing.cls = RX7 ∧ yX7_removeCrossing.cls ≠ "java/lang/invoke/MethodHandle" ∧ yX7_removeCrossing.cls ≠ "java/lang/invoke/VarHandle" ∧ (parseMethodDescriptor yX7_removeCrossing.desc).map (fun d => d.parameters.length) = some 1 := by decide +kernel
theorem hd_X7_setBerth : yX7_setBerth.cls = RX7 ∧ yX7_setBerth.cls ≠ "java/lang/invoke/MethodHandle" ∧ yX7_setBerth.cls ≠ "java/lang/invoke/VarHandle" ∧ (parseMethodDescriptor yX7_setBerth.desc).map (fun d => d.parameters.length) = some 3 := by decide +kernel
theorem hd_X7_setTide : yX7_setTide.cls = RX7 ∧ yX7_setTide.cls ≠ "java/lang/invoke/MethodHandle" ∧ yX7_setTide.cls ≠ "java/lang/invoke/VarHandle" ∧ (parseMethodDescriptor yX7_setTide.desc).map (fun d => d.parameters.length) = some 2 := by decide +kernel
theorem hd_X7_setWind : yX7_setWind.cls = RX7 ∧ yX7_setWind.cls ≠ "java/lang/invoke/MethodHandle" ∧ yX7_setWind.cls ≠ "java/lang/invoke/VarHandle" ∧ (parseMethodDescriptor yX7_setWind.desc).map (fun d => d.parameters.length) = some 2 := by decide +kernel
theorem hd_X7_setMargin : yX7_setMargin.cls = RX7 ∧ yX7_setMargin.cls ≠ "java/lang/invoke/MethodHandle" ∧ yX7_setMargin.cls ≠ "java/lang/invoke/VarHandle" ∧ (parseMethodDescriptor yX7_setMargin.desc).map (fun d => d.parameters.length) = some 1 := by decide +kernel
theorem hd_X7_append : yX7_append.cls = RX7 ∧ yX7_append.cls ≠ "java/lang/invoke/MethodHandle" ∧ yX7_append.cls ≠ "java/lang/invoke/VarHandle" ∧ (parseMethodDescriptor yX7_append.desc).map (fun d => d.parameters.length) = some 1 := by decide +kernel
theorem hd_X7_read : yX7_read.cls = RX7 ∧ yX7_read.cls ≠ "java/lang/invoke/MethodHandle" ∧ yX7_read.cls ≠ "java/lang/invoke/VarHandle" ∧ (parseMethodDescriptor yX7_read.desc).map (fun d => d.parameters.length) = some 0 := by decide +kernel
theorem hd_X7_faultPosition : yX7_faultPosition.cls = RX7 ∧ yX7_faultPosition.cls ≠ "java/lang/invoke/MethodHandle" ∧ yX7_faultPosition.cls ≠ "java/lang/invoke/VarHandle" ∧ (parseMethodDescriptor yX7_faultPosition.desc).map (fun d => d.parameters.length) = some 0 := by decide +kernel
theorem hd_X7_undo : yX7_undo.cls = RX7 ∧ yX7_undo.cls ≠ "java/lang/invoke/MethodHandle" ∧ yX7_undo.cls ≠ "java/lang/invoke/VarHandle" ∧ (parseMethodDescriptor yX7_undo.desc).map (fun d => d.parameters.length) = some 0 := by decide +kernel
theorem hd_X7_count : yX7_count.cls = RX7 ∧ yX7_count.cls ≠ "java/lang/invoke/MethodHandle" ∧ yX7_count.cls ≠ "java/lang/invoke/VarHandle" ∧ (parseMethodDescriptor yX7_count.desc).map (fun d => d.parameters.length) = some 1 := by decide +kernel
theorem hd_X7_ship : yX7_ship.cls = RX7 ∧ yX7_ship.cls ≠ "java/lang/invoke/MethodHandle" ∧ yX7_ship.cls ≠ "java/lang/invoke/VarHandle" ∧ (parseMethodDescriptor yX7_ship.desc).map (fun d => d.parameters.length) = some 2 := by decide +kernel
theorem hd_X7_berth : yX7_berth.cls = RX7 ∧ yX7_berth.cls ≠ "java/lang/invoke/MethodHandle" ∧ yX7_berth.cls ≠ "java/lang/invoke/VarHandle" ∧ (parseMethodDescriptor yX7_berth.desc).map (fun d => d.parameters.length) = some 2 := by decide +kernel
theorem hd_X7_crossing : yX7_crossing.cls = RX7 ∧ yX7_crossing.cls ≠ "java/lang/invoke/MethodHandle" ∧ yX7_crossing.cls ≠ "java/lang/invoke/VarHandle" ∧ (parseMethodDescriptor yX7_crossing.desc).map (fun d => d.parameters.length) = some 2 := by decide +kernel
theorem hd_X7_decided : yX7_decided.cls = RX7 ∧ yX7_decided.cls ≠ "java/lang/invoke/MethodHandle" ∧ yX7_decided.cls ≠ "java/lang/invoke/VarHandle" ∧ (parseMethodDescriptor yX7_decided.desc).map (fun d => d.parameters.length) = some 1 := by decide +kernel
theorem hd_X7_vehicle : yX7_vehicle.cls = RX7 ∧ yX7_vehicle.cls ≠ "java/lang/invoke/MethodHandle" ∧ yX7_vehicle.cls ≠ "java/lang/invoke/VarHandle" ∧ (parseMethodDescriptor yX7_vehicle.desc).map (fun d => d.parameters.length) = some 2 := by decide +kernel
theorem hd_X7_connection : yX7_connection.cls = RX7 ∧ yX7_connection.cls ≠ "java/lang/invoke/MethodHandle" ∧ yX7_connection.cls ≠ "java/lang/invoke/VarHandle" ∧ (parseMethodDescriptor yX7_connection.desc).map (fun d => d.parameters.length) = some 2 := by decide +kernel
theorem hd_X7_tide : yX7_tide.cls = RX7 ∧ yX7_tide.cls ≠ "java/lang/invoke/MethodHandle" ∧ yX7_tide.cls ≠ "java/lang/invoke/VarHandle" ∧ (parseMethodDescriptor yX7_tide.desc).map (fun d => d.parameters.length) = some 1 := by decide +kernel
theorem hd_X7_wind : yX7_wind.cls = RX7 ∧ yX7_wind.cls ≠ "java/lang/invoke/MethodHandle" ∧ yX7_wind.cls ≠ "java/lang/invoke/VarHandle" ∧ (parseMethodDescriptor yX7_wind.desc).map (fun d => d.parameters.length) = some 1 := by decide +kernel
theorem hd_X7_height : yX7_height.cls = RX7 ∧ yX7_height.cls ≠ "java/lang/invoke/MethodHandle" ∧ yX7_height.cls ≠ "java/lang/invoke/VarHandle" ∧ (parseMethodDescriptor yX7_height.desc).map (fun d => d.parameters.length) = some 1 := by decide +kernel
theorem hs_X7_bitsOf : yX7_bitsOf.cls ≠ "java/lang/invoke/MethodHandle" ∧ yX7_bitsOf.cls ≠ "java/lang/invoke/VarHandle" ∧ (parseMethodDescriptor yX7_bitsOf.desc).map (fun d => d.parameters.length) = some 1 := by decide +kernel
theorem hd_X7_heightBits : yX7_heightBits.cls = RX7 ∧ yX7_heightBits.cls ≠ "java/lang/invoke/MethodHandle" ∧ yX7_heightBits.cls ≠ "java/lang/invoke/VarHandle" ∧ (parseMethodDescriptor yX7_heightBits.desc).map (fun d => d.parameters.length) = some 1 := by decide +kernel
theorem hd_X7_water : yX7_water.cls = RX7 ∧ yX7_water.cls ≠ "java/lang/invoke/MethodHandle" ∧ yX7_water.cls ≠ "java/lang/invoke/VarHandle" ∧ (parseMethodDescriptor yX7_water.desc).map (fun d => d.parameters.length) = some 2 := by decide +kernel
theorem hd_X7_firstTime : yX7_firstTime.cls = RX7 ∧ yX7_firstTime.cls ≠ "java/lang/invoke/MethodHandle" ∧ yX7_firstTime.cls ≠ "java/lang/invoke/VarHandle" ∧ (parseMethodDescriptor yX7_firstTime.desc).map (fun d => d.parameters.length) = some 3 := by decide +kernel
theorem hd_X7_laneLeft : yX7_laneLeft.cls = RX7 ∧ yX7_laneLeft.cls ≠ "java/lang/invoke/MethodHandle" ∧ yX7_laneLeft.cls ≠ "java/lang/invoke/VarHandle" ∧ (parseMethodDescriptor yX7_laneLeft.desc).map (fun d => d.parameters.length) = some 2 := by decide +kernel
theorem hd_X7_laneVehicle : yX7_laneVehicle.cls = RX7 ∧ yX7_laneVehicle.cls ≠ "java/lang/invoke/MethodHandle" ∧ yX7_laneVehicle.cls ≠ "java/lang/invoke/VarHandle" ∧ (parseMethodDescriptor yX7_laneVehicle.desc).map (fun d => d.parameters.length) = some 3 := by decide +kernel
theorem hd_X7_leaves : yX7_leaves.cls = RX7 ∧ yX7_leaves.cls ≠ "java/lang/invoke/MethodHandle" ∧ yX7_leaves.cls ≠ "java/lang/invoke/VarHandle" ∧ (parseMethodDescriptor yX7_leaves.desc).map (fun d => d.parameters.length) = some 2 := by decide +kernel
theorem hd_X7_isOrderly : yX7_isOrderly.cls = RX7 ∧ yX7_isOrderly.cls ≠ "java/lang/invoke/MethodHandle" ∧ yX7_isOrderly.cls ≠ "java/lang/invoke/VarHandle" ∧ (parseMethodDescriptor yX7_isOrderly.desc).map (fun d => d.parameters.length) = some 0 := by decide +kernel
theorem hd_X7_account : yX7_account.cls = RX7 ∧ yX7_account.cls ≠ "java/lang/invoke/MethodHandle" ∧ yX7_account.cls ≠ "java/lang/invoke/VarHandle" ∧ (parseMethodDescriptor yX7_account.desc).map (fun d => d.parameters.length) = some 1 := by decide +kernel
theorem hd_X7_loadBits : yX7_loadBits.cls = RX7 ∧ yX7_loadBits.cls ≠ "java/lang/invoke/MethodHandle" ∧ yX7_loadBits.cls ≠ "java/lang/invoke/VarHandle" ∧ (parseMethodDescriptor yX7_loadBits.desc).map (fun d => d.parameters.length) = some 0 := by decide +kernel
theorem hd_X7_sailingIf : yX7_sailingIf.cls = RX7 ∧ yX7_sailingIf.cls ≠ "java/lang/invoke/MethodHandle" ∧ yX7_sailingIf.cls ≠ "java/lang/invoke/VarHandle" ∧ (parseMethodDescriptor yX7_sailingIf.desc).map (fun d => d.parameters.length) = some 1 := by decide +kernel
theorem hd_X7_bestBerth : yX7_bestBerth.cls = RX7 ∧ yX7_bestBerth.cls ≠ "java/lang/invoke/MethodHandle" ∧ yX7_bestBerth.cls ≠ "java/lang/invoke/VarHandle" ∧ (parseMethodDescriptor yX7_bestBerth.desc).map (fun d => d.parameters.length) = some 1 := by decide +kernel
theorem hd_X7_layDown : yX7_layDown.cls = RX7 ∧ yX7_layDown.cls ≠ "java/lang/invoke/MethodHandle" ∧ yX7_layDown.cls ≠ "java/lang/invoke/VarHandle" ∧ (parseMethodDescriptor yX7_layDown.desc).map (fun d => d.parameters.length) = some 4 := by decide +kernel
theorem hd_X7_takeOut : yX7_takeOut.cls = RX7 ∧ yX7_takeOut.cls ≠ "java/lang/invoke/MethodHandle" ∧ yX7_takeOut.cls ≠ "java/lang/invoke/VarHandle" ∧ (parseMethodDescriptor yX7_takeOut.desc).map (fun d => d.parameters.length) = some 2 := by decide +kernel
theorem hd_X7_lying : yX7_lying.cls = RX7 ∧ yX7_lying.cls ≠ "java/lang/invoke/MethodHandle" ∧ yX7_lying.cls ≠ "java/lang/invoke/VarHandle" ∧ (parseMethodDescriptor yX7_lying.desc).map (fun d => d.parameters.length) = some 2 := by decide +kernel
theorem hd_X7_save : yX7_save.cls = RX7 ∧ yX7_save.cls ≠ "java/lang/invoke/MethodHandle" ∧ yX7_save.cls ≠ "java/lang/invoke/VarHandle" ∧ (parseMethodDescriptor yX7_save.desc).map (fun d => d.parameters.length) = some 0 := by decide +kernel
theorem hd_X7_restore : yX7_restore.cls = RX7 ∧ yX7_restore.cls ≠ "java/lang/invoke/MethodHandle" ∧ yX7_restore.cls ≠ "java/lang/invoke/VarHandle" ∧ (parseMethodDescriptor yX7_restore.desc).map (fun d => d.parameters.length) = some 0 := by decide +kernel
theorem hs_X8_in : yX8_in.cls ≠ "java/lang/invoke/MethodHandle" ∧ yX8_in.cls ≠ "java/lang/invoke/VarHandle" ∧ (parseMethodDescriptor yX8_in.desc).map (fun d => d.parameters.length) = some 3 := by decide +kernel
theorem hd_X8_isShip : yX8_isShip.cls = RX8 ∧ yX8_isShip.cls ≠ "java/lang/invoke/MethodHandle" ∧ yX8_isShip.cls ≠ "java/lang/invoke/VarHandle" ∧ (parseMethodDescriptor yX8_isShip.desc).map (fun d => d.parameters.length) = some 1 := by decide +kernel
theorem hd_X8_isBerth : yX8_isBerth.cls = RX8 ∧ yX8_isBerth.cls ≠ "java/lang/invoke/MethodHandle" ∧ yX8_isBerth.cls ≠ "java/lang/invoke/VarHandle" ∧ (parseMethodDescriptor yX8_isBerth.desc).map (fun d => d.parameters.length) = some 1 := by decide +kernel
theorem hd_X8_isCrossing : yX8_isCrossing.cls = RX8 ∧ yX8_isCrossing.cls ≠ "java/lang/invoke/MethodHandle" ∧ yX8_isCrossing.cls ≠ "java/lang/invoke/VarHandle" ∧ (parseMethodDescriptor yX8_isCrossing.desc).map (fun d => d.parameters.length) = some 1 := by decide +kernel
theorem hd_X8_shipOf : yX8_shipOf.cls = RX8 ∧ yX8_shipOf.cls ≠ "java/lang/invoke/MethodHandle" ∧ yX8_shipOf.cls ≠ "java/lang/invoke/VarHandle" ∧ (parseMethodDescriptor yX8_shipOf.desc).map (fun d => d.parameters.length) = some 2 := by decide +kernel
theorem hd_X8_berthOf : yX8_berthOf.cls = RX8 ∧ yX8_berthOf.cls ≠ "java/lang/invoke/MethodHandle" ∧ yX8_berthOf.cls ≠ "java/lang/invoke/VarHandle" ∧ (parseMethodDescriptor yX8_berthOf.desc).map (fun d => d.parameters.length) = some 2 := by decide +kernel
theorem hd_X8_of : yX8_of.cls = RX8 ∧ yX8_of.cls ≠ "java/lang/invoke/MethodHandle" ∧ yX8_of.cls ≠ "java/lang/invoke/VarHandle" ∧ (parseMethodDescriptor yX8_of.desc).map (fun d => d.parameters.length) = some 2 := by decide +kernel
theorem hd_X8_vehicleOf : yX8_vehicleOf.cls = RX8 ∧ yX8_vehicleOf.cls ≠ "java/lang/invoke/MethodHandle" ∧ yX8_vehicleOf.cls ≠ "java/lang/invoke/VarHandle" ∧ (parseMethodDescriptor yX8_vehicleOf.desc).map (fun d => d.parameters.length) = some 2 := by decide +kernel
theorem hd_X8_connectionOf : yX8_connectionOf.cls = RX8 ∧ yX8_connectionOf.cls ≠ "java/lang/invoke/MethodHandle" ∧ yX8_connectionOf.cls ≠ "java/lang/invoke/VarHandle" ∧ (parseMethodDescriptor yX8_connectionOf.desc).map (fun d => d.parameters.length) = some 2 := by decide +kernel
theorem hd_X8_remembers : yX8_remembers.cls = RX8 ∧ yX8_remembers.cls ≠ "java/lang/invoke/MethodHandle" ∧ yX8_remembers.cls ≠ "java/lang/invoke/VarHandle" ∧ (parseMethodDescriptor yX8_remembers.desc).map (fun d => d.parameters.length) = some 0 := by decide +kernel
theorem hd_X8_brings : yX8_brings.cls = RX8 ∧ yX8_brings.cls ≠ "java/lang/invoke/MethodHandle" ∧ yX8_brings.cls ≠ "java/lang/invoke/VarHandle" ∧ (parseMethodDescriptor yX8_brings.desc).map (fun d => d.parameters.length) = some 0 := by decide +kernel
theorem hs_X8_errs : yX8_errs.cls ≠ "java/lang/invoke/MethodHandle" ∧ yX8_errs.cls ≠ "java/lang/invoke/VarHandle" ∧ (parseMethodDescriptor yX8_errs.desc).map (fun d => d.parameters.length) = some 1 := by decide +kernel
theorem hd_X8_kept : yX8_kept.cls = RX8 ∧ yX8_kept.cls ≠ "java/lang/invoke/MethodHandle" ∧ yX8_kept.cls ≠ "java/lang/invoke/VarHandle" ∧ (parseMethodDescriptor yX8_kept.desc).map (fun d => d.parameters.length) = some 1 := by decide +kernel
theorem hd_X8_addsShip : yX8_addsShip.cls = RX8 ∧ yX8_addsShip.cls ≠ "java/lang/invoke/MethodHandle" ∧ yX8_addsShip.cls ≠ "java/lang/invoke/VarHandle" ∧ (parseMethodDescriptor yX8_addsShip.desc).map (fun d => d.parameters.length) = some 4 := by decide +kernel
theorem hd_X8_addsBerth : yX8_addsBerth.cls = RX8 ∧ yX8_addsBerth.cls ≠ "java/lang/invoke/MethodHandle" ∧ yX8_addsBerth.cls ≠ "java/lang/invoke/VarHandle" ∧ (parseMethodDescriptor yX8_addsBerth.desc).map (fun d => d.parameters.length) = some 2 := by decide +kernel
theorem hd_X8_addsCrossing : yX8_addsCrossing.cls = RX8 ∧ yX8_addsCrossing.cls ≠ "java/lang/invoke/MethodHandle" ∧ yX8_addsCrossing.cls ≠ "java/lang/invoke/VarHandle" ∧ (parseMethodDescriptor yX8_addsCrossing.desc).map (fun d => d.parameters.length) = some 4 := by decide +kernel
theorem hd_X8_addsVehicle : yX8_addsVehicle.cls = RX8 ∧ yX8_addsVehicle.cls ≠ "java/lang/invoke/MethodHandle" ∧ yX8_addsVehicle.cls ≠ "java/lang/invoke/VarHandle" ∧ (parseMethodDescriptor yX8_addsVehicle.desc).map (fun d => d.parameters.length) = some 3 := by decide +kernel
theorem hd_X8_addsConnection : yX8_addsConnection.cls = RX8 ∧ yX8_addsConnection.cls ≠ "java/lang/invoke/MethodHandle" ∧ yX8_addsConnection.cls ≠ "java/lang/invoke/VarHandle" ∧ (parseMethodDescriptor yX8_addsConnection.desc).map (fun d => d.parameters.length) = some 4 := by decide +kernel
theorem hd_X8_setsTide : yX8_setsTide.cls = RX8 ∧ yX8_setsTide.cls ≠ "java/lang/invoke/MethodHandle" ∧ yX8_setsTide.cls ≠ "java/lang/invoke/VarHandle" ∧ (parseMethodDescriptor yX8_setsTide.desc).map (fun d => d.parameters.length) = some 2 := by decide +kernel
theorem hd_X8_setsWind : yX8_setsWind.cls = RX8 ∧ yX8_setsWind.cls ≠ "java/lang/invoke/MethodHandle" ∧ yX8_setsWind.cls ≠ "java/lang/invoke/VarHandle" ∧ (parseMethodDescriptor yX8_setsWind.desc).map (fun d => d.parameters.length) = some 2 := by decide +kernel
theorem hd_X8_addShip : yX8_addShip.cls = RX8 ∧ yX8_addShip.cls ≠ "java/lang/invoke/MethodHandle" ∧ yX8_addShip.cls ≠ "java/lang/invoke/VarHandle" ∧ (parseMethodDescriptor yX8_addShip.desc).map (fun d => d.parameters.length) = some 4 := by decide +kernel
theorem hd_X8_addBerth : yX8_addBerth.cls = RX8 ∧ yX8_addBerth.cls ≠ "java/lang/invoke/MethodHandle" ∧ yX8_addBerth.cls ≠ "java/lang/invoke/VarHandle" ∧ (parseMethodDescriptor yX8_addBerth.desc).map (fun d => d.parameters.length) = some 2 := by decide +kernel
theorem hd_X8_addCrossing : yX8_addCrossing.cls = RX8 ∧ yX8_addCrossing.cls ≠ "java/lang/invoke/MethodHandle" ∧ yX8_addCrossing.cls ≠ "java/lang/invoke/VarHandle" ∧ (parseMethodDescriptor yX8_addCrossing.desc).map (fun d => d.parameters.length) = some 4 := by decide +kernel
theorem hd_X8_addVehicle : yX8_addVehicle.cls = RX8 ∧ yX8_addVehicle.cls ≠ "java/lang/invoke/MethodHandle" ∧ yX8_addVehicle.cls ≠ "java/lang/invoke/VarHandle" ∧ (parseMethodDescriptor yX8_addVehicle.desc).map (fun d => d.parameters.length) = some 3 := by decide +kernel
theorem hd_X8_addConnection : yX8_addConnection.cls = RX8 ∧ yX8_addConnection.cls ≠ "java/lang/invoke/MethodHandle" ∧ yX8_addConnection.cls ≠ "java/lang/invoke/VarHandle" ∧ (parseMethodDescriptor yX8_addConnection.desc).map (fun d => d.parameters.length) = some 4 := by decide +kernel
theorem hd_X8_cuts : yX8_cuts.cls = RX8 ∧ yX8_cuts.cls ≠ "java/lang/invoke/MethodHandle" ∧ yX8_cuts.cls ≠ "java/lang/invoke/VarHandle" ∧ (parseMethodDescriptor yX8_cuts.desc).map (fun d => d.parameters.length) = some 4 := by decide +kernel
theorem hd_X8_removeCrossing : yX8_removeCrossing.cls = RX8 ∧ yX8_removeCrossing.cls ≠ "java/lang/invoke/MethodHandle" ∧ yX8_removeCrossing.cls ≠ "java/lang/invoke/VarHandle" ∧ (parseMethodDescriptor yX8_removeCrossing.desc).map (fun d => d.parameters.length) = some 1 := by decide +kernel
theorem hd_X8_setBerth : yX8_setBerth.cls = RX8 ∧ yX8_setBerth.cls ≠ "java/lang/invoke/MethodHandle" ∧ yX8_setBerth.cls ≠ "java/lang/invoke/VarHandle" ∧ (parseMethodDescriptor yX8_setBerth.desc).map (fun d => d.parameters.length) = some 3 := by decide +kernel
theorem hd_X8_setTide : yX8_setTide.cls = RX8 ∧ yX8_setTide.cls ≠ "java/lang/invoke/MethodHandle" ∧ yX8_setTide.cls ≠ "java/lang/invoke/VarHandle" ∧ (parseMethodDescriptor yX8_setTide.desc).map (fun d => d.parameters.length) = some 2 := by decide +kernel
theorem hd_X8_setWind : yX8_setWind.cls = RX8 ∧ yX8_setWind.cls ≠ "java/lang/invoke/MethodHandle" ∧ yX8_setWind.cls ≠ "java/lang/invoke/VarHandle" ∧ (parseMethodDescriptor yX8_setWind.desc).map (fun d => d.parameters.length) = some 2 := by decide +kernel
theorem hd_X8_setMargin : yX8_setMargin.cls = RX8 ∧ yX8_setMargin.cls ≠ "java/lang/invoke/MethodHandle" ∧ yX8_setMargin.cls ≠ "java/lang/invoke/VarHandle" ∧ (parseMethodDescriptor yX8_setMargin.desc).map (fun d => d.parameters.length) = some 1 := by decide +kernel
theorem hd_X8_append : yX8_append.cls = RX8 ∧ yX8_append.cls ≠ "java/lang/invoke/MethodHandle" ∧ yX8_append.cls ≠ "java/lang/invoke/VarHandle" ∧ (parseMethodDescriptor yX8_append.desc).map (fun d => d.parameters.length) = some 1 := by decide +kernel
theorem hd_X8_eats : yX8_eats.cls = RX8 ∧ yX8_eats.cls ≠ "java/lang/invoke/MethodHandle" ∧ yX8_eats.cls ≠ "java/lang/invoke/VarHandle" ∧ (parseMethodDescriptor yX8_eats.desc).map (fun d => d.parameters.length) = some 1 := by decide +kernel
theorem hd_X8_readsNumber : yX8_readsNumber.cls = RX8 ∧ yX8_readsNumber.cls ≠ "java/lang/invoke/MethodHandle" ∧ yX8_readsNumber.cls ≠ "java/lang/invoke/VarHandle" ∧ (parseMethodDescriptor yX8_readsNumber.desc).map (fun d => d.parameters.length) = some 1 := by decide +kernel
theorem hd_X8_readsEntry : yX8_readsEntry.cls = RX8 ∧ yX8_readsEntry.cls ≠ "java/lang/invoke/MethodHandle" ∧ yX8_readsEntry.cls ≠ "java/lang/invoke/VarHandle" ∧ (parseMethodDescriptor yX8_readsEntry.desc).map (fun d => d.parameters.length) = some 0 := by decide +kernel
theorem hd_X8_does : yX8_does.cls = RX8 ∧ yX8_does.cls ≠ "java/lang/invoke/MethodHandle" ∧ yX8_does.cls ≠ "java/lang/invoke/VarHandle" ∧ (parseMethodDescriptor yX8_does.desc).map (fun d => d.parameters.length) = some 0 := by decide +kernel
theorem hd_X8_read : yX8_read.cls = RX8 ∧ yX8_read.cls ≠ "java/lang/invoke/MethodHandle" ∧ yX8_read.cls ≠ "java/lang/invoke/VarHandle" ∧ (parseMethodDescriptor yX8_read.desc).map (fun d => d.parameters.length) = some 0 := by decide +kernel
theorem hd_X8_faultPosition : yX8_faultPosition.cls = RX8 ∧ yX8_faultPosition.cls ≠ "java/lang/invoke/MethodHandle" ∧ yX8_faultPosition.cls ≠ "java/lang/invoke/VarHandle" ∧ (parseMethodDescriptor yX8_faultPosition.desc).map (fun d => d.parameters.length) = some 0 := by decide +kernel
theorem hd_X8_undo : yX8_undo.cls = RX8 ∧ yX8_undo.cls ≠ "java/lang/invoke/MethodHandle" ∧ yX8_undo.cls ≠ "java/lang/invoke/VarHandle" ∧ (parseMethodDescriptor yX8_undo.desc).map (fun d => d.parameters.length) = some 0 := by decide +kernel
theorem hd_X8_floatHeight : yX8_floatHeight.cls = RX8 ∧ yX8_floatHeight.cls ≠ "java/lang/invoke/MethodHandle" ∧ yX8_floatHeight.cls ≠ "java/lang/invoke/VarHandle" ∧ (parseMethodDescriptor yX8_floatHeight.desc).map (fun d => d.parameters.length) = some 1 := by decide +kernel
theorem hd_X8_heightAt : yX8_heightAt.cls = RX8 ∧ yX8_heightAt.cls ≠ "java/lang/invoke/MethodHandle" ∧ yX8_heightAt.cls ≠ "java/lang/invoke/VarHandle" ∧ (parseMethodDescriptor yX8_heightAt.desc).map (fun d => d.parameters.length) = some 1 := by decide +kernel
theorem hd_X8_waterAt : yX8_waterAt.cls = RX8 ∧ yX8_waterAt.cls ≠ "java/lang/invoke/MethodHandle" ∧ yX8_waterAt.cls ≠ "java/lang/invoke/VarHandle" ∧ (parseMethodDescriptor yX8_waterAt.desc).map (fun d => d.parameters.length) = some 2 := by decide +kernel
theorem hd_X8_isDeep : yX8_isDeep.cls = RX8 ∧ yX8_isDeep.cls ≠ "java/lang/invoke/MethodHandle" ∧ yX8_isDeep.cls ≠ "java/lang/invoke/VarHandle" ∧ (parseMethodDescriptor yX8_isDeep.desc).map (fun d => d.parameters.length) = some 3 := by decide +kernel
theorem hd_X8_isCalm : yX8_isCalm.cls = RX8 ∧ yX8_isCalm.cls ≠ "java/lang/invoke/MethodHandle" ∧ yX8_isCalm.cls ≠ "java/lang/invoke/VarHandle" ∧ (parseMethodDescriptor yX8_isCalm.desc).map (fun d => d.parameters.length) = some 2 := by decide +kernel
theorem hd_X8_sorts : yX8_sorts.cls = RX8 ∧ yX8_sorts.cls ≠ "java/lang/invoke/MethodHandle" ∧ yX8_sorts.cls ≠ "java/lang/invoke/VarHandle" ∧ (parseMethodDescriptor yX8_sorts.desc).map (fun d => d.parameters.length) = some 0 := by decide +kernel
theorem hd_X8_shallow : yX8_shallow.cls = RX8 ∧ yX8_shallow.cls ≠ "java/lang/invoke/MethodHandle" ∧ yX8_shallow.cls ≠ "java/lang/invoke/VarHandle" ∧ (parseMethodDescriptor yX8_shallow.desc).map (fun d => d.parameters.length) = some 1 := by decide +kernel
theorem hd_X8_blocker : yX8_blocker.cls = RX8 ∧ yX8_blocker.cls ≠ "java/lang/invoke/MethodHandle" ∧ yX8_blocker.cls ≠ "java/lang/invoke/VarHandle" ∧ (parseMethodDescriptor yX8_blocker.desc).map (fun d => d.parameters.length) = some 2 := by decide +kernel
theorem hd_X8_kindOf : yX8_kindOf.cls = RX8 ∧ yX8_kindOf.cls ≠ "java/lang/invoke/MethodHandle" ∧ yX8_kindOf.cls ≠ "java/lang/invoke/VarHandle" ∧ (parseMethodDescriptor yX8_kindOf.desc).map (fun d => d.parameters.length) = some 1 := by decide +kernel
theorem hd_X8_decides : yX8_decides.cls = RX8 ∧ yX8_decides.cls ≠ "java/lang/invoke/MethodHandle" ∧ yX8_decides.cls ≠ "java/lang/invoke/VarHandle" ∧ (parseMethodDescriptor yX8_decides.desc).map (fun d => d.parameters.length) = some 1 := by decide +kernel
theorem hd_X8_waitsAt : yX8_waitsAt.cls = RX8 ∧ yX8_waitsAt.cls ≠ "java/lang/invoke/MethodHandle" ∧ yX8_waitsAt.cls ≠ "java/lang/invoke/VarHandle" ∧ (parseMethodDescriptor yX8_waitsAt.desc).map (fun d => d.parameters.length) = some 2 := by decide +kernel
theorem hd_X8_laneFor : yX8_laneFor.cls = RX8 ∧ yX8_laneFor.cls ≠ "java/lang/invoke/MethodHandle" ∧ yX8_laneFor.cls ≠ "java/lang/invoke/VarHandle" ∧ (parseMethodDescriptor yX8_laneFor.desc).map (fun d => d.parameters.length) = some 2 := by decide +kernel
theorem hd_X8_shiftsFrom : yX8_shiftsFrom.cls = RX8 ∧ yX8_shiftsFrom.cls ≠ "java/lang/invoke/MethodHandle" ∧ yX8_shiftsFrom.cls ≠ "java/lang/invoke/VarHandle" ∧ (parseMethodDescriptor yX8_shiftsFrom.desc).map (fun d => d.parameters.length) = some 2 := by decide +kernel
theorem hd_X8_loads : yX8_loads.cls = RX8 ∧ yX8_loads.cls ≠ "java/lang/invoke/MethodHandle" ∧ yX8_loads.cls ≠ "java/lang/invoke/VarHandle" ∧ (parseMethodDescriptor yX8_loads.desc).map (fun d => d.parameters.length) = some 2 := by decide +kernel
theorem hd_X8_tell : yX8_tell.cls = RX8 ∧ yX8_tell.cls ≠ "java/lang/invoke/MethodHandle" ∧ yX8_tell.cls ≠ "java/lang/invoke/VarHandle" ∧ (parseMethodDescriptor yX8_tell.desc).map (fun d => d.parameters.length) = some 0 := by decide +kernel
theorem hd_X8_count : yX8_count.cls = RX8 ∧ yX8_count.cls ≠ "java/lang/invoke/MethodHandle" ∧ yX8_count.cls ≠ "java/lang/invoke/VarHandle" ∧ (parseMethodDescriptor yX8_count.desc).map (fun d => d.parameters.length) = some 1 := by decide +kernel
theorem hd_X8_sailing : yX8_sailing.cls = RX8 ∧ yX8_sailing.cls ≠ "java/lang/invoke/MethodHandle" ∧ yX8_sailing.cls ≠ "java/lang/invoke/VarHandle" ∧ (parseMethodDescriptor yX8_sailing.desc).map (fun d => d.parameters.length) = some 2 := by decide +kernel
theorem hd_X8_ship : yX8_ship.cls = RX8 ∧ yX8_ship.cls ≠ "java/lang/invoke/MethodHandle" ∧ yX8_ship.cls ≠ "java/lang/invoke/VarHandle" ∧ (parseMethodDescriptor yX8_ship.desc).map (fun d => d.parameters.length) = some 2 := by decide +kernel
theorem hd_X8_berth : yX8_berth.cls = RX8 ∧ yX8_berth.cls ≠ "java/lang/invoke/MethodHandle" ∧ yX8_berth.cls ≠ "java/lang/invoke/VarHandle" ∧ (parseMethodDescriptor yX8_berth.desc).map (fun d => d.parameters.length) = some 2 := by decide +kernel
theorem hd_X8_loaded : yX8_loaded.cls = RX8 ∧ yX8_loaded.cls ≠ "java/lang/invoke/MethodHandle" ∧ yX8_loaded.cls ≠ "java/lang/invoke/VarHandle" ∧ (parseMethodDescriptor yX8_loaded.desc).map (fun d => d.parameters.length) = some 1 := by decide +kernel
theorem hd_X8_crossing : yX8_crossing.cls = RX8 ∧ yX8_crossing.cls ≠ "java/lang/invoke/MethodHandle" ∧ yX8_crossing.cls ≠ "java/lang/invoke/VarHandle" ∧ (parseMethodDescriptor yX8_crossing.desc).map (fun d => d.parameters.length) = some 2 := by decide +kernel
theorem hd_X8_decided : yX8_decided.cls = RX8 ∧ yX8_decided.cls ≠ "java/lang/invoke/MethodHandle" ∧ yX8_decided.cls ≠ "java/lang/invoke/VarHandle" ∧ (parseMethodDescriptor yX8_decided.desc).map (fun d => d.parameters.length) = some 1 := by decide +kernel
theorem hd_X8_vehicle : yX8_vehicle.cls = RX8 ∧ yX8_vehicle.cls ≠ "java/lang/invoke/MethodHandle" ∧ yX8_vehicle.cls ≠ "java/lang/invoke/VarHandle" ∧ (parseMethodDescriptor yX8_vehicle.desc).map (fun d => d.parameters.length) = some 2 := by decide +kernel
theorem hd_X8_connection : yX8_connection.cls = RX8 ∧ yX8_connection.cls ≠ "java/lang/invoke/MethodHandle" ∧ yX8_connection.cls ≠ "java/lang/invoke/VarHandle" ∧ (parseMethodDescriptor yX8_connection.desc).map (fun d => d.parameters.length) = some 2 := by decide +kernel
theorem hd_X8_tide : yX8_tide.cls = RX8 ∧ yX8_tide.cls ≠ "java/lang/invoke/MethodHandle" ∧ yX8_tide.cls ≠ "java/lang/invoke/VarHandle" ∧ (parseMethodDescriptor yX8_tide.desc).map (fun d => d.parameters.length) = some 1 := by decide +kernel
theorem hd_X8_wind : yX8_wind.cls = RX8 ∧ yX8_wind.cls ≠ "java/lang/invoke/MethodHandle" ∧ yX8_wind.cls ≠ "java/lang/invoke/VarHandle" ∧ (parseMethodDescriptor yX8_wind.desc).map (fun d => d.parameters.length) = some 1 := by decide +kernel
theorem hd_X8_height : yX8_height.cls = RX8 ∧ yX8_height.cls ≠ "java/lang/invoke/MethodHandle" ∧ yX8_height.cls ≠ "java/lang/invoke/VarHandle" ∧ (parseMethodDescriptor yX8_height.desc).map (fun d => d.parameters.length) = some 1 := by decide +kernel
theorem hs_Jxf58ca_isNaN_12338 : yJxf58ca_isNaN_12338.cls ≠ "java/lang/invoke/MethodHandle" ∧ yJxf58ca_isNaN_12338.cls ≠ "java/lang/invoke/VarHandle" ∧ (parseMethodDescriptor yJxf58ca_isNaN_12338.desc).map (fun d => d.parameters.length) = some 1 := by decide +kernel
theorem hs_Jxf58ca_floatToIntBits_5c35a : yJxf58ca_floatToIntBits_5c35a.cls ≠ "java/lang/invoke/MethodHandle" ∧ yJxf58ca_floatToIntBits_5c35a.cls ≠ "java/lang/invoke/VarHandle" ∧ (parseMethodDescriptor yJxf58ca_floatToIntBits_5c35a.desc).map (fun d => d.parameters.length) = some 1 := by decide +kernel
theorem hd_X8_heightBits : yX8_heightBits.cls = RX8 ∧ yX8_heightBits.cls ≠ "java/lang/invoke/MethodHandle" ∧ yX8_heightBits.cls ≠ "java/lang/invoke/VarHandle" ∧ (parseMethodDescriptor yX8_heightBits.desc).map (fun d => d.parameters.length) = some 1 := by decide +kernel
theorem hd_X8_water : yX8_water.cls = RX8 ∧ yX8_water.cls ≠ "java/lang/invoke/MethodHandle" ∧ yX8_water.cls ≠ "java/lang/invoke/VarHandle" ∧ (parseMethodDescriptor yX8_water.desc).map (fun d => d.parameters.length) = some 2 := by decide +kernel
theorem hd_X8_firstTime : yX8_firstTime.cls = RX8 ∧ yX8_firstTime.cls ≠ "java/lang/invoke/MethodHandle" ∧ yX8_firstTime.cls ≠ "java/lang/invoke/VarHandle" ∧ (parseMethodDescriptor yX8_firstTime.desc).map (fun d => d.parameters.length) = some 3 := by decide +kernel
theorem hd_X8_isLane : yX8_isLane.cls = RX8 ∧ yX8_isLane.cls ≠ "java/lang/invoke/MethodHandle" ∧ yX8_isLane.cls ≠ "java/lang/invoke/VarHandle" ∧ (parseMethodDescriptor yX8_isLane.desc).map (fun d => d.parameters.length) = some 2 := by decide +kernel
theorem hd_X8_laneLeft : yX8_laneLeft.cls = RX8 ∧ yX8_laneLeft.cls ≠ "java/lang/invoke/MethodHandle" ∧ yX8_laneLeft.cls ≠ "java/lang/invoke/VarHandle" ∧ (parseMethodDescriptor yX8_laneLeft.desc).map (fun d => d.parameters.length) = some 2 := by decide +kernel
theorem hd_X8_laneVehicle : yX8_laneVehicle.cls = RX8 ∧ yX8_laneVehicle.cls ≠ "java/lang/invoke/MethodHandle" ∧ yX8_laneVehicle.cls ≠ "java/lang/invoke/VarHandle" ∧ (parseMethodDescriptor yX8_laneVehicle.desc).map (fun d => d.parameters.length) = some 3 := by decide +kernel
theorem hd_X8_tellLeaving : yX8_tellLeaving.cls = RX8 ∧ yX8_tellLeaving.cls ≠ "java/lang/invoke/MethodHandle" ∧ yX8_tellLeaving.cls ≠ "java/lang/invoke/VarHandle" ∧ (parseMethodDescriptor yX8_tellLeaving.desc).map (fun d => d.parameters.length) = some 1 := by decide +kernel
theorem hd_X8_leaves : yX8_leaves.cls = RX8 ∧ yX8_leaves.cls ≠ "java/lang/invoke/MethodHandle" ∧ yX8_leaves.cls ≠ "java/lang/invoke/VarHandle" ∧ (parseMethodDescriptor yX8_leaves.desc).map (fun d => d.parameters.length) = some 2 := by decide +kernel
theorem hd_X8_isOrderly : yX8_isOrderly.cls = RX8 ∧ yX8_isOrderly.cls ≠ "java/lang/invoke/MethodHandle" ∧ yX8_isOrderly.cls ≠ "java/lang/invoke/VarHandle" ∧ (parseMethodDescriptor yX8_isOrderly.desc).map (fun d => d.parameters.length) = some 0 := by decide +kernel
theorem hd_X8_meters : yX8_meters.cls = RX8 ∧ yX8_meters.cls ≠ "java/lang/invoke/MethodHandle" ∧ yX8_meters.cls ≠ "java/lang/invoke/VarHandle" ∧ (parseMethodDescriptor yX8_meters.desc).map (fun d => d.parameters.length) = some 0 := by decide +kernel
theorem hd_X8_laneMeters : yX8_laneMeters.cls = RX8 ∧ yX8_laneMeters.cls ≠ "java/lang/invoke/MethodHandle" ∧ yX8_laneMeters.cls ≠ "java/lang/invoke/VarHandle" ∧ (parseMethodDescriptor yX8_laneMeters.desc).map (fun d => d.parameters.length) = some 0 := by decide +kernel
theorem hd_X8_passengers : yX8_passengers.cls = RX8 ∧ yX8_passengers.cls ≠ "java/lang/invoke/MethodHandle" ∧ yX8_passengers.cls ≠ "java/lang/invoke/VarHandle" ∧ (parseMethodDescriptor yX8_passengers.desc).map (fun d => d.parameters.length) = some 1 := by decide +kernel
theorem hd_X8_allAboard : yX8_allAboard.cls = RX8 ∧ yX8_allAboard.cls ≠ "java/lang/invoke/MethodHandle" ∧ yX8_allAboard.cls ≠ "java/lang/invoke/VarHandle" ∧ (parseMethodDescriptor yX8_allAboard.desc).map (fun d => d.parameters.length) = some 0 := by decide +kernel
theorem hd_X8_account : yX8_account.cls = RX8 ∧ yX8_account.cls ≠ "java/lang/invoke/MethodHandle" ∧ yX8_account.cls ≠ "java/lang/invoke/VarHandle" ∧ (parseMethodDescriptor yX8_account.desc).map (fun d => d.parameters.length) = some 1 := by decide +kernel
theorem hd_X8_loadBits : yX8_loadBits.cls = RX8 ∧ yX8_loadBits.cls ≠ "java/lang/invoke/MethodHandle" ∧ yX8_loadBits.cls ≠ "java/lang/invoke/VarHandle" ∧ (parseMethodDescriptor yX8_loadBits.desc).map (fun d => d.parameters.length) = some 0 := by decide +kernel
theorem hd_X8_sailingIf : yX8_sailingIf.cls = RX8 ∧ yX8_sailingIf.cls ≠ "java/lang/invoke/MethodHandle" ∧ yX8_sailingIf.cls ≠ "java/lang/invoke/VarHandle" ∧ (parseMethodDescriptor yX8_sailingIf.desc).map (fun d => d.parameters.length) = some 1 := by decide +kernel
theorem hd_X8_bestBerth : yX8_bestBerth.cls = RX8 ∧ yX8_bestBerth.cls ≠ "java/lang/invoke/MethodHandle" ∧ yX8_bestBerth.cls ≠ "java/lang/invoke/VarHandle" ∧ (parseMethodDescriptor yX8_bestBerth.desc).map (fun d => d.parameters.length) = some 1 := by decide +kernel
theorem hs_X8_isPlace : yX8_isPlace.cls ≠ "java/lang/invoke/MethodHandle" ∧ yX8_isPlace.cls ≠ "java/lang/invoke/VarHandle" ∧ (parseMethodDescriptor yX8_isPlace.desc).map (fun d => d.parameters.length) = some 2 := by decide +kernel
theorem hd_X8_layDown : yX8_layDown.cls = RX8 ∧ yX8_layDown.cls ≠ "java/lang/invoke/MethodHandle" ∧ yX8_layDown.cls ≠ "java/lang/invoke/VarHandle" ∧ (parseMethodDescriptor yX8_layDown.desc).map (fun d => d.parameters.length) = some 4 := by decide +kernel
theorem hd_X8_takeOut : yX8_takeOut.cls = RX8 ∧ yX8_takeOut.cls ≠ "java/lang/invoke/MethodHandle" ∧ yX8_takeOut.cls ≠ "java/lang/invoke/VarHandle" ∧ (parseMethodDescriptor yX8_takeOut.desc).map (fun d => d.parameters.length) = some 2 := by decide +kernel
theorem hd_X8_lying : yX8_lying.cls = RX8 ∧ yX8_lying.cls ≠ "java/lang/invoke/MethodHandle" ∧ yX8_lying.cls ≠ "java/lang/invoke/VarHandle" ∧ (parseMethodDescriptor yX8_lying.desc).map (fun d => d.parameters.length) = some 2 := by decide +kernel
theorem hd_X8_save : yX8_save.cls = RX8 ∧ yX8_save.cls ≠ "java/lang/invoke/MethodHandle" ∧ yX8_save.cls ≠ "java/lang/invoke/VarHandle" ∧ (parseMethodDescriptor yX8_save.desc).map (fun d => d.parameters.length) = some 0 := by decide +kernel
theorem hd_X8_restore : yX8_restore.cls = RX8 ∧ yX8_restore.cls ≠ "java/lang/invoke/MethodHandle" ∧ yX8_restore.cls ≠ "java/lang/invoke/VarHandle" ∧ (parseMethodDescriptor yX8_restore.desc).map (fun d => d.parameters.length) = some 0 := by decide +kernel
def fN : Nat := 3000
def fcall {α β : Type} (o : Option (α × fS)) (k : α → fS → Option β) : Option β := match o with
  | none => none
  | some (a, s) => k a s
theorem fcall_some {α β : Type} {o : Option (α × fS)} {k : α → fS → Option β} {x : β} (h : fcall o k = some x) : ∃ a s, o = some (a, s) ∧ k a s = some x := by
  cases o with
  | none => cases h
  | some q => exact ⟨q.1, q.2, rfl, h⟩
def fcallv {β : Type} (o : Option fS) (k : fS → Option β) : Option β := match o with
  | none => none
  | some s => k s
theorem fcallv_some {β : Type} {o : Option fS} {k : fS → Option β} {x : β} (h : fcallv o k = some x) : ∃ s, o = some s ∧ k s = some x := by
  cases o with
  | none => cases h
  | some q => exact ⟨q, rfl, h⟩
theorem fL_some {α β : Type} {a : α} {k : α → Option β} {x : β} (h : fL a k = some x) : ∃ z, z = a ∧ k z = some x := ⟨a, rfl, h⟩
theorem fif_pos {c : Prop} [Decidable c] {α : Type} {a b : Option α} {x : α} (hc : c) (h : (if c then a else b) = some x) : a = some x := by rw [if_pos hc] at h; exact h
theorem fif_neg {c : Prop} [Decidable c] {α : Type} {a b : Option α} {x : α} (hc : ¬ c) (h : (if c then a else b) = some x) : b = some x := by rw [if_neg hc] at h; exact h
theorem fz {v : Int32} (h : v = 0 ∨ v = 1) : narrow .boolean (.int v) = .int v := by
  rcases h with rfl | rfl <;> rfl
theorem fi_ne {x y : Int32} {n : Int} (h : ¬ x = y) (hn : y.toInt = n) : ¬ x.toInt = n := fun z => h (Int32.toInt_inj.mp (z.trans hn.symm))
theorem fD_ear {i : Int32} (h : vp_in i 6) : fD (48 + 15 * i.toNatClampNeg) = (3, 0, 0) := by
  have hlt : i.toNatClampNeg < 6 := Nat.not_le.mp fun q => h (Or.inr q)
  generalize i.toNatClampNeg = n at hlt
  match n, hlt with
  | 0, _ => rfl
  | 1, _ => rfl
  | 2, _ => rfl
  | 3, _ => rfl
  | 4, _ => rfl
  | 5, _ => rfl
theorem lv_ldcfw {p : Program} {l : Launch} {e : Env} {R : Room} {s : State} {m : MethodId} {args : Array Value} {below : List Frame} {meth : Method} {c : Code} {H : Heap} {locs : List Loc} {cells slots : Nat} {Q : State → Prop} {cc : ByteArray} {pc : Nat} {ls : Array Slot} {rest : List Value} (hexec : p.tables.exec = Jvm.exec) (hb : c.code = cc) {own : String} {index : Nat} {v : UInt32} (hown : s.vm.findClass own = some m.cls) (hconst : (Jvm.Cond.constantFloat own index v).before args s = true) (hdg : decode cc pc = .ok (.ldc_w index, 3)) (k : W p l e R s m args below meth c H locs cells slots Q (F0 m (pc + 3) ls (.float v :: rest))) : W p l e R s m args below meth c H locs cells slots Q (F0 m pc ls rest) := by
  intro T hT X
  obtain ⟨t, a, b⟩ := k T hT X
  refine ⟨t, ?_, b⟩
  obtain ⟨k0, cf, hk, hcf, hcp⟩ := Cond.constantFloat_spec hown hconst
  obtain ⟨k', hk', he⟩ := X.warmed.alike.2.2 _ _ hk
  jvm_step X.here [hexec, hb, hdg, ldc_w.wp_float (s := T) (f := F0 m pc ls rest) X.here.top hk' (by rw [he]; exact hcf) hcp]
  exact a
end
section
section GM
variable {p : Program} {l : Launch} {e : Env} {s : State} {m : MethodId} {args : Array Value} {below : List Frame} {meth : Method} {c : Code} {Γ : fGm}
def f_X5_size (t0 r0 w0 : Nat) (σ : fS) : Option (Int32 × fS) := some ((σ t0 3), σ)
set_option maxRecDepth 100000 in
set_option maxHeartbeats 4000000 in
theorem m_X5_size {Γ : fGm} (hI : fI Γ) (l : Launch) {t0 r0 w0 : Nat} (h0 : fD t0 = (2, r0, w0)) {σ : fS} {r : Int32} {σ' : fS} (hf : f_X5_size t0 r0 w0 σ = some (r, σ')) : Met l yX5_size (.code yX5_size cX5_size 1 (some .int) :: lw_g) ({ frames := 0, cells := 0, slots := 0, locals := 0 } : Room) (fPre Γ [.ref (Γ.1 t0)] σ) (fQi Γ r σ') 0 0 (fAd Γ) := by
  refine fl_enter (own := RX5) hI (by decide) rfl (Nat.le_of_ble_eq_true rfl) ?_
  intro p e s m args below meth c ls C hl hP hS
  have hl : lv_has ls 1 [(0, .ref (Γ.1 t0))] := hl
  obtain ⟨H, hH⟩ : ∃ H, H = s.heap := ⟨_, rfl⟩
  obtain ⟨locs, hL⟩ : ∃ L : List Loc, L = [] := ⟨_, rfl⟩
  have hP : fH Γ σ H := by rw [hH]; exact hP
  have hS : va_S (fAd Γ) s.heap H locs := by rw [hH, hL]; exact hS
  suffices hw : W p l e ({ frames := 0, cells := 0, slots := 0, locals := 0 } : Room) s m args below meth c H locs 0 0 (MQ below (fQi Γ r σ') args s 0 0 (fAd Γ)) (F0 m 0 ls []) by rw [hH, hL] at hw; exact hw
  unfold f_X5_size at hf
  refine lv_aload_n C.1 C.2.1 (kd kX5_size_0 0 rfl) rfl (lv_at hl 0 rfl) ?_
  refine fl_get (j := 3) (v := .int (σ t0 3)) C hP (fe_T h0) (fD_lt h0) rfl inX5 (Nat.le_of_ble_eq_true rfl) tw_102 rfl (kd kX5_size_0 1 rfl) ?_
  exact fl_iret C hP hS hf (kd kX5_size_0 2 rfl)
def f_X5_at (t0 r0 w0 : Nat) (x1 : Int32) (x2 : Int32) (σ : fS) : Option (Int32 × fS) := (if x1 < 0 then some ((0 : Int32), σ) else (if (σ t0 3) ≤ x1 then some ((0 : Int32), σ) else (if x2 < 0 then some ((0 : Int32), σ) else (if x2 < (Int32.ofNat w0) then fb ((x1 * (Int32.ofNat w0)) + x2) (r0 * w0) (some ((σ (t0 + 1) ((x1 * (Int32.ofNat w0)) + x2).toNatClampNeg), σ)) else some ((0 : Int32), σ)))))
set_option maxRecDepth 100000 in
set_option maxHeartbeats 4000000 in
theorem m_X5_at {Γ : fGm} (hI : fI Γ) (l : Launch) {t0 r0 w0 : Nat} {x1 : Int32} {x2 : Int32} (h0 : fD t0 = (2, r0, w0)) {σ : fS} {r : Int32} {σ' : fS} (hf : f_X5_at t0 r0 w0 x1 x2 σ = some (r, σ')) : Met l yX5_at (.code yX5_at cX5_at 3 (some .int) :: lw_g) ({ frames := 0, cells := 0, slots := 0, locals := 0 } : Room) (fPre Γ [.ref (Γ.1 t0), .int x1, .int x2] σ) (fQi Γ r σ') 0 0 (fAd Γ) := by
  refine fl_enter (own := RX5) hI (by decide) rfl (Nat.le_of_ble_eq_true rfl) ?_
  intro p e s m args below meth c ls C hl hP hS
  have hl : lv_has ls 3 [(0, .ref (Γ.1 t0)), (1, .int x1), (2, .int x2)] := hl
  obtain ⟨H, hH⟩ : ∃ H, H = s.heap := ⟨_, rfl⟩
  obtain ⟨locs, hL⟩ : ∃ L : List Loc, L = [] := ⟨_, rfl⟩
  have hP : fH Γ σ H := by rw [hH]; exact hP
  have hS : va_S (fAd Γ) s.heap H locs := by rw [hH, hL]; exact hS
  suffices hw : W p l e ({ frames := 0, cells := 0, slots := 0, locals := 0 } : Room) s m args below meth c H locs 0 0 (MQ below (fQi Γ r σ') args s 0 0 (fAd Γ)) (F0 m 0 ls []) by rw [hH, hL] at hw; exact hw
  unfold f_X5_at at hf
  refine lv_iload_n C.1 C.2.1 (kd kX5_at_0 0 rfl) rfl (lv_at hl 1 rfl) ?_
  refine lv_if_lt (tgt := 24) C.1 C.2.1 (kd kX5_at_0 1 rfl) (by decide) (fun q => ?_) (fun q => ?_)
  · have hf := fif_pos q hf
    refine lv_iconst (v := (0 : Int32)) C.1 C.2.1 (kd kX5_at_0 12 rfl) (by decide) ?_
    exact fl_iret C hP hS hf (kd kX5_at_0 13 rfl)
  have hf := fif_neg q hf
  refine lv_iload_n C.1 C.2.1 (kd kX5_at_0 2 rfl) rfl (lv_at hl 1 rfl) ?_
  refine lv_aload_n C.1 C.2.1 (kd kX5_at_0 3 rfl) rfl (lv_at hl 0 rfl) ?_
  refine fl_get (j := 3) (v := .int (σ t0 3)) C hP (fe_T h0) (fD_lt h0) rfl inX5 (Nat.le_of_ble_eq_true rfl) tw_102 rfl (kd kX5_at_0 4 rfl) ?_
  refine lv_icmp_ge (tgt := 24) C.1 C.2.1 (kd kX5_at_0 5 rfl) (by decide) (fun q => ?_) (fun q => ?_)
  · have hf := fif_pos q hf
    refine lv_iconst (v := (0 : Int32)) C.1 C.2.1 (kd kX5_at_0 12 rfl) (by decide) ?_
    exact fl_iret C hP hS hf (kd kX5_at_0 13 rfl)
  have hf := fif_neg q hf
  refine lv_iload_n C.1 C.2.1 (kd kX5_at_0 6 rfl) rfl (lv_at hl 2 rfl) ?_
  refine lv_if_lt (tgt := 24) C.1 C.2.1 (kd kX5_at_0 7 rfl) (by decide) (fun q => ?_) (fun q => ?_)
  · have hf := fif_pos q hf
    refine lv_iconst (v := (0 : Int32)) C.1 C.2.1 (kd kX5_at_0 12 rfl) (by decide) ?_
    exact fl_iret C hP hS hf (kd kX5_at_0 13 rfl)
  have hf := fif_neg q hf
  refine lv_iload_n C.1 C.2.1 (kd kX5_at_0 8 rfl) rfl (lv_at hl 2 rfl) ?_
  refine lv_aload_n C.1 C.2.1 (kd kX5_at_0 9 rfl) rfl (lv_at hl 0 rfl) ?_
  refine fl_get (j := 1) (v := .int (Int32.ofNat w0)) C hP (fe_T h0) (fD_lt h0) rfl inX5 (Nat.le_of_ble_eq_true rfl) tw_100 rfl (kd kX5_at_0 10 rfl) ?_
  refine lv_icmp_lt (tgt := 26) C.1 C.2.1 (kd kX5_at_0 11 rfl) (by decide) (fun q => ?_) (fun q => ?_)
  · have hf := fif_pos q hf
    refine lv_aload_n C.1 C.2.1 (kd kX5_at_0 14 rfl) rfl (lv_at hl 0 rfl) ?_
    refine fl_get (j := 2) (v := .ref (Γ.1 (t0 + 1))) C hP (fe_T h0) (fD_lt h0) rfl inX5 (Nat.le_of_ble_eq_true rfl) tw_101 rfl (kd kX5_at_0 15 rfl) ?_
    refine lv_iload_n C.1 C.2.1 (kd kX5_at_0 16 rfl) rfl (lv_at hl 1 rfl) ?_
    refine lv_aload_n C.1 C.2.1 (kd kX5_at_0 17 rfl) rfl (lv_at hl 0 rfl) ?_
    refine fl_get (j := 1) (v := .int (Int32.ofNat w0)) C hP (fe_T h0) (fD_lt h0) rfl inX5 (Nat.le_of_ble_eq_true rfl) tw_100 rfl (kd kX5_at_0 18 rfl) ?_
    refine lv_imul C.1 C.2.1 (kd kX5_at_0 19 rfl) ?_
    refine lv_iload_n C.1 C.2.1 (kd kX5_at_0 20 rfl) rfl (lv_at hl 2 rfl) ?_
    refine lv_iadd C.1 C.2.1 (kd kX5_at_0 21 rfl) ?_
    obtain ⟨hq, hf⟩ := fb_some hf
    refine fl_iald C hP (fD_tab h0) hq (kd kX5_at_0 22 rfl) ?_
    exact fl_iret C hP hS hf (kd kX5_at_0 23 rfl)
  have hf := fif_neg q hf
  refine lv_iconst (v := (0 : Int32)) C.1 C.2.1 (kd kX5_at_0 12 rfl) (by decide) ?_
  exact fl_iret C hP hS hf (kd kX5_at_0 13 rfl)
def f_X5_copyFrom (t0 r0 w0 : Nat) (t1 r1 w1 : Nat) (σ : fS) : Option (fS) := fL (fu σ t0 3 (if (Int32.ofNat r0) < (σ t1 3) then (Int32.ofNat r0) else (σ t1 3))) (fun σ1 => fg (fcpOK (r1 * w1) (r0 * w0) (0 : Int32) (0 : Int32) (if (Int32.ofNat (r1 * w1)) < (Int32.ofNat (r0 * w0)) then (Int32.ofNat (r1 * w1)) else (Int32.ofNat (r0 * w0)))) (fL (fcp σ1 (t1 + 1) (t0 + 1) (0 : Int32) (0 : Int32) (if (Int32.ofNat (r1 * w1)) < (Int32.ofNat (r0 * w0)) then (Int32.ofNat (r1 * w1)) else (Int32.ofNat (r0 * w0)))) (fun σ2 => some σ2)))
set_option maxRecDepth 100000 in
set_option maxHeartbeats 4000000 in
theorem m_X5_copyFrom {Γ : fGm} (hI : fI Γ) (l : Launch) {t0 r0 w0 : Nat} {t1 r1 w1 : Nat} (h0 : fD t0 = (2, r0, w0)) (h1 : fD t1 = (2, r1, w1)) {σ : fS} {σ' : fS} (hf : f_X5_copyFrom t0 r0 w0 t1 r1 w1 σ = some σ') : Met l yX5_copyFrom (.code yX5_copyFrom cX5_copyFrom 2 none :: lw_g) ({ frames := 1, cells := 0, slots := 0, locals := 40 } : Room) (fPre Γ [.ref (Γ.1 t0), .ref (Γ.1 t1)] σ) (fQv Γ σ') 0 0 (fAd Γ) := by
  refine fl_enter (own := RX5) hI (by decide) rfl (Nat.le_of_ble_eq_true rfl) ?_
  intro p e s m args below meth c ls C hl hP hS
  have hl : lv_has ls 2 [(0, .ref (Γ.1 t0)), (1, .ref (Γ.1 t1))] := hl
  obtain ⟨H, hH⟩ : ∃ H, H = s.heap := ⟨_, rfl⟩
  obtain ⟨locs, hL⟩ : ∃ L : List Loc, L = [] := ⟨_, rfl⟩
  have hP : fH Γ σ H := by rw [hH]; exact hP
  have hS : va_S (fAd Γ) s.heap H locs := by rw [hH, hL]; exact hS
  suffices hw : W p l e ({ frames := 1, cells := 0, slots := 0, locals := 40 } : Room) s m args below meth c H locs 0 0 (MQ below (fQv Γ σ') args s 0 0 (fAd Γ)) (F0 m 0 ls []) by rw [hH, hL] at hw; exact hw
  unfold f_X5_copyFrom at hf
  refine lv_aload_n C.1 C.2.1 (kd kX5_copyFrom_0 0 rfl) rfl (lv_at hl 0 rfl) ?_
  refine lv_aload_n C.1 C.2.1 (kd kX5_copyFrom_0 1 rfl) rfl (lv_at hl 1 rfl) ?_
  refine fl_get (j := 3) (v := .int (σ t1 3)) C hP (fe_T h1) (fD_lt h1) rfl inX5 (Nat.le_of_ble_eq_true rfl) tw_102 rfl (kd kX5_copyFrom_0 2 rfl) ?_
  refine lv_aload_n C.1 C.2.1 (kd kX5_copyFrom_0 3 rfl) rfl (lv_at hl 0 rfl) ?_
  refine fl_get (j := 0) (v := .int (Int32.ofNat r0)) C hP (fe_T h0) (fD_lt h0) rfl inX5 (Nat.le_of_ble_eq_true rfl) tw_99 rfl (kd kX5_copyFrom_0 4 rfl) ?_
  refine fl_min C hl.1 tw_323 tw_324 tw_76 tw_325 (Nat.le_of_ble_eq_true rfl) (Nat.le_of_ble_eq_true rfl) (kd kX5_copyFrom_0 5 rfl) ?_
  obtain ⟨σ1, eσ1, hf⟩ := fL_some hf
  refine fl_put (j := 3) C hP hS (fe_T h0) (fe_T h0) (fD_lt h0) rfl inX5 tyX5 tyX5_ok nmX5 (Nat.le_of_ble_eq_true rfl) tw_102 rfl rfl rfl (Nat.le_of_ble_eq_true rfl) (kd kX5_copyFrom_0 6 rfl) (fun H locs hP hS => ?_)
  have hP : fH Γ σ1 H := by rw [eσ1]; exact hP
  refine lv_aload_n C.1 C.2.1 (kd kX5_copyFrom_0 7 rfl) rfl (lv_at hl 1 rfl) ?_
  refine fl_get (j := 2) (v := .ref (Γ.1 (t1 + 1))) C hP (fe_T h1) (fD_lt h1) rfl inX5 (Nat.le_of_ble_eq_true rfl) tw_101 rfl (kd kX5_copyFrom_0 8 rfl) ?_
  refine lv_iconst (v := (0 : Int32)) C.1 C.2.1 (kd kX5_copyFrom_0 9 rfl) (by decide) ?_
  refine lv_aload_n C.1 C.2.1 (kd kX5_copyFrom_0 10 rfl) rfl (lv_at hl 0 rfl) ?_
  refine fl_get (j := 2) (v := .ref (Γ.1 (t0 + 1))) C hP (fe_T h0) (fD_lt h0) rfl inX5 (Nat.le_of_ble_eq_true rfl) tw_101 rfl (kd kX5_copyFrom_0 11 rfl) ?_
  refine lv_iconst (v := (0 : Int32)) C.1 C.2.1 (kd kX5_copyFrom_0 12 rfl) (by decide) ?_
  refine lv_aload_n C.1 C.2.1 (kd kX5_copyFrom_0 13 rfl) rfl (lv_at hl 0 rfl) ?_
  refine fl_get (j := 2) (v := .ref (Γ.1 (t0 + 1))) C hP (fe_T h0) (fD_lt h0) rfl inX5 (Nat.le_of_ble_eq_true rfl) tw_101 rfl (kd kX5_copyFrom_0 14 rfl) ?_
  refine fl_alen C hP (fD_tab h0) (kd kX5_copyFrom_0 15 rfl) ?_
  refine lv_aload_n C.1 C.2.1 (kd kX5_copyFrom_0 16 rfl) rfl (lv_at hl 1 rfl) ?_
  refine fl_get (j := 2) (v := .ref (Γ.1 (t1 + 1))) C hP (fe_T h1) (fD_lt h1) rfl inX5 (Nat.le_of_ble_eq_true rfl) tw_101 rfl (kd kX5_copyFrom_0 17 rfl) ?_
  refine fl_alen C hP (fD_tab h1) (kd kX5_copyFrom_0 18 rfl) ?_
  refine fl_min C hl.1 tw_323 tw_324 tw_76 tw_325 (Nat.le_of_ble_eq_true rfl) (Nat.le_of_ble_eq_true rfl) (kd kX5_copyFrom_0 19 rfl) ?_
  obtain ⟨hq, hf⟩ := fg_some hf
  obtain ⟨σ2, eσ2, hf⟩ := fL_some hf
  refine fl_copy C hP hS hl.1 (fD_tab h1) (fD_tab h0) tw_326 tw_328 tw_327 tw_77 hq (Nat.le_of_ble_eq_true rfl) (Nat.le_of_ble_eq_true rfl) (kd kX5_copyFrom_0 20 rfl) (fun H locs hP hS => ?_)
  have hP : fH Γ σ2 H := by rw [eσ2]; exact hP
  exact fl_vret C hP hS hf (kd kX5_copyFrom_0 21 rfl)
def f_X7_isOutside (x0 : Int32) (x1 : Int32) (x2 : Int32) (σ : fS) : Option (Int32 × fS) := (if x0 < x1 then some ((1 : Int32), σ) else (if x0 ≤ x2 then some ((0 : Int32), σ) else some ((1 : Int32), σ)))
set_option maxRecDepth 100000 in
set_option maxHeartbeats 4000000 in
theorem m_X7_isOutside {Γ : fGm} (hI : fI Γ) (l : Launch) {x0 : Int32} {x1 : Int32} {x2 : Int32} {σ : fS} {r : Int32} {σ' : fS} (hf : f_X7_isOutside x0 x1 x2 σ = some (r, σ')) : Met l yX7_isOutside (.code yX7_isOutside cX7_isOutside 3 (some .boolean) :: lw_g) ({ frames := 0, cells := 0, slots := 0, locals := 0 } : Room) (fPre Γ [.int x0, .int x1, .int x2] σ) (fQi Γ r σ') 0 0 (fAd Γ) := by
  refine fl_enter (own := RX7) hI (by decide) rfl (Nat.le_of_ble_eq_true rfl) ?_
  intro p e s m args below meth c ls C hl hP hS
  have hl : lv_has ls 3 [(0, .int x0), (1, .int x1), (2, .int x2)] := hl
  obtain ⟨H, hH⟩ : ∃ H, H = s.heap := ⟨_, rfl⟩
  obtain ⟨locs, hL⟩ : ∃ L : List Loc, L = [] := ⟨_, rfl⟩
  have hP : fH Γ σ H := by rw [hH]; exact hP
  have hS : va_S (fAd Γ) s.heap H locs := by rw [hH, hL]; exact hS
  suffices hw : W p l e ({ frames := 0, cells := 0, slots := 0, locals := 0 } : Room) s m args below meth c H locs 0 0 (MQ below (fQi Γ r σ') args s 0 0 (fAd Γ)) (F0 m 0 ls []) by rw [hH, hL] at hw; exact hw
  unfold f_X7_isOutside at hf
  refine lv_iload_n C.1 C.2.1 (kd kX7_isOutside_0 0 rfl) rfl (lv_at hl 0 rfl) ?_
  refine lv_iload_n C.1 C.2.1 (kd kX7_isOutside_0 1 rfl) rfl (lv_at hl 1 rfl) ?_
  refine lv_icmp_lt (tgt := 10) C.1 C.2.1 (kd kX7_isOutside_0 2 rfl) (by decide) (fun q => ?_) (fun q => ?_)
  · have hf := fif_pos q hf
    refine lv_iconst (v := (1 : Int32)) C.1 C.2.1 (kd kX7_isOutside_0 6 rfl) (by decide) ?_
    refine lv_goto (tgt := 15) C.1 C.2.1 (kd kX7_isOutside_0 7 rfl) (by decide) ?_
    exact fl_zret C hP hS rfl hf (kd kX7_isOutside_0 9 rfl)
  have hf := fif_neg q hf
  refine lv_iload_n C.1 C.2.1 (kd kX7_isOutside_0 3 rfl) rfl (lv_at hl 0 rfl) ?_
  refine lv_iload_n C.1 C.2.1 (kd kX7_isOutside_0 4 rfl) rfl (lv_at hl 2 rfl) ?_
  refine lv_icmp_le (tgt := 14) C.1 C.2.1 (kd kX7_isOutside_0 5 rfl) (by decide) (fun q => ?_) (fun q => ?_)
  · have hf := fif_pos q hf
    refine lv_iconst (v := (0 : Int32)) C.1 C.2.1 (kd kX7_isOutside_0 8 rfl) (by decide) ?_
    exact fl_zret C hP hS rfl hf (kd kX7_isOutside_0 9 rfl)
  have hf := fif_neg q hf
  refine lv_iconst (v := (1 : Int32)) C.1 C.2.1 (kd kX7_isOutside_0 6 rfl) (by decide) ?_
  refine lv_goto (tgt := 15) C.1 C.2.1 (kd kX7_isOutside_0 7 rfl) (by decide) ?_
  exact fl_zret C hP hS rfl hf (kd kX7_isOutside_0 9 rfl)
def f_X5_isFull (t0 r0 w0 : Nat) (σ : fS) : Option (Int32 × fS) := (if (σ t0 3) < (Int32.ofNat r0) then some ((0 : Int32), σ) else some ((1 : Int32), σ))
set_option maxRecDepth 100000 in
set_option maxHeartbeats 4000000 in
theorem m_X5_isFull {Γ : fGm} (hI : fI Γ) (l : Launch) {t0 r0 w0 : Nat} (h0 : fD t0 = (2, r0, w0)) {σ : fS} {r : Int32} {σ' : fS} (hf : f_X5_isFull t0 r0 w0 σ = some (r, σ')) : Met l yX5_isFull (.code yX5_isFull cX5_isFull 1 (some .boolean) :: lw_g) ({ frames := 0, cells := 0, slots := 0, locals := 0 } : Room) (fPre Γ [.ref (Γ.1 t0)] σ) (fQi Γ r σ') 0 0 (fAd Γ) := by
  refine fl_enter (own := RX5) hI (by decide) rfl (Nat.le_of_ble_eq_true rfl) ?_
  intro p e s m args below meth c ls C hl hP hS
  have hl : lv_has ls 1 [(0, .ref (Γ.1 t0))] := hl
  obtain ⟨H, hH⟩ : ∃ H, H = s.heap := ⟨_, rfl⟩
  obtain ⟨locs, hL⟩ : ∃ L : List Loc, L = [] := ⟨_, rfl⟩
  have hP : fH Γ σ H := by rw [hH]; exact hP
  have hS : va_S (fAd Γ) s.heap H locs := by rw [hH, hL]; exact hS
  suffices hw : W p l e ({ frames := 0, cells := 0, slots := 0, locals := 0 } : Room) s m args below meth c H locs 0 0 (MQ below (fQi Γ r σ') args s 0 0 (fAd Γ)) (F0 m 0 ls []) by rw [hH, hL] at hw; exact hw
  unfold f_X5_isFull at hf
  refine lv_aload_n C.1 C.2.1 (kd kX5_isFull_0 0 rfl) rfl (lv_at hl 0 rfl) ?_
  refine fl_get (j := 3) (v := .int (σ t0 3)) C hP (fe_T h0) (fD_lt h0) rfl inX5 (Nat.le_of_ble_eq_true rfl) tw_102 rfl (kd kX5_isFull_0 1 rfl) ?_
  refine lv_aload_n C.1 C.2.1 (kd kX5_isFull_0 2 rfl) rfl (lv_at hl 0 rfl) ?_
  refine fl_get (j := 0) (v := .int (Int32.ofNat r0)) C hP (fe_T h0) (fD_lt h0) rfl inX5 (Nat.le_of_ble_eq_true rfl) tw_99 rfl (kd kX5_isFull_0 3 rfl) ?_
  refine lv_icmp_lt (tgt := 15) C.1 C.2.1 (kd kX5_isFull_0 4 rfl) (by decide) (fun q => ?_) (fun q => ?_)
  · have hf := fif_pos q hf
    refine lv_iconst (v := (0 : Int32)) C.1 C.2.1 (kd kX5_isFull_0 7 rfl) (by decide) ?_
    exact fl_zret C hP hS rfl hf (kd kX5_isFull_0 8 rfl)
  have hf := fif_neg q hf
  refine lv_iconst (v := (1 : Int32)) C.1 C.2.1 (kd kX5_isFull_0 5 rfl) (by decide) ?_
  refine lv_goto (tgt := 16) C.1 C.2.1 (kd kX5_isFull_0 6 rfl) (by decide) ?_
  exact fl_zret C hP hS rfl hf (kd kX5_isFull_0 8 rfl)
def f_X5_put (t0 r0 w0 : Nat) (x1 : Int32) (x2 : Int32) (x3 : Int32) (σ : fS) : Option (fS) := (if x1 < 0 then some σ else (if (σ t0 3) ≤ x1 then some σ else (if x2 < 0 then some σ else (if x2 < (Int32.ofNat w0) then fb ((x1 * (Int32.ofNat w0)) + x2) (r0 * w0) (fL (fu σ (t0 + 1) ((x1 * (Int32.ofNat w0)) + x2).toNatClampNeg x3) (fun σ1 => some σ1)) else some σ))))
set_option maxRecDepth 100000 in
set_option maxHeartbeats 4000000 in
theorem m_X5_put {Γ : fGm} (hI : fI Γ) (l : Launch) {t0 r0 w0 : Nat} {x1 : Int32} {x2 : Int32} {x3 : Int32} (h0 : fD t0 = (2, r0, w0)) {σ : fS} {σ' : fS} (hf : f_X5_put t0 r0 w0 x1 x2 x3 σ = some σ') : Met l yX5_put (.code yX5_put cX5_put 4 none :: lw_g) ({ frames := 0, cells := 0, slots := 0, locals := 0 } : Room) (fPre Γ [.ref (Γ.1 t0), .int x1, .int x2, .int x3] σ) (fQv Γ σ') 0 0 (fAd Γ) := by
  refine fl_enter (own := RX5) hI (by decide) rfl (Nat.le_of_ble_eq_true rfl) ?_
  intro p e s m args below meth c ls C hl hP hS
  have hl : lv_has ls 4 [(0, .ref (Γ.1 t0)), (1, .int x1), (2, .int x2), (3, .int x3)] := hl
  obtain ⟨H, hH⟩ : ∃ H, H = s.heap := ⟨_, rfl⟩
  obtain ⟨locs, hL⟩ : ∃ L : List Loc, L = [] := ⟨_, rfl⟩
  have hP : fH Γ σ H := by rw [hH]; exact hP
  have hS : va_S (fAd Γ) s.heap H locs := by rw [hH, hL]; exact hS
  suffices hw : W p l e ({ frames := 0, cells := 0, slots := 0, locals := 0 } : Room) s m args below meth c H locs 0 0 (MQ below (fQv Γ σ') args s 0 0 (fAd Γ)) (F0 m 0 ls []) by rw [hH, hL] at hw; exact hw
  unfold f_X5_put at hf
  refine lv_iload_n C.1 C.2.1 (kd kX5_put_0 0 rfl) rfl (lv_at hl 1 rfl) ?_
  refine lv_if_lt (tgt := 24) C.1 C.2.1 (kd kX5_put_0 1 rfl) (by decide) (fun q => ?_) (fun q => ?_)
  · have hf := fif_pos q hf
    exact fl_vret C hP hS hf (kd kX5_put_0 12 rfl)
  have hf := fif_neg q hf
  refine lv_iload_n C.1 C.2.1 (kd kX5_put_0 2 rfl) rfl (lv_at hl 1 rfl) ?_
  refine lv_aload_n C.1 C.2.1 (kd kX5_put_0 3 rfl) rfl (lv_at hl 0 rfl) ?_
  refine fl_get (j := 3) (v := .int (σ t0 3)) C hP (fe_T h0) (fD_lt h0) rfl inX5 (Nat.le_of_ble_eq_true rfl) tw_102 rfl (kd kX5_put_0 4 rfl) ?_
  refine lv_icmp_ge (tgt := 24) C.1 C.2.1 (kd kX5_put_0 5 rfl) (by decide) (fun q => ?_) (fun q => ?_)
  · have hf := fif_pos q hf
    exact fl_vret C hP hS hf (kd kX5_put_0 12 rfl)
  have hf := fif_neg q hf
  refine lv_iload_n C.1 C.2.1 (kd kX5_put_0 6 rfl) rfl (lv_at hl 2 rfl) ?_
  refine lv_if_lt (tgt := 24) C.1 C.2.1 (kd kX5_put_0 7 rfl) (by decide) (fun q => ?_) (fun q => ?_)
  · have hf := fif_pos q hf
    exact fl_vret C hP hS hf (kd kX5_put_0 12 rfl)
  have hf := fif_neg q hf
  refine lv_iload_n C.1 C.2.1 (kd kX5_put_0 8 rfl) rfl (lv_at hl 2 rfl) ?_
  refine lv_aload_n C.1 C.2.1 (kd kX5_put_0 9 rfl) rfl (lv_at hl 0 rfl) ?_
  refine fl_get (j := 1) (v := .int (Int32.ofNat w0)) C hP (fe_T h0) (fD_lt h0) rfl inX5 (Nat.le_of_ble_eq_true rfl) tw_100 rfl (kd kX5_put_0 10 rfl) ?_
  refine lv_icmp_lt (tgt := 25) C.1 C.2.1 (kd kX5_put_0 11 rfl) (by decide) (fun q => ?_) (fun q => ?_)
  · have hf := fif_pos q hf
    refine lv_aload_n C.1 C.2.1 (kd kX5_put_0 13 rfl) rfl (lv_at hl 0 rfl) ?_
    refine fl_get (j := 2) (v := .ref (Γ.1 (t0 + 1))) C hP (fe_T h0) (fD_lt h0) rfl inX5 (Nat.le_of_ble_eq_true rfl) tw_101 rfl (kd kX5_put_0 14 rfl) ?_
    refine lv_iload_n C.1 C.2.1 (kd kX5_put_0 15 rfl) rfl (lv_at hl 1 rfl) ?_
    refine lv_aload_n C.1 C.2.1 (kd kX5_put_0 16 rfl) rfl (lv_at hl 0 rfl) ?_
    refine fl_get (j := 1) (v := .int (Int32.ofNat w0)) C hP (fe_T h0) (fD_lt h0) rfl inX5 (Nat.le_of_ble_eq_true rfl) tw_100 rfl (kd kX5_put_0 17 rfl) ?_
    refine lv_imul C.1 C.2.1 (kd kX5_put_0 18 rfl) ?_
    refine lv_iload_n C.1 C.2.1 (kd kX5_put_0 19 rfl) rfl (lv_at hl 2 rfl) ?_
    refine lv_iadd C.1 C.2.1 (kd kX5_put_0 20 rfl) ?_
    refine lv_iload_n C.1 C.2.1 (kd kX5_put_0 21 rfl) rfl (lv_at hl 3 rfl) ?_
    obtain ⟨hq, hf⟩ := fb_some hf
    obtain ⟨σ1, eσ1, hf⟩ := fL_some hf
    refine fl_iast C hP hS (fD_tab h0) hq (kd kX5_put_0 22 rfl) (fun H locs hP hS => ?_)
    have hP : fH Γ σ1 H := by rw [eσ1]; exact hP
    exact fl_vret C hP hS hf (kd kX5_put_0 23 rfl)
  have hf := fif_neg q hf
  exact fl_vret C hP hS hf (kd kX5_put_0 12 rfl)
def f_X5_addRow (t0 r0 w0 : Nat) (x1 : Int32) (x2 : Int32) (x3 : Int32) (x4 : Int32) (σ : fS) : Option (Int32 × fS) := fcall (f_X5_isFull t0 r0 w0 σ) (fun r1_ σ1 => (if r1_ = 0 then fL (fu σ1 t0 3 ((σ1 t0 3) + (1 : Int32))) (fun σ2 => fcallv (f_X5_put t0 r0 w0 (σ1 t0 3) (0 : Int32) x1 σ2) (fun σ3 => fcallv (f_X5_put t0 r0 w0 (σ1 t0 3) (1 : Int32) x2 σ3) (fun σ4 => fcallv (f_X5_put t0 r0 w0 (σ1 t0 3) (2 : Int32) x3 σ4) (fun σ5 => fcallv (f_X5_put t0 r0 w0 (σ1 t0 3) (3 : Int32) x4 σ5) (fun σ6 => some ((σ1 t0 3), σ6)))))) else some ((-10003 : Int32), σ1)))
set_option maxRecDepth 100000 in
set_option maxHeartbeats 4000000 in
theorem m_X5_addRow {Γ : fGm} (hI : fI Γ) (l : Launch) {t0 r0 w0 : Nat} {x1 : Int32} {x2 : Int32} {x3 : Int32} {x4 : Int32} (h0 : fD t0 = (2, r0, w0)) {σ : fS} {r : Int32} {σ' : fS} (hf : f_X5_addRow t0 r0 w0 x1 x2 x3 x4 σ = some (r, σ')) : Met l yX5_addRow (.code yX5_addRow cX5_addRow 6 (some .int) :: lw_g) ({ frames := 1, cells := 0, slots := 0, locals := 23 } : Room) (fPre Γ [.ref (Γ.1 t0), .int x1, .int x2, .int x3, .int x4] σ) (fQi Γ r σ') 0 0 (fAd Γ) := by
  refine fl_enter (own := RX5) hI (by decide) rfl (Nat.le_of_ble_eq_true rfl) ?_
  intro p e s m args below meth c ls C hl hP hS
  have hl : lv_has ls 6 [(0, .ref (Γ.1 t0)), (1, .int x1), (2, .int x2), (3, .int x3), (4, .int x4)] := hl
  obtain ⟨H, hH⟩ : ∃ H, H = s.heap := ⟨_, rfl⟩
  obtain ⟨locs, hL⟩ : ∃ L : List Loc, L = [] := ⟨_, rfl⟩
  have hP : fH Γ σ H := by rw [hH]; exact hP
  have hS : va_S (fAd Γ) s.heap H locs := by rw [hH, hL]; exact hS
  suffices hw : W p l e ({ frames := 1, cells := 0, slots := 0, locals := 23 } : Room) s m args below meth c H locs 0 0 (MQ below (fQi Γ r σ') args s 0 0 (fAd Γ)) (F0 m 0 ls []) by rw [hH, hL] at hw; exact hw
  unfold f_X5_addRow at hf
  refine lv_aload_n C.1 C.2.1 (kd kX5_addRow_0 0 rfl) rfl (lv_at hl 0 rfl) ?_
  obtain ⟨r1_, σ1, hσ1, hf⟩ := fcall_some hf
  refine fl_i hS (fl_runV (As := []) (rest := []) C hP (fe_T h0) (fD_lt h0) rfl (m_X5_isFull C.2.2.2.2.2.2.2.2 l h0 hσ1) (fgV tw_340 tw_341 tw_342 tw_69 tw_343) hd_X5_isFull ⟨rfl, rfl, Nat.le_of_ble_eq_true rfl, Nat.le_of_ble_eq_true rfl⟩ rfl hl.1 rfl (Nat.le_of_ble_eq_true rfl) (kd kX5_addRow_0 1 rfl)) (fun H locs hP hS => ?_)
  refine lv_if_eq (tgt := 11) C.1 C.2.1 (kd kX5_addRow_0 2 rfl) (by decide) (fun q => ?_) (fun q => ?_)
  · have hf := fif_pos q hf
    refine lv_aload_n C.1 C.2.1 (kd kX5_addRow_0 5 rfl) rfl (lv_at hl 0 rfl) ?_
    refine fl_get (j := 3) (v := .int (σ1 t0 3)) C hP (fe_T h0) (fD_lt h0) rfl inX5 (Nat.le_of_ble_eq_true rfl) tw_102 rfl (kd kX5_addRow_0 6 rfl) ?_
    refine lv_istore (lv' := [(5, .int (σ1 t0 3)), (0, .ref (Γ.1 t0)), (1, .int x1), (2, .int x2), (3, .int x3), (4, .int x4)]) C.1 C.2.1 (kd kX5_addRow_0 7 rfl) hl (Nat.le_of_ble_eq_true rfl) rfl (fun ls hl => ?_)
    refine lv_aload_n C.1 C.2.1 (kd kX5_addRow_0 8 rfl) rfl (lv_at hl 1 rfl) ?_
    refine lv_dup C.1 C.2.1 (kd kX5_addRow_0 9 rfl) rfl ?_
    refine fl_get (j := 3) (v := .int (σ1 t0 3)) C hP (fe_T h0) (fD_lt h0) rfl inX5 (Nat.le_of_ble_eq_true rfl) tw_102 rfl (kd kX5_addRow_0 10 rfl) ?_
    refine lv_iconst (v := (1 : Int32)) C.1 C.2.1 (kd kX5_addRow_0 11 rfl) (by decide) ?_
    refine lv_iadd C.1 C.2.1 (kd kX5_addRow_0 12 rfl) ?_
    obtain ⟨σ2, eσ2, hf⟩ := fL_some hf
    refine fl_put (j := 3) C hP hS (fe_T h0) (fe_T h0) (fD_lt h0) rfl inX5 tyX5 tyX5_ok nmX5 (Nat.le_of_ble_eq_true rfl) tw_102 rfl rfl rfl (Nat.le_of_ble_eq_true rfl) (kd kX5_addRow_0 13 rfl) (fun H locs hP hS => ?_)
    have hP : fH Γ σ2 H := by rw [eσ2]; exact hP
    refine lv_aload_n C.1 C.2.1 (kd kX5_addRow_0 14 rfl) rfl (lv_at hl 1 rfl) ?_
    refine lv_iload C.1 C.2.1 (kd kX5_addRow_0 15 rfl) (lv_at hl 0 rfl) ?_
    refine lv_iconst (v := (0 : Int32)) C.1 C.2.1 (kd kX5_addRow_0 16 rfl) (by decide) ?_
    refine lv_iload_n C.1 C.2.1 (kd kX5_addRow_0 17 rfl) rfl (lv_at hl 2 rfl) ?_
    obtain ⟨σ3, hσ3, hf⟩ := fcallv_some hf
    refine fl_v hS (fl_runV (As := [.int (σ1 t0 3), .int (0 : Int32), .int x1]) (rest := []) C hP (fe_T h0) (fD_lt h0) rfl (m_X5_put C.2.2.2.2.2.2.2.2 l h0 hσ3) (fgV tw_344 tw_276 tw_277 tw_69 tw_278) hd_X5_put ⟨rfl, rfl, Nat.le_of_ble_eq_true rfl, Nat.le_of_ble_eq_true rfl⟩ rfl hl.1 rfl (Nat.le_of_ble_eq_true rfl) (kd kX5_addRow_0 18 rfl)) (fun H locs hP hS => ?_)
    refine lv_aload_n C.1 C.2.1 (kd kX5_addRow_0 19 rfl) rfl (lv_at hl 1 rfl) ?_
    refine lv_iload C.1 C.2.1 (kd kX5_addRow_0 20 rfl) (lv_at hl 0 rfl) ?_
    refine lv_iconst (v := (1 : Int32)) C.1 C.2.1 (kd kX5_addRow_0 21 rfl) (by decide) ?_
    refine lv_iload_n C.1 C.2.1 (kd kX5_addRow_0 22 rfl) rfl (lv_at hl 3 rfl) ?_
    obtain ⟨σ4, hσ4, hf⟩ := fcallv_some hf
    refine fl_v hS (fl_runV (As := [.int (σ1 t0 3), .int (1 : Int32), .int x2]) (rest := []) C hP (fe_T h0) (fD_lt h0) rfl (m_X5_put C.2.2.2.2.2.2.2.2 l h0 hσ4) (fgV tw_344 tw_276 tw_277 tw_69 tw_278) hd_X5_put ⟨rfl, rfl, Nat.le_of_ble_eq_true rfl, Nat.le_of_ble_eq_true rfl⟩ rfl hl.1 rfl (Nat.le_of_ble_eq_true rfl) (kd kX5_addRow_0 23 rfl)) (fun H locs hP hS => ?_)
    refine lv_aload_n C.1 C.2.1 (kd kX5_addRow_0 24 rfl) rfl (lv_at hl 1 rfl) ?_
    refine lv_iload C.1 C.2.1 (kd kX5_addRow_0 25 rfl) (lv_at hl 0 rfl) ?_
    refine lv_iconst (v := (2 : Int32)) C.1 C.2.1 (kd kX5_addRow_0 26 rfl) (by decide) ?_
    refine lv_iload_n C.1 C.2.1 (kd kX5_addRow_0 27 rfl) rfl (lv_at hl 4 rfl) ?_
    obtain ⟨σ5, hσ5, hf⟩ := fcallv_some hf
    refine fl_v hS (fl_runV (As := [.int (σ1 t0 3), .int (2 : Int32), .int x3]) (rest := []) C hP (fe_T h0) (fD_lt h0) rfl (m_X5_put C.2.2.2.2.2.2.2.2 l h0 hσ5) (fgV tw_344 tw_276 tw_277 tw_69 tw_278) hd_X5_put ⟨rfl, rfl, Nat.le_of_ble_eq_true rfl, Nat.le_of_ble_eq_true rfl⟩ rfl hl.1 rfl (Nat.le_of_ble_eq_true rfl) (kd kX5_addRow_0 28 rfl)) (fun H locs hP hS => ?_)
    refine lv_aload_n C.1 C.2.1 (kd kX5_addRow_0 29 rfl) rfl (lv_at hl 1 rfl) ?_
    refine lv_iload C.1 C.2.1 (kd kX5_addRow_0 30 rfl) (lv_at hl 0 rfl) ?_
    refine lv_iconst (v := (3 : Int32)) C.1 C.2.1 (kd kX5_addRow_0 31 rfl) (by decide) ?_
    refine lv_iload C.1 C.2.1 (kd kX5_addRow_0 32 rfl) (lv_at hl 5 rfl) ?_
    obtain ⟨σ6, hσ6, hf⟩ := fcallv_some hf
    refine fl_v hS (fl_runV (As := [.int (σ1 t0 3), .int (3 : Int32), .int x4]) (rest := []) C hP (fe_T h0) (fD_lt h0) rfl (m_X5_put C.2.2.2.2.2.2.2.2 l h0 hσ6) (fgV tw_344 tw_276 tw_277 tw_69 tw_278) hd_X5_put ⟨rfl, rfl, Nat.le_of_ble_eq_true rfl, Nat.le_of_ble_eq_true rfl⟩ rfl hl.1 rfl (Nat.le_of_ble_eq_true rfl) (kd kX5_addRow_0 33 rfl)) (fun H locs hP hS => ?_)
    refine lv_iload C.1 C.2.1 (kd kX5_addRow_0 34 rfl) (lv_at hl 0 rfl) ?_
    exact fl_iret C hP hS hf (kd kX5_addRow_0 35 rfl)
  have hf := fif_neg q hf
  refine lv_sipush (v := (-10003 : Int32)) C.1 C.2.1 (kd kX5_addRow_0 3 rfl) (by decide) ?_
  exact fl_iret C hP hS hf (kd kX5_addRow_0 4 rfl)
def f_X5_has (t0 r0 w0 : Nat) (x1 : Int32) (σ : fS) : Option (Int32 × fS) := (if x1 < 0 then some ((0 : Int32), σ) else (if (σ t0 3) ≤ x1 then some ((0 : Int32), σ) else some ((1 : Int32), σ)))
set_option maxRecDepth 100000 in
set_option maxHeartbeats 4000000 in
theorem m_X5_has {Γ : fGm} (hI : fI Γ) (l : Launch) {t0 r0 w0 : Nat} {x1 : Int32} (h0 : fD t0 = (2, r0, w0)) {σ : fS} {r : Int32} {σ' : fS} (hf : f_X5_has t0 r0 w0 x1 σ = some (r, σ')) : Met l yX5_has (.code yX5_has cX5_has 2 (some .boolean) :: lw_g) ({ frames := 0, cells := 0, slots := 0, locals := 0 } : Room) (fPre Γ [.ref (Γ.1 t0), .int x1] σ) (fQi Γ r σ') 0 0 (fAd Γ) := by
  refine fl_enter (own := RX5) hI (by decide) rfl (Nat.le_of_ble_eq_true rfl) ?_
  intro p e s m args below meth c ls C hl hP hS
  have hl : lv_has ls 2 [(0, .ref (Γ.1 t0)), (1, .int x1)] := hl
  obtain ⟨H, hH⟩ : ∃ H, H = s.heap := ⟨_, rfl⟩
  obtain ⟨locs, hL⟩ : ∃ L : List Loc, L = [] := ⟨_, rfl⟩
  have hP : fH Γ σ H := by rw [hH]; exact hP
  have hS : va_S (fAd Γ) s.heap H locs := by rw [hH, hL]; exact hS
  suffices hw : W p l e ({ frames := 0, cells := 0, slots := 0, locals := 0 } : Room) s m args below meth c H locs 0 0 (MQ below (fQi Γ r σ') args s 0 0 (fAd Γ)) (F0 m 0 ls []) by rw [hH, hL] at hw; exact hw
  unfold f_X5_has at hf
  refine lv_iload_n C.1 C.2.1 (kd kX5_has_0 0 rfl) rfl (lv_at hl 1 rfl) ?_
  refine lv_if_lt (tgt := 16) C.1 C.2.1 (kd kX5_has_0 1 rfl) (by decide) (fun q => ?_) (fun q => ?_)
  · have hf := fif_pos q hf
    refine lv_iconst (v := (0 : Int32)) C.1 C.2.1 (kd kX5_has_0 8 rfl) (by decide) ?_
    exact fl_zret C hP hS rfl hf (kd kX5_has_0 9 rfl)
  have hf := fif_neg q hf
  refine lv_iload_n C.1 C.2.1 (kd kX5_has_0 2 rfl) rfl (lv_at hl 1 rfl) ?_
  refine lv_aload_n C.1 C.2.1 (kd kX5_has_0 3 rfl) rfl (lv_at hl 0 rfl) ?_
  refine fl_get (j := 3) (v := .int (σ t0 3)) C hP (fe_T h0) (fD_lt h0) rfl inX5 (Nat.le_of_ble_eq_true rfl) tw_102 rfl (kd kX5_has_0 4 rfl) ?_
  refine lv_icmp_ge (tgt := 16) C.1 C.2.1 (kd kX5_has_0 5 rfl) (by decide) (fun q => ?_) (fun q => ?_)
  · have hf := fif_pos q hf
    refine lv_iconst (v := (0 : Int32)) C.1 C.2.1 (kd kX5_has_0 8 rfl) (by decide) ?_
    exact fl_zret C hP hS rfl hf (kd kX5_has_0 9 rfl)
  have hf := fif_neg q hf
  refine lv_iconst (v := (1 : Int32)) C.1 C.2.1 (kd kX5_has_0 6 rfl) (by decide) ?_
  refine lv_goto (tgt := 17) C.1 C.2.1 (kd kX5_has_0 7 rfl) (by decide) ?_
  exact fl_zret C hP hS rfl hf (kd kX5_has_0 9 rfl)
def f_X5_removeRow_b16 (t0 r0 w0 : Nat) : Nat → Int32 → fS → Option (fS)
  | 0, _, _ => none
  | n_ + 1, v2, σ => (if (((σ t0 3) - (1 : Int32)) * (Int32.ofNat w0)) ≤ v2 then fL (fu σ t0 3 ((σ t0 3) - (1 : Int32))) (fun σ1 => some σ1) else fb (v2 + (Int32.ofNat w0)) (r0 * w0) (fb v2 (r0 * w0) (fL (fu σ (t0 + 1) v2.toNatClampNeg (σ (t0 + 1) (v2 + (Int32.ofNat w0)).toNatClampNeg)) (fun σ2 => (fun v2 σ => f_X5_removeRow_b16 t0 r0 w0 n_ v2 σ) ((v2 + (1 : Int32))) σ2))))
set_option maxRecDepth 100000 in
set_option maxHeartbeats 4000000 in
theorem w_X5_removeRow_b16 {t0 r0 w0 : Nat} {σ' : fS} (h0 : fD t0 = (2, r0, w0))  (C : fC Γ p s m args meth c cX5_removeRow none RX5 3) : ∀ (n_ : Nat) (v2 : Int32) (σ : fS) (H : Heap) (locs : List Loc) (ls : Array Slot), f_X5_removeRow_b16 t0 r0 w0 n_ v2 σ = some σ' → fH Γ σ H → va_S (fAd Γ) s.heap H locs → lv_has ls 3 [(0, .ref (Γ.1 t0)), (2, .int v2)] → W p l e ({ frames := 1, cells := 0, slots := 0, locals := 21 } : Room) s m args below meth c H locs 0 0 (MQ below (fQv Γ σ') args s 0 0 (fAd Γ)) (F0 m 16 ls []) := by
  intro n_
  induction n_ with
  | zero =>
    intro v2 σ H locs ls hf
    cases hf
  | succ n_ ih =>
    intro v2 σ H locs ls hf hP hS hl
    have hf : (if (((σ t0 3) - (1 : Int32)) * (Int32.ofNat w0)) ≤ v2 then fL (fu σ t0 3 ((σ t0 3) - (1 : Int32))) (fun σ1 => some σ1) else fb (v2 + (Int32.ofNat w0)) (r0 * w0) (fb v2 (r0 * w0) (fL (fu σ (t0 + 1) v2.toNatClampNeg (σ (t0 + 1) (v2 + (Int32.ofNat w0)).toNatClampNeg)) (fun σ2 => (fun v2 σ => f_X5_removeRow_b16 t0 r0 w0 n_ v2 σ) ((v2 + (1 : Int32))) σ2)))) = some σ' := hf
    have hK16 := ih
    refine lv_iload_n C.1 C.2.1 (kd kX5_removeRow_0 10 rfl) rfl (lv_at hl 1 rfl) ?_
    refine lv_aload_n C.1 C.2.1 (kd kX5_removeRow_0 11 rfl) rfl (lv_at hl 0 rfl) ?_
    refine fl_get (j := 3) (v := .int (σ t0 3)) C hP (fe_T h0) (fD_lt h0) rfl inX5 (Nat.le_of_ble_eq_true rfl) tw_102 rfl (kd kX5_removeRow_0 12 rfl) ?_
    refine lv_iconst (v := (1 : Int32)) C.1 C.2.1 (kd kX5_removeRow_0 13 rfl) (by decide) ?_
    refine lv_isub C.1 C.2.1 (kd kX5_removeRow_0 14 rfl) ?_
    refine lv_aload_n C.1 C.2.1 (kd kX5_removeRow_0 15 rfl) rfl (lv_at hl 0 rfl) ?_
    refine fl_get (j := 1) (v := .int (Int32.ofNat w0)) C hP (fe_T h0) (fD_lt h0) rfl inX5 (Nat.le_of_ble_eq_true rfl) tw_100 rfl (kd kX5_removeRow_0 16 rfl) ?_
    refine lv_imul C.1 C.2.1 (kd kX5_removeRow_0 17 rfl) ?_
    refine lv_icmp_ge (tgt := 54) C.1 C.2.1 (kd kX5_removeRow_0 18 rfl) (by decide) (fun q => ?_) (fun q => ?_)
    · have hf := fif_pos q hf
      refine lv_aload_n C.1 C.2.1 (kd kX5_removeRow_0 32 rfl) rfl (lv_at hl 0 rfl) ?_
      refine lv_dup C.1 C.2.1 (kd kX5_removeRow_0 33 rfl) rfl ?_
      refine fl_get (j := 3) (v := .int (σ t0 3)) C hP (fe_T h0) (fD_lt h0) rfl inX5 (Nat.le_of_ble_eq_true rfl) tw_102 rfl (kd kX5_removeRow_0 34 rfl) ?_
      refine lv_iconst (v := (1 : Int32)) C.1 C.2.1 (kd kX5_removeRow_0 35 rfl) (by decide) ?_
      refine lv_isub C.1 C.2.1 (kd kX5_removeRow_0 36 rfl) ?_
      obtain ⟨σ1, eσ1, hf⟩ := fL_some hf
      refine fl_put (j := 3) C hP hS (fe_T h0) (fe_T h0) (fD_lt h0) rfl inX5 tyX5 tyX5_ok nmX5 (Nat.le_of_ble_eq_true rfl) tw_102 rfl rfl rfl (Nat.le_of_ble_eq_true rfl) (kd kX5_removeRow_0 37 rfl) (fun H locs hP hS => ?_)
      have hP : fH Γ σ1 H := by rw [eσ1]; exact hP
      exact fl_vret C hP hS hf (kd kX5_removeRow_0 38 rfl)
    have hf := fif_neg q hf
    refine lv_aload_n C.1 C.2.1 (kd kX5_removeRow_0 19 rfl) rfl (lv_at hl 0 rfl) ?_
    refine fl_get (j := 2) (v := .ref (Γ.1 (t0 + 1))) C hP (fe_T h0) (fD_lt h0) rfl inX5 (Nat.le_of_ble_eq_true rfl) tw_101 rfl (kd kX5_removeRow_0 20 rfl) ?_
    refine lv_iload_n C.1 C.2.1 (kd kX5_removeRow_0 21 rfl) rfl (lv_at hl 1 rfl) ?_
    refine lv_aload_n C.1 C.2.1 (kd kX5_removeRow_0 22 rfl) rfl (lv_at hl 0 rfl) ?_
    refine fl_get (j := 2) (v := .ref (Γ.1 (t0 + 1))) C hP (fe_T h0) (fD_lt h0) rfl inX5 (Nat.le_of_ble_eq_true rfl) tw_101 rfl (kd kX5_removeRow_0 23 rfl) ?_
    refine lv_iload_n C.1 C.2.1 (kd kX5_removeRow_0 24 rfl) rfl (lv_at hl 1 rfl) ?_
    refine lv_aload_n C.1 C.2.1 (kd kX5_removeRow_0 25 rfl) rfl (lv_at hl 0 rfl) ?_
    refine fl_get (j := 1) (v := .int (Int32.ofNat w0)) C hP (fe_T h0) (fD_lt h0) rfl inX5 (Nat.le_of_ble_eq_true rfl) tw_100 rfl (kd kX5_removeRow_0 26 rfl) ?_
    refine lv_iadd C.1 C.2.1 (kd kX5_removeRow_0 27 rfl) ?_
    obtain ⟨hq, hf⟩ := fb_some hf
    refine fl_iald C hP (fD_tab h0) hq (kd kX5_removeRow_0 28 rfl) ?_
    obtain ⟨hq, hf⟩ := fb_some hf
    obtain ⟨σ2, eσ2, hf⟩ := fL_some hf
    refine fl_iast C hP hS (fD_tab h0) hq (kd kX5_removeRow_0 29 rfl) (fun H locs hP hS => ?_)
    have hP : fH Γ σ2 H := by rw [eσ2]; exact hP
    refine lv_iinc (v := (v2 + (1 : Int32))) (lv' := [(2, .int (v2 + (1 : Int32))), (0, .ref (Γ.1 t0))]) C.1 C.2.1 (kd kX5_removeRow_0 30 rfl) hl (k := 1) rfl rfl (Nat.le_of_ble_eq_true rfl) rfl (fun ls hl => ?_)
    refine lv_goto (tgt := 16) C.1 C.2.1 (kd kX5_removeRow_0 31 rfl) (by decide) ?_
    exact hK16 ((v2 + (1 : Int32))) σ2 H locs ls hf hP hS (lv_sub hl [1, 0] rfl)
def f_X5_removeRow (t0 r0 w0 : Nat) (x1 : Int32) (σ : fS) : Option (fS) := fcall (f_X5_has t0 r0 w0 x1 σ) (fun r1_ σ1 => (if r1_ = 0 then some σ1 else f_X5_removeRow_b16 t0 r0 w0 fN ((x1 * (Int32.ofNat w0))) σ1))
set_option maxRecDepth 100000 in
set_option maxHeartbeats 4000000 in
theorem m_X5_removeRow {Γ : fGm} (hI : fI Γ) (l : Launch) {t0 r0 w0 : Nat} {x1 : Int32} (h0 : fD t0 = (2, r0, w0)) {σ : fS} {σ' : fS} (hf : f_X5_removeRow t0 r0 w0 x1 σ = some σ') : Met l yX5_removeRow (.code yX5_removeRow cX5_removeRow 3 none :: lw_g) ({ frames := 1, cells := 0, slots := 0, locals := 21 } : Room) (fPre Γ [.ref (Γ.1 t0), .int x1] σ) (fQv Γ σ') 0 0 (fAd Γ) := by
  refine fl_enter (own := RX5) hI (by decide) rfl (Nat.le_of_ble_eq_true rfl) ?_
  intro p e s m args below meth c ls C hl hP hS
  have hl : lv_has ls 3 [(0, .ref (Γ.1 t0)), (1, .int x1)] := hl
  obtain ⟨H, hH⟩ : ∃ H, H = s.heap := ⟨_, rfl⟩
  obtain ⟨locs, hL⟩ : ∃ L : List Loc, L = [] := ⟨_, rfl⟩
  have hP : fH Γ σ H := by rw [hH]; exact hP
  have hS : va_S (fAd Γ) s.heap H locs := by rw [hH, hL]; exact hS
  suffices hw : W p l e ({ frames := 1, cells := 0, slots := 0, locals := 21 } : Room) s m args below meth c H locs 0 0 (MQ below (fQv Γ σ') args s 0 0 (fAd Γ)) (F0 m 0 ls []) by rw [hH, hL] at hw; exact hw
  unfold f_X5_removeRow at hf
  refine lv_aload_n C.1 C.2.1 (kd kX5_removeRow_0 0 rfl) rfl (lv_at hl 0 rfl) ?_
  refine lv_iload_n C.1 C.2.1 (kd kX5_removeRow_0 1 rfl) rfl (lv_at hl 1 rfl) ?_
  obtain ⟨r1_, σ1, hσ1, hf⟩ := fcall_some hf
  refine fl_i hS (fl_runV (As := [.int x1]) (rest := []) C hP (fe_T h0) (fD_lt h0) rfl (m_X5_has C.2.2.2.2.2.2.2.2 l h0 hσ1) (fgV tw_409 tw_378 tw_379 tw_69 tw_380) hd_X5_has ⟨rfl, rfl, Nat.le_of_ble_eq_true rfl, Nat.le_of_ble_eq_true rfl⟩ rfl hl.1 rfl (Nat.le_of_ble_eq_true rfl) (kd kX5_removeRow_0 2 rfl)) (fun H locs hP hS => ?_)
  refine lv_if_ne (tgt := 9) C.1 C.2.1 (kd kX5_removeRow_0 3 rfl) (by decide) (fun q => ?_) (fun q => ?_)
  · have hf := fif_neg q hf
    refine lv_iload_n C.1 C.2.1 (kd kX5_removeRow_0 5 rfl) rfl (lv_at hl 1 rfl) ?_
    refine lv_aload_n C.1 C.2.1 (kd kX5_removeRow_0 6 rfl) rfl (lv_at hl 0 rfl) ?_
    refine fl_get (j := 1) (v := .int (Int32.ofNat w0)) C hP (fe_T h0) (fD_lt h0) rfl inX5 (Nat.le_of_ble_eq_true rfl) tw_100 rfl (kd kX5_removeRow_0 7 rfl) ?_
    refine lv_imul C.1 C.2.1 (kd kX5_removeRow_0 8 rfl) ?_
    refine lv_istore_n (lv' := [(2, .int (x1 * (Int32.ofNat w0))), (0, .ref (Γ.1 t0)), (1, .int x1)]) C.1 C.2.1 (kd kX5_removeRow_0 9 rfl) rfl hl (Nat.le_of_ble_eq_true rfl) rfl (fun ls hl => ?_)
    exact w_X5_removeRow_b16 h0 C fN ((x1 * (Int32.ofNat w0))) σ1 H locs ls hf hP hS (lv_sub hl [1, 0] rfl)
  have hf := fif_pos q hf
  exact fl_vret C hP hS hf (kd kX5_removeRow_0 4 rfl)
def f_X5_clearRows (t0 r0 w0 : Nat) (σ : fS) : Option (fS) := fL (fu σ t0 3 (0 : Int32)) (fun σ1 => some σ1)
set_option maxRecDepth 100000 in
set_option maxHeartbeats 4000000 in
theorem m_X5_clearRows {Γ : fGm} (hI : fI Γ) (l : Launch) {t0 r0 w0 : Nat} (h0 : fD t0 = (2, r0, w0)) {σ : fS} {σ' : fS} (hf : f_X5_clearRows t0 r0 w0 σ = some σ') : Met l yX5_clearRows (.code yX5_clearRows cX5_clearRows 1 none :: lw_g) ({ frames := 0, cells := 0, slots := 0, locals := 0 } : Room) (fPre Γ [.ref (Γ.1 t0)] σ) (fQv Γ σ') 0 0 (fAd Γ) := by
  refine fl_enter (own := RX5) hI (by decide) rfl (Nat.le_of_ble_eq_true rfl) ?_
  intro p e s m args below meth c ls C hl hP hS
  have hl : lv_has ls 1 [(0, .ref (Γ.1 t0))] := hl
  obtain ⟨H, hH⟩ : ∃ H, H = s.heap := ⟨_, rfl⟩
  obtain ⟨locs, hL⟩ : ∃ L : List Loc, L = [] := ⟨_, rfl⟩
  have hP : fH Γ σ H := by rw [hH]; exact hP
  have hS : va_S (fAd Γ) s.heap H locs := by rw [hH, hL]; exact hS
  suffices hw : W p l e ({ frames := 0, cells := 0, slots := 0, locals := 0 } : Room) s m args below meth c H locs 0 0 (MQ below (fQv Γ σ') args s 0 0 (fAd Γ)) (F0 m 0 ls []) by rw [hH, hL] at hw; exact hw
  unfold f_X5_clearRows at hf
  refine lv_aload_n C.1 C.2.1 (kd kX5_clearRows_0 0 rfl) rfl (lv_at hl 0 rfl) ?_
  refine lv_iconst (v := (0 : Int32)) C.1 C.2.1 (kd kX5_clearRows_0 1 rfl) (by decide) ?_
  obtain ⟨σ1, eσ1, hf⟩ := fL_some hf
  refine fl_put (j := 3) C hP hS (fe_T h0) (fe_T h0) (fD_lt h0) rfl inX5 tyX5 tyX5_ok nmX5 (Nat.le_of_ble_eq_true rfl) tw_102 rfl rfl rfl (Nat.le_of_ble_eq_true rfl) (kd kX5_clearRows_0 2 rfl) (fun H locs hP hS => ?_)
  have hP : fH Γ σ1 H := by rw [eσ1]; exact hP
  exact fl_vret C hP hS hf (kd kX5_clearRows_0 3 rfl)
def f_X7_isError (x0 : Int32) (σ : fS) : Option (Int32 × fS) := (if x0 < (-10006 : Int32) then some ((0 : Int32), σ) else (if (-10001 : Int32) < x0 then some ((0 : Int32), σ) else some ((1 : Int32), σ)))
set_option maxRecDepth 100000 in
set_option maxHeartbeats 4000000 in
theorem m_X7_isError {Γ : fGm} (hI : fI Γ) (l : Launch) {x0 : Int32} {σ : fS} {r : Int32} {σ' : fS} (hf : f_X7_isError x0 σ = some (r, σ')) : Met l yX7_isError (.code yX7_isError cX7_isError 1 (some .boolean) :: lw_g) ({ frames := 0, cells := 0, slots := 0, locals := 0 } : Room) (fPre Γ [.int x0] σ) (fQi Γ r σ') 0 0 (fAd Γ) := by
  refine fl_enter (own := RX7) hI (by decide) rfl (Nat.le_of_ble_eq_true rfl) ?_
  intro p e s m args below meth c ls C hl hP hS
  have hl : lv_has ls 1 [(0, .int x0)] := hl
  obtain ⟨H, hH⟩ : ∃ H, H = s.heap := ⟨_, rfl⟩
  obtain ⟨locs, hL⟩ : ∃ L : List Loc, L = [] := ⟨_, rfl⟩
  have hP : fH Γ σ H := by rw [hH]; exact hP
  have hS : va_S (fAd Γ) s.heap H locs := by rw [hH, hL]; exact hS
  suffices hw : W p l e ({ frames := 0, cells := 0, slots := 0, locals := 0 } : Room) s m args below meth c H locs 0 0 (MQ below (fQi Γ r σ') args s 0 0 (fAd Γ)) (F0 m 0 ls []) by rw [hH, hL] at hw; exact hw
  unfold f_X7_isError at hf
  refine lv_iload_n C.1 C.2.1 (kd kX7_isError_0 0 rfl) rfl (lv_at hl 0 rfl) ?_
  refine lv_sipush (v := (-10006 : Int32)) C.1 C.2.1 (kd kX7_isError_0 1 rfl) (by decide) ?_
  refine lv_icmp_lt (tgt := 18) C.1 C.2.1 (kd kX7_isError_0 2 rfl) (by decide) (fun q => ?_) (fun q => ?_)
  · have hf := fif_pos q hf
    refine lv_iconst (v := (0 : Int32)) C.1 C.2.1 (kd kX7_isError_0 8 rfl) (by decide) ?_
    exact fl_zret C hP hS rfl hf (kd kX7_isError_0 9 rfl)
  have hf := fif_neg q hf
  refine lv_iload_n C.1 C.2.1 (kd kX7_isError_0 3 rfl) rfl (lv_at hl 0 rfl) ?_
  refine lv_sipush (v := (-10001 : Int32)) C.1 C.2.1 (kd kX7_isError_0 4 rfl) (by decide) ?_
  refine lv_icmp_gt (tgt := 18) C.1 C.2.1 (kd kX7_isError_0 5 rfl) (by decide) (fun q => ?_) (fun q => ?_)
  · have hf := fif_pos q hf
    refine lv_iconst (v := (0 : Int32)) C.1 C.2.1 (kd kX7_isError_0 8 rfl) (by decide) ?_
    exact fl_zret C hP hS rfl hf (kd kX7_isError_0 9 rfl)
  have hf := fif_neg q hf
  refine lv_iconst (v := (1 : Int32)) C.1 C.2.1 (kd kX7_isError_0 6 rfl) (by decide) ?_
  refine lv_goto (tgt := 19) C.1 C.2.1 (kd kX7_isError_0 7 rfl) (by decide) ?_
  exact fl_zret C hP hS rfl hf (kd kX7_isError_0 9 rfl)
def f_X7_bitsOf_b102 (v2 : Int32) (v3 : Int32) (s0 : Int32) (σ : fS) : Option (Int32 × fS) := some (((s0 ||| (v2 <<< ((23 : Int32) &&& 31))) ||| v3), σ)
set_option maxRecDepth 100000 in
set_option maxHeartbeats 4000000 in
theorem w_X7_bitsOf_b102 {r : Int32} {σ' : fS}  (C : fC Γ p s m args meth c cX7_bitsOf (some .int) RX7 5) : ∀ (v2 : Int32) (v3 : Int32) (s0 : Int32) (σ : fS) (H : Heap) (locs : List Loc) (ls : Array Slot), f_X7_bitsOf_b102 v2 v3 s0 σ = some (r, σ') → fH Γ σ H → va_S (fAd Γ) s.heap H locs → lv_has ls 5 [(2, .int v2), (3, .int v3)] → W p l e ({ frames := 0, cells := 0, slots := 0, locals := 0 } : Room) s m args below meth c H locs 0 0 (MQ below (fQi Γ r σ') args s 0 0 (fAd Γ)) (F0 m 102 ls [.int s0]) := by
  intro v2 v3 s0 σ H locs ls hf hP hS hl
  unfold f_X7_bitsOf_b102 at hf
  refine lv_istore (lv' := [(4, .int s0), (2, .int v2), (3, .int v3)]) C.1 C.2.1 (kd kX7_bitsOf_1 3 rfl) hl (Nat.le_of_ble_eq_true rfl) rfl (fun ls hl => ?_)
  refine lv_iload C.1 C.2.1 (kd kX7_bitsOf_1 4 rfl) (lv_at hl 0 rfl) ?_
  refine lv_iload_n C.1 C.2.1 (kd kX7_bitsOf_1 5 rfl) rfl (lv_at hl 1 rfl) ?_
  refine lv_bipush (v := (23 : Int32)) C.1 C.2.1 (kd kX7_bitsOf_1 6 rfl) (by decide) ?_
  refine lv_ishl C.1 C.2.1 (kd kX7_bitsOf_1 7 rfl) ?_
  refine lv_ior C.1 C.2.1 (kd kX7_bitsOf_1 8 rfl) ?_
  refine lv_iload_n C.1 C.2.1 (kd kX7_bitsOf_1 9 rfl) rfl (lv_at hl 2 rfl) ?_
  refine lv_ior C.1 C.2.1 (kd kX7_bitsOf_1 10 rfl) ?_
  exact fl_iret C hP hS hf (kd kX7_bitsOf_1 11 rfl)
def f_X7_bitsOf_b78 (v0 : UInt32) (v1 : UInt32) (v2 : Int32) (σ : fS) : Option (Int32 × fS) := fg ((FP.fmul v1 (1258291200 : UInt32)) &&& 0x7fffffff ≤ 0x7f800000) ((if 0 ≤ (Op.cmpValue (FP.fcmp v0 FP.fconst0) .g) then f_X7_bitsOf_b102 (v2) (((FP.f2i (FP.fmul v1 (1258291200 : UInt32))) - (8388608 : Int32))) ((0 : Int32)) σ else f_X7_bitsOf_b102 (v2) (((FP.f2i (FP.fmul v1 (1258291200 : UInt32))) - (8388608 : Int32))) ((-2147483648 : Int32)) σ))
set_option maxRecDepth 100000 in
set_option maxHeartbeats 4000000 in
theorem w_X7_bitsOf_b78 {r : Int32} {σ' : fS}  (C : fC Γ p s m args meth c cX7_bitsOf (some .int) RX7 5) : ∀ (v0 : UInt32) (v1 : UInt32) (v2 : Int32) (σ : fS) (H : Heap) (locs : List Loc) (ls : Array Slot), f_X7_bitsOf_b78 v0 v1 v2 σ = some (r, σ') → fH Γ σ H → va_S (fAd Γ) s.heap H locs → lv_has ls 5 [(0, .float v0), (1, .float v1), (2, .int v2)] → W p l e ({ frames := 0, cells := 0, slots := 0, locals := 0 } : Room) s m args below meth c H locs 0 0 (MQ below (fQi Γ r σ') args s 0 0 (fAd Γ)) (F0 m 78 ls []) := by
  intro v0 v1 v2 σ H locs ls hf hP hS hl
  unfold f_X7_bitsOf_b78 at hf
  refine lv_fload_n C.1 C.2.1 (kd kX7_bitsOf_0 49 rfl) rfl (lv_at hl 1 rfl) ?_
  refine lv_ldcfw (v := 1258291200) C.1 C.2.1 C.2.2.2.2.1 (C.2.2.2.2.2.1 _ tw_699) (kd kX7_bitsOf_0 50 rfl) ?_
  obtain ⟨hq, hf⟩ := fg_some hf
  refine lv_fmul C.1 C.2.1 (kd kX7_bitsOf_0 51 rfl) hq ?_
  refine lv_f2i C.1 C.2.1 (kd kX7_bitsOf_0 52 rfl) ?_
  refine lv_ldcw C.1 C.2.1 C.2.2.2.2.1 (C.2.2.2.2.2.1 _ tw_700) (kd kX7_bitsOf_0 53 rfl) ?_
  refine lv_isub C.1 C.2.1 (kd kX7_bitsOf_0 54 rfl) ?_
  refine lv_istore_n (lv' := [(3, .int ((FP.f2i (FP.fmul v1 (1258291200 : UInt32))) - (8388608 : Int32))), (0, .float v0), (1, .float v1), (2, .int v2)]) C.1 C.2.1 (kd kX7_bitsOf_0 55 rfl) rfl hl (Nat.le_of_ble_eq_true rfl) rfl (fun ls hl => ?_)
  refine lv_fload_n C.1 C.2.1 (kd kX7_bitsOf_0 56 rfl) rfl (lv_at hl 1 rfl) ?_
  refine lv_fconst0 C.1 C.2.1 (kd kX7_bitsOf_0 57 rfl) ?_
  refine lv_fcmp C.1 C.2.1 (kd kX7_bitsOf_0 58 rfl) ?_
  refine lv_if_ge (tgt := 101) C.1 C.2.1 (kd kX7_bitsOf_0 59 rfl) (by decide) (fun q => ?_) (fun q => ?_)
  · have hf := fif_pos q hf
    refine lv_iconst (v := (0 : Int32)) C.1 C.2.1 (kd kX7_bitsOf_1 2 rfl) (by decide) ?_
    exact w_X7_bitsOf_b102 C (v2) (((FP.f2i (FP.fmul v1 (1258291200 : UInt32))) - (8388608 : Int32))) ((0 : Int32)) σ H locs ls hf hP hS (lv_sub hl [3, 0] rfl)
  have hf := fif_neg q hf
  refine lv_ldcw C.1 C.2.1 C.2.2.2.2.1 (C.2.2.2.2.2.1 _ tw_701) (kd kX7_bitsOf_1 0 rfl) ?_
  refine lv_goto (tgt := 102) C.1 C.2.1 (kd kX7_bitsOf_1 1 rfl) (by decide) ?_
  exact w_X7_bitsOf_b102 C (v2) (((FP.f2i (FP.fmul v1 (1258291200 : UInt32))) - (8388608 : Int32))) ((-2147483648 : Int32)) σ H locs ls hf hP hS (lv_sub hl [3, 0] rfl)
def f_X7_bitsOf_b53 : Nat → UInt32 → UInt32 → Int32 → Int32 → fS → Option (Int32 × fS)
  | 0, _, _, _, _, _ => none
  | n_ + 1, v0, v1, v2, v3, σ => (if (126 : Int32) ≤ v3 then f_X7_bitsOf_b78 (v0) (v1) (v2) σ else (if 0 ≤ (Op.cmpValue (FP.fcmp v1 FP.fconst1) .g) then f_X7_bitsOf_b78 (v0) (v1) (v2) σ else fg ((FP.fmul v1 FP.fconst2) &&& 0x7fffffff ≤ 0x7f800000) ((fun v0 v1 v2 v3 σ => f_X7_bitsOf_b53 n_ v0 v1 v2 v3 σ) (v0) ((FP.fmul v1 FP.fconst2)) ((v2 + (-1 : Int32))) ((v3 + (1 : Int32))) σ)))
set_option maxRecDepth 100000 in
set_option maxHeartbeats 4000000 in
theorem w_X7_bitsOf_b53 {r : Int32} {σ' : fS}  (C : fC Γ p s m args meth c cX7_bitsOf (some .int) RX7 5) : ∀ (n_ : Nat) (v0 : UInt32) (v1 : UInt32) (v2 : Int32) (v3 : Int32) (σ : fS) (H : Heap) (locs : List Loc) (ls : Array Slot), f_X7_bitsOf_b53 n_ v0 v1 v2 v3 σ = some (r, σ') → fH Γ σ H → va_S (fAd Γ) s.heap H locs → lv_has ls 5 [(0, .float v0), (1, .float v1), (2, .int v2), (3, .int v3)] → W p l e ({ frames := 0, cells := 0, slots := 0, locals := 0 } : Room) s m args below meth c H locs 0 0 (MQ below (fQi Γ r σ') args s 0 0 (fAd Γ)) (F0 m 53 ls []) := by
  intro n_
  induction n_ with
  | zero =>
    intro v0 v1 v2 v3 σ H locs ls hf
    cases hf
  | succ n_ ih =>
    intro v0 v1 v2 v3 σ H locs ls hf hP hS hl
    have hf : (if (126 : Int32) ≤ v3 then f_X7_bitsOf_b78 (v0) (v1) (v2) σ else (if 0 ≤ (Op.cmpValue (FP.fcmp v1 FP.fconst1) .g) then f_X7_bitsOf_b78 (v0) (v1) (v2) σ else fg ((FP.fmul v1 FP.fconst2) &&& 0x7fffffff ≤ 0x7f800000) ((fun v0 v1 v2 v3 σ => f_X7_bitsOf_b53 n_ v0 v1 v2 v3 σ) (v0) ((FP.fmul v1 FP.fconst2)) ((v2 + (-1 : Int32))) ((v3 + (1 : Int32))) σ))) = some (r, σ') := hf
    have hK53 := ih
    refine lv_iload_n C.1 C.2.1 (kd kX7_bitsOf_0 35 rfl) rfl (lv_at hl 3 rfl) ?_
    refine lv_bipush (v := (126 : Int32)) C.1 C.2.1 (kd kX7_bitsOf_0 36 rfl) (by decide) ?_
    refine lv_icmp_ge (tgt := 78) C.1 C.2.1 (kd kX7_bitsOf_0 37 rfl) (by decide) (fun q => ?_) (fun q => ?_)
    · have hf := fif_pos q hf
      exact w_X7_bitsOf_b78 C (v0) (v1) (v2) σ H locs ls hf hP hS (lv_sub hl [0, 1, 2] rfl)
    have hf := fif_neg q hf
    refine lv_fload_n C.1 C.2.1 (kd kX7_bitsOf_0 38 rfl) rfl (lv_at hl 1 rfl) ?_
    refine lv_fconst1 C.1 C.2.1 (kd kX7_bitsOf_0 39 rfl) ?_
    refine lv_fcmp C.1 C.2.1 (kd kX7_bitsOf_0 40 rfl) ?_
    refine lv_if_ge (tgt := 78) C.1 C.2.1 (kd kX7_bitsOf_0 41 rfl) (by decide) (fun q => ?_) (fun q => ?_)
    · have hf := fif_pos q hf
      exact w_X7_bitsOf_b78 C (v0) (v1) (v2) σ H locs ls hf hP hS (lv_sub hl [0, 1, 2] rfl)
    have hf := fif_neg q hf
    refine lv_fload_n C.1 C.2.1 (kd kX7_bitsOf_0 42 rfl) rfl (lv_at hl 1 rfl) ?_
    refine lv_fconst2 C.1 C.2.1 (kd kX7_bitsOf_0 43 rfl) ?_
    obtain ⟨hq, hf⟩ := fg_some hf
    refine lv_fmul C.1 C.2.1 (kd kX7_bitsOf_0 44 rfl) hq ?_
    refine lv_fstore_n (lv' := [(1, .float (FP.fmul v1 FP.fconst2)), (0, .float v0), (2, .int v2), (3, .int v3)]) C.1 C.2.1 (kd kX7_bitsOf_0 45 rfl) rfl hl (Nat.le_of_ble_eq_true rfl) rfl (fun ls hl => ?_)
    refine lv_iinc (v := (v2 + (-1 : Int32))) (lv' := [(2, .int (v2 + (-1 : Int32))), (1, .float (FP.fmul v1 FP.fconst2)), (0, .float v0), (3, .int v3)]) C.1 C.2.1 (kd kX7_bitsOf_0 46 rfl) hl (k := 2) rfl rfl (Nat.le_of_ble_eq_true rfl) rfl (fun ls hl => ?_)
    refine lv_iinc (v := (v3 + (1 : Int32))) (lv' := [(3, .int (v3 + (1 : Int32))), (2, .int (v2 + (-1 : Int32))), (1, .float (FP.fmul v1 FP.fconst2)), (0, .float v0)]) C.1 C.2.1 (kd kX7_bitsOf_0 47 rfl) hl (k := 3) rfl rfl (Nat.le_of_ble_eq_true rfl) rfl (fun ls hl => ?_)
    refine lv_goto (tgt := 53) C.1 C.2.1 (kd kX7_bitsOf_0 48 rfl) (by decide) ?_
    exact hK53 (v0) ((FP.fmul v1 FP.fconst2)) ((v2 + (-1 : Int32))) ((v3 + (1 : Int32))) σ H locs ls hf hP hS (lv_sub hl [3, 2, 1, 0] rfl)
def f_X7_bitsOf_b51 (v0 : UInt32) (v1 : UInt32) (v2 : Int32) (σ : fS) : Option (Int32 × fS) := f_X7_bitsOf_b53 fN (v0) (v1) (v2) ((0 : Int32)) σ
set_option maxRecDepth 100000 in
set_option maxHeartbeats 4000000 in
theorem w_X7_bitsOf_b51 {r : Int32} {σ' : fS}  (C : fC Γ p s m args meth c cX7_bitsOf (some .int) RX7 5) : ∀ (v0 : UInt32) (v1 : UInt32) (v2 : Int32) (σ : fS) (H : Heap) (locs : List Loc) (ls : Array Slot), f_X7_bitsOf_b51 v0 v1 v2 σ = some (r, σ') → fH Γ σ H → va_S (fAd Γ) s.heap H locs → lv_has ls 5 [(0, .float v0), (1, .float v1), (2, .int v2)] → W p l e ({ frames := 0, cells := 0, slots := 0, locals := 0 } : Room) s m args below meth c H locs 0 0 (MQ below (fQi Γ r σ') args s 0 0 (fAd Γ)) (F0 m 51 ls []) := by
  intro v0 v1 v2 σ H locs ls hf hP hS hl
  unfold f_X7_bitsOf_b51 at hf
  refine lv_iconst (v := (0 : Int32)) C.1 C.2.1 (kd kX7_bitsOf_0 33 rfl) (by decide) ?_
  refine lv_istore_n (lv' := [(3, .int (0 : Int32)), (0, .float v0), (1, .float v1), (2, .int v2)]) C.1 C.2.1 (kd kX7_bitsOf_0 34 rfl) rfl hl (Nat.le_of_ble_eq_true rfl) rfl (fun ls hl => ?_)
  exact w_X7_bitsOf_b53 C fN (v0) (v1) (v2) ((0 : Int32)) σ H locs ls hf hP hS (lv_sub hl [1, 2, 3, 0] rfl)
def f_X7_bitsOf_b26 : Nat → UInt32 → UInt32 → Int32 → Int32 → fS → Option (Int32 × fS)
  | 0, _, _, _, _, _ => none
  | n_ + 1, v0, v1, v2, v3, σ => (if (127 : Int32) ≤ v3 then f_X7_bitsOf_b51 (v0) (v1) (v2) σ else (if (Op.cmpValue (FP.fcmp v1 FP.fconst2) .l) < 0 then f_X7_bitsOf_b51 (v0) (v1) (v2) σ else fg ((FP.fdiv v1 FP.fconst2) &&& 0x7fffffff ≤ 0x7f800000) ((fun v0 v1 v2 v3 σ => f_X7_bitsOf_b26 n_ v0 v1 v2 v3 σ) (v0) ((FP.fdiv v1 FP.fconst2)) ((v2 + (1 : Int32))) ((v3 + (1 : Int32))) σ)))
set_option maxRecDepth 100000 in
set_option maxHeartbeats 4000000 in
theorem w_X7_bitsOf_b26 {r : Int32} {σ' : fS}  (C : fC Γ p s m args meth c cX7_bitsOf (some .int) RX7 5) : ∀ (n_ : Nat) (v0 : UInt32) (v1 : UInt32) (v2 : Int32) (v3 : Int32) (σ : fS) (H : Heap) (locs : List Loc) (ls : Array Slot), f_X7_bitsOf_b26 n_ v0 v1 v2 v3 σ = some (r, σ') → fH Γ σ H → va_S (fAd Γ) s.heap H locs → lv_has ls 5 [(0, .float v0), (1, .float v1), (2, .int v2), (3, .int v3)] → W p l e ({ frames := 0, cells := 0, slots := 0, locals := 0 } : Room) s m args below meth c H locs 0 0 (MQ below (fQi Γ r σ') args s 0 0 (fAd Γ)) (F0 m 26 ls []) := by
  intro n_
  induction n_ with
  | zero =>
    intro v0 v1 v2 v3 σ H locs ls hf
    cases hf
  | succ n_ ih =>
    intro v0 v1 v2 v3 σ H locs ls hf hP hS hl
    have hf : (if (127 : Int32) ≤ v3 then f_X7_bitsOf_b51 (v0) (v1) (v2) σ else (if (Op.cmpValue (FP.fcmp v1 FP.fconst2) .l) < 0 then f_X7_bitsOf_b51 (v0) (v1) (v2) σ else fg ((FP.fdiv v1 FP.fconst2) &&& 0x7fffffff ≤ 0x7f800000) ((fun v0 v1 v2 v3 σ => f_X7_bitsOf_b26 n_ v0 v1 v2 v3 σ) (v0) ((FP.fdiv v1 FP.fconst2)) ((v2 + (1 : Int32))) ((v3 + (1 : Int32))) σ))) = some (r, σ') := hf
    have hK26 := ih
    refine lv_iload_n C.1 C.2.1 (kd kX7_bitsOf_0 19 rfl) rfl (lv_at hl 3 rfl) ?_
    refine lv_bipush (v := (127 : Int32)) C.1 C.2.1 (kd kX7_bitsOf_0 20 rfl) (by decide) ?_
    refine lv_icmp_ge (tgt := 51) C.1 C.2.1 (kd kX7_bitsOf_0 21 rfl) (by decide) (fun q => ?_) (fun q => ?_)
    · have hf := fif_pos q hf
      exact w_X7_bitsOf_b51 C (v0) (v1) (v2) σ H locs ls hf hP hS (lv_sub hl [0, 1, 2] rfl)
    have hf := fif_neg q hf
    refine lv_fload_n C.1 C.2.1 (kd kX7_bitsOf_0 22 rfl) rfl (lv_at hl 1 rfl) ?_
    refine lv_fconst2 C.1 C.2.1 (kd kX7_bitsOf_0 23 rfl) ?_
    refine lv_fcmp C.1 C.2.1 (kd kX7_bitsOf_0 24 rfl) ?_
    refine lv_if_lt (tgt := 51) C.1 C.2.1 (kd kX7_bitsOf_0 25 rfl) (by decide) (fun q => ?_) (fun q => ?_)
    · have hf := fif_pos q hf
      exact w_X7_bitsOf_b51 C (v0) (v1) (v2) σ H locs ls hf hP hS (lv_sub hl [0, 1, 2] rfl)
    have hf := fif_neg q hf
    refine lv_fload_n C.1 C.2.1 (kd kX7_bitsOf_0 26 rfl) rfl (lv_at hl 1 rfl) ?_
    refine lv_fconst2 C.1 C.2.1 (kd kX7_bitsOf_0 27 rfl) ?_
    obtain ⟨hq, hf⟩ := fg_some hf
    refine lv_fdiv C.1 C.2.1 (kd kX7_bitsOf_0 28 rfl) hq ?_
    refine lv_fstore_n (lv' := [(1, .float (FP.fdiv v1 FP.fconst2)), (0, .float v0), (2, .int v2), (3, .int v3)]) C.1 C.2.1 (kd kX7_bitsOf_0 29 rfl) rfl hl (Nat.le_of_ble_eq_true rfl) rfl (fun ls hl => ?_)
    refine lv_iinc (v := (v2 + (1 : Int32))) (lv' := [(2, .int (v2 + (1 : Int32))), (1, .float (FP.fdiv v1 FP.fconst2)), (0, .float v0), (3, .int v3)]) C.1 C.2.1 (kd kX7_bitsOf_0 30 rfl) hl (k := 2) rfl rfl (Nat.le_of_ble_eq_true rfl) rfl (fun ls hl => ?_)
    refine lv_iinc (v := (v3 + (1 : Int32))) (lv' := [(3, .int (v3 + (1 : Int32))), (2, .int (v2 + (1 : Int32))), (1, .float (FP.fdiv v1 FP.fconst2)), (0, .float v0)]) C.1 C.2.1 (kd kX7_bitsOf_0 31 rfl) hl (k := 3) rfl rfl (Nat.le_of_ble_eq_true rfl) rfl (fun ls hl => ?_)
    refine lv_goto (tgt := 26) C.1 C.2.1 (kd kX7_bitsOf_0 32 rfl) (by decide) ?_
    exact hK26 (v0) ((FP.fdiv v1 FP.fconst2)) ((v2 + (1 : Int32))) ((v3 + (1 : Int32))) σ H locs ls hf hP hS (lv_sub hl [3, 2, 1, 0] rfl)
def f_X7_bitsOf_b20 (v0 : UInt32) (s0 : UInt32) (σ : fS) : Option (Int32 × fS) := f_X7_bitsOf_b26 fN (v0) (s0) ((127 : Int32)) ((0 : Int32)) σ
set_option maxRecDepth 100000 in
set_option maxHeartbeats 4000000 in
theorem w_X7_bitsOf_b20 {r : Int32} {σ' : fS}  (C : fC Γ p s m args meth c cX7_bitsOf (some .int) RX7 5) : ∀ (v0 : UInt32) (s0 : UInt32) (σ : fS) (H : Heap) (locs : List Loc) (ls : Array Slot), f_X7_bitsOf_b20 v0 s0 σ = some (r, σ') → fH Γ σ H → va_S (fAd Γ) s.heap H locs → lv_has ls 5 [(0, .float v0)] → W p l e ({ frames := 0, cells := 0, slots := 0, locals := 0 } : Room) s m args below meth c H locs 0 0 (MQ below (fQi Γ r σ') args s 0 0 (fAd Γ)) (F0 m 20 ls [.float s0]) := by
  intro v0 s0 σ H locs ls hf hP hS hl
  unfold f_X7_bitsOf_b20 at hf
  refine lv_fstore_n (lv' := [(1, .float s0), (0, .float v0)]) C.1 C.2.1 (kd kX7_bitsOf_0 14 rfl) rfl hl (Nat.le_of_ble_eq_true rfl) rfl (fun ls hl => ?_)
  refine lv_bipush (v := (127 : Int32)) C.1 C.2.1 (kd kX7_bitsOf_0 15 rfl) (by decide) ?_
  refine lv_istore_n (lv' := [(2, .int (127 : Int32)), (1, .float s0), (0, .float v0)]) C.1 C.2.1 (kd kX7_bitsOf_0 16 rfl) rfl hl (Nat.le_of_ble_eq_true rfl) rfl (fun ls hl => ?_)
  refine lv_iconst (v := (0 : Int32)) C.1 C.2.1 (kd kX7_bitsOf_0 17 rfl) (by decide) ?_
  refine lv_istore_n (lv' := [(3, .int (0 : Int32)), (2, .int (127 : Int32)), (1, .float s0), (0, .float v0)]) C.1 C.2.1 (kd kX7_bitsOf_0 18 rfl) rfl hl (Nat.le_of_ble_eq_true rfl) rfl (fun ls hl => ?_)
  exact w_X7_bitsOf_b26 C fN (v0) (s0) ((127 : Int32)) ((0 : Int32)) σ H locs ls hf hP hS (lv_sub hl [3, 2, 1, 0] rfl)
def f_X7_bitsOf (y0 : UInt32) (σ : fS) : Option (Int32 × fS) := (if (Op.cmpValue (FP.fcmp y0 FP.fconst0) .l) = 0 then some ((0 : Int32), σ) else (if 0 ≤ (Op.cmpValue (FP.fcmp y0 FP.fconst0) .g) then f_X7_bitsOf_b20 (y0) (y0) σ else f_X7_bitsOf_b20 (y0) ((FP.fneg y0)) σ))
set_option maxRecDepth 100000 in
set_option maxHeartbeats 4000000 in
theorem m_X7_bitsOf {Γ : fGm} (hI : fI Γ) (l : Launch) {y0 : UInt32} {σ : fS} {r : Int32} {σ' : fS} (hf : f_X7_bitsOf y0 σ = some (r, σ')) : Met l yX7_bitsOf (.code yX7_bitsOf cX7_bitsOf 5 (some .int) :: lw_g) ({ frames := 0, cells := 0, slots := 0, locals := 0 } : Room) (fPre Γ [.float y0] σ) (fQi Γ r σ') 0 0 (fAd Γ) := by
  refine fl_enter (own := RX7) hI (by decide) rfl (Nat.le_of_ble_eq_true rfl) ?_
  intro p e s m args below meth c ls C hl hP hS
  have hl : lv_has ls 5 [(0, .float y0)] := hl
  obtain ⟨H, hH⟩ : ∃ H, H = s.heap := ⟨_, rfl⟩
  obtain ⟨locs, hL⟩ : ∃ L : List Loc, L = [] := ⟨_, rfl⟩
  have hP : fH Γ σ H := by rw [hH]; exact hP
  have hS : va_S (fAd Γ) s.heap H locs := by rw [hH, hL]; exact hS
  suffices hw : W p l e ({ frames := 0, cells := 0, slots := 0, locals := 0 } : Room) s m args below meth c H locs 0 0 (MQ below (fQi Γ r σ') args s 0 0 (fAd Γ)) (F0 m 0 ls []) by rw [hH, hL] at hw; exact hw
  unfold f_X7_bitsOf at hf
  refine lv_fload_n C.1 C.2.1 (kd kX7_bitsOf_0 0 rfl) rfl (lv_at hl 0 rfl) ?_
  refine lv_fconst0 C.1 C.2.1 (kd kX7_bitsOf_0 1 rfl) ?_
  refine lv_fcmp C.1 C.2.1 (kd kX7_bitsOf_0 2 rfl) ?_
  refine lv_if_ne (tgt := 8) C.1 C.2.1 (kd kX7_bitsOf_0 3 rfl) (by decide) (fun q => ?_) (fun q => ?_)
  · have hf := fif_neg q hf
    refine lv_fload_n C.1 C.2.1 (kd kX7_bitsOf_0 6 rfl) rfl (lv_at hl 0 rfl) ?_
    refine lv_fconst0 C.1 C.2.1 (kd kX7_bitsOf_0 7 rfl) ?_
    refine lv_fcmp C.1 C.2.1 (kd kX7_bitsOf_0 8 rfl) ?_
    refine lv_if_ge (tgt := 19) C.1 C.2.1 (kd kX7_bitsOf_0 9 rfl) (by decide) (fun q => ?_) (fun q => ?_)
    · have hf := fif_pos q hf
      refine lv_fload_n C.1 C.2.1 (kd kX7_bitsOf_0 13 rfl) rfl (lv_at hl 0 rfl) ?_
      exact w_X7_bitsOf_b20 C (y0) (y0) σ H locs ls hf hP hS (lv_sub hl [0] rfl)
    have hf := fif_neg q hf
    refine lv_fload_n C.1 C.2.1 (kd kX7_bitsOf_0 10 rfl) rfl (lv_at hl 0 rfl) ?_
    refine lv_fneg C.1 C.2.1 (kd kX7_bitsOf_0 11 rfl) ?_
    refine lv_goto (tgt := 20) C.1 C.2.1 (kd kX7_bitsOf_0 12 rfl) (by decide) ?_
    exact w_X7_bitsOf_b20 C (y0) ((FP.fneg y0)) σ H locs ls hf hP hS (lv_sub hl [0] rfl)
  have hf := fif_pos q hf
  refine lv_iconst (v := (0 : Int32)) C.1 C.2.1 (kd kX7_bitsOf_0 4 rfl) (by decide) ?_
  exact fl_iret C hP hS hf (kd kX7_bitsOf_0 5 rfl)
def f_Jxf58ca_isNaN_12338 (y0 : UInt32) (σ : fS) : Option (Int32 × fS) := (if (Op.cmpValue (FP.fcmp y0 y0) .l) = 0 then some ((0 : Int32), σ) else some ((1 : Int32), σ))
set_option maxRecDepth 100000 in
set_option maxHeartbeats 4000000 in
theorem m_Jxf58ca_isNaN_12338 {Γ : fGm} (hI : fI Γ) (l : Launch) {y0 : UInt32} {σ : fS} {r : Int32} {σ' : fS} (hf : f_Jxf58ca_isNaN_12338 y0 σ = some (r, σ')) : Met l yJxf58ca_isNaN_12338 (.code yJxf58ca_isNaN_12338 cJxf58ca_isNaN_12338 1 (some .boolean) :: lw_g) ({ frames := 0, cells := 0, slots := 0, locals := 0 } : Room) (fPre Γ [.float y0] σ) (fQi Γ r σ') 0 0 (fAd Γ) := by
  refine fl_enter (own := RJxf58ca) hI (by decide) rfl (Nat.le_of_ble_eq_true rfl) ?_
  intro p e s m args below meth c ls C hl hP hS
  have hl : lv_has ls 1 [(0, .float y0)] := hl
  obtain ⟨H, hH⟩ : ∃ H, H = s.heap := ⟨_, rfl⟩
  obtain ⟨locs, hL⟩ : ∃ L : List Loc, L = [] := ⟨_, rfl⟩
  have hP : fH Γ σ H := by rw [hH]; exact hP
  have hS : va_S (fAd Γ) s.heap H locs := by rw [hH, hL]; exact hS
  suffices hw : W p l e ({ frames := 0, cells := 0, slots := 0, locals := 0 } : Room) s m args below meth c H locs 0 0 (MQ below (fQi Γ r σ') args s 0 0 (fAd Γ)) (F0 m 0 ls []) by rw [hH, hL] at hw; exact hw
  unfold f_Jxf58ca_isNaN_12338 at hf
  refine lv_fload_n C.1 C.2.1 (kd kJxf58ca_isNaN_12338_0 0 rfl) rfl (lv_at hl 0 rfl) ?_
  refine lv_fload_n C.1 C.2.1 (kd kJxf58ca_isNaN_12338_0 1 rfl) rfl (lv_at hl 0 rfl) ?_
  refine lv_fcmp C.1 C.2.1 (kd kJxf58ca_isNaN_12338_0 2 rfl) ?_
  refine lv_if_eq (tgt := 10) C.1 C.2.1 (kd kJxf58ca_isNaN_12338_0 3 rfl) (by decide) (fun q => ?_) (fun q => ?_)
  · have hf := fif_pos q hf
    refine lv_iconst (v := (0 : Int32)) C.1 C.2.1 (kd kJxf58ca_isNaN_12338_0 6 rfl) (by decide) ?_
    exact fl_zret C hP hS rfl hf (kd kJxf58ca_isNaN_12338_0 7 rfl)
  have hf := fif_neg q hf
  refine lv_iconst (v := (1 : Int32)) C.1 C.2.1 (kd kJxf58ca_isNaN_12338_0 4 rfl) (by decide) ?_
  refine lv_goto (tgt := 11) C.1 C.2.1 (kd kJxf58ca_isNaN_12338_0 5 rfl) (by decide) ?_
  exact fl_zret C hP hS rfl hf (kd kJxf58ca_isNaN_12338_0 7 rfl)
def f_Jxf58ca_floatToIntBits_5c35a (y0 : UInt32) (σ : fS) : Option (Int32 × fS) := fcall (f_Jxf58ca_isNaN_12338 y0 σ) (fun r1_ σ1 => (if r1_ = 0 then some ((y0.toInt32), σ1) else some ((2143289344 : Int32), σ1)))
set_option maxRecDepth 100000 in
set_option maxHeartbeats 4000000 in
theorem m_Jxf58ca_floatToIntBits_5c35a {Γ : fGm} (hI : fI Γ) (l : Launch) {y0 : UInt32} {σ : fS} {r : Int32} {σ' : fS} (hf : f_Jxf58ca_floatToIntBits_5c35a y0 σ = some (r, σ')) : Met l yJxf58ca_floatToIntBits_5c35a (.code yJxf58ca_floatToIntBits_5c35a cJxf58ca_floatToIntBits_5c35a 1 (some .int) :: lw_g) ({ frames := 1, cells := 0, slots := 0, locals := 40 } : Room) (fPre Γ [.float y0] σ) (fQi Γ r σ') 0 0 (fAd Γ) := by
  refine fl_enter (own := RJxf58ca) hI (by decide) rfl (Nat.le_of_ble_eq_true rfl) ?_
  intro p e s m args below meth c ls C hl hP hS
  have hl : lv_has ls 1 [(0, .float y0)] := hl
  obtain ⟨H, hH⟩ : ∃ H, H = s.heap := ⟨_, rfl⟩
  obtain ⟨locs, hL⟩ : ∃ L : List Loc, L = [] := ⟨_, rfl⟩
  have hP : fH Γ σ H := by rw [hH]; exact hP
  have hS : va_S (fAd Γ) s.heap H locs := by rw [hH, hL]; exact hS
  suffices hw : W p l e ({ frames := 1, cells := 0, slots := 0, locals := 40 } : Room) s m args below meth c H locs 0 0 (MQ below (fQi Γ r σ') args s 0 0 (fAd Γ)) (F0 m 0 ls []) by rw [hH, hL] at hw; exact hw
  unfold f_Jxf58ca_floatToIntBits_5c35a at hf
  refine lv_fload_n C.1 C.2.1 (kd kJxf58ca_floatToIntBits_5c35a_0 0 rfl) rfl (lv_at hl 0 rfl) ?_
  obtain ⟨r1_, σ1, hσ1, hf⟩ := fcall_some hf
  refine fl_i hS (fl_runS (As := [.float y0]) (rest := []) C hP (m_Jxf58ca_isNaN_12338 C.2.2.2.2.2.2.2.2 l  hσ1) (fgS tw_1226 tw_1227 tw_78 tw_1228) hs_Jxf58ca_isNaN_12338 ⟨rfl, rfl, Nat.le_of_ble_eq_true rfl, Nat.le_of_ble_eq_true rfl⟩ rfl hl.1 rfl (Nat.le_of_ble_eq_true rfl) (kd kJxf58ca_floatToIntBits_5c35a_0 1 rfl)) (fun H locs hP hS => ?_)
  refine lv_if_ne (tgt := 12) C.1 C.2.1 (kd kJxf58ca_floatToIntBits_5c35a_0 2 rfl) (by decide) (fun q => ?_) (fun q => ?_)
  · have hf := fif_neg q hf
    refine lv_ldc C.1 C.2.1 C.2.2.2.2.1 (C.2.2.2.2.2.1 _ tw_1232) (kd kJxf58ca_floatToIntBits_5c35a_0 6 rfl) ?_
    exact fl_iret C hP hS hf (kd kJxf58ca_floatToIntBits_5c35a_0 7 rfl)
  have hf := fif_pos q hf
  refine lv_fload_n C.1 C.2.1 (kd kJxf58ca_floatToIntBits_5c35a_0 3 rfl) rfl (lv_at hl 0 rfl) ?_
  refine vn_f2i C.1 C.2.1 (C.2.2.2.1.trans hl.1.symm) C.2.2.2.2.1 (C.2.2.2.2.2.1 _ tw_1229) (C.2.2.2.2.2.1 _ tw_1231) (C.2.2.2.2.2.1 _ tw_1230) (C.2.2.2.2.2.1 _ tw_78) (Nat.le_of_ble_eq_true rfl) (Nat.le_of_ble_eq_true rfl) (kd kJxf58ca_floatToIntBits_5c35a_0 4 rfl) ?_
  exact fl_iret C hP hS hf (kd kJxf58ca_floatToIntBits_5c35a_0 5 rfl)
end GM
end
section
-- end
theorem zz_probe : True := trivial
end
